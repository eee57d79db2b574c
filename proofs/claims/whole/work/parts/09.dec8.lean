theorem dX12_send_253 : decode cX12_send 253 = .ok (.aload_n 0, 1) := by decide +kernel
theorem dX12_send_254 : decode cX12_send 254 = .ok (.getfield 106, 3) := by decide +kernel
theorem dX12_send_257 : decode cX12_send 257 = .ok (.iload 8, 2) := by decide +kernel
theorem dX12_send_259 : decode cX12_send 259 = .ok (.aload_n 0, 1) := by decide +kernel
theorem dX12_send_260 : decode cX12_send 260 = .ok (.getfield 118, 3) := by decide +kernel
theorem dX12_send_263 : decode cX12_send 263 = .ok (.iload 8, 2) := by decide +kernel
theorem dX12_send_265 : decode cX12_send 265 = .ok (.iaload, 1) := by decide +kernel
theorem dX12_send_266 : decode cX12_send 266 = .ok (.iastore, 1) := by decide +kernel
theorem dX12_send_267 : decode cX12_send 267 = .ok (.iinc 8 1, 3) := by decide +kernel
theorem dX12_send_270 : decode cX12_send 270 = .ok (.goto (-24), 3) := by decide +kernel
theorem dX12_send_273 : decode cX12_send 273 = .ok (.aload_n 0, 1) := by decide +kernel
theorem dX12_send_274 : decode cX12_send 274 = .ok (.iload 4, 2) := by decide +kernel
theorem dX12_send_276 : decode cX12_send 276 = .ok (.putfield 256, 3) := by decide +kernel
theorem dX12_send_279 : decode cX12_send 279 = .ok (.aload_n 0, 1) := by decide +kernel
theorem dX12_send_280 : decode cX12_send 280 = .ok (.getfield 37, 3) := by decide +kernel
theorem dX12_send_283 : decode cX12_send 283 = .ok (.iconst 1, 1) := by decide +kernel
theorem dX12_send_284 : decode cX12_send 284 = .ok (.dup2, 1) := by decide +kernel
theorem dX12_send_285 : decode cX12_send 285 = .ok (.iaload, 1) := by decide +kernel
theorem dX12_send_286 : decode cX12_send 286 = .ok (.iload 7, 2) := by decide +kernel
theorem dX12_send_288 : decode cX12_send 288 = .ok (.iadd, 1) := by decide +kernel
theorem dX12_send_289 : decode cX12_send 289 = .ok (.iastore, 1) := by decide +kernel
theorem dX12_send_290 : decode cX12_send 290 = .ok (.aload_n 0, 1) := by decide +kernel
theorem dX12_send_291 : decode cX12_send 291 = .ok (.iload 4, 2) := by decide +kernel
theorem dX12_send_293 : decode cX12_send 293 = .ok (.invokevirtual 151, 3) := by decide +kernel
theorem dX12_send_296 : decode cX12_send 296 = .ok (.ireturn, 1) := by decide +kernel
theorem dX12_sent_0 : decode cX12_sent 0 = .ok (.iload_n 1, 1) := by decide +kernel
theorem dX12_sent_1 : decode cX12_sent 1 = .ok (.ifCond .ne 10, 3) := by decide +kernel
theorem dX12_sent_4 : decode cX12_sent 4 = .ok (.aload_n 0, 1) := by decide +kernel
theorem dX12_sent_5 : decode cX12_sent 5 = .ok (.getfield 274, 3) := by decide +kernel
theorem dX12_sent_8 : decode cX12_sent 8 = .ok (.goto 28, 3) := by decide +kernel
theorem dX12_sent_11 : decode cX12_sent 11 = .ok (.iload_n 1, 1) := by decide +kernel
theorem dX12_sent_12 : decode cX12_sent 12 = .ok (.iconst 1, 1) := by decide +kernel
theorem dX12_sent_13 : decode cX12_sent 13 = .ok (.if_icmp .ne 10, 3) := by decide +kernel
theorem dX12_sent_16 : decode cX12_sent 16 = .ok (.aload_n 0, 1) := by decide +kernel
theorem dX12_sent_17 : decode cX12_sent 17 = .ok (.getfield 277, 3) := by decide +kernel
theorem dX12_sent_20 : decode cX12_sent 20 = .ok (.goto 16, 3) := by decide +kernel
theorem dX12_sent_23 : decode cX12_sent 23 = .ok (.iload_n 1, 1) := by decide +kernel
theorem dX12_sent_24 : decode cX12_sent 24 = .ok (.iconst 2, 1) := by decide +kernel
theorem dX12_sent_25 : decode cX12_sent 25 = .ok (.if_icmp .ne 10, 3) := by decide +kernel
theorem dX12_sent_28 : decode cX12_sent 28 = .ok (.aload_n 0, 1) := by decide +kernel
theorem dX12_sent_29 : decode cX12_sent 29 = .ok (.getfield 280, 3) := by decide +kernel
theorem dX12_sent_32 : decode cX12_sent 32 = .ok (.goto 4, 3) := by decide +kernel
theorem dX12_sent_35 : decode cX12_sent 35 = .ok (.iconst (-1), 1) := by decide +kernel
theorem dX12_sent_36 : decode cX12_sent 36 = .ok (.ireturn, 1) := by decide +kernel
theorem dX12_list_0 : decode cX12_list 0 = .ok (.iload_n 1, 1) := by decide +kernel
theorem dX12_list_1 : decode cX12_list 1 = .ok (.iconst 0, 1) := by decide +kernel
theorem dX12_list_2 : decode cX12_list 2 = .ok (.aload_n 0, 1) := by decide +kernel
theorem dX12_list_3 : decode cX12_list 3 = .ok (.getfield 256, 3) := by decide +kernel
theorem dX12_list_6 : decode cX12_list 6 = .ok (.iconst 1, 1) := by decide +kernel
theorem dX12_list_7 : decode cX12_list 7 = .ok (.isub, 1) := by decide +kernel
theorem dX12_list_8 : decode cX12_list 8 = .ok (.invokestatic 145, 3) := by decide +kernel
theorem dX12_list_11 : decode cX12_list 11 = .ok (.ifCond .eq 12, 3) := by decide +kernel
theorem dX12_list_14 : decode cX12_list 14 = .ok (.aload_n 0, 1) := by decide +kernel
theorem dX12_list_15 : decode cX12_list 15 = .ok (.getfield 106, 3) := by decide +kernel
theorem dX12_list_18 : decode cX12_list 18 = .ok (.iload_n 1, 1) := by decide +kernel
theorem dX12_list_19 : decode cX12_list 19 = .ok (.iaload, 1) := by decide +kernel
theorem dX12_list_20 : decode cX12_list 20 = .ok (.goto 4, 3) := by decide +kernel
theorem dX12_list_23 : decode cX12_list 23 = .ok (.iconst (-1), 1) := by decide +kernel
theorem dX12_list_24 : decode cX12_list 24 = .ok (.ireturn, 1) := by decide +kernel
theorem dX12_price_0 : decode cX12_price 0 = .ok (.iload_n 1, 1) := by decide +kernel
theorem dX12_price_1 : decode cX12_price 1 = .ok (.iconst 0, 1) := by decide +kernel
theorem dX12_price_2 : decode cX12_price 2 = .ok (.iconst 2, 1) := by decide +kernel
theorem dX12_price_3 : decode cX12_price 3 = .ok (.invokestatic 145, 3) := by decide +kernel
theorem dX12_price_6 : decode cX12_price 6 = .ok (.ifCond .eq 14, 3) := by decide +kernel
theorem dX12_price_9 : decode cX12_price 9 = .ok (.iload_n 2, 1) := by decide +kernel
theorem dX12_price_10 : decode cX12_price 10 = .ok (.iconst 0, 1) := by decide +kernel
theorem dX12_price_11 : decode cX12_price 11 = .ok (.sipush 5000, 3) := by decide +kernel
theorem dX12_price_14 : decode cX12_price 14 = .ok (.invokestatic 145, 3) := by decide +kernel
theorem dX12_price_17 : decode cX12_price 17 = .ok (.ifCond .ne 9, 3) := by decide +kernel
theorem dX12_price_20 : decode cX12_price 20 = .ok (.aload_n 0, 1) := by decide +kernel
theorem dX12_price_21 : decode cX12_price 21 = .ok (.iconst (-1), 1) := by decide +kernel
theorem dX12_price_22 : decode cX12_price 22 = .ok (.invokevirtual 151, 3) := by decide +kernel
theorem dX12_price_25 : decode cX12_price 25 = .ok (.ireturn, 1) := by decide +kernel
theorem dX12_price_26 : decode cX12_price 26 = .ok (.aload_n 0, 1) := by decide +kernel
theorem dX12_price_27 : decode cX12_price 27 = .ok (.getfield 109, 3) := by decide +kernel
theorem dX12_price_30 : decode cX12_price 30 = .ok (.iload_n 1, 1) := by decide +kernel
theorem dX12_price_31 : decode cX12_price 31 = .ok (.iload_n 2, 1) := by decide +kernel
theorem dX12_price_32 : decode cX12_price 32 = .ok (.iastore, 1) := by decide +kernel
theorem dX12_price_33 : decode cX12_price 33 = .ok (.aload_n 0, 1) := by decide +kernel
theorem dX12_price_34 : decode cX12_price 34 = .ok (.iconst 0, 1) := by decide +kernel
theorem dX12_price_35 : decode cX12_price 35 = .ok (.invokevirtual 151, 3) := by decide +kernel
theorem dX12_price_38 : decode cX12_price 38 = .ok (.ireturn, 1) := by decide +kernel
theorem dX12_foresees_0 : decode cX12_foresees 0 = .ok (.iconst 0, 1) := by decide +kernel
theorem dX12_foresees_1 : decode cX12_foresees 1 = .ok (.istore_n 2, 1) := by decide +kernel
theorem dX12_foresees_2 : decode cX12_foresees 2 = .ok (.iload_n 2, 1) := by decide +kernel
theorem dX12_foresees_3 : decode cX12_foresees 3 = .ok (.aload_n 0, 1) := by decide +kernel
theorem dX12_foresees_4 : decode cX12_foresees 4 = .ok (.getfield 31, 3) := by decide +kernel
theorem dX12_foresees_7 : decode cX12_foresees 7 = .ok (.iconst 0, 1) := by decide +kernel
theorem dX12_foresees_8 : decode cX12_foresees 8 = .ok (.iaload, 1) := by decide +kernel
theorem dX12_foresees_9 : decode cX12_foresees 9 = .ok (.if_icmp .ge 25, 3) := by decide +kernel
theorem dX12_foresees_12 : decode cX12_foresees 12 = .ok (.aload_n 0, 1) := by decide +kernel
theorem dX12_foresees_13 : decode cX12_foresees 13 = .ok (.getfield 124, 3) := by decide +kernel
theorem dX12_foresees_16 : decode cX12_foresees 16 = .ok (.bipush 8, 2) := by decide +kernel
theorem dX12_foresees_18 : decode cX12_foresees 18 = .ok (.iload_n 1, 1) := by decide +kernel
theorem dX12_foresees_19 : decode cX12_foresees 19 = .ok (.imul, 1) := by decide +kernel
theorem dX12_foresees_20 : decode cX12_foresees 20 = .ok (.iload_n 2, 1) := by decide +kernel
theorem dX12_foresees_21 : decode cX12_foresees 21 = .ok (.iadd, 1) := by decide +kernel
theorem dX12_foresees_22 : decode cX12_foresees 22 = .ok (.aload_n 0, 1) := by decide +kernel
theorem dX12_foresees_23 : decode cX12_foresees 23 = .ok (.iload_n 2, 1) := by decide +kernel
theorem dX12_foresees_24 : decode cX12_foresees 24 = .ok (.invokevirtual 203, 3) := by decide +kernel
theorem dX12_foresees_27 : decode cX12_foresees 27 = .ok (.iastore, 1) := by decide +kernel
theorem dX12_foresees_28 : decode cX12_foresees 28 = .ok (.iinc 2 1, 3) := by decide +kernel
theorem dX12_foresees_31 : decode cX12_foresees 31 = .ok (.goto (-29), 3) := by decide +kernel
theorem dX12_foresees_34 : decode cX12_foresees 34 = .ok (.return_, 1) := by decide +kernel
theorem dX12_foretell_0 : decode cX12_foretell 0 = .ok (.iload_n 1, 1) := by decide +kernel
theorem dX12_foretell_1 : decode cX12_foretell 1 = .ok (.iconst 1, 1) := by decide +kernel
theorem dX12_foretell_2 : decode cX12_foretell 2 = .ok (.sipush 200, 3) := by decide +kernel
theorem dX12_foretell_5 : decode cX12_foretell 5 = .ok (.invokestatic 145, 3) := by decide +kernel
theorem dX12_foretell_8 : decode cX12_foretell 8 = .ok (.ifCond .eq 14, 3) := by decide +kernel
theorem dX12_foretell_11 : decode cX12_foretell 11 = .ok (.iload_n 2, 1) := by decide +kernel
theorem dX12_foretell_12 : decode cX12_foretell 12 = .ok (.iconst 0, 1) := by decide +kernel
theorem dX12_foretell_13 : decode cX12_foretell 13 = .ok (.sipush 199, 3) := by decide +kernel
theorem dX12_foretell_16 : decode cX12_foretell 16 = .ok (.invokestatic 145, 3) := by decide +kernel
theorem dX12_foretell_19 : decode cX12_foretell 19 = .ok (.ifCond .ne 9, 3) := by decide +kernel
theorem dX12_foretell_22 : decode cX12_foretell 22 = .ok (.aload_n 0, 1) := by decide +kernel
theorem dX12_foretell_23 : decode cX12_foretell 23 = .ok (.iconst (-1), 1) := by decide +kernel
theorem dX12_foretell_24 : decode cX12_foretell 24 = .ok (.invokevirtual 151, 3) := by decide +kernel
theorem dX12_foretell_27 : decode cX12_foretell 27 = .ok (.ireturn, 1) := by decide +kernel
theorem dX12_foretell_28 : decode cX12_foretell 28 = .ok (.sipush 199, 3) := by decide +kernel
theorem dX12_foretell_31 : decode cX12_foretell 31 = .ok (.aload_n 0, 1) := by decide +kernel
theorem dX12_foretell_32 : decode cX12_foretell 32 = .ok (.getfield 27, 3) := by decide +kernel
theorem dX12_foretell_35 : decode cX12_foretell 35 = .ok (.iconst 0, 1) := by decide +kernel
theorem dX12_foretell_36 : decode cX12_foretell 36 = .ok (.iaload, 1) := by decide +kernel
theorem dX12_foretell_37 : decode cX12_foretell 37 = .ok (.isub, 1) := by decide +kernel
theorem dX12_foretell_38 : decode cX12_foretell 38 = .ok (.iload_n 1, 1) := by decide +kernel
theorem dX12_foretell_39 : decode cX12_foretell 39 = .ok (.if_icmp .ge 16, 3) := by decide +kernel
theorem dX12_foretell_42 : decode cX12_foretell 42 = .ok (.sipush 199, 3) := by decide +kernel
theorem dX12_foretell_45 : decode cX12_foretell 45 = .ok (.aload_n 0, 1) := by decide +kernel
theorem dX12_foretell_46 : decode cX12_foretell 46 = .ok (.getfield 27, 3) := by decide +kernel
theorem dX12_foretell_49 : decode cX12_foretell 49 = .ok (.iconst 0, 1) := by decide +kernel
theorem dX12_foretell_50 : decode cX12_foretell 50 = .ok (.iaload, 1) := by decide +kernel
theorem dX12_foretell_51 : decode cX12_foretell 51 = .ok (.isub, 1) := by decide +kernel
theorem dX12_foretell_52 : decode cX12_foretell 52 = .ok (.goto 4, 3) := by decide +kernel
theorem dX12_foretell_55 : decode cX12_foretell 55 = .ok (.iload_n 1, 1) := by decide +kernel
theorem dX12_foretell_56 : decode cX12_foretell 56 = .ok (.istore_n 3, 1) := by decide +kernel
theorem dX12_foretell_57 : decode cX12_foretell 57 = .ok (.aload_n 0, 1) := by decide +kernel
theorem dX12_foretell_58 : decode cX12_foretell 58 = .ok (.iconst 0, 1) := by decide +kernel
theorem dX12_foretell_59 : decode cX12_foretell 59 = .ok (.iconst 5, 1) := by decide +kernel
theorem dX12_foretell_60 : decode cX12_foretell 60 = .ok (.invokevirtual 283, 3) := by decide +kernel
theorem dX12_foretell_63 : decode cX12_foretell 63 = .ok (.aload_n 0, 1) := by decide +kernel
theorem dX12_foretell_64 : decode cX12_foretell 64 = .ok (.iconst 1, 1) := by decide +kernel
theorem dX12_foretell_65 : decode cX12_foretell 65 = .ok (.putfield 287, 3) := by decide +kernel
theorem dX12_foretell_68 : decode cX12_foretell 68 = .ok (.aload_n 0, 1) := by decide +kernel
theorem dX12_foretell_69 : decode cX12_foretell 69 = .ok (.iload_n 3, 1) := by decide +kernel
theorem dX12_foretell_70 : decode cX12_foretell 70 = .ok (.putfield 290, 3) := by decide +kernel
theorem dX12_foretell_73 : decode cX12_foretell 73 = .ok (.aload_n 0, 1) := by decide +kernel
theorem dX12_foretell_74 : decode cX12_foretell 74 = .ok (.aload_n 0, 1) := by decide +kernel
theorem dX12_foretell_75 : decode cX12_foretell 75 = .ok (.getfield 31, 3) := by decide +kernel
theorem dX12_foretell_78 : decode cX12_foretell 78 = .ok (.iconst 0, 1) := by decide +kernel
theorem dX12_foretell_79 : decode cX12_foretell 79 = .ok (.iaload, 1) := by decide +kernel
theorem dX12_foretell_80 : decode cX12_foretell 80 = .ok (.putfield 293, 3) := by decide +kernel
theorem dX12_foretell_83 : decode cX12_foretell 83 = .ok (.aload_n 0, 1) := by decide +kernel
theorem dX12_foretell_84 : decode cX12_foretell 84 = .ok (.aload_n 0, 1) := by decide +kernel
theorem dX12_foretell_85 : decode cX12_foretell 85 = .ok (.invokevirtual 296, 3) := by decide +kernel
theorem dX12_foretell_88 : decode cX12_foretell 88 = .ok (.ifCond .ne 14, 3) := by decide +kernel
theorem dX12_foretell_91 : decode cX12_foretell 91 = .ok (.aload_n 0, 1) := by decide +kernel
theorem dX12_foretell_92 : decode cX12_foretell 92 = .ok (.getfield 27, 3) := by decide +kernel
theorem dX12_foretell_95 : decode cX12_foretell 95 = .ok (.iconst 0, 1) := by decide +kernel
theorem dX12_foretell_96 : decode cX12_foretell 96 = .ok (.iaload, 1) := by decide +kernel
theorem dX12_foretell_97 : decode cX12_foretell 97 = .ok (.iconst 1, 1) := by decide +kernel
theorem dX12_foretell_98 : decode cX12_foretell 98 = .ok (.isub, 1) := by decide +kernel
theorem dX12_foretell_99 : decode cX12_foretell 99 = .ok (.goto 5, 3) := by decide +kernel
theorem dX12_foretell_102 : decode cX12_foretell 102 = .ok (.bipush (-2), 2) := by decide +kernel
theorem dX12_foretell_104 : decode cX12_foretell 104 = .ok (.putfield 121, 3) := by decide +kernel
theorem dX12_foretell_107 : decode cX12_foretell 107 = .ok (.aload_n 0, 1) := by decide +kernel
theorem dX12_foretell_108 : decode cX12_foretell 108 = .ok (.iconst 0, 1) := by decide +kernel
theorem dX12_foretell_109 : decode cX12_foretell 109 = .ok (.invokevirtual 300, 3) := by decide +kernel
theorem dX12_foretell_112 : decode cX12_foretell 112 = .ok (.iconst 1, 1) := by decide +kernel
theorem dX12_foretell_113 : decode cX12_foretell 113 = .ok (.istore 4, 2) := by decide +kernel
theorem dX12_foretell_115 : decode cX12_foretell 115 = .ok (.iload 4, 2) := by decide +kernel
theorem dX12_foretell_117 : decode cX12_foretell 117 = .ok (.iload_n 3, 1) := by decide +kernel
theorem dX12_foretell_118 : decode cX12_foretell 118 = .ok (.if_icmp .gt 65, 3) := by decide +kernel
theorem dX12_foretell_121 : decode cX12_foretell 121 = .ok (.aload_n 0, 1) := by decide +kernel
theorem dX12_foretell_122 : decode cX12_foretell 122 = .ok (.getfield 27, 3) := by decide +kernel
theorem dX12_foretell_125 : decode cX12_foretell 125 = .ok (.iconst 0, 1) := by decide +kernel
theorem dX12_foretell_126 : decode cX12_foretell 126 = .ok (.iaload, 1) := by decide +kernel
theorem dX12_foretell_127 : decode cX12_foretell 127 = .ok (.istore 5, 2) := by decide +kernel
theorem dX12_foretell_129 : decode cX12_foretell 129 = .ok (.aload_n 0, 1) := by decide +kernel
theorem dX12_foretell_130 : decode cX12_foretell 130 = .ok (.iload 5, 2) := by decide +kernel
theorem dX12_foretell_132 : decode cX12_foretell 132 = .ok (.iload_n 2, 1) := by decide +kernel
theorem dX12_foretell_133 : decode cX12_foretell 133 = .ok (.if_icmp .le 10, 3) := by decide +kernel
theorem dX12_foretell_136 : decode cX12_foretell 136 = .ok (.iload 5, 2) := by decide +kernel
theorem dX12_foretell_138 : decode cX12_foretell 138 = .ok (.iload_n 2, 1) := by decide +kernel
theorem dX12_foretell_139 : decode cX12_foretell 139 = .ok (.isub, 1) := by decide +kernel
theorem dX12_foretell_140 : decode cX12_foretell 140 = .ok (.goto 4, 3) := by decide +kernel
theorem dX12_foretell_143 : decode cX12_foretell 143 = .ok (.iconst 0, 1) := by decide +kernel
theorem dX12_foretell_144 : decode cX12_foretell 144 = .ok (.iconst 0, 1) := by decide +kernel
theorem dX12_foretell_145 : decode cX12_foretell 145 = .ok (.invokevirtual 249, 3) := by decide +kernel
theorem dX12_foretell_148 : decode cX12_foretell 148 = .ok (.pop, 1) := by decide +kernel
theorem dX12_foretell_149 : decode cX12_foretell 149 = .ok (.aload_n 0, 1) := by decide +kernel
theorem dX12_foretell_150 : decode cX12_foretell 150 = .ok (.iload 4, 2) := by decide +kernel
theorem dX12_foretell_152 : decode cX12_foretell 152 = .ok (.invokevirtual 300, 3) := by decide +kernel
theorem dX12_foretell_155 : decode cX12_foretell 155 = .ok (.aload_n 0, 1) := by decide +kernel
theorem dX12_foretell_156 : decode cX12_foretell 156 = .ok (.getfield 121, 3) := by decide +kernel
theorem dX12_foretell_159 : decode cX12_foretell 159 = .ok (.bipush (-2), 2) := by decide +kernel
theorem dX12_foretell_161 : decode cX12_foretell 161 = .ok (.if_icmp .ne 16, 3) := by decide +kernel
theorem dX12_foretell_164 : decode cX12_foretell 164 = .ok (.aload_n 0, 1) := by decide +kernel
theorem dX12_foretell_165 : decode cX12_foretell 165 = .ok (.invokevirtual 296, 3) := by decide +kernel
theorem dX12_foretell_168 : decode cX12_foretell 168 = .ok (.ifCond .ne 9, 3) := by decide +kernel
theorem dX12_foretell_171 : decode cX12_foretell 171 = .ok (.aload_n 0, 1) := by decide +kernel
theorem dX12_foretell_172 : decode cX12_foretell 172 = .ok (.iload 5, 2) := by decide +kernel
theorem dX12_foretell_174 : decode cX12_foretell 174 = .ok (.putfield 121, 3) := by decide +kernel
theorem dX12_foretell_177 : decode cX12_foretell 177 = .ok (.iinc 4 1, 3) := by decide +kernel
theorem dX12_foretell_180 : decode cX12_foretell 180 = .ok (.goto (-65), 3) := by decide +kernel
theorem dX12_foretell_183 : decode cX12_foretell 183 = .ok (.aload_n 0, 1) := by decide +kernel
theorem dX12_foretell_184 : decode cX12_foretell 184 = .ok (.iconst 5, 1) := by decide +kernel
theorem dX12_foretell_185 : decode cX12_foretell 185 = .ok (.iconst 0, 1) := by decide +kernel
theorem dX12_foretell_186 : decode cX12_foretell 186 = .ok (.invokevirtual 283, 3) := by decide +kernel
theorem dX12_foretell_189 : decode cX12_foretell 189 = .ok (.aload_n 0, 1) := by decide +kernel
theorem dX12_foretell_190 : decode cX12_foretell 190 = .ok (.iload_n 3, 1) := by decide +kernel
theorem dX12_foretell_191 : decode cX12_foretell 191 = .ok (.invokevirtual 151, 3) := by decide +kernel
theorem dX12_foretell_194 : decode cX12_foretell 194 = .ok (.ireturn, 1) := by decide +kernel
theorem dX12_allBlocks_0 : decode cX12_allBlocks 0 = .ok (.iconst 0, 1) := by decide +kernel
theorem dX12_allBlocks_1 : decode cX12_allBlocks 1 = .ok (.istore_n 1, 1) := by decide +kernel
theorem dX12_allBlocks_2 : decode cX12_allBlocks 2 = .ok (.iconst 0, 1) := by decide +kernel
theorem dX12_allBlocks_3 : decode cX12_allBlocks 3 = .ok (.istore_n 2, 1) := by decide +kernel
theorem dX12_allBlocks_4 : decode cX12_allBlocks 4 = .ok (.iload_n 2, 1) := by decide +kernel
theorem dX12_allBlocks_5 : decode cX12_allBlocks 5 = .ok (.aload_n 0, 1) := by decide +kernel
theorem dX12_allBlocks_6 : decode cX12_allBlocks 6 = .ok (.getfield 34, 3) := by decide +kernel
theorem dX12_allBlocks_9 : decode cX12_allBlocks 9 = .ok (.iconst 0, 1) := by decide +kernel
theorem dX12_allBlocks_10 : decode cX12_allBlocks 10 = .ok (.iaload, 1) := by decide +kernel
theorem dX12_allBlocks_11 : decode cX12_allBlocks 11 = .ok (.if_icmp .ge 26, 3) := by decide +kernel
theorem dX12_allBlocks_14 : decode cX12_allBlocks 14 = .ok (.iload_n 1, 1) := by decide +kernel
theorem dX12_allBlocks_15 : decode cX12_allBlocks 15 = .ok (.aload_n 0, 1) := by decide +kernel
theorem dX12_allBlocks_16 : decode cX12_allBlocks 16 = .ok (.getfield 73, 3) := by decide +kernel
theorem dX12_allBlocks_19 : decode cX12_allBlocks 19 = .ok (.iload_n 2, 1) := by decide +kernel
theorem dX12_allBlocks_20 : decode cX12_allBlocks 20 = .ok (.iaload, 1) := by decide +kernel
theorem dX12_allBlocks_21 : decode cX12_allBlocks 21 = .ok (.ifCond .lt 7, 3) := by decide +kernel
theorem dX12_allBlocks_24 : decode cX12_allBlocks 24 = .ok (.iconst 1, 1) := by decide +kernel
theorem dX12_allBlocks_25 : decode cX12_allBlocks 25 = .ok (.goto 4, 3) := by decide +kernel
theorem dX12_allBlocks_28 : decode cX12_allBlocks 28 = .ok (.iconst 0, 1) := by decide +kernel
theorem dX12_allBlocks_29 : decode cX12_allBlocks 29 = .ok (.iadd, 1) := by decide +kernel
theorem dX12_allBlocks_30 : decode cX12_allBlocks 30 = .ok (.istore_n 1, 1) := by decide +kernel
theorem dX12_allBlocks_31 : decode cX12_allBlocks 31 = .ok (.iinc 2 1, 3) := by decide +kernel
theorem dX12_allBlocks_34 : decode cX12_allBlocks 34 = .ok (.goto (-30), 3) := by decide +kernel
theorem dX12_allBlocks_37 : decode cX12_allBlocks 37 = .ok (.iload_n 1, 1) := by decide +kernel
theorem dX12_allBlocks_38 : decode cX12_allBlocks 38 = .ok (.ireturn, 1) := by decide +kernel
theorem dX12_foretold_0 : decode cX12_foretold 0 = .ok (.aload_n 0, 1) := by decide +kernel
theorem dX12_foretold_1 : decode cX12_foretold 1 = .ok (.getfield 287, 3) := by decide +kernel
theorem dX12_foretold_4 : decode cX12_foretold 4 = .ok (.ifCond .eq 29, 3) := by decide +kernel
theorem dX12_foretold_7 : decode cX12_foretold 7 = .ok (.iload_n 2, 1) := by decide +kernel
theorem dX12_foretold_8 : decode cX12_foretold 8 = .ok (.iconst 0, 1) := by decide +kernel
theorem dX12_foretold_9 : decode cX12_foretold 9 = .ok (.aload_n 0, 1) := by decide +kernel
theorem dX12_foretold_10 : decode cX12_foretold 10 = .ok (.getfield 290, 3) := by decide +kernel
theorem dX12_foretold_13 : decode cX12_foretold 13 = .ok (.invokestatic 145, 3) := by decide +kernel
theorem dX12_foretold_16 : decode cX12_foretold 16 = .ok (.ifCond .eq 17, 3) := by decide +kernel
theorem dX12_foretold_19 : decode cX12_foretold 19 = .ok (.iload_n 1, 1) := by decide +kernel
theorem dX12_foretold_20 : decode cX12_foretold 20 = .ok (.iconst (-1), 1) := by decide +kernel
theorem dX12_foretold_21 : decode cX12_foretold 21 = .ok (.aload_n 0, 1) := by decide +kernel
theorem dX12_foretold_22 : decode cX12_foretold 22 = .ok (.getfield 293, 3) := by decide +kernel
theorem dX12_foretold_25 : decode cX12_foretold 25 = .ok (.iconst 1, 1) := by decide +kernel
theorem dX12_foretold_26 : decode cX12_foretold 26 = .ok (.isub, 1) := by decide +kernel
theorem dX12_foretold_27 : decode cX12_foretold 27 = .ok (.invokestatic 145, 3) := by decide +kernel
theorem dX12_foretold_30 : decode cX12_foretold 30 = .ok (.ifCond .ne 5, 3) := by decide +kernel
theorem dX12_foretold_33 : decode cX12_foretold 33 = .ok (.iconst (-1), 1) := by decide +kernel
theorem dX12_foretold_34 : decode cX12_foretold 34 = .ok (.ireturn, 1) := by decide +kernel
theorem dX12_foretold_35 : decode cX12_foretold 35 = .ok (.iload_n 1, 1) := by decide +kernel
theorem dX12_foretold_36 : decode cX12_foretold 36 = .ok (.ifCond .lt 15, 3) := by decide +kernel
theorem dX12_foretold_39 : decode cX12_foretold 39 = .ok (.aload_n 0, 1) := by decide +kernel
theorem dX12_foretold_40 : decode cX12_foretold 40 = .ok (.getfield 124, 3) := by decide +kernel
theorem dX12_foretold_43 : decode cX12_foretold 43 = .ok (.bipush 8, 2) := by decide +kernel
theorem dX12_foretold_45 : decode cX12_foretold 45 = .ok (.iload_n 2, 1) := by decide +kernel
theorem dX12_foretold_46 : decode cX12_foretold 46 = .ok (.imul, 1) := by decide +kernel
theorem dX12_foretold_47 : decode cX12_foretold 47 = .ok (.iload_n 1, 1) := by decide +kernel
theorem dX12_foretold_48 : decode cX12_foretold 48 = .ok (.iadd, 1) := by decide +kernel
theorem dX12_foretold_49 : decode cX12_foretold 49 = .ok (.iaload, 1) := by decide +kernel
theorem dX12_foretold_50 : decode cX12_foretold 50 = .ok (.ireturn, 1) := by decide +kernel
theorem dX12_foretold_51 : decode cX12_foretold 51 = .ok (.iconst 0, 1) := by decide +kernel
theorem dX12_foretold_52 : decode cX12_foretold 52 = .ok (.istore_n 3, 1) := by decide +kernel
theorem dX12_foretold_53 : decode cX12_foretold 53 = .ok (.iconst 0, 1) := by decide +kernel
theorem dX12_foretold_54 : decode cX12_foretold 54 = .ok (.istore 4, 2) := by decide +kernel
theorem dX12_foretold_56 : decode cX12_foretold 56 = .ok (.iload 4, 2) := by decide +kernel
theorem dX12_foretold_58 : decode cX12_foretold 58 = .ok (.aload_n 0, 1) := by decide +kernel
theorem dX12_foretold_59 : decode cX12_foretold 59 = .ok (.getfield 293, 3) := by decide +kernel
theorem dX12_foretold_62 : decode cX12_foretold 62 = .ok (.if_icmp .ge 24, 3) := by decide +kernel
theorem dX12_foretold_65 : decode cX12_foretold 65 = .ok (.iload_n 3, 1) := by decide +kernel
theorem dX12_foretold_66 : decode cX12_foretold 66 = .ok (.aload_n 0, 1) := by decide +kernel
theorem dX12_foretold_67 : decode cX12_foretold 67 = .ok (.getfield 124, 3) := by decide +kernel
theorem dX12_foretold_70 : decode cX12_foretold 70 = .ok (.bipush 8, 2) := by decide +kernel
theorem dX12_foretold_72 : decode cX12_foretold 72 = .ok (.iload_n 2, 1) := by decide +kernel
theorem dX12_foretold_73 : decode cX12_foretold 73 = .ok (.imul, 1) := by decide +kernel
theorem dX12_foretold_74 : decode cX12_foretold 74 = .ok (.iload 4, 2) := by decide +kernel
theorem dX12_foretold_76 : decode cX12_foretold 76 = .ok (.iadd, 1) := by decide +kernel
theorem dX12_foretold_77 : decode cX12_foretold 77 = .ok (.iaload, 1) := by decide +kernel
theorem dX12_foretold_78 : decode cX12_foretold 78 = .ok (.iadd, 1) := by decide +kernel
theorem dX12_foretold_79 : decode cX12_foretold 79 = .ok (.istore_n 3, 1) := by decide +kernel
theorem dX12_foretold_80 : decode cX12_foretold 80 = .ok (.iinc 4 1, 3) := by decide +kernel
theorem dX12_foretold_83 : decode cX12_foretold 83 = .ok (.goto (-27), 3) := by decide +kernel
theorem dX12_foretold_86 : decode cX12_foretold 86 = .ok (.iload_n 3, 1) := by decide +kernel
theorem dX12_foretold_87 : decode cX12_foretold 87 = .ok (.ireturn, 1) := by decide +kernel
theorem dX12_last_0 : decode cX12_last 0 = .ok (.aload_n 0, 1) := by decide +kernel
theorem dX12_last_1 : decode cX12_last 1 = .ok (.getfield 287, 3) := by decide +kernel
theorem dX12_last_4 : decode cX12_last 4 = .ok (.ifCond .eq 10, 3) := by decide +kernel
theorem dX12_last_7 : decode cX12_last 7 = .ok (.aload_n 0, 1) := by decide +kernel
theorem dX12_last_8 : decode cX12_last 8 = .ok (.getfield 121, 3) := by decide +kernel
theorem dX12_last_11 : decode cX12_last 11 = .ok (.goto 4, 3) := by decide +kernel
theorem dX12_last_14 : decode cX12_last 14 = .ok (.iconst (-1), 1) := by decide +kernel
theorem dX12_last_15 : decode cX12_last 15 = .ok (.ireturn, 1) := by decide +kernel
theorem dX12_image_0 : decode cX12_image 0 = .ok (.iload_n 1, 1) := by decide +kernel
theorem dX12_image_1 : decode cX12_image 1 = .ok (.iconst 0, 1) := by decide +kernel
theorem dX12_image_2 : decode cX12_image 2 = .ok (.iconst 3, 1) := by decide +kernel
theorem dX12_image_3 : decode cX12_image 3 = .ok (.invokestatic 145, 3) := by decide +kernel
theorem dX12_image_6 : decode cX12_image 6 = .ok (.ifCond .ne 9, 3) := by decide +kernel
theorem dX12_image_9 : decode cX12_image 9 = .ok (.aload_n 0, 1) := by decide +kernel
theorem dX12_image_10 : decode cX12_image 10 = .ok (.iconst (-1), 1) := by decide +kernel
theorem dX12_image_11 : decode cX12_image 11 = .ok (.invokevirtual 151, 3) := by decide +kernel
theorem dX12_image_14 : decode cX12_image 14 = .ok (.ireturn, 1) := by decide +kernel
theorem dX12_image_15 : decode cX12_image 15 = .ok (.aload_n 0, 1) := by decide +kernel
theorem dX12_image_16 : decode cX12_image 16 = .ok (.iconst 0, 1) := by decide +kernel
theorem dX12_image_17 : decode cX12_image 17 = .ok (.iconst 1, 1) := by decide +kernel
theorem dX12_image_18 : decode cX12_image 18 = .ok (.iload_n 1, 1) := by decide +kernel
theorem dX12_image_19 : decode cX12_image 19 = .ok (.iadd, 1) := by decide +kernel
theorem dX12_image_20 : decode cX12_image 20 = .ok (.invokevirtual 283, 3) := by decide +kernel
theorem dX12_image_23 : decode cX12_image 23 = .ok (.aload_n 0, 1) := by decide +kernel
theorem dX12_image_24 : decode cX12_image 24 = .ok (.getfield 85, 3) := by decide +kernel
theorem dX12_image_27 : decode cX12_image 27 = .ok (.iload_n 1, 1) := by decide +kernel
theorem dX12_image_28 : decode cX12_image 28 = .ok (.iconst 1, 1) := by decide +kernel
theorem dX12_image_29 : decode cX12_image 29 = .ok (.bastore, 1) := by decide +kernel
theorem dX12_image_30 : decode cX12_image 30 = .ok (.aload_n 0, 1) := by decide +kernel
theorem dX12_image_31 : decode cX12_image 31 = .ok (.iconst 0, 1) := by decide +kernel
theorem dX12_image_32 : decode cX12_image 32 = .ok (.invokevirtual 151, 3) := by decide +kernel
theorem dX12_image_35 : decode cX12_image 35 = .ok (.ireturn, 1) := by decide +kernel
theorem dX12_back_0 : decode cX12_back 0 = .ok (.iload_n 1, 1) := by decide +kernel
theorem dX12_back_1 : decode cX12_back 1 = .ok (.iconst 0, 1) := by decide +kernel
theorem dX12_back_2 : decode cX12_back 2 = .ok (.iconst 3, 1) := by decide +kernel
theorem dX12_back_3 : decode cX12_back 3 = .ok (.invokestatic 145, 3) := by decide +kernel
theorem dX12_back_6 : decode cX12_back 6 = .ok (.ifCond .ne 9, 3) := by decide +kernel
theorem dX12_back_9 : decode cX12_back 9 = .ok (.aload_n 0, 1) := by decide +kernel
theorem dX12_back_10 : decode cX12_back 10 = .ok (.iconst (-1), 1) := by decide +kernel
theorem dX12_back_11 : decode cX12_back 11 = .ok (.invokevirtual 151, 3) := by decide +kernel
theorem dX12_back_14 : decode cX12_back 14 = .ok (.ireturn, 1) := by decide +kernel
theorem dX12_back_15 : decode cX12_back 15 = .ok (.aload_n 0, 1) := by decide +kernel
theorem dX12_back_16 : decode cX12_back 16 = .ok (.getfield 85, 3) := by decide +kernel
theorem dX12_back_19 : decode cX12_back 19 = .ok (.iload_n 1, 1) := by decide +kernel
theorem dX12_back_20 : decode cX12_back 20 = .ok (.baload, 1) := by decide +kernel
theorem dX12_back_21 : decode cX12_back 21 = .ok (.ifCond .ne 10, 3) := by decide +kernel
theorem dX12_back_24 : decode cX12_back 24 = .ok (.aload_n 0, 1) := by decide +kernel
theorem dX12_back_25 : decode cX12_back 25 = .ok (.bipush (-2), 2) := by decide +kernel
theorem dX12_back_27 : decode cX12_back 27 = .ok (.invokevirtual 151, 3) := by decide +kernel
theorem dX12_back_30 : decode cX12_back 30 = .ok (.ireturn, 1) := by decide +kernel
theorem dX12_back_31 : decode cX12_back 31 = .ok (.aload_n 0, 1) := by decide +kernel
theorem dX12_back_32 : decode cX12_back 32 = .ok (.iconst 1, 1) := by decide +kernel
theorem dX12_back_33 : decode cX12_back 33 = .ok (.iload_n 1, 1) := by decide +kernel
theorem dX12_back_34 : decode cX12_back 34 = .ok (.iadd, 1) := by decide +kernel
theorem dX12_back_35 : decode cX12_back 35 = .ok (.iconst 0, 1) := by decide +kernel
theorem dX12_back_36 : decode cX12_back 36 = .ok (.invokevirtual 283, 3) := by decide +kernel
theorem dX12_back_39 : decode cX12_back 39 = .ok (.aload_n 0, 1) := by decide +kernel
theorem dX12_back_40 : decode cX12_back 40 = .ok (.iconst 0, 1) := by decide +kernel
theorem dX12_back_41 : decode cX12_back 41 = .ok (.putfield 245, 3) := by decide +kernel
theorem dX12_back_44 : decode cX12_back 44 = .ok (.aload_n 0, 1) := by decide +kernel
theorem dX12_back_45 : decode cX12_back 45 = .ok (.iconst 0, 1) := by decide +kernel
theorem dX12_back_46 : decode cX12_back 46 = .ok (.putfield 228, 3) := by decide +kernel
theorem dX12_back_49 : decode cX12_back 49 = .ok (.aload_n 0, 1) := by decide +kernel
theorem dX12_back_50 : decode cX12_back 50 = .ok (.iconst 0, 1) := by decide +kernel
theorem dX12_back_51 : decode cX12_back 51 = .ok (.invokevirtual 151, 3) := by decide +kernel
theorem dX12_back_54 : decode cX12_back 54 = .ok (.ireturn, 1) := by decide +kernel
theorem dX12_heap_0 : decode cX12_heap 0 = .ok (.iload_n 1, 1) := by decide +kernel
theorem dX12_heap_1 : decode cX12_heap 1 = .ok (.iconst 0, 1) := by decide +kernel
theorem dX12_heap_2 : decode cX12_heap 2 = .ok (.iconst 2, 1) := by decide +kernel
theorem dX12_heap_3 : decode cX12_heap 3 = .ok (.invokestatic 145, 3) := by decide +kernel
theorem dX12_heap_6 : decode cX12_heap 6 = .ok (.ifCond .eq 15, 3) := by decide +kernel
theorem dX12_heap_9 : decode cX12_heap 9 = .ok (.iload_n 2, 1) := by decide +kernel
theorem dX12_heap_10 : decode cX12_heap 10 = .ok (.sipush 1000, 3) := by decide +kernel
theorem dX12_heap_13 : decode cX12_heap 13 = .ok (.ldc 159, 2) := by decide +kernel
theorem dX12_heap_15 : decode cX12_heap 15 = .ok (.invokestatic 145, 3) := by decide +kernel
theorem dX12_heap_18 : decode cX12_heap 18 = .ok (.ifCond .ne 9, 3) := by decide +kernel
theorem dX12_heap_21 : decode cX12_heap 21 = .ok (.aload_n 0, 1) := by decide +kernel
theorem dX12_heap_22 : decode cX12_heap 22 = .ok (.iconst (-1), 1) := by decide +kernel
theorem dX12_heap_23 : decode cX12_heap 23 = .ok (.invokevirtual 151, 3) := by decide +kernel
theorem dX12_heap_26 : decode cX12_heap 26 = .ok (.ireturn, 1) := by decide +kernel
theorem dX12_heap_27 : decode cX12_heap 27 = .ok (.aload_n 0, 1) := by decide +kernel
theorem dX12_heap_28 : decode cX12_heap 28 = .ok (.getfield 303, 3) := by decide +kernel
theorem dX12_heap_31 : decode cX12_heap 31 = .ok (.bipush 30, 2) := by decide +kernel
theorem dX12_heap_33 : decode cX12_heap 33 = .ok (.if_icmp .ne 10, 3) := by decide +kernel
theorem dX12_heap_36 : decode cX12_heap 36 = .ok (.aload_n 0, 1) := by decide +kernel
theorem dX12_heap_37 : decode cX12_heap 37 = .ok (.bipush (-6), 2) := by decide +kernel
theorem dX12_heap_39 : decode cX12_heap 39 = .ok (.invokevirtual 151, 3) := by decide +kernel
theorem dX12_heap_42 : decode cX12_heap 42 = .ok (.ireturn, 1) := by decide +kernel
theorem dX12_heap_43 : decode cX12_heap 43 = .ok (.aload_n 0, 1) := by decide +kernel
theorem dX12_heap_44 : decode cX12_heap 44 = .ok (.getfield 127, 3) := by decide +kernel
theorem dX12_heap_47 : decode cX12_heap 47 = .ok (.aload_n 0, 1) := by decide +kernel
theorem dX12_heap_48 : decode cX12_heap 48 = .ok (.getfield 303, 3) := by decide +kernel
theorem dX12_heap_51 : decode cX12_heap 51 = .ok (.iload_n 1, 1) := by decide +kernel
theorem dX12_heap_52 : decode cX12_heap 52 = .ok (.iastore, 1) := by decide +kernel
theorem dX12_heap_53 : decode cX12_heap 53 = .ok (.aload_n 0, 1) := by decide +kernel
theorem dX12_heap_54 : decode cX12_heap 54 = .ok (.getfield 130, 3) := by decide +kernel
theorem dX12_heap_57 : decode cX12_heap 57 = .ok (.aload_n 0, 1) := by decide +kernel
theorem dX12_heap_58 : decode cX12_heap 58 = .ok (.getfield 303, 3) := by decide +kernel
theorem dX12_heap_61 : decode cX12_heap 61 = .ok (.iload_n 2, 1) := by decide +kernel
theorem dX12_heap_62 : decode cX12_heap 62 = .ok (.iastore, 1) := by decide +kernel
theorem dX12_heap_63 : decode cX12_heap 63 = .ok (.aload_n 0, 1) := by decide +kernel
theorem dX12_heap_64 : decode cX12_heap 64 = .ok (.dup, 1) := by decide +kernel
theorem dX12_heap_65 : decode cX12_heap 65 = .ok (.getfield 303, 3) := by decide +kernel
theorem dX12_heap_68 : decode cX12_heap 68 = .ok (.iconst 1, 1) := by decide +kernel
theorem dX12_heap_69 : decode cX12_heap 69 = .ok (.iadd, 1) := by decide +kernel
theorem dX12_heap_70 : decode cX12_heap 70 = .ok (.putfield 303, 3) := by decide +kernel
theorem dX12_heap_73 : decode cX12_heap 73 = .ok (.aload_n 0, 1) := by decide +kernel
theorem dX12_heap_74 : decode cX12_heap 74 = .ok (.aload_n 0, 1) := by decide +kernel
theorem dX12_heap_75 : decode cX12_heap 75 = .ok (.getfield 303, 3) := by decide +kernel
theorem dX12_heap_78 : decode cX12_heap 78 = .ok (.invokevirtual 151, 3) := by decide +kernel
theorem dX12_heap_81 : decode cX12_heap 81 = .ok (.ireturn, 1) := by decide +kernel
theorem dX12_isReady_0 : decode cX12_isReady 0 = .ok (.aload_n 0, 1) := by decide +kernel
theorem dX12_isReady_1 : decode cX12_isReady 1 = .ok (.getfield 303, 3) := by decide +kernel
theorem dX12_isReady_4 : decode cX12_isReady 4 = .ok (.ifCond .le 7, 3) := by decide +kernel
theorem dX12_isReady_7 : decode cX12_isReady 7 = .ok (.iconst 1, 1) := by decide +kernel
theorem dX12_isReady_8 : decode cX12_isReady 8 = .ok (.goto 4, 3) := by decide +kernel
theorem dX12_isReady_11 : decode cX12_isReady 11 = .ok (.iconst 0, 1) := by decide +kernel
theorem dX12_isReady_12 : decode cX12_isReady 12 = .ok (.istore_n 2, 1) := by decide +kernel
theorem dX12_isReady_13 : decode cX12_isReady 13 = .ok (.iconst 0, 1) := by decide +kernel
theorem dX12_isReady_14 : decode cX12_isReady 14 = .ok (.istore_n 3, 1) := by decide +kernel
theorem dX12_isReady_15 : decode cX12_isReady 15 = .ok (.iload_n 3, 1) := by decide +kernel
theorem dX12_isReady_16 : decode cX12_isReady 16 = .ok (.aload_n 0, 1) := by decide +kernel
theorem dX12_isReady_17 : decode cX12_isReady 17 = .ok (.iload_n 1, 1) := by decide +kernel
theorem dX12_isReady_18 : decode cX12_isReady 18 = .ok (.invokevirtual 160, 3) := by decide +kernel
theorem dX12_isReady_21 : decode cX12_isReady 21 = .ok (.if_icmp .ge 37, 3) := by decide +kernel
theorem dX12_isReady_24 : decode cX12_isReady 24 = .ok (.iload_n 2, 1) := by decide +kernel
theorem dX12_isReady_25 : decode cX12_isReady 25 = .ok (.ifCond .eq 25, 3) := by decide +kernel
theorem dX12_isReady_28 : decode cX12_isReady 28 = .ok (.aload_n 0, 1) := by decide +kernel
theorem dX12_isReady_29 : decode cX12_isReady 29 = .ok (.iload_n 1, 1) := by decide +kernel
theorem dX12_isReady_30 : decode cX12_isReady 30 = .ok (.iload_n 3, 1) := by decide +kernel
theorem dX12_isReady_31 : decode cX12_isReady 31 = .ok (.invokevirtual 215, 3) := by decide +kernel
theorem dX12_isReady_34 : decode cX12_isReady 34 = .ok (.ifCond .eq 16, 3) := by decide +kernel
theorem dX12_isReady_37 : decode cX12_isReady 37 = .ok (.aload_n 0, 1) := by decide +kernel
theorem dX12_isReady_38 : decode cX12_isReady 38 = .ok (.iload_n 1, 1) := by decide +kernel
theorem dX12_isReady_39 : decode cX12_isReady 39 = .ok (.iload_n 3, 1) := by decide +kernel
theorem dX12_isReady_40 : decode cX12_isReady 40 = .ok (.invokevirtual 173, 3) := by decide +kernel
theorem dX12_isReady_43 : decode cX12_isReady 43 = .ok (.ifCond .ne 7, 3) := by decide +kernel
theorem dX12_isReady_46 : decode cX12_isReady 46 = .ok (.iconst 1, 1) := by decide +kernel
theorem dX12_isReady_47 : decode cX12_isReady 47 = .ok (.goto 4, 3) := by decide +kernel
theorem dX12_isReady_50 : decode cX12_isReady 50 = .ok (.iconst 0, 1) := by decide +kernel
theorem dX12_isReady_51 : decode cX12_isReady 51 = .ok (.istore_n 2, 1) := by decide +kernel
theorem dX12_isReady_52 : decode cX12_isReady 52 = .ok (.iinc 3 1, 3) := by decide +kernel
theorem dX12_isReady_55 : decode cX12_isReady 55 = .ok (.goto (-40), 3) := by decide +kernel
theorem dX12_isReady_58 : decode cX12_isReady 58 = .ok (.iload_n 2, 1) := by decide +kernel
theorem dX12_isReady_59 : decode cX12_isReady 59 = .ok (.ireturn, 1) := by decide +kernel
theorem dX12_shut_0 : decode cX12_shut 0 = .ok (.aload_n 0, 1) := by decide +kernel
theorem dX12_shut_1 : decode cX12_shut 1 = .ok (.getfield 43, 3) := by decide +kernel
theorem dX12_shut_4 : decode cX12_shut 4 = .ok (.iload_n 1, 1) := by decide +kernel
theorem dX12_shut_5 : decode cX12_shut 5 = .ok (.iaload, 1) := by decide +kernel
theorem dX12_shut_6 : decode cX12_shut 6 = .ok (.istore_n 3, 1) := by decide +kernel
theorem dX12_shut_7 : decode cX12_shut 7 = .ok (.aload_n 0, 1) := by decide +kernel
theorem dX12_shut_8 : decode cX12_shut 8 = .ok (.iload_n 1, 1) := by decide +kernel
theorem dX12_shut_9 : decode cX12_shut 9 = .ok (.invokevirtual 167, 3) := by decide +kernel
theorem dX12_shut_12 : decode cX12_shut 12 = .ok (.istore 4, 2) := by decide +kernel
theorem dX12_shut_14 : decode cX12_shut 14 = .ok (.iconst 0, 1) := by decide +kernel
theorem dX12_shut_15 : decode cX12_shut 15 = .ok (.istore 5, 2) := by decide +kernel
theorem dX12_shut_17 : decode cX12_shut 17 = .ok (.iload_n 2, 1) := by decide +kernel
theorem dX12_shut_18 : decode cX12_shut 18 = .ok (.iload_n 3, 1) := by decide +kernel
theorem dX12_shut_19 : decode cX12_shut 19 = .ok (.irem, 1) := by decide +kernel
theorem dX12_shut_20 : decode cX12_shut 20 = .ok (.ifCond .le 17, 3) := by decide +kernel
theorem dX12_shut_23 : decode cX12_shut 23 = .ok (.aload_n 0, 1) := by decide +kernel
theorem dX12_shut_24 : decode cX12_shut 24 = .ok (.getfield 133, 3) := by decide +kernel
theorem dX12_shut_27 : decode cX12_shut 27 = .ok (.iload_n 2, 1) := by decide +kernel
theorem dX12_shut_28 : decode cX12_shut 28 = .ok (.iconst 1, 1) := by decide +kernel
theorem dX12_shut_29 : decode cX12_shut 29 = .ok (.isub, 1) := by decide +kernel
theorem dX12_shut_30 : decode cX12_shut 30 = .ok (.baload, 1) := by decide +kernel
theorem dX12_shut_31 : decode cX12_shut 31 = .ok (.ifCond .eq 6, 3) := by decide +kernel
theorem dX12_shut_34 : decode cX12_shut 34 = .ok (.iinc 5 1, 3) := by decide +kernel
theorem dX12_shut_37 : decode cX12_shut 37 = .ok (.iload_n 2, 1) := by decide +kernel
theorem dX12_shut_38 : decode cX12_shut 38 = .ok (.iload_n 3, 1) := by decide +kernel
theorem dX12_shut_39 : decode cX12_shut 39 = .ok (.irem, 1) := by decide +kernel
theorem dX12_shut_40 : decode cX12_shut 40 = .ok (.iload_n 3, 1) := by decide +kernel
theorem dX12_shut_41 : decode cX12_shut 41 = .ok (.iconst 1, 1) := by decide +kernel
theorem dX12_shut_42 : decode cX12_shut 42 = .ok (.isub, 1) := by decide +kernel
theorem dX12_shut_43 : decode cX12_shut 43 = .ok (.if_icmp .ge 17, 3) := by decide +kernel
theorem dX12_shut_46 : decode cX12_shut 46 = .ok (.aload_n 0, 1) := by decide +kernel
theorem dX12_shut_47 : decode cX12_shut 47 = .ok (.getfield 133, 3) := by decide +kernel
theorem dX12_shut_50 : decode cX12_shut 50 = .ok (.iload_n 2, 1) := by decide +kernel
theorem dX12_shut_51 : decode cX12_shut 51 = .ok (.iconst 1, 1) := by decide +kernel
theorem dX12_shut_52 : decode cX12_shut 52 = .ok (.iadd, 1) := by decide +kernel
theorem dX12_shut_53 : decode cX12_shut 53 = .ok (.baload, 1) := by decide +kernel
theorem dX12_shut_54 : decode cX12_shut 54 = .ok (.ifCond .eq 6, 3) := by decide +kernel
theorem dX12_shut_57 : decode cX12_shut 57 = .ok (.iinc 5 1, 3) := by decide +kernel
theorem dX12_shut_60 : decode cX12_shut 60 = .ok (.iload_n 2, 1) := by decide +kernel
theorem dX12_shut_61 : decode cX12_shut 61 = .ok (.iload_n 3, 1) := by decide +kernel
theorem dX12_shut_62 : decode cX12_shut 62 = .ok (.idiv, 1) := by decide +kernel
theorem dX12_shut_63 : decode cX12_shut 63 = .ok (.aload_n 0, 1) := by decide +kernel
theorem dX12_shut_64 : decode cX12_shut 64 = .ok (.getfield 46, 3) := by decide +kernel
theorem dX12_shut_67 : decode cX12_shut 67 = .ok (.iload_n 1, 1) := by decide +kernel
theorem dX12_shut_68 : decode cX12_shut 68 = .ok (.iaload, 1) := by decide +kernel
theorem dX12_shut_69 : decode cX12_shut 69 = .ok (.irem, 1) := by decide +kernel
theorem dX12_shut_70 : decode cX12_shut 70 = .ok (.ifCond .le 17, 3) := by decide +kernel
theorem dX12_shut_73 : decode cX12_shut 73 = .ok (.aload_n 0, 1) := by decide +kernel
theorem dX12_shut_74 : decode cX12_shut 74 = .ok (.getfield 133, 3) := by decide +kernel
theorem dX12_shut_77 : decode cX12_shut 77 = .ok (.iload_n 2, 1) := by decide +kernel
theorem dX12_shut_78 : decode cX12_shut 78 = .ok (.iload_n 3, 1) := by decide +kernel
theorem dX12_shut_79 : decode cX12_shut 79 = .ok (.isub, 1) := by decide +kernel
theorem dX12_shut_80 : decode cX12_shut 80 = .ok (.baload, 1) := by decide +kernel
theorem dX12_shut_81 : decode cX12_shut 81 = .ok (.ifCond .eq 6, 3) := by decide +kernel
theorem dX12_shut_84 : decode cX12_shut 84 = .ok (.iinc 5 1, 3) := by decide +kernel
theorem dX12_shut_87 : decode cX12_shut 87 = .ok (.iload_n 2, 1) := by decide +kernel
theorem dX12_shut_88 : decode cX12_shut 88 = .ok (.iload_n 3, 1) := by decide +kernel
theorem dX12_shut_89 : decode cX12_shut 89 = .ok (.idiv, 1) := by decide +kernel
theorem dX12_shut_90 : decode cX12_shut 90 = .ok (.aload_n 0, 1) := by decide +kernel
theorem dX12_shut_91 : decode cX12_shut 91 = .ok (.getfield 46, 3) := by decide +kernel
theorem dX12_shut_94 : decode cX12_shut 94 = .ok (.iload_n 1, 1) := by decide +kernel
theorem dX12_shut_95 : decode cX12_shut 95 = .ok (.iaload, 1) := by decide +kernel
theorem dX12_shut_96 : decode cX12_shut 96 = .ok (.irem, 1) := by decide +kernel
theorem dX12_shut_97 : decode cX12_shut 97 = .ok (.aload_n 0, 1) := by decide +kernel
theorem dX12_shut_98 : decode cX12_shut 98 = .ok (.getfield 46, 3) := by decide +kernel
theorem dX12_shut_101 : decode cX12_shut 101 = .ok (.iload_n 1, 1) := by decide +kernel
theorem dX12_shut_102 : decode cX12_shut 102 = .ok (.iaload, 1) := by decide +kernel
theorem dX12_shut_103 : decode cX12_shut 103 = .ok (.iconst 1, 1) := by decide +kernel
theorem dX12_shut_104 : decode cX12_shut 104 = .ok (.isub, 1) := by decide +kernel
theorem dX12_shut_105 : decode cX12_shut 105 = .ok (.if_icmp .ge 17, 3) := by decide +kernel
theorem dX12_shut_108 : decode cX12_shut 108 = .ok (.aload_n 0, 1) := by decide +kernel
theorem dX12_shut_109 : decode cX12_shut 109 = .ok (.getfield 133, 3) := by decide +kernel
theorem dX12_shut_112 : decode cX12_shut 112 = .ok (.iload_n 2, 1) := by decide +kernel
theorem dX12_shut_113 : decode cX12_shut 113 = .ok (.iload_n 3, 1) := by decide +kernel
theorem dX12_shut_114 : decode cX12_shut 114 = .ok (.iadd, 1) := by decide +kernel
theorem dX12_shut_115 : decode cX12_shut 115 = .ok (.baload, 1) := by decide +kernel
theorem dX12_shut_116 : decode cX12_shut 116 = .ok (.ifCond .eq 6, 3) := by decide +kernel
theorem dX12_shut_119 : decode cX12_shut 119 = .ok (.iinc 5 1, 3) := by decide +kernel
theorem dX12_shut_122 : decode cX12_shut 122 = .ok (.iload_n 2, 1) := by decide +kernel
theorem dX12_shut_123 : decode cX12_shut 123 = .ok (.iload 4, 2) := by decide +kernel
theorem dX12_shut_125 : decode cX12_shut 125 = .ok (.if_icmp .lt 18, 3) := by decide +kernel
theorem dX12_shut_128 : decode cX12_shut 128 = .ok (.aload_n 0, 1) := by decide +kernel
theorem dX12_shut_129 : decode cX12_shut 129 = .ok (.getfield 133, 3) := by decide +kernel
theorem dX12_shut_132 : decode cX12_shut 132 = .ok (.iload_n 2, 1) := by decide +kernel
theorem dX12_shut_133 : decode cX12_shut 133 = .ok (.iload 4, 2) := by decide +kernel
theorem dX12_shut_135 : decode cX12_shut 135 = .ok (.isub, 1) := by decide +kernel
theorem dX12_shut_136 : decode cX12_shut 136 = .ok (.baload, 1) := by decide +kernel
theorem dX12_shut_137 : decode cX12_shut 137 = .ok (.ifCond .eq 6, 3) := by decide +kernel
theorem dX12_shut_140 : decode cX12_shut 140 = .ok (.iinc 5 1, 3) := by decide +kernel
theorem dX12_shut_143 : decode cX12_shut 143 = .ok (.iload_n 2, 1) := by decide +kernel
theorem dX12_shut_144 : decode cX12_shut 144 = .ok (.iload 4, 2) := by decide +kernel
theorem dX12_shut_146 : decode cX12_shut 146 = .ok (.iadd, 1) := by decide +kernel
theorem dX12_shut_147 : decode cX12_shut 147 = .ok (.aload_n 0, 1) := by decide +kernel
theorem dX12_shut_148 : decode cX12_shut 148 = .ok (.iload_n 1, 1) := by decide +kernel
theorem dX12_shut_149 : decode cX12_shut 149 = .ok (.invokevirtual 160, 3) := by decide +kernel
theorem dX12_shut_152 : decode cX12_shut 152 = .ok (.if_icmp .ge 18, 3) := by decide +kernel
theorem dX12_shut_155 : decode cX12_shut 155 = .ok (.aload_n 0, 1) := by decide +kernel
theorem dX12_shut_156 : decode cX12_shut 156 = .ok (.getfield 133, 3) := by decide +kernel
theorem dX12_shut_159 : decode cX12_shut 159 = .ok (.iload_n 2, 1) := by decide +kernel
theorem dX12_shut_160 : decode cX12_shut 160 = .ok (.iload 4, 2) := by decide +kernel
theorem dX12_shut_162 : decode cX12_shut 162 = .ok (.iadd, 1) := by decide +kernel
theorem dX12_shut_163 : decode cX12_shut 163 = .ok (.baload, 1) := by decide +kernel
theorem dX12_shut_164 : decode cX12_shut 164 = .ok (.ifCond .eq 6, 3) := by decide +kernel
theorem dX12_shut_167 : decode cX12_shut 167 = .ok (.iinc 5 1, 3) := by decide +kernel
theorem dX12_shut_170 : decode cX12_shut 170 = .ok (.iload 5, 2) := by decide +kernel
theorem dX12_shut_172 : decode cX12_shut 172 = .ok (.ireturn, 1) := by decide +kernel
theorem dX12_tries_0 : decode cX12_tries 0 = .ok (.aload_n 0, 1) := by decide +kernel
theorem dX12_tries_1 : decode cX12_tries 1 = .ok (.iload_n 1, 1) := by decide +kernel
theorem dX12_tries_2 : decode cX12_tries 2 = .ok (.invokevirtual 160, 3) := by decide +kernel
theorem dX12_tries_5 : decode cX12_tries 5 = .ok (.istore_n 2, 1) := by decide +kernel
theorem dX12_tries_6 : decode cX12_tries 6 = .ok (.aload_n 0, 1) := by decide +kernel
theorem dX12_tries_7 : decode cX12_tries 7 = .ok (.iload_n 1, 1) := by decide +kernel
theorem dX12_tries_8 : decode cX12_tries 8 = .ok (.invokevirtual 167, 3) := by decide +kernel
theorem dX12_tries_11 : decode cX12_tries 11 = .ok (.istore_n 3, 1) := by decide +kernel
theorem dX12_tries_12 : decode cX12_tries 12 = .ok (.iconst 0, 1) := by decide +kernel
theorem dX12_tries_13 : decode cX12_tries 13 = .ok (.istore 4, 2) := by decide +kernel
theorem dX12_tries_15 : decode cX12_tries 15 = .ok (.sipush 1000, 3) := by decide +kernel
theorem dX12_tries_18 : decode cX12_tries 18 = .ok (.istore 5, 2) := by decide +kernel
theorem dX12_tries_20 : decode cX12_tries 20 = .ok (.iconst 0, 1) := by decide +kernel
theorem dX12_tries_21 : decode cX12_tries 21 = .ok (.istore 6, 2) := by decide +kernel
theorem dX12_tries_23 : decode cX12_tries 23 = .ok (.iload 6, 2) := by decide +kernel
theorem dX12_tries_25 : decode cX12_tries 25 = .ok (.iconst 1, 1) := by decide +kernel
theorem dX12_tries_26 : decode cX12_tries 26 = .ok (.iload_n 2, 1) := by decide +kernel
theorem dX12_tries_27 : decode cX12_tries 27 = .ok (.ishl, 1) := by decide +kernel
theorem dX12_tries_28 : decode cX12_tries 28 = .ok (.if_icmp .ge 189, 3) := by decide +kernel
theorem dX12_tries_31 : decode cX12_tries 31 = .ok (.iconst 0, 1) := by decide +kernel
theorem dX12_tries_32 : decode cX12_tries 32 = .ok (.istore 7, 2) := by decide +kernel
theorem dX12_tries_34 : decode cX12_tries 34 = .ok (.iconst 0, 1) := by decide +kernel
theorem dX12_tries_35 : decode cX12_tries 35 = .ok (.istore 8, 2) := by decide +kernel
theorem dX12_tries_37 : decode cX12_tries 37 = .ok (.iload 8, 2) := by decide +kernel
theorem dX12_tries_39 : decode cX12_tries 39 = .ok (.iload_n 2, 1) := by decide +kernel
theorem dX12_tries_40 : decode cX12_tries 40 = .ok (.if_icmp .ge 21, 3) := by decide +kernel
theorem dX12_tries_43 : decode cX12_tries 43 = .ok (.iload 7, 2) := by decide +kernel
theorem dX12_tries_45 : decode cX12_tries 45 = .ok (.iload 6, 2) := by decide +kernel
theorem dX12_tries_47 : decode cX12_tries 47 = .ok (.iload 8, 2) := by decide +kernel
theorem dX12_tries_49 : decode cX12_tries 49 = .ok (.ishr, 1) := by decide +kernel
theorem dX12_tries_50 : decode cX12_tries 50 = .ok (.iconst 1, 1) := by decide +kernel
theorem dX12_tries_51 : decode cX12_tries 51 = .ok (.iand, 1) := by decide +kernel
theorem dX12_tries_52 : decode cX12_tries 52 = .ok (.iadd, 1) := by decide +kernel
theorem dX12_tries_53 : decode cX12_tries 53 = .ok (.istore 7, 2) := by decide +kernel
theorem dX12_tries_55 : decode cX12_tries 55 = .ok (.iinc 8 1, 3) := by decide +kernel
theorem dX12_tries_58 : decode cX12_tries 58 = .ok (.goto (-21), 3) := by decide +kernel
theorem dX12_tries_61 : decode cX12_tries 61 = .ok (.iload 7, 2) := by decide +kernel
theorem dX12_tries_63 : decode cX12_tries 63 = .ok (.aload_n 0, 1) := by decide +kernel
theorem dX12_tries_64 : decode cX12_tries 64 = .ok (.getfield 303, 3) := by decide +kernel
theorem dX12_tries_67 : decode cX12_tries 67 = .ok (.if_icmp .ne 144, 3) := by decide +kernel
theorem dX12_tries_70 : decode cX12_tries 70 = .ok (.iload 6, 2) := by decide +kernel
theorem dX12_tries_72 : decode cX12_tries 72 = .ok (.iload_n 3, 1) := by decide +kernel
theorem dX12_tries_73 : decode cX12_tries 73 = .ok (.ishr, 1) := by decide +kernel
theorem dX12_tries_74 : decode cX12_tries 74 = .ok (.iload 6, 2) := by decide +kernel
theorem dX12_tries_76 : decode cX12_tries 76 = .ok (.iconst (-1), 1) := by decide +kernel
theorem dX12_tries_77 : decode cX12_tries 77 = .ok (.ixor, 1) := by decide +kernel
theorem dX12_tries_78 : decode cX12_tries 78 = .ok (.iand, 1) := by decide +kernel
theorem dX12_tries_79 : decode cX12_tries 79 = .ok (.ifCond .eq 6, 3) := by decide +kernel
theorem dX12_tries_82 : decode cX12_tries 82 = .ok (.goto 129, 3) := by decide +kernel
theorem dX12_tries_85 : decode cX12_tries 85 = .ok (.iconst 0, 1) := by decide +kernel
theorem dX12_tries_86 : decode cX12_tries 86 = .ok (.istore 8, 2) := by decide +kernel
theorem dX12_tries_88 : decode cX12_tries 88 = .ok (.iload 8, 2) := by decide +kernel
theorem dX12_tries_90 : decode cX12_tries 90 = .ok (.iload_n 2, 1) := by decide +kernel
theorem dX12_tries_91 : decode cX12_tries 91 = .ok (.if_icmp .ge 32, 3) := by decide +kernel
theorem dX12_tries_94 : decode cX12_tries 94 = .ok (.aload_n 0, 1) := by decide +kernel
theorem dX12_tries_95 : decode cX12_tries 95 = .ok (.getfield 133, 3) := by decide +kernel
theorem dX12_tries_98 : decode cX12_tries 98 = .ok (.iload 8, 2) := by decide +kernel
theorem dX12_tries_100 : decode cX12_tries 100 = .ok (.iload 6, 2) := by decide +kernel
theorem dX12_tries_102 : decode cX12_tries 102 = .ok (.iload 8, 2) := by decide +kernel
theorem dX12_tries_104 : decode cX12_tries 104 = .ok (.ishr, 1) := by decide +kernel
theorem dX12_tries_105 : decode cX12_tries 105 = .ok (.iconst 1, 1) := by decide +kernel
theorem dX12_tries_106 : decode cX12_tries 106 = .ok (.iand, 1) := by decide +kernel
theorem dX12_tries_107 : decode cX12_tries 107 = .ok (.iconst 1, 1) := by decide +kernel
theorem dX12_tries_108 : decode cX12_tries 108 = .ok (.if_icmp .ne 7, 3) := by decide +kernel
theorem dX12_tries_111 : decode cX12_tries 111 = .ok (.iconst 1, 1) := by decide +kernel
theorem dX12_tries_112 : decode cX12_tries 112 = .ok (.goto 4, 3) := by decide +kernel
theorem dX12_tries_115 : decode cX12_tries 115 = .ok (.iconst 0, 1) := by decide +kernel
theorem dX12_tries_116 : decode cX12_tries 116 = .ok (.bastore, 1) := by decide +kernel
theorem dX12_tries_117 : decode cX12_tries 117 = .ok (.iinc 8 1, 3) := by decide +kernel
theorem dX12_tries_120 : decode cX12_tries 120 = .ok (.goto (-32), 3) := by decide +kernel
theorem dX12_tries_123 : decode cX12_tries 123 = .ok (.iconst 0, 1) := by decide +kernel
theorem dX12_tries_124 : decode cX12_tries 124 = .ok (.istore 8, 2) := by decide +kernel
theorem dX12_tries_126 : decode cX12_tries 126 = .ok (.iconst 0, 1) := by decide +kernel
theorem dX12_tries_127 : decode cX12_tries 127 = .ok (.istore 9, 2) := by decide +kernel
theorem dX12_tries_129 : decode cX12_tries 129 = .ok (.iload 9, 2) := by decide +kernel
theorem dX12_tries_131 : decode cX12_tries 131 = .ok (.iload_n 2, 1) := by decide +kernel
theorem dX12_tries_132 : decode cX12_tries 132 = .ok (.if_icmp .ge 38, 3) := by decide +kernel
theorem dX12_tries_135 : decode cX12_tries 135 = .ok (.iload 8, 2) := by decide +kernel
theorem dX12_tries_137 : decode cX12_tries 137 = .ok (.aload_n 0, 1) := by decide +kernel
theorem dX12_tries_138 : decode cX12_tries 138 = .ok (.getfield 133, 3) := by decide +kernel
theorem dX12_tries_141 : decode cX12_tries 141 = .ok (.iload 9, 2) := by decide +kernel
theorem dX12_tries_143 : decode cX12_tries 143 = .ok (.baload, 1) := by decide +kernel
theorem dX12_tries_144 : decode cX12_tries 144 = .ok (.ifCond .eq 16, 3) := by decide +kernel
theorem dX12_tries_147 : decode cX12_tries 147 = .ok (.bipush 6, 2) := by decide +kernel
theorem dX12_tries_149 : decode cX12_tries 149 = .ok (.aload_n 0, 1) := by decide +kernel
theorem dX12_tries_150 : decode cX12_tries 150 = .ok (.iload_n 1, 1) := by decide +kernel
theorem dX12_tries_151 : decode cX12_tries 151 = .ok (.iload 9, 2) := by decide +kernel
theorem dX12_tries_153 : decode cX12_tries 153 = .ok (.invokevirtual 306, 3) := by decide +kernel
theorem dX12_tries_156 : decode cX12_tries 156 = .ok (.isub, 1) := by decide +kernel
theorem dX12_tries_157 : decode cX12_tries 157 = .ok (.goto 4, 3) := by decide +kernel
theorem dX12_tries_160 : decode cX12_tries 160 = .ok (.iconst 0, 1) := by decide +kernel
theorem dX12_tries_161 : decode cX12_tries 161 = .ok (.iadd, 1) := by decide +kernel
theorem dX12_tries_162 : decode cX12_tries 162 = .ok (.istore 8, 2) := by decide +kernel
theorem dX12_tries_164 : decode cX12_tries 164 = .ok (.iinc 9 1, 3) := by decide +kernel
theorem dX12_tries_167 : decode cX12_tries 167 = .ok (.goto (-38), 3) := by decide +kernel
theorem dX12_tries_170 : decode cX12_tries 170 = .ok (.iload 6, 2) := by decide +kernel
theorem dX12_tries_172 : decode cX12_tries 172 = .ok (.iload 4, 2) := by decide +kernel
theorem dX12_tries_174 : decode cX12_tries 174 = .ok (.ixor, 1) := by decide +kernel
theorem dX12_tries_175 : decode cX12_tries 175 = .ok (.istore 9, 2) := by decide +kernel
theorem dX12_tries_177 : decode cX12_tries 177 = .ok (.iload 8, 2) := by decide +kernel
theorem dX12_tries_179 : decode cX12_tries 179 = .ok (.iload 5, 2) := by decide +kernel
theorem dX12_tries_181 : decode cX12_tries 181 = .ok (.if_icmp .lt 22, 3) := by decide +kernel
theorem dX12_tries_184 : decode cX12_tries 184 = .ok (.iload 8, 2) := by decide +kernel
theorem dX12_tries_186 : decode cX12_tries 186 = .ok (.iload 5, 2) := by decide +kernel
theorem dX12_tries_188 : decode cX12_tries 188 = .ok (.if_icmp .ne 23, 3) := by decide +kernel
theorem dX12_tries_191 : decode cX12_tries 191 = .ok (.iload 9, 2) := by decide +kernel
theorem dX12_tries_193 : decode cX12_tries 193 = .ok (.iload 9, 2) := by decide +kernel
theorem dX12_tries_195 : decode cX12_tries 195 = .ok (.ineg, 1) := by decide +kernel
theorem dX12_tries_196 : decode cX12_tries 196 = .ok (.iand, 1) := by decide +kernel
theorem dX12_tries_197 : decode cX12_tries 197 = .ok (.iload 6, 2) := by decide +kernel
theorem dX12_tries_199 : decode cX12_tries 199 = .ok (.iand, 1) := by decide +kernel
theorem dX12_tries_200 : decode cX12_tries 200 = .ok (.ifCond .eq 11, 3) := by decide +kernel
theorem dX12_tries_203 : decode cX12_tries 203 = .ok (.iload 8, 2) := by decide +kernel
theorem dX12_tries_205 : decode cX12_tries 205 = .ok (.istore 5, 2) := by decide +kernel
theorem dX12_tries_207 : decode cX12_tries 207 = .ok (.iload 6, 2) := by decide +kernel
theorem dX12_tries_209 : decode cX12_tries 209 = .ok (.istore 4, 2) := by decide +kernel
theorem dX12_tries_211 : decode cX12_tries 211 = .ok (.iinc 6 1, 3) := by decide +kernel
theorem dX12_tries_214 : decode cX12_tries 214 = .ok (.goto (-191), 3) := by decide +kernel
theorem dX12_tries_217 : decode cX12_tries 217 = .ok (.iconst 0, 1) := by decide +kernel
theorem dX12_tries_218 : decode cX12_tries 218 = .ok (.istore 6, 2) := by decide +kernel
theorem dX12_tries_220 : decode cX12_tries 220 = .ok (.iload 6, 2) := by decide +kernel
theorem dX12_tries_222 : decode cX12_tries 222 = .ok (.iload_n 2, 1) := by decide +kernel
theorem dX12_tries_223 : decode cX12_tries 223 = .ok (.if_icmp .ge 32, 3) := by decide +kernel
theorem dX12_tries_226 : decode cX12_tries 226 = .ok (.aload_n 0, 1) := by decide +kernel
theorem dX12_tries_227 : decode cX12_tries 227 = .ok (.getfield 133, 3) := by decide +kernel
theorem dX12_tries_230 : decode cX12_tries 230 = .ok (.iload 6, 2) := by decide +kernel
theorem dX12_tries_232 : decode cX12_tries 232 = .ok (.iload 4, 2) := by decide +kernel
theorem dX12_tries_234 : decode cX12_tries 234 = .ok (.iload 6, 2) := by decide +kernel
theorem dX12_tries_236 : decode cX12_tries 236 = .ok (.ishr, 1) := by decide +kernel
theorem dX12_tries_237 : decode cX12_tries 237 = .ok (.iconst 1, 1) := by decide +kernel
theorem dX12_tries_238 : decode cX12_tries 238 = .ok (.iand, 1) := by decide +kernel
theorem dX12_tries_239 : decode cX12_tries 239 = .ok (.iconst 1, 1) := by decide +kernel
theorem dX12_tries_240 : decode cX12_tries 240 = .ok (.if_icmp .ne 7, 3) := by decide +kernel
theorem dX12_tries_243 : decode cX12_tries 243 = .ok (.iconst 1, 1) := by decide +kernel
theorem dX12_tries_244 : decode cX12_tries 244 = .ok (.goto 4, 3) := by decide +kernel
theorem dX12_tries_247 : decode cX12_tries 247 = .ok (.iconst 0, 1) := by decide +kernel
theorem dX12_tries_248 : decode cX12_tries 248 = .ok (.bastore, 1) := by decide +kernel
theorem dX12_tries_249 : decode cX12_tries 249 = .ok (.iinc 6 1, 3) := by decide +kernel
theorem dX12_tries_252 : decode cX12_tries 252 = .ok (.goto (-32), 3) := by decide +kernel
theorem dX12_tries_255 : decode cX12_tries 255 = .ok (.return_, 1) := by decide +kernel
theorem dX12_fills_0 : decode cX12_fills 0 = .ok (.aload_n 0, 1) := by decide +kernel
theorem dX12_fills_1 : decode cX12_fills 1 = .ok (.iload_n 1, 1) := by decide +kernel
theorem dX12_fills_2 : decode cX12_fills 2 = .ok (.invokevirtual 160, 3) := by decide +kernel
theorem dX12_fills_5 : decode cX12_fills 5 = .ok (.istore_n 2, 1) := by decide +kernel
theorem dX12_fills_6 : decode cX12_fills 6 = .ok (.aload_n 0, 1) := by decide +kernel
theorem dX12_fills_7 : decode cX12_fills 7 = .ok (.iload_n 1, 1) := by decide +kernel
theorem dX12_fills_8 : decode cX12_fills 8 = .ok (.invokevirtual 167, 3) := by decide +kernel
theorem dX12_fills_11 : decode cX12_fills 11 = .ok (.istore_n 3, 1) := by decide +kernel
theorem dX12_fills_12 : decode cX12_fills 12 = .ok (.iconst 0, 1) := by decide +kernel
theorem dX12_fills_13 : decode cX12_fills 13 = .ok (.istore 4, 2) := by decide +kernel
theorem dX12_fills_15 : decode cX12_fills 15 = .ok (.iload 4, 2) := by decide +kernel
theorem dX12_fills_17 : decode cX12_fills 17 = .ok (.iload_n 2, 1) := by decide +kernel
theorem dX12_fills_18 : decode cX12_fills 18 = .ok (.if_icmp .ge 17, 3) := by decide +kernel
theorem dX12_fills_21 : decode cX12_fills 21 = .ok (.aload_n 0, 1) := by decide +kernel
theorem dX12_fills_22 : decode cX12_fills 22 = .ok (.getfield 133, 3) := by decide +kernel
theorem dX12_fills_25 : decode cX12_fills 25 = .ok (.iload 4, 2) := by decide +kernel
theorem dX12_fills_27 : decode cX12_fills 27 = .ok (.iconst 0, 1) := by decide +kernel
theorem dX12_fills_28 : decode cX12_fills 28 = .ok (.bastore, 1) := by decide +kernel
theorem dX12_fills_29 : decode cX12_fills 29 = .ok (.iinc 4 1, 3) := by decide +kernel
theorem dX12_fills_32 : decode cX12_fills 32 = .ok (.goto (-17), 3) := by decide +kernel
theorem dX12_fills_35 : decode cX12_fills 35 = .ok (.iconst 0, 1) := by decide +kernel
theorem dX12_fills_36 : decode cX12_fills 36 = .ok (.istore 4, 2) := by decide +kernel
theorem dX12_fills_38 : decode cX12_fills 38 = .ok (.iload 4, 2) := by decide +kernel
theorem dX12_fills_40 : decode cX12_fills 40 = .ok (.aload_n 0, 1) := by decide +kernel
theorem dX12_fills_41 : decode cX12_fills 41 = .ok (.getfield 303, 3) := by decide +kernel
theorem dX12_fills_44 : decode cX12_fills 44 = .ok (.if_icmp .ge 94, 3) := by decide +kernel
theorem dX12_fills_47 : decode cX12_fills 47 = .ok (.iconst (-1), 1) := by decide +kernel
theorem dX12_fills_48 : decode cX12_fills 48 = .ok (.istore 5, 2) := by decide +kernel
theorem dX12_fills_50 : decode cX12_fills 50 = .ok (.iconst (-1), 1) := by decide +kernel
theorem dX12_fills_51 : decode cX12_fills 51 = .ok (.istore 6, 2) := by decide +kernel
theorem dX12_fills_53 : decode cX12_fills 53 = .ok (.iconst 0, 1) := by decide +kernel
theorem dX12_fills_54 : decode cX12_fills 54 = .ok (.istore 7, 2) := by decide +kernel
theorem dX12_fills_56 : decode cX12_fills 56 = .ok (.iload 7, 2) := by decide +kernel
theorem dX12_fills_58 : decode cX12_fills 58 = .ok (.iload_n 2, 1) := by decide +kernel
theorem dX12_fills_59 : decode cX12_fills 59 = .ok (.if_icmp .ge 65, 3) := by decide +kernel
theorem dX12_fills_62 : decode cX12_fills 62 = .ok (.aload_n 0, 1) := by decide +kernel
theorem dX12_fills_63 : decode cX12_fills 63 = .ok (.getfield 133, 3) := by decide +kernel
theorem dX12_fills_66 : decode cX12_fills 66 = .ok (.iload 7, 2) := by decide +kernel
theorem dX12_fills_68 : decode cX12_fills 68 = .ok (.baload, 1) := by decide +kernel
theorem dX12_fills_69 : decode cX12_fills 69 = .ok (.ifCond .ne 49, 3) := by decide +kernel
theorem dX12_fills_72 : decode cX12_fills 72 = .ok (.iload 7, 2) := by decide +kernel
theorem dX12_fills_74 : decode cX12_fills 74 = .ok (.iload_n 3, 1) := by decide +kernel
theorem dX12_fills_75 : decode cX12_fills 75 = .ok (.if_icmp .lt 15, 3) := by decide +kernel
theorem dX12_fills_78 : decode cX12_fills 78 = .ok (.aload_n 0, 1) := by decide +kernel
theorem dX12_fills_79 : decode cX12_fills 79 = .ok (.getfield 133, 3) := by decide +kernel
theorem dX12_fills_82 : decode cX12_fills 82 = .ok (.iload 7, 2) := by decide +kernel
theorem dX12_fills_84 : decode cX12_fills 84 = .ok (.iload_n 3, 1) := by decide +kernel
theorem dX12_fills_85 : decode cX12_fills 85 = .ok (.isub, 1) := by decide +kernel
theorem dX12_fills_86 : decode cX12_fills 86 = .ok (.baload, 1) := by decide +kernel
theorem dX12_fills_87 : decode cX12_fills 87 = .ok (.ifCond .eq 31, 3) := by decide +kernel
theorem dX12_fills_90 : decode cX12_fills 90 = .ok (.aload_n 0, 1) := by decide +kernel
theorem dX12_fills_91 : decode cX12_fills 91 = .ok (.iload_n 1, 1) := by decide +kernel
theorem dX12_fills_92 : decode cX12_fills 92 = .ok (.iload 7, 2) := by decide +kernel
theorem dX12_fills_94 : decode cX12_fills 94 = .ok (.invokevirtual 306, 3) := by decide +kernel
theorem dX12_fills_97 : decode cX12_fills 97 = .ok (.iload 6, 2) := by decide +kernel
theorem dX12_fills_99 : decode cX12_fills 99 = .ok (.if_icmp .gt 6, 3) := by decide +kernel
theorem dX12_fills_102 : decode cX12_fills 102 = .ok (.goto 16, 3) := by decide +kernel
theorem dX12_fills_105 : decode cX12_fills 105 = .ok (.iload 7, 2) := by decide +kernel
theorem dX12_fills_107 : decode cX12_fills 107 = .ok (.istore 5, 2) := by decide +kernel
theorem dX12_fills_109 : decode cX12_fills 109 = .ok (.aload_n 0, 1) := by decide +kernel
theorem dX12_fills_110 : decode cX12_fills 110 = .ok (.iload_n 1, 1) := by decide +kernel
theorem dX12_fills_111 : decode cX12_fills 111 = .ok (.iload 7, 2) := by decide +kernel
theorem dX12_fills_113 : decode cX12_fills 113 = .ok (.invokevirtual 306, 3) := by decide +kernel
theorem dX12_fills_116 : decode cX12_fills 116 = .ok (.istore 6, 2) := by decide +kernel
theorem dX12_fills_118 : decode cX12_fills 118 = .ok (.iinc 7 1, 3) := by decide +kernel
theorem dX12_fills_121 : decode cX12_fills 121 = .ok (.goto (-65), 3) := by decide +kernel
theorem dX12_fills_124 : decode cX12_fills 124 = .ok (.aload_n 0, 1) := by decide +kernel
theorem dX12_fills_125 : decode cX12_fills 125 = .ok (.getfield 133, 3) := by decide +kernel
theorem dX12_fills_128 : decode cX12_fills 128 = .ok (.iload 5, 2) := by decide +kernel
theorem dX12_fills_130 : decode cX12_fills 130 = .ok (.iconst 1, 1) := by decide +kernel
theorem dX12_fills_131 : decode cX12_fills 131 = .ok (.bastore, 1) := by decide +kernel
theorem dX12_fills_132 : decode cX12_fills 132 = .ok (.iinc 4 1, 3) := by decide +kernel
theorem dX12_fills_135 : decode cX12_fills 135 = .ok (.goto (-97), 3) := by decide +kernel
theorem dX12_fills_138 : decode cX12_fills 138 = .ok (.return_, 1) := by decide +kernel
theorem dX12_pack_0 : decode cX12_pack 0 = .ok (.aload_n 0, 1) := by decide +kernel
theorem dX12_pack_1 : decode cX12_pack 1 = .ok (.iload_n 1, 1) := by decide +kernel
theorem dX12_pack_2 : decode cX12_pack 2 = .ok (.invokevirtual 180, 3) := by decide +kernel
theorem dX12_pack_5 : decode cX12_pack 5 = .ok (.ifCond .ne 10, 3) := by decide +kernel
theorem dX12_pack_8 : decode cX12_pack 8 = .ok (.aload_n 0, 1) := by decide +kernel
theorem dX12_pack_9 : decode cX12_pack 9 = .ok (.bipush (-2), 2) := by decide +kernel
theorem dX12_pack_11 : decode cX12_pack 11 = .ok (.invokevirtual 151, 3) := by decide +kernel
theorem dX12_pack_14 : decode cX12_pack 14 = .ok (.ireturn, 1) := by decide +kernel
theorem dX12_pack_15 : decode cX12_pack 15 = .ok (.aload_n 0, 1) := by decide +kernel
theorem dX12_pack_16 : decode cX12_pack 16 = .ok (.getfield 303, 3) := by decide +kernel
theorem dX12_pack_19 : decode cX12_pack 19 = .ok (.aload_n 0, 1) := by decide +kernel
theorem dX12_pack_20 : decode cX12_pack 20 = .ok (.iload_n 1, 1) := by decide +kernel
theorem dX12_pack_21 : decode cX12_pack 21 = .ok (.invokevirtual 160, 3) := by decide +kernel
theorem dX12_pack_24 : decode cX12_pack 24 = .ok (.if_icmp .gt 20, 3) := by decide +kernel
theorem dX12_pack_27 : decode cX12_pack 27 = .ok (.aload_n 0, 1) := by decide +kernel
theorem dX12_pack_28 : decode cX12_pack 28 = .ok (.getfield 34, 3) := by decide +kernel
theorem dX12_pack_31 : decode cX12_pack 31 = .ok (.iconst 0, 1) := by decide +kernel
theorem dX12_pack_32 : decode cX12_pack 32 = .ok (.iaload, 1) := by decide +kernel
theorem dX12_pack_33 : decode cX12_pack 33 = .ok (.aload_n 0, 1) := by decide +kernel
theorem dX12_pack_34 : decode cX12_pack 34 = .ok (.getfield 303, 3) := by decide +kernel
theorem dX12_pack_37 : decode cX12_pack 37 = .ok (.iadd, 1) := by decide +kernel
theorem dX12_pack_38 : decode cX12_pack 38 = .ok (.sipush 300, 3) := by decide +kernel
theorem dX12_pack_41 : decode cX12_pack 41 = .ok (.if_icmp .le 10, 3) := by decide +kernel
theorem dX12_pack_44 : decode cX12_pack 44 = .ok (.aload_n 0, 1) := by decide +kernel
theorem dX12_pack_45 : decode cX12_pack 45 = .ok (.bipush (-6), 2) := by decide +kernel
theorem dX12_pack_47 : decode cX12_pack 47 = .ok (.invokevirtual 151, 3) := by decide +kernel
theorem dX12_pack_50 : decode cX12_pack 50 = .ok (.ireturn, 1) := by decide +kernel
theorem dX12_pack_51 : decode cX12_pack 51 = .ok (.aload_n 0, 1) := by decide +kernel
theorem dX12_pack_52 : decode cX12_pack 52 = .ok (.iload_n 1, 1) := by decide +kernel
theorem dX12_pack_53 : decode cX12_pack 53 = .ok (.invokevirtual 309, 3) := by decide +kernel
theorem dX12_pack_56 : decode cX12_pack 56 = .ok (.ifCond .ne 10, 3) := by decide +kernel
theorem dX12_pack_59 : decode cX12_pack 59 = .ok (.aload_n 0, 1) := by decide +kernel
theorem dX12_pack_60 : decode cX12_pack 60 = .ok (.bipush (-7), 2) := by decide +kernel
theorem dX12_pack_62 : decode cX12_pack 62 = .ok (.invokevirtual 151, 3) := by decide +kernel
theorem dX12_pack_65 : decode cX12_pack 65 = .ok (.ireturn, 1) := by decide +kernel
theorem dX12_pack_66 : decode cX12_pack 66 = .ok (.aload_n 0, 1) := by decide +kernel
theorem dX12_pack_67 : decode cX12_pack 67 = .ok (.getfield 303, 3) := by decide +kernel
theorem dX12_pack_70 : decode cX12_pack 70 = .ok (.bipush 8, 2) := by decide +kernel
theorem dX12_pack_72 : decode cX12_pack 72 = .ok (.if_icmp .gt 41, 3) := by decide +kernel
theorem dX12_pack_75 : decode cX12_pack 75 = .ok (.aload_n 0, 1) := by decide +kernel
theorem dX12_pack_76 : decode cX12_pack 76 = .ok (.getfield 43, 3) := by decide +kernel
theorem dX12_pack_79 : decode cX12_pack 79 = .ok (.iload_n 1, 1) := by decide +kernel
theorem dX12_pack_80 : decode cX12_pack 80 = .ok (.iaload, 1) := by decide +kernel
theorem dX12_pack_81 : decode cX12_pack 81 = .ok (.iconst 3, 1) := by decide +kernel
theorem dX12_pack_82 : decode cX12_pack 82 = .ok (.if_icmp .gt 31, 3) := by decide +kernel
theorem dX12_pack_85 : decode cX12_pack 85 = .ok (.aload_n 0, 1) := by decide +kernel
theorem dX12_pack_86 : decode cX12_pack 86 = .ok (.getfield 46, 3) := by decide +kernel
theorem dX12_pack_89 : decode cX12_pack 89 = .ok (.iload_n 1, 1) := by decide +kernel
theorem dX12_pack_90 : decode cX12_pack 90 = .ok (.iaload, 1) := by decide +kernel
theorem dX12_pack_91 : decode cX12_pack 91 = .ok (.iconst 3, 1) := by decide +kernel
theorem dX12_pack_92 : decode cX12_pack 92 = .ok (.if_icmp .gt 21, 3) := by decide +kernel
theorem dX12_pack_95 : decode cX12_pack 95 = .ok (.aload_n 0, 1) := by decide +kernel
theorem dX12_pack_96 : decode cX12_pack 96 = .ok (.getfield 49, 3) := by decide +kernel
theorem dX12_pack_99 : decode cX12_pack 99 = .ok (.iload_n 1, 1) := by decide +kernel
theorem dX12_pack_100 : decode cX12_pack 100 = .ok (.iaload, 1) := by decide +kernel
theorem dX12_pack_101 : decode cX12_pack 101 = .ok (.iconst 2, 1) := by decide +kernel
theorem dX12_pack_102 : decode cX12_pack 102 = .ok (.if_icmp .gt 11, 3) := by decide +kernel
theorem dX12_pack_105 : decode cX12_pack 105 = .ok (.aload_n 0, 1) := by decide +kernel
theorem dX12_pack_106 : decode cX12_pack 106 = .ok (.iload_n 1, 1) := by decide +kernel
theorem dX12_pack_107 : decode cX12_pack 107 = .ok (.invokevirtual 312, 3) := by decide +kernel
theorem dX12_pack_110 : decode cX12_pack 110 = .ok (.goto 8, 3) := by decide +kernel
theorem dX12_pack_113 : decode cX12_pack 113 = .ok (.aload_n 0, 1) := by decide +kernel
theorem dX12_pack_114 : decode cX12_pack 114 = .ok (.iload_n 1, 1) := by decide +kernel
theorem dX12_pack_115 : decode cX12_pack 115 = .ok (.invokevirtual 315, 3) := by decide +kernel
theorem dX12_pack_118 : decode cX12_pack 118 = .ok (.iconst 0, 1) := by decide +kernel
theorem dX12_pack_119 : decode cX12_pack 119 = .ok (.istore_n 2, 1) := by decide +kernel
theorem dX12_pack_120 : decode cX12_pack 120 = .ok (.iconst 0, 1) := by decide +kernel
theorem dX12_pack_121 : decode cX12_pack 121 = .ok (.istore_n 3, 1) := by decide +kernel
theorem dX12_pack_122 : decode cX12_pack 122 = .ok (.iload_n 3, 1) := by decide +kernel
theorem dX12_pack_123 : decode cX12_pack 123 = .ok (.aload_n 0, 1) := by decide +kernel
theorem dX12_pack_124 : decode cX12_pack 124 = .ok (.iload_n 1, 1) := by decide +kernel
theorem dX12_pack_125 : decode cX12_pack 125 = .ok (.invokevirtual 160, 3) := by decide +kernel
theorem dX12_pack_128 : decode cX12_pack 128 = .ok (.if_icmp .ge 43, 3) := by decide +kernel
theorem dX12_pack_131 : decode cX12_pack 131 = .ok (.aload_n 0, 1) := by decide +kernel
theorem dX12_pack_132 : decode cX12_pack 132 = .ok (.getfield 133, 3) := by decide +kernel
theorem dX12_pack_135 : decode cX12_pack 135 = .ok (.iload_n 3, 1) := by decide +kernel
theorem dX12_pack_136 : decode cX12_pack 136 = .ok (.baload, 1) := by decide +kernel
theorem dX12_pack_137 : decode cX12_pack 137 = .ok (.ifCond .ne 6, 3) := by decide +kernel
theorem dX12_pack_140 : decode cX12_pack 140 = .ok (.goto 25, 3) := by decide +kernel
theorem dX12_pack_143 : decode cX12_pack 143 = .ok (.aload_n 0, 1) := by decide +kernel
theorem dX12_pack_144 : decode cX12_pack 144 = .ok (.iload_n 1, 1) := by decide +kernel
theorem dX12_pack_145 : decode cX12_pack 145 = .ok (.iload_n 3, 1) := by decide +kernel
theorem dX12_pack_146 : decode cX12_pack 146 = .ok (.aload_n 0, 1) := by decide +kernel
theorem dX12_pack_147 : decode cX12_pack 147 = .ok (.getfield 127, 3) := by decide +kernel
theorem dX12_pack_150 : decode cX12_pack 150 = .ok (.iload_n 2, 1) := by decide +kernel
theorem dX12_pack_151 : decode cX12_pack 151 = .ok (.iaload, 1) := by decide +kernel
theorem dX12_pack_152 : decode cX12_pack 152 = .ok (.aload_n 0, 1) := by decide +kernel
theorem dX12_pack_153 : decode cX12_pack 153 = .ok (.getfield 130, 3) := by decide +kernel
theorem dX12_pack_156 : decode cX12_pack 156 = .ok (.iload_n 2, 1) := by decide +kernel
theorem dX12_pack_157 : decode cX12_pack 157 = .ok (.iaload, 1) := by decide +kernel
theorem dX12_pack_158 : decode cX12_pack 158 = .ok (.invokevirtual 221, 3) := by decide +kernel
theorem dX12_pack_161 : decode cX12_pack 161 = .ok (.pop, 1) := by decide +kernel
theorem dX12_pack_162 : decode cX12_pack 162 = .ok (.iinc 2 1, 3) := by decide +kernel
theorem dX12_pack_165 : decode cX12_pack 165 = .ok (.iinc 3 1, 3) := by decide +kernel
theorem dX12_pack_168 : decode cX12_pack 168 = .ok (.goto (-46), 3) := by decide +kernel
theorem dX12_pack_171 : decode cX12_pack 171 = .ok (.aload_n 0, 1) := by decide +kernel
theorem dX12_pack_172 : decode cX12_pack 172 = .ok (.iconst 0, 1) := by decide +kernel
theorem dX12_pack_173 : decode cX12_pack 173 = .ok (.putfield 303, 3) := by decide +kernel
theorem dX12_pack_176 : decode cX12_pack 176 = .ok (.aload_n 0, 1) := by decide +kernel
theorem dX12_pack_177 : decode cX12_pack 177 = .ok (.aload_n 0, 1) := by decide +kernel
theorem dX12_pack_178 : decode cX12_pack 178 = .ok (.iload_n 1, 1) := by decide +kernel
theorem dX12_pack_179 : decode cX12_pack 179 = .ok (.bipush 10, 2) := by decide +kernel
theorem dX12_pack_181 : decode cX12_pack 181 = .ok (.invokevirtual 318, 3) := by decide +kernel
theorem dX12_pack_184 : decode cX12_pack 184 = .ok (.invokevirtual 151, 3) := by decide +kernel
theorem dX12_pack_187 : decode cX12_pack 187 = .ok (.ireturn, 1) := by decide +kernel
theorem dX12_days_0 : decode cX12_days 0 = .ok (.iconst 0, 1) := by decide +kernel
theorem dX12_days_1 : decode cX12_days 1 = .ok (.istore_n 1, 1) := by decide +kernel
theorem dX12_days_2 : decode cX12_days 2 = .ok (.iconst 0, 1) := by decide +kernel
theorem dX12_days_3 : decode cX12_days 3 = .ok (.istore_n 2, 1) := by decide +kernel
theorem dX12_days_4 : decode cX12_days 4 = .ok (.iload_n 2, 1) := by decide +kernel
theorem dX12_days_5 : decode cX12_days 5 = .ok (.aload_n 0, 1) := by decide +kernel
theorem dX12_days_6 : decode cX12_days 6 = .ok (.getfield 259, 3) := by decide +kernel
theorem dX12_days_9 : decode cX12_days 9 = .ok (.if_icmp .ge 18, 3) := by decide +kernel
theorem dX12_days_12 : decode cX12_days 12 = .ok (.iload_n 1, 1) := by decide +kernel
theorem dX12_days_13 : decode cX12_days 13 = .ok (.aload_n 0, 1) := by decide +kernel
theorem dX12_days_14 : decode cX12_days 14 = .ok (.getfield 103, 3) := by decide +kernel
theorem dX12_days_17 : decode cX12_days 17 = .ok (.iload_n 2, 1) := by decide +kernel
theorem dX12_days_18 : decode cX12_days 18 = .ok (.iaload, 1) := by decide +kernel
theorem dX12_days_19 : decode cX12_days 19 = .ok (.iadd, 1) := by decide +kernel
theorem dX12_days_20 : decode cX12_days 20 = .ok (.istore_n 1, 1) := by decide +kernel
theorem dX12_days_21 : decode cX12_days 21 = .ok (.iinc 2 1, 3) := by decide +kernel
theorem dX12_days_24 : decode cX12_days 24 = .ok (.goto (-20), 3) := by decide +kernel
theorem dX12_days_27 : decode cX12_days 27 = .ok (.iload_n 1, 1) := by decide +kernel
theorem dX12_days_28 : decode cX12_days 28 = .ok (.ireturn, 1) := by decide +kernel
theorem dX12_all_0 : decode cX12_all 0 = .ok (.iconst 0, 1) := by decide +kernel
theorem dX12_all_1 : decode cX12_all 1 = .ok (.istore_n 2, 1) := by decide +kernel
theorem dX12_all_2 : decode cX12_all 2 = .ok (.iconst 0, 1) := by decide +kernel
theorem dX12_all_3 : decode cX12_all 3 = .ok (.istore_n 3, 1) := by decide +kernel
theorem dX12_all_4 : decode cX12_all 4 = .ok (.iload_n 3, 1) := by decide +kernel
theorem dX12_all_5 : decode cX12_all 5 = .ok (.aload_n 0, 1) := by decide +kernel
theorem dX12_all_6 : decode cX12_all 6 = .ok (.getfield 31, 3) := by decide +kernel
theorem dX12_all_9 : decode cX12_all 9 = .ok (.iconst 0, 1) := by decide +kernel
theorem dX12_all_10 : decode cX12_all 10 = .ok (.iaload, 1) := by decide +kernel
theorem dX12_all_11 : decode cX12_all 11 = .ok (.if_icmp .ge 15, 3) := by decide +kernel
theorem dX12_all_14 : decode cX12_all 14 = .ok (.iload_n 2, 1) := by decide +kernel
theorem dX12_all_15 : decode cX12_all 15 = .ok (.aload_n 1, 1) := by decide +kernel
theorem dX12_all_16 : decode cX12_all 16 = .ok (.iload_n 3, 1) := by decide +kernel
theorem dX12_all_17 : decode cX12_all 17 = .ok (.iaload, 1) := by decide +kernel
theorem dX12_all_18 : decode cX12_all 18 = .ok (.iadd, 1) := by decide +kernel
theorem dX12_all_19 : decode cX12_all 19 = .ok (.istore_n 2, 1) := by decide +kernel
theorem dX12_all_20 : decode cX12_all 20 = .ok (.iinc 3 1, 3) := by decide +kernel
theorem dX12_all_23 : decode cX12_all 23 = .ok (.goto (-19), 3) := by decide +kernel
theorem dX12_all_26 : decode cX12_all 26 = .ok (.iload_n 2, 1) := by decide +kernel
theorem dX12_all_27 : decode cX12_all 27 = .ok (.ireturn, 1) := by decide +kernel
theorem dX12_count_0 : decode cX12_count 0 = .ok (.iload_n 1, 1) := by decide +kernel
theorem dX12_count_1 : decode cX12_count 1 = .ok (.tableswitch 182 0 15 #[79, 86, 93, 99, 106, 113, 120, 129, 138, 145, 150, 157, 162, 167, 172, 177], 79) := by decide +kernel
theorem dX12_count_80 : decode cX12_count 80 = .ok (.aload_n 0, 1) := by decide +kernel
theorem dX12_count_81 : decode cX12_count 81 = .ok (.getfield 27, 3) := by decide +kernel
theorem dX12_count_84 : decode cX12_count 84 = .ok (.iconst 0, 1) := by decide +kernel
theorem dX12_count_85 : decode cX12_count 85 = .ok (.iaload, 1) := by decide +kernel
theorem dX12_count_86 : decode cX12_count 86 = .ok (.ireturn, 1) := by decide +kernel
theorem dX12_count_87 : decode cX12_count 87 = .ok (.aload_n 0, 1) := by decide +kernel
theorem dX12_count_88 : decode cX12_count 88 = .ok (.getfield 37, 3) := by decide +kernel
theorem dX12_count_91 : decode cX12_count 91 = .ok (.iconst 0, 1) := by decide +kernel
theorem dX12_count_92 : decode cX12_count 92 = .ok (.iaload, 1) := by decide +kernel
theorem dX12_count_93 : decode cX12_count 93 = .ok (.ireturn, 1) := by decide +kernel
theorem dX12_count_94 : decode cX12_count 94 = .ok (.aload_n 0, 1) := by decide +kernel
theorem dX12_count_95 : decode cX12_count 95 = .ok (.iconst (-1), 1) := by decide +kernel
theorem dX12_count_96 : decode cX12_count 96 = .ok (.invokevirtual 203, 3) := by decide +kernel
theorem dX12_count_99 : decode cX12_count 99 = .ok (.ireturn, 1) := by decide +kernel
theorem dX12_count_100 : decode cX12_count 100 = .ok (.aload_n 0, 1) := by decide +kernel
theorem dX12_count_101 : decode cX12_count 101 = .ok (.getfield 37, 3) := by decide +kernel
theorem dX12_count_104 : decode cX12_count 104 = .ok (.iconst 1, 1) := by decide +kernel
theorem dX12_count_105 : decode cX12_count 105 = .ok (.iaload, 1) := by decide +kernel
theorem dX12_count_106 : decode cX12_count 106 = .ok (.ireturn, 1) := by decide +kernel
theorem dX12_count_107 : decode cX12_count 107 = .ok (.aload_n 0, 1) := by decide +kernel
theorem dX12_count_108 : decode cX12_count 108 = .ok (.getfield 37, 3) := by decide +kernel
theorem dX12_count_111 : decode cX12_count 111 = .ok (.iconst 2, 1) := by decide +kernel
theorem dX12_count_112 : decode cX12_count 112 = .ok (.iaload, 1) := by decide +kernel
theorem dX12_count_113 : decode cX12_count 113 = .ok (.ireturn, 1) := by decide +kernel
theorem dX12_count_114 : decode cX12_count 114 = .ok (.aload_n 0, 1) := by decide +kernel
theorem dX12_count_115 : decode cX12_count 115 = .ok (.getfield 37, 3) := by decide +kernel
theorem dX12_count_118 : decode cX12_count 118 = .ok (.iconst 3, 1) := by decide +kernel
theorem dX12_count_119 : decode cX12_count 119 = .ok (.iaload, 1) := by decide +kernel
theorem dX12_count_120 : decode cX12_count 120 = .ok (.ireturn, 1) := by decide +kernel
theorem dX12_count_121 : decode cX12_count 121 = .ok (.aload_n 0, 1) := by decide +kernel
theorem dX12_count_122 : decode cX12_count 122 = .ok (.aload_n 0, 1) := by decide +kernel
theorem dX12_count_123 : decode cX12_count 123 = .ok (.getfield 55, 3) := by decide +kernel
theorem dX12_count_126 : decode cX12_count 126 = .ok (.invokevirtual 321, 3) := by decide +kernel
theorem dX12_count_129 : decode cX12_count 129 = .ok (.ireturn, 1) := by decide +kernel
theorem dX12_count_130 : decode cX12_count 130 = .ok (.aload_n 0, 1) := by decide +kernel
theorem dX12_count_131 : decode cX12_count 131 = .ok (.aload_n 0, 1) := by decide +kernel
theorem dX12_count_132 : decode cX12_count 132 = .ok (.getfield 58, 3) := by decide +kernel
theorem dX12_count_135 : decode cX12_count 135 = .ok (.invokevirtual 321, 3) := by decide +kernel
theorem dX12_count_138 : decode cX12_count 138 = .ok (.ireturn, 1) := by decide +kernel
theorem dX12_count_139 : decode cX12_count 139 = .ok (.aload_n 0, 1) := by decide +kernel
theorem dX12_count_140 : decode cX12_count 140 = .ok (.getfield 34, 3) := by decide +kernel
theorem dX12_count_143 : decode cX12_count 143 = .ok (.iconst 0, 1) := by decide +kernel
theorem dX12_count_144 : decode cX12_count 144 = .ok (.iaload, 1) := by decide +kernel
theorem dX12_count_145 : decode cX12_count 145 = .ok (.ireturn, 1) := by decide +kernel
theorem dX12_count_146 : decode cX12_count 146 = .ok (.aload_n 0, 1) := by decide +kernel
theorem dX12_count_147 : decode cX12_count 147 = .ok (.invokevirtual 296, 3) := by decide +kernel
theorem dX12_count_150 : decode cX12_count 150 = .ok (.ireturn, 1) := by decide +kernel
theorem dX12_count_151 : decode cX12_count 151 = .ok (.aload_n 0, 1) := by decide +kernel
theorem dX12_count_152 : decode cX12_count 152 = .ok (.getfield 31, 3) := by decide +kernel
theorem dX12_count_155 : decode cX12_count 155 = .ok (.iconst 0, 1) := by decide +kernel
theorem dX12_count_156 : decode cX12_count 156 = .ok (.iaload, 1) := by decide +kernel
theorem dX12_count_157 : decode cX12_count 157 = .ok (.ireturn, 1) := by decide +kernel
theorem dX12_count_158 : decode cX12_count 158 = .ok (.aload_n 0, 1) := by decide +kernel
theorem dX12_count_159 : decode cX12_count 159 = .ok (.getfield 259, 3) := by decide +kernel
theorem dX12_count_162 : decode cX12_count 162 = .ok (.ireturn, 1) := by decide +kernel
theorem dX12_count_163 : decode cX12_count 163 = .ok (.aload_n 0, 1) := by decide +kernel
theorem dX12_count_164 : decode cX12_count 164 = .ok (.invokevirtual 325, 3) := by decide +kernel
theorem dX12_count_167 : decode cX12_count 167 = .ok (.ireturn, 1) := by decide +kernel
theorem dX12_count_168 : decode cX12_count 168 = .ok (.aload_n 0, 1) := by decide +kernel
theorem dX12_count_169 : decode cX12_count 169 = .ok (.getfield 228, 3) := by decide +kernel
theorem dX12_count_172 : decode cX12_count 172 = .ok (.ireturn, 1) := by decide +kernel
theorem dX12_count_173 : decode cX12_count 173 = .ok (.aload_n 0, 1) := by decide +kernel
theorem dX12_count_174 : decode cX12_count 174 = .ok (.getfield 303, 3) := by decide +kernel
theorem dX12_count_177 : decode cX12_count 177 = .ok (.ireturn, 1) := by decide +kernel
theorem dX12_count_178 : decode cX12_count 178 = .ok (.aload_n 0, 1) := by decide +kernel
theorem dX12_count_179 : decode cX12_count 179 = .ok (.getfield 256, 3) := by decide +kernel
theorem dX12_count_182 : decode cX12_count 182 = .ok (.ireturn, 1) := by decide +kernel
theorem dX12_count_183 : decode cX12_count 183 = .ok (.iconst (-1), 1) := by decide +kernel
theorem dX12_count_184 : decode cX12_count 184 = .ok (.ireturn, 1) := by decide +kernel
theorem dX12_status_0 : decode cX12_status 0 = .ok (.aload_n 0, 1) := by decide +kernel
theorem dX12_status_1 : decode cX12_status 1 = .ok (.getfield 136, 3) := by decide +kernel
theorem dX12_status_4 : decode cX12_status 4 = .ok (.ireturn, 1) := by decide +kernel
