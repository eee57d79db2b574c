theorem dX11_init_0 : decode cX11_init 0 = .ok (.aload_n 0, 1) := by decide +kernel
theorem dX11_init_1 : decode cX11_init 1 = .ok (.invokespecial 3, 3) := by decide +kernel
theorem dX11_init_4 : decode cX11_init 4 = .ok (.aload_n 0, 1) := by decide +kernel
theorem dX11_init_5 : decode cX11_init 5 = .ok (.new 9, 3) := by decide +kernel
theorem dX11_init_8 : decode cX11_init 8 = .ok (.dup, 1) := by decide +kernel
theorem dX11_init_9 : decode cX11_init 9 = .ok (.invokespecial 11, 3) := by decide +kernel
theorem dX11_init_12 : decode cX11_init 12 = .ok (.putfield 12, 3) := by decide +kernel
theorem dX11_init_15 : decode cX11_init 15 = .ok (.aload_n 0, 1) := by decide +kernel
theorem dX11_init_16 : decode cX11_init 16 = .ok (.new 16, 3) := by decide +kernel
theorem dX11_init_19 : decode cX11_init 19 = .ok (.dup, 1) := by decide +kernel
theorem dX11_init_20 : decode cX11_init 20 = .ok (.invokespecial 18, 3) := by decide +kernel
theorem dX11_init_23 : decode cX11_init 23 = .ok (.putfield 19, 3) := by decide +kernel
theorem dX11_init_26 : decode cX11_init 26 = .ok (.aload_n 0, 1) := by decide +kernel
theorem dX11_init_27 : decode cX11_init 27 = .ok (.new 23, 3) := by decide +kernel
theorem dX11_init_30 : decode cX11_init 30 = .ok (.dup, 1) := by decide +kernel
theorem dX11_init_31 : decode cX11_init 31 = .ok (.invokespecial 25, 3) := by decide +kernel
theorem dX11_init_34 : decode cX11_init 34 = .ok (.putfield 26, 3) := by decide +kernel
theorem dX11_init_37 : decode cX11_init 37 = .ok (.aload_n 0, 1) := by decide +kernel
theorem dX11_init_38 : decode cX11_init 38 = .ok (.new 30, 3) := by decide +kernel
theorem dX11_init_41 : decode cX11_init 41 = .ok (.dup, 1) := by decide +kernel
theorem dX11_init_42 : decode cX11_init 42 = .ok (.invokespecial 32, 3) := by decide +kernel
theorem dX11_init_45 : decode cX11_init 45 = .ok (.putfield 33, 3) := by decide +kernel
theorem dX11_init_48 : decode cX11_init 48 = .ok (.aload_n 0, 1) := by decide +kernel
theorem dX11_init_49 : decode cX11_init 49 = .ok (.new 37, 3) := by decide +kernel
theorem dX11_init_52 : decode cX11_init 52 = .ok (.dup, 1) := by decide +kernel
theorem dX11_init_53 : decode cX11_init 53 = .ok (.invokespecial 39, 3) := by decide +kernel
theorem dX11_init_56 : decode cX11_init 56 = .ok (.putfield 40, 3) := by decide +kernel
theorem dX11_init_59 : decode cX11_init 59 = .ok (.aload_n 0, 1) := by decide +kernel
theorem dX11_init_60 : decode cX11_init 60 = .ok (.iconst 3, 1) := by decide +kernel
theorem dX11_init_61 : decode cX11_init 61 = .ok (.newarray .int, 2) := by decide +kernel
theorem dX11_init_63 : decode cX11_init 63 = .ok (.putfield 44, 3) := by decide +kernel
theorem dX11_init_66 : decode cX11_init 66 = .ok (.aload_n 0, 1) := by decide +kernel
theorem dX11_init_67 : decode cX11_init 67 = .ok (.sipush 180, 3) := by decide +kernel
theorem dX11_init_70 : decode cX11_init 70 = .ok (.newarray .int, 2) := by decide +kernel
theorem dX11_init_72 : decode cX11_init 72 = .ok (.putfield 48, 3) := by decide +kernel
theorem dX11_init_75 : decode cX11_init 75 = .ok (.aload_n 0, 1) := by decide +kernel
theorem dX11_init_76 : decode cX11_init 76 = .ok (.sipush 180, 3) := by decide +kernel
theorem dX11_init_79 : decode cX11_init 79 = .ok (.newarray .int, 2) := by decide +kernel
theorem dX11_init_81 : decode cX11_init 81 = .ok (.putfield 51, 3) := by decide +kernel
theorem dX11_init_84 : decode cX11_init 84 = .ok (.aload_n 0, 1) := by decide +kernel
theorem dX11_init_85 : decode cX11_init 85 = .ok (.iconst 4, 1) := by decide +kernel
theorem dX11_init_86 : decode cX11_init 86 = .ok (.anewarray 9, 3) := by decide +kernel
theorem dX11_init_89 : decode cX11_init 89 = .ok (.putfield 54, 3) := by decide +kernel
theorem dX11_init_92 : decode cX11_init 92 = .ok (.return_, 1) := by decide +kernel
theorem dX11_room_0 : decode cX11_room 0 = .ok (.iload_n 1, 1) := by decide +kernel
theorem dX11_room_1 : decode cX11_room 1 = .ok (.iconst 2, 1) := by decide +kernel
theorem dX11_room_2 : decode cX11_room 2 = .ok (.if_icmp .ne 18, 3) := by decide +kernel
theorem dX11_room_5 : decode cX11_room 5 = .ok (.aload_n 0, 1) := by decide +kernel
theorem dX11_room_6 : decode cX11_room 6 = .ok (.getfield 12, 3) := by decide +kernel
theorem dX11_room_9 : decode cX11_room 9 = .ok (.getfield 58, 3) := by decide +kernel
theorem dX11_room_12 : decode cX11_room 12 = .ok (.iload 5, 2) := by decide +kernel
theorem dX11_room_14 : decode cX11_room 14 = .ok (.invokevirtual 62, 3) := by decide +kernel
theorem dX11_room_17 : decode cX11_room 17 = .ok (.goto 14, 3) := by decide +kernel
theorem dX11_room_20 : decode cX11_room 20 = .ok (.iload 5, 2) := by decide +kernel
theorem dX11_room_22 : decode cX11_room 22 = .ok (.iconst (-1), 1) := by decide +kernel
theorem dX11_room_23 : decode cX11_room 23 = .ok (.if_icmp .ne 7, 3) := by decide +kernel
theorem dX11_room_26 : decode cX11_room 26 = .ok (.iconst 1, 1) := by decide +kernel
theorem dX11_room_27 : decode cX11_room 27 = .ok (.goto 4, 3) := by decide +kernel
theorem dX11_room_30 : decode cX11_room 30 = .ok (.iconst 0, 1) := by decide +kernel
theorem dX11_room_31 : decode cX11_room 31 = .ok (.istore 6, 2) := by decide +kernel
theorem dX11_room_33 : decode cX11_room 33 = .ok (.iload_n 1, 1) := by decide +kernel
theorem dX11_room_34 : decode cX11_room 34 = .ok (.iconst 0, 1) := by decide +kernel
theorem dX11_room_35 : decode cX11_room 35 = .ok (.iconst 5, 1) := by decide +kernel
theorem dX11_room_36 : decode cX11_room 36 = .ok (.invokestatic 68, 3) := by decide +kernel
theorem dX11_room_39 : decode cX11_room 39 = .ok (.ifCond .eq 38, 3) := by decide +kernel
theorem dX11_room_42 : decode cX11_room 42 = .ok (.iload_n 2, 1) := by decide +kernel
theorem dX11_room_43 : decode cX11_room 43 = .ok (.iconst 1, 1) := by decide +kernel
theorem dX11_room_44 : decode cX11_room 44 = .ok (.bipush 6, 2) := by decide +kernel
theorem dX11_room_46 : decode cX11_room 46 = .ok (.invokestatic 68, 3) := by decide +kernel
theorem dX11_room_49 : decode cX11_room 49 = .ok (.ifCond .eq 28, 3) := by decide +kernel
theorem dX11_room_52 : decode cX11_room 52 = .ok (.iload_n 3, 1) := by decide +kernel
theorem dX11_room_53 : decode cX11_room 53 = .ok (.iconst 1, 1) := by decide +kernel
theorem dX11_room_54 : decode cX11_room 54 = .ok (.bipush 6, 2) := by decide +kernel
theorem dX11_room_56 : decode cX11_room 56 = .ok (.invokestatic 68, 3) := by decide +kernel
theorem dX11_room_59 : decode cX11_room 59 = .ok (.ifCond .eq 18, 3) := by decide +kernel
theorem dX11_room_62 : decode cX11_room 62 = .ok (.iload 4, 2) := by decide +kernel
theorem dX11_room_64 : decode cX11_room 64 = .ok (.iconst 1, 1) := by decide +kernel
theorem dX11_room_65 : decode cX11_room 65 = .ok (.iconst 5, 1) := by decide +kernel
theorem dX11_room_66 : decode cX11_room 66 = .ok (.invokestatic 68, 3) := by decide +kernel
theorem dX11_room_69 : decode cX11_room 69 = .ok (.ifCond .eq 8, 3) := by decide +kernel
theorem dX11_room_72 : decode cX11_room 72 = .ok (.iload 6, 2) := by decide +kernel
theorem dX11_room_74 : decode cX11_room 74 = .ok (.ifCond .ne 9, 3) := by decide +kernel
theorem dX11_room_77 : decode cX11_room 77 = .ok (.aload_n 0, 1) := by decide +kernel
theorem dX11_room_78 : decode cX11_room 78 = .ok (.iconst (-1), 1) := by decide +kernel
theorem dX11_room_79 : decode cX11_room 79 = .ok (.invokevirtual 72, 3) := by decide +kernel
theorem dX11_room_82 : decode cX11_room 82 = .ok (.ireturn, 1) := by decide +kernel
theorem dX11_room_83 : decode cX11_room 83 = .ok (.aload_n 0, 1) := by decide +kernel
theorem dX11_room_84 : decode cX11_room 84 = .ok (.getfield 12, 3) := by decide +kernel
theorem dX11_room_87 : decode cX11_room 87 = .ok (.getfield 58, 3) := by decide +kernel
theorem dX11_room_90 : decode cX11_room 90 = .ok (.getfield 76, 3) := by decide +kernel
theorem dX11_room_93 : decode cX11_room 93 = .ok (.bipush 8, 2) := by decide +kernel
theorem dX11_room_95 : decode cX11_room 95 = .ok (.if_icmp .lt 10, 3) := by decide +kernel
theorem dX11_room_98 : decode cX11_room 98 = .ok (.aload_n 0, 1) := by decide +kernel
theorem dX11_room_99 : decode cX11_room 99 = .ok (.bipush (-6), 2) := by decide +kernel
theorem dX11_room_101 : decode cX11_room 101 = .ok (.invokevirtual 72, 3) := by decide +kernel
theorem dX11_room_104 : decode cX11_room 104 = .ok (.ireturn, 1) := by decide +kernel
theorem dX11_room_105 : decode cX11_room 105 = .ok (.aload_n 0, 1) := by decide +kernel
theorem dX11_room_106 : decode cX11_room 106 = .ok (.aload_n 0, 1) := by decide +kernel
theorem dX11_room_107 : decode cX11_room 107 = .ok (.getfield 12, 3) := by decide +kernel
theorem dX11_room_110 : decode cX11_room 110 = .ok (.getfield 58, 3) := by decide +kernel
theorem dX11_room_113 : decode cX11_room 113 = .ok (.iload_n 1, 1) := by decide +kernel
theorem dX11_room_114 : decode cX11_room 114 = .ok (.iload_n 2, 1) := by decide +kernel
theorem dX11_room_115 : decode cX11_room 115 = .ok (.iload_n 3, 1) := by decide +kernel
theorem dX11_room_116 : decode cX11_room 116 = .ok (.iload 4, 2) := by decide +kernel
theorem dX11_room_118 : decode cX11_room 118 = .ok (.iload 5, 2) := by decide +kernel
theorem dX11_room_120 : decode cX11_room 120 = .ok (.invokevirtual 80, 3) := by decide +kernel
theorem dX11_room_123 : decode cX11_room 123 = .ok (.invokevirtual 72, 3) := by decide +kernel
theorem dX11_room_126 : decode cX11_room 126 = .ok (.ireturn, 1) := by decide +kernel
theorem dX11_rooms_0 : decode cX11_rooms 0 = .ok (.iload_n 2, 1) := by decide +kernel
theorem dX11_rooms_1 : decode cX11_rooms 1 = .ok (.iconst 0, 1) := by decide +kernel
theorem dX11_rooms_2 : decode cX11_rooms 2 = .ok (.bipush 11, 2) := by decide +kernel
theorem dX11_rooms_4 : decode cX11_rooms 4 = .ok (.invokestatic 68, 3) := by decide +kernel
theorem dX11_rooms_7 : decode cX11_rooms 7 = .ok (.ifCond .ne 5, 3) := by decide +kernel
theorem dX11_rooms_10 : decode cX11_rooms 10 = .ok (.iconst (-1), 1) := by decide +kernel
theorem dX11_rooms_11 : decode cX11_rooms 11 = .ok (.ireturn, 1) := by decide +kernel
theorem dX11_rooms_12 : decode cX11_rooms 12 = .ok (.aload_n 0, 1) := by decide +kernel
theorem dX11_rooms_13 : decode cX11_rooms 13 = .ok (.getfield 12, 3) := by decide +kernel
theorem dX11_rooms_16 : decode cX11_rooms 16 = .ok (.getfield 58, 3) := by decide +kernel
theorem dX11_rooms_19 : decode cX11_rooms 19 = .ok (.iload_n 1, 1) := by decide +kernel
theorem dX11_rooms_20 : decode cX11_rooms 20 = .ok (.invokevirtual 62, 3) := by decide +kernel
theorem dX11_rooms_23 : decode cX11_rooms 23 = .ok (.ifCond .ne 6, 3) := by decide +kernel
theorem dX11_rooms_26 : decode cX11_rooms 26 = .ok (.bipush (-2), 2) := by decide +kernel
theorem dX11_rooms_28 : decode cX11_rooms 28 = .ok (.ireturn, 1) := by decide +kernel
theorem dX11_rooms_29 : decode cX11_rooms 29 = .ok (.iload_n 2, 1) := by decide +kernel
theorem dX11_rooms_30 : decode cX11_rooms 30 = .ok (.tableswitch 197 0 10 #[58, 71, 84, 97, 110, 123, 140, 149, 158, 171, 184], 58) := by decide +kernel
theorem dX11_rooms_88 : decode cX11_rooms 88 = .ok (.aload_n 0, 1) := by decide +kernel
theorem dX11_rooms_89 : decode cX11_rooms 89 = .ok (.getfield 12, 3) := by decide +kernel
theorem dX11_rooms_92 : decode cX11_rooms 92 = .ok (.getfield 58, 3) := by decide +kernel
theorem dX11_rooms_95 : decode cX11_rooms 95 = .ok (.getfield 84, 3) := by decide +kernel
theorem dX11_rooms_98 : decode cX11_rooms 98 = .ok (.iload_n 1, 1) := by decide +kernel
theorem dX11_rooms_99 : decode cX11_rooms 99 = .ok (.iaload, 1) := by decide +kernel
theorem dX11_rooms_100 : decode cX11_rooms 100 = .ok (.ireturn, 1) := by decide +kernel
theorem dX11_rooms_101 : decode cX11_rooms 101 = .ok (.aload_n 0, 1) := by decide +kernel
theorem dX11_rooms_102 : decode cX11_rooms 102 = .ok (.getfield 12, 3) := by decide +kernel
theorem dX11_rooms_105 : decode cX11_rooms 105 = .ok (.getfield 58, 3) := by decide +kernel
theorem dX11_rooms_108 : decode cX11_rooms 108 = .ok (.getfield 87, 3) := by decide +kernel
theorem dX11_rooms_111 : decode cX11_rooms 111 = .ok (.iload_n 1, 1) := by decide +kernel
theorem dX11_rooms_112 : decode cX11_rooms 112 = .ok (.iaload, 1) := by decide +kernel
theorem dX11_rooms_113 : decode cX11_rooms 113 = .ok (.ireturn, 1) := by decide +kernel
theorem dX11_rooms_114 : decode cX11_rooms 114 = .ok (.aload_n 0, 1) := by decide +kernel
theorem dX11_rooms_115 : decode cX11_rooms 115 = .ok (.getfield 12, 3) := by decide +kernel
theorem dX11_rooms_118 : decode cX11_rooms 118 = .ok (.getfield 58, 3) := by decide +kernel
theorem dX11_rooms_121 : decode cX11_rooms 121 = .ok (.getfield 90, 3) := by decide +kernel
theorem dX11_rooms_124 : decode cX11_rooms 124 = .ok (.iload_n 1, 1) := by decide +kernel
theorem dX11_rooms_125 : decode cX11_rooms 125 = .ok (.iaload, 1) := by decide +kernel
theorem dX11_rooms_126 : decode cX11_rooms 126 = .ok (.ireturn, 1) := by decide +kernel
theorem dX11_rooms_127 : decode cX11_rooms 127 = .ok (.aload_n 0, 1) := by decide +kernel
theorem dX11_rooms_128 : decode cX11_rooms 128 = .ok (.getfield 12, 3) := by decide +kernel
theorem dX11_rooms_131 : decode cX11_rooms 131 = .ok (.getfield 58, 3) := by decide +kernel
theorem dX11_rooms_134 : decode cX11_rooms 134 = .ok (.getfield 93, 3) := by decide +kernel
theorem dX11_rooms_137 : decode cX11_rooms 137 = .ok (.iload_n 1, 1) := by decide +kernel
theorem dX11_rooms_138 : decode cX11_rooms 138 = .ok (.iaload, 1) := by decide +kernel
theorem dX11_rooms_139 : decode cX11_rooms 139 = .ok (.ireturn, 1) := by decide +kernel
theorem dX11_rooms_140 : decode cX11_rooms 140 = .ok (.aload_n 0, 1) := by decide +kernel
theorem dX11_rooms_141 : decode cX11_rooms 141 = .ok (.getfield 12, 3) := by decide +kernel
theorem dX11_rooms_144 : decode cX11_rooms 144 = .ok (.getfield 58, 3) := by decide +kernel
theorem dX11_rooms_147 : decode cX11_rooms 147 = .ok (.getfield 96, 3) := by decide +kernel
theorem dX11_rooms_150 : decode cX11_rooms 150 = .ok (.iload_n 1, 1) := by decide +kernel
theorem dX11_rooms_151 : decode cX11_rooms 151 = .ok (.iaload, 1) := by decide +kernel
theorem dX11_rooms_152 : decode cX11_rooms 152 = .ok (.ireturn, 1) := by decide +kernel
theorem dX11_rooms_153 : decode cX11_rooms 153 = .ok (.aload_n 0, 1) := by decide +kernel
theorem dX11_rooms_154 : decode cX11_rooms 154 = .ok (.getfield 26, 3) := by decide +kernel
theorem dX11_rooms_157 : decode cX11_rooms 157 = .ok (.aload_n 0, 1) := by decide +kernel
theorem dX11_rooms_158 : decode cX11_rooms 158 = .ok (.getfield 12, 3) := by decide +kernel
theorem dX11_rooms_161 : decode cX11_rooms 161 = .ok (.iload_n 1, 1) := by decide +kernel
theorem dX11_rooms_162 : decode cX11_rooms 162 = .ok (.aload_n 0, 1) := by decide +kernel
theorem dX11_rooms_163 : decode cX11_rooms 163 = .ok (.invokevirtual 99, 3) := by decide +kernel
theorem dX11_rooms_166 : decode cX11_rooms 166 = .ok (.invokevirtual 103, 3) := by decide +kernel
theorem dX11_rooms_169 : decode cX11_rooms 169 = .ok (.ireturn, 1) := by decide +kernel
theorem dX11_rooms_170 : decode cX11_rooms 170 = .ok (.aload_n 0, 1) := by decide +kernel
theorem dX11_rooms_171 : decode cX11_rooms 171 = .ok (.getfield 12, 3) := by decide +kernel
theorem dX11_rooms_174 : decode cX11_rooms 174 = .ok (.iload_n 1, 1) := by decide +kernel
theorem dX11_rooms_175 : decode cX11_rooms 175 = .ok (.invokevirtual 107, 3) := by decide +kernel
theorem dX11_rooms_178 : decode cX11_rooms 178 = .ok (.ireturn, 1) := by decide +kernel
theorem dX11_rooms_179 : decode cX11_rooms 179 = .ok (.aload_n 0, 1) := by decide +kernel
theorem dX11_rooms_180 : decode cX11_rooms 180 = .ok (.getfield 12, 3) := by decide +kernel
theorem dX11_rooms_183 : decode cX11_rooms 183 = .ok (.iload_n 1, 1) := by decide +kernel
theorem dX11_rooms_184 : decode cX11_rooms 184 = .ok (.invokevirtual 110, 3) := by decide +kernel
theorem dX11_rooms_187 : decode cX11_rooms 187 = .ok (.ireturn, 1) := by decide +kernel
theorem dX11_rooms_188 : decode cX11_rooms 188 = .ok (.aload_n 0, 1) := by decide +kernel
theorem dX11_rooms_189 : decode cX11_rooms 189 = .ok (.getfield 12, 3) := by decide +kernel
theorem dX11_rooms_192 : decode cX11_rooms 192 = .ok (.getfield 58, 3) := by decide +kernel
theorem dX11_rooms_195 : decode cX11_rooms 195 = .ok (.getfield 113, 3) := by decide +kernel
theorem dX11_rooms_198 : decode cX11_rooms 198 = .ok (.iload_n 1, 1) := by decide +kernel
theorem dX11_rooms_199 : decode cX11_rooms 199 = .ok (.iaload, 1) := by decide +kernel
theorem dX11_rooms_200 : decode cX11_rooms 200 = .ok (.ireturn, 1) := by decide +kernel
theorem dX11_rooms_201 : decode cX11_rooms 201 = .ok (.aload_n 0, 1) := by decide +kernel
theorem dX11_rooms_202 : decode cX11_rooms 202 = .ok (.getfield 12, 3) := by decide +kernel
theorem dX11_rooms_205 : decode cX11_rooms 205 = .ok (.getfield 58, 3) := by decide +kernel
theorem dX11_rooms_208 : decode cX11_rooms 208 = .ok (.getfield 116, 3) := by decide +kernel
theorem dX11_rooms_211 : decode cX11_rooms 211 = .ok (.iload_n 1, 1) := by decide +kernel
theorem dX11_rooms_212 : decode cX11_rooms 212 = .ok (.iaload, 1) := by decide +kernel
theorem dX11_rooms_213 : decode cX11_rooms 213 = .ok (.ireturn, 1) := by decide +kernel
theorem dX11_rooms_214 : decode cX11_rooms 214 = .ok (.aload_n 0, 1) := by decide +kernel
theorem dX11_rooms_215 : decode cX11_rooms 215 = .ok (.getfield 26, 3) := by decide +kernel
theorem dX11_rooms_218 : decode cX11_rooms 218 = .ok (.aload_n 0, 1) := by decide +kernel
theorem dX11_rooms_219 : decode cX11_rooms 219 = .ok (.getfield 12, 3) := by decide +kernel
theorem dX11_rooms_222 : decode cX11_rooms 222 = .ok (.iload_n 1, 1) := by decide +kernel
theorem dX11_rooms_223 : decode cX11_rooms 223 = .ok (.invokevirtual 119, 3) := by decide +kernel
theorem dX11_rooms_226 : decode cX11_rooms 226 = .ok (.ireturn, 1) := by decide +kernel
theorem dX11_rooms_227 : decode cX11_rooms 227 = .ok (.aload_n 0, 1) := by decide +kernel
theorem dX11_rooms_228 : decode cX11_rooms 228 = .ok (.getfield 12, 3) := by decide +kernel
theorem dX11_rooms_231 : decode cX11_rooms 231 = .ok (.getfield 58, 3) := by decide +kernel
theorem dX11_rooms_234 : decode cX11_rooms 234 = .ok (.iload_n 1, 1) := by decide +kernel
theorem dX11_rooms_235 : decode cX11_rooms 235 = .ok (.invokevirtual 123, 3) := by decide +kernel
theorem dX11_rooms_238 : decode cX11_rooms 238 = .ok (.ireturn, 1) := by decide +kernel
theorem dX11_lay_0 : decode cX11_lay 0 = .ok (.aload_n 0, 1) := by decide +kernel
theorem dX11_lay_1 : decode cX11_lay 1 = .ok (.iload_n 1, 1) := by decide +kernel
theorem dX11_lay_2 : decode cX11_lay 2 = .ok (.iload_n 2, 1) := by decide +kernel
theorem dX11_lay_3 : decode cX11_lay 3 = .ok (.iload_n 3, 1) := by decide +kernel
theorem dX11_lay_4 : decode cX11_lay 4 = .ok (.invokevirtual 126, 3) := by decide +kernel
theorem dX11_lay_7 : decode cX11_lay 7 = .ok (.istore 4, 2) := by decide +kernel
theorem dX11_lay_9 : decode cX11_lay 9 = .ok (.iload 4, 2) := by decide +kernel
theorem dX11_lay_11 : decode cX11_lay 11 = .ok (.ifCond .eq 10, 3) := by decide +kernel
theorem dX11_lay_14 : decode cX11_lay 14 = .ok (.aload_n 0, 1) := by decide +kernel
theorem dX11_lay_15 : decode cX11_lay 15 = .ok (.iload 4, 2) := by decide +kernel
theorem dX11_lay_17 : decode cX11_lay 17 = .ok (.invokevirtual 72, 3) := by decide +kernel
theorem dX11_lay_20 : decode cX11_lay 20 = .ok (.ireturn, 1) := by decide +kernel
theorem dX11_lay_21 : decode cX11_lay 21 = .ok (.aload_n 0, 1) := by decide +kernel
theorem dX11_lay_22 : decode cX11_lay 22 = .ok (.getfield 12, 3) := by decide +kernel
theorem dX11_lay_25 : decode cX11_lay 25 = .ok (.getfield 58, 3) := by decide +kernel
theorem dX11_lay_28 : decode cX11_lay 28 = .ok (.getfield 90, 3) := by decide +kernel
theorem dX11_lay_31 : decode cX11_lay 31 = .ok (.iload_n 1, 1) := by decide +kernel
theorem dX11_lay_32 : decode cX11_lay 32 = .ok (.iaload, 1) := by decide +kernel
theorem dX11_lay_33 : decode cX11_lay 33 = .ok (.istore 5, 2) := by decide +kernel
theorem dX11_lay_35 : decode cX11_lay 35 = .ok (.iload_n 3, 1) := by decide +kernel
theorem dX11_lay_36 : decode cX11_lay 36 = .ok (.iload 5, 2) := by decide +kernel
theorem dX11_lay_38 : decode cX11_lay 38 = .ok (.iload_n 2, 1) := by decide +kernel
theorem dX11_lay_39 : decode cX11_lay 39 = .ok (.imul, 1) := by decide +kernel
theorem dX11_lay_40 : decode cX11_lay 40 = .ok (.iadd, 1) := by decide +kernel
theorem dX11_lay_41 : decode cX11_lay 41 = .ok (.istore 6, 2) := by decide +kernel
theorem dX11_lay_43 : decode cX11_lay 43 = .ok (.aload_n 0, 1) := by decide +kernel
theorem dX11_lay_44 : decode cX11_lay 44 = .ok (.getfield 12, 3) := by decide +kernel
theorem dX11_lay_47 : decode cX11_lay 47 = .ok (.getfield 58, 3) := by decide +kernel
theorem dX11_lay_50 : decode cX11_lay 50 = .ok (.iload_n 1, 1) := by decide +kernel
theorem dX11_lay_51 : decode cX11_lay 51 = .ok (.iload 6, 2) := by decide +kernel
theorem dX11_lay_53 : decode cX11_lay 53 = .ok (.invokevirtual 130, 3) := by decide +kernel
theorem dX11_lay_56 : decode cX11_lay 56 = .ok (.ifCond .ne 26, 3) := by decide +kernel
theorem dX11_lay_59 : decode cX11_lay 59 = .ok (.iload_n 2, 1) := by decide +kernel
theorem dX11_lay_60 : decode cX11_lay 60 = .ok (.ifCond .le 29, 3) := by decide +kernel
theorem dX11_lay_63 : decode cX11_lay 63 = .ok (.aload_n 0, 1) := by decide +kernel
theorem dX11_lay_64 : decode cX11_lay 64 = .ok (.getfield 12, 3) := by decide +kernel
theorem dX11_lay_67 : decode cX11_lay 67 = .ok (.getfield 58, 3) := by decide +kernel
theorem dX11_lay_70 : decode cX11_lay 70 = .ok (.iload_n 1, 1) := by decide +kernel
theorem dX11_lay_71 : decode cX11_lay 71 = .ok (.iload 6, 2) := by decide +kernel
theorem dX11_lay_73 : decode cX11_lay 73 = .ok (.iload 5, 2) := by decide +kernel
theorem dX11_lay_75 : decode cX11_lay 75 = .ok (.isub, 1) := by decide +kernel
theorem dX11_lay_76 : decode cX11_lay 76 = .ok (.invokevirtual 130, 3) := by decide +kernel
theorem dX11_lay_79 : decode cX11_lay 79 = .ok (.ifCond .ne 10, 3) := by decide +kernel
theorem dX11_lay_82 : decode cX11_lay 82 = .ok (.aload_n 0, 1) := by decide +kernel
theorem dX11_lay_83 : decode cX11_lay 83 = .ok (.bipush (-7), 2) := by decide +kernel
theorem dX11_lay_85 : decode cX11_lay 85 = .ok (.invokevirtual 72, 3) := by decide +kernel
theorem dX11_lay_88 : decode cX11_lay 88 = .ok (.ireturn, 1) := by decide +kernel
theorem dX11_lay_89 : decode cX11_lay 89 = .ok (.aload_n 0, 1) := by decide +kernel
theorem dX11_lay_90 : decode cX11_lay 90 = .ok (.getfield 12, 3) := by decide +kernel
theorem dX11_lay_93 : decode cX11_lay 93 = .ok (.getfield 58, 3) := by decide +kernel
theorem dX11_lay_96 : decode cX11_lay 96 = .ok (.getfield 134, 3) := by decide +kernel
theorem dX11_lay_99 : decode cX11_lay 99 = .ok (.iload_n 1, 1) := by decide +kernel
theorem dX11_lay_100 : decode cX11_lay 100 = .ok (.dup2, 1) := by decide +kernel
theorem dX11_lay_101 : decode cX11_lay 101 = .ok (.iaload, 1) := by decide +kernel
theorem dX11_lay_102 : decode cX11_lay 102 = .ok (.iconst 1, 1) := by decide +kernel
theorem dX11_lay_103 : decode cX11_lay 103 = .ok (.iload 6, 2) := by decide +kernel
theorem dX11_lay_105 : decode cX11_lay 105 = .ok (.ishl, 1) := by decide +kernel
theorem dX11_lay_106 : decode cX11_lay 106 = .ok (.ior, 1) := by decide +kernel
theorem dX11_lay_107 : decode cX11_lay 107 = .ok (.iastore, 1) := by decide +kernel
theorem dX11_lay_108 : decode cX11_lay 108 = .ok (.aload_n 0, 1) := by decide +kernel
theorem dX11_lay_109 : decode cX11_lay 109 = .ok (.iconst 0, 1) := by decide +kernel
theorem dX11_lay_110 : decode cX11_lay 110 = .ok (.invokevirtual 72, 3) := by decide +kernel
theorem dX11_lay_113 : decode cX11_lay 113 = .ok (.ireturn, 1) := by decide +kernel
theorem dX11_tear_0 : decode cX11_tear 0 = .ok (.aload_n 0, 1) := by decide +kernel
theorem dX11_tear_1 : decode cX11_tear 1 = .ok (.iload_n 1, 1) := by decide +kernel
theorem dX11_tear_2 : decode cX11_tear 2 = .ok (.iload_n 2, 1) := by decide +kernel
theorem dX11_tear_3 : decode cX11_tear 3 = .ok (.iload_n 3, 1) := by decide +kernel
theorem dX11_tear_4 : decode cX11_tear 4 = .ok (.invokevirtual 126, 3) := by decide +kernel
theorem dX11_tear_7 : decode cX11_tear 7 = .ok (.istore 4, 2) := by decide +kernel
theorem dX11_tear_9 : decode cX11_tear 9 = .ok (.iload 4, 2) := by decide +kernel
theorem dX11_tear_11 : decode cX11_tear 11 = .ok (.ifCond .eq 10, 3) := by decide +kernel
theorem dX11_tear_14 : decode cX11_tear 14 = .ok (.aload_n 0, 1) := by decide +kernel
theorem dX11_tear_15 : decode cX11_tear 15 = .ok (.iload 4, 2) := by decide +kernel
theorem dX11_tear_17 : decode cX11_tear 17 = .ok (.invokevirtual 72, 3) := by decide +kernel
theorem dX11_tear_20 : decode cX11_tear 20 = .ok (.ireturn, 1) := by decide +kernel
theorem dX11_tear_21 : decode cX11_tear 21 = .ok (.aload_n 0, 1) := by decide +kernel
theorem dX11_tear_22 : decode cX11_tear 22 = .ok (.getfield 12, 3) := by decide +kernel
theorem dX11_tear_25 : decode cX11_tear 25 = .ok (.getfield 58, 3) := by decide +kernel
theorem dX11_tear_28 : decode cX11_tear 28 = .ok (.getfield 90, 3) := by decide +kernel
theorem dX11_tear_31 : decode cX11_tear 31 = .ok (.iload_n 1, 1) := by decide +kernel
theorem dX11_tear_32 : decode cX11_tear 32 = .ok (.iaload, 1) := by decide +kernel
theorem dX11_tear_33 : decode cX11_tear 33 = .ok (.istore 5, 2) := by decide +kernel
theorem dX11_tear_35 : decode cX11_tear 35 = .ok (.iload_n 3, 1) := by decide +kernel
theorem dX11_tear_36 : decode cX11_tear 36 = .ok (.iload 5, 2) := by decide +kernel
theorem dX11_tear_38 : decode cX11_tear 38 = .ok (.iload_n 2, 1) := by decide +kernel
theorem dX11_tear_39 : decode cX11_tear 39 = .ok (.imul, 1) := by decide +kernel
theorem dX11_tear_40 : decode cX11_tear 40 = .ok (.iadd, 1) := by decide +kernel
theorem dX11_tear_41 : decode cX11_tear 41 = .ok (.istore 6, 2) := by decide +kernel
theorem dX11_tear_43 : decode cX11_tear 43 = .ok (.aload_n 0, 1) := by decide +kernel
theorem dX11_tear_44 : decode cX11_tear 44 = .ok (.getfield 12, 3) := by decide +kernel
theorem dX11_tear_47 : decode cX11_tear 47 = .ok (.getfield 58, 3) := by decide +kernel
theorem dX11_tear_50 : decode cX11_tear 50 = .ok (.iload_n 1, 1) := by decide +kernel
theorem dX11_tear_51 : decode cX11_tear 51 = .ok (.iload 6, 2) := by decide +kernel
theorem dX11_tear_53 : decode cX11_tear 53 = .ok (.invokevirtual 130, 3) := by decide +kernel
theorem dX11_tear_56 : decode cX11_tear 56 = .ok (.ifCond .ne 10, 3) := by decide +kernel
theorem dX11_tear_59 : decode cX11_tear 59 = .ok (.aload_n 0, 1) := by decide +kernel
theorem dX11_tear_60 : decode cX11_tear 60 = .ok (.bipush (-3), 2) := by decide +kernel
theorem dX11_tear_62 : decode cX11_tear 62 = .ok (.invokevirtual 72, 3) := by decide +kernel
theorem dX11_tear_65 : decode cX11_tear 65 = .ok (.ireturn, 1) := by decide +kernel
theorem dX11_tear_66 : decode cX11_tear 66 = .ok (.aload_n 0, 1) := by decide +kernel
theorem dX11_tear_67 : decode cX11_tear 67 = .ok (.getfield 12, 3) := by decide +kernel
theorem dX11_tear_70 : decode cX11_tear 70 = .ok (.getfield 58, 3) := by decide +kernel
theorem dX11_tear_73 : decode cX11_tear 73 = .ok (.iload_n 1, 1) := by decide +kernel
theorem dX11_tear_74 : decode cX11_tear 74 = .ok (.iload 6, 2) := by decide +kernel
theorem dX11_tear_76 : decode cX11_tear 76 = .ok (.iload 5, 2) := by decide +kernel
theorem dX11_tear_78 : decode cX11_tear 78 = .ok (.iadd, 1) := by decide +kernel
theorem dX11_tear_79 : decode cX11_tear 79 = .ok (.invokevirtual 130, 3) := by decide +kernel
theorem dX11_tear_82 : decode cX11_tear 82 = .ok (.ifCond .ne 19, 3) := by decide +kernel
theorem dX11_tear_85 : decode cX11_tear 85 = .ok (.aload_n 0, 1) := by decide +kernel
theorem dX11_tear_86 : decode cX11_tear 86 = .ok (.getfield 12, 3) := by decide +kernel
theorem dX11_tear_89 : decode cX11_tear 89 = .ok (.getfield 58, 3) := by decide +kernel
theorem dX11_tear_92 : decode cX11_tear 92 = .ok (.iload_n 1, 1) := by decide +kernel
theorem dX11_tear_93 : decode cX11_tear 93 = .ok (.iload 6, 2) := by decide +kernel
theorem dX11_tear_95 : decode cX11_tear 95 = .ok (.invokevirtual 137, 3) := by decide +kernel
theorem dX11_tear_98 : decode cX11_tear 98 = .ok (.ifCond .ne 10, 3) := by decide +kernel
theorem dX11_tear_101 : decode cX11_tear 101 = .ok (.aload_n 0, 1) := by decide +kernel
theorem dX11_tear_102 : decode cX11_tear 102 = .ok (.bipush (-7), 2) := by decide +kernel
theorem dX11_tear_104 : decode cX11_tear 104 = .ok (.invokevirtual 72, 3) := by decide +kernel
theorem dX11_tear_107 : decode cX11_tear 107 = .ok (.ireturn, 1) := by decide +kernel
theorem dX11_tear_108 : decode cX11_tear 108 = .ok (.aload_n 0, 1) := by decide +kernel
theorem dX11_tear_109 : decode cX11_tear 109 = .ok (.getfield 12, 3) := by decide +kernel
theorem dX11_tear_112 : decode cX11_tear 112 = .ok (.getfield 58, 3) := by decide +kernel
theorem dX11_tear_115 : decode cX11_tear 115 = .ok (.getfield 134, 3) := by decide +kernel
theorem dX11_tear_118 : decode cX11_tear 118 = .ok (.iload_n 1, 1) := by decide +kernel
theorem dX11_tear_119 : decode cX11_tear 119 = .ok (.dup2, 1) := by decide +kernel
theorem dX11_tear_120 : decode cX11_tear 120 = .ok (.iaload, 1) := by decide +kernel
theorem dX11_tear_121 : decode cX11_tear 121 = .ok (.iconst 1, 1) := by decide +kernel
theorem dX11_tear_122 : decode cX11_tear 122 = .ok (.iload 6, 2) := by decide +kernel
theorem dX11_tear_124 : decode cX11_tear 124 = .ok (.ishl, 1) := by decide +kernel
theorem dX11_tear_125 : decode cX11_tear 125 = .ok (.iconst (-1), 1) := by decide +kernel
theorem dX11_tear_126 : decode cX11_tear 126 = .ok (.ixor, 1) := by decide +kernel
theorem dX11_tear_127 : decode cX11_tear 127 = .ok (.iand, 1) := by decide +kernel
theorem dX11_tear_128 : decode cX11_tear 128 = .ok (.iastore, 1) := by decide +kernel
theorem dX11_tear_129 : decode cX11_tear 129 = .ok (.aload_n 0, 1) := by decide +kernel
theorem dX11_tear_130 : decode cX11_tear 130 = .ok (.iconst 0, 1) := by decide +kernel
theorem dX11_tear_131 : decode cX11_tear 131 = .ok (.invokevirtual 72, 3) := by decide +kernel
theorem dX11_tear_134 : decode cX11_tear 134 = .ok (.ireturn, 1) := by decide +kernel
theorem dX11_cut_0 : decode cX11_cut 0 = .ok (.iload_n 3, 1) := by decide +kernel
theorem dX11_cut_1 : decode cX11_cut 1 = .ok (.iload 4, 2) := by decide +kernel
theorem dX11_cut_3 : decode cX11_cut 3 = .ok (.invokestatic 140, 3) := by decide +kernel
theorem dX11_cut_6 : decode cX11_cut 6 = .ok (.ifCond .ne 9, 3) := by decide +kernel
theorem dX11_cut_9 : decode cX11_cut 9 = .ok (.aload_n 0, 1) := by decide +kernel
theorem dX11_cut_10 : decode cX11_cut 10 = .ok (.iconst (-1), 1) := by decide +kernel
theorem dX11_cut_11 : decode cX11_cut 11 = .ok (.invokevirtual 72, 3) := by decide +kernel
theorem dX11_cut_14 : decode cX11_cut 14 = .ok (.ireturn, 1) := by decide +kernel
theorem dX11_cut_15 : decode cX11_cut 15 = .ok (.aload_n 0, 1) := by decide +kernel
theorem dX11_cut_16 : decode cX11_cut 16 = .ok (.iload_n 1, 1) := by decide +kernel
theorem dX11_cut_17 : decode cX11_cut 17 = .ok (.iload_n 2, 1) := by decide +kernel
theorem dX11_cut_18 : decode cX11_cut 18 = .ok (.invokevirtual 143, 3) := by decide +kernel
theorem dX11_cut_21 : decode cX11_cut 21 = .ok (.istore 5, 2) := by decide +kernel
theorem dX11_cut_23 : decode cX11_cut 23 = .ok (.iload 5, 2) := by decide +kernel
theorem dX11_cut_25 : decode cX11_cut 25 = .ok (.ifCond .ne 23, 3) := by decide +kernel
theorem dX11_cut_28 : decode cX11_cut 28 = .ok (.aload_n 0, 1) := by decide +kernel
theorem dX11_cut_29 : decode cX11_cut 29 = .ok (.getfield 12, 3) := by decide +kernel
theorem dX11_cut_32 : decode cX11_cut 32 = .ok (.getfield 147, 3) := by decide +kernel
theorem dX11_cut_35 : decode cX11_cut 35 = .ok (.getfield 151, 3) := by decide +kernel
theorem dX11_cut_38 : decode cX11_cut 38 = .ok (.sipush 300, 3) := by decide +kernel
theorem dX11_cut_41 : decode cX11_cut 41 = .ok (.if_icmp .lt 7, 3) := by decide +kernel
theorem dX11_cut_44 : decode cX11_cut 44 = .ok (.bipush (-6), 2) := by decide +kernel
theorem dX11_cut_46 : decode cX11_cut 46 = .ok (.istore 5, 2) := by decide +kernel
theorem dX11_cut_48 : decode cX11_cut 48 = .ok (.aload_n 0, 1) := by decide +kernel
theorem dX11_cut_49 : decode cX11_cut 49 = .ok (.iload 5, 2) := by decide +kernel
theorem dX11_cut_51 : decode cX11_cut 51 = .ok (.ifCond .eq 8, 3) := by decide +kernel
theorem dX11_cut_54 : decode cX11_cut 54 = .ok (.iload 5, 2) := by decide +kernel
theorem dX11_cut_56 : decode cX11_cut 56 = .ok (.goto 15, 3) := by decide +kernel
theorem dX11_cut_59 : decode cX11_cut 59 = .ok (.aload_n 0, 1) := by decide +kernel
theorem dX11_cut_60 : decode cX11_cut 60 = .ok (.getfield 12, 3) := by decide +kernel
theorem dX11_cut_63 : decode cX11_cut 63 = .ok (.iload_n 1, 1) := by decide +kernel
theorem dX11_cut_64 : decode cX11_cut 64 = .ok (.iload_n 2, 1) := by decide +kernel
theorem dX11_cut_65 : decode cX11_cut 65 = .ok (.iload_n 3, 1) := by decide +kernel
theorem dX11_cut_66 : decode cX11_cut 66 = .ok (.iload 4, 2) := by decide +kernel
theorem dX11_cut_68 : decode cX11_cut 68 = .ok (.invokevirtual 154, 3) := by decide +kernel
theorem dX11_cut_71 : decode cX11_cut 71 = .ok (.invokevirtual 72, 3) := by decide +kernel
theorem dX11_cut_74 : decode cX11_cut 74 = .ok (.ireturn, 1) := by decide +kernel
theorem dX11_put_0 : decode cX11_put 0 = .ok (.iload_n 3, 1) := by decide +kernel
theorem dX11_put_1 : decode cX11_put 1 = .ok (.iconst 0, 1) := by decide +kernel
theorem dX11_put_2 : decode cX11_put 2 = .ok (.iconst 1, 1) := by decide +kernel
theorem dX11_put_3 : decode cX11_put 3 = .ok (.invokestatic 68, 3) := by decide +kernel
theorem dX11_put_6 : decode cX11_put 6 = .ok (.ifCond .ne 9, 3) := by decide +kernel
theorem dX11_put_9 : decode cX11_put 9 = .ok (.aload_n 0, 1) := by decide +kernel
theorem dX11_put_10 : decode cX11_put 10 = .ok (.iconst (-1), 1) := by decide +kernel
theorem dX11_put_11 : decode cX11_put 11 = .ok (.invokevirtual 72, 3) := by decide +kernel
theorem dX11_put_14 : decode cX11_put 14 = .ok (.ireturn, 1) := by decide +kernel
theorem dX11_put_15 : decode cX11_put 15 = .ok (.aload_n 0, 1) := by decide +kernel
theorem dX11_put_16 : decode cX11_put 16 = .ok (.iload_n 1, 1) := by decide +kernel
theorem dX11_put_17 : decode cX11_put 17 = .ok (.iload_n 2, 1) := by decide +kernel
theorem dX11_put_18 : decode cX11_put 18 = .ok (.invokevirtual 143, 3) := by decide +kernel
theorem dX11_put_21 : decode cX11_put 21 = .ok (.istore 4, 2) := by decide +kernel
theorem dX11_put_23 : decode cX11_put 23 = .ok (.iload 4, 2) := by decide +kernel
theorem dX11_put_25 : decode cX11_put 25 = .ok (.ifCond .ne 25, 3) := by decide +kernel
theorem dX11_put_28 : decode cX11_put 28 = .ok (.iload_n 3, 1) := by decide +kernel
theorem dX11_put_29 : decode cX11_put 29 = .ok (.ifCond .ne 21, 3) := by decide +kernel
theorem dX11_put_32 : decode cX11_put 32 = .ok (.aload_n 0, 1) := by decide +kernel
theorem dX11_put_33 : decode cX11_put 33 = .ok (.getfield 12, 3) := by decide +kernel
theorem dX11_put_36 : decode cX11_put 36 = .ok (.getfield 58, 3) := by decide +kernel
theorem dX11_put_39 : decode cX11_put 39 = .ok (.iload_n 1, 1) := by decide +kernel
theorem dX11_put_40 : decode cX11_put 40 = .ok (.invokevirtual 158, 3) := by decide +kernel
theorem dX11_put_43 : decode cX11_put 43 = .ok (.ifCond .ne 7, 3) := by decide +kernel
theorem dX11_put_46 : decode cX11_put 46 = .ok (.bipush (-7), 2) := by decide +kernel
theorem dX11_put_48 : decode cX11_put 48 = .ok (.istore 4, 2) := by decide +kernel
theorem dX11_put_50 : decode cX11_put 50 = .ok (.iload 4, 2) := by decide +kernel
theorem dX11_put_52 : decode cX11_put 52 = .ok (.ifCond .ne 24, 3) := by decide +kernel
theorem dX11_put_55 : decode cX11_put 55 = .ok (.aload_n 0, 1) := by decide +kernel
theorem dX11_put_56 : decode cX11_put 56 = .ok (.getfield 12, 3) := by decide +kernel
theorem dX11_put_59 : decode cX11_put 59 = .ok (.getfield 58, 3) := by decide +kernel
theorem dX11_put_62 : decode cX11_put 62 = .ok (.iload_n 1, 1) := by decide +kernel
theorem dX11_put_63 : decode cX11_put 63 = .ok (.iload_n 2, 1) := by decide +kernel
theorem dX11_put_64 : decode cX11_put 64 = .ok (.iload_n 3, 1) := by decide +kernel
theorem dX11_put_65 : decode cX11_put 65 = .ok (.ifCond .ne 7, 3) := by decide +kernel
theorem dX11_put_68 : decode cX11_put 68 = .ok (.iconst 1, 1) := by decide +kernel
theorem dX11_put_69 : decode cX11_put 69 = .ok (.goto 4, 3) := by decide +kernel
theorem dX11_put_72 : decode cX11_put 72 = .ok (.iconst 2, 1) := by decide +kernel
theorem dX11_put_73 : decode cX11_put 73 = .ok (.invokevirtual 161, 3) := by decide +kernel
theorem dX11_put_76 : decode cX11_put 76 = .ok (.aload_n 0, 1) := by decide +kernel
theorem dX11_put_77 : decode cX11_put 77 = .ok (.iload 4, 2) := by decide +kernel
theorem dX11_put_79 : decode cX11_put 79 = .ok (.invokevirtual 72, 3) := by decide +kernel
theorem dX11_put_82 : decode cX11_put 82 = .ok (.ireturn, 1) := by decide +kernel
theorem dX11_clear_0 : decode cX11_clear 0 = .ok (.aload_n 0, 1) := by decide +kernel
theorem dX11_clear_1 : decode cX11_clear 1 = .ok (.iload_n 1, 1) := by decide +kernel
theorem dX11_clear_2 : decode cX11_clear 2 = .ok (.iload_n 2, 1) := by decide +kernel
theorem dX11_clear_3 : decode cX11_clear 3 = .ok (.invokevirtual 165, 3) := by decide +kernel
theorem dX11_clear_6 : decode cX11_clear 6 = .ok (.istore_n 3, 1) := by decide +kernel
theorem dX11_clear_7 : decode cX11_clear 7 = .ok (.iload_n 3, 1) := by decide +kernel
theorem dX11_clear_8 : decode cX11_clear 8 = .ok (.ifCond .eq 9, 3) := by decide +kernel
theorem dX11_clear_11 : decode cX11_clear 11 = .ok (.aload_n 0, 1) := by decide +kernel
theorem dX11_clear_12 : decode cX11_clear 12 = .ok (.iload_n 3, 1) := by decide +kernel
theorem dX11_clear_13 : decode cX11_clear 13 = .ok (.invokevirtual 72, 3) := by decide +kernel
theorem dX11_clear_16 : decode cX11_clear 16 = .ok (.ireturn, 1) := by decide +kernel
theorem dX11_clear_17 : decode cX11_clear 17 = .ok (.aload_n 0, 1) := by decide +kernel
theorem dX11_clear_18 : decode cX11_clear 18 = .ok (.getfield 12, 3) := by decide +kernel
theorem dX11_clear_21 : decode cX11_clear 21 = .ok (.getfield 58, 3) := by decide +kernel
theorem dX11_clear_24 : decode cX11_clear 24 = .ok (.iload_n 1, 1) := by decide +kernel
theorem dX11_clear_25 : decode cX11_clear 25 = .ok (.iload_n 2, 1) := by decide +kernel
theorem dX11_clear_26 : decode cX11_clear 26 = .ok (.invokevirtual 168, 3) := by decide +kernel
theorem dX11_clear_29 : decode cX11_clear 29 = .ok (.istore 4, 2) := by decide +kernel
theorem dX11_clear_31 : decode cX11_clear 31 = .ok (.iload 4, 2) := by decide +kernel
theorem dX11_clear_33 : decode cX11_clear 33 = .ok (.iconst 1, 1) := by decide +kernel
theorem dX11_clear_34 : decode cX11_clear 34 = .ok (.if_icmp .eq 9, 3) := by decide +kernel
theorem dX11_clear_37 : decode cX11_clear 37 = .ok (.iload 4, 2) := by decide +kernel
theorem dX11_clear_39 : decode cX11_clear 39 = .ok (.iconst 2, 1) := by decide +kernel
theorem dX11_clear_40 : decode cX11_clear 40 = .ok (.if_icmp .ne 18, 3) := by decide +kernel
theorem dX11_clear_43 : decode cX11_clear 43 = .ok (.aload_n 0, 1) := by decide +kernel
theorem dX11_clear_44 : decode cX11_clear 44 = .ok (.getfield 12, 3) := by decide +kernel
theorem dX11_clear_47 : decode cX11_clear 47 = .ok (.getfield 58, 3) := by decide +kernel
theorem dX11_clear_50 : decode cX11_clear 50 = .ok (.iload_n 1, 1) := by decide +kernel
theorem dX11_clear_51 : decode cX11_clear 51 = .ok (.iload_n 2, 1) := by decide +kernel
theorem dX11_clear_52 : decode cX11_clear 52 = .ok (.invokevirtual 171, 3) := by decide +kernel
theorem dX11_clear_55 : decode cX11_clear 55 = .ok (.ifCond .eq 10, 3) := by decide +kernel
theorem dX11_clear_58 : decode cX11_clear 58 = .ok (.aload_n 0, 1) := by decide +kernel
theorem dX11_clear_59 : decode cX11_clear 59 = .ok (.bipush (-7), 2) := by decide +kernel
theorem dX11_clear_61 : decode cX11_clear 61 = .ok (.invokevirtual 72, 3) := by decide +kernel
theorem dX11_clear_64 : decode cX11_clear 64 = .ok (.ireturn, 1) := by decide +kernel
theorem dX11_clear_65 : decode cX11_clear 65 = .ok (.aload_n 0, 1) := by decide +kernel
theorem dX11_clear_66 : decode cX11_clear 66 = .ok (.getfield 12, 3) := by decide +kernel
theorem dX11_clear_69 : decode cX11_clear 69 = .ok (.getfield 58, 3) := by decide +kernel
theorem dX11_clear_72 : decode cX11_clear 72 = .ok (.iload_n 1, 1) := by decide +kernel
theorem dX11_clear_73 : decode cX11_clear 73 = .ok (.iload_n 2, 1) := by decide +kernel
theorem dX11_clear_74 : decode cX11_clear 74 = .ok (.iconst 0, 1) := by decide +kernel
theorem dX11_clear_75 : decode cX11_clear 75 = .ok (.invokevirtual 161, 3) := by decide +kernel
theorem dX11_clear_78 : decode cX11_clear 78 = .ok (.aload_n 0, 1) := by decide +kernel
theorem dX11_clear_79 : decode cX11_clear 79 = .ok (.iconst 0, 1) := by decide +kernel
theorem dX11_clear_80 : decode cX11_clear 80 = .ok (.invokevirtual 72, 3) := by decide +kernel
theorem dX11_clear_83 : decode cX11_clear 83 = .ok (.ireturn, 1) := by decide +kernel
theorem dX11_place_0 : decode cX11_place 0 = .ok (.aload_n 0, 1) := by decide +kernel
theorem dX11_place_1 : decode cX11_place 1 = .ok (.iload_n 1, 1) := by decide +kernel
theorem dX11_place_2 : decode cX11_place 2 = .ok (.iload_n 2, 1) := by decide +kernel
theorem dX11_place_3 : decode cX11_place 3 = .ok (.invokevirtual 165, 3) := by decide +kernel
theorem dX11_place_6 : decode cX11_place 6 = .ok (.istore_n 3, 1) := by decide +kernel
theorem dX11_place_7 : decode cX11_place 7 = .ok (.iload_n 3, 1) := by decide +kernel
theorem dX11_place_8 : decode cX11_place 8 = .ok (.ifCond .eq 7, 3) := by decide +kernel
theorem dX11_place_11 : decode cX11_place 11 = .ok (.iload_n 3, 1) := by decide +kernel
theorem dX11_place_12 : decode cX11_place 12 = .ok (.goto 15, 3) := by decide +kernel
theorem dX11_place_15 : decode cX11_place 15 = .ok (.aload_n 0, 1) := by decide +kernel
theorem dX11_place_16 : decode cX11_place 16 = .ok (.getfield 12, 3) := by decide +kernel
theorem dX11_place_19 : decode cX11_place 19 = .ok (.getfield 58, 3) := by decide +kernel
theorem dX11_place_22 : decode cX11_place 22 = .ok (.iload_n 1, 1) := by decide +kernel
theorem dX11_place_23 : decode cX11_place 23 = .ok (.iload_n 2, 1) := by decide +kernel
theorem dX11_place_24 : decode cX11_place 24 = .ok (.invokevirtual 168, 3) := by decide +kernel
theorem dX11_place_27 : decode cX11_place 27 = .ok (.ireturn, 1) := by decide +kernel
theorem dX11_block_0 : decode cX11_block 0 = .ok (.iload_n 2, 1) := by decide +kernel
theorem dX11_block_1 : decode cX11_block 1 = .ok (.iconst 0, 1) := by decide +kernel
theorem dX11_block_2 : decode cX11_block 2 = .ok (.bipush 9, 2) := by decide +kernel
theorem dX11_block_4 : decode cX11_block 4 = .ok (.invokestatic 68, 3) := by decide +kernel
theorem dX11_block_7 : decode cX11_block 7 = .ok (.ifCond .ne 5, 3) := by decide +kernel
theorem dX11_block_10 : decode cX11_block 10 = .ok (.iconst (-1), 1) := by decide +kernel
theorem dX11_block_11 : decode cX11_block 11 = .ok (.ireturn, 1) := by decide +kernel
theorem dX11_block_12 : decode cX11_block 12 = .ok (.aload_n 0, 1) := by decide +kernel
theorem dX11_block_13 : decode cX11_block 13 = .ok (.getfield 12, 3) := by decide +kernel
theorem dX11_block_16 : decode cX11_block 16 = .ok (.getfield 147, 3) := by decide +kernel
theorem dX11_block_19 : decode cX11_block 19 = .ok (.iload_n 1, 1) := by decide +kernel
theorem dX11_block_20 : decode cX11_block 20 = .ok (.invokevirtual 174, 3) := by decide +kernel
theorem dX11_block_23 : decode cX11_block 23 = .ok (.ifCond .ne 6, 3) := by decide +kernel
theorem dX11_block_26 : decode cX11_block 26 = .ok (.bipush (-2), 2) := by decide +kernel
theorem dX11_block_28 : decode cX11_block 28 = .ok (.ireturn, 1) := by decide +kernel
theorem dX11_block_29 : decode cX11_block 29 = .ok (.iload_n 2, 1) := by decide +kernel
theorem dX11_block_30 : decode cX11_block 30 = .ok (.tableswitch 116 0 5 #[38, 51, 64, 77, 90, 103], 38) := by decide +kernel
theorem dX11_block_68 : decode cX11_block 68 = .ok (.aload_n 0, 1) := by decide +kernel
theorem dX11_block_69 : decode cX11_block 69 = .ok (.getfield 12, 3) := by decide +kernel
theorem dX11_block_72 : decode cX11_block 72 = .ok (.getfield 147, 3) := by decide +kernel
theorem dX11_block_75 : decode cX11_block 75 = .ok (.getfield 175, 3) := by decide +kernel
theorem dX11_block_78 : decode cX11_block 78 = .ok (.iload_n 1, 1) := by decide +kernel
theorem dX11_block_79 : decode cX11_block 79 = .ok (.iaload, 1) := by decide +kernel
theorem dX11_block_80 : decode cX11_block 80 = .ok (.ireturn, 1) := by decide +kernel
theorem dX11_block_81 : decode cX11_block 81 = .ok (.aload_n 0, 1) := by decide +kernel
theorem dX11_block_82 : decode cX11_block 82 = .ok (.getfield 12, 3) := by decide +kernel
theorem dX11_block_85 : decode cX11_block 85 = .ok (.getfield 147, 3) := by decide +kernel
theorem dX11_block_88 : decode cX11_block 88 = .ok (.getfield 176, 3) := by decide +kernel
theorem dX11_block_91 : decode cX11_block 91 = .ok (.iload_n 1, 1) := by decide +kernel
theorem dX11_block_92 : decode cX11_block 92 = .ok (.iaload, 1) := by decide +kernel
theorem dX11_block_93 : decode cX11_block 93 = .ok (.ireturn, 1) := by decide +kernel
theorem dX11_block_94 : decode cX11_block 94 = .ok (.aload_n 0, 1) := by decide +kernel
theorem dX11_block_95 : decode cX11_block 95 = .ok (.getfield 12, 3) := by decide +kernel
theorem dX11_block_98 : decode cX11_block 98 = .ok (.getfield 147, 3) := by decide +kernel
theorem dX11_block_101 : decode cX11_block 101 = .ok (.getfield 179, 3) := by decide +kernel
theorem dX11_block_104 : decode cX11_block 104 = .ok (.iload_n 1, 1) := by decide +kernel
theorem dX11_block_105 : decode cX11_block 105 = .ok (.iaload, 1) := by decide +kernel
theorem dX11_block_106 : decode cX11_block 106 = .ok (.ireturn, 1) := by decide +kernel
theorem dX11_block_107 : decode cX11_block 107 = .ok (.aload_n 0, 1) := by decide +kernel
theorem dX11_block_108 : decode cX11_block 108 = .ok (.getfield 12, 3) := by decide +kernel
theorem dX11_block_111 : decode cX11_block 111 = .ok (.getfield 147, 3) := by decide +kernel
theorem dX11_block_114 : decode cX11_block 114 = .ok (.getfield 182, 3) := by decide +kernel
theorem dX11_block_117 : decode cX11_block 117 = .ok (.iload_n 1, 1) := by decide +kernel
theorem dX11_block_118 : decode cX11_block 118 = .ok (.iaload, 1) := by decide +kernel
theorem dX11_block_119 : decode cX11_block 119 = .ok (.ireturn, 1) := by decide +kernel
theorem dX11_block_120 : decode cX11_block 120 = .ok (.aload_n 0, 1) := by decide +kernel
theorem dX11_block_121 : decode cX11_block 121 = .ok (.getfield 12, 3) := by decide +kernel
theorem dX11_block_124 : decode cX11_block 124 = .ok (.getfield 147, 3) := by decide +kernel
theorem dX11_block_127 : decode cX11_block 127 = .ok (.getfield 185, 3) := by decide +kernel
theorem dX11_block_130 : decode cX11_block 130 = .ok (.iload_n 1, 1) := by decide +kernel
theorem dX11_block_131 : decode cX11_block 131 = .ok (.iaload, 1) := by decide +kernel
theorem dX11_block_132 : decode cX11_block 132 = .ok (.ireturn, 1) := by decide +kernel
theorem dX11_block_133 : decode cX11_block 133 = .ok (.aload_n 0, 1) := by decide +kernel
theorem dX11_block_134 : decode cX11_block 134 = .ok (.getfield 12, 3) := by decide +kernel
theorem dX11_block_137 : decode cX11_block 137 = .ok (.getfield 147, 3) := by decide +kernel
theorem dX11_block_140 : decode cX11_block 140 = .ok (.getfield 188, 3) := by decide +kernel
theorem dX11_block_143 : decode cX11_block 143 = .ok (.iload_n 1, 1) := by decide +kernel
theorem dX11_block_144 : decode cX11_block 144 = .ok (.iaload, 1) := by decide +kernel
theorem dX11_block_145 : decode cX11_block 145 = .ok (.ireturn, 1) := by decide +kernel
theorem dX11_block_146 : decode cX11_block 146 = .ok (.aload_n 0, 1) := by decide +kernel
theorem dX11_block_147 : decode cX11_block 147 = .ok (.iload_n 1, 1) := by decide +kernel
theorem dX11_block_148 : decode cX11_block 148 = .ok (.iload_n 2, 1) := by decide +kernel
theorem dX11_block_149 : decode cX11_block 149 = .ok (.invokevirtual 191, 3) := by decide +kernel
theorem dX11_block_152 : decode cX11_block 152 = .ok (.ireturn, 1) := by decide +kernel
theorem dX11_warm_0 : decode cX11_warm 0 = .ok (.iload_n 1, 1) := by decide +kernel
theorem dX11_warm_1 : decode cX11_warm 1 = .ok (.iconst 0, 1) := by decide +kernel
theorem dX11_warm_2 : decode cX11_warm 2 = .ok (.sipush 199, 3) := by decide +kernel
theorem dX11_warm_5 : decode cX11_warm 5 = .ok (.invokestatic 68, 3) := by decide +kernel
theorem dX11_warm_8 : decode cX11_warm 8 = .ok (.ifCond .ne 9, 3) := by decide +kernel
theorem dX11_warm_11 : decode cX11_warm 11 = .ok (.aload_n 0, 1) := by decide +kernel
theorem dX11_warm_12 : decode cX11_warm 12 = .ok (.iconst (-1), 1) := by decide +kernel
theorem dX11_warm_13 : decode cX11_warm 13 = .ok (.invokevirtual 72, 3) := by decide +kernel
theorem dX11_warm_16 : decode cX11_warm 16 = .ok (.ireturn, 1) := by decide +kernel
theorem dX11_warm_17 : decode cX11_warm 17 = .ok (.aload_n 0, 1) := by decide +kernel
theorem dX11_warm_18 : decode cX11_warm 18 = .ok (.aload_n 0, 1) := by decide +kernel
theorem dX11_warm_19 : decode cX11_warm 19 = .ok (.getfield 19, 3) := by decide +kernel
theorem dX11_warm_22 : decode cX11_warm 22 = .ok (.iload_n 1, 1) := by decide +kernel
theorem dX11_warm_23 : decode cX11_warm 23 = .ok (.iload_n 2, 1) := by decide +kernel
theorem dX11_warm_24 : decode cX11_warm 24 = .ok (.invokevirtual 194, 3) := by decide +kernel
theorem dX11_warm_27 : decode cX11_warm 27 = .ok (.ifCond .eq 7, 3) := by decide +kernel
theorem dX11_warm_30 : decode cX11_warm 30 = .ok (.iconst 0, 1) := by decide +kernel
theorem dX11_warm_31 : decode cX11_warm 31 = .ok (.goto 4, 3) := by decide +kernel
theorem dX11_warm_34 : decode cX11_warm 34 = .ok (.iconst (-1), 1) := by decide +kernel
theorem dX11_warm_35 : decode cX11_warm 35 = .ok (.invokevirtual 72, 3) := by decide +kernel
theorem dX11_warm_38 : decode cX11_warm 38 = .ok (.ireturn, 1) := by decide +kernel
theorem dX11_tenths_0 : decode cX11_tenths 0 = .ok (.iload_n 1, 1) := by decide +kernel
theorem dX11_tenths_1 : decode cX11_tenths 1 = .ok (.iconst 0, 1) := by decide +kernel
theorem dX11_tenths_2 : decode cX11_tenths 2 = .ok (.sipush 199, 3) := by decide +kernel
theorem dX11_tenths_5 : decode cX11_tenths 5 = .ok (.invokestatic 68, 3) := by decide +kernel
theorem dX11_tenths_8 : decode cX11_tenths 8 = .ok (.ifCond .eq 14, 3) := by decide +kernel
theorem dX11_tenths_11 : decode cX11_tenths 11 = .ok (.aload_n 0, 1) := by decide +kernel
theorem dX11_tenths_12 : decode cX11_tenths 12 = .ok (.getfield 19, 3) := by decide +kernel
theorem dX11_tenths_15 : decode cX11_tenths 15 = .ok (.iload_n 1, 1) := by decide +kernel
theorem dX11_tenths_16 : decode cX11_tenths 16 = .ok (.invokevirtual 197, 3) := by decide +kernel
theorem dX11_tenths_19 : decode cX11_tenths 19 = .ok (.goto 6, 3) := by decide +kernel
theorem dX11_tenths_22 : decode cX11_tenths 22 = .ok (.sipush (-1000), 3) := by decide +kernel
theorem dX11_tenths_25 : decode cX11_tenths 25 = .ok (.ireturn, 1) := by decide +kernel
theorem dX11_terms_0 : decode cX11_terms 0 = .ok (.iload_n 1, 1) := by decide +kernel
theorem dX11_terms_1 : decode cX11_terms 1 = .ok (.iconst 0, 1) := by decide +kernel
theorem dX11_terms_2 : decode cX11_terms 2 = .ok (.bipush 100, 2) := by decide +kernel
theorem dX11_terms_4 : decode cX11_terms 4 = .ok (.invokestatic 68, 3) := by decide +kernel
theorem dX11_terms_7 : decode cX11_terms 7 = .ok (.ifCond .eq 24, 3) := by decide +kernel
theorem dX11_terms_10 : decode cX11_terms 10 = .ok (.iload_n 2, 1) := by decide +kernel
theorem dX11_terms_11 : decode cX11_terms 11 = .ok (.iconst 0, 1) := by decide +kernel
theorem dX11_terms_12 : decode cX11_terms 12 = .ok (.sipush 10000, 3) := by decide +kernel
theorem dX11_terms_15 : decode cX11_terms 15 = .ok (.invokestatic 68, 3) := by decide +kernel
theorem dX11_terms_18 : decode cX11_terms 18 = .ok (.ifCond .eq 13, 3) := by decide +kernel
theorem dX11_terms_21 : decode cX11_terms 21 = .ok (.iload_n 3, 1) := by decide +kernel
theorem dX11_terms_22 : decode cX11_terms 22 = .ok (.iconst 1, 1) := by decide +kernel
theorem dX11_terms_23 : decode cX11_terms 23 = .ok (.ldc 200, 2) := by decide +kernel
theorem dX11_terms_25 : decode cX11_terms 25 = .ok (.invokestatic 68, 3) := by decide +kernel
theorem dX11_terms_28 : decode cX11_terms 28 = .ok (.ifCond .ne 9, 3) := by decide +kernel
theorem dX11_terms_31 : decode cX11_terms 31 = .ok (.aload_n 0, 1) := by decide +kernel
theorem dX11_terms_32 : decode cX11_terms 32 = .ok (.iconst (-1), 1) := by decide +kernel
theorem dX11_terms_33 : decode cX11_terms 33 = .ok (.invokevirtual 72, 3) := by decide +kernel
theorem dX11_terms_36 : decode cX11_terms 36 = .ok (.ireturn, 1) := by decide +kernel
theorem dX11_terms_37 : decode cX11_terms 37 = .ok (.aload_n 0, 1) := by decide +kernel
theorem dX11_terms_38 : decode cX11_terms 38 = .ok (.getfield 26, 3) := by decide +kernel
theorem dX11_terms_41 : decode cX11_terms 41 = .ok (.iload_n 1, 1) := by decide +kernel
theorem dX11_terms_42 : decode cX11_terms 42 = .ok (.putfield 201, 3) := by decide +kernel
theorem dX11_terms_45 : decode cX11_terms 45 = .ok (.aload_n 0, 1) := by decide +kernel
theorem dX11_terms_46 : decode cX11_terms 46 = .ok (.getfield 26, 3) := by decide +kernel
theorem dX11_terms_49 : decode cX11_terms 49 = .ok (.iload_n 2, 1) := by decide +kernel
theorem dX11_terms_50 : decode cX11_terms 50 = .ok (.putfield 204, 3) := by decide +kernel
theorem dX11_terms_53 : decode cX11_terms 53 = .ok (.aload_n 0, 1) := by decide +kernel
theorem dX11_terms_54 : decode cX11_terms 54 = .ok (.getfield 26, 3) := by decide +kernel
theorem dX11_terms_57 : decode cX11_terms 57 = .ok (.iload_n 3, 1) := by decide +kernel
theorem dX11_terms_58 : decode cX11_terms 58 = .ok (.putfield 207, 3) := by decide +kernel
theorem dX11_terms_61 : decode cX11_terms 61 = .ok (.aload_n 0, 1) := by decide +kernel
theorem dX11_terms_62 : decode cX11_terms 62 = .ok (.iconst 0, 1) := by decide +kernel
theorem dX11_terms_63 : decode cX11_terms 63 = .ok (.invokevirtual 72, 3) := by decide +kernel
theorem dX11_terms_66 : decode cX11_terms 66 = .ok (.ireturn, 1) := by decide +kernel
theorem dX11_day_0 : decode cX11_day 0 = .ok (.aload_n 0, 1) := by decide +kernel
theorem dX11_day_1 : decode cX11_day 1 = .ok (.getfield 12, 3) := by decide +kernel
theorem dX11_day_4 : decode cX11_day 4 = .ok (.getfield 210, 3) := by decide +kernel
theorem dX11_day_7 : decode cX11_day 7 = .ok (.sipush 199, 3) := by decide +kernel
theorem dX11_day_10 : decode cX11_day 10 = .ok (.if_icmp .lt 10, 3) := by decide +kernel
theorem dX11_day_13 : decode cX11_day 13 = .ok (.aload_n 0, 1) := by decide +kernel
theorem dX11_day_14 : decode cX11_day 14 = .ok (.bipush (-7), 2) := by decide +kernel
theorem dX11_day_16 : decode cX11_day 16 = .ok (.invokevirtual 72, 3) := by decide +kernel
theorem dX11_day_19 : decode cX11_day 19 = .ok (.ireturn, 1) := by decide +kernel
theorem dX11_day_20 : decode cX11_day 20 = .ok (.aload_n 0, 1) := by decide +kernel
theorem dX11_day_21 : decode cX11_day 21 = .ok (.getfield 213, 3) := by decide +kernel
theorem dX11_day_24 : decode cX11_day 24 = .ok (.ifnonnull 14, 3) := by decide +kernel
theorem dX11_day_27 : decode cX11_day 27 = .ok (.aload_n 0, 1) := by decide +kernel
theorem dX11_day_28 : decode cX11_day 28 = .ok (.new 217, 3) := by decide +kernel
theorem dX11_day_31 : decode cX11_day 31 = .ok (.dup, 1) := by decide +kernel
theorem dX11_day_32 : decode cX11_day 32 = .ok (.invokespecial 219, 3) := by decide +kernel
theorem dX11_day_35 : decode cX11_day 35 = .ok (.putfield 213, 3) := by decide +kernel
theorem dX11_day_38 : decode cX11_day 38 = .ok (.aload_n 0, 1) := by decide +kernel
theorem dX11_day_39 : decode cX11_day 39 = .ok (.getfield 26, 3) := by decide +kernel
theorem dX11_day_42 : decode cX11_day 42 = .ok (.aload_n 0, 1) := by decide +kernel
theorem dX11_day_43 : decode cX11_day 43 = .ok (.getfield 12, 3) := by decide +kernel
theorem dX11_day_46 : decode cX11_day 46 = .ok (.aload_n 0, 1) := by decide +kernel
theorem dX11_day_47 : decode cX11_day 47 = .ok (.invokevirtual 99, 3) := by decide +kernel
theorem dX11_day_50 : decode cX11_day 50 = .ok (.invokevirtual 220, 3) := by decide +kernel
theorem dX11_day_53 : decode cX11_day 53 = .ok (.aload_n 0, 1) := by decide +kernel
theorem dX11_day_54 : decode cX11_day 54 = .ok (.getfield 213, 3) := by decide +kernel
theorem dX11_day_57 : decode cX11_day 57 = .ok (.aload_n 0, 1) := by decide +kernel
theorem dX11_day_58 : decode cX11_day 58 = .ok (.getfield 12, 3) := by decide +kernel
theorem dX11_day_61 : decode cX11_day 61 = .ok (.aload_n 0, 1) := by decide +kernel
theorem dX11_day_62 : decode cX11_day 62 = .ok (.getfield 26, 3) := by decide +kernel
theorem dX11_day_65 : decode cX11_day 65 = .ok (.invokevirtual 224, 3) := by decide +kernel
theorem dX11_day_68 : decode cX11_day 68 = .ok (.aload_n 0, 1) := by decide +kernel
theorem dX11_day_69 : decode cX11_day 69 = .ok (.aload_n 0, 1) := by decide +kernel
theorem dX11_day_70 : decode cX11_day 70 = .ok (.getfield 26, 3) := by decide +kernel
theorem dX11_day_73 : decode cX11_day 73 = .ok (.aload_n 0, 1) := by decide +kernel
theorem dX11_day_74 : decode cX11_day 74 = .ok (.getfield 12, 3) := by decide +kernel
theorem dX11_day_77 : decode cX11_day 77 = .ok (.invokevirtual 228, 3) := by decide +kernel
theorem dX11_day_80 : decode cX11_day 80 = .ok (.invokevirtual 72, 3) := by decide +kernel
theorem dX11_day_83 : decode cX11_day 83 = .ok (.ireturn, 1) := by decide +kernel
theorem dX11_count_0 : decode cX11_count 0 = .ok (.iload_n 1, 1) := by decide +kernel
theorem dX11_count_1 : decode cX11_count 1 = .ok (.tableswitch 227 0 15 #[79, 87, 95, 103, 111, 119, 127, 138, 149, 160, 168, 179, 187, 195, 214, 222], 79) := by decide +kernel
theorem dX11_count_80 : decode cX11_count 80 = .ok (.aload_n 0, 1) := by decide +kernel
theorem dX11_count_81 : decode cX11_count 81 = .ok (.getfield 12, 3) := by decide +kernel
theorem dX11_count_84 : decode cX11_count 84 = .ok (.getfield 210, 3) := by decide +kernel
theorem dX11_count_87 : decode cX11_count 87 = .ok (.ireturn, 1) := by decide +kernel
theorem dX11_count_88 : decode cX11_count 88 = .ok (.aload_n 0, 1) := by decide +kernel
theorem dX11_count_89 : decode cX11_count 89 = .ok (.getfield 12, 3) := by decide +kernel
theorem dX11_count_92 : decode cX11_count 92 = .ok (.getfield 232, 3) := by decide +kernel
theorem dX11_count_95 : decode cX11_count 95 = .ok (.ireturn, 1) := by decide +kernel
theorem dX11_count_96 : decode cX11_count 96 = .ok (.aload_n 0, 1) := by decide +kernel
theorem dX11_count_97 : decode cX11_count 97 = .ok (.getfield 12, 3) := by decide +kernel
theorem dX11_count_100 : decode cX11_count 100 = .ok (.invokevirtual 235, 3) := by decide +kernel
theorem dX11_count_103 : decode cX11_count 103 = .ok (.ireturn, 1) := by decide +kernel
theorem dX11_count_104 : decode cX11_count 104 = .ok (.aload_n 0, 1) := by decide +kernel
theorem dX11_count_105 : decode cX11_count 105 = .ok (.getfield 12, 3) := by decide +kernel
theorem dX11_count_108 : decode cX11_count 108 = .ok (.getfield 238, 3) := by decide +kernel
theorem dX11_count_111 : decode cX11_count 111 = .ok (.ireturn, 1) := by decide +kernel
theorem dX11_count_112 : decode cX11_count 112 = .ok (.aload_n 0, 1) := by decide +kernel
theorem dX11_count_113 : decode cX11_count 113 = .ok (.getfield 12, 3) := by decide +kernel
theorem dX11_count_116 : decode cX11_count 116 = .ok (.getfield 241, 3) := by decide +kernel
theorem dX11_count_119 : decode cX11_count 119 = .ok (.ireturn, 1) := by decide +kernel
theorem dX11_count_120 : decode cX11_count 120 = .ok (.aload_n 0, 1) := by decide +kernel
theorem dX11_count_121 : decode cX11_count 121 = .ok (.getfield 12, 3) := by decide +kernel
theorem dX11_count_124 : decode cX11_count 124 = .ok (.getfield 244, 3) := by decide +kernel
theorem dX11_count_127 : decode cX11_count 127 = .ok (.ireturn, 1) := by decide +kernel
theorem dX11_count_128 : decode cX11_count 128 = .ok (.aload_n 0, 1) := by decide +kernel
theorem dX11_count_129 : decode cX11_count 129 = .ok (.getfield 12, 3) := by decide +kernel
theorem dX11_count_132 : decode cX11_count 132 = .ok (.getfield 58, 3) := by decide +kernel
theorem dX11_count_135 : decode cX11_count 135 = .ok (.invokevirtual 247, 3) := by decide +kernel
theorem dX11_count_138 : decode cX11_count 138 = .ok (.ireturn, 1) := by decide +kernel
theorem dX11_count_139 : decode cX11_count 139 = .ok (.aload_n 0, 1) := by decide +kernel
theorem dX11_count_140 : decode cX11_count 140 = .ok (.getfield 12, 3) := by decide +kernel
theorem dX11_count_143 : decode cX11_count 143 = .ok (.getfield 58, 3) := by decide +kernel
theorem dX11_count_146 : decode cX11_count 146 = .ok (.invokevirtual 250, 3) := by decide +kernel
theorem dX11_count_149 : decode cX11_count 149 = .ok (.ireturn, 1) := by decide +kernel
theorem dX11_count_150 : decode cX11_count 150 = .ok (.aload_n 0, 1) := by decide +kernel
theorem dX11_count_151 : decode cX11_count 151 = .ok (.getfield 12, 3) := by decide +kernel
theorem dX11_count_154 : decode cX11_count 154 = .ok (.getfield 147, 3) := by decide +kernel
theorem dX11_count_157 : decode cX11_count 157 = .ok (.getfield 151, 3) := by decide +kernel
theorem dX11_count_160 : decode cX11_count 160 = .ok (.ireturn, 1) := by decide +kernel
theorem dX11_count_161 : decode cX11_count 161 = .ok (.aload_n 0, 1) := by decide +kernel
theorem dX11_count_162 : decode cX11_count 162 = .ok (.getfield 12, 3) := by decide +kernel
theorem dX11_count_165 : decode cX11_count 165 = .ok (.invokevirtual 253, 3) := by decide +kernel
theorem dX11_count_168 : decode cX11_count 168 = .ok (.ireturn, 1) := by decide +kernel
theorem dX11_count_169 : decode cX11_count 169 = .ok (.aload_n 0, 1) := by decide +kernel
theorem dX11_count_170 : decode cX11_count 170 = .ok (.getfield 12, 3) := by decide +kernel
theorem dX11_count_173 : decode cX11_count 173 = .ok (.getfield 58, 3) := by decide +kernel
theorem dX11_count_176 : decode cX11_count 176 = .ok (.getfield 76, 3) := by decide +kernel
theorem dX11_count_179 : decode cX11_count 179 = .ok (.ireturn, 1) := by decide +kernel
theorem dX11_count_180 : decode cX11_count 180 = .ok (.aload_n 0, 1) := by decide +kernel
theorem dX11_count_181 : decode cX11_count 181 = .ok (.getfield 33, 3) := by decide +kernel
theorem dX11_count_184 : decode cX11_count 184 = .ok (.getfield 256, 3) := by decide +kernel
theorem dX11_count_187 : decode cX11_count 187 = .ok (.ireturn, 1) := by decide +kernel
theorem dX11_count_188 : decode cX11_count 188 = .ok (.aload_n 0, 1) := by decide +kernel
theorem dX11_count_189 : decode cX11_count 189 = .ok (.getfield 33, 3) := by decide +kernel
theorem dX11_count_192 : decode cX11_count 192 = .ok (.invokevirtual 259, 3) := by decide +kernel
theorem dX11_count_195 : decode cX11_count 195 = .ok (.ireturn, 1) := by decide +kernel
theorem dX11_count_196 : decode cX11_count 196 = .ok (.aload_n 0, 1) := by decide +kernel
theorem dX11_count_197 : decode cX11_count 197 = .ok (.getfield 213, 3) := by decide +kernel
theorem dX11_count_200 : decode cX11_count 200 = .ok (.ifnonnull 7, 3) := by decide +kernel
theorem dX11_count_203 : decode cX11_count 203 = .ok (.iconst 0, 1) := by decide +kernel
theorem dX11_count_204 : decode cX11_count 204 = .ok (.goto 10, 3) := by decide +kernel
theorem dX11_count_207 : decode cX11_count 207 = .ok (.aload_n 0, 1) := by decide +kernel
theorem dX11_count_208 : decode cX11_count 208 = .ok (.getfield 213, 3) := by decide +kernel
theorem dX11_count_211 : decode cX11_count 211 = .ok (.getfield 262, 3) := by decide +kernel
theorem dX11_count_214 : decode cX11_count 214 = .ok (.ireturn, 1) := by decide +kernel
theorem dX11_count_215 : decode cX11_count 215 = .ok (.aload_n 0, 1) := by decide +kernel
theorem dX11_count_216 : decode cX11_count 216 = .ok (.getfield 40, 3) := by decide +kernel
theorem dX11_count_219 : decode cX11_count 219 = .ok (.getfield 265, 3) := by decide +kernel
theorem dX11_count_222 : decode cX11_count 222 = .ok (.ireturn, 1) := by decide +kernel
theorem dX11_count_223 : decode cX11_count 223 = .ok (.aload_n 0, 1) := by decide +kernel
theorem dX11_count_224 : decode cX11_count 224 = .ok (.getfield 266, 3) := by decide +kernel
theorem dX11_count_227 : decode cX11_count 227 = .ok (.ireturn, 1) := by decide +kernel
theorem dX11_count_228 : decode cX11_count 228 = .ok (.iconst (-1), 1) := by decide +kernel
theorem dX11_count_229 : decode cX11_count 229 = .ok (.ireturn, 1) := by decide +kernel
theorem dX11_next_0 : decode cX11_next 0 = .ok (.aload_n 0, 1) := by decide +kernel
theorem dX11_next_1 : decode cX11_next 1 = .ok (.getfield 12, 3) := by decide +kernel
theorem dX11_next_4 : decode cX11_next 4 = .ok (.getfield 58, 3) := by decide +kernel
theorem dX11_next_7 : decode cX11_next 7 = .ok (.iload_n 1, 1) := by decide +kernel
theorem dX11_next_8 : decode cX11_next 8 = .ok (.invokevirtual 62, 3) := by decide +kernel
theorem dX11_next_11 : decode cX11_next 11 = .ok (.ifCond .eq 22, 3) := by decide +kernel
theorem dX11_next_14 : decode cX11_next 14 = .ok (.aload_n 0, 1) := by decide +kernel
theorem dX11_next_15 : decode cX11_next 15 = .ok (.getfield 26, 3) := by decide +kernel
theorem dX11_next_18 : decode cX11_next 18 = .ok (.aload_n 0, 1) := by decide +kernel
theorem dX11_next_19 : decode cX11_next 19 = .ok (.getfield 12, 3) := by decide +kernel
theorem dX11_next_22 : decode cX11_next 22 = .ok (.iload_n 1, 1) := by decide +kernel
theorem dX11_next_23 : decode cX11_next 23 = .ok (.aload_n 0, 1) := by decide +kernel
theorem dX11_next_24 : decode cX11_next 24 = .ok (.invokevirtual 99, 3) := by decide +kernel
theorem dX11_next_27 : decode cX11_next 27 = .ok (.invokevirtual 269, 3) := by decide +kernel
theorem dX11_next_30 : decode cX11_next 30 = .ok (.goto 5, 3) := by decide +kernel
theorem dX11_next_33 : decode cX11_next 33 = .ok (.bipush (-2), 2) := by decide +kernel
theorem dX11_next_35 : decode cX11_next 35 = .ok (.ireturn, 1) := by decide +kernel
theorem dX11_take_0 : decode cX11_take 0 = .ok (.iload_n 2, 1) := by decide +kernel
theorem dX11_take_1 : decode cX11_take 1 = .ok (.iconst 1, 1) := by decide +kernel
theorem dX11_take_2 : decode cX11_take 2 = .ok (.sipush 300, 3) := by decide +kernel
theorem dX11_take_5 : decode cX11_take 5 = .ok (.invokestatic 68, 3) := by decide +kernel
theorem dX11_take_8 : decode cX11_take 8 = .ok (.ifCond .ne 9, 3) := by decide +kernel
theorem dX11_take_11 : decode cX11_take 11 = .ok (.aload_n 0, 1) := by decide +kernel
theorem dX11_take_12 : decode cX11_take 12 = .ok (.iconst (-1), 1) := by decide +kernel
theorem dX11_take_13 : decode cX11_take 13 = .ok (.invokevirtual 72, 3) := by decide +kernel
theorem dX11_take_16 : decode cX11_take 16 = .ok (.ireturn, 1) := by decide +kernel
theorem dX11_take_17 : decode cX11_take 17 = .ok (.aload_n 0, 1) := by decide +kernel
theorem dX11_take_18 : decode cX11_take 18 = .ok (.getfield 12, 3) := by decide +kernel
theorem dX11_take_21 : decode cX11_take 21 = .ok (.getfield 58, 3) := by decide +kernel
theorem dX11_take_24 : decode cX11_take 24 = .ok (.iload_n 1, 1) := by decide +kernel
theorem dX11_take_25 : decode cX11_take 25 = .ok (.invokevirtual 62, 3) := by decide +kernel
theorem dX11_take_28 : decode cX11_take 28 = .ok (.ifCond .ne 10, 3) := by decide +kernel
theorem dX11_take_31 : decode cX11_take 31 = .ok (.aload_n 0, 1) := by decide +kernel
theorem dX11_take_32 : decode cX11_take 32 = .ok (.bipush (-2), 2) := by decide +kernel
theorem dX11_take_34 : decode cX11_take 34 = .ok (.invokevirtual 72, 3) := by decide +kernel
theorem dX11_take_37 : decode cX11_take 37 = .ok (.ireturn, 1) := by decide +kernel
theorem dX11_take_38 : decode cX11_take 38 = .ok (.aload_n 0, 1) := by decide +kernel
theorem dX11_take_39 : decode cX11_take 39 = .ok (.iload_n 1, 1) := by decide +kernel
theorem dX11_take_40 : decode cX11_take 40 = .ok (.iload_n 2, 1) := by decide +kernel
theorem dX11_take_41 : decode cX11_take 41 = .ok (.invokevirtual 272, 3) := by decide +kernel
theorem dX11_take_44 : decode cX11_take 44 = .ok (.ifCond .ne 10, 3) := by decide +kernel
theorem dX11_take_47 : decode cX11_take 47 = .ok (.aload_n 0, 1) := by decide +kernel
theorem dX11_take_48 : decode cX11_take 48 = .ok (.bipush (-6), 2) := by decide +kernel
theorem dX11_take_50 : decode cX11_take 50 = .ok (.invokevirtual 72, 3) := by decide +kernel
theorem dX11_take_53 : decode cX11_take 53 = .ok (.ireturn, 1) := by decide +kernel
theorem dX11_take_54 : decode cX11_take 54 = .ok (.aload_n 0, 1) := by decide +kernel
theorem dX11_take_55 : decode cX11_take 55 = .ok (.aload_n 0, 1) := by decide +kernel
theorem dX11_take_56 : decode cX11_take 56 = .ok (.invokevirtual 275, 3) := by decide +kernel
theorem dX11_take_59 : decode cX11_take 59 = .ok (.invokevirtual 72, 3) := by decide +kernel
theorem dX11_take_62 : decode cX11_take 62 = .ok (.ireturn, 1) := by decide +kernel
theorem dX11_way_0 : decode cX11_way 0 = .ok (.iload_n 1, 1) := by decide +kernel
theorem dX11_way_1 : decode cX11_way 1 = .ok (.iconst 4, 1) := by decide +kernel
theorem dX11_way_2 : decode cX11_way 2 = .ok (.if_icmp .eq 8, 3) := by decide +kernel
theorem dX11_way_5 : decode cX11_way 5 = .ok (.iload_n 1, 1) := by decide +kernel
theorem dX11_way_6 : decode cX11_way 6 = .ok (.iconst 3, 1) := by decide +kernel
theorem dX11_way_7 : decode cX11_way 7 = .ok (.if_icmp .ne 13, 3) := by decide +kernel
theorem dX11_way_10 : decode cX11_way 10 = .ok (.iload_n 2, 1) := by decide +kernel
theorem dX11_way_11 : decode cX11_way 11 = .ok (.iconst 0, 1) := by decide +kernel
theorem dX11_way_12 : decode cX11_way 12 = .ok (.bipush 20, 2) := by decide +kernel
theorem dX11_way_14 : decode cX11_way 14 = .ok (.invokestatic 68, 3) := by decide +kernel
theorem dX11_way_17 : decode cX11_way 17 = .ok (.ifCond .ne 9, 3) := by decide +kernel
theorem dX11_way_20 : decode cX11_way 20 = .ok (.aload_n 0, 1) := by decide +kernel
theorem dX11_way_21 : decode cX11_way 21 = .ok (.iconst (-1), 1) := by decide +kernel
theorem dX11_way_22 : decode cX11_way 22 = .ok (.invokevirtual 72, 3) := by decide +kernel
theorem dX11_way_25 : decode cX11_way 25 = .ok (.ireturn, 1) := by decide +kernel
theorem dX11_way_26 : decode cX11_way 26 = .ok (.aload_n 0, 1) := by decide +kernel
theorem dX11_way_27 : decode cX11_way 27 = .ok (.getfield 33, 3) := by decide +kernel
theorem dX11_way_30 : decode cX11_way 30 = .ok (.getfield 256, 3) := by decide +kernel
theorem dX11_way_33 : decode cX11_way 33 = .ok (.bipush 6, 2) := by decide +kernel
theorem dX11_way_35 : decode cX11_way 35 = .ok (.if_icmp .lt 10, 3) := by decide +kernel
theorem dX11_way_38 : decode cX11_way 38 = .ok (.aload_n 0, 1) := by decide +kernel
theorem dX11_way_39 : decode cX11_way 39 = .ok (.bipush (-6), 2) := by decide +kernel
theorem dX11_way_41 : decode cX11_way 41 = .ok (.invokevirtual 72, 3) := by decide +kernel
theorem dX11_way_44 : decode cX11_way 44 = .ok (.ireturn, 1) := by decide +kernel
theorem dX11_way_45 : decode cX11_way 45 = .ok (.aload_n 0, 1) := by decide +kernel
theorem dX11_way_46 : decode cX11_way 46 = .ok (.aload_n 0, 1) := by decide +kernel
theorem dX11_way_47 : decode cX11_way 47 = .ok (.getfield 33, 3) := by decide +kernel
theorem dX11_way_50 : decode cX11_way 50 = .ok (.iload_n 1, 1) := by decide +kernel
theorem dX11_way_51 : decode cX11_way 51 = .ok (.iload_n 2, 1) := by decide +kernel
theorem dX11_way_52 : decode cX11_way 52 = .ok (.invokevirtual 278, 3) := by decide +kernel
theorem dX11_way_55 : decode cX11_way 55 = .ok (.invokevirtual 72, 3) := by decide +kernel
theorem dX11_way_58 : decode cX11_way 58 = .ok (.ireturn, 1) := by decide +kernel
theorem dX11_home_0 : decode cX11_home 0 = .ok (.aload_n 0, 1) := by decide +kernel
theorem dX11_home_1 : decode cX11_home 1 = .ok (.getfield 33, 3) := by decide +kernel
theorem dX11_home_4 : decode cX11_home 4 = .ok (.getfield 256, 3) := by decide +kernel
theorem dX11_home_7 : decode cX11_home 7 = .ok (.istore_n 1, 1) := by decide +kernel
theorem dX11_home_8 : decode cX11_home 8 = .ok (.aload_n 0, 1) := by decide +kernel
theorem dX11_home_9 : decode cX11_home 9 = .ok (.getfield 33, 3) := by decide +kernel
theorem dX11_home_12 : decode cX11_home 12 = .ok (.iconst 0, 1) := by decide +kernel
theorem dX11_home_13 : decode cX11_home 13 = .ok (.putfield 256, 3) := by decide +kernel
theorem dX11_home_16 : decode cX11_home 16 = .ok (.iload_n 1, 1) := by decide +kernel
theorem dX11_home_17 : decode cX11_home 17 = .ok (.ireturn, 1) := by decide +kernel
theorem dX11_comes_0 : decode cX11_comes 0 = .ok (.iload_n 2, 1) := by decide +kernel
theorem dX11_comes_1 : decode cX11_comes 1 = .ok (.iconst 0, 1) := by decide +kernel
theorem dX11_comes_2 : decode cX11_comes 2 = .ok (.sipush 300, 3) := by decide +kernel
theorem dX11_comes_5 : decode cX11_comes 5 = .ok (.invokestatic 68, 3) := by decide +kernel
theorem dX11_comes_8 : decode cX11_comes 8 = .ok (.ifCond .ne 5, 3) := by decide +kernel
theorem dX11_comes_11 : decode cX11_comes 11 = .ok (.iconst (-1), 1) := by decide +kernel
theorem dX11_comes_12 : decode cX11_comes 12 = .ok (.ireturn, 1) := by decide +kernel
theorem dX11_comes_13 : decode cX11_comes 13 = .ok (.aload_n 0, 1) := by decide +kernel
theorem dX11_comes_14 : decode cX11_comes 14 = .ok (.getfield 12, 3) := by decide +kernel
theorem dX11_comes_17 : decode cX11_comes 17 = .ok (.getfield 58, 3) := by decide +kernel
theorem dX11_comes_20 : decode cX11_comes 20 = .ok (.iload_n 1, 1) := by decide +kernel
theorem dX11_comes_21 : decode cX11_comes 21 = .ok (.invokevirtual 62, 3) := by decide +kernel
theorem dX11_comes_24 : decode cX11_comes 24 = .ok (.ifCond .ne 6, 3) := by decide +kernel
theorem dX11_comes_27 : decode cX11_comes 27 = .ok (.bipush (-2), 2) := by decide +kernel
theorem dX11_comes_29 : decode cX11_comes 29 = .ok (.ireturn, 1) := by decide +kernel
theorem dX11_comes_30 : decode cX11_comes 30 = .ok (.aload_n 0, 1) := by decide +kernel
theorem dX11_comes_31 : decode cX11_comes 31 = .ok (.iload_n 1, 1) := by decide +kernel
theorem dX11_comes_32 : decode cX11_comes 32 = .ok (.iload_n 2, 1) := by decide +kernel
theorem dX11_comes_33 : decode cX11_comes 33 = .ok (.invokevirtual 272, 3) := by decide +kernel
theorem dX11_comes_36 : decode cX11_comes 36 = .ok (.ifCond .ne 6, 3) := by decide +kernel
theorem dX11_comes_39 : decode cX11_comes 39 = .ok (.bipush (-6), 2) := by decide +kernel
theorem dX11_comes_41 : decode cX11_comes 41 = .ok (.ireturn, 1) := by decide +kernel
theorem dX11_comes_42 : decode cX11_comes 42 = .ok (.iconst 0, 1) := by decide +kernel
theorem dX11_comes_43 : decode cX11_comes 43 = .ok (.istore_n 3, 1) := by decide +kernel
theorem dX11_comes_44 : decode cX11_comes 44 = .ok (.iconst 0, 1) := by decide +kernel
theorem dX11_comes_45 : decode cX11_comes 45 = .ok (.istore 4, 2) := by decide +kernel
theorem dX11_comes_47 : decode cX11_comes 47 = .ok (.iload 4, 2) := by decide +kernel
theorem dX11_comes_49 : decode cX11_comes 49 = .ok (.aload_n 0, 1) := by decide +kernel
theorem dX11_comes_50 : decode cX11_comes 50 = .ok (.getfield 281, 3) := by decide +kernel
theorem dX11_comes_53 : decode cX11_comes 53 = .ok (.if_icmp .ge 23, 3) := by decide +kernel
theorem dX11_comes_56 : decode cX11_comes 56 = .ok (.iload_n 3, 1) := by decide +kernel
theorem dX11_comes_57 : decode cX11_comes 57 = .ok (.aload_n 0, 1) := by decide +kernel
theorem dX11_comes_58 : decode cX11_comes 58 = .ok (.aload_n 0, 1) := by decide +kernel
theorem dX11_comes_59 : decode cX11_comes 59 = .ok (.getfield 48, 3) := by decide +kernel
theorem dX11_comes_62 : decode cX11_comes 62 = .ok (.iload 4, 2) := by decide +kernel
theorem dX11_comes_64 : decode cX11_comes 64 = .ok (.iaload, 1) := by decide +kernel
theorem dX11_comes_65 : decode cX11_comes 65 = .ok (.invokevirtual 284, 3) := by decide +kernel
theorem dX11_comes_68 : decode cX11_comes 68 = .ok (.iadd, 1) := by decide +kernel
theorem dX11_comes_69 : decode cX11_comes 69 = .ok (.istore_n 3, 1) := by decide +kernel
theorem dX11_comes_70 : decode cX11_comes 70 = .ok (.iinc 4 1, 3) := by decide +kernel
theorem dX11_comes_73 : decode cX11_comes 73 = .ok (.goto (-26), 3) := by decide +kernel
theorem dX11_comes_76 : decode cX11_comes 76 = .ok (.aload_n 0, 1) := by decide +kernel
theorem dX11_comes_77 : decode cX11_comes 77 = .ok (.invokevirtual 287, 3) := by decide +kernel
theorem dX11_comes_80 : decode cX11_comes 80 = .ok (.iload_n 3, 1) := by decide +kernel
theorem dX11_comes_81 : decode cX11_comes 81 = .ok (.ireturn, 1) := by decide +kernel
theorem dX11_send_0 : decode cX11_send 0 = .ok (.iload_n 2, 1) := by decide +kernel
theorem dX11_send_1 : decode cX11_send 1 = .ok (.iconst 1, 1) := by decide +kernel
theorem dX11_send_2 : decode cX11_send 2 = .ok (.ldc_w 290, 3) := by decide +kernel
theorem dX11_send_5 : decode cX11_send 5 = .ok (.invokestatic 68, 3) := by decide +kernel
theorem dX11_send_8 : decode cX11_send 8 = .ok (.ifCond .ne 9, 3) := by decide +kernel
theorem dX11_send_11 : decode cX11_send 11 = .ok (.aload_n 0, 1) := by decide +kernel
theorem dX11_send_12 : decode cX11_send 12 = .ok (.iconst (-1), 1) := by decide +kernel
theorem dX11_send_13 : decode cX11_send 13 = .ok (.invokevirtual 72, 3) := by decide +kernel
theorem dX11_send_16 : decode cX11_send 16 = .ok (.ireturn, 1) := by decide +kernel
theorem dX11_send_17 : decode cX11_send 17 = .ok (.aload_n 0, 1) := by decide +kernel
theorem dX11_send_18 : decode cX11_send 18 = .ok (.getfield 12, 3) := by decide +kernel
theorem dX11_send_21 : decode cX11_send 21 = .ok (.getfield 58, 3) := by decide +kernel
theorem dX11_send_24 : decode cX11_send 24 = .ok (.iload_n 1, 1) := by decide +kernel
theorem dX11_send_25 : decode cX11_send 25 = .ok (.invokevirtual 62, 3) := by decide +kernel
theorem dX11_send_28 : decode cX11_send 28 = .ok (.ifCond .ne 10, 3) := by decide +kernel
theorem dX11_send_31 : decode cX11_send 31 = .ok (.aload_n 0, 1) := by decide +kernel
theorem dX11_send_32 : decode cX11_send 32 = .ok (.bipush (-2), 2) := by decide +kernel
theorem dX11_send_34 : decode cX11_send 34 = .ok (.invokevirtual 72, 3) := by decide +kernel
theorem dX11_send_37 : decode cX11_send 37 = .ok (.ireturn, 1) := by decide +kernel
theorem dX11_send_38 : decode cX11_send 38 = .ok (.aload_n 0, 1) := by decide +kernel
theorem dX11_send_39 : decode cX11_send 39 = .ok (.iload_n 1, 1) := by decide +kernel
theorem dX11_send_40 : decode cX11_send 40 = .ok (.iload_n 2, 1) := by decide +kernel
theorem dX11_send_41 : decode cX11_send 41 = .ok (.invokevirtual 291, 3) := by decide +kernel
theorem dX11_send_44 : decode cX11_send 44 = .ok (.istore_n 3, 1) := by decide +kernel
theorem dX11_send_45 : decode cX11_send 45 = .ok (.iload_n 3, 1) := by decide +kernel
theorem dX11_send_46 : decode cX11_send 46 = .ok (.iload_n 2, 1) := by decide +kernel
theorem dX11_send_47 : decode cX11_send 47 = .ok (.if_icmp .ge 31, 3) := by decide +kernel
theorem dX11_send_50 : decode cX11_send 50 = .ok (.aload_n 0, 1) := by decide +kernel
theorem dX11_send_51 : decode cX11_send 51 = .ok (.invokevirtual 287, 3) := by decide +kernel
theorem dX11_send_54 : decode cX11_send 54 = .ok (.aload_n 0, 1) := by decide +kernel
theorem dX11_send_55 : decode cX11_send 55 = .ok (.iload_n 2, 1) := by decide +kernel
theorem dX11_send_56 : decode cX11_send 56 = .ok (.iload_n 3, 1) := by decide +kernel
theorem dX11_send_57 : decode cX11_send 57 = .ok (.isub, 1) := by decide +kernel
theorem dX11_send_58 : decode cX11_send 58 = .ok (.putfield 294, 3) := by decide +kernel
theorem dX11_send_61 : decode cX11_send 61 = .ok (.aload_n 0, 1) := by decide +kernel
theorem dX11_send_62 : decode cX11_send 62 = .ok (.iconst 0, 1) := by decide +kernel
theorem dX11_send_63 : decode cX11_send 63 = .ok (.putfield 297, 3) := by decide +kernel
theorem dX11_send_66 : decode cX11_send 66 = .ok (.aload_n 0, 1) := by decide +kernel
theorem dX11_send_67 : decode cX11_send 67 = .ok (.iconst 0, 1) := by decide +kernel
theorem dX11_send_68 : decode cX11_send 68 = .ok (.putfield 300, 3) := by decide +kernel
theorem dX11_send_71 : decode cX11_send 71 = .ok (.aload_n 0, 1) := by decide +kernel
theorem dX11_send_72 : decode cX11_send 72 = .ok (.bipush (-6), 2) := by decide +kernel
theorem dX11_send_74 : decode cX11_send 74 = .ok (.invokevirtual 72, 3) := by decide +kernel
theorem dX11_send_77 : decode cX11_send 77 = .ok (.ireturn, 1) := by decide +kernel
theorem dX11_send_78 : decode cX11_send 78 = .ok (.aload_n 0, 1) := by decide +kernel
theorem dX11_send_79 : decode cX11_send 79 = .ok (.iconst 0, 1) := by decide +kernel
theorem dX11_send_80 : decode cX11_send 80 = .ok (.putfield 294, 3) := by decide +kernel
theorem dX11_send_83 : decode cX11_send 83 = .ok (.aload_n 0, 1) := by decide +kernel
theorem dX11_send_84 : decode cX11_send 84 = .ok (.iload_n 3, 1) := by decide +kernel
theorem dX11_send_85 : decode cX11_send 85 = .ok (.putfield 297, 3) := by decide +kernel
theorem dX11_send_88 : decode cX11_send 88 = .ok (.aload_n 0, 1) := by decide +kernel
theorem dX11_send_89 : decode cX11_send 89 = .ok (.aload_n 0, 1) := by decide +kernel
theorem dX11_send_90 : decode cX11_send 90 = .ok (.invokevirtual 303, 3) := by decide +kernel
theorem dX11_send_93 : decode cX11_send 93 = .ok (.putfield 300, 3) := by decide +kernel
theorem dX11_send_96 : decode cX11_send 96 = .ok (.aload_n 0, 1) := by decide +kernel
theorem dX11_send_97 : decode cX11_send 97 = .ok (.invokevirtual 275, 3) := by decide +kernel
theorem dX11_send_100 : decode cX11_send 100 = .ok (.pop, 1) := by decide +kernel
theorem dX11_send_101 : decode cX11_send 101 = .ok (.aload_n 0, 1) := by decide +kernel
theorem dX11_send_102 : decode cX11_send 102 = .ok (.aload_n 0, 1) := by decide +kernel
theorem dX11_send_103 : decode cX11_send 103 = .ok (.getfield 266, 3) := by decide +kernel
theorem dX11_send_106 : decode cX11_send 106 = .ok (.invokevirtual 72, 3) := by decide +kernel
theorem dX11_send_109 : decode cX11_send 109 = .ok (.ireturn, 1) := by decide +kernel
theorem dX11_sent_0 : decode cX11_sent 0 = .ok (.iload_n 1, 1) := by decide +kernel
theorem dX11_sent_1 : decode cX11_sent 1 = .ok (.tableswitch 42 0 2 #[27, 32, 37], 27) := by decide +kernel
theorem dX11_sent_28 : decode cX11_sent 28 = .ok (.aload_n 0, 1) := by decide +kernel
theorem dX11_sent_29 : decode cX11_sent 29 = .ok (.getfield 294, 3) := by decide +kernel
theorem dX11_sent_32 : decode cX11_sent 32 = .ok (.ireturn, 1) := by decide +kernel
theorem dX11_sent_33 : decode cX11_sent 33 = .ok (.aload_n 0, 1) := by decide +kernel
theorem dX11_sent_34 : decode cX11_sent 34 = .ok (.getfield 297, 3) := by decide +kernel
theorem dX11_sent_37 : decode cX11_sent 37 = .ok (.ireturn, 1) := by decide +kernel
theorem dX11_sent_38 : decode cX11_sent 38 = .ok (.aload_n 0, 1) := by decide +kernel
theorem dX11_sent_39 : decode cX11_sent 39 = .ok (.getfield 300, 3) := by decide +kernel
theorem dX11_sent_42 : decode cX11_sent 42 = .ok (.ireturn, 1) := by decide +kernel
theorem dX11_sent_43 : decode cX11_sent 43 = .ok (.iconst (-1), 1) := by decide +kernel
theorem dX11_sent_44 : decode cX11_sent 44 = .ok (.ireturn, 1) := by decide +kernel
theorem dX11_list_0 : decode cX11_list 0 = .ok (.iload_n 1, 1) := by decide +kernel
theorem dX11_list_1 : decode cX11_list 1 = .ok (.iconst 0, 1) := by decide +kernel
theorem dX11_list_2 : decode cX11_list 2 = .ok (.aload_n 0, 1) := by decide +kernel
theorem dX11_list_3 : decode cX11_list 3 = .ok (.getfield 266, 3) := by decide +kernel
theorem dX11_list_6 : decode cX11_list 6 = .ok (.iconst 1, 1) := by decide +kernel
theorem dX11_list_7 : decode cX11_list 7 = .ok (.isub, 1) := by decide +kernel
theorem dX11_list_8 : decode cX11_list 8 = .ok (.invokestatic 68, 3) := by decide +kernel
theorem dX11_list_11 : decode cX11_list 11 = .ok (.ifCond .eq 12, 3) := by decide +kernel
theorem dX11_list_14 : decode cX11_list 14 = .ok (.aload_n 0, 1) := by decide +kernel
theorem dX11_list_15 : decode cX11_list 15 = .ok (.getfield 51, 3) := by decide +kernel
theorem dX11_list_18 : decode cX11_list 18 = .ok (.iload_n 1, 1) := by decide +kernel
theorem dX11_list_19 : decode cX11_list 19 = .ok (.iaload, 1) := by decide +kernel
theorem dX11_list_20 : decode cX11_list 20 = .ok (.goto 4, 3) := by decide +kernel
theorem dX11_list_23 : decode cX11_list 23 = .ok (.iconst (-1), 1) := by decide +kernel
theorem dX11_list_24 : decode cX11_list 24 = .ok (.ireturn, 1) := by decide +kernel
theorem dX11_price_0 : decode cX11_price 0 = .ok (.iload_n 1, 1) := by decide +kernel
theorem dX11_price_1 : decode cX11_price 1 = .ok (.iconst 0, 1) := by decide +kernel
theorem dX11_price_2 : decode cX11_price 2 = .ok (.iconst 2, 1) := by decide +kernel
theorem dX11_price_3 : decode cX11_price 3 = .ok (.invokestatic 68, 3) := by decide +kernel
theorem dX11_price_6 : decode cX11_price 6 = .ok (.ifCond .eq 14, 3) := by decide +kernel
theorem dX11_price_9 : decode cX11_price 9 = .ok (.iload_n 2, 1) := by decide +kernel
theorem dX11_price_10 : decode cX11_price 10 = .ok (.iconst 0, 1) := by decide +kernel
theorem dX11_price_11 : decode cX11_price 11 = .ok (.sipush 5000, 3) := by decide +kernel
theorem dX11_price_14 : decode cX11_price 14 = .ok (.invokestatic 68, 3) := by decide +kernel
theorem dX11_price_17 : decode cX11_price 17 = .ok (.ifCond .ne 9, 3) := by decide +kernel
theorem dX11_price_20 : decode cX11_price 20 = .ok (.aload_n 0, 1) := by decide +kernel
theorem dX11_price_21 : decode cX11_price 21 = .ok (.iconst (-1), 1) := by decide +kernel
theorem dX11_price_22 : decode cX11_price 22 = .ok (.invokevirtual 72, 3) := by decide +kernel
theorem dX11_price_25 : decode cX11_price 25 = .ok (.ireturn, 1) := by decide +kernel
theorem dX11_price_26 : decode cX11_price 26 = .ok (.aload_n 0, 1) := by decide +kernel
theorem dX11_price_27 : decode cX11_price 27 = .ok (.getfield 44, 3) := by decide +kernel
theorem dX11_price_30 : decode cX11_price 30 = .ok (.iload_n 1, 1) := by decide +kernel
theorem dX11_price_31 : decode cX11_price 31 = .ok (.iload_n 2, 1) := by decide +kernel
theorem dX11_price_32 : decode cX11_price 32 = .ok (.iastore, 1) := by decide +kernel
theorem dX11_price_33 : decode cX11_price 33 = .ok (.aload_n 0, 1) := by decide +kernel
theorem dX11_price_34 : decode cX11_price 34 = .ok (.iconst 0, 1) := by decide +kernel
theorem dX11_price_35 : decode cX11_price 35 = .ok (.invokevirtual 72, 3) := by decide +kernel
theorem dX11_price_38 : decode cX11_price 38 = .ok (.ireturn, 1) := by decide +kernel
theorem dX11_foretell_0 : decode cX11_foretell 0 = .ok (.iload_n 1, 1) := by decide +kernel
theorem dX11_foretell_1 : decode cX11_foretell 1 = .ok (.iconst 1, 1) := by decide +kernel
theorem dX11_foretell_2 : decode cX11_foretell 2 = .ok (.sipush 200, 3) := by decide +kernel
theorem dX11_foretell_5 : decode cX11_foretell 5 = .ok (.invokestatic 68, 3) := by decide +kernel
theorem dX11_foretell_8 : decode cX11_foretell 8 = .ok (.ifCond .eq 14, 3) := by decide +kernel
theorem dX11_foretell_11 : decode cX11_foretell 11 = .ok (.iload_n 2, 1) := by decide +kernel
theorem dX11_foretell_12 : decode cX11_foretell 12 = .ok (.iconst 0, 1) := by decide +kernel
theorem dX11_foretell_13 : decode cX11_foretell 13 = .ok (.sipush 199, 3) := by decide +kernel
theorem dX11_foretell_16 : decode cX11_foretell 16 = .ok (.invokestatic 68, 3) := by decide +kernel
theorem dX11_foretell_19 : decode cX11_foretell 19 = .ok (.ifCond .ne 9, 3) := by decide +kernel
theorem dX11_foretell_22 : decode cX11_foretell 22 = .ok (.aload_n 0, 1) := by decide +kernel
theorem dX11_foretell_23 : decode cX11_foretell 23 = .ok (.iconst (-1), 1) := by decide +kernel
theorem dX11_foretell_24 : decode cX11_foretell 24 = .ok (.invokevirtual 72, 3) := by decide +kernel
theorem dX11_foretell_27 : decode cX11_foretell 27 = .ok (.ireturn, 1) := by decide +kernel
theorem dX11_foretell_28 : decode cX11_foretell 28 = .ok (.aload_n 0, 1) := by decide +kernel
theorem dX11_foretell_29 : decode cX11_foretell 29 = .ok (.getfield 306, 3) := by decide +kernel
theorem dX11_foretell_32 : decode cX11_foretell 32 = .ok (.ifnonnull 14, 3) := by decide +kernel
theorem dX11_foretell_35 : decode cX11_foretell 35 = .ok (.aload_n 0, 1) := by decide +kernel
