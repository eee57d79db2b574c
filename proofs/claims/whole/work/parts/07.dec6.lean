theorem dX12_warmthOf_49 : decode cX12_warmthOf 49 = .ok (.iload_n 3, 1) := by decide +kernel
theorem dX12_warmthOf_50 : decode cX12_warmthOf 50 = .ok (.ireturn, 1) := by decide +kernel
theorem dX12_hasDrain_0 : decode cX12_hasDrain 0 = .ok (.iconst 0, 1) := by decide +kernel
theorem dX12_hasDrain_1 : decode cX12_hasDrain 1 = .ok (.istore_n 2, 1) := by decide +kernel
theorem dX12_hasDrain_2 : decode cX12_hasDrain 2 = .ok (.iconst 0, 1) := by decide +kernel
theorem dX12_hasDrain_3 : decode cX12_hasDrain 3 = .ok (.istore_n 3, 1) := by decide +kernel
theorem dX12_hasDrain_4 : decode cX12_hasDrain 4 = .ok (.iload_n 3, 1) := by decide +kernel
theorem dX12_hasDrain_5 : decode cX12_hasDrain 5 = .ok (.aload_n 0, 1) := by decide +kernel
theorem dX12_hasDrain_6 : decode cX12_hasDrain 6 = .ok (.iload_n 1, 1) := by decide +kernel
theorem dX12_hasDrain_7 : decode cX12_hasDrain 7 = .ok (.invokevirtual 167, 3) := by decide +kernel
theorem dX12_hasDrain_10 : decode cX12_hasDrain 10 = .ok (.if_icmp .ge 29, 3) := by decide +kernel
theorem dX12_hasDrain_13 : decode cX12_hasDrain 13 = .ok (.iload_n 2, 1) := by decide +kernel
theorem dX12_hasDrain_14 : decode cX12_hasDrain 14 = .ok (.ifCond .ne 13, 3) := by decide +kernel
theorem dX12_hasDrain_17 : decode cX12_hasDrain 17 = .ok (.aload_n 0, 1) := by decide +kernel
theorem dX12_hasDrain_18 : decode cX12_hasDrain 18 = .ok (.iload_n 1, 1) := by decide +kernel
theorem dX12_hasDrain_19 : decode cX12_hasDrain 19 = .ok (.iload_n 3, 1) := by decide +kernel
theorem dX12_hasDrain_20 : decode cX12_hasDrain 20 = .ok (.invokevirtual 173, 3) := by decide +kernel
theorem dX12_hasDrain_23 : decode cX12_hasDrain 23 = .ok (.iconst 2, 1) := by decide +kernel
theorem dX12_hasDrain_24 : decode cX12_hasDrain 24 = .ok (.if_icmp .ne 7, 3) := by decide +kernel
theorem dX12_hasDrain_27 : decode cX12_hasDrain 27 = .ok (.iconst 1, 1) := by decide +kernel
theorem dX12_hasDrain_28 : decode cX12_hasDrain 28 = .ok (.goto 4, 3) := by decide +kernel
theorem dX12_hasDrain_31 : decode cX12_hasDrain 31 = .ok (.iconst 0, 1) := by decide +kernel
theorem dX12_hasDrain_32 : decode cX12_hasDrain 32 = .ok (.istore_n 2, 1) := by decide +kernel
theorem dX12_hasDrain_33 : decode cX12_hasDrain 33 = .ok (.iinc 3 1, 3) := by decide +kernel
theorem dX12_hasDrain_36 : decode cX12_hasDrain 36 = .ok (.goto (-32), 3) := by decide +kernel
theorem dX12_hasDrain_39 : decode cX12_hasDrain 39 = .ok (.iload_n 2, 1) := by decide +kernel
theorem dX12_hasDrain_40 : decode cX12_hasDrain 40 = .ok (.ireturn, 1) := by decide +kernel
theorem dX12_isInWater_0 : decode cX12_isInWater 0 = .ok (.aload_n 0, 1) := by decide +kernel
theorem dX12_isInWater_1 : decode cX12_isInWater 1 = .ok (.getfield 40, 3) := by decide +kernel
theorem dX12_isInWater_4 : decode cX12_isInWater 4 = .ok (.iload_n 1, 1) := by decide +kernel
theorem dX12_isInWater_5 : decode cX12_isInWater 5 = .ok (.iaload, 1) := by decide +kernel
theorem dX12_isInWater_6 : decode cX12_isInWater 6 = .ok (.iconst 5, 1) := by decide +kernel
theorem dX12_isInWater_7 : decode cX12_isInWater 7 = .ok (.if_icmp .ne 24, 3) := by decide +kernel
theorem dX12_isInWater_10 : decode cX12_isInWater 10 = .ok (.aload_n 0, 1) := by decide +kernel
theorem dX12_isInWater_11 : decode cX12_isInWater 11 = .ok (.iload_n 1, 1) := by decide +kernel
theorem dX12_isInWater_12 : decode cX12_isInWater 12 = .ok (.iload_n 2, 1) := by decide +kernel
theorem dX12_isInWater_13 : decode cX12_isInWater 13 = .ok (.invokevirtual 170, 3) := by decide +kernel
theorem dX12_isInWater_16 : decode cX12_isInWater 16 = .ok (.ifCond .ne 15, 3) := by decide +kernel
theorem dX12_isInWater_19 : decode cX12_isInWater 19 = .ok (.aload_n 0, 1) := by decide +kernel
theorem dX12_isInWater_20 : decode cX12_isInWater 20 = .ok (.iload_n 1, 1) := by decide +kernel
theorem dX12_isInWater_21 : decode cX12_isInWater 21 = .ok (.invokevirtual 190, 3) := by decide +kernel
theorem dX12_isInWater_24 : decode cX12_isInWater 24 = .ok (.ifCond .ne 7, 3) := by decide +kernel
theorem dX12_isInWater_27 : decode cX12_isInWater 27 = .ok (.iconst 1, 1) := by decide +kernel
theorem dX12_isInWater_28 : decode cX12_isInWater 28 = .ok (.goto 4, 3) := by decide +kernel
theorem dX12_isInWater_31 : decode cX12_isInWater 31 = .ok (.iconst 0, 1) := by decide +kernel
theorem dX12_isInWater_32 : decode cX12_isInWater 32 = .ok (.ireturn, 1) := by decide +kernel
theorem dX12_loss_0 : decode cX12_loss 0 = .ok (.aload_n 0, 1) := by decide +kernel
theorem dX12_loss_1 : decode cX12_loss 1 = .ok (.getfield 73, 3) := by decide +kernel
theorem dX12_loss_4 : decode cX12_loss 4 = .ok (.iload_n 1, 1) := by decide +kernel
theorem dX12_loss_5 : decode cX12_loss 5 = .ok (.iaload, 1) := by decide +kernel
theorem dX12_loss_6 : decode cX12_loss 6 = .ok (.istore_n 3, 1) := by decide +kernel
theorem dX12_loss_7 : decode cX12_loss 7 = .ok (.aload_n 0, 1) := by decide +kernel
theorem dX12_loss_8 : decode cX12_loss 8 = .ok (.getfield 76, 3) := by decide +kernel
theorem dX12_loss_11 : decode cX12_loss 11 = .ok (.iload_n 1, 1) := by decide +kernel
theorem dX12_loss_12 : decode cX12_loss 12 = .ok (.iaload, 1) := by decide +kernel
theorem dX12_loss_13 : decode cX12_loss 13 = .ok (.istore 4, 2) := by decide +kernel
theorem dX12_loss_15 : decode cX12_loss 15 = .ok (.aload_n 0, 1) := by decide +kernel
theorem dX12_loss_16 : decode cX12_loss 16 = .ok (.iload_n 3, 1) := by decide +kernel
theorem dX12_loss_17 : decode cX12_loss 17 = .ok (.iload_n 2, 1) := by decide +kernel
theorem dX12_loss_18 : decode cX12_loss 18 = .ok (.invokevirtual 193, 3) := by decide +kernel
theorem dX12_loss_21 : decode cX12_loss 21 = .ok (.istore 5, 2) := by decide +kernel
theorem dX12_loss_23 : decode cX12_loss 23 = .ok (.iload 5, 2) := by decide +kernel
theorem dX12_loss_25 : decode cX12_loss 25 = .ok (.ifCond .le 24, 3) := by decide +kernel
theorem dX12_loss_28 : decode cX12_loss 28 = .ok (.aload_n 0, 1) := by decide +kernel
theorem dX12_loss_29 : decode cX12_loss 29 = .ok (.getfield 67, 3) := by decide +kernel
theorem dX12_loss_32 : decode cX12_loss 32 = .ok (.iload_n 1, 1) := by decide +kernel
theorem dX12_loss_33 : decode cX12_loss 33 = .ok (.iaload, 1) := by decide +kernel
theorem dX12_loss_34 : decode cX12_loss 34 = .ok (.iconst 2, 1) := by decide +kernel
theorem dX12_loss_35 : decode cX12_loss 35 = .ok (.if_icmp .ne 7, 3) := by decide +kernel
theorem dX12_loss_38 : decode cX12_loss 38 = .ok (.iconst 5, 1) := by decide +kernel
theorem dX12_loss_39 : decode cX12_loss 39 = .ok (.goto 4, 3) := by decide +kernel
theorem dX12_loss_42 : decode cX12_loss 42 = .ok (.iconst 3, 1) := by decide +kernel
theorem dX12_loss_43 : decode cX12_loss 43 = .ok (.iload 5, 2) := by decide +kernel
theorem dX12_loss_45 : decode cX12_loss 45 = .ok (.imul, 1) := by decide +kernel
theorem dX12_loss_46 : decode cX12_loss 46 = .ok (.goto 4, 3) := by decide +kernel
theorem dX12_loss_49 : decode cX12_loss 49 = .ok (.iconst 0, 1) := by decide +kernel
theorem dX12_loss_50 : decode cX12_loss 50 = .ok (.istore 6, 2) := by decide +kernel
theorem dX12_loss_52 : decode cX12_loss 52 = .ok (.aload_n 0, 1) := by decide +kernel
theorem dX12_loss_53 : decode cX12_loss 53 = .ok (.iload_n 3, 1) := by decide +kernel
theorem dX12_loss_54 : decode cX12_loss 54 = .ok (.iload 4, 2) := by decide +kernel
theorem dX12_loss_56 : decode cX12_loss 56 = .ok (.iconst 0, 1) := by decide +kernel
theorem dX12_loss_57 : decode cX12_loss 57 = .ok (.invokevirtual 196, 3) := by decide +kernel
theorem dX12_loss_60 : decode cX12_loss 60 = .ok (.iload 6, 2) := by decide +kernel
theorem dX12_loss_62 : decode cX12_loss 62 = .ok (.imul, 1) := by decide +kernel
theorem dX12_loss_63 : decode cX12_loss 63 = .ok (.aload_n 0, 1) := by decide +kernel
theorem dX12_loss_64 : decode cX12_loss 64 = .ok (.iload_n 3, 1) := by decide +kernel
theorem dX12_loss_65 : decode cX12_loss 65 = .ok (.iload 4, 2) := by decide +kernel
theorem dX12_loss_67 : decode cX12_loss 67 = .ok (.iconst 1, 1) := by decide +kernel
theorem dX12_loss_68 : decode cX12_loss 68 = .ok (.invokevirtual 196, 3) := by decide +kernel
theorem dX12_loss_71 : decode cX12_loss 71 = .ok (.iload 6, 2) := by decide +kernel
theorem dX12_loss_73 : decode cX12_loss 73 = .ok (.aload_n 0, 1) := by decide +kernel
theorem dX12_loss_74 : decode cX12_loss 74 = .ok (.getfield 17, 3) := by decide +kernel
theorem dX12_loss_77 : decode cX12_loss 77 = .ok (.imul, 1) := by decide +kernel
theorem dX12_loss_78 : decode cX12_loss 78 = .ok (.bipush 100, 2) := by decide +kernel
theorem dX12_loss_80 : decode cX12_loss 80 = .ok (.idiv, 1) := by decide +kernel
theorem dX12_loss_81 : decode cX12_loss 81 = .ok (.imul, 1) := by decide +kernel
theorem dX12_loss_82 : decode cX12_loss 82 = .ok (.iadd, 1) := by decide +kernel
theorem dX12_loss_83 : decode cX12_loss 83 = .ok (.aload_n 0, 1) := by decide +kernel
theorem dX12_loss_84 : decode cX12_loss 84 = .ok (.iload_n 3, 1) := by decide +kernel
theorem dX12_loss_85 : decode cX12_loss 85 = .ok (.iload 4, 2) := by decide +kernel
theorem dX12_loss_87 : decode cX12_loss 87 = .ok (.invokevirtual 199, 3) := by decide +kernel
theorem dX12_loss_90 : decode cX12_loss 90 = .ok (.ifCond .eq 10, 3) := by decide +kernel
theorem dX12_loss_93 : decode cX12_loss 93 = .ok (.aload_n 0, 1) := by decide +kernel
theorem dX12_loss_94 : decode cX12_loss 94 = .ok (.getfield 21, 3) := by decide +kernel
theorem dX12_loss_97 : decode cX12_loss 97 = .ok (.goto 4, 3) := by decide +kernel
theorem dX12_loss_100 : decode cX12_loss 100 = .ok (.iconst 0, 1) := by decide +kernel
theorem dX12_loss_101 : decode cX12_loss 101 = .ok (.iadd, 1) := by decide +kernel
theorem dX12_loss_102 : decode cX12_loss 102 = .ok (.istore 7, 2) := by decide +kernel
theorem dX12_loss_104 : decode cX12_loss 104 = .ok (.iload 7, 2) := by decide +kernel
theorem dX12_loss_106 : decode cX12_loss 106 = .ok (.aload_n 0, 1) := by decide +kernel
theorem dX12_loss_107 : decode cX12_loss 107 = .ok (.getfield 70, 3) := by decide +kernel
theorem dX12_loss_110 : decode cX12_loss 110 = .ok (.iload_n 1, 1) := by decide +kernel
theorem dX12_loss_111 : decode cX12_loss 111 = .ok (.iaload, 1) := by decide +kernel
theorem dX12_loss_112 : decode cX12_loss 112 = .ok (.if_icmp .ge 8, 3) := by decide +kernel
theorem dX12_loss_115 : decode cX12_loss 115 = .ok (.iload 7, 2) := by decide +kernel
theorem dX12_loss_117 : decode cX12_loss 117 = .ok (.goto 9, 3) := by decide +kernel
theorem dX12_loss_120 : decode cX12_loss 120 = .ok (.aload_n 0, 1) := by decide +kernel
theorem dX12_loss_121 : decode cX12_loss 121 = .ok (.getfield 70, 3) := by decide +kernel
theorem dX12_loss_124 : decode cX12_loss 124 = .ok (.iload_n 1, 1) := by decide +kernel
theorem dX12_loss_125 : decode cX12_loss 125 = .ok (.iaload, 1) := by decide +kernel
theorem dX12_loss_126 : decode cX12_loss 126 = .ok (.ireturn, 1) := by decide +kernel
theorem dX12_isFree_0 : decode cX12_isFree 0 = .ok (.aload_n 0, 1) := by decide +kernel
theorem dX12_isFree_1 : decode cX12_isFree 1 = .ok (.aload_n 0, 1) := by decide +kernel
theorem dX12_isFree_2 : decode cX12_isFree 2 = .ok (.getfield 73, 3) := by decide +kernel
theorem dX12_isFree_5 : decode cX12_isFree 5 = .ok (.iload_n 1, 1) := by decide +kernel
theorem dX12_isFree_6 : decode cX12_isFree 6 = .ok (.iaload, 1) := by decide +kernel
theorem dX12_isFree_7 : decode cX12_isFree 7 = .ok (.aload_n 0, 1) := by decide +kernel
theorem dX12_isFree_8 : decode cX12_isFree 8 = .ok (.getfield 76, 3) := by decide +kernel
theorem dX12_isFree_11 : decode cX12_isFree 11 = .ok (.iload_n 1, 1) := by decide +kernel
theorem dX12_isFree_12 : decode cX12_isFree 12 = .ok (.iaload, 1) := by decide +kernel
theorem dX12_isFree_13 : decode cX12_isFree 13 = .ok (.iconst 5, 1) := by decide +kernel
theorem dX12_isFree_14 : decode cX12_isFree 14 = .ok (.invokevirtual 176, 3) := by decide +kernel
theorem dX12_isFree_17 : decode cX12_isFree 17 = .ok (.bipush 10, 2) := by decide +kernel
theorem dX12_isFree_19 : decode cX12_isFree 19 = .ok (.if_icmp .ge 7, 3) := by decide +kernel
theorem dX12_isFree_22 : decode cX12_isFree 22 = .ok (.iconst 1, 1) := by decide +kernel
theorem dX12_isFree_23 : decode cX12_isFree 23 = .ok (.goto 4, 3) := by decide +kernel
theorem dX12_isFree_26 : decode cX12_isFree 26 = .ok (.iconst 0, 1) := by decide +kernel
theorem dX12_isFree_27 : decode cX12_isFree 27 = .ok (.ireturn, 1) := by decide +kernel
theorem dX12_rooms_0 : decode cX12_rooms 0 = .ok (.iload_n 2, 1) := by decide +kernel
theorem dX12_rooms_1 : decode cX12_rooms 1 = .ok (.iconst 0, 1) := by decide +kernel
theorem dX12_rooms_2 : decode cX12_rooms 2 = .ok (.bipush 11, 2) := by decide +kernel
theorem dX12_rooms_4 : decode cX12_rooms 4 = .ok (.invokestatic 145, 3) := by decide +kernel
theorem dX12_rooms_7 : decode cX12_rooms 7 = .ok (.ifCond .ne 5, 3) := by decide +kernel
theorem dX12_rooms_10 : decode cX12_rooms 10 = .ok (.iconst (-1), 1) := by decide +kernel
theorem dX12_rooms_11 : decode cX12_rooms 11 = .ok (.ireturn, 1) := by decide +kernel
theorem dX12_rooms_12 : decode cX12_rooms 12 = .ok (.aload_n 0, 1) := by decide +kernel
theorem dX12_rooms_13 : decode cX12_rooms 13 = .ok (.iload_n 1, 1) := by decide +kernel
theorem dX12_rooms_14 : decode cX12_rooms 14 = .ok (.invokevirtual 180, 3) := by decide +kernel
theorem dX12_rooms_17 : decode cX12_rooms 17 = .ok (.ifCond .ne 6, 3) := by decide +kernel
theorem dX12_rooms_20 : decode cX12_rooms 20 = .ok (.bipush (-2), 2) := by decide +kernel
theorem dX12_rooms_22 : decode cX12_rooms 22 = .ok (.ireturn, 1) := by decide +kernel
theorem dX12_rooms_23 : decode cX12_rooms 23 = .ok (.iload_n 2, 1) := by decide +kernel
theorem dX12_rooms_24 : decode cX12_rooms 24 = .ok (.tableswitch 130 0 9 #[56, 63, 70, 77, 84, 91, 103, 110, 116, 123], 56) := by decide +kernel
theorem dX12_rooms_80 : decode cX12_rooms 80 = .ok (.aload_n 0, 1) := by decide +kernel
theorem dX12_rooms_81 : decode cX12_rooms 81 = .ok (.getfield 40, 3) := by decide +kernel
theorem dX12_rooms_84 : decode cX12_rooms 84 = .ok (.iload_n 1, 1) := by decide +kernel
theorem dX12_rooms_85 : decode cX12_rooms 85 = .ok (.iaload, 1) := by decide +kernel
theorem dX12_rooms_86 : decode cX12_rooms 86 = .ok (.ireturn, 1) := by decide +kernel
theorem dX12_rooms_87 : decode cX12_rooms 87 = .ok (.aload_n 0, 1) := by decide +kernel
theorem dX12_rooms_88 : decode cX12_rooms 88 = .ok (.getfield 43, 3) := by decide +kernel
theorem dX12_rooms_91 : decode cX12_rooms 91 = .ok (.iload_n 1, 1) := by decide +kernel
theorem dX12_rooms_92 : decode cX12_rooms 92 = .ok (.iaload, 1) := by decide +kernel
theorem dX12_rooms_93 : decode cX12_rooms 93 = .ok (.ireturn, 1) := by decide +kernel
theorem dX12_rooms_94 : decode cX12_rooms 94 = .ok (.aload_n 0, 1) := by decide +kernel
theorem dX12_rooms_95 : decode cX12_rooms 95 = .ok (.getfield 46, 3) := by decide +kernel
theorem dX12_rooms_98 : decode cX12_rooms 98 = .ok (.iload_n 1, 1) := by decide +kernel
theorem dX12_rooms_99 : decode cX12_rooms 99 = .ok (.iaload, 1) := by decide +kernel
theorem dX12_rooms_100 : decode cX12_rooms 100 = .ok (.ireturn, 1) := by decide +kernel
theorem dX12_rooms_101 : decode cX12_rooms 101 = .ok (.aload_n 0, 1) := by decide +kernel
theorem dX12_rooms_102 : decode cX12_rooms 102 = .ok (.getfield 49, 3) := by decide +kernel
theorem dX12_rooms_105 : decode cX12_rooms 105 = .ok (.iload_n 1, 1) := by decide +kernel
theorem dX12_rooms_106 : decode cX12_rooms 106 = .ok (.iaload, 1) := by decide +kernel
theorem dX12_rooms_107 : decode cX12_rooms 107 = .ok (.ireturn, 1) := by decide +kernel
theorem dX12_rooms_108 : decode cX12_rooms 108 = .ok (.aload_n 0, 1) := by decide +kernel
theorem dX12_rooms_109 : decode cX12_rooms 109 = .ok (.getfield 52, 3) := by decide +kernel
theorem dX12_rooms_112 : decode cX12_rooms 112 = .ok (.iload_n 1, 1) := by decide +kernel
theorem dX12_rooms_113 : decode cX12_rooms 113 = .ok (.iaload, 1) := by decide +kernel
theorem dX12_rooms_114 : decode cX12_rooms 114 = .ok (.ireturn, 1) := by decide +kernel
theorem dX12_rooms_115 : decode cX12_rooms 115 = .ok (.aload_n 0, 1) := by decide +kernel
theorem dX12_rooms_116 : decode cX12_rooms 116 = .ok (.iload_n 1, 1) := by decide +kernel
theorem dX12_rooms_117 : decode cX12_rooms 117 = .ok (.aload_n 0, 1) := by decide +kernel
theorem dX12_rooms_118 : decode cX12_rooms 118 = .ok (.getfield 27, 3) := by decide +kernel
theorem dX12_rooms_121 : decode cX12_rooms 121 = .ok (.iconst 0, 1) := by decide +kernel
theorem dX12_rooms_122 : decode cX12_rooms 122 = .ok (.iaload, 1) := by decide +kernel
theorem dX12_rooms_123 : decode cX12_rooms 123 = .ok (.invokevirtual 193, 3) := by decide +kernel
theorem dX12_rooms_126 : decode cX12_rooms 126 = .ok (.ireturn, 1) := by decide +kernel
theorem dX12_rooms_127 : decode cX12_rooms 127 = .ok (.aload_n 0, 1) := by decide +kernel
theorem dX12_rooms_128 : decode cX12_rooms 128 = .ok (.iload_n 1, 1) := by decide +kernel
theorem dX12_rooms_129 : decode cX12_rooms 129 = .ok (.iconst (-1), 1) := by decide +kernel
theorem dX12_rooms_130 : decode cX12_rooms 130 = .ok (.invokevirtual 184, 3) := by decide +kernel
theorem dX12_rooms_133 : decode cX12_rooms 133 = .ok (.ireturn, 1) := by decide +kernel
theorem dX12_rooms_134 : decode cX12_rooms 134 = .ok (.aload_n 0, 1) := by decide +kernel
theorem dX12_rooms_135 : decode cX12_rooms 135 = .ok (.iload_n 1, 1) := by decide +kernel
theorem dX12_rooms_136 : decode cX12_rooms 136 = .ok (.invokevirtual 203, 3) := by decide +kernel
theorem dX12_rooms_139 : decode cX12_rooms 139 = .ok (.ireturn, 1) := by decide +kernel
theorem dX12_rooms_140 : decode cX12_rooms 140 = .ok (.aload_n 0, 1) := by decide +kernel
theorem dX12_rooms_141 : decode cX12_rooms 141 = .ok (.getfield 55, 3) := by decide +kernel
theorem dX12_rooms_144 : decode cX12_rooms 144 = .ok (.iload_n 1, 1) := by decide +kernel
theorem dX12_rooms_145 : decode cX12_rooms 145 = .ok (.iaload, 1) := by decide +kernel
theorem dX12_rooms_146 : decode cX12_rooms 146 = .ok (.ireturn, 1) := by decide +kernel
theorem dX12_rooms_147 : decode cX12_rooms 147 = .ok (.aload_n 0, 1) := by decide +kernel
theorem dX12_rooms_148 : decode cX12_rooms 148 = .ok (.getfield 58, 3) := by decide +kernel
theorem dX12_rooms_151 : decode cX12_rooms 151 = .ok (.iload_n 1, 1) := by decide +kernel
theorem dX12_rooms_152 : decode cX12_rooms 152 = .ok (.iaload, 1) := by decide +kernel
theorem dX12_rooms_153 : decode cX12_rooms 153 = .ok (.ireturn, 1) := by decide +kernel
theorem dX12_rooms_154 : decode cX12_rooms 154 = .ok (.iconst 0, 1) := by decide +kernel
theorem dX12_rooms_155 : decode cX12_rooms 155 = .ok (.istore_n 3, 1) := by decide +kernel
theorem dX12_rooms_156 : decode cX12_rooms 156 = .ok (.iconst 0, 1) := by decide +kernel
theorem dX12_rooms_157 : decode cX12_rooms 157 = .ok (.istore 4, 2) := by decide +kernel
theorem dX12_rooms_159 : decode cX12_rooms 159 = .ok (.iload 4, 2) := by decide +kernel
theorem dX12_rooms_161 : decode cX12_rooms 161 = .ok (.aload_n 0, 1) := by decide +kernel
theorem dX12_rooms_162 : decode cX12_rooms 162 = .ok (.getfield 34, 3) := by decide +kernel
theorem dX12_rooms_165 : decode cX12_rooms 165 = .ok (.iconst 0, 1) := by decide +kernel
theorem dX12_rooms_166 : decode cX12_rooms 166 = .ok (.iaload, 1) := by decide +kernel
theorem dX12_rooms_167 : decode cX12_rooms 167 = .ok (.if_icmp .ge 59, 3) := by decide +kernel
theorem dX12_rooms_170 : decode cX12_rooms 170 = .ok (.aload_n 0, 1) := by decide +kernel
theorem dX12_rooms_171 : decode cX12_rooms 171 = .ok (.getfield 73, 3) := by decide +kernel
theorem dX12_rooms_174 : decode cX12_rooms 174 = .ok (.iload 4, 2) := by decide +kernel
theorem dX12_rooms_176 : decode cX12_rooms 176 = .ok (.iaload, 1) := by decide +kernel
theorem dX12_rooms_177 : decode cX12_rooms 177 = .ok (.iload_n 1, 1) := by decide +kernel
theorem dX12_rooms_178 : decode cX12_rooms 178 = .ok (.if_icmp .ne 42, 3) := by decide +kernel
theorem dX12_rooms_181 : decode cX12_rooms 181 = .ok (.iload_n 3, 1) := by decide +kernel
theorem dX12_rooms_182 : decode cX12_rooms 182 = .ok (.iload_n 2, 1) := by decide +kernel
theorem dX12_rooms_183 : decode cX12_rooms 183 = .ok (.bipush 10, 2) := by decide +kernel
theorem dX12_rooms_185 : decode cX12_rooms 185 = .ok (.if_icmp .ne 19, 3) := by decide +kernel
theorem dX12_rooms_188 : decode cX12_rooms 188 = .ok (.aload_n 0, 1) := by decide +kernel
theorem dX12_rooms_189 : decode cX12_rooms 189 = .ok (.iload_n 1, 1) := by decide +kernel
theorem dX12_rooms_190 : decode cX12_rooms 190 = .ok (.aload_n 0, 1) := by decide +kernel
theorem dX12_rooms_191 : decode cX12_rooms 191 = .ok (.getfield 76, 3) := by decide +kernel
theorem dX12_rooms_194 : decode cX12_rooms 194 = .ok (.iload 4, 2) := by decide +kernel
theorem dX12_rooms_196 : decode cX12_rooms 196 = .ok (.iaload, 1) := by decide +kernel
theorem dX12_rooms_197 : decode cX12_rooms 197 = .ok (.iconst 0, 1) := by decide +kernel
theorem dX12_rooms_198 : decode cX12_rooms 198 = .ok (.invokevirtual 196, 3) := by decide +kernel
theorem dX12_rooms_201 : decode cX12_rooms 201 = .ok (.goto 17, 3) := by decide +kernel
theorem dX12_rooms_204 : decode cX12_rooms 204 = .ok (.aload_n 0, 1) := by decide +kernel
theorem dX12_rooms_205 : decode cX12_rooms 205 = .ok (.iload 4, 2) := by decide +kernel
theorem dX12_rooms_207 : decode cX12_rooms 207 = .ok (.invokevirtual 206, 3) := by decide +kernel
theorem dX12_rooms_210 : decode cX12_rooms 210 = .ok (.ifCond .eq 7, 3) := by decide +kernel
theorem dX12_rooms_213 : decode cX12_rooms 213 = .ok (.iconst 1, 1) := by decide +kernel
theorem dX12_rooms_214 : decode cX12_rooms 214 = .ok (.goto 4, 3) := by decide +kernel
theorem dX12_rooms_217 : decode cX12_rooms 217 = .ok (.iconst 0, 1) := by decide +kernel
theorem dX12_rooms_218 : decode cX12_rooms 218 = .ok (.iadd, 1) := by decide +kernel
theorem dX12_rooms_219 : decode cX12_rooms 219 = .ok (.istore_n 3, 1) := by decide +kernel
theorem dX12_rooms_220 : decode cX12_rooms 220 = .ok (.iinc 4 1, 3) := by decide +kernel
theorem dX12_rooms_223 : decode cX12_rooms 223 = .ok (.goto (-64), 3) := by decide +kernel
theorem dX12_rooms_226 : decode cX12_rooms 226 = .ok (.iload_n 3, 1) := by decide +kernel
theorem dX12_rooms_227 : decode cX12_rooms 227 = .ok (.ireturn, 1) := by decide +kernel
theorem dX12_weight_0 : decode cX12_weight 0 = .ok (.iconst 0, 1) := by decide +kernel
theorem dX12_weight_1 : decode cX12_weight 1 = .ok (.istore_n 2, 1) := by decide +kernel
theorem dX12_weight_2 : decode cX12_weight 2 = .ok (.iconst 0, 1) := by decide +kernel
theorem dX12_weight_3 : decode cX12_weight 3 = .ok (.istore_n 3, 1) := by decide +kernel
theorem dX12_weight_4 : decode cX12_weight 4 = .ok (.iload_n 3, 1) := by decide +kernel
theorem dX12_weight_5 : decode cX12_weight 5 = .ok (.aload_n 0, 1) := by decide +kernel
theorem dX12_weight_6 : decode cX12_weight 6 = .ok (.getfield 34, 3) := by decide +kernel
theorem dX12_weight_9 : decode cX12_weight 9 = .ok (.iconst 0, 1) := by decide +kernel
theorem dX12_weight_10 : decode cX12_weight 10 = .ok (.iaload, 1) := by decide +kernel
theorem dX12_weight_11 : decode cX12_weight 11 = .ok (.if_icmp .ge 46, 3) := by decide +kernel
theorem dX12_weight_14 : decode cX12_weight 14 = .ok (.iload_n 2, 1) := by decide +kernel
theorem dX12_weight_15 : decode cX12_weight 15 = .ok (.aload_n 0, 1) := by decide +kernel
theorem dX12_weight_16 : decode cX12_weight 16 = .ok (.getfield 73, 3) := by decide +kernel
theorem dX12_weight_19 : decode cX12_weight 19 = .ok (.iload_n 3, 1) := by decide +kernel
theorem dX12_weight_20 : decode cX12_weight 20 = .ok (.iaload, 1) := by decide +kernel
theorem dX12_weight_21 : decode cX12_weight 21 = .ok (.ifCond .lt 27, 3) := by decide +kernel
theorem dX12_weight_24 : decode cX12_weight 24 = .ok (.iload_n 1, 1) := by decide +kernel
theorem dX12_weight_25 : decode cX12_weight 25 = .ok (.iconst (-1), 1) := by decide +kernel
theorem dX12_weight_26 : decode cX12_weight 26 = .ok (.if_icmp .eq 13, 3) := by decide +kernel
theorem dX12_weight_29 : decode cX12_weight 29 = .ok (.aload_n 0, 1) := by decide +kernel
theorem dX12_weight_30 : decode cX12_weight 30 = .ok (.getfield 73, 3) := by decide +kernel
theorem dX12_weight_33 : decode cX12_weight 33 = .ok (.iload_n 3, 1) := by decide +kernel
theorem dX12_weight_34 : decode cX12_weight 34 = .ok (.iaload, 1) := by decide +kernel
theorem dX12_weight_35 : decode cX12_weight 35 = .ok (.iload_n 1, 1) := by decide +kernel
theorem dX12_weight_36 : decode cX12_weight 36 = .ok (.if_icmp .ne 12, 3) := by decide +kernel
theorem dX12_weight_39 : decode cX12_weight 39 = .ok (.aload_n 0, 1) := by decide +kernel
theorem dX12_weight_40 : decode cX12_weight 40 = .ok (.getfield 70, 3) := by decide +kernel
theorem dX12_weight_43 : decode cX12_weight 43 = .ok (.iload_n 3, 1) := by decide +kernel
theorem dX12_weight_44 : decode cX12_weight 44 = .ok (.iaload, 1) := by decide +kernel
theorem dX12_weight_45 : decode cX12_weight 45 = .ok (.goto 4, 3) := by decide +kernel
theorem dX12_weight_48 : decode cX12_weight 48 = .ok (.iconst 0, 1) := by decide +kernel
theorem dX12_weight_49 : decode cX12_weight 49 = .ok (.iadd, 1) := by decide +kernel
theorem dX12_weight_50 : decode cX12_weight 50 = .ok (.istore_n 2, 1) := by decide +kernel
theorem dX12_weight_51 : decode cX12_weight 51 = .ok (.iinc 3 1, 3) := by decide +kernel
theorem dX12_weight_54 : decode cX12_weight 54 = .ok (.goto (-50), 3) := by decide +kernel
theorem dX12_weight_57 : decode cX12_weight 57 = .ok (.iload_n 2, 1) := by decide +kernel
theorem dX12_weight_58 : decode cX12_weight 58 = .ok (.ireturn, 1) := by decide +kernel
theorem dX12_lineOf_0 : decode cX12_lineOf 0 = .ok (.bipush 30, 2) := by decide +kernel
theorem dX12_lineOf_2 : decode cX12_lineOf 2 = .ok (.iload_n 1, 1) := by decide +kernel
theorem dX12_lineOf_3 : decode cX12_lineOf 3 = .ok (.imul, 1) := by decide +kernel
theorem dX12_lineOf_4 : decode cX12_lineOf 4 = .ok (.iload_n 3, 1) := by decide +kernel
theorem dX12_lineOf_5 : decode cX12_lineOf 5 = .ok (.iadd, 1) := by decide +kernel
theorem dX12_lineOf_6 : decode cX12_lineOf 6 = .ok (.aload_n 0, 1) := by decide +kernel
theorem dX12_lineOf_7 : decode cX12_lineOf 7 = .ok (.getfield 46, 3) := by decide +kernel
theorem dX12_lineOf_10 : decode cX12_lineOf 10 = .ok (.iload_n 1, 1) := by decide +kernel
theorem dX12_lineOf_11 : decode cX12_lineOf 11 = .ok (.iaload, 1) := by decide +kernel
theorem dX12_lineOf_12 : decode cX12_lineOf 12 = .ok (.iload_n 2, 1) := by decide +kernel
theorem dX12_lineOf_13 : decode cX12_lineOf 13 = .ok (.imul, 1) := by decide +kernel
theorem dX12_lineOf_14 : decode cX12_lineOf 14 = .ok (.iadd, 1) := by decide +kernel
theorem dX12_lineOf_15 : decode cX12_lineOf 15 = .ok (.ireturn, 1) := by decide +kernel
theorem dX12_lay_0 : decode cX12_lay 0 = .ok (.aload_n 0, 1) := by decide +kernel
theorem dX12_lay_1 : decode cX12_lay 1 = .ok (.iload_n 1, 1) := by decide +kernel
theorem dX12_lay_2 : decode cX12_lay 2 = .ok (.invokevirtual 180, 3) := by decide +kernel
theorem dX12_lay_5 : decode cX12_lay 5 = .ok (.ifCond .ne 10, 3) := by decide +kernel
theorem dX12_lay_8 : decode cX12_lay 8 = .ok (.aload_n 0, 1) := by decide +kernel
theorem dX12_lay_9 : decode cX12_lay 9 = .ok (.bipush (-2), 2) := by decide +kernel
theorem dX12_lay_11 : decode cX12_lay 11 = .ok (.invokevirtual 151, 3) := by decide +kernel
theorem dX12_lay_14 : decode cX12_lay 14 = .ok (.ireturn, 1) := by decide +kernel
theorem dX12_lay_15 : decode cX12_lay 15 = .ok (.iload_n 2, 1) := by decide +kernel
theorem dX12_lay_16 : decode cX12_lay 16 = .ok (.iconst 0, 1) := by decide +kernel
theorem dX12_lay_17 : decode cX12_lay 17 = .ok (.aload_n 0, 1) := by decide +kernel
theorem dX12_lay_18 : decode cX12_lay 18 = .ok (.getfield 49, 3) := by decide +kernel
theorem dX12_lay_21 : decode cX12_lay 21 = .ok (.iload_n 1, 1) := by decide +kernel
theorem dX12_lay_22 : decode cX12_lay 22 = .ok (.iaload, 1) := by decide +kernel
theorem dX12_lay_23 : decode cX12_lay 23 = .ok (.iconst 1, 1) := by decide +kernel
theorem dX12_lay_24 : decode cX12_lay 24 = .ok (.isub, 1) := by decide +kernel
theorem dX12_lay_25 : decode cX12_lay 25 = .ok (.invokestatic 145, 3) := by decide +kernel
theorem dX12_lay_28 : decode cX12_lay 28 = .ok (.ifCond .eq 19, 3) := by decide +kernel
theorem dX12_lay_31 : decode cX12_lay 31 = .ok (.iload_n 3, 1) := by decide +kernel
theorem dX12_lay_32 : decode cX12_lay 32 = .ok (.iconst 0, 1) := by decide +kernel
theorem dX12_lay_33 : decode cX12_lay 33 = .ok (.aload_n 0, 1) := by decide +kernel
theorem dX12_lay_34 : decode cX12_lay 34 = .ok (.getfield 46, 3) := by decide +kernel
theorem dX12_lay_37 : decode cX12_lay 37 = .ok (.iload_n 1, 1) := by decide +kernel
theorem dX12_lay_38 : decode cX12_lay 38 = .ok (.iaload, 1) := by decide +kernel
theorem dX12_lay_39 : decode cX12_lay 39 = .ok (.iconst 1, 1) := by decide +kernel
theorem dX12_lay_40 : decode cX12_lay 40 = .ok (.isub, 1) := by decide +kernel
theorem dX12_lay_41 : decode cX12_lay 41 = .ok (.invokestatic 145, 3) := by decide +kernel
theorem dX12_lay_44 : decode cX12_lay 44 = .ok (.ifCond .ne 9, 3) := by decide +kernel
theorem dX12_lay_47 : decode cX12_lay 47 = .ok (.aload_n 0, 1) := by decide +kernel
theorem dX12_lay_48 : decode cX12_lay 48 = .ok (.iconst (-1), 1) := by decide +kernel
theorem dX12_lay_49 : decode cX12_lay 49 = .ok (.invokevirtual 151, 3) := by decide +kernel
theorem dX12_lay_52 : decode cX12_lay 52 = .ok (.ireturn, 1) := by decide +kernel
theorem dX12_lay_53 : decode cX12_lay 53 = .ok (.aload_n 0, 1) := by decide +kernel
theorem dX12_lay_54 : decode cX12_lay 54 = .ok (.iload_n 1, 1) := by decide +kernel
theorem dX12_lay_55 : decode cX12_lay 55 = .ok (.iload_n 2, 1) := by decide +kernel
theorem dX12_lay_56 : decode cX12_lay 56 = .ok (.iload_n 3, 1) := by decide +kernel
theorem dX12_lay_57 : decode cX12_lay 57 = .ok (.invokevirtual 209, 3) := by decide +kernel
theorem dX12_lay_60 : decode cX12_lay 60 = .ok (.istore 4, 2) := by decide +kernel
theorem dX12_lay_62 : decode cX12_lay 62 = .ok (.aload_n 0, 1) := by decide +kernel
theorem dX12_lay_63 : decode cX12_lay 63 = .ok (.getfield 61, 3) := by decide +kernel
theorem dX12_lay_66 : decode cX12_lay 66 = .ok (.iload 4, 2) := by decide +kernel
theorem dX12_lay_68 : decode cX12_lay 68 = .ok (.baload, 1) := by decide +kernel
theorem dX12_lay_69 : decode cX12_lay 69 = .ok (.ifCond .ne 24, 3) := by decide +kernel
theorem dX12_lay_72 : decode cX12_lay 72 = .ok (.iload_n 2, 1) := by decide +kernel
theorem dX12_lay_73 : decode cX12_lay 73 = .ok (.ifCond .le 27, 3) := by decide +kernel
theorem dX12_lay_76 : decode cX12_lay 76 = .ok (.aload_n 0, 1) := by decide +kernel
theorem dX12_lay_77 : decode cX12_lay 77 = .ok (.getfield 61, 3) := by decide +kernel
theorem dX12_lay_80 : decode cX12_lay 80 = .ok (.iload 4, 2) := by decide +kernel
theorem dX12_lay_82 : decode cX12_lay 82 = .ok (.aload_n 0, 1) := by decide +kernel
theorem dX12_lay_83 : decode cX12_lay 83 = .ok (.getfield 46, 3) := by decide +kernel
theorem dX12_lay_86 : decode cX12_lay 86 = .ok (.iload_n 1, 1) := by decide +kernel
theorem dX12_lay_87 : decode cX12_lay 87 = .ok (.iaload, 1) := by decide +kernel
theorem dX12_lay_88 : decode cX12_lay 88 = .ok (.isub, 1) := by decide +kernel
theorem dX12_lay_89 : decode cX12_lay 89 = .ok (.baload, 1) := by decide +kernel
theorem dX12_lay_90 : decode cX12_lay 90 = .ok (.ifCond .ne 10, 3) := by decide +kernel
theorem dX12_lay_93 : decode cX12_lay 93 = .ok (.aload_n 0, 1) := by decide +kernel
theorem dX12_lay_94 : decode cX12_lay 94 = .ok (.bipush (-7), 2) := by decide +kernel
theorem dX12_lay_96 : decode cX12_lay 96 = .ok (.invokevirtual 151, 3) := by decide +kernel
theorem dX12_lay_99 : decode cX12_lay 99 = .ok (.ireturn, 1) := by decide +kernel
theorem dX12_lay_100 : decode cX12_lay 100 = .ok (.aload_n 0, 1) := by decide +kernel
theorem dX12_lay_101 : decode cX12_lay 101 = .ok (.getfield 61, 3) := by decide +kernel
theorem dX12_lay_104 : decode cX12_lay 104 = .ok (.iload 4, 2) := by decide +kernel
theorem dX12_lay_106 : decode cX12_lay 106 = .ok (.iconst 1, 1) := by decide +kernel
theorem dX12_lay_107 : decode cX12_lay 107 = .ok (.bastore, 1) := by decide +kernel
theorem dX12_lay_108 : decode cX12_lay 108 = .ok (.aload_n 0, 1) := by decide +kernel
theorem dX12_lay_109 : decode cX12_lay 109 = .ok (.iconst 0, 1) := by decide +kernel
theorem dX12_lay_110 : decode cX12_lay 110 = .ok (.invokevirtual 151, 3) := by decide +kernel
theorem dX12_lay_113 : decode cX12_lay 113 = .ok (.ireturn, 1) := by decide +kernel
theorem dX12_tear_0 : decode cX12_tear 0 = .ok (.aload_n 0, 1) := by decide +kernel
theorem dX12_tear_1 : decode cX12_tear 1 = .ok (.iload_n 1, 1) := by decide +kernel
theorem dX12_tear_2 : decode cX12_tear 2 = .ok (.invokevirtual 180, 3) := by decide +kernel
theorem dX12_tear_5 : decode cX12_tear 5 = .ok (.ifCond .ne 10, 3) := by decide +kernel
theorem dX12_tear_8 : decode cX12_tear 8 = .ok (.aload_n 0, 1) := by decide +kernel
theorem dX12_tear_9 : decode cX12_tear 9 = .ok (.bipush (-2), 2) := by decide +kernel
theorem dX12_tear_11 : decode cX12_tear 11 = .ok (.invokevirtual 151, 3) := by decide +kernel
theorem dX12_tear_14 : decode cX12_tear 14 = .ok (.ireturn, 1) := by decide +kernel
theorem dX12_tear_15 : decode cX12_tear 15 = .ok (.iload_n 2, 1) := by decide +kernel
theorem dX12_tear_16 : decode cX12_tear 16 = .ok (.iconst 0, 1) := by decide +kernel
theorem dX12_tear_17 : decode cX12_tear 17 = .ok (.aload_n 0, 1) := by decide +kernel
theorem dX12_tear_18 : decode cX12_tear 18 = .ok (.getfield 49, 3) := by decide +kernel
theorem dX12_tear_21 : decode cX12_tear 21 = .ok (.iload_n 1, 1) := by decide +kernel
theorem dX12_tear_22 : decode cX12_tear 22 = .ok (.iaload, 1) := by decide +kernel
theorem dX12_tear_23 : decode cX12_tear 23 = .ok (.iconst 1, 1) := by decide +kernel
theorem dX12_tear_24 : decode cX12_tear 24 = .ok (.isub, 1) := by decide +kernel
theorem dX12_tear_25 : decode cX12_tear 25 = .ok (.invokestatic 145, 3) := by decide +kernel
theorem dX12_tear_28 : decode cX12_tear 28 = .ok (.ifCond .eq 19, 3) := by decide +kernel
theorem dX12_tear_31 : decode cX12_tear 31 = .ok (.iload_n 3, 1) := by decide +kernel
theorem dX12_tear_32 : decode cX12_tear 32 = .ok (.iconst 0, 1) := by decide +kernel
theorem dX12_tear_33 : decode cX12_tear 33 = .ok (.aload_n 0, 1) := by decide +kernel
theorem dX12_tear_34 : decode cX12_tear 34 = .ok (.getfield 46, 3) := by decide +kernel
theorem dX12_tear_37 : decode cX12_tear 37 = .ok (.iload_n 1, 1) := by decide +kernel
theorem dX12_tear_38 : decode cX12_tear 38 = .ok (.iaload, 1) := by decide +kernel
theorem dX12_tear_39 : decode cX12_tear 39 = .ok (.iconst 1, 1) := by decide +kernel
theorem dX12_tear_40 : decode cX12_tear 40 = .ok (.isub, 1) := by decide +kernel
theorem dX12_tear_41 : decode cX12_tear 41 = .ok (.invokestatic 145, 3) := by decide +kernel
theorem dX12_tear_44 : decode cX12_tear 44 = .ok (.ifCond .ne 9, 3) := by decide +kernel
theorem dX12_tear_47 : decode cX12_tear 47 = .ok (.aload_n 0, 1) := by decide +kernel
theorem dX12_tear_48 : decode cX12_tear 48 = .ok (.iconst (-1), 1) := by decide +kernel
theorem dX12_tear_49 : decode cX12_tear 49 = .ok (.invokevirtual 151, 3) := by decide +kernel
theorem dX12_tear_52 : decode cX12_tear 52 = .ok (.ireturn, 1) := by decide +kernel
theorem dX12_tear_53 : decode cX12_tear 53 = .ok (.aload_n 0, 1) := by decide +kernel
theorem dX12_tear_54 : decode cX12_tear 54 = .ok (.iload_n 1, 1) := by decide +kernel
theorem dX12_tear_55 : decode cX12_tear 55 = .ok (.iload_n 2, 1) := by decide +kernel
theorem dX12_tear_56 : decode cX12_tear 56 = .ok (.iload_n 3, 1) := by decide +kernel
theorem dX12_tear_57 : decode cX12_tear 57 = .ok (.invokevirtual 209, 3) := by decide +kernel
theorem dX12_tear_60 : decode cX12_tear 60 = .ok (.istore 4, 2) := by decide +kernel
theorem dX12_tear_62 : decode cX12_tear 62 = .ok (.aload_n 0, 1) := by decide +kernel
theorem dX12_tear_63 : decode cX12_tear 63 = .ok (.getfield 61, 3) := by decide +kernel
theorem dX12_tear_66 : decode cX12_tear 66 = .ok (.iload 4, 2) := by decide +kernel
theorem dX12_tear_68 : decode cX12_tear 68 = .ok (.baload, 1) := by decide +kernel
theorem dX12_tear_69 : decode cX12_tear 69 = .ok (.ifCond .ne 10, 3) := by decide +kernel
theorem dX12_tear_72 : decode cX12_tear 72 = .ok (.aload_n 0, 1) := by decide +kernel
theorem dX12_tear_73 : decode cX12_tear 73 = .ok (.bipush (-3), 2) := by decide +kernel
theorem dX12_tear_75 : decode cX12_tear 75 = .ok (.invokevirtual 151, 3) := by decide +kernel
theorem dX12_tear_78 : decode cX12_tear 78 = .ok (.ireturn, 1) := by decide +kernel
theorem dX12_tear_79 : decode cX12_tear 79 = .ok (.iload_n 2, 1) := by decide +kernel
theorem dX12_tear_80 : decode cX12_tear 80 = .ok (.iconst 1, 1) := by decide +kernel
theorem dX12_tear_81 : decode cX12_tear 81 = .ok (.iadd, 1) := by decide +kernel
theorem dX12_tear_82 : decode cX12_tear 82 = .ok (.aload_n 0, 1) := by decide +kernel
theorem dX12_tear_83 : decode cX12_tear 83 = .ok (.getfield 49, 3) := by decide +kernel
theorem dX12_tear_86 : decode cX12_tear 86 = .ok (.iload_n 1, 1) := by decide +kernel
theorem dX12_tear_87 : decode cX12_tear 87 = .ok (.iaload, 1) := by decide +kernel
theorem dX12_tear_88 : decode cX12_tear 88 = .ok (.if_icmp .ge 24, 3) := by decide +kernel
theorem dX12_tear_91 : decode cX12_tear 91 = .ok (.aload_n 0, 1) := by decide +kernel
theorem dX12_tear_92 : decode cX12_tear 92 = .ok (.getfield 61, 3) := by decide +kernel
theorem dX12_tear_95 : decode cX12_tear 95 = .ok (.iload 4, 2) := by decide +kernel
theorem dX12_tear_97 : decode cX12_tear 97 = .ok (.aload_n 0, 1) := by decide +kernel
theorem dX12_tear_98 : decode cX12_tear 98 = .ok (.getfield 46, 3) := by decide +kernel
theorem dX12_tear_101 : decode cX12_tear 101 = .ok (.iload_n 1, 1) := by decide +kernel
theorem dX12_tear_102 : decode cX12_tear 102 = .ok (.iaload, 1) := by decide +kernel
theorem dX12_tear_103 : decode cX12_tear 103 = .ok (.iadd, 1) := by decide +kernel
theorem dX12_tear_104 : decode cX12_tear 104 = .ok (.baload, 1) := by decide +kernel
theorem dX12_tear_105 : decode cX12_tear 105 = .ok (.ifCond .eq 7, 3) := by decide +kernel
theorem dX12_tear_108 : decode cX12_tear 108 = .ok (.iconst 1, 1) := by decide +kernel
theorem dX12_tear_109 : decode cX12_tear 109 = .ok (.goto 4, 3) := by decide +kernel
theorem dX12_tear_112 : decode cX12_tear 112 = .ok (.iconst 0, 1) := by decide +kernel
theorem dX12_tear_113 : decode cX12_tear 113 = .ok (.istore 5, 2) := by decide +kernel
theorem dX12_tear_115 : decode cX12_tear 115 = .ok (.iconst 0, 1) := by decide +kernel
theorem dX12_tear_116 : decode cX12_tear 116 = .ok (.istore 6, 2) := by decide +kernel
theorem dX12_tear_118 : decode cX12_tear 118 = .ok (.iload 6, 2) := by decide +kernel
theorem dX12_tear_120 : decode cX12_tear 120 = .ok (.aload_n 0, 1) := by decide +kernel
theorem dX12_tear_121 : decode cX12_tear 121 = .ok (.getfield 43, 3) := by decide +kernel
theorem dX12_tear_124 : decode cX12_tear 124 = .ok (.iload_n 1, 1) := by decide +kernel
theorem dX12_tear_125 : decode cX12_tear 125 = .ok (.iaload, 1) := by decide +kernel
theorem dX12_tear_126 : decode cX12_tear 126 = .ok (.if_icmp .ge 49, 3) := by decide +kernel
theorem dX12_tear_129 : decode cX12_tear 129 = .ok (.iload 5, 2) := by decide +kernel
theorem dX12_tear_131 : decode cX12_tear 131 = .ok (.ifCond .ne 31, 3) := by decide +kernel
theorem dX12_tear_134 : decode cX12_tear 134 = .ok (.aload_n 0, 1) := by decide +kernel
theorem dX12_tear_135 : decode cX12_tear 135 = .ok (.iload_n 1, 1) := by decide +kernel
theorem dX12_tear_136 : decode cX12_tear 136 = .ok (.iload 6, 2) := by decide +kernel
theorem dX12_tear_138 : decode cX12_tear 138 = .ok (.aload_n 0, 1) := by decide +kernel
theorem dX12_tear_139 : decode cX12_tear 139 = .ok (.getfield 43, 3) := by decide +kernel
theorem dX12_tear_142 : decode cX12_tear 142 = .ok (.iload_n 1, 1) := by decide +kernel
theorem dX12_tear_143 : decode cX12_tear 143 = .ok (.iaload, 1) := by decide +kernel
theorem dX12_tear_144 : decode cX12_tear 144 = .ok (.iload_n 3, 1) := by decide +kernel
theorem dX12_tear_145 : decode cX12_tear 145 = .ok (.aload_n 0, 1) := by decide +kernel
theorem dX12_tear_146 : decode cX12_tear 146 = .ok (.getfield 46, 3) := by decide +kernel
theorem dX12_tear_149 : decode cX12_tear 149 = .ok (.iload_n 1, 1) := by decide +kernel
theorem dX12_tear_150 : decode cX12_tear 150 = .ok (.iaload, 1) := by decide +kernel
theorem dX12_tear_151 : decode cX12_tear 151 = .ok (.iload_n 2, 1) := by decide +kernel
theorem dX12_tear_152 : decode cX12_tear 152 = .ok (.imul, 1) := by decide +kernel
theorem dX12_tear_153 : decode cX12_tear 153 = .ok (.iadd, 1) := by decide +kernel
theorem dX12_tear_154 : decode cX12_tear 154 = .ok (.imul, 1) := by decide +kernel
theorem dX12_tear_155 : decode cX12_tear 155 = .ok (.iadd, 1) := by decide +kernel
theorem dX12_tear_156 : decode cX12_tear 156 = .ok (.invokevirtual 173, 3) := by decide +kernel
theorem dX12_tear_159 : decode cX12_tear 159 = .ok (.ifCond .eq 7, 3) := by decide +kernel
theorem dX12_tear_162 : decode cX12_tear 162 = .ok (.iconst 1, 1) := by decide +kernel
theorem dX12_tear_163 : decode cX12_tear 163 = .ok (.goto 4, 3) := by decide +kernel
theorem dX12_tear_166 : decode cX12_tear 166 = .ok (.iconst 0, 1) := by decide +kernel
theorem dX12_tear_167 : decode cX12_tear 167 = .ok (.istore 5, 2) := by decide +kernel
theorem dX12_tear_169 : decode cX12_tear 169 = .ok (.iinc 6 1, 3) := by decide +kernel
theorem dX12_tear_172 : decode cX12_tear 172 = .ok (.goto (-54), 3) := by decide +kernel
theorem dX12_tear_175 : decode cX12_tear 175 = .ok (.iload 5, 2) := by decide +kernel
theorem dX12_tear_177 : decode cX12_tear 177 = .ok (.ifCond .eq 10, 3) := by decide +kernel
theorem dX12_tear_180 : decode cX12_tear 180 = .ok (.aload_n 0, 1) := by decide +kernel
theorem dX12_tear_181 : decode cX12_tear 181 = .ok (.bipush (-7), 2) := by decide +kernel
theorem dX12_tear_183 : decode cX12_tear 183 = .ok (.invokevirtual 151, 3) := by decide +kernel
theorem dX12_tear_186 : decode cX12_tear 186 = .ok (.ireturn, 1) := by decide +kernel
theorem dX12_tear_187 : decode cX12_tear 187 = .ok (.aload_n 0, 1) := by decide +kernel
theorem dX12_tear_188 : decode cX12_tear 188 = .ok (.getfield 61, 3) := by decide +kernel
theorem dX12_tear_191 : decode cX12_tear 191 = .ok (.iload 4, 2) := by decide +kernel
theorem dX12_tear_193 : decode cX12_tear 193 = .ok (.iconst 0, 1) := by decide +kernel
theorem dX12_tear_194 : decode cX12_tear 194 = .ok (.bastore, 1) := by decide +kernel
theorem dX12_tear_195 : decode cX12_tear 195 = .ok (.aload_n 0, 1) := by decide +kernel
theorem dX12_tear_196 : decode cX12_tear 196 = .ok (.iconst 0, 1) := by decide +kernel
theorem dX12_tear_197 : decode cX12_tear 197 = .ok (.invokevirtual 151, 3) := by decide +kernel
theorem dX12_tear_200 : decode cX12_tear 200 = .ok (.ireturn, 1) := by decide +kernel
theorem dX12_unfit_0 : decode cX12_unfit 0 = .ok (.aload_n 0, 1) := by decide +kernel
theorem dX12_unfit_1 : decode cX12_unfit 1 = .ok (.iload_n 1, 1) := by decide +kernel
theorem dX12_unfit_2 : decode cX12_unfit 2 = .ok (.invokevirtual 180, 3) := by decide +kernel
theorem dX12_unfit_5 : decode cX12_unfit 5 = .ok (.ifCond .ne 6, 3) := by decide +kernel
theorem dX12_unfit_8 : decode cX12_unfit 8 = .ok (.bipush (-2), 2) := by decide +kernel
theorem dX12_unfit_10 : decode cX12_unfit 10 = .ok (.ireturn, 1) := by decide +kernel
theorem dX12_unfit_11 : decode cX12_unfit 11 = .ok (.aload_n 0, 1) := by decide +kernel
theorem dX12_unfit_12 : decode cX12_unfit 12 = .ok (.iload_n 1, 1) := by decide +kernel
theorem dX12_unfit_13 : decode cX12_unfit 13 = .ok (.iload_n 2, 1) := by decide +kernel
theorem dX12_unfit_14 : decode cX12_unfit 14 = .ok (.invokevirtual 212, 3) := by decide +kernel
theorem dX12_unfit_17 : decode cX12_unfit 17 = .ok (.ifCond .ne 5, 3) := by decide +kernel
theorem dX12_unfit_20 : decode cX12_unfit 20 = .ok (.iconst (-1), 1) := by decide +kernel
theorem dX12_unfit_21 : decode cX12_unfit 21 = .ok (.ireturn, 1) := by decide +kernel
theorem dX12_unfit_22 : decode cX12_unfit 22 = .ok (.aload_n 0, 1) := by decide +kernel
theorem dX12_unfit_23 : decode cX12_unfit 23 = .ok (.iload_n 1, 1) := by decide +kernel
theorem dX12_unfit_24 : decode cX12_unfit 24 = .ok (.iload_n 2, 1) := by decide +kernel
theorem dX12_unfit_25 : decode cX12_unfit 25 = .ok (.invokevirtual 215, 3) := by decide +kernel
theorem dX12_unfit_28 : decode cX12_unfit 28 = .ok (.ifCond .ne 6, 3) := by decide +kernel
theorem dX12_unfit_31 : decode cX12_unfit 31 = .ok (.bipush (-3), 2) := by decide +kernel
theorem dX12_unfit_33 : decode cX12_unfit 33 = .ok (.ireturn, 1) := by decide +kernel
theorem dX12_unfit_34 : decode cX12_unfit 34 = .ok (.aload_n 0, 1) := by decide +kernel
theorem dX12_unfit_35 : decode cX12_unfit 35 = .ok (.iload_n 1, 1) := by decide +kernel
theorem dX12_unfit_36 : decode cX12_unfit 36 = .ok (.iload_n 2, 1) := by decide +kernel
theorem dX12_unfit_37 : decode cX12_unfit 37 = .ok (.invokevirtual 173, 3) := by decide +kernel
theorem dX12_unfit_40 : decode cX12_unfit 40 = .ok (.ifCond .eq 6, 3) := by decide +kernel
theorem dX12_unfit_43 : decode cX12_unfit 43 = .ok (.bipush (-4), 2) := by decide +kernel
theorem dX12_unfit_45 : decode cX12_unfit 45 = .ok (.ireturn, 1) := by decide +kernel
theorem dX12_unfit_46 : decode cX12_unfit 46 = .ok (.aload_n 0, 1) := by decide +kernel
theorem dX12_unfit_47 : decode cX12_unfit 47 = .ok (.iload_n 1, 1) := by decide +kernel
theorem dX12_unfit_48 : decode cX12_unfit 48 = .ok (.iload_n 2, 1) := by decide +kernel
theorem dX12_unfit_49 : decode cX12_unfit 49 = .ok (.invokevirtual 170, 3) := by decide +kernel
theorem dX12_unfit_52 : decode cX12_unfit 52 = .ok (.ifCond .ne 5, 3) := by decide +kernel
theorem dX12_unfit_55 : decode cX12_unfit 55 = .ok (.iconst 0, 1) := by decide +kernel
theorem dX12_unfit_56 : decode cX12_unfit 56 = .ok (.ireturn, 1) := by decide +kernel
theorem dX12_unfit_57 : decode cX12_unfit 57 = .ok (.aload_n 0, 1) := by decide +kernel
theorem dX12_unfit_58 : decode cX12_unfit 58 = .ok (.iload_n 1, 1) := by decide +kernel
theorem dX12_unfit_59 : decode cX12_unfit 59 = .ok (.iload_n 2, 1) := by decide +kernel
theorem dX12_unfit_60 : decode cX12_unfit 60 = .ok (.iconst 4, 1) := by decide +kernel
theorem dX12_unfit_61 : decode cX12_unfit 61 = .ok (.invokevirtual 176, 3) := by decide +kernel
theorem dX12_unfit_64 : decode cX12_unfit 64 = .ok (.istore_n 3, 1) := by decide +kernel
theorem dX12_unfit_65 : decode cX12_unfit 65 = .ok (.iload_n 3, 1) := by decide +kernel
theorem dX12_unfit_66 : decode cX12_unfit 66 = .ok (.bipush 10, 2) := by decide +kernel
theorem dX12_unfit_68 : decode cX12_unfit 68 = .ok (.if_icmp .ge 8, 3) := by decide +kernel
theorem dX12_unfit_71 : decode cX12_unfit 71 = .ok (.iload_n 3, 1) := by decide +kernel
theorem dX12_unfit_72 : decode cX12_unfit 72 = .ok (.iconst 1, 1) := by decide +kernel
theorem dX12_unfit_73 : decode cX12_unfit 73 = .ok (.if_icmp .ne 7, 3) := by decide +kernel
theorem dX12_unfit_76 : decode cX12_unfit 76 = .ok (.iconst 0, 1) := by decide +kernel
theorem dX12_unfit_77 : decode cX12_unfit 77 = .ok (.goto 5, 3) := by decide +kernel
theorem dX12_unfit_80 : decode cX12_unfit 80 = .ok (.bipush (-5), 2) := by decide +kernel
theorem dX12_unfit_82 : decode cX12_unfit 82 = .ok (.ireturn, 1) := by decide +kernel
theorem dX12_cuts_0 : decode cX12_cuts 0 = .ok (.aload_n 0, 1) := by decide +kernel
theorem dX12_cuts_1 : decode cX12_cuts 1 = .ok (.getfield 34, 3) := by decide +kernel
theorem dX12_cuts_4 : decode cX12_cuts 4 = .ok (.iconst 0, 1) := by decide +kernel
theorem dX12_cuts_5 : decode cX12_cuts 5 = .ok (.iaload, 1) := by decide +kernel
theorem dX12_cuts_6 : decode cX12_cuts 6 = .ok (.istore 5, 2) := by decide +kernel
theorem dX12_cuts_8 : decode cX12_cuts 8 = .ok (.aload_n 0, 1) := by decide +kernel
theorem dX12_cuts_9 : decode cX12_cuts 9 = .ok (.getfield 67, 3) := by decide +kernel
theorem dX12_cuts_12 : decode cX12_cuts 12 = .ok (.iload 5, 2) := by decide +kernel
theorem dX12_cuts_14 : decode cX12_cuts 14 = .ok (.iload_n 3, 1) := by decide +kernel
theorem dX12_cuts_15 : decode cX12_cuts 15 = .ok (.iastore, 1) := by decide +kernel
theorem dX12_cuts_16 : decode cX12_cuts 16 = .ok (.aload_n 0, 1) := by decide +kernel
theorem dX12_cuts_17 : decode cX12_cuts 17 = .ok (.getfield 70, 3) := by decide +kernel
theorem dX12_cuts_20 : decode cX12_cuts 20 = .ok (.iload 5, 2) := by decide +kernel
theorem dX12_cuts_22 : decode cX12_cuts 22 = .ok (.iload 4, 2) := by decide +kernel
theorem dX12_cuts_24 : decode cX12_cuts 24 = .ok (.iastore, 1) := by decide +kernel
theorem dX12_cuts_25 : decode cX12_cuts 25 = .ok (.aload_n 0, 1) := by decide +kernel
theorem dX12_cuts_26 : decode cX12_cuts 26 = .ok (.getfield 73, 3) := by decide +kernel
theorem dX12_cuts_29 : decode cX12_cuts 29 = .ok (.iload 5, 2) := by decide +kernel
theorem dX12_cuts_31 : decode cX12_cuts 31 = .ok (.iload_n 1, 1) := by decide +kernel
theorem dX12_cuts_32 : decode cX12_cuts 32 = .ok (.iastore, 1) := by decide +kernel
theorem dX12_cuts_33 : decode cX12_cuts 33 = .ok (.aload_n 0, 1) := by decide +kernel
theorem dX12_cuts_34 : decode cX12_cuts 34 = .ok (.getfield 76, 3) := by decide +kernel
theorem dX12_cuts_37 : decode cX12_cuts 37 = .ok (.iload 5, 2) := by decide +kernel
theorem dX12_cuts_39 : decode cX12_cuts 39 = .ok (.iload_n 2, 1) := by decide +kernel
theorem dX12_cuts_40 : decode cX12_cuts 40 = .ok (.iastore, 1) := by decide +kernel
theorem dX12_cuts_41 : decode cX12_cuts 41 = .ok (.aload_n 0, 1) := by decide +kernel
theorem dX12_cuts_42 : decode cX12_cuts 42 = .ok (.getfield 79, 3) := by decide +kernel
theorem dX12_cuts_45 : decode cX12_cuts 45 = .ok (.iload 5, 2) := by decide +kernel
theorem dX12_cuts_47 : decode cX12_cuts 47 = .ok (.aload_n 0, 1) := by decide +kernel
theorem dX12_cuts_48 : decode cX12_cuts 48 = .ok (.getfield 27, 3) := by decide +kernel
theorem dX12_cuts_51 : decode cX12_cuts 51 = .ok (.iconst 0, 1) := by decide +kernel
theorem dX12_cuts_52 : decode cX12_cuts 52 = .ok (.iaload, 1) := by decide +kernel
theorem dX12_cuts_53 : decode cX12_cuts 53 = .ok (.iastore, 1) := by decide +kernel
theorem dX12_cuts_54 : decode cX12_cuts 54 = .ok (.aload_n 0, 1) := by decide +kernel
theorem dX12_cuts_55 : decode cX12_cuts 55 = .ok (.getfield 82, 3) := by decide +kernel
theorem dX12_cuts_58 : decode cX12_cuts 58 = .ok (.iload 5, 2) := by decide +kernel
theorem dX12_cuts_60 : decode cX12_cuts 60 = .ok (.iconst (-1), 1) := by decide +kernel
theorem dX12_cuts_61 : decode cX12_cuts 61 = .ok (.iastore, 1) := by decide +kernel
theorem dX12_cuts_62 : decode cX12_cuts 62 = .ok (.aload_n 0, 1) := by decide +kernel
theorem dX12_cuts_63 : decode cX12_cuts 63 = .ok (.getfield 64, 3) := by decide +kernel
theorem dX12_cuts_66 : decode cX12_cuts 66 = .ok (.sipush 180, 3) := by decide +kernel
theorem dX12_cuts_69 : decode cX12_cuts 69 = .ok (.iload_n 1, 1) := by decide +kernel
theorem dX12_cuts_70 : decode cX12_cuts 70 = .ok (.imul, 1) := by decide +kernel
theorem dX12_cuts_71 : decode cX12_cuts 71 = .ok (.iload_n 2, 1) := by decide +kernel
theorem dX12_cuts_72 : decode cX12_cuts 72 = .ok (.iadd, 1) := by decide +kernel
theorem dX12_cuts_73 : decode cX12_cuts 73 = .ok (.bipush 10, 2) := by decide +kernel
theorem dX12_cuts_75 : decode cX12_cuts 75 = .ok (.iload 5, 2) := by decide +kernel
theorem dX12_cuts_77 : decode cX12_cuts 77 = .ok (.iadd, 1) := by decide +kernel
theorem dX12_cuts_78 : decode cX12_cuts 78 = .ok (.iastore, 1) := by decide +kernel
theorem dX12_cuts_79 : decode cX12_cuts 79 = .ok (.aload_n 0, 1) := by decide +kernel
theorem dX12_cuts_80 : decode cX12_cuts 80 = .ok (.getfield 34, 3) := by decide +kernel
theorem dX12_cuts_83 : decode cX12_cuts 83 = .ok (.iconst 0, 1) := by decide +kernel
theorem dX12_cuts_84 : decode cX12_cuts 84 = .ok (.dup2, 1) := by decide +kernel
theorem dX12_cuts_85 : decode cX12_cuts 85 = .ok (.iaload, 1) := by decide +kernel
theorem dX12_cuts_86 : decode cX12_cuts 86 = .ok (.iconst 1, 1) := by decide +kernel
theorem dX12_cuts_87 : decode cX12_cuts 87 = .ok (.iadd, 1) := by decide +kernel
theorem dX12_cuts_88 : decode cX12_cuts 88 = .ok (.iastore, 1) := by decide +kernel
theorem dX12_cuts_89 : decode cX12_cuts 89 = .ok (.aload_n 0, 1) := by decide +kernel
theorem dX12_cuts_90 : decode cX12_cuts 90 = .ok (.getfield 37, 3) := by decide +kernel
theorem dX12_cuts_93 : decode cX12_cuts 93 = .ok (.iconst 0, 1) := by decide +kernel
theorem dX12_cuts_94 : decode cX12_cuts 94 = .ok (.dup2, 1) := by decide +kernel
theorem dX12_cuts_95 : decode cX12_cuts 95 = .ok (.iaload, 1) := by decide +kernel
theorem dX12_cuts_96 : decode cX12_cuts 96 = .ok (.iload 4, 2) := by decide +kernel
theorem dX12_cuts_98 : decode cX12_cuts 98 = .ok (.iadd, 1) := by decide +kernel
theorem dX12_cuts_99 : decode cX12_cuts 99 = .ok (.iastore, 1) := by decide +kernel
theorem dX12_cuts_100 : decode cX12_cuts 100 = .ok (.iload 5, 2) := by decide +kernel
theorem dX12_cuts_102 : decode cX12_cuts 102 = .ok (.ireturn, 1) := by decide +kernel
theorem dX12_cut_0 : decode cX12_cut 0 = .ok (.iload_n 3, 1) := by decide +kernel
theorem dX12_cut_1 : decode cX12_cut 1 = .ok (.iconst 0, 1) := by decide +kernel
theorem dX12_cut_2 : decode cX12_cut 2 = .ok (.iconst 2, 1) := by decide +kernel
theorem dX12_cut_3 : decode cX12_cut 3 = .ok (.invokestatic 145, 3) := by decide +kernel
theorem dX12_cut_6 : decode cX12_cut 6 = .ok (.ifCond .eq 16, 3) := by decide +kernel
theorem dX12_cut_9 : decode cX12_cut 9 = .ok (.iload 4, 2) := by decide +kernel
theorem dX12_cut_11 : decode cX12_cut 11 = .ok (.sipush 1000, 3) := by decide +kernel
theorem dX12_cut_14 : decode cX12_cut 14 = .ok (.ldc 159, 2) := by decide +kernel
theorem dX12_cut_16 : decode cX12_cut 16 = .ok (.invokestatic 145, 3) := by decide +kernel
theorem dX12_cut_19 : decode cX12_cut 19 = .ok (.ifCond .ne 9, 3) := by decide +kernel
theorem dX12_cut_22 : decode cX12_cut 22 = .ok (.aload_n 0, 1) := by decide +kernel
theorem dX12_cut_23 : decode cX12_cut 23 = .ok (.iconst (-1), 1) := by decide +kernel
theorem dX12_cut_24 : decode cX12_cut 24 = .ok (.invokevirtual 151, 3) := by decide +kernel
theorem dX12_cut_27 : decode cX12_cut 27 = .ok (.ireturn, 1) := by decide +kernel
theorem dX12_cut_28 : decode cX12_cut 28 = .ok (.aload_n 0, 1) := by decide +kernel
theorem dX12_cut_29 : decode cX12_cut 29 = .ok (.iload_n 1, 1) := by decide +kernel
theorem dX12_cut_30 : decode cX12_cut 30 = .ok (.iload_n 2, 1) := by decide +kernel
theorem dX12_cut_31 : decode cX12_cut 31 = .ok (.invokevirtual 218, 3) := by decide +kernel
theorem dX12_cut_34 : decode cX12_cut 34 = .ok (.istore 5, 2) := by decide +kernel
theorem dX12_cut_36 : decode cX12_cut 36 = .ok (.iload 5, 2) := by decide +kernel
theorem dX12_cut_38 : decode cX12_cut 38 = .ok (.ifCond .eq 10, 3) := by decide +kernel
theorem dX12_cut_41 : decode cX12_cut 41 = .ok (.aload_n 0, 1) := by decide +kernel
theorem dX12_cut_42 : decode cX12_cut 42 = .ok (.iload 5, 2) := by decide +kernel
theorem dX12_cut_44 : decode cX12_cut 44 = .ok (.invokevirtual 151, 3) := by decide +kernel
theorem dX12_cut_47 : decode cX12_cut 47 = .ok (.ireturn, 1) := by decide +kernel
theorem dX12_cut_48 : decode cX12_cut 48 = .ok (.aload_n 0, 1) := by decide +kernel
theorem dX12_cut_49 : decode cX12_cut 49 = .ok (.aload_n 0, 1) := by decide +kernel
theorem dX12_cut_50 : decode cX12_cut 50 = .ok (.getfield 34, 3) := by decide +kernel
theorem dX12_cut_53 : decode cX12_cut 53 = .ok (.iconst 0, 1) := by decide +kernel
theorem dX12_cut_54 : decode cX12_cut 54 = .ok (.iaload, 1) := by decide +kernel
theorem dX12_cut_55 : decode cX12_cut 55 = .ok (.sipush 300, 3) := by decide +kernel
theorem dX12_cut_58 : decode cX12_cut 58 = .ok (.if_icmp .ne 8, 3) := by decide +kernel
theorem dX12_cut_61 : decode cX12_cut 61 = .ok (.bipush (-6), 2) := by decide +kernel
theorem dX12_cut_63 : decode cX12_cut 63 = .ok (.goto 12, 3) := by decide +kernel
theorem dX12_cut_66 : decode cX12_cut 66 = .ok (.aload_n 0, 1) := by decide +kernel
theorem dX12_cut_67 : decode cX12_cut 67 = .ok (.iload_n 1, 1) := by decide +kernel
theorem dX12_cut_68 : decode cX12_cut 68 = .ok (.iload_n 2, 1) := by decide +kernel
theorem dX12_cut_69 : decode cX12_cut 69 = .ok (.iload_n 3, 1) := by decide +kernel
theorem dX12_cut_70 : decode cX12_cut 70 = .ok (.iload 4, 2) := by decide +kernel
theorem dX12_cut_72 : decode cX12_cut 72 = .ok (.invokevirtual 221, 3) := by decide +kernel
theorem dX12_cut_75 : decode cX12_cut 75 = .ok (.invokevirtual 151, 3) := by decide +kernel
theorem dX12_cut_78 : decode cX12_cut 78 = .ok (.ireturn, 1) := by decide +kernel
theorem dX12_put_0 : decode cX12_put 0 = .ok (.iload_n 3, 1) := by decide +kernel
theorem dX12_put_1 : decode cX12_put 1 = .ok (.iconst 0, 1) := by decide +kernel
theorem dX12_put_2 : decode cX12_put 2 = .ok (.iconst 1, 1) := by decide +kernel
theorem dX12_put_3 : decode cX12_put 3 = .ok (.invokestatic 145, 3) := by decide +kernel
theorem dX12_put_6 : decode cX12_put 6 = .ok (.ifCond .ne 9, 3) := by decide +kernel
theorem dX12_put_9 : decode cX12_put 9 = .ok (.aload_n 0, 1) := by decide +kernel
theorem dX12_put_10 : decode cX12_put 10 = .ok (.iconst (-1), 1) := by decide +kernel
theorem dX12_put_11 : decode cX12_put 11 = .ok (.invokevirtual 151, 3) := by decide +kernel
theorem dX12_put_14 : decode cX12_put 14 = .ok (.ireturn, 1) := by decide +kernel
theorem dX12_put_15 : decode cX12_put 15 = .ok (.aload_n 0, 1) := by decide +kernel
theorem dX12_put_16 : decode cX12_put 16 = .ok (.iload_n 1, 1) := by decide +kernel
theorem dX12_put_17 : decode cX12_put 17 = .ok (.iload_n 2, 1) := by decide +kernel
theorem dX12_put_18 : decode cX12_put 18 = .ok (.invokevirtual 218, 3) := by decide +kernel
theorem dX12_put_21 : decode cX12_put 21 = .ok (.istore 4, 2) := by decide +kernel
theorem dX12_put_23 : decode cX12_put 23 = .ok (.iload 4, 2) := by decide +kernel
theorem dX12_put_25 : decode cX12_put 25 = .ok (.ifCond .eq 10, 3) := by decide +kernel
theorem dX12_put_28 : decode cX12_put 28 = .ok (.aload_n 0, 1) := by decide +kernel
theorem dX12_put_29 : decode cX12_put 29 = .ok (.iload 4, 2) := by decide +kernel
theorem dX12_put_31 : decode cX12_put 31 = .ok (.invokevirtual 151, 3) := by decide +kernel
theorem dX12_put_34 : decode cX12_put 34 = .ok (.ireturn, 1) := by decide +kernel
theorem dX12_put_35 : decode cX12_put 35 = .ok (.iload_n 3, 1) := by decide +kernel
theorem dX12_put_36 : decode cX12_put 36 = .ok (.ifCond .ne 40, 3) := by decide +kernel
theorem dX12_put_39 : decode cX12_put 39 = .ok (.aload_n 0, 1) := by decide +kernel
theorem dX12_put_40 : decode cX12_put 40 = .ok (.getfield 40, 3) := by decide +kernel
theorem dX12_put_43 : decode cX12_put 43 = .ok (.iload_n 1, 1) := by decide +kernel
theorem dX12_put_44 : decode cX12_put 44 = .ok (.iaload, 1) := by decide +kernel
theorem dX12_put_45 : decode cX12_put 45 = .ok (.iconst 4, 1) := by decide +kernel
theorem dX12_put_46 : decode cX12_put 46 = .ok (.if_icmp .eq 23, 3) := by decide +kernel
theorem dX12_put_49 : decode cX12_put 49 = .ok (.aload_n 0, 1) := by decide +kernel
theorem dX12_put_50 : decode cX12_put 50 = .ok (.getfield 40, 3) := by decide +kernel
theorem dX12_put_53 : decode cX12_put 53 = .ok (.iload_n 1, 1) := by decide +kernel
theorem dX12_put_54 : decode cX12_put 54 = .ok (.iaload, 1) := by decide +kernel
theorem dX12_put_55 : decode cX12_put 55 = .ok (.iconst 3, 1) := by decide +kernel
theorem dX12_put_56 : decode cX12_put 56 = .ok (.if_icmp .ne 20, 3) := by decide +kernel
theorem dX12_put_59 : decode cX12_put 59 = .ok (.aload_n 0, 1) := by decide +kernel
theorem dX12_put_60 : decode cX12_put 60 = .ok (.getfield 49, 3) := by decide +kernel
theorem dX12_put_63 : decode cX12_put 63 = .ok (.iload_n 1, 1) := by decide +kernel
theorem dX12_put_64 : decode cX12_put 64 = .ok (.iaload, 1) := by decide +kernel
theorem dX12_put_65 : decode cX12_put 65 = .ok (.iconst 1, 1) := by decide +kernel
theorem dX12_put_66 : decode cX12_put 66 = .ok (.if_icmp .ne 10, 3) := by decide +kernel
theorem dX12_put_69 : decode cX12_put 69 = .ok (.aload_n 0, 1) := by decide +kernel
theorem dX12_put_70 : decode cX12_put 70 = .ok (.bipush (-7), 2) := by decide +kernel
theorem dX12_put_72 : decode cX12_put 72 = .ok (.invokevirtual 151, 3) := by decide +kernel
theorem dX12_put_75 : decode cX12_put 75 = .ok (.ireturn, 1) := by decide +kernel
theorem dX12_put_76 : decode cX12_put 76 = .ok (.aload_n 0, 1) := by decide +kernel
theorem dX12_put_77 : decode cX12_put 77 = .ok (.getfield 64, 3) := by decide +kernel
theorem dX12_put_80 : decode cX12_put 80 = .ok (.sipush 180, 3) := by decide +kernel
theorem dX12_put_83 : decode cX12_put 83 = .ok (.iload_n 1, 1) := by decide +kernel
theorem dX12_put_84 : decode cX12_put 84 = .ok (.imul, 1) := by decide +kernel
theorem dX12_put_85 : decode cX12_put 85 = .ok (.iload_n 2, 1) := by decide +kernel
theorem dX12_put_86 : decode cX12_put 86 = .ok (.iadd, 1) := by decide +kernel
theorem dX12_put_87 : decode cX12_put 87 = .ok (.iload_n 3, 1) := by decide +kernel
theorem dX12_put_88 : decode cX12_put 88 = .ok (.ifCond .ne 7, 3) := by decide +kernel
theorem dX12_put_91 : decode cX12_put 91 = .ok (.iconst 1, 1) := by decide +kernel
theorem dX12_put_92 : decode cX12_put 92 = .ok (.goto 4, 3) := by decide +kernel
theorem dX12_put_95 : decode cX12_put 95 = .ok (.iconst 2, 1) := by decide +kernel
theorem dX12_put_96 : decode cX12_put 96 = .ok (.iastore, 1) := by decide +kernel
theorem dX12_put_97 : decode cX12_put 97 = .ok (.aload_n 0, 1) := by decide +kernel
theorem dX12_put_98 : decode cX12_put 98 = .ok (.iconst 0, 1) := by decide +kernel
theorem dX12_put_99 : decode cX12_put 99 = .ok (.invokevirtual 151, 3) := by decide +kernel
theorem dX12_put_102 : decode cX12_put 102 = .ok (.ireturn, 1) := by decide +kernel
theorem dX12_clear_0 : decode cX12_clear 0 = .ok (.aload_n 0, 1) := by decide +kernel
theorem dX12_clear_1 : decode cX12_clear 1 = .ok (.iload_n 1, 1) := by decide +kernel
theorem dX12_clear_2 : decode cX12_clear 2 = .ok (.invokevirtual 180, 3) := by decide +kernel
theorem dX12_clear_5 : decode cX12_clear 5 = .ok (.ifCond .ne 10, 3) := by decide +kernel
theorem dX12_clear_8 : decode cX12_clear 8 = .ok (.aload_n 0, 1) := by decide +kernel
theorem dX12_clear_9 : decode cX12_clear 9 = .ok (.bipush (-2), 2) := by decide +kernel
theorem dX12_clear_11 : decode cX12_clear 11 = .ok (.invokevirtual 151, 3) := by decide +kernel
theorem dX12_clear_14 : decode cX12_clear 14 = .ok (.ireturn, 1) := by decide +kernel
theorem dX12_clear_15 : decode cX12_clear 15 = .ok (.aload_n 0, 1) := by decide +kernel
theorem dX12_clear_16 : decode cX12_clear 16 = .ok (.iload_n 1, 1) := by decide +kernel
theorem dX12_clear_17 : decode cX12_clear 17 = .ok (.iload_n 2, 1) := by decide +kernel
theorem dX12_clear_18 : decode cX12_clear 18 = .ok (.invokevirtual 212, 3) := by decide +kernel
theorem dX12_clear_21 : decode cX12_clear 21 = .ok (.ifCond .ne 9, 3) := by decide +kernel
theorem dX12_clear_24 : decode cX12_clear 24 = .ok (.aload_n 0, 1) := by decide +kernel
theorem dX12_clear_25 : decode cX12_clear 25 = .ok (.iconst (-1), 1) := by decide +kernel
theorem dX12_clear_26 : decode cX12_clear 26 = .ok (.invokevirtual 151, 3) := by decide +kernel
theorem dX12_clear_29 : decode cX12_clear 29 = .ok (.ireturn, 1) := by decide +kernel
theorem dX12_clear_30 : decode cX12_clear 30 = .ok (.aload_n 0, 1) := by decide +kernel
theorem dX12_clear_31 : decode cX12_clear 31 = .ok (.iload_n 1, 1) := by decide +kernel
theorem dX12_clear_32 : decode cX12_clear 32 = .ok (.iload_n 2, 1) := by decide +kernel
theorem dX12_clear_33 : decode cX12_clear 33 = .ok (.invokevirtual 215, 3) := by decide +kernel
theorem dX12_clear_36 : decode cX12_clear 36 = .ok (.ifCond .ne 10, 3) := by decide +kernel
theorem dX12_clear_39 : decode cX12_clear 39 = .ok (.aload_n 0, 1) := by decide +kernel
theorem dX12_clear_40 : decode cX12_clear 40 = .ok (.bipush (-3), 2) := by decide +kernel
theorem dX12_clear_42 : decode cX12_clear 42 = .ok (.invokevirtual 151, 3) := by decide +kernel
theorem dX12_clear_45 : decode cX12_clear 45 = .ok (.ireturn, 1) := by decide +kernel
theorem dX12_clear_46 : decode cX12_clear 46 = .ok (.aload_n 0, 1) := by decide +kernel
theorem dX12_clear_47 : decode cX12_clear 47 = .ok (.iload_n 1, 1) := by decide +kernel
theorem dX12_clear_48 : decode cX12_clear 48 = .ok (.iload_n 2, 1) := by decide +kernel
theorem dX12_clear_49 : decode cX12_clear 49 = .ok (.invokevirtual 173, 3) := by decide +kernel
theorem dX12_clear_52 : decode cX12_clear 52 = .ok (.istore_n 3, 1) := by decide +kernel
theorem dX12_clear_53 : decode cX12_clear 53 = .ok (.iload_n 3, 1) := by decide +kernel
theorem dX12_clear_54 : decode cX12_clear 54 = .ok (.iconst 1, 1) := by decide +kernel
theorem dX12_clear_55 : decode cX12_clear 55 = .ok (.if_icmp .eq 8, 3) := by decide +kernel
theorem dX12_clear_58 : decode cX12_clear 58 = .ok (.iload_n 3, 1) := by decide +kernel
theorem dX12_clear_59 : decode cX12_clear 59 = .ok (.iconst 2, 1) := by decide +kernel
theorem dX12_clear_60 : decode cX12_clear 60 = .ok (.if_icmp .ne 13, 3) := by decide +kernel
theorem dX12_clear_63 : decode cX12_clear 63 = .ok (.aload_n 0, 1) := by decide +kernel
theorem dX12_clear_64 : decode cX12_clear 64 = .ok (.iload_n 1, 1) := by decide +kernel
theorem dX12_clear_65 : decode cX12_clear 65 = .ok (.iload_n 2, 1) := by decide +kernel
theorem dX12_clear_66 : decode cX12_clear 66 = .ok (.iconst 5, 1) := by decide +kernel
theorem dX12_clear_67 : decode cX12_clear 67 = .ok (.invokevirtual 176, 3) := by decide +kernel
theorem dX12_clear_70 : decode cX12_clear 70 = .ok (.ifCond .eq 10, 3) := by decide +kernel
theorem dX12_clear_73 : decode cX12_clear 73 = .ok (.aload_n 0, 1) := by decide +kernel
theorem dX12_clear_74 : decode cX12_clear 74 = .ok (.bipush (-7), 2) := by decide +kernel
theorem dX12_clear_76 : decode cX12_clear 76 = .ok (.invokevirtual 151, 3) := by decide +kernel
theorem dX12_clear_79 : decode cX12_clear 79 = .ok (.ireturn, 1) := by decide +kernel
theorem dX12_clear_80 : decode cX12_clear 80 = .ok (.aload_n 0, 1) := by decide +kernel
theorem dX12_clear_81 : decode cX12_clear 81 = .ok (.getfield 64, 3) := by decide +kernel
theorem dX12_clear_84 : decode cX12_clear 84 = .ok (.sipush 180, 3) := by decide +kernel
theorem dX12_clear_87 : decode cX12_clear 87 = .ok (.iload_n 1, 1) := by decide +kernel
theorem dX12_clear_88 : decode cX12_clear 88 = .ok (.imul, 1) := by decide +kernel
theorem dX12_clear_89 : decode cX12_clear 89 = .ok (.iload_n 2, 1) := by decide +kernel
theorem dX12_clear_90 : decode cX12_clear 90 = .ok (.iadd, 1) := by decide +kernel
theorem dX12_clear_91 : decode cX12_clear 91 = .ok (.iconst 0, 1) := by decide +kernel
theorem dX12_clear_92 : decode cX12_clear 92 = .ok (.iastore, 1) := by decide +kernel
theorem dX12_clear_93 : decode cX12_clear 93 = .ok (.aload_n 0, 1) := by decide +kernel
theorem dX12_clear_94 : decode cX12_clear 94 = .ok (.iconst 0, 1) := by decide +kernel
theorem dX12_clear_95 : decode cX12_clear 95 = .ok (.invokevirtual 151, 3) := by decide +kernel
theorem dX12_clear_98 : decode cX12_clear 98 = .ok (.ireturn, 1) := by decide +kernel
theorem dX12_place_0 : decode cX12_place 0 = .ok (.aload_n 0, 1) := by decide +kernel
theorem dX12_place_1 : decode cX12_place 1 = .ok (.iload_n 1, 1) := by decide +kernel
theorem dX12_place_2 : decode cX12_place 2 = .ok (.invokevirtual 180, 3) := by decide +kernel
theorem dX12_place_5 : decode cX12_place 5 = .ok (.ifCond .ne 6, 3) := by decide +kernel
theorem dX12_place_8 : decode cX12_place 8 = .ok (.bipush (-2), 2) := by decide +kernel
theorem dX12_place_10 : decode cX12_place 10 = .ok (.ireturn, 1) := by decide +kernel
theorem dX12_place_11 : decode cX12_place 11 = .ok (.aload_n 0, 1) := by decide +kernel
theorem dX12_place_12 : decode cX12_place 12 = .ok (.iload_n 1, 1) := by decide +kernel
theorem dX12_place_13 : decode cX12_place 13 = .ok (.iload_n 2, 1) := by decide +kernel
theorem dX12_place_14 : decode cX12_place 14 = .ok (.invokevirtual 212, 3) := by decide +kernel
theorem dX12_place_17 : decode cX12_place 17 = .ok (.ifCond .ne 5, 3) := by decide +kernel
theorem dX12_place_20 : decode cX12_place 20 = .ok (.iconst (-1), 1) := by decide +kernel
theorem dX12_place_21 : decode cX12_place 21 = .ok (.ireturn, 1) := by decide +kernel
theorem dX12_place_22 : decode cX12_place 22 = .ok (.aload_n 0, 1) := by decide +kernel
theorem dX12_place_23 : decode cX12_place 23 = .ok (.iload_n 1, 1) := by decide +kernel
theorem dX12_place_24 : decode cX12_place 24 = .ok (.iload_n 2, 1) := by decide +kernel
theorem dX12_place_25 : decode cX12_place 25 = .ok (.invokevirtual 215, 3) := by decide +kernel
theorem dX12_place_28 : decode cX12_place 28 = .ok (.ifCond .eq 12, 3) := by decide +kernel
theorem dX12_place_31 : decode cX12_place 31 = .ok (.aload_n 0, 1) := by decide +kernel
theorem dX12_place_32 : decode cX12_place 32 = .ok (.iload_n 1, 1) := by decide +kernel
theorem dX12_place_33 : decode cX12_place 33 = .ok (.iload_n 2, 1) := by decide +kernel
theorem dX12_place_34 : decode cX12_place 34 = .ok (.invokevirtual 173, 3) := by decide +kernel
theorem dX12_place_37 : decode cX12_place 37 = .ok (.goto 5, 3) := by decide +kernel
theorem dX12_place_40 : decode cX12_place 40 = .ok (.bipush (-3), 2) := by decide +kernel
theorem dX12_place_42 : decode cX12_place 42 = .ok (.ireturn, 1) := by decide +kernel
theorem dX12_block_0 : decode cX12_block 0 = .ok (.iload_n 2, 1) := by decide +kernel
theorem dX12_block_1 : decode cX12_block 1 = .ok (.iconst 0, 1) := by decide +kernel
theorem dX12_block_2 : decode cX12_block 2 = .ok (.bipush 9, 2) := by decide +kernel
theorem dX12_block_4 : decode cX12_block 4 = .ok (.invokestatic 145, 3) := by decide +kernel
theorem dX12_block_7 : decode cX12_block 7 = .ok (.ifCond .ne 5, 3) := by decide +kernel
theorem dX12_block_10 : decode cX12_block 10 = .ok (.iconst (-1), 1) := by decide +kernel
theorem dX12_block_11 : decode cX12_block 11 = .ok (.ireturn, 1) := by decide +kernel
theorem dX12_block_12 : decode cX12_block 12 = .ok (.iload_n 1, 1) := by decide +kernel
theorem dX12_block_13 : decode cX12_block 13 = .ok (.iconst 0, 1) := by decide +kernel
theorem dX12_block_14 : decode cX12_block 14 = .ok (.aload_n 0, 1) := by decide +kernel
theorem dX12_block_15 : decode cX12_block 15 = .ok (.getfield 34, 3) := by decide +kernel
theorem dX12_block_18 : decode cX12_block 18 = .ok (.iconst 0, 1) := by decide +kernel
theorem dX12_block_19 : decode cX12_block 19 = .ok (.iaload, 1) := by decide +kernel
theorem dX12_block_20 : decode cX12_block 20 = .ok (.iconst 1, 1) := by decide +kernel
theorem dX12_block_21 : decode cX12_block 21 = .ok (.isub, 1) := by decide +kernel
theorem dX12_block_22 : decode cX12_block 22 = .ok (.invokestatic 145, 3) := by decide +kernel
theorem dX12_block_25 : decode cX12_block 25 = .ok (.ifCond .ne 6, 3) := by decide +kernel
theorem dX12_block_28 : decode cX12_block 28 = .ok (.bipush (-2), 2) := by decide +kernel
theorem dX12_block_30 : decode cX12_block 30 = .ok (.ireturn, 1) := by decide +kernel
theorem dX12_block_31 : decode cX12_block 31 = .ok (.aload_n 0, 1) := by decide +kernel
theorem dX12_block_32 : decode cX12_block 32 = .ok (.getfield 73, 3) := by decide +kernel
theorem dX12_block_35 : decode cX12_block 35 = .ok (.iload_n 1, 1) := by decide +kernel
theorem dX12_block_36 : decode cX12_block 36 = .ok (.iaload, 1) := by decide +kernel
theorem dX12_block_37 : decode cX12_block 37 = .ok (.ifCond .lt 7, 3) := by decide +kernel
theorem dX12_block_40 : decode cX12_block 40 = .ok (.iconst 1, 1) := by decide +kernel
theorem dX12_block_41 : decode cX12_block 41 = .ok (.goto 4, 3) := by decide +kernel
theorem dX12_block_44 : decode cX12_block 44 = .ok (.iconst 0, 1) := by decide +kernel
theorem dX12_block_45 : decode cX12_block 45 = .ok (.istore_n 3, 1) := by decide +kernel
theorem dX12_block_46 : decode cX12_block 46 = .ok (.iload_n 2, 1) := by decide +kernel
theorem dX12_block_47 : decode cX12_block 47 = .ok (.tableswitch 163 0 8 #[49, 56, 63, 70, 77, 84, 91, 117, 143], 49) := by decide +kernel
theorem dX12_block_96 : decode cX12_block 96 = .ok (.aload_n 0, 1) := by decide +kernel
theorem dX12_block_97 : decode cX12_block 97 = .ok (.getfield 67, 3) := by decide +kernel
theorem dX12_block_100 : decode cX12_block 100 = .ok (.iload_n 1, 1) := by decide +kernel
theorem dX12_block_101 : decode cX12_block 101 = .ok (.iaload, 1) := by decide +kernel
theorem dX12_block_102 : decode cX12_block 102 = .ok (.ireturn, 1) := by decide +kernel
theorem dX12_block_103 : decode cX12_block 103 = .ok (.aload_n 0, 1) := by decide +kernel
theorem dX12_block_104 : decode cX12_block 104 = .ok (.getfield 70, 3) := by decide +kernel
theorem dX12_block_107 : decode cX12_block 107 = .ok (.iload_n 1, 1) := by decide +kernel
theorem dX12_block_108 : decode cX12_block 108 = .ok (.iaload, 1) := by decide +kernel
theorem dX12_block_109 : decode cX12_block 109 = .ok (.ireturn, 1) := by decide +kernel
theorem dX12_block_110 : decode cX12_block 110 = .ok (.aload_n 0, 1) := by decide +kernel
theorem dX12_block_111 : decode cX12_block 111 = .ok (.getfield 73, 3) := by decide +kernel
theorem dX12_block_114 : decode cX12_block 114 = .ok (.iload_n 1, 1) := by decide +kernel
theorem dX12_block_115 : decode cX12_block 115 = .ok (.iaload, 1) := by decide +kernel
theorem dX12_block_116 : decode cX12_block 116 = .ok (.ireturn, 1) := by decide +kernel
theorem dX12_block_117 : decode cX12_block 117 = .ok (.aload_n 0, 1) := by decide +kernel
theorem dX12_block_118 : decode cX12_block 118 = .ok (.getfield 76, 3) := by decide +kernel
theorem dX12_block_121 : decode cX12_block 121 = .ok (.iload_n 1, 1) := by decide +kernel
theorem dX12_block_122 : decode cX12_block 122 = .ok (.iaload, 1) := by decide +kernel
theorem dX12_block_123 : decode cX12_block 123 = .ok (.ireturn, 1) := by decide +kernel
theorem dX12_block_124 : decode cX12_block 124 = .ok (.aload_n 0, 1) := by decide +kernel
theorem dX12_block_125 : decode cX12_block 125 = .ok (.getfield 79, 3) := by decide +kernel
theorem dX12_block_128 : decode cX12_block 128 = .ok (.iload_n 1, 1) := by decide +kernel
theorem dX12_block_129 : decode cX12_block 129 = .ok (.iaload, 1) := by decide +kernel
theorem dX12_block_130 : decode cX12_block 130 = .ok (.ireturn, 1) := by decide +kernel
theorem dX12_block_131 : decode cX12_block 131 = .ok (.aload_n 0, 1) := by decide +kernel
theorem dX12_block_132 : decode cX12_block 132 = .ok (.getfield 82, 3) := by decide +kernel
theorem dX12_block_135 : decode cX12_block 135 = .ok (.iload_n 1, 1) := by decide +kernel
theorem dX12_block_136 : decode cX12_block 136 = .ok (.iaload, 1) := by decide +kernel
theorem dX12_block_137 : decode cX12_block 137 = .ok (.ireturn, 1) := by decide +kernel
theorem dX12_block_138 : decode cX12_block 138 = .ok (.iload_n 3, 1) := by decide +kernel
theorem dX12_block_139 : decode cX12_block 139 = .ok (.ifCond .eq 23, 3) := by decide +kernel
theorem dX12_block_142 : decode cX12_block 142 = .ok (.aload_n 0, 1) := by decide +kernel
theorem dX12_block_143 : decode cX12_block 143 = .ok (.aload_n 0, 1) := by decide +kernel
theorem dX12_block_144 : decode cX12_block 144 = .ok (.getfield 73, 3) := by decide +kernel
theorem dX12_block_147 : decode cX12_block 147 = .ok (.iload_n 1, 1) := by decide +kernel
theorem dX12_block_148 : decode cX12_block 148 = .ok (.iaload, 1) := by decide +kernel
theorem dX12_block_149 : decode cX12_block 149 = .ok (.aload_n 0, 1) := by decide +kernel
theorem dX12_block_150 : decode cX12_block 150 = .ok (.getfield 76, 3) := by decide +kernel
theorem dX12_block_153 : decode cX12_block 153 = .ok (.iload_n 1, 1) := by decide +kernel
theorem dX12_block_154 : decode cX12_block 154 = .ok (.iaload, 1) := by decide +kernel
theorem dX12_block_155 : decode cX12_block 155 = .ok (.iconst 0, 1) := by decide +kernel
theorem dX12_block_156 : decode cX12_block 156 = .ok (.invokevirtual 196, 3) := by decide +kernel
theorem dX12_block_159 : decode cX12_block 159 = .ok (.goto 4, 3) := by decide +kernel
theorem dX12_block_162 : decode cX12_block 162 = .ok (.iconst 0, 1) := by decide +kernel
theorem dX12_block_163 : decode cX12_block 163 = .ok (.ireturn, 1) := by decide +kernel
theorem dX12_block_164 : decode cX12_block 164 = .ok (.iload_n 3, 1) := by decide +kernel
theorem dX12_block_165 : decode cX12_block 165 = .ok (.ifCond .eq 23, 3) := by decide +kernel
theorem dX12_block_168 : decode cX12_block 168 = .ok (.aload_n 0, 1) := by decide +kernel
theorem dX12_block_169 : decode cX12_block 169 = .ok (.aload_n 0, 1) := by decide +kernel
theorem dX12_block_170 : decode cX12_block 170 = .ok (.getfield 73, 3) := by decide +kernel
theorem dX12_block_173 : decode cX12_block 173 = .ok (.iload_n 1, 1) := by decide +kernel
theorem dX12_block_174 : decode cX12_block 174 = .ok (.iaload, 1) := by decide +kernel
theorem dX12_block_175 : decode cX12_block 175 = .ok (.aload_n 0, 1) := by decide +kernel
theorem dX12_block_176 : decode cX12_block 176 = .ok (.getfield 76, 3) := by decide +kernel
theorem dX12_block_179 : decode cX12_block 179 = .ok (.iload_n 1, 1) := by decide +kernel
theorem dX12_block_180 : decode cX12_block 180 = .ok (.iaload, 1) := by decide +kernel
theorem dX12_block_181 : decode cX12_block 181 = .ok (.iconst 1, 1) := by decide +kernel
theorem dX12_block_182 : decode cX12_block 182 = .ok (.invokevirtual 196, 3) := by decide +kernel
theorem dX12_block_185 : decode cX12_block 185 = .ok (.goto 4, 3) := by decide +kernel
theorem dX12_block_188 : decode cX12_block 188 = .ok (.iconst 0, 1) := by decide +kernel
theorem dX12_block_189 : decode cX12_block 189 = .ok (.ireturn, 1) := by decide +kernel
theorem dX12_block_190 : decode cX12_block 190 = .ok (.iload_n 3, 1) := by decide +kernel
theorem dX12_block_191 : decode cX12_block 191 = .ok (.ifCond .eq 17, 3) := by decide +kernel
theorem dX12_block_194 : decode cX12_block 194 = .ok (.aload_n 0, 1) := by decide +kernel
theorem dX12_block_195 : decode cX12_block 195 = .ok (.iload_n 1, 1) := by decide +kernel
theorem dX12_block_196 : decode cX12_block 196 = .ok (.aload_n 0, 1) := by decide +kernel
theorem dX12_block_197 : decode cX12_block 197 = .ok (.getfield 27, 3) := by decide +kernel
theorem dX12_block_200 : decode cX12_block 200 = .ok (.iconst 0, 1) := by decide +kernel
theorem dX12_block_201 : decode cX12_block 201 = .ok (.iaload, 1) := by decide +kernel
theorem dX12_block_202 : decode cX12_block 202 = .ok (.invokevirtual 225, 3) := by decide +kernel
theorem dX12_block_205 : decode cX12_block 205 = .ok (.goto 4, 3) := by decide +kernel
theorem dX12_block_208 : decode cX12_block 208 = .ok (.iconst 0, 1) := by decide +kernel
theorem dX12_block_209 : decode cX12_block 209 = .ok (.ireturn, 1) := by decide +kernel
theorem dX12_block_210 : decode cX12_block 210 = .ok (.iload_n 3, 1) := by decide +kernel
theorem dX12_block_211 : decode cX12_block 211 = .ok (.ifCond .eq 15, 3) := by decide +kernel
theorem dX12_block_214 : decode cX12_block 214 = .ok (.aload_n 0, 1) := by decide +kernel
theorem dX12_block_215 : decode cX12_block 215 = .ok (.iload_n 1, 1) := by decide +kernel
theorem dX12_block_216 : decode cX12_block 216 = .ok (.invokevirtual 206, 3) := by decide +kernel
theorem dX12_block_219 : decode cX12_block 219 = .ok (.ifCond .eq 7, 3) := by decide +kernel
theorem dX12_block_222 : decode cX12_block 222 = .ok (.iconst 1, 1) := by decide +kernel
theorem dX12_block_223 : decode cX12_block 223 = .ok (.goto 4, 3) := by decide +kernel
theorem dX12_block_226 : decode cX12_block 226 = .ok (.iconst 0, 1) := by decide +kernel
theorem dX12_block_227 : decode cX12_block 227 = .ok (.ireturn, 1) := by decide +kernel
theorem dX12_isDrained_0 : decode cX12_isDrained 0 = .ok (.aload_n 0, 1) := by decide +kernel
theorem dX12_isDrained_1 : decode cX12_isDrained 1 = .ok (.getfield 73, 3) := by decide +kernel
theorem dX12_isDrained_4 : decode cX12_isDrained 4 = .ok (.iload_n 1, 1) := by decide +kernel
theorem dX12_isDrained_5 : decode cX12_isDrained 5 = .ok (.iaload, 1) := by decide +kernel
theorem dX12_isDrained_6 : decode cX12_isDrained 6 = .ok (.istore_n 2, 1) := by decide +kernel
theorem dX12_isDrained_7 : decode cX12_isDrained 7 = .ok (.aload_n 0, 1) := by decide +kernel
theorem dX12_isDrained_8 : decode cX12_isDrained 8 = .ok (.iload_n 2, 1) := by decide +kernel
theorem dX12_isDrained_9 : decode cX12_isDrained 9 = .ok (.invokevirtual 190, 3) := by decide +kernel
theorem dX12_isDrained_12 : decode cX12_isDrained 12 = .ok (.istore_n 3, 1) := by decide +kernel
theorem dX12_isDrained_13 : decode cX12_isDrained 13 = .ok (.aload_n 0, 1) := by decide +kernel
theorem dX12_isDrained_14 : decode cX12_isDrained 14 = .ok (.getfield 76, 3) := by decide +kernel
theorem dX12_isDrained_17 : decode cX12_isDrained 17 = .ok (.iload_n 1, 1) := by decide +kernel
theorem dX12_isDrained_18 : decode cX12_isDrained 18 = .ok (.iaload, 1) := by decide +kernel
theorem dX12_isDrained_19 : decode cX12_isDrained 19 = .ok (.aload_n 0, 1) := by decide +kernel
theorem dX12_isDrained_20 : decode cX12_isDrained 20 = .ok (.iload_n 2, 1) := by decide +kernel
theorem dX12_isDrained_21 : decode cX12_isDrained 21 = .ok (.invokevirtual 167, 3) := by decide +kernel
theorem dX12_isDrained_24 : decode cX12_isDrained 24 = .ok (.isub, 1) := by decide +kernel
theorem dX12_isDrained_25 : decode cX12_isDrained 25 = .ok (.istore 4, 2) := by decide +kernel
theorem dX12_isDrained_27 : decode cX12_isDrained 27 = .ok (.iload 4, 2) := by decide +kernel
theorem dX12_isDrained_29 : decode cX12_isDrained 29 = .ok (.ifCond .lt 37, 3) := by decide +kernel
theorem dX12_isDrained_32 : decode cX12_isDrained 32 = .ok (.iload_n 3, 1) := by decide +kernel
theorem dX12_isDrained_33 : decode cX12_isDrained 33 = .ok (.ifCond .ne 14, 3) := by decide +kernel
theorem dX12_isDrained_36 : decode cX12_isDrained 36 = .ok (.aload_n 0, 1) := by decide +kernel
theorem dX12_isDrained_37 : decode cX12_isDrained 37 = .ok (.iload_n 2, 1) := by decide +kernel
theorem dX12_isDrained_38 : decode cX12_isDrained 38 = .ok (.iload 4, 2) := by decide +kernel
theorem dX12_isDrained_40 : decode cX12_isDrained 40 = .ok (.invokevirtual 173, 3) := by decide +kernel
theorem dX12_isDrained_43 : decode cX12_isDrained 43 = .ok (.iconst 2, 1) := by decide +kernel
theorem dX12_isDrained_44 : decode cX12_isDrained 44 = .ok (.if_icmp .ne 7, 3) := by decide +kernel
theorem dX12_isDrained_47 : decode cX12_isDrained 47 = .ok (.iconst 1, 1) := by decide +kernel
theorem dX12_isDrained_48 : decode cX12_isDrained 48 = .ok (.goto 4, 3) := by decide +kernel
theorem dX12_isDrained_51 : decode cX12_isDrained 51 = .ok (.iconst 0, 1) := by decide +kernel
theorem dX12_isDrained_52 : decode cX12_isDrained 52 = .ok (.istore_n 3, 1) := by decide +kernel
theorem dX12_isDrained_53 : decode cX12_isDrained 53 = .ok (.iload 4, 2) := by decide +kernel
theorem dX12_isDrained_55 : decode cX12_isDrained 55 = .ok (.aload_n 0, 1) := by decide +kernel
theorem dX12_isDrained_56 : decode cX12_isDrained 56 = .ok (.iload_n 2, 1) := by decide +kernel
theorem dX12_isDrained_57 : decode cX12_isDrained 57 = .ok (.invokevirtual 167, 3) := by decide +kernel
theorem dX12_isDrained_60 : decode cX12_isDrained 60 = .ok (.isub, 1) := by decide +kernel
theorem dX12_isDrained_61 : decode cX12_isDrained 61 = .ok (.istore 4, 2) := by decide +kernel
theorem dX12_isDrained_63 : decode cX12_isDrained 63 = .ok (.goto (-36), 3) := by decide +kernel
theorem dX12_isDrained_66 : decode cX12_isDrained 66 = .ok (.iload_n 3, 1) := by decide +kernel
theorem dX12_isDrained_67 : decode cX12_isDrained 67 = .ok (.ireturn, 1) := by decide +kernel
theorem dX12_isBySalt_0 : decode cX12_isBySalt 0 = .ok (.iconst 0, 1) := by decide +kernel
theorem dX12_isBySalt_1 : decode cX12_isBySalt 1 = .ok (.istore_n 2, 1) := by decide +kernel
theorem dX12_isBySalt_2 : decode cX12_isBySalt 2 = .ok (.iconst 0, 1) := by decide +kernel
theorem dX12_isBySalt_3 : decode cX12_isBySalt 3 = .ok (.istore_n 3, 1) := by decide +kernel
theorem dX12_isBySalt_4 : decode cX12_isBySalt 4 = .ok (.iload_n 3, 1) := by decide +kernel
theorem dX12_isBySalt_5 : decode cX12_isBySalt 5 = .ok (.bipush 6, 2) := by decide +kernel
theorem dX12_isBySalt_7 : decode cX12_isBySalt 7 = .ok (.if_icmp .ge 59, 3) := by decide +kernel
theorem dX12_isBySalt_10 : decode cX12_isBySalt 10 = .ok (.aload_n 0, 1) := by decide +kernel
theorem dX12_isBySalt_11 : decode cX12_isBySalt 11 = .ok (.aload_n 0, 1) := by decide +kernel
theorem dX12_isBySalt_12 : decode cX12_isBySalt 12 = .ok (.getfield 73, 3) := by decide +kernel
theorem dX12_isBySalt_15 : decode cX12_isBySalt 15 = .ok (.iload_n 1, 1) := by decide +kernel
theorem dX12_isBySalt_16 : decode cX12_isBySalt 16 = .ok (.iaload, 1) := by decide +kernel
theorem dX12_isBySalt_17 : decode cX12_isBySalt 17 = .ok (.aload_n 0, 1) := by decide +kernel
theorem dX12_isBySalt_18 : decode cX12_isBySalt 18 = .ok (.getfield 76, 3) := by decide +kernel
theorem dX12_isBySalt_21 : decode cX12_isBySalt 21 = .ok (.iload_n 1, 1) := by decide +kernel
theorem dX12_isBySalt_22 : decode cX12_isBySalt 22 = .ok (.iaload, 1) := by decide +kernel
theorem dX12_isBySalt_23 : decode cX12_isBySalt 23 = .ok (.iload_n 3, 1) := by decide +kernel
theorem dX12_isBySalt_24 : decode cX12_isBySalt 24 = .ok (.invokevirtual 176, 3) := by decide +kernel
theorem dX12_isBySalt_27 : decode cX12_isBySalt 27 = .ok (.istore 4, 2) := by decide +kernel
theorem dX12_isBySalt_29 : decode cX12_isBySalt 29 = .ok (.iload_n 2, 1) := by decide +kernel
theorem dX12_isBySalt_30 : decode cX12_isBySalt 30 = .ok (.ifCond .ne 24, 3) := by decide +kernel
theorem dX12_isBySalt_33 : decode cX12_isBySalt 33 = .ok (.iload 4, 2) := by decide +kernel
theorem dX12_isBySalt_35 : decode cX12_isBySalt 35 = .ok (.bipush 10, 2) := by decide +kernel
theorem dX12_isBySalt_37 : decode cX12_isBySalt 37 = .ok (.if_icmp .lt 21, 3) := by decide +kernel
theorem dX12_isBySalt_40 : decode cX12_isBySalt 40 = .ok (.aload_n 0, 1) := by decide +kernel
theorem dX12_isBySalt_41 : decode cX12_isBySalt 41 = .ok (.getfield 67, 3) := by decide +kernel
theorem dX12_isBySalt_44 : decode cX12_isBySalt 44 = .ok (.iload 4, 2) := by decide +kernel
theorem dX12_isBySalt_46 : decode cX12_isBySalt 46 = .ok (.bipush 10, 2) := by decide +kernel
theorem dX12_isBySalt_48 : decode cX12_isBySalt 48 = .ok (.isub, 1) := by decide +kernel
theorem dX12_isBySalt_49 : decode cX12_isBySalt 49 = .ok (.iaload, 1) := by decide +kernel
theorem dX12_isBySalt_50 : decode cX12_isBySalt 50 = .ok (.iconst 2, 1) := by decide +kernel
theorem dX12_isBySalt_51 : decode cX12_isBySalt 51 = .ok (.if_icmp .ne 7, 3) := by decide +kernel
theorem dX12_isBySalt_54 : decode cX12_isBySalt 54 = .ok (.iconst 1, 1) := by decide +kernel
theorem dX12_isBySalt_55 : decode cX12_isBySalt 55 = .ok (.goto 4, 3) := by decide +kernel
theorem dX12_isBySalt_58 : decode cX12_isBySalt 58 = .ok (.iconst 0, 1) := by decide +kernel
theorem dX12_isBySalt_59 : decode cX12_isBySalt 59 = .ok (.istore_n 2, 1) := by decide +kernel
theorem dX12_isBySalt_60 : decode cX12_isBySalt 60 = .ok (.iinc 3 1, 3) := by decide +kernel
theorem dX12_isBySalt_63 : decode cX12_isBySalt 63 = .ok (.goto (-59), 3) := by decide +kernel
theorem dX12_isBySalt_66 : decode cX12_isBySalt 66 = .ok (.iload_n 2, 1) := by decide +kernel
theorem dX12_isBySalt_67 : decode cX12_isBySalt 67 = .ok (.ireturn, 1) := by decide +kernel
theorem dX12_out_0 : decode cX12_out 0 = .ok (.aload_n 0, 1) := by decide +kernel
theorem dX12_out_1 : decode cX12_out 1 = .ok (.getfield 64, 3) := by decide +kernel
theorem dX12_out_4 : decode cX12_out 4 = .ok (.sipush 180, 3) := by decide +kernel
theorem dX12_out_7 : decode cX12_out 7 = .ok (.aload_n 0, 1) := by decide +kernel
theorem dX12_out_8 : decode cX12_out 8 = .ok (.getfield 73, 3) := by decide +kernel
theorem dX12_out_11 : decode cX12_out 11 = .ok (.iload_n 1, 1) := by decide +kernel
theorem dX12_out_12 : decode cX12_out 12 = .ok (.iaload, 1) := by decide +kernel
theorem dX12_out_13 : decode cX12_out 13 = .ok (.imul, 1) := by decide +kernel
theorem dX12_out_14 : decode cX12_out 14 = .ok (.aload_n 0, 1) := by decide +kernel
theorem dX12_out_15 : decode cX12_out 15 = .ok (.getfield 76, 3) := by decide +kernel
theorem dX12_out_18 : decode cX12_out 18 = .ok (.iload_n 1, 1) := by decide +kernel
theorem dX12_out_19 : decode cX12_out 19 = .ok (.iaload, 1) := by decide +kernel
theorem dX12_out_20 : decode cX12_out 20 = .ok (.iadd, 1) := by decide +kernel
theorem dX12_out_21 : decode cX12_out 21 = .ok (.iconst 0, 1) := by decide +kernel
theorem dX12_out_22 : decode cX12_out 22 = .ok (.iastore, 1) := by decide +kernel
theorem dX12_out_23 : decode cX12_out 23 = .ok (.aload_n 0, 1) := by decide +kernel
