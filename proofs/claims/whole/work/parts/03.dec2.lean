theorem dX6_init_0 : decode cX6_init 0 = .ok (.aload_n 0, 1) := by decide +kernel
theorem dX6_init_1 : decode cX6_init 1 = .ok (.invokespecial 3, 3) := by decide +kernel
theorem dX6_init_4 : decode cX6_init 4 = .ok (.aload_n 0, 1) := by decide +kernel
theorem dX6_init_5 : decode cX6_init 5 = .ok (.bipush 40, 2) := by decide +kernel
theorem dX6_init_7 : decode cX6_init 7 = .ok (.putfield 9, 3) := by decide +kernel
theorem dX6_init_10 : decode cX6_init 10 = .ok (.aload_n 0, 1) := by decide +kernel
theorem dX6_init_11 : decode cX6_init 11 = .ok (.sipush 200, 3) := by decide +kernel
theorem dX6_init_14 : decode cX6_init 14 = .ok (.putfield 15, 3) := by decide +kernel
theorem dX6_init_17 : decode cX6_init 17 = .ok (.aload_n 0, 1) := by decide +kernel
theorem dX6_init_18 : decode cX6_init 18 = .ok (.sipush 1000, 3) := by decide +kernel
theorem dX6_init_21 : decode cX6_init 21 = .ok (.putfield 18, 3) := by decide +kernel
theorem dX6_init_24 : decode cX6_init 24 = .ok (.aload_n 0, 1) := by decide +kernel
theorem dX6_init_25 : decode cX6_init 25 = .ok (.new 21, 3) := by decide +kernel
theorem dX6_init_28 : decode cX6_init 28 = .ok (.dup, 1) := by decide +kernel
theorem dX6_init_29 : decode cX6_init 29 = .ok (.invokespecial 23, 3) := by decide +kernel
theorem dX6_init_32 : decode cX6_init 32 = .ok (.putfield 24, 3) := by decide +kernel
theorem dX6_init_35 : decode cX6_init 35 = .ok (.aload_n 0, 1) := by decide +kernel
theorem dX6_init_36 : decode cX6_init 36 = .ok (.sipush 300, 3) := by decide +kernel
theorem dX6_init_39 : decode cX6_init 39 = .ok (.newarray .int, 2) := by decide +kernel
theorem dX6_init_41 : decode cX6_init 41 = .ok (.putfield 28, 3) := by decide +kernel
theorem dX6_init_44 : decode cX6_init 44 = .ok (.aload_n 0, 1) := by decide +kernel
theorem dX6_init_45 : decode cX6_init 45 = .ok (.bipush 8, 2) := by decide +kernel
theorem dX6_init_47 : decode cX6_init 47 = .ok (.newarray .int, 2) := by decide +kernel
theorem dX6_init_49 : decode cX6_init 49 = .ok (.putfield 32, 3) := by decide +kernel
theorem dX6_init_52 : decode cX6_init 52 = .ok (.return_, 1) := by decide +kernel
theorem dX6_warmthIn_0 : decode cX6_warmthIn 0 = .ok (.aload_n 1, 1) := by decide +kernel
theorem dX6_warmthIn_1 : decode cX6_warmthIn 1 = .ok (.getfield 35, 3) := by decide +kernel
theorem dX6_warmthIn_4 : decode cX6_warmthIn 4 = .ok (.getfield 41, 3) := by decide +kernel
theorem dX6_warmthIn_7 : decode cX6_warmthIn 7 = .ok (.iload_n 2, 1) := by decide +kernel
theorem dX6_warmthIn_8 : decode cX6_warmthIn 8 = .ok (.iaload, 1) := by decide +kernel
theorem dX6_warmthIn_9 : decode cX6_warmthIn 9 = .ok (.istore 4, 2) := by decide +kernel
theorem dX6_warmthIn_11 : decode cX6_warmthIn 11 = .ok (.iload_n 2, 1) := by decide +kernel
theorem dX6_warmthIn_12 : decode cX6_warmthIn 12 = .ok (.istore 5, 2) := by decide +kernel
theorem dX6_warmthIn_14 : decode cX6_warmthIn 14 = .ok (.iconst 0, 1) := by decide +kernel
theorem dX6_warmthIn_15 : decode cX6_warmthIn 15 = .ok (.istore 6, 2) := by decide +kernel
theorem dX6_warmthIn_17 : decode cX6_warmthIn 17 = .ok (.iload 6, 2) := by decide +kernel
theorem dX6_warmthIn_19 : decode cX6_warmthIn 19 = .ok (.bipush 8, 2) := by decide +kernel
theorem dX6_warmthIn_21 : decode cX6_warmthIn 21 = .ok (.if_icmp .ge 64, 3) := by decide +kernel
theorem dX6_warmthIn_24 : decode cX6_warmthIn 24 = .ok (.aload_n 1, 1) := by decide +kernel
theorem dX6_warmthIn_25 : decode cX6_warmthIn 25 = .ok (.getfield 35, 3) := by decide +kernel
theorem dX6_warmthIn_28 : decode cX6_warmthIn 28 = .ok (.getfield 46, 3) := by decide +kernel
theorem dX6_warmthIn_31 : decode cX6_warmthIn 31 = .ok (.iload 5, 2) := by decide +kernel
theorem dX6_warmthIn_33 : decode cX6_warmthIn 33 = .ok (.iaload, 1) := by decide +kernel
theorem dX6_warmthIn_34 : decode cX6_warmthIn 34 = .ok (.iconst 2, 1) := by decide +kernel
theorem dX6_warmthIn_35 : decode cX6_warmthIn 35 = .ok (.if_icmp .ne 50, 3) := by decide +kernel
theorem dX6_warmthIn_38 : decode cX6_warmthIn 38 = .ok (.aload_n 1, 1) := by decide +kernel
theorem dX6_warmthIn_39 : decode cX6_warmthIn 39 = .ok (.getfield 35, 3) := by decide +kernel
theorem dX6_warmthIn_42 : decode cX6_warmthIn 42 = .ok (.getfield 49, 3) := by decide +kernel
theorem dX6_warmthIn_45 : decode cX6_warmthIn 45 = .ok (.iload 5, 2) := by decide +kernel
theorem dX6_warmthIn_47 : decode cX6_warmthIn 47 = .ok (.iaload, 1) := by decide +kernel
theorem dX6_warmthIn_48 : decode cX6_warmthIn 48 = .ok (.istore 5, 2) := by decide +kernel
theorem dX6_warmthIn_50 : decode cX6_warmthIn 50 = .ok (.aload_n 1, 1) := by decide +kernel
theorem dX6_warmthIn_51 : decode cX6_warmthIn 51 = .ok (.getfield 35, 3) := by decide +kernel
theorem dX6_warmthIn_54 : decode cX6_warmthIn 54 = .ok (.iload 5, 2) := by decide +kernel
theorem dX6_warmthIn_56 : decode cX6_warmthIn 56 = .ok (.invokevirtual 52, 3) := by decide +kernel
theorem dX6_warmthIn_59 : decode cX6_warmthIn 59 = .ok (.ifCond .ne 5, 3) := by decide +kernel
theorem dX6_warmthIn_62 : decode cX6_warmthIn 62 = .ok (.iconst 0, 1) := by decide +kernel
theorem dX6_warmthIn_63 : decode cX6_warmthIn 63 = .ok (.ireturn, 1) := by decide +kernel
theorem dX6_warmthIn_64 : decode cX6_warmthIn 64 = .ok (.iload 4, 2) := by decide +kernel
theorem dX6_warmthIn_66 : decode cX6_warmthIn 66 = .ok (.aload_n 1, 1) := by decide +kernel
theorem dX6_warmthIn_67 : decode cX6_warmthIn 67 = .ok (.getfield 35, 3) := by decide +kernel
theorem dX6_warmthIn_70 : decode cX6_warmthIn 70 = .ok (.getfield 41, 3) := by decide +kernel
theorem dX6_warmthIn_73 : decode cX6_warmthIn 73 = .ok (.iload 5, 2) := by decide +kernel
theorem dX6_warmthIn_75 : decode cX6_warmthIn 75 = .ok (.iaload, 1) := by decide +kernel
theorem dX6_warmthIn_76 : decode cX6_warmthIn 76 = .ok (.iadd, 1) := by decide +kernel
theorem dX6_warmthIn_77 : decode cX6_warmthIn 77 = .ok (.istore 4, 2) := by decide +kernel
theorem dX6_warmthIn_79 : decode cX6_warmthIn 79 = .ok (.iinc 6 1, 3) := by decide +kernel
theorem dX6_warmthIn_82 : decode cX6_warmthIn 82 = .ok (.goto (-65), 3) := by decide +kernel
theorem dX6_warmthIn_85 : decode cX6_warmthIn 85 = .ok (.aload_n 1, 1) := by decide +kernel
theorem dX6_warmthIn_86 : decode cX6_warmthIn 86 = .ok (.getfield 35, 3) := by decide +kernel
theorem dX6_warmthIn_89 : decode cX6_warmthIn 89 = .ok (.getfield 46, 3) := by decide +kernel
theorem dX6_warmthIn_92 : decode cX6_warmthIn 92 = .ok (.iload 5, 2) := by decide +kernel
theorem dX6_warmthIn_94 : decode cX6_warmthIn 94 = .ok (.iaload, 1) := by decide +kernel
theorem dX6_warmthIn_95 : decode cX6_warmthIn 95 = .ok (.iload_n 3, 1) := by decide +kernel
theorem dX6_warmthIn_96 : decode cX6_warmthIn 96 = .ok (.invokestatic 56, 3) := by decide +kernel
theorem dX6_warmthIn_99 : decode cX6_warmthIn 99 = .ok (.iconst 2, 1) := by decide +kernel
theorem dX6_warmthIn_100 : decode cX6_warmthIn 100 = .ok (.iload 4, 2) := by decide +kernel
theorem dX6_warmthIn_102 : decode cX6_warmthIn 102 = .ok (.imul, 1) := by decide +kernel
theorem dX6_warmthIn_103 : decode cX6_warmthIn 103 = .ok (.isub, 1) := by decide +kernel
theorem dX6_warmthIn_104 : decode cX6_warmthIn 104 = .ok (.ireturn, 1) := by decide +kernel
theorem dX6_withoutSalt_0 : decode cX6_withoutSalt 0 = .ok (.iload_n 0, 1) := by decide +kernel
theorem dX6_withoutSalt_1 : decode cX6_withoutSalt 1 = .ok (.tableswitch 52 1 5 #[35, 52, 42, 47, 35], 35) := by decide +kernel
theorem dX6_withoutSalt_36 : decode cX6_withoutSalt 36 = .ok (.iload_n 1, 1) := by decide +kernel
theorem dX6_withoutSalt_37 : decode cX6_withoutSalt 37 = .ok (.bipush 80, 2) := by decide +kernel
theorem dX6_withoutSalt_39 : decode cX6_withoutSalt 39 = .ok (.iadd, 1) := by decide +kernel
theorem dX6_withoutSalt_40 : decode cX6_withoutSalt 40 = .ok (.iconst 2, 1) := by decide +kernel
theorem dX6_withoutSalt_41 : decode cX6_withoutSalt 41 = .ok (.idiv, 1) := by decide +kernel
theorem dX6_withoutSalt_42 : decode cX6_withoutSalt 42 = .ok (.ireturn, 1) := by decide +kernel
theorem dX6_withoutSalt_43 : decode cX6_withoutSalt 43 = .ok (.iload_n 1, 1) := by decide +kernel
theorem dX6_withoutSalt_44 : decode cX6_withoutSalt 44 = .ok (.bipush 10, 2) := by decide +kernel
theorem dX6_withoutSalt_46 : decode cX6_withoutSalt 46 = .ok (.iadd, 1) := by decide +kernel
theorem dX6_withoutSalt_47 : decode cX6_withoutSalt 47 = .ok (.ireturn, 1) := by decide +kernel
theorem dX6_withoutSalt_48 : decode cX6_withoutSalt 48 = .ok (.iload_n 1, 1) := by decide +kernel
theorem dX6_withoutSalt_49 : decode cX6_withoutSalt 49 = .ok (.bipush 30, 2) := by decide +kernel
theorem dX6_withoutSalt_51 : decode cX6_withoutSalt 51 = .ok (.iadd, 1) := by decide +kernel
theorem dX6_withoutSalt_52 : decode cX6_withoutSalt 52 = .ok (.ireturn, 1) := by decide +kernel
theorem dX6_withoutSalt_53 : decode cX6_withoutSalt 53 = .ok (.iload_n 1, 1) := by decide +kernel
theorem dX6_withoutSalt_54 : decode cX6_withoutSalt 54 = .ok (.ireturn, 1) := by decide +kernel
theorem dX6_lossOf_0 : decode cX6_lossOf 0 = .ok (.aload_n 1, 1) := by decide +kernel
theorem dX6_lossOf_1 : decode cX6_lossOf 1 = .ok (.getfield 60, 3) := by decide +kernel
theorem dX6_lossOf_4 : decode cX6_lossOf 4 = .ok (.getfield 64, 3) := by decide +kernel
theorem dX6_lossOf_7 : decode cX6_lossOf 7 = .ok (.iload_n 2, 1) := by decide +kernel
theorem dX6_lossOf_8 : decode cX6_lossOf 8 = .ok (.iaload, 1) := by decide +kernel
theorem dX6_lossOf_9 : decode cX6_lossOf 9 = .ok (.istore 4, 2) := by decide +kernel
theorem dX6_lossOf_11 : decode cX6_lossOf 11 = .ok (.aload_n 1, 1) := by decide +kernel
theorem dX6_lossOf_12 : decode cX6_lossOf 12 = .ok (.getfield 60, 3) := by decide +kernel
theorem dX6_lossOf_15 : decode cX6_lossOf 15 = .ok (.getfield 69, 3) := by decide +kernel
theorem dX6_lossOf_18 : decode cX6_lossOf 18 = .ok (.iload_n 2, 1) := by decide +kernel
theorem dX6_lossOf_19 : decode cX6_lossOf 19 = .ok (.iaload, 1) := by decide +kernel
theorem dX6_lossOf_20 : decode cX6_lossOf 20 = .ok (.istore 5, 2) := by decide +kernel
theorem dX6_lossOf_22 : decode cX6_lossOf 22 = .ok (.aload_n 1, 1) := by decide +kernel
theorem dX6_lossOf_23 : decode cX6_lossOf 23 = .ok (.getfield 35, 3) := by decide +kernel
theorem dX6_lossOf_26 : decode cX6_lossOf 26 = .ok (.iload 4, 2) := by decide +kernel
theorem dX6_lossOf_28 : decode cX6_lossOf 28 = .ok (.iload 5, 2) := by decide +kernel
theorem dX6_lossOf_30 : decode cX6_lossOf 30 = .ok (.invokevirtual 72, 3) := by decide +kernel
theorem dX6_lossOf_33 : decode cX6_lossOf 33 = .ok (.ifCond .eq 10, 3) := by decide +kernel
theorem dX6_lossOf_36 : decode cX6_lossOf 36 = .ok (.aload_n 0, 1) := by decide +kernel
theorem dX6_lossOf_37 : decode cX6_lossOf 37 = .ok (.getfield 15, 3) := by decide +kernel
theorem dX6_lossOf_40 : decode cX6_lossOf 40 = .ok (.goto 4, 3) := by decide +kernel
theorem dX6_lossOf_43 : decode cX6_lossOf 43 = .ok (.iconst 0, 1) := by decide +kernel
theorem dX6_lossOf_44 : decode cX6_lossOf 44 = .ok (.istore 6, 2) := by decide +kernel
theorem dX6_lossOf_46 : decode cX6_lossOf 46 = .ok (.iload_n 3, 1) := by decide +kernel
theorem dX6_lossOf_47 : decode cX6_lossOf 47 = .ok (.ifCond .le 65, 3) := by decide +kernel
theorem dX6_lossOf_50 : decode cX6_lossOf 50 = .ok (.aload_n 1, 1) := by decide +kernel
theorem dX6_lossOf_51 : decode cX6_lossOf 51 = .ok (.getfield 60, 3) := by decide +kernel
theorem dX6_lossOf_54 : decode cX6_lossOf 54 = .ok (.getfield 76, 3) := by decide +kernel
theorem dX6_lossOf_57 : decode cX6_lossOf 57 = .ok (.iload_n 2, 1) := by decide +kernel
theorem dX6_lossOf_58 : decode cX6_lossOf 58 = .ok (.iaload, 1) := by decide +kernel
theorem dX6_lossOf_59 : decode cX6_lossOf 59 = .ok (.invokestatic 77, 3) := by decide +kernel
theorem dX6_lossOf_62 : decode cX6_lossOf 62 = .ok (.iload_n 3, 1) := by decide +kernel
theorem dX6_lossOf_63 : decode cX6_lossOf 63 = .ok (.imul, 1) := by decide +kernel
theorem dX6_lossOf_64 : decode cX6_lossOf 64 = .ok (.istore 7, 2) := by decide +kernel
theorem dX6_lossOf_66 : decode cX6_lossOf 66 = .ok (.aload_n 0, 1) := by decide +kernel
theorem dX6_lossOf_67 : decode cX6_lossOf 67 = .ok (.getfield 24, 3) := by decide +kernel
theorem dX6_lossOf_70 : decode cX6_lossOf 70 = .ok (.aload_n 1, 1) := by decide +kernel
theorem dX6_lossOf_71 : decode cX6_lossOf 71 = .ok (.iload 4, 2) := by decide +kernel
theorem dX6_lossOf_73 : decode cX6_lossOf 73 = .ok (.iload 5, 2) := by decide +kernel
theorem dX6_lossOf_75 : decode cX6_lossOf 75 = .ok (.invokevirtual 81, 3) := by decide +kernel
theorem dX6_lossOf_78 : decode cX6_lossOf 78 = .ok (.iload 6, 2) := by decide +kernel
theorem dX6_lossOf_80 : decode cX6_lossOf 80 = .ok (.aload_n 0, 1) := by decide +kernel
theorem dX6_lossOf_81 : decode cX6_lossOf 81 = .ok (.getfield 24, 3) := by decide +kernel
theorem dX6_lossOf_84 : decode cX6_lossOf 84 = .ok (.getfield 85, 3) := by decide +kernel
theorem dX6_lossOf_87 : decode cX6_lossOf 87 = .ok (.iload 7, 2) := by decide +kernel
theorem dX6_lossOf_89 : decode cX6_lossOf 89 = .ok (.imul, 1) := by decide +kernel
theorem dX6_lossOf_90 : decode cX6_lossOf 90 = .ok (.aload_n 0, 1) := by decide +kernel
theorem dX6_lossOf_91 : decode cX6_lossOf 91 = .ok (.getfield 24, 3) := by decide +kernel
theorem dX6_lossOf_94 : decode cX6_lossOf 94 = .ok (.getfield 88, 3) := by decide +kernel
theorem dX6_lossOf_97 : decode cX6_lossOf 97 = .ok (.iload 7, 2) := by decide +kernel
theorem dX6_lossOf_99 : decode cX6_lossOf 99 = .ok (.aload_n 0, 1) := by decide +kernel
theorem dX6_lossOf_100 : decode cX6_lossOf 100 = .ok (.getfield 9, 3) := by decide +kernel
theorem dX6_lossOf_103 : decode cX6_lossOf 103 = .ok (.imul, 1) := by decide +kernel
theorem dX6_lossOf_104 : decode cX6_lossOf 104 = .ok (.bipush 100, 2) := by decide +kernel
theorem dX6_lossOf_106 : decode cX6_lossOf 106 = .ok (.idiv, 1) := by decide +kernel
theorem dX6_lossOf_107 : decode cX6_lossOf 107 = .ok (.imul, 1) := by decide +kernel
theorem dX6_lossOf_108 : decode cX6_lossOf 108 = .ok (.iadd, 1) := by decide +kernel
theorem dX6_lossOf_109 : decode cX6_lossOf 109 = .ok (.iadd, 1) := by decide +kernel
theorem dX6_lossOf_110 : decode cX6_lossOf 110 = .ok (.istore 6, 2) := by decide +kernel
theorem dX6_lossOf_112 : decode cX6_lossOf 112 = .ok (.iload 6, 2) := by decide +kernel
theorem dX6_lossOf_114 : decode cX6_lossOf 114 = .ok (.aload_n 1, 1) := by decide +kernel
theorem dX6_lossOf_115 : decode cX6_lossOf 115 = .ok (.getfield 60, 3) := by decide +kernel
theorem dX6_lossOf_118 : decode cX6_lossOf 118 = .ok (.getfield 91, 3) := by decide +kernel
theorem dX6_lossOf_121 : decode cX6_lossOf 121 = .ok (.iload_n 2, 1) := by decide +kernel
theorem dX6_lossOf_122 : decode cX6_lossOf 122 = .ok (.iaload, 1) := by decide +kernel
theorem dX6_lossOf_123 : decode cX6_lossOf 123 = .ok (.invokestatic 94, 3) := by decide +kernel
theorem dX6_lossOf_126 : decode cX6_lossOf 126 = .ok (.ireturn, 1) := by decide +kernel
theorem dX6_leftOf_0 : decode cX6_leftOf 0 = .ok (.iload_n 1, 1) := by decide +kernel
theorem dX6_leftOf_1 : decode cX6_leftOf 1 = .ok (.aload_n 0, 1) := by decide +kernel
theorem dX6_leftOf_2 : decode cX6_leftOf 2 = .ok (.getfield 18, 3) := by decide +kernel
theorem dX6_leftOf_5 : decode cX6_leftOf 5 = .ok (.if_icmp .ge 7, 3) := by decide +kernel
theorem dX6_leftOf_8 : decode cX6_leftOf 8 = .ok (.iconst 0, 1) := by decide +kernel
theorem dX6_leftOf_9 : decode cX6_leftOf 9 = .ok (.goto 4, 3) := by decide +kernel
theorem dX6_leftOf_12 : decode cX6_leftOf 12 = .ok (.iload_n 1, 1) := by decide +kernel
theorem dX6_leftOf_13 : decode cX6_leftOf 13 = .ok (.ireturn, 1) := by decide +kernel
theorem dX6_lossWeighed_0 : decode cX6_lossWeighed 0 = .ok (.iload_n 1, 1) := by decide +kernel
theorem dX6_lossWeighed_1 : decode cX6_lossWeighed 1 = .ok (.iconst 0, 1) := by decide +kernel
theorem dX6_lossWeighed_2 : decode cX6_lossWeighed 2 = .ok (.sipush 299, 3) := by decide +kernel
theorem dX6_lossWeighed_5 : decode cX6_lossWeighed 5 = .ok (.invokestatic 99, 3) := by decide +kernel
theorem dX6_lossWeighed_8 : decode cX6_lossWeighed 8 = .ok (.ifCond .eq 12, 3) := by decide +kernel
theorem dX6_lossWeighed_11 : decode cX6_lossWeighed 11 = .ok (.aload_n 0, 1) := by decide +kernel
theorem dX6_lossWeighed_12 : decode cX6_lossWeighed 12 = .ok (.getfield 28, 3) := by decide +kernel
theorem dX6_lossWeighed_15 : decode cX6_lossWeighed 15 = .ok (.iload_n 1, 1) := by decide +kernel
theorem dX6_lossWeighed_16 : decode cX6_lossWeighed 16 = .ok (.iaload, 1) := by decide +kernel
theorem dX6_lossWeighed_17 : decode cX6_lossWeighed 17 = .ok (.goto 4, 3) := by decide +kernel
theorem dX6_lossWeighed_20 : decode cX6_lossWeighed 20 = .ok (.iconst 0, 1) := by decide +kernel
theorem dX6_lossWeighed_21 : decode cX6_lossWeighed 21 = .ok (.ireturn, 1) := by decide +kernel
theorem dX6_weigh_0 : decode cX6_weigh 0 = .ok (.iconst 0, 1) := by decide +kernel
theorem dX6_weigh_1 : decode cX6_weigh 1 = .ok (.istore_n 3, 1) := by decide +kernel
theorem dX6_weigh_2 : decode cX6_weigh 2 = .ok (.iload_n 3, 1) := by decide +kernel
theorem dX6_weigh_3 : decode cX6_weigh 3 = .ok (.aload_n 1, 1) := by decide +kernel
theorem dX6_weigh_4 : decode cX6_weigh 4 = .ok (.getfield 35, 3) := by decide +kernel
theorem dX6_weigh_7 : decode cX6_weigh 7 = .ok (.getfield 103, 3) := by decide +kernel
theorem dX6_weigh_10 : decode cX6_weigh 10 = .ok (.if_icmp .ge 22, 3) := by decide +kernel
theorem dX6_weigh_13 : decode cX6_weigh 13 = .ok (.aload_n 0, 1) := by decide +kernel
theorem dX6_weigh_14 : decode cX6_weigh 14 = .ok (.getfield 32, 3) := by decide +kernel
theorem dX6_weigh_17 : decode cX6_weigh 17 = .ok (.iload_n 3, 1) := by decide +kernel
theorem dX6_weigh_18 : decode cX6_weigh 18 = .ok (.aload_n 0, 1) := by decide +kernel
theorem dX6_weigh_19 : decode cX6_weigh 19 = .ok (.aload_n 1, 1) := by decide +kernel
theorem dX6_weigh_20 : decode cX6_weigh 20 = .ok (.iload_n 3, 1) := by decide +kernel
theorem dX6_weigh_21 : decode cX6_weigh 21 = .ok (.iload_n 2, 1) := by decide +kernel
theorem dX6_weigh_22 : decode cX6_weigh 22 = .ok (.invokevirtual 106, 3) := by decide +kernel
theorem dX6_weigh_25 : decode cX6_weigh 25 = .ok (.iastore, 1) := by decide +kernel
theorem dX6_weigh_26 : decode cX6_weigh 26 = .ok (.iinc 3 1, 3) := by decide +kernel
theorem dX6_weigh_29 : decode cX6_weigh 29 = .ok (.goto (-27), 3) := by decide +kernel
theorem dX6_weigh_32 : decode cX6_weigh 32 = .ok (.iconst 0, 1) := by decide +kernel
theorem dX6_weigh_33 : decode cX6_weigh 33 = .ok (.istore_n 3, 1) := by decide +kernel
theorem dX6_weigh_34 : decode cX6_weigh 34 = .ok (.iload_n 3, 1) := by decide +kernel
theorem dX6_weigh_35 : decode cX6_weigh 35 = .ok (.aload_n 1, 1) := by decide +kernel
theorem dX6_weigh_36 : decode cX6_weigh 36 = .ok (.getfield 60, 3) := by decide +kernel
theorem dX6_weigh_39 : decode cX6_weigh 39 = .ok (.getfield 110, 3) := by decide +kernel
theorem dX6_weigh_42 : decode cX6_weigh 42 = .ok (.if_icmp .ge 54, 3) := by decide +kernel
theorem dX6_weigh_45 : decode cX6_weigh 45 = .ok (.aload_n 1, 1) := by decide +kernel
theorem dX6_weigh_46 : decode cX6_weigh 46 = .ok (.getfield 60, 3) := by decide +kernel
theorem dX6_weigh_49 : decode cX6_weigh 49 = .ok (.iload_n 3, 1) := by decide +kernel
theorem dX6_weigh_50 : decode cX6_weigh 50 = .ok (.invokevirtual 111, 3) := by decide +kernel
theorem dX6_weigh_53 : decode cX6_weigh 53 = .ok (.istore 4, 2) := by decide +kernel
theorem dX6_weigh_55 : decode cX6_weigh 55 = .ok (.aload_n 0, 1) := by decide +kernel
theorem dX6_weigh_56 : decode cX6_weigh 56 = .ok (.getfield 28, 3) := by decide +kernel
theorem dX6_weigh_59 : decode cX6_weigh 59 = .ok (.iload_n 3, 1) := by decide +kernel
theorem dX6_weigh_60 : decode cX6_weigh 60 = .ok (.iload 4, 2) := by decide +kernel
theorem dX6_weigh_62 : decode cX6_weigh 62 = .ok (.ifCond .eq 26, 3) := by decide +kernel
theorem dX6_weigh_65 : decode cX6_weigh 65 = .ok (.aload_n 0, 1) := by decide +kernel
theorem dX6_weigh_66 : decode cX6_weigh 66 = .ok (.aload_n 1, 1) := by decide +kernel
theorem dX6_weigh_67 : decode cX6_weigh 67 = .ok (.iload_n 3, 1) := by decide +kernel
theorem dX6_weigh_68 : decode cX6_weigh 68 = .ok (.aload_n 0, 1) := by decide +kernel
theorem dX6_weigh_69 : decode cX6_weigh 69 = .ok (.getfield 32, 3) := by decide +kernel
theorem dX6_weigh_72 : decode cX6_weigh 72 = .ok (.aload_n 1, 1) := by decide +kernel
theorem dX6_weigh_73 : decode cX6_weigh 73 = .ok (.getfield 60, 3) := by decide +kernel
theorem dX6_weigh_76 : decode cX6_weigh 76 = .ok (.getfield 64, 3) := by decide +kernel
theorem dX6_weigh_79 : decode cX6_weigh 79 = .ok (.iload_n 3, 1) := by decide +kernel
theorem dX6_weigh_80 : decode cX6_weigh 80 = .ok (.iaload, 1) := by decide +kernel
theorem dX6_weigh_81 : decode cX6_weigh 81 = .ok (.iaload, 1) := by decide +kernel
theorem dX6_weigh_82 : decode cX6_weigh 82 = .ok (.invokevirtual 114, 3) := by decide +kernel
theorem dX6_weigh_85 : decode cX6_weigh 85 = .ok (.goto 4, 3) := by decide +kernel
theorem dX6_weigh_88 : decode cX6_weigh 88 = .ok (.iconst 0, 1) := by decide +kernel
theorem dX6_weigh_89 : decode cX6_weigh 89 = .ok (.iastore, 1) := by decide +kernel
theorem dX6_weigh_90 : decode cX6_weigh 90 = .ok (.iinc 3 1, 3) := by decide +kernel
theorem dX6_weigh_93 : decode cX6_weigh 93 = .ok (.goto (-59), 3) := by decide +kernel
theorem dX6_weigh_96 : decode cX6_weigh 96 = .ok (.return_, 1) := by decide +kernel
theorem dX6_passDay_0 : decode cX6_passDay 0 = .ok (.iconst 0, 1) := by decide +kernel
theorem dX6_passDay_1 : decode cX6_passDay 1 = .ok (.istore_n 2, 1) := by decide +kernel
theorem dX6_passDay_2 : decode cX6_passDay 2 = .ok (.iload_n 2, 1) := by decide +kernel
theorem dX6_passDay_3 : decode cX6_passDay 3 = .ok (.aload_n 1, 1) := by decide +kernel
theorem dX6_passDay_4 : decode cX6_passDay 4 = .ok (.getfield 60, 3) := by decide +kernel
theorem dX6_passDay_7 : decode cX6_passDay 7 = .ok (.getfield 110, 3) := by decide +kernel
theorem dX6_passDay_10 : decode cX6_passDay 10 = .ok (.if_icmp .ge 15, 3) := by decide +kernel
theorem dX6_passDay_13 : decode cX6_passDay 13 = .ok (.aload_n 0, 1) := by decide +kernel
theorem dX6_passDay_14 : decode cX6_passDay 14 = .ok (.aload_n 1, 1) := by decide +kernel
theorem dX6_passDay_15 : decode cX6_passDay 15 = .ok (.iload_n 2, 1) := by decide +kernel
theorem dX6_passDay_16 : decode cX6_passDay 16 = .ok (.invokevirtual 117, 3) := by decide +kernel
theorem dX6_passDay_19 : decode cX6_passDay 19 = .ok (.iinc 2 1, 3) := by decide +kernel
theorem dX6_passDay_22 : decode cX6_passDay 22 = .ok (.goto (-20), 3) := by decide +kernel
theorem dX6_passDay_25 : decode cX6_passDay 25 = .ok (.iconst 0, 1) := by decide +kernel
theorem dX6_passDay_26 : decode cX6_passDay 26 = .ok (.istore_n 2, 1) := by decide +kernel
theorem dX6_passDay_27 : decode cX6_passDay 27 = .ok (.iconst 0, 1) := by decide +kernel
theorem dX6_passDay_28 : decode cX6_passDay 28 = .ok (.istore_n 3, 1) := by decide +kernel
theorem dX6_passDay_29 : decode cX6_passDay 29 = .ok (.iload_n 3, 1) := by decide +kernel
theorem dX6_passDay_30 : decode cX6_passDay 30 = .ok (.aload_n 1, 1) := by decide +kernel
theorem dX6_passDay_31 : decode cX6_passDay 31 = .ok (.getfield 60, 3) := by decide +kernel
theorem dX6_passDay_34 : decode cX6_passDay 34 = .ok (.getfield 110, 3) := by decide +kernel
theorem dX6_passDay_37 : decode cX6_passDay 37 = .ok (.if_icmp .ge 35, 3) := by decide +kernel
theorem dX6_passDay_40 : decode cX6_passDay 40 = .ok (.aload_n 1, 1) := by decide +kernel
theorem dX6_passDay_41 : decode cX6_passDay 41 = .ok (.getfield 60, 3) := by decide +kernel
theorem dX6_passDay_44 : decode cX6_passDay 44 = .ok (.iload_n 3, 1) := by decide +kernel
theorem dX6_passDay_45 : decode cX6_passDay 45 = .ok (.invokevirtual 111, 3) := by decide +kernel
theorem dX6_passDay_48 : decode cX6_passDay 48 = .ok (.ifCond .eq 18, 3) := by decide +kernel
theorem dX6_passDay_51 : decode cX6_passDay 51 = .ok (.aload_n 0, 1) := by decide +kernel
theorem dX6_passDay_52 : decode cX6_passDay 52 = .ok (.aload_n 1, 1) := by decide +kernel
theorem dX6_passDay_53 : decode cX6_passDay 53 = .ok (.iload_n 3, 1) := by decide +kernel
theorem dX6_passDay_54 : decode cX6_passDay 54 = .ok (.invokevirtual 121, 3) := by decide +kernel
theorem dX6_passDay_57 : decode cX6_passDay 57 = .ok (.iload_n 2, 1) := by decide +kernel
theorem dX6_passDay_58 : decode cX6_passDay 58 = .ok (.aload_n 0, 1) := by decide +kernel
theorem dX6_passDay_59 : decode cX6_passDay 59 = .ok (.getfield 28, 3) := by decide +kernel
theorem dX6_passDay_62 : decode cX6_passDay 62 = .ok (.iload_n 3, 1) := by decide +kernel
theorem dX6_passDay_63 : decode cX6_passDay 63 = .ok (.iaload, 1) := by decide +kernel
theorem dX6_passDay_64 : decode cX6_passDay 64 = .ok (.iadd, 1) := by decide +kernel
theorem dX6_passDay_65 : decode cX6_passDay 65 = .ok (.istore_n 2, 1) := by decide +kernel
theorem dX6_passDay_66 : decode cX6_passDay 66 = .ok (.iinc 3 1, 3) := by decide +kernel
theorem dX6_passDay_69 : decode cX6_passDay 69 = .ok (.goto (-40), 3) := by decide +kernel
theorem dX6_passDay_72 : decode cX6_passDay 72 = .ok (.aload_n 1, 1) := by decide +kernel
theorem dX6_passDay_73 : decode cX6_passDay 73 = .ok (.dup, 1) := by decide +kernel
theorem dX6_passDay_74 : decode cX6_passDay 74 = .ok (.getfield 124, 3) := by decide +kernel
theorem dX6_passDay_77 : decode cX6_passDay 77 = .ok (.iload_n 2, 1) := by decide +kernel
theorem dX6_passDay_78 : decode cX6_passDay 78 = .ok (.iadd, 1) := by decide +kernel
theorem dX6_passDay_79 : decode cX6_passDay 79 = .ok (.putfield 124, 3) := by decide +kernel
theorem dX6_passDay_82 : decode cX6_passDay 82 = .ok (.aload_n 1, 1) := by decide +kernel
theorem dX6_passDay_83 : decode cX6_passDay 83 = .ok (.dup, 1) := by decide +kernel
theorem dX6_passDay_84 : decode cX6_passDay 84 = .ok (.getfield 127, 3) := by decide +kernel
theorem dX6_passDay_87 : decode cX6_passDay 87 = .ok (.iconst 1, 1) := by decide +kernel
theorem dX6_passDay_88 : decode cX6_passDay 88 = .ok (.iadd, 1) := by decide +kernel
theorem dX6_passDay_89 : decode cX6_passDay 89 = .ok (.putfield 127, 3) := by decide +kernel
theorem dX6_passDay_92 : decode cX6_passDay 92 = .ok (.iload_n 2, 1) := by decide +kernel
theorem dX6_passDay_93 : decode cX6_passDay 93 = .ok (.ireturn, 1) := by decide +kernel
theorem dX6_spoil_0 : decode cX6_spoil 0 = .ok (.aload_n 1, 1) := by decide +kernel
theorem dX6_spoil_1 : decode cX6_spoil 1 = .ok (.getfield 60, 3) := by decide +kernel
theorem dX6_spoil_4 : decode cX6_spoil 4 = .ok (.astore_n 3, 1) := by decide +kernel
theorem dX6_spoil_5 : decode cX6_spoil 5 = .ok (.aload_n 3, 1) := by decide +kernel
theorem dX6_spoil_6 : decode cX6_spoil 6 = .ok (.getfield 76, 3) := by decide +kernel
theorem dX6_spoil_9 : decode cX6_spoil 9 = .ok (.iload_n 2, 1) := by decide +kernel
theorem dX6_spoil_10 : decode cX6_spoil 10 = .ok (.iaload, 1) := by decide +kernel
theorem dX6_spoil_11 : decode cX6_spoil 11 = .ok (.iconst 1, 1) := by decide +kernel
theorem dX6_spoil_12 : decode cX6_spoil 12 = .ok (.if_icmp .ne 21, 3) := by decide +kernel
theorem dX6_spoil_15 : decode cX6_spoil 15 = .ok (.aload_n 3, 1) := by decide +kernel
theorem dX6_spoil_16 : decode cX6_spoil 16 = .ok (.iload_n 2, 1) := by decide +kernel
theorem dX6_spoil_17 : decode cX6_spoil 17 = .ok (.invokevirtual 111, 3) := by decide +kernel
theorem dX6_spoil_20 : decode cX6_spoil 20 = .ok (.ifCond .eq 13, 3) := by decide +kernel
theorem dX6_spoil_23 : decode cX6_spoil 23 = .ok (.aload_n 3, 1) := by decide +kernel
theorem dX6_spoil_24 : decode cX6_spoil 24 = .ok (.getfield 130, 3) := by decide +kernel
theorem dX6_spoil_27 : decode cX6_spoil 27 = .ok (.iload_n 2, 1) := by decide +kernel
theorem dX6_spoil_28 : decode cX6_spoil 28 = .ok (.iaload, 1) := by decide +kernel
theorem dX6_spoil_29 : decode cX6_spoil 29 = .ok (.iconst (-1), 1) := by decide +kernel
theorem dX6_spoil_30 : decode cX6_spoil 30 = .ok (.if_icmp .eq 4, 3) := by decide +kernel
theorem dX6_spoil_33 : decode cX6_spoil 33 = .ok (.return_, 1) := by decide +kernel
theorem dX6_spoil_34 : decode cX6_spoil 34 = .ok (.aload_n 0, 1) := by decide +kernel
theorem dX6_spoil_35 : decode cX6_spoil 35 = .ok (.getfield 24, 3) := by decide +kernel
theorem dX6_spoil_38 : decode cX6_spoil 38 = .ok (.aload_n 1, 1) := by decide +kernel
theorem dX6_spoil_39 : decode cX6_spoil 39 = .ok (.aload_n 3, 1) := by decide +kernel
theorem dX6_spoil_40 : decode cX6_spoil 40 = .ok (.getfield 64, 3) := by decide +kernel
theorem dX6_spoil_43 : decode cX6_spoil 43 = .ok (.iload_n 2, 1) := by decide +kernel
theorem dX6_spoil_44 : decode cX6_spoil 44 = .ok (.iaload, 1) := by decide +kernel
theorem dX6_spoil_45 : decode cX6_spoil 45 = .ok (.aload_n 3, 1) := by decide +kernel
theorem dX6_spoil_46 : decode cX6_spoil 46 = .ok (.getfield 69, 3) := by decide +kernel
theorem dX6_spoil_49 : decode cX6_spoil 49 = .ok (.iload_n 2, 1) := by decide +kernel
theorem dX6_spoil_50 : decode cX6_spoil 50 = .ok (.iaload, 1) := by decide +kernel
theorem dX6_spoil_51 : decode cX6_spoil 51 = .ok (.invokevirtual 81, 3) := by decide +kernel
theorem dX6_spoil_54 : decode cX6_spoil 54 = .ok (.aload_n 0, 1) := by decide +kernel
theorem dX6_spoil_55 : decode cX6_spoil 55 = .ok (.getfield 24, 3) := by decide +kernel
theorem dX6_spoil_58 : decode cX6_spoil 58 = .ok (.getfield 133, 3) := by decide +kernel
theorem dX6_spoil_61 : decode cX6_spoil 61 = .ok (.ifCond .ne 25, 3) := by decide +kernel
theorem dX6_spoil_64 : decode cX6_spoil 64 = .ok (.aload_n 1, 1) := by decide +kernel
theorem dX6_spoil_65 : decode cX6_spoil 65 = .ok (.getfield 35, 3) := by decide +kernel
theorem dX6_spoil_68 : decode cX6_spoil 68 = .ok (.aload_n 3, 1) := by decide +kernel
theorem dX6_spoil_69 : decode cX6_spoil 69 = .ok (.getfield 64, 3) := by decide +kernel
theorem dX6_spoil_72 : decode cX6_spoil 72 = .ok (.iload_n 2, 1) := by decide +kernel
theorem dX6_spoil_73 : decode cX6_spoil 73 = .ok (.iaload, 1) := by decide +kernel
theorem dX6_spoil_74 : decode cX6_spoil 74 = .ok (.aload_n 3, 1) := by decide +kernel
theorem dX6_spoil_75 : decode cX6_spoil 75 = .ok (.getfield 69, 3) := by decide +kernel
theorem dX6_spoil_78 : decode cX6_spoil 78 = .ok (.iload_n 2, 1) := by decide +kernel
theorem dX6_spoil_79 : decode cX6_spoil 79 = .ok (.iaload, 1) := by decide +kernel
theorem dX6_spoil_80 : decode cX6_spoil 80 = .ok (.invokevirtual 72, 3) := by decide +kernel
theorem dX6_spoil_83 : decode cX6_spoil 83 = .ok (.ifCond .eq 13, 3) := by decide +kernel
theorem dX6_spoil_86 : decode cX6_spoil 86 = .ok (.aload_n 3, 1) := by decide +kernel
theorem dX6_spoil_87 : decode cX6_spoil 87 = .ok (.getfield 130, 3) := by decide +kernel
theorem dX6_spoil_90 : decode cX6_spoil 90 = .ok (.iload_n 2, 1) := by decide +kernel
theorem dX6_spoil_91 : decode cX6_spoil 91 = .ok (.aload_n 1, 1) := by decide +kernel
theorem dX6_spoil_92 : decode cX6_spoil 92 = .ok (.getfield 127, 3) := by decide +kernel
theorem dX6_spoil_95 : decode cX6_spoil 95 = .ok (.iastore, 1) := by decide +kernel
theorem dX6_spoil_96 : decode cX6_spoil 96 = .ok (.return_, 1) := by decide +kernel
theorem dX6_lose_0 : decode cX6_lose 0 = .ok (.aload_n 1, 1) := by decide +kernel
theorem dX6_lose_1 : decode cX6_lose 1 = .ok (.getfield 60, 3) := by decide +kernel
theorem dX6_lose_4 : decode cX6_lose 4 = .ok (.astore_n 3, 1) := by decide +kernel
theorem dX6_lose_5 : decode cX6_lose 5 = .ok (.aload_n 3, 1) := by decide +kernel
theorem dX6_lose_6 : decode cX6_lose 6 = .ok (.getfield 64, 3) := by decide +kernel
theorem dX6_lose_9 : decode cX6_lose 9 = .ok (.iload_n 2, 1) := by decide +kernel
theorem dX6_lose_10 : decode cX6_lose 10 = .ok (.iaload, 1) := by decide +kernel
theorem dX6_lose_11 : decode cX6_lose 11 = .ok (.istore 4, 2) := by decide +kernel
theorem dX6_lose_13 : decode cX6_lose 13 = .ok (.aload_n 3, 1) := by decide +kernel
theorem dX6_lose_14 : decode cX6_lose 14 = .ok (.getfield 69, 3) := by decide +kernel
theorem dX6_lose_17 : decode cX6_lose 17 = .ok (.iload_n 2, 1) := by decide +kernel
theorem dX6_lose_18 : decode cX6_lose 18 = .ok (.iaload, 1) := by decide +kernel
theorem dX6_lose_19 : decode cX6_lose 19 = .ok (.istore 5, 2) := by decide +kernel
theorem dX6_lose_21 : decode cX6_lose 21 = .ok (.aload_n 1, 1) := by decide +kernel
theorem dX6_lose_22 : decode cX6_lose 22 = .ok (.getfield 35, 3) := by decide +kernel
theorem dX6_lose_25 : decode cX6_lose 25 = .ok (.iload 4, 2) := by decide +kernel
theorem dX6_lose_27 : decode cX6_lose 27 = .ok (.iload 5, 2) := by decide +kernel
theorem dX6_lose_29 : decode cX6_lose 29 = .ok (.invokevirtual 137, 3) := by decide +kernel
theorem dX6_lose_32 : decode cX6_lose 32 = .ok (.ifCond .eq 25, 3) := by decide +kernel
theorem dX6_lose_35 : decode cX6_lose 35 = .ok (.aload_n 1, 1) := by decide +kernel
theorem dX6_lose_36 : decode cX6_lose 36 = .ok (.getfield 35, 3) := by decide +kernel
theorem dX6_lose_39 : decode cX6_lose 39 = .ok (.getfield 140, 3) := by decide +kernel
theorem dX6_lose_42 : decode cX6_lose 42 = .ok (.iload 4, 2) := by decide +kernel
theorem dX6_lose_44 : decode cX6_lose 44 = .ok (.dup2, 1) := by decide +kernel
theorem dX6_lose_45 : decode cX6_lose 45 = .ok (.iaload, 1) := by decide +kernel
theorem dX6_lose_46 : decode cX6_lose 46 = .ok (.aload_n 0, 1) := by decide +kernel
theorem dX6_lose_47 : decode cX6_lose 47 = .ok (.getfield 28, 3) := by decide +kernel
theorem dX6_lose_50 : decode cX6_lose 50 = .ok (.iload_n 2, 1) := by decide +kernel
theorem dX6_lose_51 : decode cX6_lose 51 = .ok (.iaload, 1) := by decide +kernel
theorem dX6_lose_52 : decode cX6_lose 52 = .ok (.iadd, 1) := by decide +kernel
theorem dX6_lose_53 : decode cX6_lose 53 = .ok (.iastore, 1) := by decide +kernel
theorem dX6_lose_54 : decode cX6_lose 54 = .ok (.goto 22, 3) := by decide +kernel
theorem dX6_lose_57 : decode cX6_lose 57 = .ok (.aload_n 1, 1) := by decide +kernel
theorem dX6_lose_58 : decode cX6_lose 58 = .ok (.getfield 35, 3) := by decide +kernel
theorem dX6_lose_61 : decode cX6_lose 61 = .ok (.getfield 143, 3) := by decide +kernel
theorem dX6_lose_64 : decode cX6_lose 64 = .ok (.iload 4, 2) := by decide +kernel
theorem dX6_lose_66 : decode cX6_lose 66 = .ok (.dup2, 1) := by decide +kernel
theorem dX6_lose_67 : decode cX6_lose 67 = .ok (.iaload, 1) := by decide +kernel
theorem dX6_lose_68 : decode cX6_lose 68 = .ok (.aload_n 0, 1) := by decide +kernel
theorem dX6_lose_69 : decode cX6_lose 69 = .ok (.getfield 28, 3) := by decide +kernel
theorem dX6_lose_72 : decode cX6_lose 72 = .ok (.iload_n 2, 1) := by decide +kernel
theorem dX6_lose_73 : decode cX6_lose 73 = .ok (.iaload, 1) := by decide +kernel
theorem dX6_lose_74 : decode cX6_lose 74 = .ok (.iadd, 1) := by decide +kernel
theorem dX6_lose_75 : decode cX6_lose 75 = .ok (.iastore, 1) := by decide +kernel
theorem dX6_lose_76 : decode cX6_lose 76 = .ok (.aload_n 3, 1) := by decide +kernel
theorem dX6_lose_77 : decode cX6_lose 77 = .ok (.getfield 91, 3) := by decide +kernel
theorem dX6_lose_80 : decode cX6_lose 80 = .ok (.iload_n 2, 1) := by decide +kernel
theorem dX6_lose_81 : decode cX6_lose 81 = .ok (.iaload, 1) := by decide +kernel
theorem dX6_lose_82 : decode cX6_lose 82 = .ok (.aload_n 0, 1) := by decide +kernel
theorem dX6_lose_83 : decode cX6_lose 83 = .ok (.getfield 28, 3) := by decide +kernel
theorem dX6_lose_86 : decode cX6_lose 86 = .ok (.iload_n 2, 1) := by decide +kernel
theorem dX6_lose_87 : decode cX6_lose 87 = .ok (.iaload, 1) := by decide +kernel
theorem dX6_lose_88 : decode cX6_lose 88 = .ok (.isub, 1) := by decide +kernel
theorem dX6_lose_89 : decode cX6_lose 89 = .ok (.istore 6, 2) := by decide +kernel
theorem dX6_lose_91 : decode cX6_lose 91 = .ok (.aload_n 3, 1) := by decide +kernel
theorem dX6_lose_92 : decode cX6_lose 92 = .ok (.getfield 91, 3) := by decide +kernel
theorem dX6_lose_95 : decode cX6_lose 95 = .ok (.iload_n 2, 1) := by decide +kernel
theorem dX6_lose_96 : decode cX6_lose 96 = .ok (.aload_n 0, 1) := by decide +kernel
theorem dX6_lose_97 : decode cX6_lose 97 = .ok (.iload 6, 2) := by decide +kernel
theorem dX6_lose_99 : decode cX6_lose 99 = .ok (.invokevirtual 146, 3) := by decide +kernel
theorem dX6_lose_102 : decode cX6_lose 102 = .ok (.iastore, 1) := by decide +kernel
theorem dX6_lose_103 : decode cX6_lose 103 = .ok (.iload 6, 2) := by decide +kernel
theorem dX6_lose_105 : decode cX6_lose 105 = .ok (.aload_n 0, 1) := by decide +kernel
theorem dX6_lose_106 : decode cX6_lose 106 = .ok (.getfield 18, 3) := by decide +kernel
theorem dX6_lose_109 : decode cX6_lose 109 = .ok (.if_icmp .ge 24, 3) := by decide +kernel
theorem dX6_lose_112 : decode cX6_lose 112 = .ok (.aload_n 1, 1) := by decide +kernel
theorem dX6_lose_113 : decode cX6_lose 113 = .ok (.dup, 1) := by decide +kernel
theorem dX6_lose_114 : decode cX6_lose 114 = .ok (.getfield 149, 3) := by decide +kernel
theorem dX6_lose_117 : decode cX6_lose 117 = .ok (.iload 6, 2) := by decide +kernel
theorem dX6_lose_119 : decode cX6_lose 119 = .ok (.iadd, 1) := by decide +kernel
theorem dX6_lose_120 : decode cX6_lose 120 = .ok (.putfield 149, 3) := by decide +kernel
theorem dX6_lose_123 : decode cX6_lose 123 = .ok (.aload_n 1, 1) := by decide +kernel
theorem dX6_lose_124 : decode cX6_lose 124 = .ok (.iload_n 2, 1) := by decide +kernel
theorem dX6_lose_125 : decode cX6_lose 125 = .ok (.invokevirtual 152, 3) := by decide +kernel
theorem dX6_lose_128 : decode cX6_lose 128 = .ok (.aload_n 3, 1) := by decide +kernel
theorem dX6_lose_129 : decode cX6_lose 129 = .ok (.iload_n 2, 1) := by decide +kernel
theorem dX6_lose_130 : decode cX6_lose 130 = .ok (.invokevirtual 156, 3) := by decide +kernel
theorem dX6_lose_133 : decode cX6_lose 133 = .ok (.return_, 1) := by decide +kernel
theorem dX6_nearest_0 : decode cX6_nearest 0 = .ok (.aload_n 0, 1) := by decide +kernel
theorem dX6_nearest_1 : decode cX6_nearest 1 = .ok (.aload_n 1, 1) := by decide +kernel
theorem dX6_nearest_2 : decode cX6_nearest 2 = .ok (.iload_n 2, 1) := by decide +kernel
theorem dX6_nearest_3 : decode cX6_nearest 3 = .ok (.iload_n 3, 1) := by decide +kernel
theorem dX6_nearest_4 : decode cX6_nearest 4 = .ok (.invokevirtual 106, 3) := by decide +kernel
theorem dX6_nearest_7 : decode cX6_nearest 7 = .ok (.istore 4, 2) := by decide +kernel
theorem dX6_nearest_9 : decode cX6_nearest 9 = .ok (.iconst (-1), 1) := by decide +kernel
theorem dX6_nearest_10 : decode cX6_nearest 10 = .ok (.istore 5, 2) := by decide +kernel
theorem dX6_nearest_12 : decode cX6_nearest 12 = .ok (.iconst 0, 1) := by decide +kernel
theorem dX6_nearest_13 : decode cX6_nearest 13 = .ok (.istore 6, 2) := by decide +kernel
theorem dX6_nearest_15 : decode cX6_nearest 15 = .ok (.iconst 0, 1) := by decide +kernel
theorem dX6_nearest_16 : decode cX6_nearest 16 = .ok (.istore 7, 2) := by decide +kernel
theorem dX6_nearest_18 : decode cX6_nearest 18 = .ok (.aload_n 1, 1) := by decide +kernel
theorem dX6_nearest_19 : decode cX6_nearest 19 = .ok (.getfield 35, 3) := by decide +kernel
theorem dX6_nearest_22 : decode cX6_nearest 22 = .ok (.getfield 159, 3) := by decide +kernel
theorem dX6_nearest_25 : decode cX6_nearest 25 = .ok (.iload_n 2, 1) := by decide +kernel
theorem dX6_nearest_26 : decode cX6_nearest 26 = .ok (.iaload, 1) := by decide +kernel
theorem dX6_nearest_27 : decode cX6_nearest 27 = .ok (.istore 8, 2) := by decide +kernel
theorem dX6_nearest_29 : decode cX6_nearest 29 = .ok (.iconst 0, 1) := by decide +kernel
theorem dX6_nearest_30 : decode cX6_nearest 30 = .ok (.istore 9, 2) := by decide +kernel
theorem dX6_nearest_32 : decode cX6_nearest 32 = .ok (.iload 9, 2) := by decide +kernel
theorem dX6_nearest_34 : decode cX6_nearest 34 = .ok (.aload_n 1, 1) := by decide +kernel
theorem dX6_nearest_35 : decode cX6_nearest 35 = .ok (.getfield 35, 3) := by decide +kernel
theorem dX6_nearest_38 : decode cX6_nearest 38 = .ok (.getfield 162, 3) := by decide +kernel
theorem dX6_nearest_41 : decode cX6_nearest 41 = .ok (.iload_n 2, 1) := by decide +kernel
theorem dX6_nearest_42 : decode cX6_nearest 42 = .ok (.iaload, 1) := by decide +kernel
theorem dX6_nearest_43 : decode cX6_nearest 43 = .ok (.if_icmp .ge 112, 3) := by decide +kernel
theorem dX6_nearest_46 : decode cX6_nearest 46 = .ok (.iload 9, 2) := by decide +kernel
theorem dX6_nearest_48 : decode cX6_nearest 48 = .ok (.iload 8, 2) := by decide +kernel
theorem dX6_nearest_50 : decode cX6_nearest 50 = .ok (.imul, 1) := by decide +kernel
theorem dX6_nearest_51 : decode cX6_nearest 51 = .ok (.istore 10, 2) := by decide +kernel
theorem dX6_nearest_53 : decode cX6_nearest 53 = .ok (.iload 10, 2) := by decide +kernel
theorem dX6_nearest_55 : decode cX6_nearest 55 = .ok (.iload 9, 2) := by decide +kernel
theorem dX6_nearest_57 : decode cX6_nearest 57 = .ok (.iconst 1, 1) := by decide +kernel
theorem dX6_nearest_58 : decode cX6_nearest 58 = .ok (.iadd, 1) := by decide +kernel
theorem dX6_nearest_59 : decode cX6_nearest 59 = .ok (.iload 8, 2) := by decide +kernel
theorem dX6_nearest_61 : decode cX6_nearest 61 = .ok (.imul, 1) := by decide +kernel
theorem dX6_nearest_62 : decode cX6_nearest 62 = .ok (.if_icmp .ge 87, 3) := by decide +kernel
theorem dX6_nearest_65 : decode cX6_nearest 65 = .ok (.aload_n 1, 1) := by decide +kernel
theorem dX6_nearest_66 : decode cX6_nearest 66 = .ok (.getfield 35, 3) := by decide +kernel
theorem dX6_nearest_69 : decode cX6_nearest 69 = .ok (.iload_n 2, 1) := by decide +kernel
theorem dX6_nearest_70 : decode cX6_nearest 70 = .ok (.iload 10, 2) := by decide +kernel
theorem dX6_nearest_72 : decode cX6_nearest 72 = .ok (.invokevirtual 165, 3) := by decide +kernel
theorem dX6_nearest_75 : decode cX6_nearest 75 = .ok (.ifCond .eq 68, 3) := by decide +kernel
theorem dX6_nearest_78 : decode cX6_nearest 78 = .ok (.aload_n 1, 1) := by decide +kernel
theorem dX6_nearest_79 : decode cX6_nearest 79 = .ok (.getfield 35, 3) := by decide +kernel
theorem dX6_nearest_82 : decode cX6_nearest 82 = .ok (.iload_n 2, 1) := by decide +kernel
theorem dX6_nearest_83 : decode cX6_nearest 83 = .ok (.iload 10, 2) := by decide +kernel
theorem dX6_nearest_85 : decode cX6_nearest 85 = .ok (.invokevirtual 168, 3) := by decide +kernel
theorem dX6_nearest_88 : decode cX6_nearest 88 = .ok (.bipush 10, 2) := by decide +kernel
theorem dX6_nearest_90 : decode cX6_nearest 90 = .ok (.isub, 1) := by decide +kernel
theorem dX6_nearest_91 : decode cX6_nearest 91 = .ok (.istore 11, 2) := by decide +kernel
theorem dX6_nearest_93 : decode cX6_nearest 93 = .ok (.aload_n 0, 1) := by decide +kernel
theorem dX6_nearest_94 : decode cX6_nearest 94 = .ok (.aload_n 1, 1) := by decide +kernel
theorem dX6_nearest_95 : decode cX6_nearest 95 = .ok (.iload 11, 2) := by decide +kernel
theorem dX6_nearest_97 : decode cX6_nearest 97 = .ok (.iload 4, 2) := by decide +kernel
theorem dX6_nearest_99 : decode cX6_nearest 99 = .ok (.invokevirtual 114, 3) := by decide +kernel
theorem dX6_nearest_102 : decode cX6_nearest 102 = .ok (.istore 12, 2) := by decide +kernel
theorem dX6_nearest_104 : decode cX6_nearest 104 = .ok (.iload 5, 2) := by decide +kernel
theorem dX6_nearest_106 : decode cX6_nearest 106 = .ok (.iconst (-1), 1) := by decide +kernel
theorem dX6_nearest_107 : decode cX6_nearest 107 = .ok (.if_icmp .eq 24, 3) := by decide +kernel
theorem dX6_nearest_110 : decode cX6_nearest 110 = .ok (.iload 12, 2) := by decide +kernel
theorem dX6_nearest_112 : decode cX6_nearest 112 = .ok (.iload 6, 2) := by decide +kernel
theorem dX6_nearest_114 : decode cX6_nearest 114 = .ok (.if_icmp .gt 17, 3) := by decide +kernel
theorem dX6_nearest_117 : decode cX6_nearest 117 = .ok (.iload 12, 2) := by decide +kernel
theorem dX6_nearest_119 : decode cX6_nearest 119 = .ok (.iload 6, 2) := by decide +kernel
theorem dX6_nearest_121 : decode cX6_nearest 121 = .ok (.if_icmp .ne 22, 3) := by decide +kernel
theorem dX6_nearest_124 : decode cX6_nearest 124 = .ok (.iload 9, 2) := by decide +kernel
theorem dX6_nearest_126 : decode cX6_nearest 126 = .ok (.iload 7, 2) := by decide +kernel
theorem dX6_nearest_128 : decode cX6_nearest 128 = .ok (.if_icmp .le 15, 3) := by decide +kernel
theorem dX6_nearest_131 : decode cX6_nearest 131 = .ok (.iload 11, 2) := by decide +kernel
theorem dX6_nearest_133 : decode cX6_nearest 133 = .ok (.istore 5, 2) := by decide +kernel
theorem dX6_nearest_135 : decode cX6_nearest 135 = .ok (.iload 12, 2) := by decide +kernel
theorem dX6_nearest_137 : decode cX6_nearest 137 = .ok (.istore 6, 2) := by decide +kernel
theorem dX6_nearest_139 : decode cX6_nearest 139 = .ok (.iload 9, 2) := by decide +kernel
theorem dX6_nearest_141 : decode cX6_nearest 141 = .ok (.istore 7, 2) := by decide +kernel
theorem dX6_nearest_143 : decode cX6_nearest 143 = .ok (.iinc 10 1, 3) := by decide +kernel
theorem dX6_nearest_146 : decode cX6_nearest 146 = .ok (.goto (-93), 3) := by decide +kernel
theorem dX6_nearest_149 : decode cX6_nearest 149 = .ok (.iinc 9 1, 3) := by decide +kernel
theorem dX6_nearest_152 : decode cX6_nearest 152 = .ok (.goto (-120), 3) := by decide +kernel
theorem dX6_nearest_155 : decode cX6_nearest 155 = .ok (.iload 5, 2) := by decide +kernel
theorem dX6_nearest_157 : decode cX6_nearest 157 = .ok (.ireturn, 1) := by decide +kernel
theorem dX6_airSidesIn_0 : decode cX6_airSidesIn 0 = .ok (.iconst 0, 1) := by decide +kernel
theorem dX6_airSidesIn_1 : decode cX6_airSidesIn 1 = .ok (.istore_n 3, 1) := by decide +kernel
theorem dX6_airSidesIn_2 : decode cX6_airSidesIn 2 = .ok (.aload_n 1, 1) := by decide +kernel
theorem dX6_airSidesIn_3 : decode cX6_airSidesIn 3 = .ok (.getfield 35, 3) := by decide +kernel
theorem dX6_airSidesIn_6 : decode cX6_airSidesIn 6 = .ok (.getfield 171, 3) := by decide +kernel
theorem dX6_airSidesIn_9 : decode cX6_airSidesIn 9 = .ok (.iload_n 2, 1) := by decide +kernel
theorem dX6_airSidesIn_10 : decode cX6_airSidesIn 10 = .ok (.iaload, 1) := by decide +kernel
theorem dX6_airSidesIn_11 : decode cX6_airSidesIn 11 = .ok (.istore 4, 2) := by decide +kernel
theorem dX6_airSidesIn_13 : decode cX6_airSidesIn 13 = .ok (.iconst 0, 1) := by decide +kernel
theorem dX6_airSidesIn_14 : decode cX6_airSidesIn 14 = .ok (.istore 5, 2) := by decide +kernel
theorem dX6_airSidesIn_16 : decode cX6_airSidesIn 16 = .ok (.iload 5, 2) := by decide +kernel
theorem dX6_airSidesIn_18 : decode cX6_airSidesIn 18 = .ok (.iload 4, 2) := by decide +kernel
theorem dX6_airSidesIn_20 : decode cX6_airSidesIn 20 = .ok (.if_icmp .ge 45, 3) := by decide +kernel
theorem dX6_airSidesIn_23 : decode cX6_airSidesIn 23 = .ok (.aload_n 1, 1) := by decide +kernel
theorem dX6_airSidesIn_24 : decode cX6_airSidesIn 24 = .ok (.getfield 35, 3) := by decide +kernel
theorem dX6_airSidesIn_27 : decode cX6_airSidesIn 27 = .ok (.iload_n 2, 1) := by decide +kernel
theorem dX6_airSidesIn_28 : decode cX6_airSidesIn 28 = .ok (.iload 5, 2) := by decide +kernel
theorem dX6_airSidesIn_30 : decode cX6_airSidesIn 30 = .ok (.invokevirtual 168, 3) := by decide +kernel
theorem dX6_airSidesIn_33 : decode cX6_airSidesIn 33 = .ok (.bipush 10, 2) := by decide +kernel
theorem dX6_airSidesIn_35 : decode cX6_airSidesIn 35 = .ok (.if_icmp .lt 24, 3) := by decide +kernel
theorem dX6_airSidesIn_38 : decode cX6_airSidesIn 38 = .ok (.aload_n 0, 1) := by decide +kernel
theorem dX6_airSidesIn_39 : decode cX6_airSidesIn 39 = .ok (.getfield 24, 3) := by decide +kernel
theorem dX6_airSidesIn_42 : decode cX6_airSidesIn 42 = .ok (.aload_n 1, 1) := by decide +kernel
theorem dX6_airSidesIn_43 : decode cX6_airSidesIn 43 = .ok (.iload_n 2, 1) := by decide +kernel
theorem dX6_airSidesIn_44 : decode cX6_airSidesIn 44 = .ok (.iload 5, 2) := by decide +kernel
theorem dX6_airSidesIn_46 : decode cX6_airSidesIn 46 = .ok (.invokevirtual 81, 3) := by decide +kernel
theorem dX6_airSidesIn_49 : decode cX6_airSidesIn 49 = .ok (.iload_n 3, 1) := by decide +kernel
theorem dX6_airSidesIn_50 : decode cX6_airSidesIn 50 = .ok (.aload_n 0, 1) := by decide +kernel
theorem dX6_airSidesIn_51 : decode cX6_airSidesIn 51 = .ok (.getfield 24, 3) := by decide +kernel
theorem dX6_airSidesIn_54 : decode cX6_airSidesIn 54 = .ok (.getfield 85, 3) := by decide +kernel
theorem dX6_airSidesIn_57 : decode cX6_airSidesIn 57 = .ok (.iadd, 1) := by decide +kernel
theorem dX6_airSidesIn_58 : decode cX6_airSidesIn 58 = .ok (.istore_n 3, 1) := by decide +kernel
theorem dX6_airSidesIn_59 : decode cX6_airSidesIn 59 = .ok (.iinc 5 1, 3) := by decide +kernel
theorem dX6_airSidesIn_62 : decode cX6_airSidesIn 62 = .ok (.goto (-46), 3) := by decide +kernel
theorem dX6_airSidesIn_65 : decode cX6_airSidesIn 65 = .ok (.iload_n 3, 1) := by decide +kernel
theorem dX6_airSidesIn_66 : decode cX6_airSidesIn 66 = .ok (.ireturn, 1) := by decide +kernel
theorem dX7_init_0 : decode cX7_init 0 = .ok (.aload_n 0, 1) := by decide +kernel
theorem dX7_init_1 : decode cX7_init 1 = .ok (.invokespecial 3, 3) := by decide +kernel
theorem dX7_init_4 : decode cX7_init 4 = .ok (.aload_n 0, 1) := by decide +kernel
theorem dX7_init_5 : decode cX7_init 5 = .ok (.sipush 180, 3) := by decide +kernel
theorem dX7_init_8 : decode cX7_init 8 = .ok (.newarray .boolean, 2) := by decide +kernel
theorem dX7_init_10 : decode cX7_init 10 = .ok (.putfield 9, 3) := by decide +kernel
theorem dX7_init_13 : decode cX7_init 13 = .ok (.aload_n 0, 1) := by decide +kernel
theorem dX7_init_14 : decode cX7_init 14 = .ok (.sipush 180, 3) := by decide +kernel
theorem dX7_init_17 : decode cX7_init 17 = .ok (.newarray .boolean, 2) := by decide +kernel
theorem dX7_init_19 : decode cX7_init 19 = .ok (.putfield 15, 3) := by decide +kernel
theorem dX7_init_22 : decode cX7_init 22 = .ok (.return_, 1) := by decide +kernel
theorem dX7_isChosen_0 : decode cX7_isChosen 0 = .ok (.iload_n 1, 1) := by decide +kernel
theorem dX7_isChosen_1 : decode cX7_isChosen 1 = .ok (.iconst 0, 1) := by decide +kernel
theorem dX7_isChosen_2 : decode cX7_isChosen 2 = .ok (.sipush 179, 3) := by decide +kernel
theorem dX7_isChosen_5 : decode cX7_isChosen 5 = .ok (.invokestatic 18, 3) := by decide +kernel
theorem dX7_isChosen_8 : decode cX7_isChosen 8 = .ok (.ifCond .eq 16, 3) := by decide +kernel
theorem dX7_isChosen_11 : decode cX7_isChosen 11 = .ok (.aload_n 0, 1) := by decide +kernel
theorem dX7_isChosen_12 : decode cX7_isChosen 12 = .ok (.getfield 15, 3) := by decide +kernel
theorem dX7_isChosen_15 : decode cX7_isChosen 15 = .ok (.iload_n 1, 1) := by decide +kernel
theorem dX7_isChosen_16 : decode cX7_isChosen 16 = .ok (.baload, 1) := by decide +kernel
theorem dX7_isChosen_17 : decode cX7_isChosen 17 = .ok (.ifCond .eq 7, 3) := by decide +kernel
theorem dX7_isChosen_20 : decode cX7_isChosen 20 = .ok (.iconst 1, 1) := by decide +kernel
theorem dX7_isChosen_21 : decode cX7_isChosen 21 = .ok (.goto 4, 3) := by decide +kernel
theorem dX7_isChosen_24 : decode cX7_isChosen 24 = .ok (.iconst 0, 1) := by decide +kernel
theorem dX7_isChosen_25 : decode cX7_isChosen 25 = .ok (.ireturn, 1) := by decide +kernel
theorem dX7_choose_0 : decode cX7_choose 0 = .ok (.aload_n 0, 1) := by decide +kernel
theorem dX7_choose_1 : decode cX7_choose 1 = .ok (.aload_n 1, 1) := by decide +kernel
theorem dX7_choose_2 : decode cX7_choose 2 = .ok (.getfield 22, 3) := by decide +kernel
theorem dX7_choose_5 : decode cX7_choose 5 = .ok (.iload_n 2, 1) := by decide +kernel
theorem dX7_choose_6 : decode cX7_choose 6 = .ok (.iaload, 1) := by decide +kernel
theorem dX7_choose_7 : decode cX7_choose 7 = .ok (.putfield 28, 3) := by decide +kernel
theorem dX7_choose_10 : decode cX7_choose 10 = .ok (.aload_n 0, 1) := by decide +kernel
theorem dX7_choose_11 : decode cX7_choose 11 = .ok (.aload_n 1, 1) := by decide +kernel
theorem dX7_choose_12 : decode cX7_choose 12 = .ok (.getfield 31, 3) := by decide +kernel
theorem dX7_choose_15 : decode cX7_choose 15 = .ok (.iload_n 2, 1) := by decide +kernel
theorem dX7_choose_16 : decode cX7_choose 16 = .ok (.iaload, 1) := by decide +kernel
theorem dX7_choose_17 : decode cX7_choose 17 = .ok (.putfield 34, 3) := by decide +kernel
theorem dX7_choose_20 : decode cX7_choose 20 = .ok (.aload_n 0, 1) := by decide +kernel
theorem dX7_choose_21 : decode cX7_choose 21 = .ok (.aload_n 1, 1) := by decide +kernel
theorem dX7_choose_22 : decode cX7_choose 22 = .ok (.getfield 36, 3) := by decide +kernel
theorem dX7_choose_25 : decode cX7_choose 25 = .ok (.iload_n 2, 1) := by decide +kernel
theorem dX7_choose_26 : decode cX7_choose 26 = .ok (.iaload, 1) := by decide +kernel
theorem dX7_choose_27 : decode cX7_choose 27 = .ok (.putfield 39, 3) := by decide +kernel
theorem dX7_choose_30 : decode cX7_choose 30 = .ok (.aload_n 0, 1) := by decide +kernel
theorem dX7_choose_31 : decode cX7_choose 31 = .ok (.aload_n 1, 1) := by decide +kernel
theorem dX7_choose_32 : decode cX7_choose 32 = .ok (.getfield 41, 3) := by decide +kernel
theorem dX7_choose_35 : decode cX7_choose 35 = .ok (.iload_n 2, 1) := by decide +kernel
theorem dX7_choose_36 : decode cX7_choose 36 = .ok (.iaload, 1) := by decide +kernel
theorem dX7_choose_37 : decode cX7_choose 37 = .ok (.sipush 180, 3) := by decide +kernel
theorem dX7_choose_40 : decode cX7_choose 40 = .ok (.invokestatic 44, 3) := by decide +kernel
theorem dX7_choose_43 : decode cX7_choose 43 = .ok (.putfield 50, 3) := by decide +kernel
theorem dX7_choose_46 : decode cX7_choose 46 = .ok (.iconst 0, 1) := by decide +kernel
theorem dX7_choose_47 : decode cX7_choose 47 = .ok (.istore 4, 2) := by decide +kernel
theorem dX7_choose_49 : decode cX7_choose 49 = .ok (.iload 4, 2) := by decide +kernel
theorem dX7_choose_51 : decode cX7_choose 51 = .ok (.aload_n 0, 1) := by decide +kernel
theorem dX7_choose_52 : decode cX7_choose 52 = .ok (.getfield 50, 3) := by decide +kernel
theorem dX7_choose_55 : decode cX7_choose 55 = .ok (.if_icmp .ge 17, 3) := by decide +kernel
theorem dX7_choose_58 : decode cX7_choose 58 = .ok (.aload_n 0, 1) := by decide +kernel
theorem dX7_choose_59 : decode cX7_choose 59 = .ok (.getfield 9, 3) := by decide +kernel
theorem dX7_choose_62 : decode cX7_choose 62 = .ok (.iload 4, 2) := by decide +kernel
theorem dX7_choose_64 : decode cX7_choose 64 = .ok (.iconst 0, 1) := by decide +kernel
theorem dX7_choose_65 : decode cX7_choose 65 = .ok (.bastore, 1) := by decide +kernel
theorem dX7_choose_66 : decode cX7_choose 66 = .ok (.iinc 4 1, 3) := by decide +kernel
theorem dX7_choose_69 : decode cX7_choose 69 = .ok (.goto (-20), 3) := by decide +kernel
theorem dX7_choose_72 : decode cX7_choose 72 = .ok (.iload_n 3, 1) := by decide +kernel
theorem dX7_choose_73 : decode cX7_choose 73 = .ok (.bipush 8, 2) := by decide +kernel
theorem dX7_choose_75 : decode cX7_choose 75 = .ok (.if_icmp .gt 42, 3) := by decide +kernel
theorem dX7_choose_78 : decode cX7_choose 78 = .ok (.aload_n 0, 1) := by decide +kernel
theorem dX7_choose_79 : decode cX7_choose 79 = .ok (.getfield 28, 3) := by decide +kernel
theorem dX7_choose_82 : decode cX7_choose 82 = .ok (.iconst 3, 1) := by decide +kernel
theorem dX7_choose_83 : decode cX7_choose 83 = .ok (.if_icmp .gt 34, 3) := by decide +kernel
theorem dX7_choose_86 : decode cX7_choose 86 = .ok (.aload_n 0, 1) := by decide +kernel
theorem dX7_choose_87 : decode cX7_choose 87 = .ok (.getfield 34, 3) := by decide +kernel
theorem dX7_choose_90 : decode cX7_choose 90 = .ok (.iconst 3, 1) := by decide +kernel
theorem dX7_choose_91 : decode cX7_choose 91 = .ok (.if_icmp .gt 26, 3) := by decide +kernel
theorem dX7_choose_94 : decode cX7_choose 94 = .ok (.aload_n 0, 1) := by decide +kernel
theorem dX7_choose_95 : decode cX7_choose 95 = .ok (.getfield 39, 3) := by decide +kernel
theorem dX7_choose_98 : decode cX7_choose 98 = .ok (.iconst 2, 1) := by decide +kernel
theorem dX7_choose_99 : decode cX7_choose 99 = .ok (.if_icmp .gt 18, 3) := by decide +kernel
theorem dX7_choose_102 : decode cX7_choose 102 = .ok (.aload_n 0, 1) := by decide +kernel
theorem dX7_choose_103 : decode cX7_choose 103 = .ok (.iconst (-1), 1) := by decide +kernel
theorem dX7_choose_104 : decode cX7_choose 104 = .ok (.putfield 52, 3) := by decide +kernel
theorem dX7_choose_107 : decode cX7_choose 107 = .ok (.aload_n 0, 1) := by decide +kernel
theorem dX7_choose_108 : decode cX7_choose 108 = .ok (.iconst 0, 1) := by decide +kernel
theorem dX7_choose_109 : decode cX7_choose 109 = .ok (.iload_n 3, 1) := by decide +kernel
theorem dX7_choose_110 : decode cX7_choose 110 = .ok (.iconst 0, 1) := by decide +kernel
theorem dX7_choose_111 : decode cX7_choose 111 = .ok (.invokevirtual 55, 3) := by decide +kernel
theorem dX7_choose_114 : decode cX7_choose 114 = .ok (.goto 12, 3) := by decide +kernel
theorem dX7_choose_117 : decode cX7_choose 117 = .ok (.aload_n 0, 1) := by decide +kernel
theorem dX7_choose_118 : decode cX7_choose 118 = .ok (.iload_n 3, 1) := by decide +kernel
theorem dX7_choose_119 : decode cX7_choose 119 = .ok (.invokevirtual 59, 3) := by decide +kernel
theorem dX7_choose_122 : decode cX7_choose 122 = .ok (.aload_n 0, 1) := by decide +kernel
theorem dX7_choose_123 : decode cX7_choose 123 = .ok (.invokevirtual 63, 3) := by decide +kernel
theorem dX7_choose_126 : decode cX7_choose 126 = .ok (.return_, 1) := by decide +kernel
theorem dX7_tryFrom_0 : decode cX7_tryFrom 0 = .ok (.iload_n 2, 1) := by decide +kernel
theorem dX7_tryFrom_1 : decode cX7_tryFrom 1 = .ok (.bipush 8, 2) := by decide +kernel
theorem dX7_tryFrom_3 : decode cX7_tryFrom 3 = .ok (.if_icmp .gt 15, 3) := by decide +kernel
theorem dX7_tryFrom_6 : decode cX7_tryFrom 6 = .ok (.iload_n 3, 1) := by decide +kernel
theorem dX7_tryFrom_7 : decode cX7_tryFrom 7 = .ok (.iconst 3, 1) := by decide +kernel
theorem dX7_tryFrom_8 : decode cX7_tryFrom 8 = .ok (.iload_n 2, 1) := by decide +kernel
theorem dX7_tryFrom_9 : decode cX7_tryFrom 9 = .ok (.imul, 1) := by decide +kernel
theorem dX7_tryFrom_10 : decode cX7_tryFrom 10 = .ok (.iadd, 1) := by decide +kernel
theorem dX7_tryFrom_11 : decode cX7_tryFrom 11 = .ok (.aload_n 0, 1) := by decide +kernel
theorem dX7_tryFrom_12 : decode cX7_tryFrom 12 = .ok (.getfield 52, 3) := by decide +kernel
theorem dX7_tryFrom_15 : decode cX7_tryFrom 15 = .ok (.if_icmp .gt 4, 3) := by decide +kernel
theorem dX7_tryFrom_18 : decode cX7_tryFrom 18 = .ok (.return_, 1) := by decide +kernel
theorem dX7_tryFrom_19 : decode cX7_tryFrom 19 = .ok (.iload_n 2, 1) := by decide +kernel
theorem dX7_tryFrom_20 : decode cX7_tryFrom 20 = .ok (.ifCond .gt 13, 3) := by decide +kernel
theorem dX7_tryFrom_23 : decode cX7_tryFrom 23 = .ok (.aload_n 0, 1) := by decide +kernel
theorem dX7_tryFrom_24 : decode cX7_tryFrom 24 = .ok (.iload_n 3, 1) := by decide +kernel
theorem dX7_tryFrom_25 : decode cX7_tryFrom 25 = .ok (.putfield 52, 3) := by decide +kernel
theorem dX7_tryFrom_28 : decode cX7_tryFrom 28 = .ok (.aload_n 0, 1) := by decide +kernel
theorem dX7_tryFrom_29 : decode cX7_tryFrom 29 = .ok (.invokevirtual 63, 3) := by decide +kernel
theorem dX7_tryFrom_32 : decode cX7_tryFrom 32 = .ok (.return_, 1) := by decide +kernel
theorem dX7_tryFrom_33 : decode cX7_tryFrom 33 = .ok (.iload_n 1, 1) := by decide +kernel
theorem dX7_tryFrom_34 : decode cX7_tryFrom 34 = .ok (.istore 4, 2) := by decide +kernel
theorem dX7_tryFrom_36 : decode cX7_tryFrom 36 = .ok (.iload 4, 2) := by decide +kernel
theorem dX7_tryFrom_38 : decode cX7_tryFrom 38 = .ok (.aload_n 0, 1) := by decide +kernel
theorem dX7_tryFrom_39 : decode cX7_tryFrom 39 = .ok (.getfield 50, 3) := by decide +kernel
theorem dX7_tryFrom_42 : decode cX7_tryFrom 42 = .ok (.iload_n 2, 1) := by decide +kernel
theorem dX7_tryFrom_43 : decode cX7_tryFrom 43 = .ok (.isub, 1) := by decide +kernel
theorem dX7_tryFrom_44 : decode cX7_tryFrom 44 = .ok (.if_icmp .gt 53, 3) := by decide +kernel
theorem dX7_tryFrom_47 : decode cX7_tryFrom 47 = .ok (.aload_n 0, 1) := by decide +kernel
theorem dX7_tryFrom_48 : decode cX7_tryFrom 48 = .ok (.iload 4, 2) := by decide +kernel
theorem dX7_tryFrom_50 : decode cX7_tryFrom 50 = .ok (.invokevirtual 66, 3) := by decide +kernel
theorem dX7_tryFrom_53 : decode cX7_tryFrom 53 = .ok (.ifCond .eq 38, 3) := by decide +kernel
theorem dX7_tryFrom_56 : decode cX7_tryFrom 56 = .ok (.aload_n 0, 1) := by decide +kernel
theorem dX7_tryFrom_57 : decode cX7_tryFrom 57 = .ok (.getfield 9, 3) := by decide +kernel
theorem dX7_tryFrom_60 : decode cX7_tryFrom 60 = .ok (.iload 4, 2) := by decide +kernel
theorem dX7_tryFrom_62 : decode cX7_tryFrom 62 = .ok (.iconst 1, 1) := by decide +kernel
theorem dX7_tryFrom_63 : decode cX7_tryFrom 63 = .ok (.bastore, 1) := by decide +kernel
theorem dX7_tryFrom_64 : decode cX7_tryFrom 64 = .ok (.aload_n 0, 1) := by decide +kernel
theorem dX7_tryFrom_65 : decode cX7_tryFrom 65 = .ok (.iload 4, 2) := by decide +kernel
theorem dX7_tryFrom_67 : decode cX7_tryFrom 67 = .ok (.iconst 1, 1) := by decide +kernel
theorem dX7_tryFrom_68 : decode cX7_tryFrom 68 = .ok (.iadd, 1) := by decide +kernel
theorem dX7_tryFrom_69 : decode cX7_tryFrom 69 = .ok (.iload_n 2, 1) := by decide +kernel
theorem dX7_tryFrom_70 : decode cX7_tryFrom 70 = .ok (.iconst 1, 1) := by decide +kernel
theorem dX7_tryFrom_71 : decode cX7_tryFrom 71 = .ok (.isub, 1) := by decide +kernel
theorem dX7_tryFrom_72 : decode cX7_tryFrom 72 = .ok (.iload_n 3, 1) := by decide +kernel
theorem dX7_tryFrom_73 : decode cX7_tryFrom 73 = .ok (.aload_n 0, 1) := by decide +kernel
theorem dX7_tryFrom_74 : decode cX7_tryFrom 74 = .ok (.iload 4, 2) := by decide +kernel
theorem dX7_tryFrom_76 : decode cX7_tryFrom 76 = .ok (.invokevirtual 70, 3) := by decide +kernel
theorem dX7_tryFrom_79 : decode cX7_tryFrom 79 = .ok (.iadd, 1) := by decide +kernel
theorem dX7_tryFrom_80 : decode cX7_tryFrom 80 = .ok (.invokevirtual 55, 3) := by decide +kernel
theorem dX7_tryFrom_83 : decode cX7_tryFrom 83 = .ok (.aload_n 0, 1) := by decide +kernel
theorem dX7_tryFrom_84 : decode cX7_tryFrom 84 = .ok (.getfield 9, 3) := by decide +kernel
theorem dX7_tryFrom_87 : decode cX7_tryFrom 87 = .ok (.iload 4, 2) := by decide +kernel
theorem dX7_tryFrom_89 : decode cX7_tryFrom 89 = .ok (.iconst 0, 1) := by decide +kernel
theorem dX7_tryFrom_90 : decode cX7_tryFrom 90 = .ok (.bastore, 1) := by decide +kernel
theorem dX7_tryFrom_91 : decode cX7_tryFrom 91 = .ok (.iinc 4 1, 3) := by decide +kernel
theorem dX7_tryFrom_94 : decode cX7_tryFrom 94 = .ok (.goto (-58), 3) := by decide +kernel
theorem dX7_tryFrom_97 : decode cX7_tryFrom 97 = .ok (.return_, 1) := by decide +kernel
theorem dX7_chooseOneByOne_0 : decode cX7_chooseOneByOne 0 = .ok (.iconst 0, 1) := by decide +kernel
theorem dX7_chooseOneByOne_1 : decode cX7_chooseOneByOne 1 = .ok (.istore_n 2, 1) := by decide +kernel
theorem dX7_chooseOneByOne_2 : decode cX7_chooseOneByOne 2 = .ok (.iload_n 2, 1) := by decide +kernel
theorem dX7_chooseOneByOne_3 : decode cX7_chooseOneByOne 3 = .ok (.iload_n 1, 1) := by decide +kernel
theorem dX7_chooseOneByOne_4 : decode cX7_chooseOneByOne 4 = .ok (.if_icmp .ge 85, 3) := by decide +kernel
theorem dX7_chooseOneByOne_7 : decode cX7_chooseOneByOne 7 = .ok (.iconst (-1), 1) := by decide +kernel
theorem dX7_chooseOneByOne_8 : decode cX7_chooseOneByOne 8 = .ok (.istore_n 3, 1) := by decide +kernel
theorem dX7_chooseOneByOne_9 : decode cX7_chooseOneByOne 9 = .ok (.iconst (-1), 1) := by decide +kernel
theorem dX7_chooseOneByOne_10 : decode cX7_chooseOneByOne 10 = .ok (.istore 4, 2) := by decide +kernel
theorem dX7_chooseOneByOne_12 : decode cX7_chooseOneByOne 12 = .ok (.iconst 0, 1) := by decide +kernel
theorem dX7_chooseOneByOne_13 : decode cX7_chooseOneByOne 13 = .ok (.istore 5, 2) := by decide +kernel
theorem dX7_chooseOneByOne_15 : decode cX7_chooseOneByOne 15 = .ok (.iload 5, 2) := by decide +kernel
theorem dX7_chooseOneByOne_17 : decode cX7_chooseOneByOne 17 = .ok (.aload_n 0, 1) := by decide +kernel
theorem dX7_chooseOneByOne_18 : decode cX7_chooseOneByOne 18 = .ok (.getfield 50, 3) := by decide +kernel
theorem dX7_chooseOneByOne_21 : decode cX7_chooseOneByOne 21 = .ok (.if_icmp .ge 50, 3) := by decide +kernel
theorem dX7_chooseOneByOne_24 : decode cX7_chooseOneByOne 24 = .ok (.aload_n 0, 1) := by decide +kernel
theorem dX7_chooseOneByOne_25 : decode cX7_chooseOneByOne 25 = .ok (.getfield 9, 3) := by decide +kernel
theorem dX7_chooseOneByOne_28 : decode cX7_chooseOneByOne 28 = .ok (.iload 5, 2) := by decide +kernel
theorem dX7_chooseOneByOne_30 : decode cX7_chooseOneByOne 30 = .ok (.baload, 1) := by decide +kernel
theorem dX7_chooseOneByOne_31 : decode cX7_chooseOneByOne 31 = .ok (.ifCond .ne 34, 3) := by decide +kernel
theorem dX7_chooseOneByOne_34 : decode cX7_chooseOneByOne 34 = .ok (.aload_n 0, 1) := by decide +kernel
theorem dX7_chooseOneByOne_35 : decode cX7_chooseOneByOne 35 = .ok (.iload 5, 2) := by decide +kernel
theorem dX7_chooseOneByOne_37 : decode cX7_chooseOneByOne 37 = .ok (.invokevirtual 66, 3) := by decide +kernel
theorem dX7_chooseOneByOne_40 : decode cX7_chooseOneByOne 40 = .ok (.ifCond .eq 25, 3) := by decide +kernel
theorem dX7_chooseOneByOne_43 : decode cX7_chooseOneByOne 43 = .ok (.aload_n 0, 1) := by decide +kernel
theorem dX7_chooseOneByOne_44 : decode cX7_chooseOneByOne 44 = .ok (.iload 5, 2) := by decide +kernel
theorem dX7_chooseOneByOne_46 : decode cX7_chooseOneByOne 46 = .ok (.invokevirtual 70, 3) := by decide +kernel
theorem dX7_chooseOneByOne_49 : decode cX7_chooseOneByOne 49 = .ok (.iload 4, 2) := by decide +kernel
theorem dX7_chooseOneByOne_51 : decode cX7_chooseOneByOne 51 = .ok (.if_icmp .le 14, 3) := by decide +kernel
theorem dX7_chooseOneByOne_54 : decode cX7_chooseOneByOne 54 = .ok (.iload 5, 2) := by decide +kernel
theorem dX7_chooseOneByOne_56 : decode cX7_chooseOneByOne 56 = .ok (.istore_n 3, 1) := by decide +kernel
theorem dX7_chooseOneByOne_57 : decode cX7_chooseOneByOne 57 = .ok (.aload_n 0, 1) := by decide +kernel
theorem dX7_chooseOneByOne_58 : decode cX7_chooseOneByOne 58 = .ok (.iload 5, 2) := by decide +kernel
theorem dX7_chooseOneByOne_60 : decode cX7_chooseOneByOne 60 = .ok (.invokevirtual 70, 3) := by decide +kernel
theorem dX7_chooseOneByOne_63 : decode cX7_chooseOneByOne 63 = .ok (.istore 4, 2) := by decide +kernel
theorem dX7_chooseOneByOne_65 : decode cX7_chooseOneByOne 65 = .ok (.iinc 5 1, 3) := by decide +kernel
theorem dX7_chooseOneByOne_68 : decode cX7_chooseOneByOne 68 = .ok (.goto (-53), 3) := by decide +kernel
theorem dX7_chooseOneByOne_71 : decode cX7_chooseOneByOne 71 = .ok (.iload_n 3, 1) := by decide +kernel
theorem dX7_chooseOneByOne_72 : decode cX7_chooseOneByOne 72 = .ok (.iconst (-1), 1) := by decide +kernel
theorem dX7_chooseOneByOne_73 : decode cX7_chooseOneByOne 73 = .ok (.if_icmp .eq 10, 3) := by decide +kernel
theorem dX7_chooseOneByOne_76 : decode cX7_chooseOneByOne 76 = .ok (.aload_n 0, 1) := by decide +kernel
theorem dX7_chooseOneByOne_77 : decode cX7_chooseOneByOne 77 = .ok (.getfield 9, 3) := by decide +kernel
theorem dX7_chooseOneByOne_80 : decode cX7_chooseOneByOne 80 = .ok (.iload_n 3, 1) := by decide +kernel
theorem dX7_chooseOneByOne_81 : decode cX7_chooseOneByOne 81 = .ok (.iconst 1, 1) := by decide +kernel
theorem dX7_chooseOneByOne_82 : decode cX7_chooseOneByOne 82 = .ok (.bastore, 1) := by decide +kernel
theorem dX7_chooseOneByOne_83 : decode cX7_chooseOneByOne 83 = .ok (.iinc 2 1, 3) := by decide +kernel
theorem dX7_chooseOneByOne_86 : decode cX7_chooseOneByOne 86 = .ok (.goto (-84), 3) := by decide +kernel
theorem dX7_chooseOneByOne_89 : decode cX7_chooseOneByOne 89 = .ok (.return_, 1) := by decide +kernel
theorem dX7_keepChosen_0 : decode cX7_keepChosen 0 = .ok (.iconst 0, 1) := by decide +kernel
theorem dX7_keepChosen_1 : decode cX7_keepChosen 1 = .ok (.istore_n 1, 1) := by decide +kernel
theorem dX7_keepChosen_2 : decode cX7_keepChosen 2 = .ok (.iload_n 1, 1) := by decide +kernel
theorem dX7_keepChosen_3 : decode cX7_keepChosen 3 = .ok (.aload_n 0, 1) := by decide +kernel
theorem dX7_keepChosen_4 : decode cX7_keepChosen 4 = .ok (.getfield 50, 3) := by decide +kernel
theorem dX7_keepChosen_7 : decode cX7_keepChosen 7 = .ok (.if_icmp .ge 21, 3) := by decide +kernel
theorem dX7_keepChosen_10 : decode cX7_keepChosen 10 = .ok (.aload_n 0, 1) := by decide +kernel
theorem dX7_keepChosen_11 : decode cX7_keepChosen 11 = .ok (.getfield 15, 3) := by decide +kernel
theorem dX7_keepChosen_14 : decode cX7_keepChosen 14 = .ok (.iload_n 1, 1) := by decide +kernel
theorem dX7_keepChosen_15 : decode cX7_keepChosen 15 = .ok (.aload_n 0, 1) := by decide +kernel
theorem dX7_keepChosen_16 : decode cX7_keepChosen 16 = .ok (.getfield 9, 3) := by decide +kernel
theorem dX7_keepChosen_19 : decode cX7_keepChosen 19 = .ok (.iload_n 1, 1) := by decide +kernel
theorem dX7_keepChosen_20 : decode cX7_keepChosen 20 = .ok (.baload, 1) := by decide +kernel
theorem dX7_keepChosen_21 : decode cX7_keepChosen 21 = .ok (.bastore, 1) := by decide +kernel
theorem dX7_keepChosen_22 : decode cX7_keepChosen 22 = .ok (.iinc 1 1, 3) := by decide +kernel
theorem dX7_keepChosen_25 : decode cX7_keepChosen 25 = .ok (.goto (-23), 3) := by decide +kernel
theorem dX7_keepChosen_28 : decode cX7_keepChosen 28 = .ok (.return_, 1) := by decide +kernel
theorem dX7_bears_0 : decode cX7_bears 0 = .ok (.iload_n 1, 1) := by decide +kernel
theorem dX7_bears_1 : decode cX7_bears 1 = .ok (.aload_n 0, 1) := by decide +kernel
theorem dX7_bears_2 : decode cX7_bears 2 = .ok (.getfield 28, 3) := by decide +kernel
theorem dX7_bears_5 : decode cX7_bears 5 = .ok (.aload_n 0, 1) := by decide +kernel
theorem dX7_bears_6 : decode cX7_bears 6 = .ok (.getfield 34, 3) := by decide +kernel
theorem dX7_bears_9 : decode cX7_bears 9 = .ok (.imul, 1) := by decide +kernel
theorem dX7_bears_10 : decode cX7_bears 10 = .ok (.isub, 1) := by decide +kernel
theorem dX7_bears_11 : decode cX7_bears 11 = .ok (.istore_n 2, 1) := by decide +kernel
theorem dX7_bears_12 : decode cX7_bears 12 = .ok (.iload_n 2, 1) := by decide +kernel
theorem dX7_bears_13 : decode cX7_bears 13 = .ok (.ifCond .lt 12, 3) := by decide +kernel
theorem dX7_bears_16 : decode cX7_bears 16 = .ok (.aload_n 0, 1) := by decide +kernel
theorem dX7_bears_17 : decode cX7_bears 17 = .ok (.getfield 9, 3) := by decide +kernel
theorem dX7_bears_20 : decode cX7_bears 20 = .ok (.iload_n 2, 1) := by decide +kernel
theorem dX7_bears_21 : decode cX7_bears 21 = .ok (.baload, 1) := by decide +kernel
theorem dX7_bears_22 : decode cX7_bears 22 = .ok (.ifCond .eq 7, 3) := by decide +kernel
theorem dX7_bears_25 : decode cX7_bears 25 = .ok (.iconst 1, 1) := by decide +kernel
theorem dX7_bears_26 : decode cX7_bears 26 = .ok (.goto 4, 3) := by decide +kernel
theorem dX7_bears_29 : decode cX7_bears 29 = .ok (.iconst 0, 1) := by decide +kernel
theorem dX7_bears_30 : decode cX7_bears 30 = .ok (.ireturn, 1) := by decide +kernel
theorem dX7_sidesShut_0 : decode cX7_sidesShut 0 = .ok (.iconst 0, 1) := by decide +kernel
theorem dX7_sidesShut_1 : decode cX7_sidesShut 1 = .ok (.istore_n 2, 1) := by decide +kernel
theorem dX7_sidesShut_2 : decode cX7_sidesShut 2 = .ok (.iconst 0, 1) := by decide +kernel
theorem dX7_sidesShut_3 : decode cX7_sidesShut 3 = .ok (.istore_n 3, 1) := by decide +kernel
theorem dX7_sidesShut_4 : decode cX7_sidesShut 4 = .ok (.iload_n 3, 1) := by decide +kernel
theorem dX7_sidesShut_5 : decode cX7_sidesShut 5 = .ok (.bipush 6, 2) := by decide +kernel
theorem dX7_sidesShut_7 : decode cX7_sidesShut 7 = .ok (.if_icmp .ge 56, 3) := by decide +kernel
theorem dX7_sidesShut_10 : decode cX7_sidesShut 10 = .ok (.iload_n 3, 1) := by decide +kernel
theorem dX7_sidesShut_11 : decode cX7_sidesShut 11 = .ok (.iload_n 1, 1) := by decide +kernel
theorem dX7_sidesShut_12 : decode cX7_sidesShut 12 = .ok (.aload_n 0, 1) := by decide +kernel
theorem dX7_sidesShut_13 : decode cX7_sidesShut 13 = .ok (.getfield 28, 3) := by decide +kernel
theorem dX7_sidesShut_16 : decode cX7_sidesShut 16 = .ok (.aload_n 0, 1) := by decide +kernel
theorem dX7_sidesShut_17 : decode cX7_sidesShut 17 = .ok (.getfield 34, 3) := by decide +kernel
theorem dX7_sidesShut_20 : decode cX7_sidesShut 20 = .ok (.aload_n 0, 1) := by decide +kernel
theorem dX7_sidesShut_21 : decode cX7_sidesShut 21 = .ok (.getfield 39, 3) := by decide +kernel
theorem dX7_sidesShut_24 : decode cX7_sidesShut 24 = .ok (.invokestatic 74, 3) := by decide +kernel
theorem dX7_sidesShut_27 : decode cX7_sidesShut 27 = .ok (.istore 4, 2) := by decide +kernel
theorem dX7_sidesShut_29 : decode cX7_sidesShut 29 = .ok (.iload 4, 2) := by decide +kernel
theorem dX7_sidesShut_31 : decode cX7_sidesShut 31 = .ok (.iconst 0, 1) := by decide +kernel
theorem dX7_sidesShut_32 : decode cX7_sidesShut 32 = .ok (.aload_n 0, 1) := by decide +kernel
theorem dX7_sidesShut_33 : decode cX7_sidesShut 33 = .ok (.getfield 50, 3) := by decide +kernel
theorem dX7_sidesShut_36 : decode cX7_sidesShut 36 = .ok (.iconst 1, 1) := by decide +kernel
theorem dX7_sidesShut_37 : decode cX7_sidesShut 37 = .ok (.isub, 1) := by decide +kernel
theorem dX7_sidesShut_38 : decode cX7_sidesShut 38 = .ok (.invokestatic 18, 3) := by decide +kernel
theorem dX7_sidesShut_41 : decode cX7_sidesShut 41 = .ok (.ifCond .eq 16, 3) := by decide +kernel
theorem dX7_sidesShut_44 : decode cX7_sidesShut 44 = .ok (.aload_n 0, 1) := by decide +kernel
theorem dX7_sidesShut_45 : decode cX7_sidesShut 45 = .ok (.getfield 9, 3) := by decide +kernel
theorem dX7_sidesShut_48 : decode cX7_sidesShut 48 = .ok (.iload 4, 2) := by decide +kernel
theorem dX7_sidesShut_50 : decode cX7_sidesShut 50 = .ok (.baload, 1) := by decide +kernel
theorem dX7_sidesShut_51 : decode cX7_sidesShut 51 = .ok (.ifCond .eq 6, 3) := by decide +kernel
theorem dX7_sidesShut_54 : decode cX7_sidesShut 54 = .ok (.iinc 2 1, 3) := by decide +kernel
theorem dX7_sidesShut_57 : decode cX7_sidesShut 57 = .ok (.iinc 3 1, 3) := by decide +kernel
theorem dX7_sidesShut_60 : decode cX7_sidesShut 60 = .ok (.goto (-56), 3) := by decide +kernel
theorem dX7_sidesShut_63 : decode cX7_sidesShut 63 = .ok (.iload_n 2, 1) := by decide +kernel
theorem dX7_sidesShut_64 : decode cX7_sidesShut 64 = .ok (.ireturn, 1) := by decide +kernel
theorem dX8_init_0 : decode cX8_init 0 = .ok (.aload_n 0, 1) := by decide +kernel
theorem dX8_init_1 : decode cX8_init 1 = .ok (.invokespecial 3, 3) := by decide +kernel
theorem dX8_init_4 : decode cX8_init 4 = .ok (.aload_n 0, 1) := by decide +kernel
theorem dX8_init_5 : decode cX8_init 5 = .ok (.bipush 8, 2) := by decide +kernel
theorem dX8_init_7 : decode cX8_init 7 = .ok (.newarray .int, 2) := by decide +kernel
theorem dX8_init_9 : decode cX8_init 9 = .ok (.putfield 9, 3) := by decide +kernel
theorem dX8_init_12 : decode cX8_init 12 = .ok (.aload_n 0, 1) := by decide +kernel
theorem dX8_init_13 : decode cX8_init 13 = .ok (.bipush 8, 2) := by decide +kernel
theorem dX8_init_15 : decode cX8_init 15 = .ok (.newarray .int, 2) := by decide +kernel
theorem dX8_init_17 : decode cX8_init 17 = .ok (.putfield 15, 3) := by decide +kernel
theorem dX8_init_20 : decode cX8_init 20 = .ok (.aload_n 0, 1) := by decide +kernel
theorem dX8_init_21 : decode cX8_init 21 = .ok (.bipush 8, 2) := by decide +kernel
theorem dX8_init_23 : decode cX8_init 23 = .ok (.newarray .int, 2) := by decide +kernel
theorem dX8_init_25 : decode cX8_init 25 = .ok (.putfield 18, 3) := by decide +kernel
theorem dX8_init_28 : decode cX8_init 28 = .ok (.aload_n 0, 1) := by decide +kernel
theorem dX8_init_29 : decode cX8_init 29 = .ok (.bipush 8, 2) := by decide +kernel
theorem dX8_init_31 : decode cX8_init 31 = .ok (.newarray .int, 2) := by decide +kernel
theorem dX8_init_33 : decode cX8_init 33 = .ok (.putfield 21, 3) := by decide +kernel
theorem dX8_init_36 : decode cX8_init 36 = .ok (.aload_n 0, 1) := by decide +kernel
theorem dX8_init_37 : decode cX8_init 37 = .ok (.bipush 8, 2) := by decide +kernel
theorem dX8_init_39 : decode cX8_init 39 = .ok (.newarray .int, 2) := by decide +kernel
theorem dX8_init_41 : decode cX8_init 41 = .ok (.putfield 24, 3) := by decide +kernel
theorem dX8_init_44 : decode cX8_init 44 = .ok (.aload_n 0, 1) := by decide +kernel
theorem dX8_init_45 : decode cX8_init 45 = .ok (.bipush 8, 2) := by decide +kernel
theorem dX8_init_47 : decode cX8_init 47 = .ok (.newarray .int, 2) := by decide +kernel
theorem dX8_init_49 : decode cX8_init 49 = .ok (.putfield 27, 3) := by decide +kernel
theorem dX8_init_52 : decode cX8_init 52 = .ok (.aload_n 0, 1) := by decide +kernel
theorem dX8_init_53 : decode cX8_init 53 = .ok (.bipush 8, 2) := by decide +kernel
theorem dX8_init_55 : decode cX8_init 55 = .ok (.newarray .int, 2) := by decide +kernel
theorem dX8_init_57 : decode cX8_init 57 = .ok (.putfield 30, 3) := by decide +kernel
theorem dX8_init_60 : decode cX8_init 60 = .ok (.aload_n 0, 1) := by decide +kernel
theorem dX8_init_61 : decode cX8_init 61 = .ok (.bipush 8, 2) := by decide +kernel
theorem dX8_init_63 : decode cX8_init 63 = .ok (.newarray .int, 2) := by decide +kernel
theorem dX8_init_65 : decode cX8_init 65 = .ok (.putfield 33, 3) := by decide +kernel
theorem dX8_init_68 : decode cX8_init 68 = .ok (.aload_n 0, 1) := by decide +kernel
theorem dX8_init_69 : decode cX8_init 69 = .ok (.bipush 8, 2) := by decide +kernel
theorem dX8_init_71 : decode cX8_init 71 = .ok (.newarray .int, 2) := by decide +kernel
theorem dX8_init_73 : decode cX8_init 73 = .ok (.putfield 36, 3) := by decide +kernel
theorem dX8_init_76 : decode cX8_init 76 = .ok (.aload_n 0, 1) := by decide +kernel
theorem dX8_init_77 : decode cX8_init 77 = .ok (.bipush 8, 2) := by decide +kernel
theorem dX8_init_79 : decode cX8_init 79 = .ok (.newarray .int, 2) := by decide +kernel
theorem dX8_init_81 : decode cX8_init 81 = .ok (.putfield 39, 3) := by decide +kernel
theorem dX8_init_84 : decode cX8_init 84 = .ok (.aload_n 0, 1) := by decide +kernel
theorem dX8_init_85 : decode cX8_init 85 = .ok (.bipush 8, 2) := by decide +kernel
theorem dX8_init_87 : decode cX8_init 87 = .ok (.newarray .int, 2) := by decide +kernel
theorem dX8_init_89 : decode cX8_init 89 = .ok (.putfield 42, 3) := by decide +kernel
theorem dX8_init_92 : decode cX8_init 92 = .ok (.aload_n 0, 1) := by decide +kernel
theorem dX8_init_93 : decode cX8_init 93 = .ok (.bipush 8, 2) := by decide +kernel
theorem dX8_init_95 : decode cX8_init 95 = .ok (.newarray .int, 2) := by decide +kernel
theorem dX8_init_97 : decode cX8_init 97 = .ok (.putfield 45, 3) := by decide +kernel
theorem dX8_init_100 : decode cX8_init 100 = .ok (.aload_n 0, 1) := by decide +kernel
theorem dX8_init_101 : decode cX8_init 101 = .ok (.sipush 1440, 3) := by decide +kernel
theorem dX8_init_104 : decode cX8_init 104 = .ok (.newarray .int, 2) := by decide +kernel
theorem dX8_init_106 : decode cX8_init 106 = .ok (.putfield 48, 3) := by decide +kernel
theorem dX8_init_109 : decode cX8_init 109 = .ok (.return_, 1) := by decide +kernel
theorem dX8_copyFrom_0 : decode cX8_copyFrom 0 = .ok (.aload_n 0, 1) := by decide +kernel
theorem dX8_copyFrom_1 : decode cX8_copyFrom 1 = .ok (.aload_n 1, 1) := by decide +kernel
theorem dX8_copyFrom_2 : decode cX8_copyFrom 2 = .ok (.getfield 51, 3) := by decide +kernel
theorem dX8_copyFrom_5 : decode cX8_copyFrom 5 = .ok (.putfield 51, 3) := by decide +kernel
theorem dX8_copyFrom_8 : decode cX8_copyFrom 8 = .ok (.aload_n 0, 1) := by decide +kernel
theorem dX8_copyFrom_9 : decode cX8_copyFrom 9 = .ok (.aload_n 1, 1) := by decide +kernel
theorem dX8_copyFrom_10 : decode cX8_copyFrom 10 = .ok (.getfield 9, 3) := by decide +kernel
theorem dX8_copyFrom_13 : decode cX8_copyFrom 13 = .ok (.aload_n 0, 1) := by decide +kernel
theorem dX8_copyFrom_14 : decode cX8_copyFrom 14 = .ok (.getfield 9, 3) := by decide +kernel
theorem dX8_copyFrom_17 : decode cX8_copyFrom 17 = .ok (.invokevirtual 55, 3) := by decide +kernel
theorem dX8_copyFrom_20 : decode cX8_copyFrom 20 = .ok (.aload_n 0, 1) := by decide +kernel
theorem dX8_copyFrom_21 : decode cX8_copyFrom 21 = .ok (.aload_n 1, 1) := by decide +kernel
theorem dX8_copyFrom_22 : decode cX8_copyFrom 22 = .ok (.getfield 15, 3) := by decide +kernel
theorem dX8_copyFrom_25 : decode cX8_copyFrom 25 = .ok (.aload_n 0, 1) := by decide +kernel
theorem dX8_copyFrom_26 : decode cX8_copyFrom 26 = .ok (.getfield 15, 3) := by decide +kernel
theorem dX8_copyFrom_29 : decode cX8_copyFrom 29 = .ok (.invokevirtual 55, 3) := by decide +kernel
theorem dX8_copyFrom_32 : decode cX8_copyFrom 32 = .ok (.aload_n 0, 1) := by decide +kernel
theorem dX8_copyFrom_33 : decode cX8_copyFrom 33 = .ok (.aload_n 1, 1) := by decide +kernel
theorem dX8_copyFrom_34 : decode cX8_copyFrom 34 = .ok (.getfield 18, 3) := by decide +kernel
theorem dX8_copyFrom_37 : decode cX8_copyFrom 37 = .ok (.aload_n 0, 1) := by decide +kernel
theorem dX8_copyFrom_38 : decode cX8_copyFrom 38 = .ok (.getfield 18, 3) := by decide +kernel
theorem dX8_copyFrom_41 : decode cX8_copyFrom 41 = .ok (.invokevirtual 55, 3) := by decide +kernel
theorem dX8_copyFrom_44 : decode cX8_copyFrom 44 = .ok (.aload_n 0, 1) := by decide +kernel
theorem dX8_copyFrom_45 : decode cX8_copyFrom 45 = .ok (.aload_n 1, 1) := by decide +kernel
theorem dX8_copyFrom_46 : decode cX8_copyFrom 46 = .ok (.getfield 21, 3) := by decide +kernel
theorem dX8_copyFrom_49 : decode cX8_copyFrom 49 = .ok (.aload_n 0, 1) := by decide +kernel
theorem dX8_copyFrom_50 : decode cX8_copyFrom 50 = .ok (.getfield 21, 3) := by decide +kernel
theorem dX8_copyFrom_53 : decode cX8_copyFrom 53 = .ok (.invokevirtual 55, 3) := by decide +kernel
theorem dX8_copyFrom_56 : decode cX8_copyFrom 56 = .ok (.aload_n 0, 1) := by decide +kernel
theorem dX8_copyFrom_57 : decode cX8_copyFrom 57 = .ok (.aload_n 1, 1) := by decide +kernel
theorem dX8_copyFrom_58 : decode cX8_copyFrom 58 = .ok (.getfield 24, 3) := by decide +kernel
theorem dX8_copyFrom_61 : decode cX8_copyFrom 61 = .ok (.aload_n 0, 1) := by decide +kernel
theorem dX8_copyFrom_62 : decode cX8_copyFrom 62 = .ok (.getfield 24, 3) := by decide +kernel
theorem dX8_copyFrom_65 : decode cX8_copyFrom 65 = .ok (.invokevirtual 55, 3) := by decide +kernel
theorem dX8_copyFrom_68 : decode cX8_copyFrom 68 = .ok (.aload_n 0, 1) := by decide +kernel
theorem dX8_copyFrom_69 : decode cX8_copyFrom 69 = .ok (.aload_n 1, 1) := by decide +kernel
theorem dX8_copyFrom_70 : decode cX8_copyFrom 70 = .ok (.getfield 27, 3) := by decide +kernel
theorem dX8_copyFrom_73 : decode cX8_copyFrom 73 = .ok (.aload_n 0, 1) := by decide +kernel
theorem dX8_copyFrom_74 : decode cX8_copyFrom 74 = .ok (.getfield 27, 3) := by decide +kernel
theorem dX8_copyFrom_77 : decode cX8_copyFrom 77 = .ok (.invokevirtual 55, 3) := by decide +kernel
theorem dX8_copyFrom_80 : decode cX8_copyFrom 80 = .ok (.aload_n 0, 1) := by decide +kernel
theorem dX8_copyFrom_81 : decode cX8_copyFrom 81 = .ok (.aload_n 1, 1) := by decide +kernel
theorem dX8_copyFrom_82 : decode cX8_copyFrom 82 = .ok (.getfield 30, 3) := by decide +kernel
theorem dX8_copyFrom_85 : decode cX8_copyFrom 85 = .ok (.aload_n 0, 1) := by decide +kernel
theorem dX8_copyFrom_86 : decode cX8_copyFrom 86 = .ok (.getfield 30, 3) := by decide +kernel
theorem dX8_copyFrom_89 : decode cX8_copyFrom 89 = .ok (.invokevirtual 55, 3) := by decide +kernel
theorem dX8_copyFrom_92 : decode cX8_copyFrom 92 = .ok (.aload_n 0, 1) := by decide +kernel
theorem dX8_copyFrom_93 : decode cX8_copyFrom 93 = .ok (.aload_n 1, 1) := by decide +kernel
theorem dX8_copyFrom_94 : decode cX8_copyFrom 94 = .ok (.getfield 33, 3) := by decide +kernel
theorem dX8_copyFrom_97 : decode cX8_copyFrom 97 = .ok (.aload_n 0, 1) := by decide +kernel
theorem dX8_copyFrom_98 : decode cX8_copyFrom 98 = .ok (.getfield 33, 3) := by decide +kernel
theorem dX8_copyFrom_101 : decode cX8_copyFrom 101 = .ok (.invokevirtual 55, 3) := by decide +kernel
theorem dX8_copyFrom_104 : decode cX8_copyFrom 104 = .ok (.aload_n 0, 1) := by decide +kernel
theorem dX8_copyFrom_105 : decode cX8_copyFrom 105 = .ok (.aload_n 1, 1) := by decide +kernel
theorem dX8_copyFrom_106 : decode cX8_copyFrom 106 = .ok (.getfield 36, 3) := by decide +kernel
theorem dX8_copyFrom_109 : decode cX8_copyFrom 109 = .ok (.aload_n 0, 1) := by decide +kernel
theorem dX8_copyFrom_110 : decode cX8_copyFrom 110 = .ok (.getfield 36, 3) := by decide +kernel
theorem dX8_copyFrom_113 : decode cX8_copyFrom 113 = .ok (.invokevirtual 55, 3) := by decide +kernel
theorem dX8_copyFrom_116 : decode cX8_copyFrom 116 = .ok (.aload_n 0, 1) := by decide +kernel
theorem dX8_copyFrom_117 : decode cX8_copyFrom 117 = .ok (.aload_n 1, 1) := by decide +kernel
theorem dX8_copyFrom_118 : decode cX8_copyFrom 118 = .ok (.getfield 39, 3) := by decide +kernel
theorem dX8_copyFrom_121 : decode cX8_copyFrom 121 = .ok (.aload_n 0, 1) := by decide +kernel
theorem dX8_copyFrom_122 : decode cX8_copyFrom 122 = .ok (.getfield 39, 3) := by decide +kernel
theorem dX8_copyFrom_125 : decode cX8_copyFrom 125 = .ok (.invokevirtual 55, 3) := by decide +kernel
theorem dX8_copyFrom_128 : decode cX8_copyFrom 128 = .ok (.aload_n 0, 1) := by decide +kernel
theorem dX8_copyFrom_129 : decode cX8_copyFrom 129 = .ok (.aload_n 1, 1) := by decide +kernel
theorem dX8_copyFrom_130 : decode cX8_copyFrom 130 = .ok (.getfield 42, 3) := by decide +kernel
theorem dX8_copyFrom_133 : decode cX8_copyFrom 133 = .ok (.aload_n 0, 1) := by decide +kernel
theorem dX8_copyFrom_134 : decode cX8_copyFrom 134 = .ok (.getfield 42, 3) := by decide +kernel
theorem dX8_copyFrom_137 : decode cX8_copyFrom 137 = .ok (.invokevirtual 55, 3) := by decide +kernel
theorem dX8_copyFrom_140 : decode cX8_copyFrom 140 = .ok (.aload_n 0, 1) := by decide +kernel
theorem dX8_copyFrom_141 : decode cX8_copyFrom 141 = .ok (.aload_n 1, 1) := by decide +kernel
theorem dX8_copyFrom_142 : decode cX8_copyFrom 142 = .ok (.getfield 45, 3) := by decide +kernel
theorem dX8_copyFrom_145 : decode cX8_copyFrom 145 = .ok (.aload_n 0, 1) := by decide +kernel
theorem dX8_copyFrom_146 : decode cX8_copyFrom 146 = .ok (.getfield 45, 3) := by decide +kernel
theorem dX8_copyFrom_149 : decode cX8_copyFrom 149 = .ok (.invokevirtual 55, 3) := by decide +kernel
theorem dX8_copyFrom_152 : decode cX8_copyFrom 152 = .ok (.aload_n 1, 1) := by decide +kernel
theorem dX8_copyFrom_153 : decode cX8_copyFrom 153 = .ok (.getfield 48, 3) := by decide +kernel
theorem dX8_copyFrom_156 : decode cX8_copyFrom 156 = .ok (.iconst 0, 1) := by decide +kernel
theorem dX8_copyFrom_157 : decode cX8_copyFrom 157 = .ok (.aload_n 0, 1) := by decide +kernel
theorem dX8_copyFrom_158 : decode cX8_copyFrom 158 = .ok (.getfield 48, 3) := by decide +kernel
theorem dX8_copyFrom_161 : decode cX8_copyFrom 161 = .ok (.iconst 0, 1) := by decide +kernel
theorem dX8_copyFrom_162 : decode cX8_copyFrom 162 = .ok (.aload_n 0, 1) := by decide +kernel
theorem dX8_copyFrom_163 : decode cX8_copyFrom 163 = .ok (.getfield 51, 3) := by decide +kernel
theorem dX8_copyFrom_166 : decode cX8_copyFrom 166 = .ok (.sipush 180, 3) := by decide +kernel
theorem dX8_copyFrom_169 : decode cX8_copyFrom 169 = .ok (.imul, 1) := by decide +kernel
theorem dX8_copyFrom_170 : decode cX8_copyFrom 170 = .ok (.invokestatic 59, 3) := by decide +kernel
theorem dX8_copyFrom_173 : decode cX8_copyFrom 173 = .ok (.return_, 1) := by decide +kernel
theorem dX8_copy_0 : decode cX8_copy 0 = .ok (.aload_n 1, 1) := by decide +kernel
theorem dX8_copy_1 : decode cX8_copy 1 = .ok (.iconst 0, 1) := by decide +kernel
theorem dX8_copy_2 : decode cX8_copy 2 = .ok (.aload_n 2, 1) := by decide +kernel
theorem dX8_copy_3 : decode cX8_copy 3 = .ok (.iconst 0, 1) := by decide +kernel
theorem dX8_copy_4 : decode cX8_copy 4 = .ok (.aload_n 0, 1) := by decide +kernel
theorem dX8_copy_5 : decode cX8_copy 5 = .ok (.getfield 51, 3) := by decide +kernel
theorem dX8_copy_8 : decode cX8_copy 8 = .ok (.invokestatic 59, 3) := by decide +kernel
theorem dX8_copy_11 : decode cX8_copy 11 = .ok (.return_, 1) := by decide +kernel
theorem dX8_has_0 : decode cX8_has 0 = .ok (.iload_n 1, 1) := by decide +kernel
theorem dX8_has_1 : decode cX8_has 1 = .ok (.ifCond .lt 15, 3) := by decide +kernel
theorem dX8_has_4 : decode cX8_has 4 = .ok (.iload_n 1, 1) := by decide +kernel
theorem dX8_has_5 : decode cX8_has 5 = .ok (.aload_n 0, 1) := by decide +kernel
theorem dX8_has_6 : decode cX8_has 6 = .ok (.getfield 51, 3) := by decide +kernel
theorem dX8_has_9 : decode cX8_has 9 = .ok (.if_icmp .ge 7, 3) := by decide +kernel
theorem dX8_has_12 : decode cX8_has 12 = .ok (.iconst 1, 1) := by decide +kernel
theorem dX8_has_13 : decode cX8_has 13 = .ok (.goto 4, 3) := by decide +kernel
theorem dX8_has_16 : decode cX8_has 16 = .ok (.iconst 0, 1) := by decide +kernel
theorem dX8_has_17 : decode cX8_has 17 = .ok (.ireturn, 1) := by decide +kernel
theorem dX8_open_0 : decode cX8_open 0 = .ok (.aload_n 0, 1) := by decide +kernel
theorem dX8_open_1 : decode cX8_open 1 = .ok (.getfield 51, 3) := by decide +kernel
theorem dX8_open_4 : decode cX8_open 4 = .ok (.istore 6, 2) := by decide +kernel
theorem dX8_open_6 : decode cX8_open 6 = .ok (.aload_n 0, 1) := by decide +kernel
theorem dX8_open_7 : decode cX8_open 7 = .ok (.getfield 9, 3) := by decide +kernel
theorem dX8_open_10 : decode cX8_open 10 = .ok (.iload 6, 2) := by decide +kernel
theorem dX8_open_12 : decode cX8_open 12 = .ok (.iload_n 1, 1) := by decide +kernel
theorem dX8_open_13 : decode cX8_open 13 = .ok (.iastore, 1) := by decide +kernel
theorem dX8_open_14 : decode cX8_open 14 = .ok (.aload_n 0, 1) := by decide +kernel
theorem dX8_open_15 : decode cX8_open 15 = .ok (.getfield 15, 3) := by decide +kernel
theorem dX8_open_18 : decode cX8_open 18 = .ok (.iload 6, 2) := by decide +kernel
theorem dX8_open_20 : decode cX8_open 20 = .ok (.iload_n 2, 1) := by decide +kernel
theorem dX8_open_21 : decode cX8_open 21 = .ok (.iastore, 1) := by decide +kernel
theorem dX8_open_22 : decode cX8_open 22 = .ok (.aload_n 0, 1) := by decide +kernel
theorem dX8_open_23 : decode cX8_open 23 = .ok (.getfield 18, 3) := by decide +kernel
theorem dX8_open_26 : decode cX8_open 26 = .ok (.iload 6, 2) := by decide +kernel
theorem dX8_open_28 : decode cX8_open 28 = .ok (.iload_n 3, 1) := by decide +kernel
theorem dX8_open_29 : decode cX8_open 29 = .ok (.iastore, 1) := by decide +kernel
theorem dX8_open_30 : decode cX8_open 30 = .ok (.aload_n 0, 1) := by decide +kernel
theorem dX8_open_31 : decode cX8_open 31 = .ok (.getfield 21, 3) := by decide +kernel
theorem dX8_open_34 : decode cX8_open 34 = .ok (.iload 6, 2) := by decide +kernel
theorem dX8_open_36 : decode cX8_open 36 = .ok (.iload 4, 2) := by decide +kernel
theorem dX8_open_38 : decode cX8_open 38 = .ok (.iastore, 1) := by decide +kernel
theorem dX8_open_39 : decode cX8_open 39 = .ok (.aload_n 0, 1) := by decide +kernel
theorem dX8_open_40 : decode cX8_open 40 = .ok (.getfield 24, 3) := by decide +kernel
theorem dX8_open_43 : decode cX8_open 43 = .ok (.iload 6, 2) := by decide +kernel
theorem dX8_open_45 : decode cX8_open 45 = .ok (.iload 5, 2) := by decide +kernel
theorem dX8_open_47 : decode cX8_open 47 = .ok (.iastore, 1) := by decide +kernel
theorem dX8_open_48 : decode cX8_open 48 = .ok (.aload_n 0, 1) := by decide +kernel
theorem dX8_open_49 : decode cX8_open 49 = .ok (.getfield 27, 3) := by decide +kernel
theorem dX8_open_52 : decode cX8_open 52 = .ok (.iload 6, 2) := by decide +kernel
theorem dX8_open_54 : decode cX8_open 54 = .ok (.iload_n 2, 1) := by decide +kernel
theorem dX8_open_55 : decode cX8_open 55 = .ok (.iload_n 3, 1) := by decide +kernel
theorem dX8_open_56 : decode cX8_open 56 = .ok (.imul, 1) := by decide +kernel
theorem dX8_open_57 : decode cX8_open 57 = .ok (.iastore, 1) := by decide +kernel
theorem dX8_open_58 : decode cX8_open 58 = .ok (.aload_n 0, 1) := by decide +kernel
theorem dX8_open_59 : decode cX8_open 59 = .ok (.getfield 30, 3) := by decide +kernel
theorem dX8_open_62 : decode cX8_open 62 = .ok (.iload 6, 2) := by decide +kernel
theorem dX8_open_64 : decode cX8_open 64 = .ok (.aload_n 0, 1) := by decide +kernel
theorem dX8_open_65 : decode cX8_open 65 = .ok (.getfield 27, 3) := by decide +kernel
theorem dX8_open_68 : decode cX8_open 68 = .ok (.iload 6, 2) := by decide +kernel
theorem dX8_open_70 : decode cX8_open 70 = .ok (.iaload, 1) := by decide +kernel
theorem dX8_open_71 : decode cX8_open 71 = .ok (.iload 4, 2) := by decide +kernel
theorem dX8_open_73 : decode cX8_open 73 = .ok (.imul, 1) := by decide +kernel
theorem dX8_open_74 : decode cX8_open 74 = .ok (.iastore, 1) := by decide +kernel
theorem dX8_open_75 : decode cX8_open 75 = .ok (.aload_n 0, 1) := by decide +kernel
theorem dX8_open_76 : decode cX8_open 76 = .ok (.getfield 33, 3) := by decide +kernel
theorem dX8_open_79 : decode cX8_open 79 = .ok (.iload 6, 2) := by decide +kernel
theorem dX8_open_81 : decode cX8_open 81 = .ok (.iconst 0, 1) := by decide +kernel
theorem dX8_open_82 : decode cX8_open 82 = .ok (.iastore, 1) := by decide +kernel
theorem dX8_open_83 : decode cX8_open 83 = .ok (.aload_n 0, 1) := by decide +kernel
theorem dX8_open_84 : decode cX8_open 84 = .ok (.getfield 36, 3) := by decide +kernel
theorem dX8_open_87 : decode cX8_open 87 = .ok (.iload 6, 2) := by decide +kernel
theorem dX8_open_89 : decode cX8_open 89 = .ok (.iconst 0, 1) := by decide +kernel
theorem dX8_open_90 : decode cX8_open 90 = .ok (.iastore, 1) := by decide +kernel
theorem dX8_open_91 : decode cX8_open 91 = .ok (.aload_n 0, 1) := by decide +kernel
theorem dX8_open_92 : decode cX8_open 92 = .ok (.getfield 39, 3) := by decide +kernel
theorem dX8_open_95 : decode cX8_open 95 = .ok (.iload 6, 2) := by decide +kernel
theorem dX8_open_97 : decode cX8_open 97 = .ok (.iconst 0, 1) := by decide +kernel
theorem dX8_open_98 : decode cX8_open 98 = .ok (.iastore, 1) := by decide +kernel
theorem dX8_open_99 : decode cX8_open 99 = .ok (.aload_n 0, 1) := by decide +kernel
theorem dX8_open_100 : decode cX8_open 100 = .ok (.getfield 42, 3) := by decide +kernel
theorem dX8_open_103 : decode cX8_open 103 = .ok (.iload 6, 2) := by decide +kernel
theorem dX8_open_105 : decode cX8_open 105 = .ok (.iconst 0, 1) := by decide +kernel
theorem dX8_open_106 : decode cX8_open 106 = .ok (.iastore, 1) := by decide +kernel
theorem dX8_open_107 : decode cX8_open 107 = .ok (.aload_n 0, 1) := by decide +kernel
theorem dX8_open_108 : decode cX8_open 108 = .ok (.getfield 45, 3) := by decide +kernel
theorem dX8_open_111 : decode cX8_open 111 = .ok (.iload 6, 2) := by decide +kernel
theorem dX8_open_113 : decode cX8_open 113 = .ok (.iconst 0, 1) := by decide +kernel
theorem dX8_open_114 : decode cX8_open 114 = .ok (.iastore, 1) := by decide +kernel
theorem dX8_open_115 : decode cX8_open 115 = .ok (.aload_n 0, 1) := by decide +kernel
theorem dX8_open_116 : decode cX8_open 116 = .ok (.dup, 1) := by decide +kernel
theorem dX8_open_117 : decode cX8_open 117 = .ok (.getfield 51, 3) := by decide +kernel
theorem dX8_open_120 : decode cX8_open 120 = .ok (.iconst 1, 1) := by decide +kernel
theorem dX8_open_121 : decode cX8_open 121 = .ok (.iadd, 1) := by decide +kernel
theorem dX8_open_122 : decode cX8_open 122 = .ok (.putfield 51, 3) := by decide +kernel
theorem dX8_open_125 : decode cX8_open 125 = .ok (.iconst 0, 1) := by decide +kernel
theorem dX8_open_126 : decode cX8_open 126 = .ok (.istore 7, 2) := by decide +kernel
theorem dX8_open_128 : decode cX8_open 128 = .ok (.iload 7, 2) := by decide +kernel
theorem dX8_open_130 : decode cX8_open 130 = .ok (.sipush 180, 3) := by decide +kernel
theorem dX8_open_133 : decode cX8_open 133 = .ok (.if_icmp .ge 24, 3) := by decide +kernel
theorem dX8_open_136 : decode cX8_open 136 = .ok (.aload_n 0, 1) := by decide +kernel
theorem dX8_open_137 : decode cX8_open 137 = .ok (.getfield 48, 3) := by decide +kernel
theorem dX8_open_140 : decode cX8_open 140 = .ok (.iload 6, 2) := by decide +kernel
theorem dX8_open_142 : decode cX8_open 142 = .ok (.sipush 180, 3) := by decide +kernel
theorem dX8_open_145 : decode cX8_open 145 = .ok (.imul, 1) := by decide +kernel
theorem dX8_open_146 : decode cX8_open 146 = .ok (.iload 7, 2) := by decide +kernel
theorem dX8_open_148 : decode cX8_open 148 = .ok (.iadd, 1) := by decide +kernel
theorem dX8_open_149 : decode cX8_open 149 = .ok (.iconst 0, 1) := by decide +kernel
theorem dX8_open_150 : decode cX8_open 150 = .ok (.iastore, 1) := by decide +kernel
theorem dX8_open_151 : decode cX8_open 151 = .ok (.iinc 7 1, 3) := by decide +kernel
theorem dX8_open_154 : decode cX8_open 154 = .ok (.goto (-26), 3) := by decide +kernel
theorem dX8_open_157 : decode cX8_open 157 = .ok (.iload 6, 2) := by decide +kernel
theorem dX8_open_159 : decode cX8_open 159 = .ok (.ireturn, 1) := by decide +kernel
theorem dX8_hasPlace_0 : decode cX8_hasPlace 0 = .ok (.aload_n 0, 1) := by decide +kernel
theorem dX8_hasPlace_1 : decode cX8_hasPlace 1 = .ok (.iload_n 1, 1) := by decide +kernel
theorem dX8_hasPlace_2 : decode cX8_hasPlace 2 = .ok (.invokevirtual 65, 3) := by decide +kernel
theorem dX8_hasPlace_5 : decode cX8_hasPlace 5 = .ok (.ifCond .eq 21, 3) := by decide +kernel
theorem dX8_hasPlace_8 : decode cX8_hasPlace 8 = .ok (.iload_n 2, 1) := by decide +kernel
theorem dX8_hasPlace_9 : decode cX8_hasPlace 9 = .ok (.ifCond .lt 17, 3) := by decide +kernel
theorem dX8_hasPlace_12 : decode cX8_hasPlace 12 = .ok (.iload_n 2, 1) := by decide +kernel
theorem dX8_hasPlace_13 : decode cX8_hasPlace 13 = .ok (.aload_n 0, 1) := by decide +kernel
theorem dX8_hasPlace_14 : decode cX8_hasPlace 14 = .ok (.getfield 30, 3) := by decide +kernel
theorem dX8_hasPlace_17 : decode cX8_hasPlace 17 = .ok (.iload_n 1, 1) := by decide +kernel
theorem dX8_hasPlace_18 : decode cX8_hasPlace 18 = .ok (.iaload, 1) := by decide +kernel
theorem dX8_hasPlace_19 : decode cX8_hasPlace 19 = .ok (.if_icmp .ge 7, 3) := by decide +kernel
theorem dX8_hasPlace_22 : decode cX8_hasPlace 22 = .ok (.iconst 1, 1) := by decide +kernel
theorem dX8_hasPlace_23 : decode cX8_hasPlace 23 = .ok (.goto 4, 3) := by decide +kernel
theorem dX8_hasPlace_26 : decode cX8_hasPlace 26 = .ok (.iconst 0, 1) := by decide +kernel
theorem dX8_hasPlace_27 : decode cX8_hasPlace 27 = .ok (.ireturn, 1) := by decide +kernel
theorem dX8_rowOf_0 : decode cX8_rowOf 0 = .ok (.aload_n 0, 1) := by decide +kernel
theorem dX8_rowOf_1 : decode cX8_rowOf 1 = .ok (.getfield 15, 3) := by decide +kernel
theorem dX8_rowOf_4 : decode cX8_rowOf 4 = .ok (.iload_n 1, 1) := by decide +kernel
theorem dX8_rowOf_5 : decode cX8_rowOf 5 = .ok (.iaload, 1) := by decide +kernel
theorem dX8_rowOf_6 : decode cX8_rowOf 6 = .ok (.iconst 1, 1) := by decide +kernel
theorem dX8_rowOf_7 : decode cX8_rowOf 7 = .ok (.if_icmp .ge 7, 3) := by decide +kernel
theorem dX8_rowOf_10 : decode cX8_rowOf 10 = .ok (.iconst 0, 1) := by decide +kernel
theorem dX8_rowOf_11 : decode cX8_rowOf 11 = .ok (.goto 11, 3) := by decide +kernel
theorem dX8_rowOf_14 : decode cX8_rowOf 14 = .ok (.iload_n 2, 1) := by decide +kernel
theorem dX8_rowOf_15 : decode cX8_rowOf 15 = .ok (.aload_n 0, 1) := by decide +kernel
theorem dX8_rowOf_16 : decode cX8_rowOf 16 = .ok (.getfield 15, 3) := by decide +kernel
theorem dX8_rowOf_19 : decode cX8_rowOf 19 = .ok (.iload_n 1, 1) := by decide +kernel
theorem dX8_rowOf_20 : decode cX8_rowOf 20 = .ok (.iaload, 1) := by decide +kernel
theorem dX8_rowOf_21 : decode cX8_rowOf 21 = .ok (.idiv, 1) := by decide +kernel
theorem dX8_rowOf_22 : decode cX8_rowOf 22 = .ok (.ireturn, 1) := by decide +kernel
theorem dX8_isLaid_0 : decode cX8_isLaid 0 = .ok (.iload_n 2, 1) := by decide +kernel
theorem dX8_isLaid_1 : decode cX8_isLaid 1 = .ok (.aload_n 0, 1) := by decide +kernel
theorem dX8_isLaid_2 : decode cX8_isLaid 2 = .ok (.getfield 18, 3) := by decide +kernel
theorem dX8_isLaid_5 : decode cX8_isLaid 5 = .ok (.iload_n 1, 1) := by decide +kernel
theorem dX8_isLaid_6 : decode cX8_isLaid 6 = .ok (.iaload, 1) := by decide +kernel
theorem dX8_isLaid_7 : decode cX8_isLaid 7 = .ok (.aload_n 0, 1) := by decide +kernel
theorem dX8_isLaid_8 : decode cX8_isLaid 8 = .ok (.getfield 21, 3) := by decide +kernel
theorem dX8_isLaid_11 : decode cX8_isLaid 11 = .ok (.iload_n 1, 1) := by decide +kernel
theorem dX8_isLaid_12 : decode cX8_isLaid 12 = .ok (.iaload, 1) := by decide +kernel
theorem dX8_isLaid_13 : decode cX8_isLaid 13 = .ok (.imul, 1) := by decide +kernel
theorem dX8_isLaid_14 : decode cX8_isLaid 14 = .ok (.if_icmp .ge 20, 3) := by decide +kernel
theorem dX8_isLaid_17 : decode cX8_isLaid 17 = .ok (.aload_n 0, 1) := by decide +kernel
theorem dX8_isLaid_18 : decode cX8_isLaid 18 = .ok (.getfield 45, 3) := by decide +kernel
theorem dX8_isLaid_21 : decode cX8_isLaid 21 = .ok (.iload_n 1, 1) := by decide +kernel
theorem dX8_isLaid_22 : decode cX8_isLaid 22 = .ok (.iaload, 1) := by decide +kernel
theorem dX8_isLaid_23 : decode cX8_isLaid 23 = .ok (.iload_n 2, 1) := by decide +kernel
theorem dX8_isLaid_24 : decode cX8_isLaid 24 = .ok (.iushr, 1) := by decide +kernel
theorem dX8_isLaid_25 : decode cX8_isLaid 25 = .ok (.iconst 1, 1) := by decide +kernel
theorem dX8_isLaid_26 : decode cX8_isLaid 26 = .ok (.iand, 1) := by decide +kernel
theorem dX8_isLaid_27 : decode cX8_isLaid 27 = .ok (.ifCond .eq 7, 3) := by decide +kernel
theorem dX8_isLaid_30 : decode cX8_isLaid 30 = .ok (.iconst 1, 1) := by decide +kernel
theorem dX8_isLaid_31 : decode cX8_isLaid 31 = .ok (.goto 4, 3) := by decide +kernel
theorem dX8_isLaid_34 : decode cX8_isLaid 34 = .ok (.iconst 0, 1) := by decide +kernel
theorem dX8_isLaid_35 : decode cX8_isLaid 35 = .ok (.ireturn, 1) := by decide +kernel
theorem dX8_isAllLaid_0 : decode cX8_isAllLaid 0 = .ok (.aload_n 0, 1) := by decide +kernel
theorem dX8_isAllLaid_1 : decode cX8_isAllLaid 1 = .ok (.getfield 45, 3) := by decide +kernel
theorem dX8_isAllLaid_4 : decode cX8_isAllLaid 4 = .ok (.iload_n 1, 1) := by decide +kernel
theorem dX8_isAllLaid_5 : decode cX8_isAllLaid 5 = .ok (.iaload, 1) := by decide +kernel
theorem dX8_isAllLaid_6 : decode cX8_isAllLaid 6 = .ok (.iconst 1, 1) := by decide +kernel
theorem dX8_isAllLaid_7 : decode cX8_isAllLaid 7 = .ok (.aload_n 0, 1) := by decide +kernel
theorem dX8_isAllLaid_8 : decode cX8_isAllLaid 8 = .ok (.getfield 18, 3) := by decide +kernel
theorem dX8_isAllLaid_11 : decode cX8_isAllLaid 11 = .ok (.iload_n 1, 1) := by decide +kernel
theorem dX8_isAllLaid_12 : decode cX8_isAllLaid 12 = .ok (.iaload, 1) := by decide +kernel
theorem dX8_isAllLaid_13 : decode cX8_isAllLaid 13 = .ok (.aload_n 0, 1) := by decide +kernel
theorem dX8_isAllLaid_14 : decode cX8_isAllLaid 14 = .ok (.getfield 21, 3) := by decide +kernel
theorem dX8_isAllLaid_17 : decode cX8_isAllLaid 17 = .ok (.iload_n 1, 1) := by decide +kernel
theorem dX8_isAllLaid_18 : decode cX8_isAllLaid 18 = .ok (.iaload, 1) := by decide +kernel
theorem dX8_isAllLaid_19 : decode cX8_isAllLaid 19 = .ok (.imul, 1) := by decide +kernel
theorem dX8_isAllLaid_20 : decode cX8_isAllLaid 20 = .ok (.ishl, 1) := by decide +kernel
theorem dX8_isAllLaid_21 : decode cX8_isAllLaid 21 = .ok (.iconst 1, 1) := by decide +kernel
theorem dX8_isAllLaid_22 : decode cX8_isAllLaid 22 = .ok (.isub, 1) := by decide +kernel
theorem dX8_isAllLaid_23 : decode cX8_isAllLaid 23 = .ok (.if_icmp .ne 7, 3) := by decide +kernel
theorem dX8_isAllLaid_26 : decode cX8_isAllLaid 26 = .ok (.iconst 1, 1) := by decide +kernel
theorem dX8_isAllLaid_27 : decode cX8_isAllLaid 27 = .ok (.goto 4, 3) := by decide +kernel
theorem dX8_isAllLaid_30 : decode cX8_isAllLaid 30 = .ok (.iconst 0, 1) := by decide +kernel
theorem dX8_isAllLaid_31 : decode cX8_isAllLaid 31 = .ok (.ireturn, 1) := by decide +kernel
theorem dX8_at_0 : decode cX8_at 0 = .ok (.iload_n 1, 1) := by decide +kernel
theorem dX8_at_1 : decode cX8_at 1 = .ok (.ifCond .lt 29, 3) := by decide +kernel
theorem dX8_at_4 : decode cX8_at 4 = .ok (.iload_n 1, 1) := by decide +kernel
theorem dX8_at_5 : decode cX8_at 5 = .ok (.aload_n 0, 1) := by decide +kernel
theorem dX8_at_6 : decode cX8_at 6 = .ok (.getfield 51, 3) := by decide +kernel
theorem dX8_at_9 : decode cX8_at 9 = .ok (.if_icmp .ge 21, 3) := by decide +kernel
theorem dX8_at_12 : decode cX8_at 12 = .ok (.iload_n 2, 1) := by decide +kernel
theorem dX8_at_13 : decode cX8_at 13 = .ok (.ifCond .lt 17, 3) := by decide +kernel
theorem dX8_at_16 : decode cX8_at 16 = .ok (.iload_n 2, 1) := by decide +kernel
theorem dX8_at_17 : decode cX8_at 17 = .ok (.aload_n 0, 1) := by decide +kernel
theorem dX8_at_18 : decode cX8_at 18 = .ok (.getfield 30, 3) := by decide +kernel
theorem dX8_at_21 : decode cX8_at 21 = .ok (.iload_n 1, 1) := by decide +kernel
theorem dX8_at_22 : decode cX8_at 22 = .ok (.iaload, 1) := by decide +kernel
theorem dX8_at_23 : decode cX8_at 23 = .ok (.if_icmp .ge 7, 3) := by decide +kernel
theorem dX8_at_26 : decode cX8_at 26 = .ok (.iconst 1, 1) := by decide +kernel
theorem dX8_at_27 : decode cX8_at 27 = .ok (.goto 4, 3) := by decide +kernel
theorem dX8_at_30 : decode cX8_at 30 = .ok (.iconst 0, 1) := by decide +kernel
theorem dX8_at_31 : decode cX8_at 31 = .ok (.istore_n 3, 1) := by decide +kernel
theorem dX8_at_32 : decode cX8_at 32 = .ok (.iload_n 3, 1) := by decide +kernel
theorem dX8_at_33 : decode cX8_at 33 = .ok (.ifCond .eq 18, 3) := by decide +kernel
theorem dX8_at_36 : decode cX8_at 36 = .ok (.aload_n 0, 1) := by decide +kernel
theorem dX8_at_37 : decode cX8_at 37 = .ok (.getfield 48, 3) := by decide +kernel
theorem dX8_at_40 : decode cX8_at 40 = .ok (.iload_n 1, 1) := by decide +kernel
theorem dX8_at_41 : decode cX8_at 41 = .ok (.sipush 180, 3) := by decide +kernel
theorem dX8_at_44 : decode cX8_at 44 = .ok (.imul, 1) := by decide +kernel
theorem dX8_at_45 : decode cX8_at 45 = .ok (.iload_n 2, 1) := by decide +kernel
theorem dX8_at_46 : decode cX8_at 46 = .ok (.iadd, 1) := by decide +kernel
theorem dX8_at_47 : decode cX8_at 47 = .ok (.iaload, 1) := by decide +kernel
theorem dX8_at_48 : decode cX8_at 48 = .ok (.goto 4, 3) := by decide +kernel
theorem dX8_at_51 : decode cX8_at 51 = .ok (.iconst 0, 1) := by decide +kernel
theorem dX8_at_52 : decode cX8_at 52 = .ok (.ireturn, 1) := by decide +kernel
theorem dX8_fill_0 : decode cX8_fill 0 = .ok (.aload_n 0, 1) := by decide +kernel
theorem dX8_fill_1 : decode cX8_fill 1 = .ok (.iload_n 1, 1) := by decide +kernel
theorem dX8_fill_2 : decode cX8_fill 2 = .ok (.iload_n 2, 1) := by decide +kernel
theorem dX8_fill_3 : decode cX8_fill 3 = .ok (.invokevirtual 69, 3) := by decide +kernel
theorem dX8_fill_6 : decode cX8_fill 6 = .ok (.ifCond .ne 4, 3) := by decide +kernel
theorem dX8_fill_9 : decode cX8_fill 9 = .ok (.return_, 1) := by decide +kernel
theorem dX8_fill_10 : decode cX8_fill 10 = .ok (.aload_n 0, 1) := by decide +kernel
theorem dX8_fill_11 : decode cX8_fill 11 = .ok (.iload_n 1, 1) := by decide +kernel
theorem dX8_fill_12 : decode cX8_fill 12 = .ok (.iload_n 2, 1) := by decide +kernel
theorem dX8_fill_13 : decode cX8_fill 13 = .ok (.invokevirtual 73, 3) := by decide +kernel
theorem dX8_fill_16 : decode cX8_fill 16 = .ok (.ifCond .eq 38, 3) := by decide +kernel
theorem dX8_fill_19 : decode cX8_fill 19 = .ok (.aload_n 0, 1) := by decide +kernel
theorem dX8_fill_20 : decode cX8_fill 20 = .ok (.getfield 42, 3) := by decide +kernel
theorem dX8_fill_23 : decode cX8_fill 23 = .ok (.iload_n 1, 1) := by decide +kernel
theorem dX8_fill_24 : decode cX8_fill 24 = .ok (.dup2, 1) := by decide +kernel
theorem dX8_fill_25 : decode cX8_fill 25 = .ok (.iaload, 1) := by decide +kernel
theorem dX8_fill_26 : decode cX8_fill 26 = .ok (.iload_n 3, 1) := by decide +kernel
theorem dX8_fill_27 : decode cX8_fill 27 = .ok (.iconst 2, 1) := by decide +kernel
theorem dX8_fill_28 : decode cX8_fill 28 = .ok (.if_icmp .ne 7, 3) := by decide +kernel
theorem dX8_fill_31 : decode cX8_fill 31 = .ok (.iconst 1, 1) := by decide +kernel
theorem dX8_fill_32 : decode cX8_fill 32 = .ok (.goto 4, 3) := by decide +kernel
theorem dX8_fill_35 : decode cX8_fill 35 = .ok (.iconst 0, 1) := by decide +kernel
theorem dX8_fill_36 : decode cX8_fill 36 = .ok (.aload_n 0, 1) := by decide +kernel
theorem dX8_fill_37 : decode cX8_fill 37 = .ok (.iload_n 1, 1) := by decide +kernel
theorem dX8_fill_38 : decode cX8_fill 38 = .ok (.iload_n 2, 1) := by decide +kernel
theorem dX8_fill_39 : decode cX8_fill 39 = .ok (.invokevirtual 76, 3) := by decide +kernel
theorem dX8_fill_42 : decode cX8_fill 42 = .ok (.iconst 2, 1) := by decide +kernel
theorem dX8_fill_43 : decode cX8_fill 43 = .ok (.if_icmp .ne 7, 3) := by decide +kernel
theorem dX8_fill_46 : decode cX8_fill 46 = .ok (.iconst 1, 1) := by decide +kernel
theorem dX8_fill_47 : decode cX8_fill 47 = .ok (.goto 4, 3) := by decide +kernel
theorem dX8_fill_50 : decode cX8_fill 50 = .ok (.iconst 0, 1) := by decide +kernel
theorem dX8_fill_51 : decode cX8_fill 51 = .ok (.isub, 1) := by decide +kernel
theorem dX8_fill_52 : decode cX8_fill 52 = .ok (.iadd, 1) := by decide +kernel
theorem dX8_fill_53 : decode cX8_fill 53 = .ok (.iastore, 1) := by decide +kernel
theorem dX8_fill_54 : decode cX8_fill 54 = .ok (.aload_n 0, 1) := by decide +kernel
theorem dX8_fill_55 : decode cX8_fill 55 = .ok (.getfield 48, 3) := by decide +kernel
theorem dX8_fill_58 : decode cX8_fill 58 = .ok (.iload_n 1, 1) := by decide +kernel
theorem dX8_fill_59 : decode cX8_fill 59 = .ok (.sipush 180, 3) := by decide +kernel
theorem dX8_fill_62 : decode cX8_fill 62 = .ok (.imul, 1) := by decide +kernel
theorem dX8_fill_63 : decode cX8_fill 63 = .ok (.iload_n 2, 1) := by decide +kernel
theorem dX8_fill_64 : decode cX8_fill 64 = .ok (.iadd, 1) := by decide +kernel
theorem dX8_fill_65 : decode cX8_fill 65 = .ok (.iload_n 3, 1) := by decide +kernel
theorem dX8_fill_66 : decode cX8_fill 66 = .ok (.iastore, 1) := by decide +kernel
theorem dX8_fill_67 : decode cX8_fill 67 = .ok (.return_, 1) := by decide +kernel
theorem dX8_above_0 : decode cX8_above 0 = .ok (.aload_n 0, 1) := by decide +kernel
theorem dX8_above_1 : decode cX8_above 1 = .ok (.iload_n 1, 1) := by decide +kernel
theorem dX8_above_2 : decode cX8_above 2 = .ok (.iload_n 2, 1) := by decide +kernel
theorem dX8_above_3 : decode cX8_above 3 = .ok (.aload_n 0, 1) := by decide +kernel
theorem dX8_above_4 : decode cX8_above 4 = .ok (.getfield 27, 3) := by decide +kernel
theorem dX8_above_7 : decode cX8_above 7 = .ok (.iload_n 1, 1) := by decide +kernel
theorem dX8_above_8 : decode cX8_above 8 = .ok (.iaload, 1) := by decide +kernel
theorem dX8_above_9 : decode cX8_above 9 = .ok (.iadd, 1) := by decide +kernel
theorem dX8_above_10 : decode cX8_above 10 = .ok (.invokevirtual 76, 3) := by decide +kernel
theorem dX8_above_13 : decode cX8_above 13 = .ok (.ireturn, 1) := by decide +kernel
theorem dX8_isOnFloor_0 : decode cX8_isOnFloor 0 = .ok (.iload_n 2, 1) := by decide +kernel
theorem dX8_isOnFloor_1 : decode cX8_isOnFloor 1 = .ok (.aload_n 0, 1) := by decide +kernel
theorem dX8_isOnFloor_2 : decode cX8_isOnFloor 2 = .ok (.getfield 27, 3) := by decide +kernel
theorem dX8_isOnFloor_5 : decode cX8_isOnFloor 5 = .ok (.iload_n 1, 1) := by decide +kernel
theorem dX8_isOnFloor_6 : decode cX8_isOnFloor 6 = .ok (.iaload, 1) := by decide +kernel
theorem dX8_isOnFloor_7 : decode cX8_isOnFloor 7 = .ok (.if_icmp .ge 7, 3) := by decide +kernel
theorem dX8_isOnFloor_10 : decode cX8_isOnFloor 10 = .ok (.iconst 1, 1) := by decide +kernel
theorem dX8_isOnFloor_11 : decode cX8_isOnFloor 11 = .ok (.goto 4, 3) := by decide +kernel
theorem dX8_isOnFloor_14 : decode cX8_isOnFloor 14 = .ok (.iconst 0, 1) := by decide +kernel
theorem dX8_isOnFloor_15 : decode cX8_isOnFloor 15 = .ok (.ireturn, 1) := by decide +kernel
theorem dX8_bears_0 : decode cX8_bears 0 = .ok (.aload_n 0, 1) := by decide +kernel
theorem dX8_bears_1 : decode cX8_bears 1 = .ok (.iload_n 1, 1) := by decide +kernel
theorem dX8_bears_2 : decode cX8_bears 2 = .ok (.iload_n 2, 1) := by decide +kernel
theorem dX8_bears_3 : decode cX8_bears 3 = .ok (.aload_n 0, 1) := by decide +kernel
theorem dX8_bears_4 : decode cX8_bears 4 = .ok (.getfield 27, 3) := by decide +kernel
theorem dX8_bears_7 : decode cX8_bears 7 = .ok (.iload_n 1, 1) := by decide +kernel
theorem dX8_bears_8 : decode cX8_bears 8 = .ok (.iaload, 1) := by decide +kernel
theorem dX8_bears_9 : decode cX8_bears 9 = .ok (.isub, 1) := by decide +kernel
theorem dX8_bears_10 : decode cX8_bears 10 = .ok (.invokevirtual 76, 3) := by decide +kernel
theorem dX8_bears_13 : decode cX8_bears 13 = .ok (.istore_n 3, 1) := by decide +kernel
theorem dX8_bears_14 : decode cX8_bears 14 = .ok (.aload_n 0, 1) := by decide +kernel
theorem dX8_bears_15 : decode cX8_bears 15 = .ok (.iload_n 1, 1) := by decide +kernel
theorem dX8_bears_16 : decode cX8_bears 16 = .ok (.iload_n 2, 1) := by decide +kernel
theorem dX8_bears_17 : decode cX8_bears 17 = .ok (.invokevirtual 73, 3) := by decide +kernel
theorem dX8_bears_20 : decode cX8_bears 20 = .ok (.ifCond .ne 14, 3) := by decide +kernel
theorem dX8_bears_23 : decode cX8_bears 23 = .ok (.iload_n 3, 1) := by decide +kernel
theorem dX8_bears_24 : decode cX8_bears 24 = .ok (.iconst 1, 1) := by decide +kernel
theorem dX8_bears_25 : decode cX8_bears 25 = .ok (.if_icmp .eq 9, 3) := by decide +kernel
theorem dX8_bears_28 : decode cX8_bears 28 = .ok (.iload_n 3, 1) := by decide +kernel
theorem dX8_bears_29 : decode cX8_bears 29 = .ok (.bipush 10, 2) := by decide +kernel
theorem dX8_bears_31 : decode cX8_bears 31 = .ok (.if_icmp .lt 7, 3) := by decide +kernel
theorem dX8_bears_34 : decode cX8_bears 34 = .ok (.iconst 1, 1) := by decide +kernel
theorem dX8_bears_35 : decode cX8_bears 35 = .ok (.goto 4, 3) := by decide +kernel
theorem dX8_bears_38 : decode cX8_bears 38 = .ok (.iconst 0, 1) := by decide +kernel
theorem dX8_bears_39 : decode cX8_bears 39 = .ok (.ireturn, 1) := by decide +kernel
theorem dX8_isRowBare_0 : decode cX8_isRowBare 0 = .ok (.iload_n 2, 1) := by decide +kernel
theorem dX8_isRowBare_1 : decode cX8_isRowBare 1 = .ok (.aload_n 0, 1) := by decide +kernel
theorem dX8_isRowBare_2 : decode cX8_isRowBare 2 = .ok (.getfield 15, 3) := by decide +kernel
theorem dX8_isRowBare_5 : decode cX8_isRowBare 5 = .ok (.iload_n 1, 1) := by decide +kernel
theorem dX8_isRowBare_6 : decode cX8_isRowBare 6 = .ok (.iaload, 1) := by decide +kernel
theorem dX8_isRowBare_7 : decode cX8_isRowBare 7 = .ok (.imul, 1) := by decide +kernel
theorem dX8_isRowBare_8 : decode cX8_isRowBare 8 = .ok (.istore_n 3, 1) := by decide +kernel
theorem dX8_isRowBare_9 : decode cX8_isRowBare 9 = .ok (.iconst 0, 1) := by decide +kernel
theorem dX8_isRowBare_10 : decode cX8_isRowBare 10 = .ok (.istore 4, 2) := by decide +kernel
theorem dX8_isRowBare_12 : decode cX8_isRowBare 12 = .ok (.iload 4, 2) := by decide +kernel
theorem dX8_isRowBare_14 : decode cX8_isRowBare 14 = .ok (.aload_n 0, 1) := by decide +kernel
theorem dX8_isRowBare_15 : decode cX8_isRowBare 15 = .ok (.getfield 15, 3) := by decide +kernel
theorem dX8_isRowBare_18 : decode cX8_isRowBare 18 = .ok (.iload_n 1, 1) := by decide +kernel
theorem dX8_isRowBare_19 : decode cX8_isRowBare 19 = .ok (.iaload, 1) := by decide +kernel
theorem dX8_isRowBare_20 : decode cX8_isRowBare 20 = .ok (.if_icmp .ge 23, 3) := by decide +kernel
theorem dX8_isRowBare_23 : decode cX8_isRowBare 23 = .ok (.aload_n 0, 1) := by decide +kernel
theorem dX8_isRowBare_24 : decode cX8_isRowBare 24 = .ok (.iload_n 1, 1) := by decide +kernel
theorem dX8_isRowBare_25 : decode cX8_isRowBare 25 = .ok (.iload_n 3, 1) := by decide +kernel
theorem dX8_isRowBare_26 : decode cX8_isRowBare 26 = .ok (.iload 4, 2) := by decide +kernel
theorem dX8_isRowBare_28 : decode cX8_isRowBare 28 = .ok (.iadd, 1) := by decide +kernel
theorem dX8_isRowBare_29 : decode cX8_isRowBare 29 = .ok (.invokevirtual 76, 3) := by decide +kernel
theorem dX8_isRowBare_32 : decode cX8_isRowBare 32 = .ok (.ifCond .eq 5, 3) := by decide +kernel
theorem dX8_isRowBare_35 : decode cX8_isRowBare 35 = .ok (.iconst 0, 1) := by decide +kernel
theorem dX8_isRowBare_36 : decode cX8_isRowBare 36 = .ok (.ireturn, 1) := by decide +kernel
theorem dX8_isRowBare_37 : decode cX8_isRowBare 37 = .ok (.iinc 4 1, 3) := by decide +kernel
theorem dX8_isRowBare_40 : decode cX8_isRowBare 40 = .ok (.goto (-28), 3) := by decide +kernel
theorem dX8_isRowBare_43 : decode cX8_isRowBare 43 = .ok (.iconst 1, 1) := by decide +kernel
theorem dX8_isRowBare_44 : decode cX8_isRowBare 44 = .ok (.ireturn, 1) := by decide +kernel
theorem dX8_isBare_0 : decode cX8_isBare 0 = .ok (.aload_n 0, 1) := by decide +kernel
theorem dX8_isBare_1 : decode cX8_isBare 1 = .ok (.getfield 18, 3) := by decide +kernel
theorem dX8_isBare_4 : decode cX8_isBare 4 = .ok (.iload_n 1, 1) := by decide +kernel
theorem dX8_isBare_5 : decode cX8_isBare 5 = .ok (.iaload, 1) := by decide +kernel
theorem dX8_isBare_6 : decode cX8_isBare 6 = .ok (.aload_n 0, 1) := by decide +kernel
theorem dX8_isBare_7 : decode cX8_isBare 7 = .ok (.getfield 21, 3) := by decide +kernel
theorem dX8_isBare_10 : decode cX8_isBare 10 = .ok (.iload_n 1, 1) := by decide +kernel
theorem dX8_isBare_11 : decode cX8_isBare 11 = .ok (.iaload, 1) := by decide +kernel
theorem dX8_isBare_12 : decode cX8_isBare 12 = .ok (.imul, 1) := by decide +kernel
theorem dX8_isBare_13 : decode cX8_isBare 13 = .ok (.istore_n 2, 1) := by decide +kernel
theorem dX8_isBare_14 : decode cX8_isBare 14 = .ok (.iconst 0, 1) := by decide +kernel
theorem dX8_isBare_15 : decode cX8_isBare 15 = .ok (.istore_n 3, 1) := by decide +kernel
theorem dX8_isBare_16 : decode cX8_isBare 16 = .ok (.iload_n 3, 1) := by decide +kernel
theorem dX8_isBare_17 : decode cX8_isBare 17 = .ok (.iload_n 2, 1) := by decide +kernel
theorem dX8_isBare_18 : decode cX8_isBare 18 = .ok (.if_icmp .ge 20, 3) := by decide +kernel
theorem dX8_isBare_21 : decode cX8_isBare 21 = .ok (.aload_n 0, 1) := by decide +kernel
theorem dX8_isBare_22 : decode cX8_isBare 22 = .ok (.iload_n 1, 1) := by decide +kernel
theorem dX8_isBare_23 : decode cX8_isBare 23 = .ok (.iload_n 3, 1) := by decide +kernel
theorem dX8_isBare_24 : decode cX8_isBare 24 = .ok (.invokevirtual 80, 3) := by decide +kernel
theorem dX8_isBare_27 : decode cX8_isBare 27 = .ok (.ifCond .ne 5, 3) := by decide +kernel
theorem dX8_isBare_30 : decode cX8_isBare 30 = .ok (.iconst 0, 1) := by decide +kernel
theorem dX8_isBare_31 : decode cX8_isBare 31 = .ok (.ireturn, 1) := by decide +kernel
theorem dX8_isBare_32 : decode cX8_isBare 32 = .ok (.iinc 3 1, 3) := by decide +kernel
theorem dX8_isBare_35 : decode cX8_isBare 35 = .ok (.goto (-19), 3) := by decide +kernel
theorem dX8_isBare_38 : decode cX8_isBare 38 = .ok (.iconst 1, 1) := by decide +kernel
theorem dX8_isBare_39 : decode cX8_isBare 39 = .ok (.ireturn, 1) := by decide +kernel
theorem dX8_mayHoldStraw_0 : decode cX8_mayHoldStraw 0 = .ok (.aload_n 0, 1) := by decide +kernel
theorem dX8_mayHoldStraw_1 : decode cX8_mayHoldStraw 1 = .ok (.getfield 9, 3) := by decide +kernel
theorem dX8_mayHoldStraw_4 : decode cX8_mayHoldStraw 4 = .ok (.iload_n 1, 1) := by decide +kernel
theorem dX8_mayHoldStraw_5 : decode cX8_mayHoldStraw 5 = .ok (.iaload, 1) := by decide +kernel
theorem dX8_mayHoldStraw_6 : decode cX8_mayHoldStraw 6 = .ok (.iconst 4, 1) := by decide +kernel
theorem dX8_mayHoldStraw_7 : decode cX8_mayHoldStraw 7 = .ok (.if_icmp .eq 27, 3) := by decide +kernel
theorem dX8_mayHoldStraw_10 : decode cX8_mayHoldStraw 10 = .ok (.aload_n 0, 1) := by decide +kernel
theorem dX8_mayHoldStraw_11 : decode cX8_mayHoldStraw 11 = .ok (.getfield 9, 3) := by decide +kernel
theorem dX8_mayHoldStraw_14 : decode cX8_mayHoldStraw 14 = .ok (.iload_n 1, 1) := by decide +kernel
theorem dX8_mayHoldStraw_15 : decode cX8_mayHoldStraw 15 = .ok (.iaload, 1) := by decide +kernel
theorem dX8_mayHoldStraw_16 : decode cX8_mayHoldStraw 16 = .ok (.iconst 3, 1) := by decide +kernel
theorem dX8_mayHoldStraw_17 : decode cX8_mayHoldStraw 17 = .ok (.if_icmp .ne 13, 3) := by decide +kernel
theorem dX8_mayHoldStraw_20 : decode cX8_mayHoldStraw 20 = .ok (.aload_n 0, 1) := by decide +kernel
theorem dX8_mayHoldStraw_21 : decode cX8_mayHoldStraw 21 = .ok (.getfield 21, 3) := by decide +kernel
theorem dX8_mayHoldStraw_24 : decode cX8_mayHoldStraw 24 = .ok (.iload_n 1, 1) := by decide +kernel
theorem dX8_mayHoldStraw_25 : decode cX8_mayHoldStraw 25 = .ok (.iaload, 1) := by decide +kernel
theorem dX8_mayHoldStraw_26 : decode cX8_mayHoldStraw 26 = .ok (.iconst 1, 1) := by decide +kernel
theorem dX8_mayHoldStraw_27 : decode cX8_mayHoldStraw 27 = .ok (.if_icmp .le 7, 3) := by decide +kernel
theorem dX8_mayHoldStraw_30 : decode cX8_mayHoldStraw 30 = .ok (.iconst 1, 1) := by decide +kernel
theorem dX8_mayHoldStraw_31 : decode cX8_mayHoldStraw 31 = .ok (.goto 4, 3) := by decide +kernel
theorem dX8_mayHoldStraw_34 : decode cX8_mayHoldStraw 34 = .ok (.iconst 0, 1) := by decide +kernel
theorem dX8_mayHoldStraw_35 : decode cX8_mayHoldStraw 35 = .ok (.ireturn, 1) := by decide +kernel
theorem dX8_isFreeBlock_0 : decode cX8_isFreeBlock 0 = .ok (.aload_n 0, 1) := by decide +kernel
theorem dX8_isFreeBlock_1 : decode cX8_isFreeBlock 1 = .ok (.iload_n 1, 1) := by decide +kernel
theorem dX8_isFreeBlock_2 : decode cX8_isFreeBlock 2 = .ok (.iload_n 2, 1) := by decide +kernel
theorem dX8_isFreeBlock_3 : decode cX8_isFreeBlock 3 = .ok (.invokevirtual 76, 3) := by decide +kernel
theorem dX8_isFreeBlock_6 : decode cX8_isFreeBlock 6 = .ok (.bipush 10, 2) := by decide +kernel
theorem dX8_isFreeBlock_8 : decode cX8_isFreeBlock 8 = .ok (.if_icmp .lt 18, 3) := by decide +kernel
theorem dX8_isFreeBlock_11 : decode cX8_isFreeBlock 11 = .ok (.aload_n 0, 1) := by decide +kernel
theorem dX8_isFreeBlock_12 : decode cX8_isFreeBlock 12 = .ok (.iload_n 1, 1) := by decide +kernel
theorem dX8_isFreeBlock_13 : decode cX8_isFreeBlock 13 = .ok (.iload_n 2, 1) := by decide +kernel
theorem dX8_isFreeBlock_14 : decode cX8_isFreeBlock 14 = .ok (.invokevirtual 83, 3) := by decide +kernel
theorem dX8_isFreeBlock_17 : decode cX8_isFreeBlock 17 = .ok (.bipush 10, 2) := by decide +kernel
theorem dX8_isFreeBlock_19 : decode cX8_isFreeBlock 19 = .ok (.if_icmp .ge 7, 3) := by decide +kernel
theorem dX8_isFreeBlock_22 : decode cX8_isFreeBlock 22 = .ok (.iconst 1, 1) := by decide +kernel
theorem dX8_isFreeBlock_23 : decode cX8_isFreeBlock 23 = .ok (.goto 4, 3) := by decide +kernel
theorem dX8_isFreeBlock_26 : decode cX8_isFreeBlock 26 = .ok (.iconst 0, 1) := by decide +kernel
theorem dX8_isFreeBlock_27 : decode cX8_isFreeBlock 27 = .ok (.ireturn, 1) := by decide +kernel
theorem dX8_freeOnesIn_0 : decode cX8_freeOnesIn 0 = .ok (.iconst 0, 1) := by decide +kernel
theorem dX8_freeOnesIn_1 : decode cX8_freeOnesIn 1 = .ok (.istore_n 2, 1) := by decide +kernel
theorem dX8_freeOnesIn_2 : decode cX8_freeOnesIn 2 = .ok (.iconst 0, 1) := by decide +kernel
theorem dX8_freeOnesIn_3 : decode cX8_freeOnesIn 3 = .ok (.istore_n 3, 1) := by decide +kernel
theorem dX8_freeOnesIn_4 : decode cX8_freeOnesIn 4 = .ok (.iload_n 3, 1) := by decide +kernel
theorem dX8_freeOnesIn_5 : decode cX8_freeOnesIn 5 = .ok (.aload_n 0, 1) := by decide +kernel
theorem dX8_freeOnesIn_6 : decode cX8_freeOnesIn 6 = .ok (.getfield 30, 3) := by decide +kernel
theorem dX8_freeOnesIn_9 : decode cX8_freeOnesIn 9 = .ok (.iload_n 1, 1) := by decide +kernel
theorem dX8_freeOnesIn_10 : decode cX8_freeOnesIn 10 = .ok (.iaload, 1) := by decide +kernel
theorem dX8_freeOnesIn_11 : decode cX8_freeOnesIn 11 = .ok (.if_icmp .ge 21, 3) := by decide +kernel
theorem dX8_freeOnesIn_14 : decode cX8_freeOnesIn 14 = .ok (.aload_n 0, 1) := by decide +kernel
theorem dX8_freeOnesIn_15 : decode cX8_freeOnesIn 15 = .ok (.iload_n 1, 1) := by decide +kernel
theorem dX8_freeOnesIn_16 : decode cX8_freeOnesIn 16 = .ok (.iload_n 3, 1) := by decide +kernel
theorem dX8_freeOnesIn_17 : decode cX8_freeOnesIn 17 = .ok (.invokevirtual 86, 3) := by decide +kernel
theorem dX8_freeOnesIn_20 : decode cX8_freeOnesIn 20 = .ok (.ifCond .eq 6, 3) := by decide +kernel
theorem dX8_freeOnesIn_23 : decode cX8_freeOnesIn 23 = .ok (.iinc 2 1, 3) := by decide +kernel
theorem dX8_freeOnesIn_26 : decode cX8_freeOnesIn 26 = .ok (.iinc 3 1, 3) := by decide +kernel
theorem dX8_freeOnesIn_29 : decode cX8_freeOnesIn 29 = .ok (.goto (-25), 3) := by decide +kernel
theorem dX8_freeOnesIn_32 : decode cX8_freeOnesIn 32 = .ok (.iload_n 2, 1) := by decide +kernel
theorem dX8_freeOnesIn_33 : decode cX8_freeOnesIn 33 = .ok (.ireturn, 1) := by decide +kernel
theorem dX8_hasDrainOnFloor_0 : decode cX8_hasDrainOnFloor 0 = .ok (.aload_n 0, 1) := by decide +kernel
theorem dX8_hasDrainOnFloor_1 : decode cX8_hasDrainOnFloor 1 = .ok (.getfield 42, 3) := by decide +kernel
theorem dX8_hasDrainOnFloor_4 : decode cX8_hasDrainOnFloor 4 = .ok (.iload_n 1, 1) := by decide +kernel
theorem dX8_hasDrainOnFloor_5 : decode cX8_hasDrainOnFloor 5 = .ok (.iaload, 1) := by decide +kernel
theorem dX8_hasDrainOnFloor_6 : decode cX8_hasDrainOnFloor 6 = .ok (.ifCond .le 7, 3) := by decide +kernel
theorem dX8_hasDrainOnFloor_9 : decode cX8_hasDrainOnFloor 9 = .ok (.iconst 1, 1) := by decide +kernel
theorem dX8_hasDrainOnFloor_10 : decode cX8_hasDrainOnFloor 10 = .ok (.goto 4, 3) := by decide +kernel
theorem dX8_hasDrainOnFloor_13 : decode cX8_hasDrainOnFloor 13 = .ok (.iconst 0, 1) := by decide +kernel
theorem dX8_hasDrainOnFloor_14 : decode cX8_hasDrainOnFloor 14 = .ok (.ireturn, 1) := by decide +kernel
theorem dX8_isDrained_0 : decode cX8_isDrained 0 = .ok (.aload_n 0, 1) := by decide +kernel
theorem dX8_isDrained_1 : decode cX8_isDrained 1 = .ok (.iload_n 1, 1) := by decide +kernel
theorem dX8_isDrained_2 : decode cX8_isDrained 2 = .ok (.invokevirtual 89, 3) := by decide +kernel
theorem dX8_isDrained_5 : decode cX8_isDrained 5 = .ok (.ifCond .eq 5, 3) := by decide +kernel
theorem dX8_isDrained_8 : decode cX8_isDrained 8 = .ok (.iconst 1, 1) := by decide +kernel
theorem dX8_isDrained_9 : decode cX8_isDrained 9 = .ok (.ireturn, 1) := by decide +kernel
theorem dX8_isDrained_10 : decode cX8_isDrained 10 = .ok (.iload_n 2, 1) := by decide +kernel
theorem dX8_isDrained_11 : decode cX8_isDrained 11 = .ok (.istore_n 3, 1) := by decide +kernel
theorem dX8_isDrained_12 : decode cX8_isDrained 12 = .ok (.iconst 1, 1) := by decide +kernel
theorem dX8_isDrained_13 : decode cX8_isDrained 13 = .ok (.istore 4, 2) := by decide +kernel
theorem dX8_isDrained_15 : decode cX8_isDrained 15 = .ok (.iload 4, 2) := by decide +kernel
theorem dX8_isDrained_17 : decode cX8_isDrained 17 = .ok (.iconst 5, 1) := by decide +kernel
theorem dX8_isDrained_18 : decode cX8_isDrained 18 = .ok (.if_icmp .ge 30, 3) := by decide +kernel
theorem dX8_isDrained_21 : decode cX8_isDrained 21 = .ok (.iload_n 3, 1) := by decide +kernel
theorem dX8_isDrained_22 : decode cX8_isDrained 22 = .ok (.aload_n 0, 1) := by decide +kernel
theorem dX8_isDrained_23 : decode cX8_isDrained 23 = .ok (.getfield 27, 3) := by decide +kernel
theorem dX8_isDrained_26 : decode cX8_isDrained 26 = .ok (.iload_n 1, 1) := by decide +kernel
theorem dX8_isDrained_27 : decode cX8_isDrained 27 = .ok (.iaload, 1) := by decide +kernel
theorem dX8_isDrained_28 : decode cX8_isDrained 28 = .ok (.isub, 1) := by decide +kernel
theorem dX8_isDrained_29 : decode cX8_isDrained 29 = .ok (.istore_n 3, 1) := by decide +kernel
theorem dX8_isDrained_30 : decode cX8_isDrained 30 = .ok (.aload_n 0, 1) := by decide +kernel
theorem dX8_isDrained_31 : decode cX8_isDrained 31 = .ok (.iload_n 1, 1) := by decide +kernel
theorem dX8_isDrained_32 : decode cX8_isDrained 32 = .ok (.iload_n 3, 1) := by decide +kernel
theorem dX8_isDrained_33 : decode cX8_isDrained 33 = .ok (.invokevirtual 76, 3) := by decide +kernel
theorem dX8_isDrained_36 : decode cX8_isDrained 36 = .ok (.iconst 2, 1) := by decide +kernel
theorem dX8_isDrained_37 : decode cX8_isDrained 37 = .ok (.if_icmp .ne 5, 3) := by decide +kernel
theorem dX8_isDrained_40 : decode cX8_isDrained 40 = .ok (.iconst 1, 1) := by decide +kernel
theorem dX8_isDrained_41 : decode cX8_isDrained 41 = .ok (.ireturn, 1) := by decide +kernel
theorem dX8_isDrained_42 : decode cX8_isDrained 42 = .ok (.iinc 4 1, 3) := by decide +kernel
theorem dX8_isDrained_45 : decode cX8_isDrained 45 = .ok (.goto (-30), 3) := by decide +kernel
theorem dX8_isDrained_48 : decode cX8_isDrained 48 = .ok (.iconst 0, 1) := by decide +kernel
theorem dX8_isDrained_49 : decode cX8_isDrained 49 = .ok (.ireturn, 1) := by decide +kernel
theorem dX8_standsInWater_0 : decode cX8_standsInWater 0 = .ok (.aload_n 0, 1) := by decide +kernel
theorem dX8_standsInWater_1 : decode cX8_standsInWater 1 = .ok (.getfield 9, 3) := by decide +kernel
theorem dX8_standsInWater_4 : decode cX8_standsInWater 4 = .ok (.iload_n 1, 1) := by decide +kernel
theorem dX8_standsInWater_5 : decode cX8_standsInWater 5 = .ok (.iaload, 1) := by decide +kernel
theorem dX8_standsInWater_6 : decode cX8_standsInWater 6 = .ok (.iconst 5, 1) := by decide +kernel
theorem dX8_standsInWater_7 : decode cX8_standsInWater 7 = .ok (.if_icmp .ne 24, 3) := by decide +kernel
theorem dX8_standsInWater_10 : decode cX8_standsInWater 10 = .ok (.aload_n 0, 1) := by decide +kernel
theorem dX8_standsInWater_11 : decode cX8_standsInWater 11 = .ok (.iload_n 1, 1) := by decide +kernel
theorem dX8_standsInWater_12 : decode cX8_standsInWater 12 = .ok (.iload_n 2, 1) := by decide +kernel
theorem dX8_standsInWater_13 : decode cX8_standsInWater 13 = .ok (.invokevirtual 73, 3) := by decide +kernel
theorem dX8_standsInWater_16 : decode cX8_standsInWater 16 = .ok (.ifCond .eq 15, 3) := by decide +kernel
theorem dX8_standsInWater_19 : decode cX8_standsInWater 19 = .ok (.aload_n 0, 1) := by decide +kernel
theorem dX8_standsInWater_20 : decode cX8_standsInWater 20 = .ok (.iload_n 1, 1) := by decide +kernel
theorem dX8_standsInWater_21 : decode cX8_standsInWater 21 = .ok (.invokevirtual 89, 3) := by decide +kernel
theorem dX8_standsInWater_24 : decode cX8_standsInWater 24 = .ok (.ifCond .ne 7, 3) := by decide +kernel
theorem dX8_standsInWater_27 : decode cX8_standsInWater 27 = .ok (.iconst 1, 1) := by decide +kernel
theorem dX8_standsInWater_28 : decode cX8_standsInWater 28 = .ok (.goto 4, 3) := by decide +kernel
theorem dX8_standsInWater_31 : decode cX8_standsInWater 31 = .ok (.iconst 0, 1) := by decide +kernel
theorem dX8_standsInWater_32 : decode cX8_standsInWater 32 = .ok (.ireturn, 1) := by decide +kernel
theorem dX8_ledInAll_0 : decode cX8_ledInAll 0 = .ok (.iconst 0, 1) := by decide +kernel
theorem dX8_ledInAll_1 : decode cX8_ledInAll 1 = .ok (.istore_n 1, 1) := by decide +kernel
theorem dX8_ledInAll_2 : decode cX8_ledInAll 2 = .ok (.iconst 0, 1) := by decide +kernel
theorem dX8_ledInAll_3 : decode cX8_ledInAll 3 = .ok (.istore_n 2, 1) := by decide +kernel
theorem dX8_ledInAll_4 : decode cX8_ledInAll 4 = .ok (.iload_n 2, 1) := by decide +kernel
theorem dX8_ledInAll_5 : decode cX8_ledInAll 5 = .ok (.aload_n 0, 1) := by decide +kernel
theorem dX8_ledInAll_6 : decode cX8_ledInAll 6 = .ok (.getfield 51, 3) := by decide +kernel
theorem dX8_ledInAll_9 : decode cX8_ledInAll 9 = .ok (.if_icmp .ge 18, 3) := by decide +kernel
theorem dX8_ledInAll_12 : decode cX8_ledInAll 12 = .ok (.iload_n 1, 1) := by decide +kernel
theorem dX8_ledInAll_13 : decode cX8_ledInAll 13 = .ok (.aload_n 0, 1) := by decide +kernel
theorem dX8_ledInAll_14 : decode cX8_ledInAll 14 = .ok (.getfield 33, 3) := by decide +kernel
theorem dX8_ledInAll_17 : decode cX8_ledInAll 17 = .ok (.iload_n 2, 1) := by decide +kernel
theorem dX8_ledInAll_18 : decode cX8_ledInAll 18 = .ok (.iaload, 1) := by decide +kernel
theorem dX8_ledInAll_19 : decode cX8_ledInAll 19 = .ok (.iadd, 1) := by decide +kernel
theorem dX8_ledInAll_20 : decode cX8_ledInAll 20 = .ok (.istore_n 1, 1) := by decide +kernel
theorem dX8_ledInAll_21 : decode cX8_ledInAll 21 = .ok (.iinc 2 1, 3) := by decide +kernel
theorem dX8_ledInAll_24 : decode cX8_ledInAll 24 = .ok (.goto (-20), 3) := by decide +kernel
theorem dX8_ledInAll_27 : decode cX8_ledInAll 27 = .ok (.iload_n 1, 1) := by decide +kernel
theorem dX8_ledInAll_28 : decode cX8_ledInAll 28 = .ok (.ireturn, 1) := by decide +kernel
theorem dX8_standingInAll_0 : decode cX8_standingInAll 0 = .ok (.iconst 0, 1) := by decide +kernel
theorem dX8_standingInAll_1 : decode cX8_standingInAll 1 = .ok (.istore_n 1, 1) := by decide +kernel
theorem dX8_standingInAll_2 : decode cX8_standingInAll 2 = .ok (.iconst 0, 1) := by decide +kernel
theorem dX8_standingInAll_3 : decode cX8_standingInAll 3 = .ok (.istore_n 2, 1) := by decide +kernel
theorem dX8_standingInAll_4 : decode cX8_standingInAll 4 = .ok (.iload_n 2, 1) := by decide +kernel
theorem dX8_standingInAll_5 : decode cX8_standingInAll 5 = .ok (.aload_n 0, 1) := by decide +kernel
theorem dX8_standingInAll_6 : decode cX8_standingInAll 6 = .ok (.getfield 51, 3) := by decide +kernel
theorem dX8_standingInAll_9 : decode cX8_standingInAll 9 = .ok (.if_icmp .ge 18, 3) := by decide +kernel
theorem dX8_standingInAll_12 : decode cX8_standingInAll 12 = .ok (.iload_n 1, 1) := by decide +kernel
theorem dX8_standingInAll_13 : decode cX8_standingInAll 13 = .ok (.aload_n 0, 1) := by decide +kernel
theorem dX8_standingInAll_14 : decode cX8_standingInAll 14 = .ok (.getfield 36, 3) := by decide +kernel
theorem dX8_standingInAll_17 : decode cX8_standingInAll 17 = .ok (.iload_n 2, 1) := by decide +kernel
theorem dX8_standingInAll_18 : decode cX8_standingInAll 18 = .ok (.iaload, 1) := by decide +kernel
theorem dX8_standingInAll_19 : decode cX8_standingInAll 19 = .ok (.iadd, 1) := by decide +kernel
theorem dX8_standingInAll_20 : decode cX8_standingInAll 20 = .ok (.istore_n 1, 1) := by decide +kernel
theorem dX8_standingInAll_21 : decode cX8_standingInAll 21 = .ok (.iinc 2 1, 3) := by decide +kernel
theorem dX8_standingInAll_24 : decode cX8_standingInAll 24 = .ok (.goto (-20), 3) := by decide +kernel
theorem dX8_standingInAll_27 : decode cX8_standingInAll 27 = .ok (.iload_n 1, 1) := by decide +kernel
theorem dX8_standingInAll_28 : decode cX8_standingInAll 28 = .ok (.ireturn, 1) := by decide +kernel
