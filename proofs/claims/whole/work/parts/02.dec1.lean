theorem dX0_init_0 : decode cX0_init 0 = .ok (.aload_n 0, 1) := by decide +kernel
theorem dX0_init_1 : decode cX0_init 1 = .ok (.invokespecial 3, 3) := by decide +kernel
theorem dX0_init_4 : decode cX0_init 4 = .ok (.aload_n 0, 1) := by decide +kernel
theorem dX0_init_5 : decode cX0_init 5 = .ok (.sipush 300, 3) := by decide +kernel
theorem dX0_init_8 : decode cX0_init 8 = .ok (.newarray .int, 2) := by decide +kernel
theorem dX0_init_10 : decode cX0_init 10 = .ok (.putfield 9, 3) := by decide +kernel
theorem dX0_init_13 : decode cX0_init 13 = .ok (.aload_n 0, 1) := by decide +kernel
theorem dX0_init_14 : decode cX0_init 14 = .ok (.sipush 300, 3) := by decide +kernel
theorem dX0_init_17 : decode cX0_init 17 = .ok (.newarray .int, 2) := by decide +kernel
theorem dX0_init_19 : decode cX0_init 19 = .ok (.putfield 15, 3) := by decide +kernel
theorem dX0_init_22 : decode cX0_init 22 = .ok (.aload_n 0, 1) := by decide +kernel
theorem dX0_init_23 : decode cX0_init 23 = .ok (.sipush 300, 3) := by decide +kernel
theorem dX0_init_26 : decode cX0_init 26 = .ok (.newarray .int, 2) := by decide +kernel
theorem dX0_init_28 : decode cX0_init 28 = .ok (.putfield 18, 3) := by decide +kernel
theorem dX0_init_31 : decode cX0_init 31 = .ok (.aload_n 0, 1) := by decide +kernel
theorem dX0_init_32 : decode cX0_init 32 = .ok (.sipush 300, 3) := by decide +kernel
theorem dX0_init_35 : decode cX0_init 35 = .ok (.newarray .int, 2) := by decide +kernel
theorem dX0_init_37 : decode cX0_init 37 = .ok (.putfield 21, 3) := by decide +kernel
theorem dX0_init_40 : decode cX0_init 40 = .ok (.aload_n 0, 1) := by decide +kernel
theorem dX0_init_41 : decode cX0_init 41 = .ok (.sipush 300, 3) := by decide +kernel
theorem dX0_init_44 : decode cX0_init 44 = .ok (.newarray .int, 2) := by decide +kernel
theorem dX0_init_46 : decode cX0_init 46 = .ok (.putfield 24, 3) := by decide +kernel
theorem dX0_init_49 : decode cX0_init 49 = .ok (.aload_n 0, 1) := by decide +kernel
theorem dX0_init_50 : decode cX0_init 50 = .ok (.sipush 300, 3) := by decide +kernel
theorem dX0_init_53 : decode cX0_init 53 = .ok (.newarray .int, 2) := by decide +kernel
theorem dX0_init_55 : decode cX0_init 55 = .ok (.putfield 27, 3) := by decide +kernel
theorem dX0_init_58 : decode cX0_init 58 = .ok (.return_, 1) := by decide +kernel
theorem dX0_copyFrom_0 : decode cX0_copyFrom 0 = .ok (.aload_n 0, 1) := by decide +kernel
theorem dX0_copyFrom_1 : decode cX0_copyFrom 1 = .ok (.aload_n 1, 1) := by decide +kernel
theorem dX0_copyFrom_2 : decode cX0_copyFrom 2 = .ok (.getfield 30, 3) := by decide +kernel
theorem dX0_copyFrom_5 : decode cX0_copyFrom 5 = .ok (.putfield 30, 3) := by decide +kernel
theorem dX0_copyFrom_8 : decode cX0_copyFrom 8 = .ok (.aload_n 0, 1) := by decide +kernel
theorem dX0_copyFrom_9 : decode cX0_copyFrom 9 = .ok (.aload_n 1, 1) := by decide +kernel
theorem dX0_copyFrom_10 : decode cX0_copyFrom 10 = .ok (.getfield 9, 3) := by decide +kernel
theorem dX0_copyFrom_13 : decode cX0_copyFrom 13 = .ok (.aload_n 0, 1) := by decide +kernel
theorem dX0_copyFrom_14 : decode cX0_copyFrom 14 = .ok (.getfield 9, 3) := by decide +kernel
theorem dX0_copyFrom_17 : decode cX0_copyFrom 17 = .ok (.invokevirtual 34, 3) := by decide +kernel
theorem dX0_copyFrom_20 : decode cX0_copyFrom 20 = .ok (.aload_n 0, 1) := by decide +kernel
theorem dX0_copyFrom_21 : decode cX0_copyFrom 21 = .ok (.aload_n 1, 1) := by decide +kernel
theorem dX0_copyFrom_22 : decode cX0_copyFrom 22 = .ok (.getfield 15, 3) := by decide +kernel
theorem dX0_copyFrom_25 : decode cX0_copyFrom 25 = .ok (.aload_n 0, 1) := by decide +kernel
theorem dX0_copyFrom_26 : decode cX0_copyFrom 26 = .ok (.getfield 15, 3) := by decide +kernel
theorem dX0_copyFrom_29 : decode cX0_copyFrom 29 = .ok (.invokevirtual 34, 3) := by decide +kernel
theorem dX0_copyFrom_32 : decode cX0_copyFrom 32 = .ok (.aload_n 0, 1) := by decide +kernel
theorem dX0_copyFrom_33 : decode cX0_copyFrom 33 = .ok (.aload_n 1, 1) := by decide +kernel
theorem dX0_copyFrom_34 : decode cX0_copyFrom 34 = .ok (.getfield 18, 3) := by decide +kernel
theorem dX0_copyFrom_37 : decode cX0_copyFrom 37 = .ok (.aload_n 0, 1) := by decide +kernel
theorem dX0_copyFrom_38 : decode cX0_copyFrom 38 = .ok (.getfield 18, 3) := by decide +kernel
theorem dX0_copyFrom_41 : decode cX0_copyFrom 41 = .ok (.invokevirtual 34, 3) := by decide +kernel
theorem dX0_copyFrom_44 : decode cX0_copyFrom 44 = .ok (.aload_n 0, 1) := by decide +kernel
theorem dX0_copyFrom_45 : decode cX0_copyFrom 45 = .ok (.aload_n 1, 1) := by decide +kernel
theorem dX0_copyFrom_46 : decode cX0_copyFrom 46 = .ok (.getfield 21, 3) := by decide +kernel
theorem dX0_copyFrom_49 : decode cX0_copyFrom 49 = .ok (.aload_n 0, 1) := by decide +kernel
theorem dX0_copyFrom_50 : decode cX0_copyFrom 50 = .ok (.getfield 21, 3) := by decide +kernel
theorem dX0_copyFrom_53 : decode cX0_copyFrom 53 = .ok (.invokevirtual 34, 3) := by decide +kernel
theorem dX0_copyFrom_56 : decode cX0_copyFrom 56 = .ok (.aload_n 0, 1) := by decide +kernel
theorem dX0_copyFrom_57 : decode cX0_copyFrom 57 = .ok (.aload_n 1, 1) := by decide +kernel
theorem dX0_copyFrom_58 : decode cX0_copyFrom 58 = .ok (.getfield 24, 3) := by decide +kernel
theorem dX0_copyFrom_61 : decode cX0_copyFrom 61 = .ok (.aload_n 0, 1) := by decide +kernel
theorem dX0_copyFrom_62 : decode cX0_copyFrom 62 = .ok (.getfield 24, 3) := by decide +kernel
theorem dX0_copyFrom_65 : decode cX0_copyFrom 65 = .ok (.invokevirtual 34, 3) := by decide +kernel
theorem dX0_copyFrom_68 : decode cX0_copyFrom 68 = .ok (.aload_n 0, 1) := by decide +kernel
theorem dX0_copyFrom_69 : decode cX0_copyFrom 69 = .ok (.aload_n 1, 1) := by decide +kernel
theorem dX0_copyFrom_70 : decode cX0_copyFrom 70 = .ok (.getfield 27, 3) := by decide +kernel
theorem dX0_copyFrom_73 : decode cX0_copyFrom 73 = .ok (.aload_n 0, 1) := by decide +kernel
theorem dX0_copyFrom_74 : decode cX0_copyFrom 74 = .ok (.getfield 27, 3) := by decide +kernel
theorem dX0_copyFrom_77 : decode cX0_copyFrom 77 = .ok (.invokevirtual 34, 3) := by decide +kernel
theorem dX0_copyFrom_80 : decode cX0_copyFrom 80 = .ok (.return_, 1) := by decide +kernel
theorem dX0_copy_0 : decode cX0_copy 0 = .ok (.aload_n 1, 1) := by decide +kernel
theorem dX0_copy_1 : decode cX0_copy 1 = .ok (.iconst 0, 1) := by decide +kernel
theorem dX0_copy_2 : decode cX0_copy 2 = .ok (.aload_n 2, 1) := by decide +kernel
theorem dX0_copy_3 : decode cX0_copy 3 = .ok (.iconst 0, 1) := by decide +kernel
theorem dX0_copy_4 : decode cX0_copy 4 = .ok (.aload_n 0, 1) := by decide +kernel
theorem dX0_copy_5 : decode cX0_copy 5 = .ok (.getfield 30, 3) := by decide +kernel
theorem dX0_copy_8 : decode cX0_copy 8 = .ok (.invokestatic 38, 3) := by decide +kernel
theorem dX0_copy_11 : decode cX0_copy 11 = .ok (.return_, 1) := by decide +kernel
theorem dX0_has_0 : decode cX0_has 0 = .ok (.iload_n 1, 1) := by decide +kernel
theorem dX0_has_1 : decode cX0_has 1 = .ok (.ifCond .lt 15, 3) := by decide +kernel
theorem dX0_has_4 : decode cX0_has 4 = .ok (.iload_n 1, 1) := by decide +kernel
theorem dX0_has_5 : decode cX0_has 5 = .ok (.aload_n 0, 1) := by decide +kernel
theorem dX0_has_6 : decode cX0_has 6 = .ok (.getfield 30, 3) := by decide +kernel
theorem dX0_has_9 : decode cX0_has 9 = .ok (.if_icmp .ge 7, 3) := by decide +kernel
theorem dX0_has_12 : decode cX0_has 12 = .ok (.iconst 1, 1) := by decide +kernel
theorem dX0_has_13 : decode cX0_has 13 = .ok (.goto 4, 3) := by decide +kernel
theorem dX0_has_16 : decode cX0_has 16 = .ok (.iconst 0, 1) := by decide +kernel
theorem dX0_has_17 : decode cX0_has 17 = .ok (.ireturn, 1) := by decide +kernel
theorem dX0_isSalt_0 : decode cX0_isSalt 0 = .ok (.iload_n 1, 1) := by decide +kernel
theorem dX0_isSalt_1 : decode cX0_isSalt 1 = .ok (.ifCond .lt 25, 3) := by decide +kernel
theorem dX0_isSalt_4 : decode cX0_isSalt 4 = .ok (.iload_n 1, 1) := by decide +kernel
theorem dX0_isSalt_5 : decode cX0_isSalt 5 = .ok (.aload_n 0, 1) := by decide +kernel
theorem dX0_isSalt_6 : decode cX0_isSalt 6 = .ok (.getfield 30, 3) := by decide +kernel
theorem dX0_isSalt_9 : decode cX0_isSalt 9 = .ok (.if_icmp .ge 17, 3) := by decide +kernel
theorem dX0_isSalt_12 : decode cX0_isSalt 12 = .ok (.aload_n 0, 1) := by decide +kernel
theorem dX0_isSalt_13 : decode cX0_isSalt 13 = .ok (.getfield 9, 3) := by decide +kernel
theorem dX0_isSalt_16 : decode cX0_isSalt 16 = .ok (.iload_n 1, 1) := by decide +kernel
theorem dX0_isSalt_17 : decode cX0_isSalt 17 = .ok (.iaload, 1) := by decide +kernel
theorem dX0_isSalt_18 : decode cX0_isSalt 18 = .ok (.iconst 2, 1) := by decide +kernel
theorem dX0_isSalt_19 : decode cX0_isSalt 19 = .ok (.if_icmp .ne 7, 3) := by decide +kernel
theorem dX0_isSalt_22 : decode cX0_isSalt 22 = .ok (.iconst 1, 1) := by decide +kernel
theorem dX0_isSalt_23 : decode cX0_isSalt 23 = .ok (.goto 4, 3) := by decide +kernel
theorem dX0_isSalt_26 : decode cX0_isSalt 26 = .ok (.iconst 0, 1) := by decide +kernel
theorem dX0_isSalt_27 : decode cX0_isSalt 27 = .ok (.ireturn, 1) := by decide +kernel
theorem dX0_isInRoom_0 : decode cX0_isInRoom 0 = .ok (.aload_n 0, 1) := by decide +kernel
theorem dX0_isInRoom_1 : decode cX0_isInRoom 1 = .ok (.iload_n 1, 1) := by decide +kernel
theorem dX0_isInRoom_2 : decode cX0_isInRoom 2 = .ok (.invokevirtual 44, 3) := by decide +kernel
theorem dX0_isInRoom_5 : decode cX0_isInRoom 5 = .ok (.ifCond .eq 17, 3) := by decide +kernel
theorem dX0_isInRoom_8 : decode cX0_isInRoom 8 = .ok (.aload_n 0, 1) := by decide +kernel
theorem dX0_isInRoom_9 : decode cX0_isInRoom 9 = .ok (.getfield 18, 3) := by decide +kernel
theorem dX0_isInRoom_12 : decode cX0_isInRoom 12 = .ok (.iload_n 1, 1) := by decide +kernel
theorem dX0_isInRoom_13 : decode cX0_isInRoom 13 = .ok (.iaload, 1) := by decide +kernel
theorem dX0_isInRoom_14 : decode cX0_isInRoom 14 = .ok (.iconst (-1), 1) := by decide +kernel
theorem dX0_isInRoom_15 : decode cX0_isInRoom 15 = .ok (.if_icmp .eq 7, 3) := by decide +kernel
theorem dX0_isInRoom_18 : decode cX0_isInRoom 18 = .ok (.iconst 1, 1) := by decide +kernel
theorem dX0_isInRoom_19 : decode cX0_isInRoom 19 = .ok (.goto 4, 3) := by decide +kernel
theorem dX0_isInRoom_22 : decode cX0_isInRoom 22 = .ok (.iconst 0, 1) := by decide +kernel
theorem dX0_isInRoom_23 : decode cX0_isInRoom 23 = .ok (.ireturn, 1) := by decide +kernel
theorem dX0_leave_0 : decode cX0_leave 0 = .ok (.aload_n 0, 1) := by decide +kernel
theorem dX0_leave_1 : decode cX0_leave 1 = .ok (.getfield 18, 3) := by decide +kernel
theorem dX0_leave_4 : decode cX0_leave 4 = .ok (.iload_n 1, 1) := by decide +kernel
theorem dX0_leave_5 : decode cX0_leave 5 = .ok (.iconst (-1), 1) := by decide +kernel
theorem dX0_leave_6 : decode cX0_leave 6 = .ok (.iastore, 1) := by decide +kernel
theorem dX0_leave_7 : decode cX0_leave 7 = .ok (.aload_n 0, 1) := by decide +kernel
theorem dX0_leave_8 : decode cX0_leave 8 = .ok (.getfield 21, 3) := by decide +kernel
theorem dX0_leave_11 : decode cX0_leave 11 = .ok (.iload_n 1, 1) := by decide +kernel
theorem dX0_leave_12 : decode cX0_leave 12 = .ok (.iconst (-1), 1) := by decide +kernel
theorem dX0_leave_13 : decode cX0_leave 13 = .ok (.iastore, 1) := by decide +kernel
theorem dX0_leave_14 : decode cX0_leave 14 = .ok (.return_, 1) := by decide +kernel
theorem dX1_init_0 : decode cX1_init 0 = .ok (.aload_n 0, 1) := by decide +kernel
theorem dX1_init_1 : decode cX1_init 1 = .ok (.invokespecial 3, 3) := by decide +kernel
theorem dX1_init_4 : decode cX1_init 4 = .ok (.aload_n 0, 1) := by decide +kernel
theorem dX1_init_5 : decode cX1_init 5 = .ok (.sipush 1800, 3) := by decide +kernel
theorem dX1_init_8 : decode cX1_init 8 = .ok (.newarray .int, 2) := by decide +kernel
theorem dX1_init_10 : decode cX1_init 10 = .ok (.putfield 11, 3) := by decide +kernel
theorem dX1_init_13 : decode cX1_init 13 = .ok (.aload_n 0, 1) := by decide +kernel
theorem dX1_init_14 : decode cX1_init 14 = .ok (.sipush 1800, 3) := by decide +kernel
theorem dX1_init_17 : decode cX1_init 17 = .ok (.newarray .int, 2) := by decide +kernel
theorem dX1_init_19 : decode cX1_init 19 = .ok (.putfield 15, 3) := by decide +kernel
theorem dX1_init_22 : decode cX1_init 22 = .ok (.return_, 1) := by decide +kernel
theorem dX1_empty_0 : decode cX1_empty 0 = .ok (.aload_n 0, 1) := by decide +kernel
theorem dX1_empty_1 : decode cX1_empty 1 = .ok (.iconst 0, 1) := by decide +kernel
theorem dX1_empty_2 : decode cX1_empty 2 = .ok (.putfield 18, 3) := by decide +kernel
theorem dX1_empty_5 : decode cX1_empty 5 = .ok (.aload_n 0, 1) := by decide +kernel
theorem dX1_empty_6 : decode cX1_empty 6 = .ok (.iconst 0, 1) := by decide +kernel
theorem dX1_empty_7 : decode cX1_empty 7 = .ok (.putfield 22, 3) := by decide +kernel
theorem dX1_empty_10 : decode cX1_empty 10 = .ok (.return_, 1) := by decide +kernel
theorem dX1_write_0 : decode cX1_write 0 = .ok (.aload_n 0, 1) := by decide +kernel
theorem dX1_write_1 : decode cX1_write 1 = .ok (.iconst 0, 1) := by decide +kernel
theorem dX1_write_2 : decode cX1_write 2 = .ok (.putfield 18, 3) := by decide +kernel
theorem dX1_write_5 : decode cX1_write 5 = .ok (.aload_n 0, 1) := by decide +kernel
theorem dX1_write_6 : decode cX1_write 6 = .ok (.iconst 1, 1) := by decide +kernel
theorem dX1_write_7 : decode cX1_write 7 = .ok (.putfield 22, 3) := by decide +kernel
theorem dX1_write_10 : decode cX1_write 10 = .ok (.iconst 0, 1) := by decide +kernel
theorem dX1_write_11 : decode cX1_write 11 = .ok (.istore_n 3, 1) := by decide +kernel
theorem dX1_write_12 : decode cX1_write 12 = .ok (.iload_n 3, 1) := by decide +kernel
theorem dX1_write_13 : decode cX1_write 13 = .ok (.aload_n 1, 1) := by decide +kernel
theorem dX1_write_14 : decode cX1_write 14 = .ok (.getfield 26, 3) := by decide +kernel
theorem dX1_write_17 : decode cX1_write 17 = .ok (.getfield 32, 3) := by decide +kernel
theorem dX1_write_20 : decode cX1_write 20 = .ok (.if_icmp .ge 24, 3) := by decide +kernel
theorem dX1_write_23 : decode cX1_write 23 = .ok (.aload_n 2, 1) := by decide +kernel
theorem dX1_write_24 : decode cX1_write 24 = .ok (.iload_n 3, 1) := by decide +kernel
theorem dX1_write_25 : decode cX1_write 25 = .ok (.invokevirtual 37, 3) := by decide +kernel
theorem dX1_write_28 : decode cX1_write 28 = .ok (.ifCond .le 10, 3) := by decide +kernel
theorem dX1_write_31 : decode cX1_write 31 = .ok (.aload_n 0, 1) := by decide +kernel
theorem dX1_write_32 : decode cX1_write 32 = .ok (.aload_n 1, 1) := by decide +kernel
theorem dX1_write_33 : decode cX1_write 33 = .ok (.iload_n 3, 1) := by decide +kernel
theorem dX1_write_34 : decode cX1_write 34 = .ok (.aload_n 2, 1) := by decide +kernel
theorem dX1_write_35 : decode cX1_write 35 = .ok (.invokevirtual 43, 3) := by decide +kernel
theorem dX1_write_38 : decode cX1_write 38 = .ok (.iinc 3 1, 3) := by decide +kernel
theorem dX1_write_41 : decode cX1_write 41 = .ok (.goto (-29), 3) := by decide +kernel
theorem dX1_write_44 : decode cX1_write 44 = .ok (.aload_n 0, 1) := by decide +kernel
theorem dX1_write_45 : decode cX1_write 45 = .ok (.getfield 11, 3) := by decide +kernel
theorem dX1_write_48 : decode cX1_write 48 = .ok (.iconst 0, 1) := by decide +kernel
theorem dX1_write_49 : decode cX1_write 49 = .ok (.aload_n 0, 1) := by decide +kernel
theorem dX1_write_50 : decode cX1_write 50 = .ok (.getfield 15, 3) := by decide +kernel
theorem dX1_write_53 : decode cX1_write 53 = .ok (.iconst 0, 1) := by decide +kernel
theorem dX1_write_54 : decode cX1_write 54 = .ok (.aload_n 0, 1) := by decide +kernel
theorem dX1_write_55 : decode cX1_write 55 = .ok (.getfield 18, 3) := by decide +kernel
theorem dX1_write_58 : decode cX1_write 58 = .ok (.bipush 6, 2) := by decide +kernel
theorem dX1_write_60 : decode cX1_write 60 = .ok (.imul, 1) := by decide +kernel
theorem dX1_write_61 : decode cX1_write 61 = .ok (.invokestatic 47, 3) := by decide +kernel
theorem dX1_write_64 : decode cX1_write 64 = .ok (.return_, 1) := by decide +kernel
theorem dX1_writeLine_0 : decode cX1_writeLine 0 = .ok (.aload_n 0, 1) := by decide +kernel
theorem dX1_writeLine_1 : decode cX1_writeLine 1 = .ok (.getfield 18, 3) := by decide +kernel
theorem dX1_writeLine_4 : decode cX1_writeLine 4 = .ok (.bipush 6, 2) := by decide +kernel
theorem dX1_writeLine_6 : decode cX1_writeLine 6 = .ok (.imul, 1) := by decide +kernel
theorem dX1_writeLine_7 : decode cX1_writeLine 7 = .ok (.istore 4, 2) := by decide +kernel
theorem dX1_writeLine_9 : decode cX1_writeLine 9 = .ok (.aload_n 3, 1) := by decide +kernel
theorem dX1_writeLine_10 : decode cX1_writeLine 10 = .ok (.iload_n 2, 1) := by decide +kernel
theorem dX1_writeLine_11 : decode cX1_writeLine 11 = .ok (.invokevirtual 37, 3) := by decide +kernel
theorem dX1_writeLine_14 : decode cX1_writeLine 14 = .ok (.istore 5, 2) := by decide +kernel
theorem dX1_writeLine_16 : decode cX1_writeLine 16 = .ok (.aload_n 0, 1) := by decide +kernel
theorem dX1_writeLine_17 : decode cX1_writeLine 17 = .ok (.getfield 11, 3) := by decide +kernel
theorem dX1_writeLine_20 : decode cX1_writeLine 20 = .ok (.iload 4, 2) := by decide +kernel
theorem dX1_writeLine_22 : decode cX1_writeLine 22 = .ok (.iload_n 2, 1) := by decide +kernel
theorem dX1_writeLine_23 : decode cX1_writeLine 23 = .ok (.iastore, 1) := by decide +kernel
theorem dX1_writeLine_24 : decode cX1_writeLine 24 = .ok (.aload_n 0, 1) := by decide +kernel
theorem dX1_writeLine_25 : decode cX1_writeLine 25 = .ok (.getfield 11, 3) := by decide +kernel
theorem dX1_writeLine_28 : decode cX1_writeLine 28 = .ok (.iload 4, 2) := by decide +kernel
theorem dX1_writeLine_30 : decode cX1_writeLine 30 = .ok (.iconst 1, 1) := by decide +kernel
theorem dX1_writeLine_31 : decode cX1_writeLine 31 = .ok (.iadd, 1) := by decide +kernel
theorem dX1_writeLine_32 : decode cX1_writeLine 32 = .ok (.aload_n 1, 1) := by decide +kernel
theorem dX1_writeLine_33 : decode cX1_writeLine 33 = .ok (.getfield 26, 3) := by decide +kernel
theorem dX1_writeLine_36 : decode cX1_writeLine 36 = .ok (.getfield 53, 3) := by decide +kernel
theorem dX1_writeLine_39 : decode cX1_writeLine 39 = .ok (.iload_n 2, 1) := by decide +kernel
theorem dX1_writeLine_40 : decode cX1_writeLine 40 = .ok (.iaload, 1) := by decide +kernel
theorem dX1_writeLine_41 : decode cX1_writeLine 41 = .ok (.iastore, 1) := by decide +kernel
theorem dX1_writeLine_42 : decode cX1_writeLine 42 = .ok (.aload_n 0, 1) := by decide +kernel
theorem dX1_writeLine_43 : decode cX1_writeLine 43 = .ok (.getfield 11, 3) := by decide +kernel
theorem dX1_writeLine_46 : decode cX1_writeLine 46 = .ok (.iload 4, 2) := by decide +kernel
theorem dX1_writeLine_48 : decode cX1_writeLine 48 = .ok (.iconst 2, 1) := by decide +kernel
theorem dX1_writeLine_49 : decode cX1_writeLine 49 = .ok (.iadd, 1) := by decide +kernel
theorem dX1_writeLine_50 : decode cX1_writeLine 50 = .ok (.aload_n 1, 1) := by decide +kernel
theorem dX1_writeLine_51 : decode cX1_writeLine 51 = .ok (.getfield 26, 3) := by decide +kernel
theorem dX1_writeLine_54 : decode cX1_writeLine 54 = .ok (.getfield 56, 3) := by decide +kernel
theorem dX1_writeLine_57 : decode cX1_writeLine 57 = .ok (.iload_n 2, 1) := by decide +kernel
theorem dX1_writeLine_58 : decode cX1_writeLine 58 = .ok (.iaload, 1) := by decide +kernel
theorem dX1_writeLine_59 : decode cX1_writeLine 59 = .ok (.iastore, 1) := by decide +kernel
theorem dX1_writeLine_60 : decode cX1_writeLine 60 = .ok (.aload_n 0, 1) := by decide +kernel
theorem dX1_writeLine_61 : decode cX1_writeLine 61 = .ok (.getfield 11, 3) := by decide +kernel
theorem dX1_writeLine_64 : decode cX1_writeLine 64 = .ok (.iload 4, 2) := by decide +kernel
theorem dX1_writeLine_66 : decode cX1_writeLine 66 = .ok (.iconst 3, 1) := by decide +kernel
theorem dX1_writeLine_67 : decode cX1_writeLine 67 = .ok (.iadd, 1) := by decide +kernel
theorem dX1_writeLine_68 : decode cX1_writeLine 68 = .ok (.aload_n 1, 1) := by decide +kernel
theorem dX1_writeLine_69 : decode cX1_writeLine 69 = .ok (.getfield 26, 3) := by decide +kernel
theorem dX1_writeLine_72 : decode cX1_writeLine 72 = .ok (.getfield 59, 3) := by decide +kernel
theorem dX1_writeLine_75 : decode cX1_writeLine 75 = .ok (.iload_n 2, 1) := by decide +kernel
theorem dX1_writeLine_76 : decode cX1_writeLine 76 = .ok (.iaload, 1) := by decide +kernel
theorem dX1_writeLine_77 : decode cX1_writeLine 77 = .ok (.iastore, 1) := by decide +kernel
theorem dX1_writeLine_78 : decode cX1_writeLine 78 = .ok (.aload_n 0, 1) := by decide +kernel
theorem dX1_writeLine_79 : decode cX1_writeLine 79 = .ok (.getfield 11, 3) := by decide +kernel
theorem dX1_writeLine_82 : decode cX1_writeLine 82 = .ok (.iload 4, 2) := by decide +kernel
theorem dX1_writeLine_84 : decode cX1_writeLine 84 = .ok (.iconst 4, 1) := by decide +kernel
theorem dX1_writeLine_85 : decode cX1_writeLine 85 = .ok (.iadd, 1) := by decide +kernel
theorem dX1_writeLine_86 : decode cX1_writeLine 86 = .ok (.iload 5, 2) := by decide +kernel
theorem dX1_writeLine_88 : decode cX1_writeLine 88 = .ok (.iastore, 1) := by decide +kernel
theorem dX1_writeLine_89 : decode cX1_writeLine 89 = .ok (.aload_n 0, 1) := by decide +kernel
theorem dX1_writeLine_90 : decode cX1_writeLine 90 = .ok (.getfield 11, 3) := by decide +kernel
theorem dX1_writeLine_93 : decode cX1_writeLine 93 = .ok (.iload 4, 2) := by decide +kernel
theorem dX1_writeLine_95 : decode cX1_writeLine 95 = .ok (.iconst 5, 1) := by decide +kernel
theorem dX1_writeLine_96 : decode cX1_writeLine 96 = .ok (.iadd, 1) := by decide +kernel
theorem dX1_writeLine_97 : decode cX1_writeLine 97 = .ok (.aload_n 3, 1) := by decide +kernel
theorem dX1_writeLine_98 : decode cX1_writeLine 98 = .ok (.aload_n 1, 1) := by decide +kernel
theorem dX1_writeLine_99 : decode cX1_writeLine 99 = .ok (.getfield 26, 3) := by decide +kernel
theorem dX1_writeLine_102 : decode cX1_writeLine 102 = .ok (.getfield 59, 3) := by decide +kernel
theorem dX1_writeLine_105 : decode cX1_writeLine 105 = .ok (.iload_n 2, 1) := by decide +kernel
theorem dX1_writeLine_106 : decode cX1_writeLine 106 = .ok (.iaload, 1) := by decide +kernel
theorem dX1_writeLine_107 : decode cX1_writeLine 107 = .ok (.iload 5, 2) := by decide +kernel
theorem dX1_writeLine_109 : decode cX1_writeLine 109 = .ok (.isub, 1) := by decide +kernel
theorem dX1_writeLine_110 : decode cX1_writeLine 110 = .ok (.invokevirtual 62, 3) := by decide +kernel
theorem dX1_writeLine_113 : decode cX1_writeLine 113 = .ok (.iastore, 1) := by decide +kernel
theorem dX1_writeLine_114 : decode cX1_writeLine 114 = .ok (.aload_n 0, 1) := by decide +kernel
theorem dX1_writeLine_115 : decode cX1_writeLine 115 = .ok (.dup, 1) := by decide +kernel
theorem dX1_writeLine_116 : decode cX1_writeLine 116 = .ok (.getfield 18, 3) := by decide +kernel
theorem dX1_writeLine_119 : decode cX1_writeLine 119 = .ok (.iconst 1, 1) := by decide +kernel
theorem dX1_writeLine_120 : decode cX1_writeLine 120 = .ok (.iadd, 1) := by decide +kernel
theorem dX1_writeLine_121 : decode cX1_writeLine 121 = .ok (.putfield 18, 3) := by decide +kernel
theorem dX1_writeLine_124 : decode cX1_writeLine 124 = .ok (.return_, 1) := by decide +kernel
theorem dX1_number_0 : decode cX1_number 0 = .ok (.aload_n 0, 1) := by decide +kernel
theorem dX1_number_1 : decode cX1_number 1 = .ok (.getfield 15, 3) := by decide +kernel
theorem dX1_number_4 : decode cX1_number 4 = .ok (.iload_n 1, 1) := by decide +kernel
theorem dX1_number_5 : decode cX1_number 5 = .ok (.bipush 6, 2) := by decide +kernel
theorem dX1_number_7 : decode cX1_number 7 = .ok (.imul, 1) := by decide +kernel
theorem dX1_number_8 : decode cX1_number 8 = .ok (.iload_n 2, 1) := by decide +kernel
theorem dX1_number_9 : decode cX1_number 9 = .ok (.iadd, 1) := by decide +kernel
theorem dX1_number_10 : decode cX1_number 10 = .ok (.iaload, 1) := by decide +kernel
theorem dX1_number_11 : decode cX1_number 11 = .ok (.ireturn, 1) := by decide +kernel
theorem dX1_change_0 : decode cX1_change 0 = .ok (.aload_n 0, 1) := by decide +kernel
theorem dX1_change_1 : decode cX1_change 1 = .ok (.getfield 15, 3) := by decide +kernel
theorem dX1_change_4 : decode cX1_change 4 = .ok (.iload_n 1, 1) := by decide +kernel
theorem dX1_change_5 : decode cX1_change 5 = .ok (.bipush 6, 2) := by decide +kernel
theorem dX1_change_7 : decode cX1_change 7 = .ok (.imul, 1) := by decide +kernel
theorem dX1_change_8 : decode cX1_change 8 = .ok (.iload_n 2, 1) := by decide +kernel
theorem dX1_change_9 : decode cX1_change 9 = .ok (.iadd, 1) := by decide +kernel
theorem dX1_change_10 : decode cX1_change 10 = .ok (.dup2, 1) := by decide +kernel
theorem dX1_change_11 : decode cX1_change 11 = .ok (.iaload, 1) := by decide +kernel
theorem dX1_change_12 : decode cX1_change 12 = .ok (.iload_n 3, 1) := by decide +kernel
theorem dX1_change_13 : decode cX1_change 13 = .ok (.ixor, 1) := by decide +kernel
theorem dX1_change_14 : decode cX1_change 14 = .ok (.iastore, 1) := by decide +kernel
theorem dX1_change_15 : decode cX1_change 15 = .ok (.return_, 1) := by decide +kernel
theorem dX1_firstWrong_0 : decode cX1_firstWrong 0 = .ok (.iconst 0, 1) := by decide +kernel
theorem dX1_firstWrong_1 : decode cX1_firstWrong 1 = .ok (.istore_n 1, 1) := by decide +kernel
theorem dX1_firstWrong_2 : decode cX1_firstWrong 2 = .ok (.iload_n 1, 1) := by decide +kernel
theorem dX1_firstWrong_3 : decode cX1_firstWrong 3 = .ok (.aload_n 0, 1) := by decide +kernel
theorem dX1_firstWrong_4 : decode cX1_firstWrong 4 = .ok (.getfield 18, 3) := by decide +kernel
theorem dX1_firstWrong_7 : decode cX1_firstWrong 7 = .ok (.bipush 6, 2) := by decide +kernel
theorem dX1_firstWrong_9 : decode cX1_firstWrong 9 = .ok (.imul, 1) := by decide +kernel
theorem dX1_firstWrong_10 : decode cX1_firstWrong 10 = .ok (.if_icmp .ge 29, 3) := by decide +kernel
theorem dX1_firstWrong_13 : decode cX1_firstWrong 13 = .ok (.aload_n 0, 1) := by decide +kernel
theorem dX1_firstWrong_14 : decode cX1_firstWrong 14 = .ok (.getfield 15, 3) := by decide +kernel
theorem dX1_firstWrong_17 : decode cX1_firstWrong 17 = .ok (.iload_n 1, 1) := by decide +kernel
theorem dX1_firstWrong_18 : decode cX1_firstWrong 18 = .ok (.iaload, 1) := by decide +kernel
theorem dX1_firstWrong_19 : decode cX1_firstWrong 19 = .ok (.aload_n 0, 1) := by decide +kernel
theorem dX1_firstWrong_20 : decode cX1_firstWrong 20 = .ok (.getfield 11, 3) := by decide +kernel
theorem dX1_firstWrong_23 : decode cX1_firstWrong 23 = .ok (.iload_n 1, 1) := by decide +kernel
theorem dX1_firstWrong_24 : decode cX1_firstWrong 24 = .ok (.iaload, 1) := by decide +kernel
theorem dX1_firstWrong_25 : decode cX1_firstWrong 25 = .ok (.if_icmp .eq 8, 3) := by decide +kernel
theorem dX1_firstWrong_28 : decode cX1_firstWrong 28 = .ok (.iload_n 1, 1) := by decide +kernel
theorem dX1_firstWrong_29 : decode cX1_firstWrong 29 = .ok (.bipush 6, 2) := by decide +kernel
theorem dX1_firstWrong_31 : decode cX1_firstWrong 31 = .ok (.idiv, 1) := by decide +kernel
theorem dX1_firstWrong_32 : decode cX1_firstWrong 32 = .ok (.ireturn, 1) := by decide +kernel
theorem dX1_firstWrong_33 : decode cX1_firstWrong 33 = .ok (.iinc 1 1, 3) := by decide +kernel
theorem dX1_firstWrong_36 : decode cX1_firstWrong 36 = .ok (.goto (-34), 3) := by decide +kernel
theorem dX1_firstWrong_39 : decode cX1_firstWrong 39 = .ok (.iconst (-1), 1) := by decide +kernel
theorem dX1_firstWrong_40 : decode cX1_firstWrong 40 = .ok (.ireturn, 1) := by decide +kernel
theorem dX2_init_0 : decode cX2_init 0 = .ok (.aload_n 0, 1) := by decide +kernel
theorem dX2_init_1 : decode cX2_init 1 = .ok (.invokespecial 3, 3) := by decide +kernel
theorem dX2_init_4 : decode cX2_init 4 = .ok (.aload_n 0, 1) := by decide +kernel
theorem dX2_init_5 : decode cX2_init 5 = .ok (.sipush 200, 3) := by decide +kernel
theorem dX2_init_8 : decode cX2_init 8 = .ok (.newarray .boolean, 2) := by decide +kernel
theorem dX2_init_10 : decode cX2_init 10 = .ok (.putfield 9, 3) := by decide +kernel
theorem dX2_init_13 : decode cX2_init 13 = .ok (.aload_n 0, 1) := by decide +kernel
theorem dX2_init_14 : decode cX2_init 14 = .ok (.sipush 200, 3) := by decide +kernel
theorem dX2_init_17 : decode cX2_init 17 = .ok (.newarray .int, 2) := by decide +kernel
theorem dX2_init_19 : decode cX2_init 19 = .ok (.putfield 15, 3) := by decide +kernel
theorem dX2_init_22 : decode cX2_init 22 = .ok (.return_, 1) := by decide +kernel
theorem dX2_tenthsOf_0 : decode cX2_tenthsOf 0 = .ok (.iload_n 1, 1) := by decide +kernel
theorem dX2_tenthsOf_1 : decode cX2_tenthsOf 1 = .ok (.iconst 0, 1) := by decide +kernel
theorem dX2_tenthsOf_2 : decode cX2_tenthsOf 2 = .ok (.sipush 199, 3) := by decide +kernel
theorem dX2_tenthsOf_5 : decode cX2_tenthsOf 5 = .ok (.invokestatic 19, 3) := by decide +kernel
theorem dX2_tenthsOf_8 : decode cX2_tenthsOf 8 = .ok (.ifCond .eq 12, 3) := by decide +kernel
theorem dX2_tenthsOf_11 : decode cX2_tenthsOf 11 = .ok (.aload_n 0, 1) := by decide +kernel
theorem dX2_tenthsOf_12 : decode cX2_tenthsOf 12 = .ok (.getfield 15, 3) := by decide +kernel
theorem dX2_tenthsOf_15 : decode cX2_tenthsOf 15 = .ok (.iload_n 1, 1) := by decide +kernel
theorem dX2_tenthsOf_16 : decode cX2_tenthsOf 16 = .ok (.iaload, 1) := by decide +kernel
theorem dX2_tenthsOf_17 : decode cX2_tenthsOf 17 = .ok (.goto 11, 3) := by decide +kernel
theorem dX2_tenthsOf_20 : decode cX2_tenthsOf 20 = .ok (.aload_n 0, 1) := by decide +kernel
theorem dX2_tenthsOf_21 : decode cX2_tenthsOf 21 = .ok (.getfield 15, 3) := by decide +kernel
theorem dX2_tenthsOf_24 : decode cX2_tenthsOf 24 = .ok (.sipush 199, 3) := by decide +kernel
theorem dX2_tenthsOf_27 : decode cX2_tenthsOf 27 = .ok (.iaload, 1) := by decide +kernel
theorem dX2_tenthsOf_28 : decode cX2_tenthsOf 28 = .ok (.ireturn, 1) := by decide +kernel
theorem dX2_tell_0 : decode cX2_tell 0 = .ok (.iload_n 2, 1) := by decide +kernel
theorem dX2_tell_1 : decode cX2_tell 1 = .ok (.ldc 23, 2) := by decide +kernel
theorem dX2_tell_3 : decode cX2_tell 3 = .ok (.iand, 1) := by decide +kernel
theorem dX2_tell_4 : decode cX2_tell 4 = .ok (.istore_n 3, 1) := by decide +kernel
theorem dX2_tell_5 : decode cX2_tell 5 = .ok (.iload_n 3, 1) := by decide +kernel
theorem dX2_tell_6 : decode cX2_tell 6 = .ok (.ldc 24, 2) := by decide +kernel
theorem dX2_tell_8 : decode cX2_tell 8 = .ok (.if_icmp .gt 7, 3) := by decide +kernel
theorem dX2_tell_11 : decode cX2_tell 11 = .ok (.iconst 1, 1) := by decide +kernel
theorem dX2_tell_12 : decode cX2_tell 12 = .ok (.goto 4, 3) := by decide +kernel
theorem dX2_tell_15 : decode cX2_tell 15 = .ok (.iconst 0, 1) := by decide +kernel
theorem dX2_tell_16 : decode cX2_tell 16 = .ok (.istore 4, 2) := by decide +kernel
theorem dX2_tell_18 : decode cX2_tell 18 = .ok (.iload 4, 2) := by decide +kernel
theorem dX2_tell_20 : decode cX2_tell 20 = .ok (.ifCond .eq 11, 3) := by decide +kernel
theorem dX2_tell_23 : decode cX2_tell 23 = .ok (.iload_n 3, 1) := by decide +kernel
theorem dX2_tell_24 : decode cX2_tell 24 = .ok (.ldc 25, 2) := by decide +kernel
theorem dX2_tell_26 : decode cX2_tell 26 = .ok (.if_icmp .le 5, 3) := by decide +kernel
theorem dX2_tell_29 : decode cX2_tell 29 = .ok (.iconst 0, 1) := by decide +kernel
theorem dX2_tell_30 : decode cX2_tell 30 = .ok (.ireturn, 1) := by decide +kernel
theorem dX2_tell_31 : decode cX2_tell 31 = .ok (.aload_n 0, 1) := by decide +kernel
theorem dX2_tell_32 : decode cX2_tell 32 = .ok (.getfield 9, 3) := by decide +kernel
theorem dX2_tell_35 : decode cX2_tell 35 = .ok (.iload_n 1, 1) := by decide +kernel
theorem dX2_tell_36 : decode cX2_tell 36 = .ok (.iload 4, 2) := by decide +kernel
theorem dX2_tell_38 : decode cX2_tell 38 = .ok (.bastore, 1) := by decide +kernel
theorem dX2_tell_39 : decode cX2_tell 39 = .ok (.iload 4, 2) := by decide +kernel
theorem dX2_tell_41 : decode cX2_tell 41 = .ok (.ifCond .eq 17, 3) := by decide +kernel
theorem dX2_tell_44 : decode cX2_tell 44 = .ok (.aload_n 0, 1) := by decide +kernel
theorem dX2_tell_45 : decode cX2_tell 45 = .ok (.getfield 15, 3) := by decide +kernel
theorem dX2_tell_48 : decode cX2_tell 48 = .ok (.iload_n 1, 1) := by decide +kernel
theorem dX2_tell_49 : decode cX2_tell 49 = .ok (.iload_n 2, 1) := by decide +kernel
theorem dX2_tell_50 : decode cX2_tell 50 = .ok (.invokestatic 26, 3) := by decide +kernel
theorem dX2_tell_53 : decode cX2_tell 53 = .ok (.ldc 30, 2) := by decide +kernel
theorem dX2_tell_55 : decode cX2_tell 55 = .ok (.fmul, 1) := by decide +kernel
theorem dX2_tell_56 : decode cX2_tell 56 = .ok (.f2i, 1) := by decide +kernel
theorem dX2_tell_57 : decode cX2_tell 57 = .ok (.iastore, 1) := by decide +kernel
theorem dX2_tell_58 : decode cX2_tell 58 = .ok (.aload_n 0, 1) := by decide +kernel
theorem dX2_tell_59 : decode cX2_tell 59 = .ok (.iload_n 1, 1) := by decide +kernel
theorem dX2_tell_60 : decode cX2_tell 60 = .ok (.invokevirtual 31, 3) := by decide +kernel
theorem dX2_tell_63 : decode cX2_tell 63 = .ok (.iconst 1, 1) := by decide +kernel
theorem dX2_tell_64 : decode cX2_tell 64 = .ok (.ireturn, 1) := by decide +kernel
theorem dX2_carryOnFrom_0 : decode cX2_carryOnFrom 0 = .ok (.iload_n 1, 1) := by decide +kernel
theorem dX2_carryOnFrom_1 : decode cX2_carryOnFrom 1 = .ok (.istore_n 2, 1) := by decide +kernel
theorem dX2_carryOnFrom_2 : decode cX2_carryOnFrom 2 = .ok (.iload_n 2, 1) := by decide +kernel
theorem dX2_carryOnFrom_3 : decode cX2_carryOnFrom 3 = .ok (.sipush 199, 3) := by decide +kernel
theorem dX2_carryOnFrom_6 : decode cX2_carryOnFrom 6 = .ok (.if_icmp .gt 40, 3) := by decide +kernel
theorem dX2_carryOnFrom_9 : decode cX2_carryOnFrom 9 = .ok (.aload_n 0, 1) := by decide +kernel
theorem dX2_carryOnFrom_10 : decode cX2_carryOnFrom 10 = .ok (.getfield 9, 3) := by decide +kernel
theorem dX2_carryOnFrom_13 : decode cX2_carryOnFrom 13 = .ok (.iload_n 2, 1) := by decide +kernel
theorem dX2_carryOnFrom_14 : decode cX2_carryOnFrom 14 = .ok (.baload, 1) := by decide +kernel
theorem dX2_carryOnFrom_15 : decode cX2_carryOnFrom 15 = .ok (.ifCond .ne 25, 3) := by decide +kernel
theorem dX2_carryOnFrom_18 : decode cX2_carryOnFrom 18 = .ok (.aload_n 0, 1) := by decide +kernel
theorem dX2_carryOnFrom_19 : decode cX2_carryOnFrom 19 = .ok (.getfield 15, 3) := by decide +kernel
theorem dX2_carryOnFrom_22 : decode cX2_carryOnFrom 22 = .ok (.iload_n 2, 1) := by decide +kernel
theorem dX2_carryOnFrom_23 : decode cX2_carryOnFrom 23 = .ok (.iload_n 2, 1) := by decide +kernel
theorem dX2_carryOnFrom_24 : decode cX2_carryOnFrom 24 = .ok (.ifCond .ne 7, 3) := by decide +kernel
theorem dX2_carryOnFrom_27 : decode cX2_carryOnFrom 27 = .ok (.iconst 0, 1) := by decide +kernel
theorem dX2_carryOnFrom_28 : decode cX2_carryOnFrom 28 = .ok (.goto 11, 3) := by decide +kernel
theorem dX2_carryOnFrom_31 : decode cX2_carryOnFrom 31 = .ok (.aload_n 0, 1) := by decide +kernel
theorem dX2_carryOnFrom_32 : decode cX2_carryOnFrom 32 = .ok (.getfield 15, 3) := by decide +kernel
theorem dX2_carryOnFrom_35 : decode cX2_carryOnFrom 35 = .ok (.iload_n 2, 1) := by decide +kernel
theorem dX2_carryOnFrom_36 : decode cX2_carryOnFrom 36 = .ok (.iconst 1, 1) := by decide +kernel
theorem dX2_carryOnFrom_37 : decode cX2_carryOnFrom 37 = .ok (.isub, 1) := by decide +kernel
theorem dX2_carryOnFrom_38 : decode cX2_carryOnFrom 38 = .ok (.iaload, 1) := by decide +kernel
theorem dX2_carryOnFrom_39 : decode cX2_carryOnFrom 39 = .ok (.iastore, 1) := by decide +kernel
theorem dX2_carryOnFrom_40 : decode cX2_carryOnFrom 40 = .ok (.iinc 2 1, 3) := by decide +kernel
theorem dX2_carryOnFrom_43 : decode cX2_carryOnFrom 43 = .ok (.goto (-41), 3) := by decide +kernel
theorem dX2_carryOnFrom_46 : decode cX2_carryOnFrom 46 = .ok (.return_, 1) := by decide +kernel
theorem dX2_numberOf_0 : decode cX2_numberOf 0 = .ok (.iload_n 0, 1) := by decide +kernel
theorem dX2_numberOf_1 : decode cX2_numberOf 1 = .ok (.bipush 23, 2) := by decide +kernel
theorem dX2_numberOf_3 : decode cX2_numberOf 3 = .ok (.iushr, 1) := by decide +kernel
theorem dX2_numberOf_4 : decode cX2_numberOf 4 = .ok (.sipush 255, 3) := by decide +kernel
theorem dX2_numberOf_7 : decode cX2_numberOf 7 = .ok (.iand, 1) := by decide +kernel
theorem dX2_numberOf_8 : decode cX2_numberOf 8 = .ok (.istore_n 1, 1) := by decide +kernel
theorem dX2_numberOf_9 : decode cX2_numberOf 9 = .ok (.iload_n 0, 1) := by decide +kernel
theorem dX2_numberOf_10 : decode cX2_numberOf 10 = .ok (.ldc 35, 2) := by decide +kernel
theorem dX2_numberOf_12 : decode cX2_numberOf 12 = .ok (.iand, 1) := by decide +kernel
theorem dX2_numberOf_13 : decode cX2_numberOf 13 = .ok (.istore_n 2, 1) := by decide +kernel
theorem dX2_numberOf_14 : decode cX2_numberOf 14 = .ok (.iload_n 1, 1) := by decide +kernel
theorem dX2_numberOf_15 : decode cX2_numberOf 15 = .ok (.ifCond .ne 7, 3) := by decide +kernel
theorem dX2_numberOf_18 : decode cX2_numberOf 18 = .ok (.iload_n 2, 1) := by decide +kernel
theorem dX2_numberOf_19 : decode cX2_numberOf 19 = .ok (.goto 7, 3) := by decide +kernel
theorem dX2_numberOf_22 : decode cX2_numberOf 22 = .ok (.iload_n 2, 1) := by decide +kernel
theorem dX2_numberOf_23 : decode cX2_numberOf 23 = .ok (.ldc 36, 2) := by decide +kernel
theorem dX2_numberOf_25 : decode cX2_numberOf 25 = .ok (.ior, 1) := by decide +kernel
theorem dX2_numberOf_26 : decode cX2_numberOf 26 = .ok (.i2f, 1) := by decide +kernel
theorem dX2_numberOf_27 : decode cX2_numberOf 27 = .ok (.fstore_n 3, 1) := by decide +kernel
theorem dX2_numberOf_28 : decode cX2_numberOf 28 = .ok (.iload_n 1, 1) := by decide +kernel
theorem dX2_numberOf_29 : decode cX2_numberOf 29 = .ok (.ifCond .ne 7, 3) := by decide +kernel
theorem dX2_numberOf_32 : decode cX2_numberOf 32 = .ok (.iconst 1, 1) := by decide +kernel
theorem dX2_numberOf_33 : decode cX2_numberOf 33 = .ok (.goto 4, 3) := by decide +kernel
theorem dX2_numberOf_36 : decode cX2_numberOf 36 = .ok (.iload_n 1, 1) := by decide +kernel
theorem dX2_numberOf_37 : decode cX2_numberOf 37 = .ok (.istore 4, 2) := by decide +kernel
theorem dX2_numberOf_39 : decode cX2_numberOf 39 = .ok (.iload 4, 2) := by decide +kernel
theorem dX2_numberOf_41 : decode cX2_numberOf 41 = .ok (.sipush 150, 3) := by decide +kernel
theorem dX2_numberOf_44 : decode cX2_numberOf 44 = .ok (.if_icmp .ge 13, 3) := by decide +kernel
theorem dX2_numberOf_47 : decode cX2_numberOf 47 = .ok (.fload_n 3, 1) := by decide +kernel
theorem dX2_numberOf_48 : decode cX2_numberOf 48 = .ok (.fconst 2, 1) := by decide +kernel
theorem dX2_numberOf_49 : decode cX2_numberOf 49 = .ok (.fdiv, 1) := by decide +kernel
theorem dX2_numberOf_50 : decode cX2_numberOf 50 = .ok (.fstore_n 3, 1) := by decide +kernel
theorem dX2_numberOf_51 : decode cX2_numberOf 51 = .ok (.iinc 4 1, 3) := by decide +kernel
theorem dX2_numberOf_54 : decode cX2_numberOf 54 = .ok (.goto (-15), 3) := by decide +kernel
theorem dX2_numberOf_57 : decode cX2_numberOf 57 = .ok (.iload_n 0, 1) := by decide +kernel
theorem dX2_numberOf_58 : decode cX2_numberOf 58 = .ok (.ifCond .ge 9, 3) := by decide +kernel
theorem dX2_numberOf_61 : decode cX2_numberOf 61 = .ok (.fconst 0, 1) := by decide +kernel
theorem dX2_numberOf_62 : decode cX2_numberOf 62 = .ok (.fload_n 3, 1) := by decide +kernel
theorem dX2_numberOf_63 : decode cX2_numberOf 63 = .ok (.fsub, 1) := by decide +kernel
theorem dX2_numberOf_64 : decode cX2_numberOf 64 = .ok (.goto 4, 3) := by decide +kernel
theorem dX2_numberOf_67 : decode cX2_numberOf 67 = .ok (.fload_n 3, 1) := by decide +kernel
theorem dX2_numberOf_68 : decode cX2_numberOf 68 = .ok (.freturn, 1) := by decide +kernel
theorem dX3_init_0 : decode cX3_init 0 = .ok (.aload_n 0, 1) := by decide +kernel
theorem dX3_init_1 : decode cX3_init 1 = .ok (.invokespecial 3, 3) := by decide +kernel
theorem dX3_init_4 : decode cX3_init 4 = .ok (.aload_n 0, 1) := by decide +kernel
theorem dX3_init_5 : decode cX3_init 5 = .ok (.sipush 1800, 3) := by decide +kernel
theorem dX3_init_8 : decode cX3_init 8 = .ok (.newarray .int, 2) := by decide +kernel
theorem dX3_init_10 : decode cX3_init 10 = .ok (.putfield 11, 3) := by decide +kernel
theorem dX3_init_13 : decode cX3_init 13 = .ok (.return_, 1) := by decide +kernel
theorem dX3_begin_0 : decode cX3_begin 0 = .ok (.aload_n 0, 1) := by decide +kernel
theorem dX3_begin_1 : decode cX3_begin 1 = .ok (.iconst 0, 1) := by decide +kernel
theorem dX3_begin_2 : decode cX3_begin 2 = .ok (.putfield 15, 3) := by decide +kernel
theorem dX3_begin_5 : decode cX3_begin 5 = .ok (.aload_n 0, 1) := by decide +kernel
theorem dX3_begin_6 : decode cX3_begin 6 = .ok (.aload_n 1, 1) := by decide +kernel
theorem dX3_begin_7 : decode cX3_begin 7 = .ok (.getfield 19, 3) := by decide +kernel
theorem dX3_begin_10 : decode cX3_begin 10 = .ok (.getfield 25, 3) := by decide +kernel
theorem dX3_begin_13 : decode cX3_begin 13 = .ok (.putfield 30, 3) := by decide +kernel
theorem dX3_begin_16 : decode cX3_begin 16 = .ok (.aload_n 0, 1) := by decide +kernel
theorem dX3_begin_17 : decode cX3_begin 17 = .ok (.aload_n 1, 1) := by decide +kernel
theorem dX3_begin_18 : decode cX3_begin 18 = .ok (.invokevirtual 32, 3) := by decide +kernel
theorem dX3_begin_21 : decode cX3_begin 21 = .ok (.ifCond .ne 12, 3) := by decide +kernel
theorem dX3_begin_24 : decode cX3_begin 24 = .ok (.aload_n 1, 1) := by decide +kernel
theorem dX3_begin_25 : decode cX3_begin 25 = .ok (.getfield 36, 3) := by decide +kernel
theorem dX3_begin_28 : decode cX3_begin 28 = .ok (.iconst 1, 1) := by decide +kernel
theorem dX3_begin_29 : decode cX3_begin 29 = .ok (.isub, 1) := by decide +kernel
theorem dX3_begin_30 : decode cX3_begin 30 = .ok (.goto 5, 3) := by decide +kernel
theorem dX3_begin_33 : decode cX3_begin 33 = .ok (.bipush (-2), 2) := by decide +kernel
theorem dX3_begin_35 : decode cX3_begin 35 = .ok (.putfield 39, 3) := by decide +kernel
theorem dX3_begin_38 : decode cX3_begin 38 = .ok (.aload_n 0, 1) := by decide +kernel
theorem dX3_begin_39 : decode cX3_begin 39 = .ok (.aload_n 1, 1) := by decide +kernel
theorem dX3_begin_40 : decode cX3_begin 40 = .ok (.invokevirtual 42, 3) := by decide +kernel
theorem dX3_begin_43 : decode cX3_begin 43 = .ok (.return_, 1) := by decide +kernel
theorem dX3_note_0 : decode cX3_note 0 = .ok (.aload_n 0, 1) := by decide +kernel
theorem dX3_note_1 : decode cX3_note 1 = .ok (.getfield 15, 3) := by decide +kernel
theorem dX3_note_4 : decode cX3_note 4 = .ok (.sipush 199, 3) := by decide +kernel
theorem dX3_note_7 : decode cX3_note 7 = .ok (.if_icmp .lt 4, 3) := by decide +kernel
theorem dX3_note_10 : decode cX3_note 10 = .ok (.return_, 1) := by decide +kernel
theorem dX3_note_11 : decode cX3_note 11 = .ok (.aload_n 0, 1) := by decide +kernel
theorem dX3_note_12 : decode cX3_note 12 = .ok (.dup, 1) := by decide +kernel
theorem dX3_note_13 : decode cX3_note 13 = .ok (.getfield 15, 3) := by decide +kernel
theorem dX3_note_16 : decode cX3_note 16 = .ok (.iconst 1, 1) := by decide +kernel
theorem dX3_note_17 : decode cX3_note 17 = .ok (.iadd, 1) := by decide +kernel
theorem dX3_note_18 : decode cX3_note 18 = .ok (.putfield 15, 3) := by decide +kernel
theorem dX3_note_21 : decode cX3_note 21 = .ok (.aload_n 0, 1) := by decide +kernel
theorem dX3_note_22 : decode cX3_note 22 = .ok (.aload_n 1, 1) := by decide +kernel
theorem dX3_note_23 : decode cX3_note 23 = .ok (.invokevirtual 42, 3) := by decide +kernel
theorem dX3_note_26 : decode cX3_note 26 = .ok (.aload_n 0, 1) := by decide +kernel
theorem dX3_note_27 : decode cX3_note 27 = .ok (.getfield 39, 3) := by decide +kernel
theorem dX3_note_30 : decode cX3_note 30 = .ok (.bipush (-2), 2) := by decide +kernel
theorem dX3_note_32 : decode cX3_note 32 = .ok (.if_icmp .ne 20, 3) := by decide +kernel
theorem dX3_note_35 : decode cX3_note 35 = .ok (.aload_n 1, 1) := by decide +kernel
theorem dX3_note_36 : decode cX3_note 36 = .ok (.invokevirtual 32, 3) := by decide +kernel
theorem dX3_note_39 : decode cX3_note 39 = .ok (.ifCond .ne 13, 3) := by decide +kernel
theorem dX3_note_42 : decode cX3_note 42 = .ok (.aload_n 0, 1) := by decide +kernel
theorem dX3_note_43 : decode cX3_note 43 = .ok (.aload_n 1, 1) := by decide +kernel
theorem dX3_note_44 : decode cX3_note 44 = .ok (.getfield 36, 3) := by decide +kernel
theorem dX3_note_47 : decode cX3_note 47 = .ok (.iconst 1, 1) := by decide +kernel
theorem dX3_note_48 : decode cX3_note 48 = .ok (.isub, 1) := by decide +kernel
theorem dX3_note_49 : decode cX3_note 49 = .ok (.putfield 39, 3) := by decide +kernel
theorem dX3_note_52 : decode cX3_note 52 = .ok (.return_, 1) := by decide +kernel
theorem dX3_writeRow_0 : decode cX3_writeRow 0 = .ok (.aload_n 0, 1) := by decide +kernel
theorem dX3_writeRow_1 : decode cX3_writeRow 1 = .ok (.getfield 15, 3) := by decide +kernel
theorem dX3_writeRow_4 : decode cX3_writeRow 4 = .ok (.bipush 9, 2) := by decide +kernel
theorem dX3_writeRow_6 : decode cX3_writeRow 6 = .ok (.imul, 1) := by decide +kernel
theorem dX3_writeRow_7 : decode cX3_writeRow 7 = .ok (.istore_n 2, 1) := by decide +kernel
theorem dX3_writeRow_8 : decode cX3_writeRow 8 = .ok (.aload_n 0, 1) := by decide +kernel
theorem dX3_writeRow_9 : decode cX3_writeRow 9 = .ok (.getfield 11, 3) := by decide +kernel
theorem dX3_writeRow_12 : decode cX3_writeRow 12 = .ok (.iload_n 2, 1) := by decide +kernel
theorem dX3_writeRow_13 : decode cX3_writeRow 13 = .ok (.iconst 0, 1) := by decide +kernel
theorem dX3_writeRow_14 : decode cX3_writeRow 14 = .ok (.iastore, 1) := by decide +kernel
theorem dX3_writeRow_15 : decode cX3_writeRow 15 = .ok (.iconst 0, 1) := by decide +kernel
theorem dX3_writeRow_16 : decode cX3_writeRow 16 = .ok (.istore_n 3, 1) := by decide +kernel
theorem dX3_writeRow_17 : decode cX3_writeRow 17 = .ok (.iload_n 3, 1) := by decide +kernel
theorem dX3_writeRow_18 : decode cX3_writeRow 18 = .ok (.aload_n 0, 1) := by decide +kernel
theorem dX3_writeRow_19 : decode cX3_writeRow 19 = .ok (.getfield 30, 3) := by decide +kernel
theorem dX3_writeRow_22 : decode cX3_writeRow 22 = .ok (.if_icmp .ge 43, 3) := by decide +kernel
theorem dX3_writeRow_25 : decode cX3_writeRow 25 = .ok (.aload_n 0, 1) := by decide +kernel
theorem dX3_writeRow_26 : decode cX3_writeRow 26 = .ok (.getfield 11, 3) := by decide +kernel
theorem dX3_writeRow_29 : decode cX3_writeRow 29 = .ok (.iload_n 2, 1) := by decide +kernel
theorem dX3_writeRow_30 : decode cX3_writeRow 30 = .ok (.iconst 1, 1) := by decide +kernel
theorem dX3_writeRow_31 : decode cX3_writeRow 31 = .ok (.iadd, 1) := by decide +kernel
theorem dX3_writeRow_32 : decode cX3_writeRow 32 = .ok (.iload_n 3, 1) := by decide +kernel
theorem dX3_writeRow_33 : decode cX3_writeRow 33 = .ok (.iadd, 1) := by decide +kernel
theorem dX3_writeRow_34 : decode cX3_writeRow 34 = .ok (.aload_n 1, 1) := by decide +kernel
theorem dX3_writeRow_35 : decode cX3_writeRow 35 = .ok (.iload_n 3, 1) := by decide +kernel
theorem dX3_writeRow_36 : decode cX3_writeRow 36 = .ok (.invokevirtual 46, 3) := by decide +kernel
theorem dX3_writeRow_39 : decode cX3_writeRow 39 = .ok (.iastore, 1) := by decide +kernel
theorem dX3_writeRow_40 : decode cX3_writeRow 40 = .ok (.aload_n 0, 1) := by decide +kernel
theorem dX3_writeRow_41 : decode cX3_writeRow 41 = .ok (.getfield 11, 3) := by decide +kernel
theorem dX3_writeRow_44 : decode cX3_writeRow 44 = .ok (.iload_n 2, 1) := by decide +kernel
theorem dX3_writeRow_45 : decode cX3_writeRow 45 = .ok (.dup2, 1) := by decide +kernel
theorem dX3_writeRow_46 : decode cX3_writeRow 46 = .ok (.iaload, 1) := by decide +kernel
theorem dX3_writeRow_47 : decode cX3_writeRow 47 = .ok (.aload_n 0, 1) := by decide +kernel
theorem dX3_writeRow_48 : decode cX3_writeRow 48 = .ok (.getfield 11, 3) := by decide +kernel
theorem dX3_writeRow_51 : decode cX3_writeRow 51 = .ok (.iload_n 2, 1) := by decide +kernel
theorem dX3_writeRow_52 : decode cX3_writeRow 52 = .ok (.iconst 1, 1) := by decide +kernel
theorem dX3_writeRow_53 : decode cX3_writeRow 53 = .ok (.iadd, 1) := by decide +kernel
theorem dX3_writeRow_54 : decode cX3_writeRow 54 = .ok (.iload_n 3, 1) := by decide +kernel
theorem dX3_writeRow_55 : decode cX3_writeRow 55 = .ok (.iadd, 1) := by decide +kernel
theorem dX3_writeRow_56 : decode cX3_writeRow 56 = .ok (.iaload, 1) := by decide +kernel
theorem dX3_writeRow_57 : decode cX3_writeRow 57 = .ok (.iadd, 1) := by decide +kernel
theorem dX3_writeRow_58 : decode cX3_writeRow 58 = .ok (.iastore, 1) := by decide +kernel
theorem dX3_writeRow_59 : decode cX3_writeRow 59 = .ok (.iinc 3 1, 3) := by decide +kernel
theorem dX3_writeRow_62 : decode cX3_writeRow 62 = .ok (.goto (-45), 3) := by decide +kernel
theorem dX3_writeRow_65 : decode cX3_writeRow 65 = .ok (.return_, 1) := by decide +kernel
theorem dX3_gramsBehind_0 : decode cX3_gramsBehind 0 = .ok (.iload_n 1, 1) := by decide +kernel
theorem dX3_gramsBehind_1 : decode cX3_gramsBehind 1 = .ok (.iconst (-1), 1) := by decide +kernel
theorem dX3_gramsBehind_2 : decode cX3_gramsBehind 2 = .ok (.aload_n 0, 1) := by decide +kernel
theorem dX3_gramsBehind_3 : decode cX3_gramsBehind 3 = .ok (.getfield 30, 3) := by decide +kernel
theorem dX3_gramsBehind_6 : decode cX3_gramsBehind 6 = .ok (.iconst 1, 1) := by decide +kernel
theorem dX3_gramsBehind_7 : decode cX3_gramsBehind 7 = .ok (.isub, 1) := by decide +kernel
theorem dX3_gramsBehind_8 : decode cX3_gramsBehind 8 = .ok (.invokestatic 50, 3) := by decide +kernel
theorem dX3_gramsBehind_11 : decode cX3_gramsBehind 11 = .ok (.ifCond .eq 19, 3) := by decide +kernel
theorem dX3_gramsBehind_14 : decode cX3_gramsBehind 14 = .ok (.iload_n 2, 1) := by decide +kernel
theorem dX3_gramsBehind_15 : decode cX3_gramsBehind 15 = .ok (.iconst 0, 1) := by decide +kernel
theorem dX3_gramsBehind_16 : decode cX3_gramsBehind 16 = .ok (.aload_n 0, 1) := by decide +kernel
theorem dX3_gramsBehind_17 : decode cX3_gramsBehind 17 = .ok (.getfield 15, 3) := by decide +kernel
theorem dX3_gramsBehind_20 : decode cX3_gramsBehind 20 = .ok (.invokestatic 50, 3) := by decide +kernel
theorem dX3_gramsBehind_23 : decode cX3_gramsBehind 23 = .ok (.ifCond .eq 7, 3) := by decide +kernel
theorem dX3_gramsBehind_26 : decode cX3_gramsBehind 26 = .ok (.iconst 1, 1) := by decide +kernel
theorem dX3_gramsBehind_27 : decode cX3_gramsBehind 27 = .ok (.goto 4, 3) := by decide +kernel
theorem dX3_gramsBehind_30 : decode cX3_gramsBehind 30 = .ok (.iconst 0, 1) := by decide +kernel
theorem dX3_gramsBehind_31 : decode cX3_gramsBehind 31 = .ok (.istore_n 3, 1) := by decide +kernel
theorem dX3_gramsBehind_32 : decode cX3_gramsBehind 32 = .ok (.iload_n 3, 1) := by decide +kernel
theorem dX3_gramsBehind_33 : decode cX3_gramsBehind 33 = .ok (.ifCond .eq 19, 3) := by decide +kernel
theorem dX3_gramsBehind_36 : decode cX3_gramsBehind 36 = .ok (.aload_n 0, 1) := by decide +kernel
theorem dX3_gramsBehind_37 : decode cX3_gramsBehind 37 = .ok (.getfield 11, 3) := by decide +kernel
theorem dX3_gramsBehind_40 : decode cX3_gramsBehind 40 = .ok (.iload_n 2, 1) := by decide +kernel
theorem dX3_gramsBehind_41 : decode cX3_gramsBehind 41 = .ok (.bipush 9, 2) := by decide +kernel
theorem dX3_gramsBehind_43 : decode cX3_gramsBehind 43 = .ok (.imul, 1) := by decide +kernel
theorem dX3_gramsBehind_44 : decode cX3_gramsBehind 44 = .ok (.iconst 1, 1) := by decide +kernel
theorem dX3_gramsBehind_45 : decode cX3_gramsBehind 45 = .ok (.iadd, 1) := by decide +kernel
theorem dX3_gramsBehind_46 : decode cX3_gramsBehind 46 = .ok (.iload_n 1, 1) := by decide +kernel
theorem dX3_gramsBehind_47 : decode cX3_gramsBehind 47 = .ok (.iadd, 1) := by decide +kernel
theorem dX3_gramsBehind_48 : decode cX3_gramsBehind 48 = .ok (.iaload, 1) := by decide +kernel
theorem dX3_gramsBehind_49 : decode cX3_gramsBehind 49 = .ok (.goto 4, 3) := by decide +kernel
theorem dX3_gramsBehind_52 : decode cX3_gramsBehind 52 = .ok (.iconst (-1), 1) := by decide +kernel
theorem dX3_gramsBehind_53 : decode cX3_gramsBehind 53 = .ok (.ireturn, 1) := by decide +kernel
theorem dX4_init_0 : decode cX4_init 0 = .ok (.aload_n 0, 1) := by decide +kernel
theorem dX4_init_1 : decode cX4_init 1 = .ok (.invokespecial 1, 3) := by decide +kernel
theorem dX4_init_4 : decode cX4_init 4 = .ok (.aload_n 0, 1) := by decide +kernel
theorem dX4_init_5 : decode cX4_init 5 = .ok (.bipush 30, 2) := by decide +kernel
theorem dX4_init_7 : decode cX4_init 7 = .ok (.newarray .int, 2) := by decide +kernel
theorem dX4_init_9 : decode cX4_init 9 = .ok (.putfield 9, 3) := by decide +kernel
theorem dX4_init_12 : decode cX4_init 12 = .ok (.aload_n 0, 1) := by decide +kernel
theorem dX4_init_13 : decode cX4_init 13 = .ok (.bipush 30, 2) := by decide +kernel
theorem dX4_init_15 : decode cX4_init 15 = .ok (.newarray .int, 2) := by decide +kernel
theorem dX4_init_17 : decode cX4_init 17 = .ok (.putfield 13, 3) := by decide +kernel
theorem dX4_init_20 : decode cX4_init 20 = .ok (.return_, 1) := by decide +kernel
theorem dX4_add_0 : decode cX4_add 0 = .ok (.aload_n 0, 1) := by decide +kernel
theorem dX4_add_1 : decode cX4_add 1 = .ok (.getfield 9, 3) := by decide +kernel
theorem dX4_add_4 : decode cX4_add 4 = .ok (.aload_n 0, 1) := by decide +kernel
theorem dX4_add_5 : decode cX4_add 5 = .ok (.getfield 16, 3) := by decide +kernel
theorem dX4_add_8 : decode cX4_add 8 = .ok (.iload_n 1, 1) := by decide +kernel
theorem dX4_add_9 : decode cX4_add 9 = .ok (.iastore, 1) := by decide +kernel
theorem dX4_add_10 : decode cX4_add 10 = .ok (.aload_n 0, 1) := by decide +kernel
theorem dX4_add_11 : decode cX4_add 11 = .ok (.getfield 13, 3) := by decide +kernel
theorem dX4_add_14 : decode cX4_add 14 = .ok (.aload_n 0, 1) := by decide +kernel
theorem dX4_add_15 : decode cX4_add 15 = .ok (.getfield 16, 3) := by decide +kernel
theorem dX4_add_18 : decode cX4_add 18 = .ok (.iload_n 2, 1) := by decide +kernel
theorem dX4_add_19 : decode cX4_add 19 = .ok (.iastore, 1) := by decide +kernel
theorem dX4_add_20 : decode cX4_add 20 = .ok (.aload_n 0, 1) := by decide +kernel
theorem dX4_add_21 : decode cX4_add 21 = .ok (.dup, 1) := by decide +kernel
theorem dX4_add_22 : decode cX4_add 22 = .ok (.getfield 16, 3) := by decide +kernel
theorem dX4_add_25 : decode cX4_add 25 = .ok (.iconst 1, 1) := by decide +kernel
theorem dX4_add_26 : decode cX4_add 26 = .ok (.iadd, 1) := by decide +kernel
theorem dX4_add_27 : decode cX4_add 27 = .ok (.putfield 16, 3) := by decide +kernel
theorem dX4_add_30 : decode cX4_add 30 = .ok (.aload_n 0, 1) := by decide +kernel
theorem dX4_add_31 : decode cX4_add 31 = .ok (.getfield 16, 3) := by decide +kernel
theorem dX4_add_34 : decode cX4_add 34 = .ok (.ireturn, 1) := by decide +kernel
theorem dX5_init_0 : decode cX5_init 0 = .ok (.aload_n 0, 1) := by decide +kernel
theorem dX5_init_1 : decode cX5_init 1 = .ok (.invokespecial 3, 3) := by decide +kernel
theorem dX5_init_4 : decode cX5_init 4 = .ok (.aload_n 0, 1) := by decide +kernel
theorem dX5_init_5 : decode cX5_init 5 = .ok (.bipush 6, 2) := by decide +kernel
theorem dX5_init_7 : decode cX5_init 7 = .ok (.newarray .int, 2) := by decide +kernel
theorem dX5_init_9 : decode cX5_init 9 = .ok (.putfield 11, 3) := by decide +kernel
theorem dX5_init_12 : decode cX5_init 12 = .ok (.aload_n 0, 1) := by decide +kernel
theorem dX5_init_13 : decode cX5_init 13 = .ok (.bipush 6, 2) := by decide +kernel
theorem dX5_init_15 : decode cX5_init 15 = .ok (.newarray .int, 2) := by decide +kernel
theorem dX5_init_17 : decode cX5_init 17 = .ok (.putfield 15, 3) := by decide +kernel
theorem dX5_init_20 : decode cX5_init 20 = .ok (.return_, 1) := by decide +kernel
theorem dX5_stretch_0 : decode cX5_stretch 0 = .ok (.aload_n 0, 1) := by decide +kernel
theorem dX5_stretch_1 : decode cX5_stretch 1 = .ok (.getfield 11, 3) := by decide +kernel
theorem dX5_stretch_4 : decode cX5_stretch 4 = .ok (.aload_n 0, 1) := by decide +kernel
theorem dX5_stretch_5 : decode cX5_stretch 5 = .ok (.getfield 18, 3) := by decide +kernel
theorem dX5_stretch_8 : decode cX5_stretch 8 = .ok (.iload_n 1, 1) := by decide +kernel
theorem dX5_stretch_9 : decode cX5_stretch 9 = .ok (.iastore, 1) := by decide +kernel
theorem dX5_stretch_10 : decode cX5_stretch 10 = .ok (.aload_n 0, 1) := by decide +kernel
theorem dX5_stretch_11 : decode cX5_stretch 11 = .ok (.getfield 15, 3) := by decide +kernel
theorem dX5_stretch_14 : decode cX5_stretch 14 = .ok (.aload_n 0, 1) := by decide +kernel
theorem dX5_stretch_15 : decode cX5_stretch 15 = .ok (.getfield 18, 3) := by decide +kernel
theorem dX5_stretch_18 : decode cX5_stretch 18 = .ok (.iload_n 2, 1) := by decide +kernel
theorem dX5_stretch_19 : decode cX5_stretch 19 = .ok (.iastore, 1) := by decide +kernel
theorem dX5_stretch_20 : decode cX5_stretch 20 = .ok (.aload_n 0, 1) := by decide +kernel
theorem dX5_stretch_21 : decode cX5_stretch 21 = .ok (.dup, 1) := by decide +kernel
theorem dX5_stretch_22 : decode cX5_stretch 22 = .ok (.getfield 18, 3) := by decide +kernel
theorem dX5_stretch_25 : decode cX5_stretch 25 = .ok (.iconst 1, 1) := by decide +kernel
theorem dX5_stretch_26 : decode cX5_stretch 26 = .ok (.iadd, 1) := by decide +kernel
theorem dX5_stretch_27 : decode cX5_stretch 27 = .ok (.putfield 18, 3) := by decide +kernel
theorem dX5_stretch_30 : decode cX5_stretch 30 = .ok (.aload_n 0, 1) := by decide +kernel
theorem dX5_stretch_31 : decode cX5_stretch 31 = .ok (.getfield 18, 3) := by decide +kernel
theorem dX5_stretch_34 : decode cX5_stretch 34 = .ok (.ireturn, 1) := by decide +kernel
theorem dX5_daysInAll_0 : decode cX5_daysInAll 0 = .ok (.iconst 0, 1) := by decide +kernel
theorem dX5_daysInAll_1 : decode cX5_daysInAll 1 = .ok (.istore_n 1, 1) := by decide +kernel
theorem dX5_daysInAll_2 : decode cX5_daysInAll 2 = .ok (.iconst 0, 1) := by decide +kernel
theorem dX5_daysInAll_3 : decode cX5_daysInAll 3 = .ok (.istore_n 2, 1) := by decide +kernel
theorem dX5_daysInAll_4 : decode cX5_daysInAll 4 = .ok (.iload_n 2, 1) := by decide +kernel
theorem dX5_daysInAll_5 : decode cX5_daysInAll 5 = .ok (.aload_n 0, 1) := by decide +kernel
theorem dX5_daysInAll_6 : decode cX5_daysInAll 6 = .ok (.getfield 18, 3) := by decide +kernel
theorem dX5_daysInAll_9 : decode cX5_daysInAll 9 = .ok (.if_icmp .ge 18, 3) := by decide +kernel
theorem dX5_daysInAll_12 : decode cX5_daysInAll 12 = .ok (.iload_n 1, 1) := by decide +kernel
theorem dX5_daysInAll_13 : decode cX5_daysInAll 13 = .ok (.aload_n 0, 1) := by decide +kernel
theorem dX5_daysInAll_14 : decode cX5_daysInAll 14 = .ok (.getfield 15, 3) := by decide +kernel
theorem dX5_daysInAll_17 : decode cX5_daysInAll 17 = .ok (.iload_n 2, 1) := by decide +kernel
theorem dX5_daysInAll_18 : decode cX5_daysInAll 18 = .ok (.iaload, 1) := by decide +kernel
theorem dX5_daysInAll_19 : decode cX5_daysInAll 19 = .ok (.iadd, 1) := by decide +kernel
theorem dX5_daysInAll_20 : decode cX5_daysInAll 20 = .ok (.istore_n 1, 1) := by decide +kernel
theorem dX5_daysInAll_21 : decode cX5_daysInAll 21 = .ok (.iinc 2 1, 3) := by decide +kernel
theorem dX5_daysInAll_24 : decode cX5_daysInAll 24 = .ok (.goto (-20), 3) := by decide +kernel
theorem dX5_daysInAll_27 : decode cX5_daysInAll 27 = .ok (.iload_n 1, 1) := by decide +kernel
theorem dX5_daysInAll_28 : decode cX5_daysInAll 28 = .ok (.ireturn, 1) := by decide +kernel
theorem dX5_leaves_0 : decode cX5_leaves 0 = .ok (.iload_n 2, 1) := by decide +kernel
theorem dX5_leaves_1 : decode cX5_leaves 1 = .ok (.istore 6, 2) := by decide +kernel
theorem dX5_leaves_3 : decode cX5_leaves 3 = .ok (.iload_n 3, 1) := by decide +kernel
theorem dX5_leaves_4 : decode cX5_leaves 4 = .ok (.istore 7, 2) := by decide +kernel
theorem dX5_leaves_6 : decode cX5_leaves 6 = .ok (.iconst 0, 1) := by decide +kernel
theorem dX5_leaves_7 : decode cX5_leaves 7 = .ok (.istore 8, 2) := by decide +kernel
theorem dX5_leaves_9 : decode cX5_leaves 9 = .ok (.iload 8, 2) := by decide +kernel
theorem dX5_leaves_11 : decode cX5_leaves 11 = .ok (.aload_n 0, 1) := by decide +kernel
theorem dX5_leaves_12 : decode cX5_leaves 12 = .ok (.getfield 18, 3) := by decide +kernel
theorem dX5_leaves_15 : decode cX5_leaves 15 = .ok (.if_icmp .ge 95, 3) := by decide +kernel
theorem dX5_leaves_18 : decode cX5_leaves 18 = .ok (.iconst 0, 1) := by decide +kernel
theorem dX5_leaves_19 : decode cX5_leaves 19 = .ok (.istore 9, 2) := by decide +kernel
theorem dX5_leaves_21 : decode cX5_leaves 21 = .ok (.iload 9, 2) := by decide +kernel
theorem dX5_leaves_23 : decode cX5_leaves 23 = .ok (.aload_n 0, 1) := by decide +kernel
theorem dX5_leaves_24 : decode cX5_leaves 24 = .ok (.getfield 15, 3) := by decide +kernel
theorem dX5_leaves_27 : decode cX5_leaves 27 = .ok (.iload 8, 2) := by decide +kernel
theorem dX5_leaves_29 : decode cX5_leaves 29 = .ok (.iaload, 1) := by decide +kernel
theorem dX5_leaves_30 : decode cX5_leaves 30 = .ok (.if_icmp .ge 74, 3) := by decide +kernel
theorem dX5_leaves_33 : decode cX5_leaves 33 = .ok (.aload_n 0, 1) := by decide +kernel
theorem dX5_leaves_34 : decode cX5_leaves 34 = .ok (.getfield 11, 3) := by decide +kernel
theorem dX5_leaves_37 : decode cX5_leaves 37 = .ok (.iload 8, 2) := by decide +kernel
theorem dX5_leaves_39 : decode cX5_leaves 39 = .ok (.iaload, 1) := by decide +kernel
theorem dX5_leaves_40 : decode cX5_leaves 40 = .ok (.aload 4, 2) := by decide +kernel
theorem dX5_leaves_42 : decode cX5_leaves 42 = .ok (.iload 7, 2) := by decide +kernel
theorem dX5_leaves_44 : decode cX5_leaves 44 = .ok (.invokevirtual 22, 3) := by decide +kernel
theorem dX5_leaves_47 : decode cX5_leaves 47 = .ok (.invokestatic 28, 3) := by decide +kernel
theorem dX5_leaves_50 : decode cX5_leaves 50 = .ok (.istore 10, 2) := by decide +kernel
theorem dX5_leaves_52 : decode cX5_leaves 52 = .ok (.iload 10, 2) := by decide +kernel
theorem dX5_leaves_54 : decode cX5_leaves 54 = .ok (.ifCond .le 16, 3) := by decide +kernel
theorem dX5_leaves_57 : decode cX5_leaves 57 = .ok (.bipush 6, 2) := by decide +kernel
theorem dX5_leaves_59 : decode cX5_leaves 59 = .ok (.iload_n 1, 1) := by decide +kernel
theorem dX5_leaves_60 : decode cX5_leaves 60 = .ok (.invokestatic 34, 3) := by decide +kernel
theorem dX5_leaves_63 : decode cX5_leaves 63 = .ok (.imul, 1) := by decide +kernel
theorem dX5_leaves_64 : decode cX5_leaves 64 = .ok (.iload 10, 2) := by decide +kernel
theorem dX5_leaves_66 : decode cX5_leaves 66 = .ok (.imul, 1) := by decide +kernel
theorem dX5_leaves_67 : decode cX5_leaves 67 = .ok (.goto 4, 3) := by decide +kernel
theorem dX5_leaves_70 : decode cX5_leaves 70 = .ok (.iconst 0, 1) := by decide +kernel
theorem dX5_leaves_71 : decode cX5_leaves 71 = .ok (.istore 11, 2) := by decide +kernel
theorem dX5_leaves_73 : decode cX5_leaves 73 = .ok (.iload 6, 2) := by decide +kernel
theorem dX5_leaves_75 : decode cX5_leaves 75 = .ok (.iload 11, 2) := by decide +kernel
theorem dX5_leaves_77 : decode cX5_leaves 77 = .ok (.iload 6, 2) := by decide +kernel
theorem dX5_leaves_79 : decode cX5_leaves 79 = .ok (.invokestatic 37, 3) := by decide +kernel
theorem dX5_leaves_82 : decode cX5_leaves 82 = .ok (.isub, 1) := by decide +kernel
theorem dX5_leaves_83 : decode cX5_leaves 83 = .ok (.istore 6, 2) := by decide +kernel
theorem dX5_leaves_85 : decode cX5_leaves 85 = .ok (.iload 6, 2) := by decide +kernel
theorem dX5_leaves_87 : decode cX5_leaves 87 = .ok (.iload 5, 2) := by decide +kernel
theorem dX5_leaves_89 : decode cX5_leaves 89 = .ok (.if_icmp .ge 6, 3) := by decide +kernel
theorem dX5_leaves_92 : decode cX5_leaves 92 = .ok (.iconst 0, 1) := by decide +kernel
theorem dX5_leaves_93 : decode cX5_leaves 93 = .ok (.istore 6, 2) := by decide +kernel
theorem dX5_leaves_95 : decode cX5_leaves 95 = .ok (.iinc 7 1, 3) := by decide +kernel
theorem dX5_leaves_98 : decode cX5_leaves 98 = .ok (.iinc 9 1, 3) := by decide +kernel
theorem dX5_leaves_101 : decode cX5_leaves 101 = .ok (.goto (-80), 3) := by decide +kernel
theorem dX5_leaves_104 : decode cX5_leaves 104 = .ok (.iinc 8 1, 3) := by decide +kernel
theorem dX5_leaves_107 : decode cX5_leaves 107 = .ok (.goto (-98), 3) := by decide +kernel
theorem dX5_leaves_110 : decode cX5_leaves 110 = .ok (.iload 6, 2) := by decide +kernel
theorem dX5_leaves_112 : decode cX5_leaves 112 = .ok (.ireturn, 1) := by decide +kernel
theorem dX9_init_0 : decode cX9_init 0 = .ok (.aload_n 0, 1) := by decide +kernel
theorem dX9_init_1 : decode cX9_init 1 = .ok (.invokespecial 3, 3) := by decide +kernel
theorem dX9_init_4 : decode cX9_init 4 = .ok (.return_, 1) := by decide +kernel
theorem dX9_look_0 : decode cX9_look 0 = .ok (.aload_n 0, 1) := by decide +kernel
theorem dX9_look_1 : decode cX9_look 1 = .ok (.iconst 0, 1) := by decide +kernel
theorem dX9_look_2 : decode cX9_look 2 = .ok (.putfield 9, 3) := by decide +kernel
theorem dX9_look_5 : decode cX9_look 5 = .ok (.aload_n 0, 1) := by decide +kernel
theorem dX9_look_6 : decode cX9_look 6 = .ok (.iconst 0, 1) := by decide +kernel
theorem dX9_look_7 : decode cX9_look 7 = .ok (.putfield 15, 3) := by decide +kernel
theorem dX9_look_10 : decode cX9_look 10 = .ok (.aload_n 0, 1) := by decide +kernel
theorem dX9_look_11 : decode cX9_look 11 = .ok (.iconst 0, 1) := by decide +kernel
theorem dX9_look_12 : decode cX9_look 12 = .ok (.putfield 18, 3) := by decide +kernel
theorem dX9_look_15 : decode cX9_look 15 = .ok (.aload_n 1, 1) := by decide +kernel
theorem dX9_look_16 : decode cX9_look 16 = .ok (.getfield 22, 3) := by decide +kernel
theorem dX9_look_19 : decode cX9_look 19 = .ok (.astore 4, 2) := by decide +kernel
theorem dX9_look_21 : decode cX9_look 21 = .ok (.iconst 0, 1) := by decide +kernel
theorem dX9_look_22 : decode cX9_look 22 = .ok (.istore 5, 2) := by decide +kernel
theorem dX9_look_24 : decode cX9_look 24 = .ok (.iload 5, 2) := by decide +kernel
theorem dX9_look_26 : decode cX9_look 26 = .ok (.bipush 6, 2) := by decide +kernel
theorem dX9_look_28 : decode cX9_look 28 = .ok (.if_icmp .ge 107, 3) := by decide +kernel
theorem dX9_look_31 : decode cX9_look 31 = .ok (.iload 5, 2) := by decide +kernel
theorem dX9_look_33 : decode cX9_look 33 = .ok (.iload_n 3, 1) := by decide +kernel
theorem dX9_look_34 : decode cX9_look 34 = .ok (.aload 4, 2) := by decide +kernel
theorem dX9_look_36 : decode cX9_look 36 = .ok (.getfield 28, 3) := by decide +kernel
theorem dX9_look_39 : decode cX9_look 39 = .ok (.iload_n 2, 1) := by decide +kernel
theorem dX9_look_40 : decode cX9_look 40 = .ok (.iaload, 1) := by decide +kernel
theorem dX9_look_41 : decode cX9_look 41 = .ok (.aload 4, 2) := by decide +kernel
theorem dX9_look_43 : decode cX9_look 43 = .ok (.getfield 34, 3) := by decide +kernel
theorem dX9_look_46 : decode cX9_look 46 = .ok (.iload_n 2, 1) := by decide +kernel
theorem dX9_look_47 : decode cX9_look 47 = .ok (.iaload, 1) := by decide +kernel
theorem dX9_look_48 : decode cX9_look 48 = .ok (.aload 4, 2) := by decide +kernel
theorem dX9_look_50 : decode cX9_look 50 = .ok (.getfield 37, 3) := by decide +kernel
theorem dX9_look_53 : decode cX9_look 53 = .ok (.iload_n 2, 1) := by decide +kernel
theorem dX9_look_54 : decode cX9_look 54 = .ok (.iaload, 1) := by decide +kernel
theorem dX9_look_55 : decode cX9_look 55 = .ok (.invokestatic 40, 3) := by decide +kernel
theorem dX9_look_58 : decode cX9_look 58 = .ok (.istore 6, 2) := by decide +kernel
theorem dX9_look_60 : decode cX9_look 60 = .ok (.aload 4, 2) := by decide +kernel
theorem dX9_look_62 : decode cX9_look 62 = .ok (.iload_n 2, 1) := by decide +kernel
theorem dX9_look_63 : decode cX9_look 63 = .ok (.iload 6, 2) := by decide +kernel
theorem dX9_look_65 : decode cX9_look 65 = .ok (.invokevirtual 44, 3) := by decide +kernel
theorem dX9_look_68 : decode cX9_look 68 = .ok (.istore 7, 2) := by decide +kernel
theorem dX9_look_70 : decode cX9_look 70 = .ok (.iload 7, 2) := by decide +kernel
theorem dX9_look_72 : decode cX9_look 72 = .ok (.iconst 1, 1) := by decide +kernel
theorem dX9_look_73 : decode cX9_look 73 = .ok (.if_icmp .ne 16, 3) := by decide +kernel
theorem dX9_look_76 : decode cX9_look 76 = .ok (.aload_n 0, 1) := by decide +kernel
theorem dX9_look_77 : decode cX9_look 77 = .ok (.dup, 1) := by decide +kernel
theorem dX9_look_78 : decode cX9_look 78 = .ok (.getfield 15, 3) := by decide +kernel
theorem dX9_look_81 : decode cX9_look 81 = .ok (.iconst 1, 1) := by decide +kernel
theorem dX9_look_82 : decode cX9_look 82 = .ok (.iadd, 1) := by decide +kernel
theorem dX9_look_83 : decode cX9_look 83 = .ok (.putfield 15, 3) := by decide +kernel
theorem dX9_look_86 : decode cX9_look 86 = .ok (.goto 43, 3) := by decide +kernel
theorem dX9_look_89 : decode cX9_look 89 = .ok (.iload 7, 2) := by decide +kernel
theorem dX9_look_91 : decode cX9_look 91 = .ok (.bipush 10, 2) := by decide +kernel
theorem dX9_look_93 : decode cX9_look 93 = .ok (.if_icmp .ge 16, 3) := by decide +kernel
theorem dX9_look_96 : decode cX9_look 96 = .ok (.aload_n 0, 1) := by decide +kernel
theorem dX9_look_97 : decode cX9_look 97 = .ok (.dup, 1) := by decide +kernel
theorem dX9_look_98 : decode cX9_look 98 = .ok (.getfield 9, 3) := by decide +kernel
theorem dX9_look_101 : decode cX9_look 101 = .ok (.iconst 1, 1) := by decide +kernel
theorem dX9_look_102 : decode cX9_look 102 = .ok (.iadd, 1) := by decide +kernel
theorem dX9_look_103 : decode cX9_look 103 = .ok (.putfield 9, 3) := by decide +kernel
theorem dX9_look_106 : decode cX9_look 106 = .ok (.goto 23, 3) := by decide +kernel
theorem dX9_look_109 : decode cX9_look 109 = .ok (.aload_n 1, 1) := by decide +kernel
theorem dX9_look_110 : decode cX9_look 110 = .ok (.getfield 48, 3) := by decide +kernel
theorem dX9_look_113 : decode cX9_look 113 = .ok (.iload 7, 2) := by decide +kernel
theorem dX9_look_115 : decode cX9_look 115 = .ok (.bipush 10, 2) := by decide +kernel
theorem dX9_look_117 : decode cX9_look 117 = .ok (.isub, 1) := by decide +kernel
theorem dX9_look_118 : decode cX9_look 118 = .ok (.invokevirtual 52, 3) := by decide +kernel
theorem dX9_look_121 : decode cX9_look 121 = .ok (.ifCond .eq 8, 3) := by decide +kernel
theorem dX9_look_124 : decode cX9_look 124 = .ok (.aload_n 0, 1) := by decide +kernel
theorem dX9_look_125 : decode cX9_look 125 = .ok (.iconst 1, 1) := by decide +kernel
theorem dX9_look_126 : decode cX9_look 126 = .ok (.putfield 18, 3) := by decide +kernel
theorem dX9_look_129 : decode cX9_look 129 = .ok (.iinc 5 1, 3) := by decide +kernel
theorem dX9_look_132 : decode cX9_look 132 = .ok (.goto (-108), 3) := by decide +kernel
theorem dX9_look_135 : decode cX9_look 135 = .ok (.return_, 1) := by decide +kernel
theorem dX10_init_0 : decode cX10_init 0 = .ok (.aload_n 0, 1) := by decide +kernel
theorem dX10_init_1 : decode cX10_init 1 = .ok (.invokespecial 3, 3) := by decide +kernel
theorem dX10_init_4 : decode cX10_init 4 = .ok (.aload_n 0, 1) := by decide +kernel
theorem dX10_init_5 : decode cX10_init 5 = .ok (.new 9, 3) := by decide +kernel
theorem dX10_init_8 : decode cX10_init 8 = .ok (.dup, 1) := by decide +kernel
theorem dX10_init_9 : decode cX10_init 9 = .ok (.invokespecial 11, 3) := by decide +kernel
theorem dX10_init_12 : decode cX10_init 12 = .ok (.putfield 12, 3) := by decide +kernel
theorem dX10_init_15 : decode cX10_init 15 = .ok (.aload_n 0, 1) := by decide +kernel
theorem dX10_init_16 : decode cX10_init 16 = .ok (.new 18, 3) := by decide +kernel
theorem dX10_init_19 : decode cX10_init 19 = .ok (.dup, 1) := by decide +kernel
theorem dX10_init_20 : decode cX10_init 20 = .ok (.invokespecial 20, 3) := by decide +kernel
theorem dX10_init_23 : decode cX10_init 23 = .ok (.putfield 21, 3) := by decide +kernel
theorem dX10_init_26 : decode cX10_init 26 = .ok (.return_, 1) := by decide +kernel
theorem dX10_copyFrom_0 : decode cX10_copyFrom 0 = .ok (.aload_n 0, 1) := by decide +kernel
theorem dX10_copyFrom_1 : decode cX10_copyFrom 1 = .ok (.aload_n 1, 1) := by decide +kernel
theorem dX10_copyFrom_2 : decode cX10_copyFrom 2 = .ok (.getfield 25, 3) := by decide +kernel
theorem dX10_copyFrom_5 : decode cX10_copyFrom 5 = .ok (.putfield 25, 3) := by decide +kernel
theorem dX10_copyFrom_8 : decode cX10_copyFrom 8 = .ok (.aload_n 0, 1) := by decide +kernel
theorem dX10_copyFrom_9 : decode cX10_copyFrom 9 = .ok (.aload_n 1, 1) := by decide +kernel
theorem dX10_copyFrom_10 : decode cX10_copyFrom 10 = .ok (.getfield 29, 3) := by decide +kernel
theorem dX10_copyFrom_13 : decode cX10_copyFrom 13 = .ok (.putfield 29, 3) := by decide +kernel
theorem dX10_copyFrom_16 : decode cX10_copyFrom 16 = .ok (.aload_n 0, 1) := by decide +kernel
theorem dX10_copyFrom_17 : decode cX10_copyFrom 17 = .ok (.aload_n 1, 1) := by decide +kernel
theorem dX10_copyFrom_18 : decode cX10_copyFrom 18 = .ok (.getfield 32, 3) := by decide +kernel
theorem dX10_copyFrom_21 : decode cX10_copyFrom 21 = .ok (.putfield 32, 3) := by decide +kernel
theorem dX10_copyFrom_24 : decode cX10_copyFrom 24 = .ok (.aload_n 0, 1) := by decide +kernel
theorem dX10_copyFrom_25 : decode cX10_copyFrom 25 = .ok (.aload_n 1, 1) := by decide +kernel
theorem dX10_copyFrom_26 : decode cX10_copyFrom 26 = .ok (.getfield 35, 3) := by decide +kernel
theorem dX10_copyFrom_29 : decode cX10_copyFrom 29 = .ok (.putfield 35, 3) := by decide +kernel
theorem dX10_copyFrom_32 : decode cX10_copyFrom 32 = .ok (.aload_n 0, 1) := by decide +kernel
theorem dX10_copyFrom_33 : decode cX10_copyFrom 33 = .ok (.aload_n 1, 1) := by decide +kernel
theorem dX10_copyFrom_34 : decode cX10_copyFrom 34 = .ok (.getfield 38, 3) := by decide +kernel
theorem dX10_copyFrom_37 : decode cX10_copyFrom 37 = .ok (.putfield 38, 3) := by decide +kernel
theorem dX10_copyFrom_40 : decode cX10_copyFrom 40 = .ok (.aload_n 0, 1) := by decide +kernel
theorem dX10_copyFrom_41 : decode cX10_copyFrom 41 = .ok (.getfield 12, 3) := by decide +kernel
theorem dX10_copyFrom_44 : decode cX10_copyFrom 44 = .ok (.aload_n 1, 1) := by decide +kernel
theorem dX10_copyFrom_45 : decode cX10_copyFrom 45 = .ok (.getfield 12, 3) := by decide +kernel
theorem dX10_copyFrom_48 : decode cX10_copyFrom 48 = .ok (.invokevirtual 41, 3) := by decide +kernel
theorem dX10_copyFrom_51 : decode cX10_copyFrom 51 = .ok (.aload_n 0, 1) := by decide +kernel
theorem dX10_copyFrom_52 : decode cX10_copyFrom 52 = .ok (.getfield 21, 3) := by decide +kernel
theorem dX10_copyFrom_55 : decode cX10_copyFrom 55 = .ok (.aload_n 1, 1) := by decide +kernel
theorem dX10_copyFrom_56 : decode cX10_copyFrom 56 = .ok (.getfield 21, 3) := by decide +kernel
theorem dX10_copyFrom_59 : decode cX10_copyFrom 59 = .ok (.invokevirtual 45, 3) := by decide +kernel
theorem dX10_copyFrom_62 : decode cX10_copyFrom 62 = .ok (.return_, 1) := by decide +kernel
theorem dX10_cutBlock_0 : decode cX10_cutBlock 0 = .ok (.aload_n 0, 1) := by decide +kernel
theorem dX10_cutBlock_1 : decode cX10_cutBlock 1 = .ok (.getfield 21, 3) := by decide +kernel
theorem dX10_cutBlock_4 : decode cX10_cutBlock 4 = .ok (.getfield 48, 3) := by decide +kernel
theorem dX10_cutBlock_7 : decode cX10_cutBlock 7 = .ok (.istore 5, 2) := by decide +kernel
theorem dX10_cutBlock_9 : decode cX10_cutBlock 9 = .ok (.iload 5, 2) := by decide +kernel
theorem dX10_cutBlock_11 : decode cX10_cutBlock 11 = .ok (.sipush 300, 3) := by decide +kernel
theorem dX10_cutBlock_14 : decode cX10_cutBlock 14 = .ok (.if_icmp .lt 6, 3) := by decide +kernel
theorem dX10_cutBlock_17 : decode cX10_cutBlock 17 = .ok (.bipush (-6), 2) := by decide +kernel
theorem dX10_cutBlock_19 : decode cX10_cutBlock 19 = .ok (.ireturn, 1) := by decide +kernel
theorem dX10_cutBlock_20 : decode cX10_cutBlock 20 = .ok (.aload_n 0, 1) := by decide +kernel
theorem dX10_cutBlock_21 : decode cX10_cutBlock 21 = .ok (.getfield 21, 3) := by decide +kernel
theorem dX10_cutBlock_24 : decode cX10_cutBlock 24 = .ok (.getfield 51, 3) := by decide +kernel
theorem dX10_cutBlock_27 : decode cX10_cutBlock 27 = .ok (.iload 5, 2) := by decide +kernel
theorem dX10_cutBlock_29 : decode cX10_cutBlock 29 = .ok (.iload_n 3, 1) := by decide +kernel
theorem dX10_cutBlock_30 : decode cX10_cutBlock 30 = .ok (.iastore, 1) := by decide +kernel
theorem dX10_cutBlock_31 : decode cX10_cutBlock 31 = .ok (.aload_n 0, 1) := by decide +kernel
theorem dX10_cutBlock_32 : decode cX10_cutBlock 32 = .ok (.getfield 21, 3) := by decide +kernel
theorem dX10_cutBlock_35 : decode cX10_cutBlock 35 = .ok (.getfield 55, 3) := by decide +kernel
theorem dX10_cutBlock_38 : decode cX10_cutBlock 38 = .ok (.iload 5, 2) := by decide +kernel
theorem dX10_cutBlock_40 : decode cX10_cutBlock 40 = .ok (.iload 4, 2) := by decide +kernel
theorem dX10_cutBlock_42 : decode cX10_cutBlock 42 = .ok (.iastore, 1) := by decide +kernel
theorem dX10_cutBlock_43 : decode cX10_cutBlock 43 = .ok (.aload_n 0, 1) := by decide +kernel
theorem dX10_cutBlock_44 : decode cX10_cutBlock 44 = .ok (.getfield 21, 3) := by decide +kernel
theorem dX10_cutBlock_47 : decode cX10_cutBlock 47 = .ok (.getfield 58, 3) := by decide +kernel
theorem dX10_cutBlock_50 : decode cX10_cutBlock 50 = .ok (.iload 5, 2) := by decide +kernel
theorem dX10_cutBlock_52 : decode cX10_cutBlock 52 = .ok (.iload_n 1, 1) := by decide +kernel
theorem dX10_cutBlock_53 : decode cX10_cutBlock 53 = .ok (.iastore, 1) := by decide +kernel
theorem dX10_cutBlock_54 : decode cX10_cutBlock 54 = .ok (.aload_n 0, 1) := by decide +kernel
theorem dX10_cutBlock_55 : decode cX10_cutBlock 55 = .ok (.getfield 21, 3) := by decide +kernel
theorem dX10_cutBlock_58 : decode cX10_cutBlock 58 = .ok (.getfield 61, 3) := by decide +kernel
theorem dX10_cutBlock_61 : decode cX10_cutBlock 61 = .ok (.iload 5, 2) := by decide +kernel
theorem dX10_cutBlock_63 : decode cX10_cutBlock 63 = .ok (.iload_n 2, 1) := by decide +kernel
theorem dX10_cutBlock_64 : decode cX10_cutBlock 64 = .ok (.iastore, 1) := by decide +kernel
theorem dX10_cutBlock_65 : decode cX10_cutBlock 65 = .ok (.aload_n 0, 1) := by decide +kernel
theorem dX10_cutBlock_66 : decode cX10_cutBlock 66 = .ok (.getfield 21, 3) := by decide +kernel
theorem dX10_cutBlock_69 : decode cX10_cutBlock 69 = .ok (.getfield 64, 3) := by decide +kernel
theorem dX10_cutBlock_72 : decode cX10_cutBlock 72 = .ok (.iload 5, 2) := by decide +kernel
theorem dX10_cutBlock_74 : decode cX10_cutBlock 74 = .ok (.aload_n 0, 1) := by decide +kernel
theorem dX10_cutBlock_75 : decode cX10_cutBlock 75 = .ok (.getfield 25, 3) := by decide +kernel
theorem dX10_cutBlock_78 : decode cX10_cutBlock 78 = .ok (.iastore, 1) := by decide +kernel
theorem dX10_cutBlock_79 : decode cX10_cutBlock 79 = .ok (.aload_n 0, 1) := by decide +kernel
theorem dX10_cutBlock_80 : decode cX10_cutBlock 80 = .ok (.getfield 21, 3) := by decide +kernel
theorem dX10_cutBlock_83 : decode cX10_cutBlock 83 = .ok (.getfield 67, 3) := by decide +kernel
theorem dX10_cutBlock_86 : decode cX10_cutBlock 86 = .ok (.iload 5, 2) := by decide +kernel
theorem dX10_cutBlock_88 : decode cX10_cutBlock 88 = .ok (.iconst (-1), 1) := by decide +kernel
theorem dX10_cutBlock_89 : decode cX10_cutBlock 89 = .ok (.iastore, 1) := by decide +kernel
theorem dX10_cutBlock_90 : decode cX10_cutBlock 90 = .ok (.aload_n 0, 1) := by decide +kernel
theorem dX10_cutBlock_91 : decode cX10_cutBlock 91 = .ok (.getfield 21, 3) := by decide +kernel
theorem dX10_cutBlock_94 : decode cX10_cutBlock 94 = .ok (.dup, 1) := by decide +kernel
theorem dX10_cutBlock_95 : decode cX10_cutBlock 95 = .ok (.getfield 48, 3) := by decide +kernel
theorem dX10_cutBlock_98 : decode cX10_cutBlock 98 = .ok (.iconst 1, 1) := by decide +kernel
theorem dX10_cutBlock_99 : decode cX10_cutBlock 99 = .ok (.iadd, 1) := by decide +kernel
theorem dX10_cutBlock_100 : decode cX10_cutBlock 100 = .ok (.putfield 48, 3) := by decide +kernel
theorem dX10_cutBlock_103 : decode cX10_cutBlock 103 = .ok (.aload_n 0, 1) := by decide +kernel
theorem dX10_cutBlock_104 : decode cX10_cutBlock 104 = .ok (.iload 5, 2) := by decide +kernel
theorem dX10_cutBlock_106 : decode cX10_cutBlock 106 = .ok (.invokevirtual 70, 3) := by decide +kernel
theorem dX10_cutBlock_109 : decode cX10_cutBlock 109 = .ok (.aload_n 0, 1) := by decide +kernel
theorem dX10_cutBlock_110 : decode cX10_cutBlock 110 = .ok (.dup, 1) := by decide +kernel
theorem dX10_cutBlock_111 : decode cX10_cutBlock 111 = .ok (.getfield 29, 3) := by decide +kernel
theorem dX10_cutBlock_114 : decode cX10_cutBlock 114 = .ok (.iload 4, 2) := by decide +kernel
theorem dX10_cutBlock_116 : decode cX10_cutBlock 116 = .ok (.iadd, 1) := by decide +kernel
theorem dX10_cutBlock_117 : decode cX10_cutBlock 117 = .ok (.putfield 29, 3) := by decide +kernel
theorem dX10_cutBlock_120 : decode cX10_cutBlock 120 = .ok (.iload 5, 2) := by decide +kernel
theorem dX10_cutBlock_122 : decode cX10_cutBlock 122 = .ok (.ireturn, 1) := by decide +kernel
theorem dX10_layDown_0 : decode cX10_layDown 0 = .ok (.aload_n 0, 1) := by decide +kernel
theorem dX10_layDown_1 : decode cX10_layDown 1 = .ok (.getfield 21, 3) := by decide +kernel
theorem dX10_layDown_4 : decode cX10_layDown 4 = .ok (.getfield 58, 3) := by decide +kernel
theorem dX10_layDown_7 : decode cX10_layDown 7 = .ok (.iload_n 1, 1) := by decide +kernel
theorem dX10_layDown_8 : decode cX10_layDown 8 = .ok (.iaload, 1) := by decide +kernel
theorem dX10_layDown_9 : decode cX10_layDown 9 = .ok (.istore_n 2, 1) := by decide +kernel
theorem dX10_layDown_10 : decode cX10_layDown 10 = .ok (.aload_n 0, 1) := by decide +kernel
theorem dX10_layDown_11 : decode cX10_layDown 11 = .ok (.getfield 12, 3) := by decide +kernel
theorem dX10_layDown_14 : decode cX10_layDown 14 = .ok (.iload_n 2, 1) := by decide +kernel
theorem dX10_layDown_15 : decode cX10_layDown 15 = .ok (.aload_n 0, 1) := by decide +kernel
theorem dX10_layDown_16 : decode cX10_layDown 16 = .ok (.getfield 21, 3) := by decide +kernel
theorem dX10_layDown_19 : decode cX10_layDown 19 = .ok (.getfield 61, 3) := by decide +kernel
theorem dX10_layDown_22 : decode cX10_layDown 22 = .ok (.iload_n 1, 1) := by decide +kernel
theorem dX10_layDown_23 : decode cX10_layDown 23 = .ok (.iaload, 1) := by decide +kernel
theorem dX10_layDown_24 : decode cX10_layDown 24 = .ok (.bipush 10, 2) := by decide +kernel
theorem dX10_layDown_26 : decode cX10_layDown 26 = .ok (.iload_n 1, 1) := by decide +kernel
theorem dX10_layDown_27 : decode cX10_layDown 27 = .ok (.iadd, 1) := by decide +kernel
theorem dX10_layDown_28 : decode cX10_layDown 28 = .ok (.invokevirtual 74, 3) := by decide +kernel
theorem dX10_layDown_31 : decode cX10_layDown 31 = .ok (.aload_n 0, 1) := by decide +kernel
theorem dX10_layDown_32 : decode cX10_layDown 32 = .ok (.getfield 12, 3) := by decide +kernel
theorem dX10_layDown_35 : decode cX10_layDown 35 = .ok (.getfield 78, 3) := by decide +kernel
theorem dX10_layDown_38 : decode cX10_layDown 38 = .ok (.iload_n 2, 1) := by decide +kernel
theorem dX10_layDown_39 : decode cX10_layDown 39 = .ok (.dup2, 1) := by decide +kernel
theorem dX10_layDown_40 : decode cX10_layDown 40 = .ok (.iaload, 1) := by decide +kernel
theorem dX10_layDown_41 : decode cX10_layDown 41 = .ok (.aload_n 0, 1) := by decide +kernel
theorem dX10_layDown_42 : decode cX10_layDown 42 = .ok (.getfield 21, 3) := by decide +kernel
theorem dX10_layDown_45 : decode cX10_layDown 45 = .ok (.iload_n 1, 1) := by decide +kernel
theorem dX10_layDown_46 : decode cX10_layDown 46 = .ok (.invokevirtual 81, 3) := by decide +kernel
theorem dX10_layDown_49 : decode cX10_layDown 49 = .ok (.ifCond .eq 7, 3) := by decide +kernel
theorem dX10_layDown_52 : decode cX10_layDown 52 = .ok (.iconst 1, 1) := by decide +kernel
theorem dX10_layDown_53 : decode cX10_layDown 53 = .ok (.goto 4, 3) := by decide +kernel
theorem dX10_layDown_56 : decode cX10_layDown 56 = .ok (.iconst 0, 1) := by decide +kernel
theorem dX10_layDown_57 : decode cX10_layDown 57 = .ok (.iadd, 1) := by decide +kernel
theorem dX10_layDown_58 : decode cX10_layDown 58 = .ok (.iastore, 1) := by decide +kernel
theorem dX10_layDown_59 : decode cX10_layDown 59 = .ok (.return_, 1) := by decide +kernel
theorem dX10_liftUp_0 : decode cX10_liftUp 0 = .ok (.aload_n 0, 1) := by decide +kernel
theorem dX10_liftUp_1 : decode cX10_liftUp 1 = .ok (.getfield 21, 3) := by decide +kernel
theorem dX10_liftUp_4 : decode cX10_liftUp 4 = .ok (.getfield 58, 3) := by decide +kernel
theorem dX10_liftUp_7 : decode cX10_liftUp 7 = .ok (.iload_n 1, 1) := by decide +kernel
theorem dX10_liftUp_8 : decode cX10_liftUp 8 = .ok (.iaload, 1) := by decide +kernel
theorem dX10_liftUp_9 : decode cX10_liftUp 9 = .ok (.istore_n 2, 1) := by decide +kernel
theorem dX10_liftUp_10 : decode cX10_liftUp 10 = .ok (.aload_n 0, 1) := by decide +kernel
theorem dX10_liftUp_11 : decode cX10_liftUp 11 = .ok (.getfield 12, 3) := by decide +kernel
theorem dX10_liftUp_14 : decode cX10_liftUp 14 = .ok (.iload_n 2, 1) := by decide +kernel
theorem dX10_liftUp_15 : decode cX10_liftUp 15 = .ok (.aload_n 0, 1) := by decide +kernel
theorem dX10_liftUp_16 : decode cX10_liftUp 16 = .ok (.getfield 21, 3) := by decide +kernel
theorem dX10_liftUp_19 : decode cX10_liftUp 19 = .ok (.getfield 61, 3) := by decide +kernel
theorem dX10_liftUp_22 : decode cX10_liftUp 22 = .ok (.iload_n 1, 1) := by decide +kernel
theorem dX10_liftUp_23 : decode cX10_liftUp 23 = .ok (.iaload, 1) := by decide +kernel
theorem dX10_liftUp_24 : decode cX10_liftUp 24 = .ok (.iconst 0, 1) := by decide +kernel
theorem dX10_liftUp_25 : decode cX10_liftUp 25 = .ok (.invokevirtual 74, 3) := by decide +kernel
theorem dX10_liftUp_28 : decode cX10_liftUp 28 = .ok (.aload_n 0, 1) := by decide +kernel
theorem dX10_liftUp_29 : decode cX10_liftUp 29 = .ok (.getfield 12, 3) := by decide +kernel
theorem dX10_liftUp_32 : decode cX10_liftUp 32 = .ok (.getfield 78, 3) := by decide +kernel
theorem dX10_liftUp_35 : decode cX10_liftUp 35 = .ok (.iload_n 2, 1) := by decide +kernel
theorem dX10_liftUp_36 : decode cX10_liftUp 36 = .ok (.dup2, 1) := by decide +kernel
theorem dX10_liftUp_37 : decode cX10_liftUp 37 = .ok (.iaload, 1) := by decide +kernel
theorem dX10_liftUp_38 : decode cX10_liftUp 38 = .ok (.aload_n 0, 1) := by decide +kernel
theorem dX10_liftUp_39 : decode cX10_liftUp 39 = .ok (.getfield 21, 3) := by decide +kernel
theorem dX10_liftUp_42 : decode cX10_liftUp 42 = .ok (.iload_n 1, 1) := by decide +kernel
theorem dX10_liftUp_43 : decode cX10_liftUp 43 = .ok (.invokevirtual 81, 3) := by decide +kernel
theorem dX10_liftUp_46 : decode cX10_liftUp 46 = .ok (.ifCond .eq 7, 3) := by decide +kernel
theorem dX10_liftUp_49 : decode cX10_liftUp 49 = .ok (.iconst 1, 1) := by decide +kernel
theorem dX10_liftUp_50 : decode cX10_liftUp 50 = .ok (.goto 4, 3) := by decide +kernel
theorem dX10_liftUp_53 : decode cX10_liftUp 53 = .ok (.iconst 0, 1) := by decide +kernel
theorem dX10_liftUp_54 : decode cX10_liftUp 54 = .ok (.isub, 1) := by decide +kernel
theorem dX10_liftUp_55 : decode cX10_liftUp 55 = .ok (.iastore, 1) := by decide +kernel
theorem dX10_liftUp_56 : decode cX10_liftUp 56 = .ok (.return_, 1) := by decide +kernel
theorem dX10_blocksIn_0 : decode cX10_blocksIn 0 = .ok (.iconst 0, 1) := by decide +kernel
theorem dX10_blocksIn_1 : decode cX10_blocksIn 1 = .ok (.istore_n 2, 1) := by decide +kernel
theorem dX10_blocksIn_2 : decode cX10_blocksIn 2 = .ok (.iconst 0, 1) := by decide +kernel
theorem dX10_blocksIn_3 : decode cX10_blocksIn 3 = .ok (.istore_n 3, 1) := by decide +kernel
theorem dX10_blocksIn_4 : decode cX10_blocksIn 4 = .ok (.iload_n 3, 1) := by decide +kernel
theorem dX10_blocksIn_5 : decode cX10_blocksIn 5 = .ok (.aload_n 0, 1) := by decide +kernel
theorem dX10_blocksIn_6 : decode cX10_blocksIn 6 = .ok (.getfield 21, 3) := by decide +kernel
theorem dX10_blocksIn_9 : decode cX10_blocksIn 9 = .ok (.getfield 48, 3) := by decide +kernel
theorem dX10_blocksIn_12 : decode cX10_blocksIn 12 = .ok (.if_icmp .ge 25, 3) := by decide +kernel
theorem dX10_blocksIn_15 : decode cX10_blocksIn 15 = .ok (.aload_n 0, 1) := by decide +kernel
theorem dX10_blocksIn_16 : decode cX10_blocksIn 16 = .ok (.getfield 21, 3) := by decide +kernel
theorem dX10_blocksIn_19 : decode cX10_blocksIn 19 = .ok (.getfield 58, 3) := by decide +kernel
theorem dX10_blocksIn_22 : decode cX10_blocksIn 22 = .ok (.iload_n 3, 1) := by decide +kernel
theorem dX10_blocksIn_23 : decode cX10_blocksIn 23 = .ok (.iaload, 1) := by decide +kernel
theorem dX10_blocksIn_24 : decode cX10_blocksIn 24 = .ok (.iload_n 1, 1) := by decide +kernel
theorem dX10_blocksIn_25 : decode cX10_blocksIn 25 = .ok (.if_icmp .ne 6, 3) := by decide +kernel
theorem dX10_blocksIn_28 : decode cX10_blocksIn 28 = .ok (.iinc 2 1, 3) := by decide +kernel
theorem dX10_blocksIn_31 : decode cX10_blocksIn 31 = .ok (.iinc 3 1, 3) := by decide +kernel
theorem dX10_blocksIn_34 : decode cX10_blocksIn 34 = .ok (.goto (-30), 3) := by decide +kernel
theorem dX10_blocksIn_37 : decode cX10_blocksIn 37 = .ok (.iload_n 2, 1) := by decide +kernel
theorem dX10_blocksIn_38 : decode cX10_blocksIn 38 = .ok (.ireturn, 1) := by decide +kernel
theorem dX10_blocksInRooms_0 : decode cX10_blocksInRooms 0 = .ok (.aload_n 0, 1) := by decide +kernel
theorem dX10_blocksInRooms_1 : decode cX10_blocksInRooms 1 = .ok (.getfield 21, 3) := by decide +kernel
theorem dX10_blocksInRooms_4 : decode cX10_blocksInRooms 4 = .ok (.getfield 48, 3) := by decide +kernel
theorem dX10_blocksInRooms_7 : decode cX10_blocksInRooms 7 = .ok (.aload_n 0, 1) := by decide +kernel
theorem dX10_blocksInRooms_8 : decode cX10_blocksInRooms 8 = .ok (.iconst (-1), 1) := by decide +kernel
theorem dX10_blocksInRooms_9 : decode cX10_blocksInRooms 9 = .ok (.invokevirtual 85, 3) := by decide +kernel
theorem dX10_blocksInRooms_12 : decode cX10_blocksInRooms 12 = .ok (.isub, 1) := by decide +kernel
theorem dX10_blocksInRooms_13 : decode cX10_blocksInRooms 13 = .ok (.ireturn, 1) := by decide +kernel
theorem dX10_gramsIn_0 : decode cX10_gramsIn 0 = .ok (.iconst 0, 1) := by decide +kernel
theorem dX10_gramsIn_1 : decode cX10_gramsIn 1 = .ok (.istore_n 2, 1) := by decide +kernel
theorem dX10_gramsIn_2 : decode cX10_gramsIn 2 = .ok (.iconst 0, 1) := by decide +kernel
theorem dX10_gramsIn_3 : decode cX10_gramsIn 3 = .ok (.istore_n 3, 1) := by decide +kernel
theorem dX10_gramsIn_4 : decode cX10_gramsIn 4 = .ok (.iload_n 3, 1) := by decide +kernel
theorem dX10_gramsIn_5 : decode cX10_gramsIn 5 = .ok (.aload_n 0, 1) := by decide +kernel
theorem dX10_gramsIn_6 : decode cX10_gramsIn 6 = .ok (.getfield 21, 3) := by decide +kernel
theorem dX10_gramsIn_9 : decode cX10_gramsIn 9 = .ok (.getfield 48, 3) := by decide +kernel
theorem dX10_gramsIn_12 : decode cX10_gramsIn 12 = .ok (.if_icmp .ge 34, 3) := by decide +kernel
theorem dX10_gramsIn_15 : decode cX10_gramsIn 15 = .ok (.aload_n 0, 1) := by decide +kernel
theorem dX10_gramsIn_16 : decode cX10_gramsIn 16 = .ok (.getfield 21, 3) := by decide +kernel
theorem dX10_gramsIn_19 : decode cX10_gramsIn 19 = .ok (.getfield 58, 3) := by decide +kernel
theorem dX10_gramsIn_22 : decode cX10_gramsIn 22 = .ok (.iload_n 3, 1) := by decide +kernel
theorem dX10_gramsIn_23 : decode cX10_gramsIn 23 = .ok (.iaload, 1) := by decide +kernel
theorem dX10_gramsIn_24 : decode cX10_gramsIn 24 = .ok (.iload_n 1, 1) := by decide +kernel
theorem dX10_gramsIn_25 : decode cX10_gramsIn 25 = .ok (.if_icmp .ne 15, 3) := by decide +kernel
theorem dX10_gramsIn_28 : decode cX10_gramsIn 28 = .ok (.iload_n 2, 1) := by decide +kernel
theorem dX10_gramsIn_29 : decode cX10_gramsIn 29 = .ok (.aload_n 0, 1) := by decide +kernel
theorem dX10_gramsIn_30 : decode cX10_gramsIn 30 = .ok (.getfield 21, 3) := by decide +kernel
theorem dX10_gramsIn_33 : decode cX10_gramsIn 33 = .ok (.getfield 55, 3) := by decide +kernel
theorem dX10_gramsIn_36 : decode cX10_gramsIn 36 = .ok (.iload_n 3, 1) := by decide +kernel
theorem dX10_gramsIn_37 : decode cX10_gramsIn 37 = .ok (.iaload, 1) := by decide +kernel
theorem dX10_gramsIn_38 : decode cX10_gramsIn 38 = .ok (.iadd, 1) := by decide +kernel
theorem dX10_gramsIn_39 : decode cX10_gramsIn 39 = .ok (.istore_n 2, 1) := by decide +kernel
theorem dX10_gramsIn_40 : decode cX10_gramsIn 40 = .ok (.iinc 3 1, 3) := by decide +kernel
theorem dX10_gramsIn_43 : decode cX10_gramsIn 43 = .ok (.goto (-39), 3) := by decide +kernel
theorem dX10_gramsIn_46 : decode cX10_gramsIn 46 = .ok (.iload_n 2, 1) := by decide +kernel
theorem dX10_gramsIn_47 : decode cX10_gramsIn 47 = .ok (.ireturn, 1) := by decide +kernel
theorem dX10_gramsInRooms_0 : decode cX10_gramsInRooms 0 = .ok (.iconst 0, 1) := by decide +kernel
theorem dX10_gramsInRooms_1 : decode cX10_gramsInRooms 1 = .ok (.istore_n 1, 1) := by decide +kernel
theorem dX10_gramsInRooms_2 : decode cX10_gramsInRooms 2 = .ok (.iconst 0, 1) := by decide +kernel
theorem dX10_gramsInRooms_3 : decode cX10_gramsInRooms 3 = .ok (.istore_n 2, 1) := by decide +kernel
theorem dX10_gramsInRooms_4 : decode cX10_gramsInRooms 4 = .ok (.iload_n 2, 1) := by decide +kernel
theorem dX10_gramsInRooms_5 : decode cX10_gramsInRooms 5 = .ok (.aload_n 0, 1) := by decide +kernel
theorem dX10_gramsInRooms_6 : decode cX10_gramsInRooms 6 = .ok (.getfield 12, 3) := by decide +kernel
theorem dX10_gramsInRooms_9 : decode cX10_gramsInRooms 9 = .ok (.getfield 89, 3) := by decide +kernel
theorem dX10_gramsInRooms_12 : decode cX10_gramsInRooms 12 = .ok (.if_icmp .ge 17, 3) := by decide +kernel
theorem dX10_gramsInRooms_15 : decode cX10_gramsInRooms 15 = .ok (.iload_n 1, 1) := by decide +kernel
theorem dX10_gramsInRooms_16 : decode cX10_gramsInRooms 16 = .ok (.aload_n 0, 1) := by decide +kernel
theorem dX10_gramsInRooms_17 : decode cX10_gramsInRooms 17 = .ok (.iload_n 2, 1) := by decide +kernel
theorem dX10_gramsInRooms_18 : decode cX10_gramsInRooms 18 = .ok (.invokevirtual 90, 3) := by decide +kernel
theorem dX10_gramsInRooms_21 : decode cX10_gramsInRooms 21 = .ok (.iadd, 1) := by decide +kernel
theorem dX10_gramsInRooms_22 : decode cX10_gramsInRooms 22 = .ok (.istore_n 1, 1) := by decide +kernel
theorem dX10_gramsInRooms_23 : decode cX10_gramsInRooms 23 = .ok (.iinc 2 1, 3) := by decide +kernel
theorem dX10_gramsInRooms_26 : decode cX10_gramsInRooms 26 = .ok (.goto (-22), 3) := by decide +kernel
theorem dX10_gramsInRooms_29 : decode cX10_gramsInRooms 29 = .ok (.iload_n 1, 1) := by decide +kernel
theorem dX10_gramsInRooms_30 : decode cX10_gramsInRooms 30 = .ok (.ireturn, 1) := by decide +kernel
