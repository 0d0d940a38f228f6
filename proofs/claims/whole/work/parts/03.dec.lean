theorem dX0_init_0 : decode cX0_init 0 = .ok (.aload_n 0, 1) := by decide +kernel
theorem dX0_init_1 : decode cX0_init 1 = .ok (.invokespecial 3, 3) := by decide +kernel
theorem dX0_init_4 : decode cX0_init 4 = .ok (.aload_n 0, 1) := by decide +kernel
theorem dX0_init_5 : decode cX0_init 5 = .ok (.bipush 100, 2) := by decide +kernel
theorem dX0_init_7 : decode cX0_init 7 = .ok (.newarray .int, 2) := by decide +kernel
theorem dX0_init_9 : decode cX0_init 9 = .ok (.putfield 9, 3) := by decide +kernel
theorem dX0_init_12 : decode cX0_init 12 = .ok (.aload_n 0, 1) := by decide +kernel
theorem dX0_init_13 : decode cX0_init 13 = .ok (.bipush 100, 2) := by decide +kernel
theorem dX0_init_15 : decode cX0_init 15 = .ok (.newarray .int, 2) := by decide +kernel
theorem dX0_init_17 : decode cX0_init 17 = .ok (.putfield 15, 3) := by decide +kernel
theorem dX0_init_20 : decode cX0_init 20 = .ok (.aload_n 0, 1) := by decide +kernel
theorem dX0_init_21 : decode cX0_init 21 = .ok (.bipush 12, 2) := by decide +kernel
theorem dX0_init_23 : decode cX0_init 23 = .ok (.newarray .int, 2) := by decide +kernel
theorem dX0_init_25 : decode cX0_init 25 = .ok (.putfield 18, 3) := by decide +kernel
theorem dX0_init_28 : decode cX0_init 28 = .ok (.aload_n 0, 1) := by decide +kernel
theorem dX0_init_29 : decode cX0_init 29 = .ok (.bipush 12, 2) := by decide +kernel
theorem dX0_init_31 : decode cX0_init 31 = .ok (.newarray .int, 2) := by decide +kernel
theorem dX0_init_33 : decode cX0_init 33 = .ok (.putfield 21, 3) := by decide +kernel
theorem dX0_init_36 : decode cX0_init 36 = .ok (.aload_n 0, 1) := by decide +kernel
theorem dX0_init_37 : decode cX0_init 37 = .ok (.bipush 12, 2) := by decide +kernel
theorem dX0_init_39 : decode cX0_init 39 = .ok (.newarray .int, 2) := by decide +kernel
theorem dX0_init_41 : decode cX0_init 41 = .ok (.putfield 24, 3) := by decide +kernel
theorem dX0_init_44 : decode cX0_init 44 = .ok (.aload_n 0, 1) := by decide +kernel
theorem dX0_init_45 : decode cX0_init 45 = .ok (.getfield 9, 3) := by decide +kernel
theorem dX0_init_48 : decode cX0_init 48 = .ok (.iconst 5, 1) := by decide +kernel
theorem dX0_init_49 : decode cX0_init 49 = .ok (.invokestatic 27, 3) := by decide +kernel
theorem dX0_init_52 : decode cX0_init 52 = .ok (.aload_n 0, 1) := by decide +kernel
theorem dX0_init_53 : decode cX0_init 53 = .ok (.getfield 21, 3) := by decide +kernel
theorem dX0_init_56 : decode cX0_init 56 = .ok (.bipush 20, 2) := by decide +kernel
theorem dX0_init_58 : decode cX0_init 58 = .ok (.invokestatic 27, 3) := by decide +kernel
theorem dX0_init_61 : decode cX0_init 61 = .ok (.return_, 1) := by decide +kernel
theorem dX0_hourRow_0 : decode cX0_hourRow 0 = .ok (.iload_n 1, 1) := by decide +kernel
theorem dX0_hourRow_1 : decode cX0_hourRow 1 = .ok (.lookupswitch 37 #[(0, 27), (1, 32)], 27) := by decide +kernel
theorem dX0_hourRow_28 : decode cX0_hourRow 28 = .ok (.aload_n 0, 1) := by decide +kernel
theorem dX0_hourRow_29 : decode cX0_hourRow 29 = .ok (.getfield 18, 3) := by decide +kernel
theorem dX0_hourRow_32 : decode cX0_hourRow 32 = .ok (.areturn, 1) := by decide +kernel
theorem dX0_hourRow_33 : decode cX0_hourRow 33 = .ok (.aload_n 0, 1) := by decide +kernel
theorem dX0_hourRow_34 : decode cX0_hourRow 34 = .ok (.getfield 21, 3) := by decide +kernel
theorem dX0_hourRow_37 : decode cX0_hourRow 37 = .ok (.areturn, 1) := by decide +kernel
theorem dX0_hourRow_38 : decode cX0_hourRow 38 = .ok (.aload_n 0, 1) := by decide +kernel
theorem dX0_hourRow_39 : decode cX0_hourRow 39 = .ok (.getfield 24, 3) := by decide +kernel
theorem dX0_hourRow_42 : decode cX0_hourRow 42 = .ok (.areturn, 1) := by decide +kernel
theorem dX0_deepOf_0 : decode cX0_deepOf 0 = .ok (.iload_n 1, 1) := by decide +kernel
theorem dX0_deepOf_1 : decode cX0_deepOf 1 = .ok (.iconst 0, 1) := by decide +kernel
theorem dX0_deepOf_2 : decode cX0_deepOf 2 = .ok (.bipush 99, 2) := by decide +kernel
theorem dX0_deepOf_4 : decode cX0_deepOf 4 = .ok (.invokestatic 33, 3) := by decide +kernel
theorem dX0_deepOf_7 : decode cX0_deepOf 7 = .ok (.ifCond .eq 33, 3) := by decide +kernel
theorem dX0_deepOf_10 : decode cX0_deepOf 10 = .ok (.iload_n 2, 1) := by decide +kernel
theorem dX0_deepOf_11 : decode cX0_deepOf 11 = .ok (.iconst 0, 1) := by decide +kernel
theorem dX0_deepOf_12 : decode cX0_deepOf 12 = .ok (.bipush 11, 2) := by decide +kernel
theorem dX0_deepOf_14 : decode cX0_deepOf 14 = .ok (.invokestatic 33, 3) := by decide +kernel
theorem dX0_deepOf_17 : decode cX0_deepOf 17 = .ok (.ifCond .eq 23, 3) := by decide +kernel
theorem dX0_deepOf_20 : decode cX0_deepOf 20 = .ok (.iconst 0, 1) := by decide +kernel
theorem dX0_deepOf_21 : decode cX0_deepOf 21 = .ok (.aload_n 0, 1) := by decide +kernel
theorem dX0_deepOf_22 : decode cX0_deepOf 22 = .ok (.getfield 9, 3) := by decide +kernel
theorem dX0_deepOf_25 : decode cX0_deepOf 25 = .ok (.iload_n 1, 1) := by decide +kernel
theorem dX0_deepOf_26 : decode cX0_deepOf 26 = .ok (.iaload, 1) := by decide +kernel
theorem dX0_deepOf_27 : decode cX0_deepOf 27 = .ok (.aload_n 0, 1) := by decide +kernel
theorem dX0_deepOf_28 : decode cX0_deepOf 28 = .ok (.getfield 24, 3) := by decide +kernel
theorem dX0_deepOf_31 : decode cX0_deepOf 31 = .ok (.iload_n 2, 1) := by decide +kernel
theorem dX0_deepOf_32 : decode cX0_deepOf 32 = .ok (.iaload, 1) := by decide +kernel
theorem dX0_deepOf_33 : decode cX0_deepOf 33 = .ok (.iadd, 1) := by decide +kernel
theorem dX0_deepOf_34 : decode cX0_deepOf 34 = .ok (.invokestatic 37, 3) := by decide +kernel
theorem dX0_deepOf_37 : decode cX0_deepOf 37 = .ok (.goto 4, 3) := by decide +kernel
theorem dX0_deepOf_40 : decode cX0_deepOf 40 = .ok (.iconst 0, 1) := by decide +kernel
theorem dX0_deepOf_41 : decode cX0_deepOf 41 = .ok (.ireturn, 1) := by decide +kernel
theorem dX0_turnIn_0 : decode cX0_turnIn 0 = .ok (.iload_n 1, 1) := by decide +kernel
theorem dX0_turnIn_1 : decode cX0_turnIn 1 = .ok (.iconst 1, 1) := by decide +kernel
theorem dX0_turnIn_2 : decode cX0_turnIn 2 = .ok (.bipush 11, 2) := by decide +kernel
theorem dX0_turnIn_4 : decode cX0_turnIn 4 = .ok (.invokestatic 33, 3) := by decide +kernel
theorem dX0_turnIn_7 : decode cX0_turnIn 7 = .ok (.ifCond .ne 5, 3) := by decide +kernel
theorem dX0_turnIn_10 : decode cX0_turnIn 10 = .ok (.iconst 0, 1) := by decide +kernel
theorem dX0_turnIn_11 : decode cX0_turnIn 11 = .ok (.ireturn, 1) := by decide +kernel
theorem dX0_turnIn_12 : decode cX0_turnIn 12 = .ok (.aload_n 0, 1) := by decide +kernel
theorem dX0_turnIn_13 : decode cX0_turnIn 13 = .ok (.getfield 18, 3) := by decide +kernel
theorem dX0_turnIn_16 : decode cX0_turnIn 16 = .ok (.iload_n 1, 1) := by decide +kernel
theorem dX0_turnIn_17 : decode cX0_turnIn 17 = .ok (.iaload, 1) := by decide +kernel
theorem dX0_turnIn_18 : decode cX0_turnIn 18 = .ok (.aload_n 0, 1) := by decide +kernel
theorem dX0_turnIn_19 : decode cX0_turnIn 19 = .ok (.getfield 18, 3) := by decide +kernel
theorem dX0_turnIn_22 : decode cX0_turnIn 22 = .ok (.iload_n 1, 1) := by decide +kernel
theorem dX0_turnIn_23 : decode cX0_turnIn 23 = .ok (.iconst 1, 1) := by decide +kernel
theorem dX0_turnIn_24 : decode cX0_turnIn 24 = .ok (.isub, 1) := by decide +kernel
theorem dX0_turnIn_25 : decode cX0_turnIn 25 = .ok (.iaload, 1) := by decide +kernel
theorem dX0_turnIn_26 : decode cX0_turnIn 26 = .ok (.isub, 1) := by decide +kernel
theorem dX0_turnIn_27 : decode cX0_turnIn 27 = .ok (.invokestatic 43, 3) := by decide +kernel
theorem dX0_turnIn_30 : decode cX0_turnIn 30 = .ok (.istore_n 2, 1) := by decide +kernel
theorem dX0_turnIn_31 : decode cX0_turnIn 31 = .ok (.iload_n 2, 1) := by decide +kernel
theorem dX0_turnIn_32 : decode cX0_turnIn 32 = .ok (.bipush 8, 2) := by decide +kernel
theorem dX0_turnIn_34 : decode cX0_turnIn 34 = .ok (.iload_n 2, 1) := by decide +kernel
theorem dX0_turnIn_35 : decode cX0_turnIn 35 = .ok (.isub, 1) := by decide +kernel
theorem dX0_turnIn_36 : decode cX0_turnIn 36 = .ok (.invokestatic 47, 3) := by decide +kernel
theorem dX0_turnIn_39 : decode cX0_turnIn 39 = .ok (.ireturn, 1) := by decide +kernel
theorem dX0_oneOn_0 : decode cX0_oneOn 0 = .ok (.iload_n 2, 1) := by decide +kernel
theorem dX0_oneOn_1 : decode cX0_oneOn 1 = .ok (.invokestatic 50, 3) := by decide +kernel
theorem dX0_oneOn_4 : decode cX0_oneOn 4 = .ok (.ifCond .eq 16, 3) := by decide +kernel
theorem dX0_oneOn_7 : decode cX0_oneOn 7 = .ok (.iload_n 1, 1) := by decide +kernel
theorem dX0_oneOn_8 : decode cX0_oneOn 8 = .ok (.aload_n 0, 1) := by decide +kernel
theorem dX0_oneOn_9 : decode cX0_oneOn 9 = .ok (.getfield 18, 3) := by decide +kernel
theorem dX0_oneOn_12 : decode cX0_oneOn 12 = .ok (.iload_n 2, 1) := by decide +kernel
theorem dX0_oneOn_13 : decode cX0_oneOn 13 = .ok (.iaload, 1) := by decide +kernel
theorem dX0_oneOn_14 : decode cX0_oneOn 14 = .ok (.invokestatic 54, 3) := by decide +kernel
theorem dX0_oneOn_17 : decode cX0_oneOn 17 = .ok (.goto 4, 3) := by decide +kernel
theorem dX0_oneOn_20 : decode cX0_oneOn 20 = .ok (.iconst (-1), 1) := by decide +kernel
theorem dX0_oneOn_21 : decode cX0_oneOn 21 = .ok (.ireturn, 1) := by decide +kernel
theorem dX0_liesAt_0 : decode cX0_liesAt 0 = .ok (.iload_n 2, 1) := by decide +kernel
theorem dX0_liesAt_1 : decode cX0_liesAt 1 = .ok (.aload_n 0, 1) := by decide +kernel
theorem dX0_liesAt_2 : decode cX0_liesAt 2 = .ok (.iload_n 1, 1) := by decide +kernel
theorem dX0_liesAt_3 : decode cX0_liesAt 3 = .ok (.iload_n 3, 1) := by decide +kernel
theorem dX0_liesAt_4 : decode cX0_liesAt 4 = .ok (.invokevirtual 57, 3) := by decide +kernel
theorem dX0_liesAt_7 : decode cX0_liesAt 7 = .ok (.invokestatic 60, 3) := by decide +kernel
theorem dX0_liesAt_10 : decode cX0_liesAt 10 = .ok (.istore 5, 2) := by decide +kernel
theorem dX0_liesAt_12 : decode cX0_liesAt 12 = .ok (.iload_n 1, 1) := by decide +kernel
theorem dX0_liesAt_13 : decode cX0_liesAt 13 = .ok (.istore 6, 2) := by decide +kernel
theorem dX0_liesAt_15 : decode cX0_liesAt 15 = .ok (.iconst 0, 1) := by decide +kernel
theorem dX0_liesAt_16 : decode cX0_liesAt 16 = .ok (.istore 7, 2) := by decide +kernel
theorem dX0_liesAt_18 : decode cX0_liesAt 18 = .ok (.iload 7, 2) := by decide +kernel
theorem dX0_liesAt_20 : decode cX0_liesAt 20 = .ok (.iload 5, 2) := by decide +kernel
theorem dX0_liesAt_22 : decode cX0_liesAt 22 = .ok (.if_icmp .ge 31, 3) := by decide +kernel
theorem dX0_liesAt_25 : decode cX0_liesAt 25 = .ok (.iload 6, 2) := by decide +kernel
theorem dX0_liesAt_27 : decode cX0_liesAt 27 = .ok (.iload 4, 2) := by decide +kernel
theorem dX0_liesAt_29 : decode cX0_liesAt 29 = .ok (.invokestatic 54, 3) := by decide +kernel
theorem dX0_liesAt_32 : decode cX0_liesAt 32 = .ok (.istore 8, 2) := by decide +kernel
theorem dX0_liesAt_34 : decode cX0_liesAt 34 = .ok (.iload 8, 2) := by decide +kernel
theorem dX0_liesAt_36 : decode cX0_liesAt 36 = .ok (.iconst (-1), 1) := by decide +kernel
theorem dX0_liesAt_37 : decode cX0_liesAt 37 = .ok (.if_icmp .ne 6, 3) := by decide +kernel
theorem dX0_liesAt_40 : decode cX0_liesAt 40 = .ok (.iload 6, 2) := by decide +kernel
theorem dX0_liesAt_42 : decode cX0_liesAt 42 = .ok (.ireturn, 1) := by decide +kernel
theorem dX0_liesAt_43 : decode cX0_liesAt 43 = .ok (.iload 8, 2) := by decide +kernel
theorem dX0_liesAt_45 : decode cX0_liesAt 45 = .ok (.istore 6, 2) := by decide +kernel
theorem dX0_liesAt_47 : decode cX0_liesAt 47 = .ok (.iinc 7 1, 3) := by decide +kernel
theorem dX0_liesAt_50 : decode cX0_liesAt 50 = .ok (.goto (-32), 3) := by decide +kernel
theorem dX0_liesAt_53 : decode cX0_liesAt 53 = .ok (.iload 6, 2) := by decide +kernel
theorem dX0_liesAt_55 : decode cX0_liesAt 55 = .ok (.ireturn, 1) := by decide +kernel
theorem dX0_cellsOff_0 : decode cX0_cellsOff 0 = .ok (.iload_n 0, 1) := by decide +kernel
theorem dX0_cellsOff_1 : decode cX0_cellsOff 1 = .ok (.iload_n 1, 1) := by decide +kernel
theorem dX0_cellsOff_2 : decode cX0_cellsOff 2 = .ok (.if_icmp .gt 5, 3) := by decide +kernel
theorem dX0_cellsOff_5 : decode cX0_cellsOff 5 = .ok (.iconst 0, 1) := by decide +kernel
theorem dX0_cellsOff_6 : decode cX0_cellsOff 6 = .ok (.ireturn, 1) := by decide +kernel
theorem dX0_cellsOff_7 : decode cX0_cellsOff 7 = .ok (.iload_n 0, 1) := by decide +kernel
theorem dX0_cellsOff_8 : decode cX0_cellsOff 8 = .ok (.iload_n 0, 1) := by decide +kernel
theorem dX0_cellsOff_9 : decode cX0_cellsOff 9 = .ok (.imul, 1) := by decide +kernel
theorem dX0_cellsOff_10 : decode cX0_cellsOff 10 = .ok (.iload_n 1, 1) := by decide +kernel
theorem dX0_cellsOff_11 : decode cX0_cellsOff 11 = .ok (.iload_n 1, 1) := by decide +kernel
theorem dX0_cellsOff_12 : decode cX0_cellsOff 12 = .ok (.imul, 1) := by decide +kernel
theorem dX0_cellsOff_13 : decode cX0_cellsOff 13 = .ok (.isub, 1) := by decide +kernel
theorem dX0_cellsOff_14 : decode cX0_cellsOff 14 = .ok (.istore_n 2, 1) := by decide +kernel
theorem dX0_cellsOff_15 : decode cX0_cellsOff 15 = .ok (.iconst 0, 1) := by decide +kernel
theorem dX0_cellsOff_16 : decode cX0_cellsOff 16 = .ok (.istore_n 3, 1) := by decide +kernel
theorem dX0_cellsOff_17 : decode cX0_cellsOff 17 = .ok (.iconst 1, 1) := by decide +kernel
theorem dX0_cellsOff_18 : decode cX0_cellsOff 18 = .ok (.istore 4, 2) := by decide +kernel
theorem dX0_cellsOff_20 : decode cX0_cellsOff 20 = .ok (.iload 4, 2) := by decide +kernel
theorem dX0_cellsOff_22 : decode cX0_cellsOff 22 = .ok (.iload_n 0, 1) := by decide +kernel
theorem dX0_cellsOff_23 : decode cX0_cellsOff 23 = .ok (.if_icmp .gt 21, 3) := by decide +kernel
theorem dX0_cellsOff_26 : decode cX0_cellsOff 26 = .ok (.iload 4, 2) := by decide +kernel
theorem dX0_cellsOff_28 : decode cX0_cellsOff 28 = .ok (.iload 4, 2) := by decide +kernel
theorem dX0_cellsOff_30 : decode cX0_cellsOff 30 = .ok (.imul, 1) := by decide +kernel
theorem dX0_cellsOff_31 : decode cX0_cellsOff 31 = .ok (.iload_n 2, 1) := by decide +kernel
theorem dX0_cellsOff_32 : decode cX0_cellsOff 32 = .ok (.if_icmp .gt 12, 3) := by decide +kernel
theorem dX0_cellsOff_35 : decode cX0_cellsOff 35 = .ok (.iload 4, 2) := by decide +kernel
theorem dX0_cellsOff_37 : decode cX0_cellsOff 37 = .ok (.istore_n 3, 1) := by decide +kernel
theorem dX0_cellsOff_38 : decode cX0_cellsOff 38 = .ok (.iinc 4 1, 3) := by decide +kernel
theorem dX0_cellsOff_41 : decode cX0_cellsOff 41 = .ok (.goto (-21), 3) := by decide +kernel
theorem dX0_cellsOff_44 : decode cX0_cellsOff 44 = .ok (.iload_n 3, 1) := by decide +kernel
theorem dX0_cellsOff_45 : decode cX0_cellsOff 45 = .ok (.iconst 5, 1) := by decide +kernel
theorem dX0_cellsOff_46 : decode cX0_cellsOff 46 = .ok (.idiv, 1) := by decide +kernel
theorem dX0_cellsOff_47 : decode cX0_cellsOff 47 = .ok (.ireturn, 1) := by decide +kernel
theorem dX0_stepped_0 : decode cX0_stepped 0 = .ok (.iload_n 0, 1) := by decide +kernel
theorem dX0_stepped_1 : decode cX0_stepped 1 = .ok (.invokestatic 63, 3) := by decide +kernel
theorem dX0_stepped_4 : decode cX0_stepped 4 = .ok (.ifCond .eq 13, 3) := by decide +kernel
theorem dX0_stepped_7 : decode cX0_stepped 7 = .ok (.iload_n 1, 1) := by decide +kernel
theorem dX0_stepped_8 : decode cX0_stepped 8 = .ok (.iconst 0, 1) := by decide +kernel
theorem dX0_stepped_9 : decode cX0_stepped 9 = .ok (.bipush 7, 2) := by decide +kernel
theorem dX0_stepped_11 : decode cX0_stepped 11 = .ok (.invokestatic 33, 3) := by decide +kernel
theorem dX0_stepped_14 : decode cX0_stepped 14 = .ok (.ifCond .ne 5, 3) := by decide +kernel
theorem dX0_stepped_17 : decode cX0_stepped 17 = .ok (.iconst (-1), 1) := by decide +kernel
theorem dX0_stepped_18 : decode cX0_stepped 18 = .ok (.ireturn, 1) := by decide +kernel
theorem dX0_stepped_19 : decode cX0_stepped 19 = .ok (.iload_n 0, 1) := by decide +kernel
theorem dX0_stepped_20 : decode cX0_stepped 20 = .ok (.bipush 10, 2) := by decide +kernel
theorem dX0_stepped_22 : decode cX0_stepped 22 = .ok (.idiv, 1) := by decide +kernel
theorem dX0_stepped_23 : decode cX0_stepped 23 = .ok (.getstatic 66, 3) := by decide +kernel
theorem dX0_stepped_26 : decode cX0_stepped 26 = .ok (.iload_n 1, 1) := by decide +kernel
theorem dX0_stepped_27 : decode cX0_stepped 27 = .ok (.iaload, 1) := by decide +kernel
theorem dX0_stepped_28 : decode cX0_stepped 28 = .ok (.iadd, 1) := by decide +kernel
theorem dX0_stepped_29 : decode cX0_stepped 29 = .ok (.istore_n 2, 1) := by decide +kernel
theorem dX0_stepped_30 : decode cX0_stepped 30 = .ok (.iload_n 0, 1) := by decide +kernel
theorem dX0_stepped_31 : decode cX0_stepped 31 = .ok (.bipush 10, 2) := by decide +kernel
theorem dX0_stepped_33 : decode cX0_stepped 33 = .ok (.irem, 1) := by decide +kernel
theorem dX0_stepped_34 : decode cX0_stepped 34 = .ok (.getstatic 69, 3) := by decide +kernel
theorem dX0_stepped_37 : decode cX0_stepped 37 = .ok (.iload_n 1, 1) := by decide +kernel
theorem dX0_stepped_38 : decode cX0_stepped 38 = .ok (.iaload, 1) := by decide +kernel
theorem dX0_stepped_39 : decode cX0_stepped 39 = .ok (.iadd, 1) := by decide +kernel
theorem dX0_stepped_40 : decode cX0_stepped 40 = .ok (.istore_n 3, 1) := by decide +kernel
theorem dX0_stepped_41 : decode cX0_stepped 41 = .ok (.iload_n 2, 1) := by decide +kernel
theorem dX0_stepped_42 : decode cX0_stepped 42 = .ok (.iconst 0, 1) := by decide +kernel
theorem dX0_stepped_43 : decode cX0_stepped 43 = .ok (.bipush 9, 2) := by decide +kernel
theorem dX0_stepped_45 : decode cX0_stepped 45 = .ok (.invokestatic 33, 3) := by decide +kernel
theorem dX0_stepped_48 : decode cX0_stepped 48 = .ok (.ifCond .eq 22, 3) := by decide +kernel
theorem dX0_stepped_51 : decode cX0_stepped 51 = .ok (.iload_n 3, 1) := by decide +kernel
theorem dX0_stepped_52 : decode cX0_stepped 52 = .ok (.iconst 0, 1) := by decide +kernel
theorem dX0_stepped_53 : decode cX0_stepped 53 = .ok (.bipush 9, 2) := by decide +kernel
theorem dX0_stepped_55 : decode cX0_stepped 55 = .ok (.invokestatic 33, 3) := by decide +kernel
theorem dX0_stepped_58 : decode cX0_stepped 58 = .ok (.ifCond .eq 12, 3) := by decide +kernel
theorem dX0_stepped_61 : decode cX0_stepped 61 = .ok (.bipush 10, 2) := by decide +kernel
theorem dX0_stepped_63 : decode cX0_stepped 63 = .ok (.iload_n 2, 1) := by decide +kernel
theorem dX0_stepped_64 : decode cX0_stepped 64 = .ok (.imul, 1) := by decide +kernel
theorem dX0_stepped_65 : decode cX0_stepped 65 = .ok (.iload_n 3, 1) := by decide +kernel
theorem dX0_stepped_66 : decode cX0_stepped 66 = .ok (.iadd, 1) := by decide +kernel
theorem dX0_stepped_67 : decode cX0_stepped 67 = .ok (.goto 4, 3) := by decide +kernel
theorem dX0_stepped_70 : decode cX0_stepped 70 = .ok (.iconst (-1), 1) := by decide +kernel
theorem dX0_stepped_71 : decode cX0_stepped 71 = .ok (.ireturn, 1) := by decide +kernel
theorem dX1_init_0 : decode cX1_init 0 = .ok (.aload_n 0, 1) := by decide +kernel
theorem dX1_init_1 : decode cX1_init 1 = .ok (.invokespecial 3, 3) := by decide +kernel
theorem dX1_init_4 : decode cX1_init 4 = .ok (.aload_n 0, 1) := by decide +kernel
theorem dX1_init_5 : decode cX1_init 5 = .ok (.iload_n 1, 1) := by decide +kernel
theorem dX1_init_6 : decode cX1_init 6 = .ok (.putfield 9, 3) := by decide +kernel
theorem dX1_init_9 : decode cX1_init 9 = .ok (.aload_n 0, 1) := by decide +kernel
theorem dX1_init_10 : decode cX1_init 10 = .ok (.iload_n 2, 1) := by decide +kernel
theorem dX1_init_11 : decode cX1_init 11 = .ok (.bipush 100, 2) := by decide +kernel
theorem dX1_init_13 : decode cX1_init 13 = .ok (.idiv, 1) := by decide +kernel
theorem dX1_init_14 : decode cX1_init 14 = .ok (.putfield 15, 3) := by decide +kernel
theorem dX1_init_17 : decode cX1_init 17 = .ok (.aload_n 0, 1) := by decide +kernel
theorem dX1_init_18 : decode cX1_init 18 = .ok (.iload_n 2, 1) := by decide +kernel
theorem dX1_init_19 : decode cX1_init 19 = .ok (.bipush 10, 2) := by decide +kernel
theorem dX1_init_21 : decode cX1_init 21 = .ok (.idiv, 1) := by decide +kernel
theorem dX1_init_22 : decode cX1_init 22 = .ok (.bipush 10, 2) := by decide +kernel
theorem dX1_init_24 : decode cX1_init 24 = .ok (.irem, 1) := by decide +kernel
theorem dX1_init_25 : decode cX1_init 25 = .ok (.putfield 18, 3) := by decide +kernel
theorem dX1_init_28 : decode cX1_init 28 = .ok (.aload_n 0, 1) := by decide +kernel
theorem dX1_init_29 : decode cX1_init 29 = .ok (.iload_n 2, 1) := by decide +kernel
theorem dX1_init_30 : decode cX1_init 30 = .ok (.bipush 10, 2) := by decide +kernel
theorem dX1_init_32 : decode cX1_init 32 = .ok (.irem, 1) := by decide +kernel
theorem dX1_init_33 : decode cX1_init 33 = .ok (.putfield 21, 3) := by decide +kernel
theorem dX1_init_36 : decode cX1_init 36 = .ok (.aload_n 0, 1) := by decide +kernel
theorem dX1_init_37 : decode cX1_init 37 = .ok (.iload_n 3, 1) := by decide +kernel
theorem dX1_init_38 : decode cX1_init 38 = .ok (.putfield 24, 3) := by decide +kernel
theorem dX1_init_41 : decode cX1_init 41 = .ok (.aload_n 0, 1) := by decide +kernel
theorem dX1_init_42 : decode cX1_init 42 = .ok (.iload 4, 2) := by decide +kernel
theorem dX1_init_44 : decode cX1_init 44 = .ok (.putfield 27, 3) := by decide +kernel
theorem dX1_init_47 : decode cX1_init 47 = .ok (.return_, 1) := by decide +kernel
theorem dX1_isGone_0 : decode cX1_isGone 0 = .ok (.aload_n 0, 1) := by decide +kernel
theorem dX1_isGone_1 : decode cX1_isGone 1 = .ok (.getfield 24, 3) := by decide +kernel
theorem dX1_isGone_4 : decode cX1_isGone 4 = .ok (.iconst (-1), 1) := by decide +kernel
theorem dX1_isGone_5 : decode cX1_isGone 5 = .ok (.if_icmp .ne 7, 3) := by decide +kernel
theorem dX1_isGone_8 : decode cX1_isGone 8 = .ok (.iconst 1, 1) := by decide +kernel
theorem dX1_isGone_9 : decode cX1_isGone 9 = .ok (.goto 4, 3) := by decide +kernel
theorem dX1_isGone_12 : decode cX1_isGone 12 = .ok (.iconst 0, 1) := by decide +kernel
theorem dX1_isGone_13 : decode cX1_isGone 13 = .ok (.ireturn, 1) := by decide +kernel
theorem dX1_isA_0 : decode cX1_isA 0 = .ok (.aload_n 0, 1) := by decide +kernel
theorem dX1_isA_1 : decode cX1_isA 1 = .ok (.getfield 9, 3) := by decide +kernel
theorem dX1_isA_4 : decode cX1_isA 4 = .ok (.iconst 4, 1) := by decide +kernel
theorem dX1_isA_5 : decode cX1_isA 5 = .ok (.if_icmp .eq 11, 3) := by decide +kernel
theorem dX1_isA_8 : decode cX1_isA 8 = .ok (.aload_n 0, 1) := by decide +kernel
theorem dX1_isA_9 : decode cX1_isA 9 = .ok (.getfield 9, 3) := by decide +kernel
theorem dX1_isA_12 : decode cX1_isA 12 = .ok (.iconst 5, 1) := by decide +kernel
theorem dX1_isA_13 : decode cX1_isA 13 = .ok (.if_icmp .ne 7, 3) := by decide +kernel
theorem dX1_isA_16 : decode cX1_isA 16 = .ok (.iconst 1, 1) := by decide +kernel
theorem dX1_isA_17 : decode cX1_isA 17 = .ok (.goto 4, 3) := by decide +kernel
theorem dX1_isA_20 : decode cX1_isA 20 = .ok (.iconst 0, 1) := by decide +kernel
theorem dX1_isA_21 : decode cX1_isA 21 = .ok (.istore_n 2, 1) := by decide +kernel
theorem dX1_isA_22 : decode cX1_isA 22 = .ok (.iload_n 1, 1) := by decide +kernel
theorem dX1_isA_23 : decode cX1_isA 23 = .ok (.aload_n 0, 1) := by decide +kernel
theorem dX1_isA_24 : decode cX1_isA 24 = .ok (.getfield 9, 3) := by decide +kernel
theorem dX1_isA_27 : decode cX1_isA 27 = .ok (.if_icmp .eq 16, 3) := by decide +kernel
theorem dX1_isA_30 : decode cX1_isA 30 = .ok (.iload_n 1, 1) := by decide +kernel
theorem dX1_isA_31 : decode cX1_isA 31 = .ok (.ifCond .eq 12, 3) := by decide +kernel
theorem dX1_isA_34 : decode cX1_isA 34 = .ok (.iload_n 1, 1) := by decide +kernel
theorem dX1_isA_35 : decode cX1_isA 35 = .ok (.iconst 1, 1) := by decide +kernel
theorem dX1_isA_36 : decode cX1_isA 36 = .ok (.if_icmp .ne 11, 3) := by decide +kernel
theorem dX1_isA_39 : decode cX1_isA 39 = .ok (.iload_n 2, 1) := by decide +kernel
theorem dX1_isA_40 : decode cX1_isA 40 = .ok (.ifCond .eq 7, 3) := by decide +kernel
theorem dX1_isA_43 : decode cX1_isA 43 = .ok (.iconst 1, 1) := by decide +kernel
theorem dX1_isA_44 : decode cX1_isA 44 = .ok (.goto 4, 3) := by decide +kernel
theorem dX1_isA_47 : decode cX1_isA 47 = .ok (.iconst 0, 1) := by decide +kernel
theorem dX1_isA_48 : decode cX1_isA 48 = .ok (.ireturn, 1) := by decide +kernel
theorem dX1_gripOf_0 : decode cX1_gripOf 0 = .ok (.aload_n 0, 1) := by decide +kernel
theorem dX1_gripOf_1 : decode cX1_gripOf 1 = .ok (.getfield 9, 3) := by decide +kernel
theorem dX1_gripOf_4 : decode cX1_gripOf 4 = .ok (.tableswitch 60 1 5 #[36, 60, 56, 36, 42], 36) := by decide +kernel
theorem dX1_gripOf_40 : decode cX1_gripOf 40 = .ok (.iconst 3, 1) := by decide +kernel
theorem dX1_gripOf_41 : decode cX1_gripOf 41 = .ok (.iload_n 1, 1) := by decide +kernel
theorem dX1_gripOf_42 : decode cX1_gripOf 42 = .ok (.imul, 1) := by decide +kernel
theorem dX1_gripOf_43 : decode cX1_gripOf 43 = .ok (.iconst 2, 1) := by decide +kernel
theorem dX1_gripOf_44 : decode cX1_gripOf 44 = .ok (.idiv, 1) := by decide +kernel
theorem dX1_gripOf_45 : decode cX1_gripOf 45 = .ok (.ireturn, 1) := by decide +kernel
theorem dX1_gripOf_46 : decode cX1_gripOf 46 = .ok (.iconst 3, 1) := by decide +kernel
theorem dX1_gripOf_47 : decode cX1_gripOf 47 = .ok (.iload_n 1, 1) := by decide +kernel
theorem dX1_gripOf_48 : decode cX1_gripOf 48 = .ok (.imul, 1) := by decide +kernel
theorem dX1_gripOf_49 : decode cX1_gripOf 49 = .ok (.iconst 2, 1) := by decide +kernel
theorem dX1_gripOf_50 : decode cX1_gripOf 50 = .ok (.idiv, 1) := by decide +kernel
theorem dX1_gripOf_51 : decode cX1_gripOf 51 = .ok (.bipush 10, 2) := by decide +kernel
theorem dX1_gripOf_53 : decode cX1_gripOf 53 = .ok (.aload_n 0, 1) := by decide +kernel
theorem dX1_gripOf_54 : decode cX1_gripOf 54 = .ok (.getfield 21, 3) := by decide +kernel
theorem dX1_gripOf_57 : decode cX1_gripOf 57 = .ok (.imul, 1) := by decide +kernel
theorem dX1_gripOf_58 : decode cX1_gripOf 58 = .ok (.iadd, 1) := by decide +kernel
theorem dX1_gripOf_59 : decode cX1_gripOf 59 = .ok (.ireturn, 1) := by decide +kernel
theorem dX1_gripOf_60 : decode cX1_gripOf 60 = .ok (.iload_n 1, 1) := by decide +kernel
theorem dX1_gripOf_61 : decode cX1_gripOf 61 = .ok (.iconst 4, 1) := by decide +kernel
theorem dX1_gripOf_62 : decode cX1_gripOf 62 = .ok (.idiv, 1) := by decide +kernel
theorem dX1_gripOf_63 : decode cX1_gripOf 63 = .ok (.ireturn, 1) := by decide +kernel
theorem dX1_gripOf_64 : decode cX1_gripOf 64 = .ok (.iload_n 1, 1) := by decide +kernel
theorem dX1_gripOf_65 : decode cX1_gripOf 65 = .ok (.ireturn, 1) := by decide +kernel
theorem dX1_dragsIn_0 : decode cX1_dragsIn 0 = .ok (.aload_n 0, 1) := by decide +kernel
theorem dX1_dragsIn_1 : decode cX1_dragsIn 1 = .ok (.getfield 9, 3) := by decide +kernel
theorem dX1_dragsIn_4 : decode cX1_dragsIn 4 = .ok (.iconst 2, 1) := by decide +kernel
theorem dX1_dragsIn_5 : decode cX1_dragsIn 5 = .ok (.if_icmp .ne 10, 3) := by decide +kernel
theorem dX1_dragsIn_8 : decode cX1_dragsIn 8 = .ok (.iload_n 1, 1) := by decide +kernel
theorem dX1_dragsIn_9 : decode cX1_dragsIn 9 = .ok (.iconst 2, 1) := by decide +kernel
theorem dX1_dragsIn_10 : decode cX1_dragsIn 10 = .ok (.irem, 1) := by decide +kernel
theorem dX1_dragsIn_11 : decode cX1_dragsIn 11 = .ok (.iconst 1, 1) := by decide +kernel
theorem dX1_dragsIn_12 : decode cX1_dragsIn 12 = .ok (.if_icmp .ne 7, 3) := by decide +kernel
theorem dX1_dragsIn_15 : decode cX1_dragsIn 15 = .ok (.iconst 1, 1) := by decide +kernel
theorem dX1_dragsIn_16 : decode cX1_dragsIn 16 = .ok (.goto 4, 3) := by decide +kernel
theorem dX1_dragsIn_19 : decode cX1_dragsIn 19 = .ok (.iconst 0, 1) := by decide +kernel
theorem dX1_dragsIn_20 : decode cX1_dragsIn 20 = .ok (.ireturn, 1) := by decide +kernel
theorem dX1_breaksOutAt_0 : decode cX1_breaksOutAt 0 = .ok (.aload_n 0, 1) := by decide +kernel
theorem dX1_breaksOutAt_1 : decode cX1_breaksOutAt 1 = .ok (.getfield 9, 3) := by decide +kernel
theorem dX1_breaksOutAt_4 : decode cX1_breaksOutAt 4 = .ok (.iconst 4, 1) := by decide +kernel
theorem dX1_breaksOutAt_5 : decode cX1_breaksOutAt 5 = .ok (.if_icmp .ne 15, 3) := by decide +kernel
theorem dX1_breaksOutAt_8 : decode cX1_breaksOutAt 8 = .ok (.iload_n 1, 1) := by decide +kernel
theorem dX1_breaksOutAt_9 : decode cX1_breaksOutAt 9 = .ok (.aload_n 0, 1) := by decide +kernel
theorem dX1_breaksOutAt_10 : decode cX1_breaksOutAt 10 = .ok (.getfield 21, 3) := by decide +kernel
theorem dX1_breaksOutAt_13 : decode cX1_breaksOutAt 13 = .ok (.if_icmp .le 7, 3) := by decide +kernel
theorem dX1_breaksOutAt_16 : decode cX1_breaksOutAt 16 = .ok (.iconst 1, 1) := by decide +kernel
theorem dX1_breaksOutAt_17 : decode cX1_breaksOutAt 17 = .ok (.goto 4, 3) := by decide +kernel
theorem dX1_breaksOutAt_20 : decode cX1_breaksOutAt 20 = .ok (.iconst 0, 1) := by decide +kernel
theorem dX1_breaksOutAt_21 : decode cX1_breaksOutAt 21 = .ok (.ireturn, 1) := by decide +kernel
theorem dX2_init_0 : decode cX2_init 0 = .ok (.aload_n 0, 1) := by decide +kernel
theorem dX2_init_1 : decode cX2_init 1 = .ok (.invokespecial 3, 3) := by decide +kernel
theorem dX2_init_4 : decode cX2_init 4 = .ok (.aload_n 0, 1) := by decide +kernel
theorem dX2_init_5 : decode cX2_init 5 = .ok (.bipush 12, 2) := by decide +kernel
theorem dX2_init_7 : decode cX2_init 7 = .ok (.newarray .int, 2) := by decide +kernel
theorem dX2_init_9 : decode cX2_init 9 = .ok (.putfield 9, 3) := by decide +kernel
theorem dX2_init_12 : decode cX2_init 12 = .ok (.aload_n 0, 1) := by decide +kernel
theorem dX2_init_13 : decode cX2_init 13 = .ok (.iconst (-1), 1) := by decide +kernel
theorem dX2_init_14 : decode cX2_init 14 = .ok (.putfield 15, 3) := by decide +kernel
theorem dX2_init_17 : decode cX2_init 17 = .ok (.aload_n 0, 1) := by decide +kernel
theorem dX2_init_18 : decode cX2_init 18 = .ok (.iconst 0, 1) := by decide +kernel
theorem dX2_init_19 : decode cX2_init 19 = .ok (.putfield 19, 3) := by decide +kernel
theorem dX2_init_22 : decode cX2_init 22 = .ok (.aload_n 0, 1) := by decide +kernel
theorem dX2_init_23 : decode cX2_init 23 = .ok (.iconst (-1), 1) := by decide +kernel
theorem dX2_init_24 : decode cX2_init 24 = .ok (.putfield 22, 3) := by decide +kernel
theorem dX2_init_27 : decode cX2_init 27 = .ok (.return_, 1) := by decide +kernel
theorem dX2_sail_0 : decode cX2_sail 0 = .ok (.aload_n 0, 1) := by decide +kernel
theorem dX2_sail_1 : decode cX2_sail 1 = .ok (.aload_n 2, 1) := by decide +kernel
theorem dX2_sail_2 : decode cX2_sail 2 = .ok (.getfield 25, 3) := by decide +kernel
theorem dX2_sail_5 : decode cX2_sail 5 = .ok (.putfield 15, 3) := by decide +kernel
theorem dX2_sail_8 : decode cX2_sail 8 = .ok (.aload_n 0, 1) := by decide +kernel
theorem dX2_sail_9 : decode cX2_sail 9 = .ok (.iconst 0, 1) := by decide +kernel
theorem dX2_sail_10 : decode cX2_sail 10 = .ok (.putfield 19, 3) := by decide +kernel
theorem dX2_sail_13 : decode cX2_sail 13 = .ok (.aload_n 0, 1) := by decide +kernel
theorem dX2_sail_14 : decode cX2_sail 14 = .ok (.iconst (-1), 1) := by decide +kernel
theorem dX2_sail_15 : decode cX2_sail 15 = .ok (.putfield 22, 3) := by decide +kernel
theorem dX2_sail_18 : decode cX2_sail 18 = .ok (.iconst 0, 1) := by decide +kernel
theorem dX2_sail_19 : decode cX2_sail 19 = .ok (.iload_n 3, 1) := by decide +kernel
theorem dX2_sail_20 : decode cX2_sail 20 = .ok (.invokestatic 28, 3) := by decide +kernel
theorem dX2_sail_23 : decode cX2_sail 23 = .ok (.istore 5, 2) := by decide +kernel
theorem dX2_sail_25 : decode cX2_sail 25 = .ok (.iload 5, 2) := by decide +kernel
theorem dX2_sail_27 : decode cX2_sail 27 = .ok (.iload 4, 2) := by decide +kernel
theorem dX2_sail_29 : decode cX2_sail 29 = .ok (.if_icmp .ge 138, 3) := by decide +kernel
theorem dX2_sail_32 : decode cX2_sail 32 = .ok (.iload 5, 2) := by decide +kernel
theorem dX2_sail_34 : decode cX2_sail 34 = .ok (.bipush 12, 2) := by decide +kernel
theorem dX2_sail_36 : decode cX2_sail 36 = .ok (.if_icmp .ge 131, 3) := by decide +kernel
theorem dX2_sail_39 : decode cX2_sail 39 = .ok (.aload_n 0, 1) := by decide +kernel
theorem dX2_sail_40 : decode cX2_sail 40 = .ok (.getfield 15, 3) := by decide +kernel
theorem dX2_sail_43 : decode cX2_sail 43 = .ok (.iconst (-1), 1) := by decide +kernel
theorem dX2_sail_44 : decode cX2_sail 44 = .ok (.if_icmp .eq 71, 3) := by decide +kernel
theorem dX2_sail_47 : decode cX2_sail 47 = .ok (.aload_n 1, 1) := by decide +kernel
theorem dX2_sail_48 : decode cX2_sail 48 = .ok (.aload_n 2, 1) := by decide +kernel
theorem dX2_sail_49 : decode cX2_sail 49 = .ok (.aload_n 0, 1) := by decide +kernel
theorem dX2_sail_50 : decode cX2_sail 50 = .ok (.getfield 15, 3) := by decide +kernel
theorem dX2_sail_53 : decode cX2_sail 53 = .ok (.aload_n 2, 1) := by decide +kernel
theorem dX2_sail_54 : decode cX2_sail 54 = .ok (.getfield 34, 3) := by decide +kernel
theorem dX2_sail_57 : decode cX2_sail 57 = .ok (.iload 5, 2) := by decide +kernel
theorem dX2_sail_59 : decode cX2_sail 59 = .ok (.iconst 0, 1) := by decide +kernel
theorem dX2_sail_60 : decode cX2_sail 60 = .ok (.iconst 0, 1) := by decide +kernel
theorem dX2_sail_61 : decode cX2_sail 61 = .ok (.invokevirtual 37, 3) := by decide +kernel
theorem dX2_sail_64 : decode cX2_sail 64 = .ok (.ifCond .eq 51, 3) := by decide +kernel
theorem dX2_sail_67 : decode cX2_sail 67 = .ok (.aload_n 0, 1) := by decide +kernel
theorem dX2_sail_68 : decode cX2_sail 68 = .ok (.aload_n 1, 1) := by decide +kernel
theorem dX2_sail_69 : decode cX2_sail 69 = .ok (.getfield 43, 3) := by decide +kernel
theorem dX2_sail_72 : decode cX2_sail 72 = .ok (.aload_n 0, 1) := by decide +kernel
theorem dX2_sail_73 : decode cX2_sail 73 = .ok (.getfield 15, 3) := by decide +kernel
theorem dX2_sail_76 : decode cX2_sail 76 = .ok (.iload 5, 2) := by decide +kernel
theorem dX2_sail_78 : decode cX2_sail 78 = .ok (.invokevirtual 47, 3) := by decide +kernel
theorem dX2_sail_81 : decode cX2_sail 81 = .ok (.putfield 15, 3) := by decide +kernel
theorem dX2_sail_84 : decode cX2_sail 84 = .ok (.aload_n 0, 1) := by decide +kernel
theorem dX2_sail_85 : decode cX2_sail 85 = .ok (.dup, 1) := by decide +kernel
theorem dX2_sail_86 : decode cX2_sail 86 = .ok (.getfield 19, 3) := by decide +kernel
theorem dX2_sail_89 : decode cX2_sail 89 = .ok (.iconst 1, 1) := by decide +kernel
theorem dX2_sail_90 : decode cX2_sail 90 = .ok (.iadd, 1) := by decide +kernel
theorem dX2_sail_91 : decode cX2_sail 91 = .ok (.putfield 19, 3) := by decide +kernel
theorem dX2_sail_94 : decode cX2_sail 94 = .ok (.aload_n 0, 1) := by decide +kernel
theorem dX2_sail_95 : decode cX2_sail 95 = .ok (.aload_n 0, 1) := by decide +kernel
theorem dX2_sail_96 : decode cX2_sail 96 = .ok (.getfield 22, 3) := by decide +kernel
theorem dX2_sail_99 : decode cX2_sail 99 = .ok (.iconst (-1), 1) := by decide +kernel
theorem dX2_sail_100 : decode cX2_sail 100 = .ok (.if_icmp .ne 8, 3) := by decide +kernel
theorem dX2_sail_103 : decode cX2_sail 103 = .ok (.iload 5, 2) := by decide +kernel
theorem dX2_sail_105 : decode cX2_sail 105 = .ok (.goto 7, 3) := by decide +kernel
theorem dX2_sail_108 : decode cX2_sail 108 = .ok (.aload_n 0, 1) := by decide +kernel
theorem dX2_sail_109 : decode cX2_sail 109 = .ok (.getfield 22, 3) := by decide +kernel
theorem dX2_sail_112 : decode cX2_sail 112 = .ok (.putfield 22, 3) := by decide +kernel
theorem dX2_sail_115 : decode cX2_sail 115 = .ok (.aload_n 0, 1) := by decide +kernel
theorem dX2_sail_116 : decode cX2_sail 116 = .ok (.getfield 9, 3) := by decide +kernel
theorem dX2_sail_119 : decode cX2_sail 119 = .ok (.iload 5, 2) := by decide +kernel
theorem dX2_sail_121 : decode cX2_sail 121 = .ok (.aload_n 0, 1) := by decide +kernel
theorem dX2_sail_122 : decode cX2_sail 122 = .ok (.getfield 15, 3) := by decide +kernel
theorem dX2_sail_125 : decode cX2_sail 125 = .ok (.iconst (-1), 1) := by decide +kernel
theorem dX2_sail_126 : decode cX2_sail 126 = .ok (.if_icmp .ne 7, 3) := by decide +kernel
theorem dX2_sail_129 : decode cX2_sail 129 = .ok (.iconst (-1), 1) := by decide +kernel
theorem dX2_sail_130 : decode cX2_sail 130 = .ok (.goto 30, 3) := by decide +kernel
theorem dX2_sail_133 : decode cX2_sail 133 = .ok (.aload_n 1, 1) := by decide +kernel
theorem dX2_sail_134 : decode cX2_sail 134 = .ok (.getfield 43, 3) := by decide +kernel
theorem dX2_sail_137 : decode cX2_sail 137 = .ok (.aload_n 0, 1) := by decide +kernel
theorem dX2_sail_138 : decode cX2_sail 138 = .ok (.getfield 15, 3) := by decide +kernel
theorem dX2_sail_141 : decode cX2_sail 141 = .ok (.aload_n 2, 1) := by decide +kernel
theorem dX2_sail_142 : decode cX2_sail 142 = .ok (.getfield 34, 3) := by decide +kernel
theorem dX2_sail_145 : decode cX2_sail 145 = .ok (.iload 5, 2) := by decide +kernel
theorem dX2_sail_147 : decode cX2_sail 147 = .ok (.aload_n 1, 1) := by decide +kernel
theorem dX2_sail_148 : decode cX2_sail 148 = .ok (.getfield 43, 3) := by decide +kernel
theorem dX2_sail_151 : decode cX2_sail 151 = .ok (.getfield 52, 3) := by decide +kernel
theorem dX2_sail_154 : decode cX2_sail 154 = .ok (.iload 5, 2) := by decide +kernel
theorem dX2_sail_156 : decode cX2_sail 156 = .ok (.iaload, 1) := by decide +kernel
theorem dX2_sail_157 : decode cX2_sail 157 = .ok (.invokevirtual 55, 3) := by decide +kernel
theorem dX2_sail_160 : decode cX2_sail 160 = .ok (.iastore, 1) := by decide +kernel
theorem dX2_sail_161 : decode cX2_sail 161 = .ok (.iinc 5 1, 3) := by decide +kernel
theorem dX2_sail_164 : decode cX2_sail 164 = .ok (.goto (-139), 3) := by decide +kernel
theorem dX2_sail_167 : decode cX2_sail 167 = .ok (.return_, 1) := by decide +kernel
theorem dX2_liesIn_0 : decode cX2_liesIn 0 = .ok (.iload_n 1, 1) := by decide +kernel
theorem dX2_liesIn_1 : decode cX2_liesIn 1 = .ok (.invokestatic 59, 3) := by decide +kernel
theorem dX2_liesIn_4 : decode cX2_liesIn 4 = .ok (.ifCond .eq 12, 3) := by decide +kernel
theorem dX2_liesIn_7 : decode cX2_liesIn 7 = .ok (.aload_n 0, 1) := by decide +kernel
theorem dX2_liesIn_8 : decode cX2_liesIn 8 = .ok (.getfield 9, 3) := by decide +kernel
theorem dX2_liesIn_11 : decode cX2_liesIn 11 = .ok (.iload_n 1, 1) := by decide +kernel
theorem dX2_liesIn_12 : decode cX2_liesIn 12 = .ok (.iaload, 1) := by decide +kernel
theorem dX2_liesIn_13 : decode cX2_liesIn 13 = .ok (.goto 4, 3) := by decide +kernel
theorem dX2_liesIn_16 : decode cX2_liesIn 16 = .ok (.iconst (-1), 1) := by decide +kernel
theorem dX2_liesIn_17 : decode cX2_liesIn 17 = .ok (.ireturn, 1) := by decide +kernel
theorem dX2_meetsIn_0 : decode cX2_meetsIn 0 = .ok (.iload_n 2, 1) := by decide +kernel
theorem dX2_meetsIn_1 : decode cX2_meetsIn 1 = .ok (.iconst (-1), 1) := by decide +kernel
theorem dX2_meetsIn_2 : decode cX2_meetsIn 2 = .ok (.if_icmp .eq 16, 3) := by decide +kernel
theorem dX2_meetsIn_5 : decode cX2_meetsIn 5 = .ok (.aload_n 0, 1) := by decide +kernel
theorem dX2_meetsIn_6 : decode cX2_meetsIn 6 = .ok (.iload_n 1, 1) := by decide +kernel
theorem dX2_meetsIn_7 : decode cX2_meetsIn 7 = .ok (.invokevirtual 63, 3) := by decide +kernel
theorem dX2_meetsIn_10 : decode cX2_meetsIn 10 = .ok (.iload_n 2, 1) := by decide +kernel
theorem dX2_meetsIn_11 : decode cX2_meetsIn 11 = .ok (.if_icmp .ne 7, 3) := by decide +kernel
theorem dX2_meetsIn_14 : decode cX2_meetsIn 14 = .ok (.iconst 1, 1) := by decide +kernel
theorem dX2_meetsIn_15 : decode cX2_meetsIn 15 = .ok (.goto 4, 3) := by decide +kernel
theorem dX2_meetsIn_18 : decode cX2_meetsIn 18 = .ok (.iconst 0, 1) := by decide +kernel
theorem dX2_meetsIn_19 : decode cX2_meetsIn 19 = .ok (.ireturn, 1) := by decide +kernel
theorem dX2_farthest_0 : decode cX2_farthest 0 = .ok (.iconst 0, 1) := by decide +kernel
theorem dX2_farthest_1 : decode cX2_farthest 1 = .ok (.istore 4, 2) := by decide +kernel
theorem dX2_farthest_3 : decode cX2_farthest 3 = .ok (.iload_n 2, 1) := by decide +kernel
theorem dX2_farthest_4 : decode cX2_farthest 4 = .ok (.istore 5, 2) := by decide +kernel
theorem dX2_farthest_6 : decode cX2_farthest 6 = .ok (.iload 5, 2) := by decide +kernel
theorem dX2_farthest_8 : decode cX2_farthest 8 = .ok (.iload_n 3, 1) := by decide +kernel
theorem dX2_farthest_9 : decode cX2_farthest 9 = .ok (.if_icmp .ge 26, 3) := by decide +kernel
theorem dX2_farthest_12 : decode cX2_farthest 12 = .ok (.iload 4, 2) := by decide +kernel
theorem dX2_farthest_14 : decode cX2_farthest 14 = .ok (.iload_n 1, 1) := by decide +kernel
theorem dX2_farthest_15 : decode cX2_farthest 15 = .ok (.aload_n 0, 1) := by decide +kernel
theorem dX2_farthest_16 : decode cX2_farthest 16 = .ok (.iload 5, 2) := by decide +kernel
theorem dX2_farthest_18 : decode cX2_farthest 18 = .ok (.invokevirtual 63, 3) := by decide +kernel
theorem dX2_farthest_21 : decode cX2_farthest 21 = .ok (.invokestatic 67, 3) := by decide +kernel
theorem dX2_farthest_24 : decode cX2_farthest 24 = .ok (.invokestatic 28, 3) := by decide +kernel
theorem dX2_farthest_27 : decode cX2_farthest 27 = .ok (.istore 4, 2) := by decide +kernel
theorem dX2_farthest_29 : decode cX2_farthest 29 = .ok (.iinc 5 1, 3) := by decide +kernel
theorem dX2_farthest_32 : decode cX2_farthest 32 = .ok (.goto (-26), 3) := by decide +kernel
theorem dX2_farthest_35 : decode cX2_farthest 35 = .ok (.iload 4, 2) := by decide +kernel
theorem dX2_farthest_37 : decode cX2_farthest 37 = .ok (.ireturn, 1) := by decide +kernel
theorem dX2_firstBeyond_0 : decode cX2_firstBeyond 0 = .ok (.iload_n 3, 1) := by decide +kernel
theorem dX2_firstBeyond_1 : decode cX2_firstBeyond 1 = .ok (.istore 5, 2) := by decide +kernel
theorem dX2_firstBeyond_3 : decode cX2_firstBeyond 3 = .ok (.iload 5, 2) := by decide +kernel
theorem dX2_firstBeyond_5 : decode cX2_firstBeyond 5 = .ok (.iload 4, 2) := by decide +kernel
theorem dX2_firstBeyond_7 : decode cX2_firstBeyond 7 = .ok (.if_icmp .ge 36, 3) := by decide +kernel
theorem dX2_firstBeyond_10 : decode cX2_firstBeyond 10 = .ok (.aload_n 0, 1) := by decide +kernel
theorem dX2_firstBeyond_11 : decode cX2_firstBeyond 11 = .ok (.iload 5, 2) := by decide +kernel
theorem dX2_firstBeyond_13 : decode cX2_firstBeyond 13 = .ok (.invokevirtual 63, 3) := by decide +kernel
theorem dX2_firstBeyond_16 : decode cX2_firstBeyond 16 = .ok (.iconst (-1), 1) := by decide +kernel
theorem dX2_firstBeyond_17 : decode cX2_firstBeyond 17 = .ok (.if_icmp .eq 17, 3) := by decide +kernel
theorem dX2_firstBeyond_20 : decode cX2_firstBeyond 20 = .ok (.iload_n 2, 1) := by decide +kernel
theorem dX2_firstBeyond_21 : decode cX2_firstBeyond 21 = .ok (.aload_n 0, 1) := by decide +kernel
theorem dX2_firstBeyond_22 : decode cX2_firstBeyond 22 = .ok (.iload 5, 2) := by decide +kernel
theorem dX2_firstBeyond_24 : decode cX2_firstBeyond 24 = .ok (.invokevirtual 63, 3) := by decide +kernel
theorem dX2_firstBeyond_27 : decode cX2_firstBeyond 27 = .ok (.invokestatic 67, 3) := by decide +kernel
theorem dX2_firstBeyond_30 : decode cX2_firstBeyond 30 = .ok (.iload_n 1, 1) := by decide +kernel
theorem dX2_firstBeyond_31 : decode cX2_firstBeyond 31 = .ok (.if_icmp .le 6, 3) := by decide +kernel
theorem dX2_firstBeyond_34 : decode cX2_firstBeyond 34 = .ok (.iload 5, 2) := by decide +kernel
theorem dX2_firstBeyond_36 : decode cX2_firstBeyond 36 = .ok (.ireturn, 1) := by decide +kernel
theorem dX2_firstBeyond_37 : decode cX2_firstBeyond 37 = .ok (.iinc 5 1, 3) := by decide +kernel
theorem dX2_firstBeyond_40 : decode cX2_firstBeyond 40 = .ok (.goto (-37), 3) := by decide +kernel
theorem dX2_firstBeyond_43 : decode cX2_firstBeyond 43 = .ok (.iconst (-1), 1) := by decide +kernel
theorem dX2_firstBeyond_44 : decode cX2_firstBeyond 44 = .ok (.ireturn, 1) := by decide +kernel
theorem dX2_apart_0 : decode cX2_apart 0 = .ok (.iload_n 0, 1) := by decide +kernel
theorem dX2_apart_1 : decode cX2_apart 1 = .ok (.bipush 10, 2) := by decide +kernel
theorem dX2_apart_3 : decode cX2_apart 3 = .ok (.idiv, 1) := by decide +kernel
theorem dX2_apart_4 : decode cX2_apart 4 = .ok (.iload_n 1, 1) := by decide +kernel
theorem dX2_apart_5 : decode cX2_apart 5 = .ok (.bipush 10, 2) := by decide +kernel
theorem dX2_apart_7 : decode cX2_apart 7 = .ok (.idiv, 1) := by decide +kernel
theorem dX2_apart_8 : decode cX2_apart 8 = .ok (.isub, 1) := by decide +kernel
theorem dX2_apart_9 : decode cX2_apart 9 = .ok (.invokestatic 70, 3) := by decide +kernel
theorem dX2_apart_12 : decode cX2_apart 12 = .ok (.iload_n 0, 1) := by decide +kernel
theorem dX2_apart_13 : decode cX2_apart 13 = .ok (.bipush 10, 2) := by decide +kernel
theorem dX2_apart_15 : decode cX2_apart 15 = .ok (.irem, 1) := by decide +kernel
theorem dX2_apart_16 : decode cX2_apart 16 = .ok (.iload_n 1, 1) := by decide +kernel
theorem dX2_apart_17 : decode cX2_apart 17 = .ok (.bipush 10, 2) := by decide +kernel
theorem dX2_apart_19 : decode cX2_apart 19 = .ok (.irem, 1) := by decide +kernel
theorem dX2_apart_20 : decode cX2_apart 20 = .ok (.isub, 1) := by decide +kernel
theorem dX2_apart_21 : decode cX2_apart 21 = .ok (.invokestatic 70, 3) := by decide +kernel
theorem dX2_apart_24 : decode cX2_apart 24 = .ok (.invokestatic 28, 3) := by decide +kernel
theorem dX2_apart_27 : decode cX2_apart 27 = .ok (.ireturn, 1) := by decide +kernel
theorem dX3_init_0 : decode cX3_init 0 = .ok (.aload_n 0, 1) := by decide +kernel
theorem dX3_init_1 : decode cX3_init 1 = .ok (.invokespecial 3, 3) := by decide +kernel
theorem dX3_init_4 : decode cX3_init 4 = .ok (.aload_n 0, 1) := by decide +kernel
theorem dX3_init_5 : decode cX3_init 5 = .ok (.bipush 20, 2) := by decide +kernel
theorem dX3_init_7 : decode cX3_init 7 = .ok (.newarray .int, 2) := by decide +kernel
theorem dX3_init_9 : decode cX3_init 9 = .ok (.putfield 9, 3) := by decide +kernel
theorem dX3_init_12 : decode cX3_init 12 = .ok (.aload_n 0, 1) := by decide +kernel
theorem dX3_init_13 : decode cX3_init 13 = .ok (.bipush 20, 2) := by decide +kernel
theorem dX3_init_15 : decode cX3_init 15 = .ok (.newarray .int, 2) := by decide +kernel
theorem dX3_init_17 : decode cX3_init 17 = .ok (.putfield 15, 3) := by decide +kernel
theorem dX3_init_20 : decode cX3_init 20 = .ok (.return_, 1) := by decide +kernel
theorem dX3_above_0 : decode cX3_above 0 = .ok (.iload_n 1, 1) := by decide +kernel
theorem dX3_above_1 : decode cX3_above 1 = .ok (.iload_n 2, 1) := by decide +kernel
theorem dX3_above_2 : decode cX3_above 2 = .ok (.invokestatic 18, 3) := by decide +kernel
theorem dX3_above_5 : decode cX3_above 5 = .ok (.ifCond .eq 18, 3) := by decide +kernel
theorem dX3_above_8 : decode cX3_above 8 = .ok (.aload_n 0, 1) := by decide +kernel
theorem dX3_above_9 : decode cX3_above 9 = .ok (.getfield 9, 3) := by decide +kernel
theorem dX3_above_12 : decode cX3_above 12 = .ok (.iconst 4, 1) := by decide +kernel
theorem dX3_above_13 : decode cX3_above 13 = .ok (.iload_n 1, 1) := by decide +kernel
theorem dX3_above_14 : decode cX3_above 14 = .ok (.imul, 1) := by decide +kernel
theorem dX3_above_15 : decode cX3_above 15 = .ok (.iload_n 2, 1) := by decide +kernel
theorem dX3_above_16 : decode cX3_above 16 = .ok (.iadd, 1) := by decide +kernel
theorem dX3_above_17 : decode cX3_above 17 = .ok (.iaload, 1) := by decide +kernel
theorem dX3_above_18 : decode cX3_above 18 = .ok (.iconst 1, 1) := by decide +kernel
theorem dX3_above_19 : decode cX3_above 19 = .ok (.iadd, 1) := by decide +kernel
theorem dX3_above_20 : decode cX3_above 20 = .ok (.goto 4, 3) := by decide +kernel
theorem dX3_above_23 : decode cX3_above 23 = .ok (.iconst 1, 1) := by decide +kernel
theorem dX3_above_24 : decode cX3_above 24 = .ok (.ireturn, 1) := by decide +kernel
theorem dX3_below_0 : decode cX3_below 0 = .ok (.iload_n 1, 1) := by decide +kernel
theorem dX3_below_1 : decode cX3_below 1 = .ok (.iload_n 2, 1) := by decide +kernel
theorem dX3_below_2 : decode cX3_below 2 = .ok (.invokestatic 18, 3) := by decide +kernel
theorem dX3_below_5 : decode cX3_below 5 = .ok (.ifCond .eq 18, 3) := by decide +kernel
theorem dX3_below_8 : decode cX3_below 8 = .ok (.aload_n 0, 1) := by decide +kernel
theorem dX3_below_9 : decode cX3_below 9 = .ok (.getfield 15, 3) := by decide +kernel
theorem dX3_below_12 : decode cX3_below 12 = .ok (.iconst 4, 1) := by decide +kernel
theorem dX3_below_13 : decode cX3_below 13 = .ok (.iload_n 1, 1) := by decide +kernel
theorem dX3_below_14 : decode cX3_below 14 = .ok (.imul, 1) := by decide +kernel
theorem dX3_below_15 : decode cX3_below 15 = .ok (.iload_n 2, 1) := by decide +kernel
theorem dX3_below_16 : decode cX3_below 16 = .ok (.iadd, 1) := by decide +kernel
theorem dX3_below_17 : decode cX3_below 17 = .ok (.iaload, 1) := by decide +kernel
theorem dX3_below_18 : decode cX3_below 18 = .ok (.iconst 2, 1) := by decide +kernel
theorem dX3_below_19 : decode cX3_below 19 = .ok (.iadd, 1) := by decide +kernel
theorem dX3_below_20 : decode cX3_below 20 = .ok (.goto 4, 3) := by decide +kernel
theorem dX3_below_23 : decode cX3_below 23 = .ok (.iconst 2, 1) := by decide +kernel
theorem dX3_below_24 : decode cX3_below 24 = .ok (.ireturn, 1) := by decide +kernel
theorem dX3_isLikelier_0 : decode cX3_isLikelier 0 = .ok (.aload_n 0, 1) := by decide +kernel
theorem dX3_isLikelier_1 : decode cX3_isLikelier 1 = .ok (.iload_n 1, 1) := by decide +kernel
theorem dX3_isLikelier_2 : decode cX3_isLikelier 2 = .ok (.iload_n 2, 1) := by decide +kernel
theorem dX3_isLikelier_3 : decode cX3_isLikelier 3 = .ok (.invokevirtual 22, 3) := by decide +kernel
theorem dX3_isLikelier_6 : decode cX3_isLikelier 6 = .ok (.aload_n 0, 1) := by decide +kernel
theorem dX3_isLikelier_7 : decode cX3_isLikelier 7 = .ok (.iload_n 3, 1) := by decide +kernel
theorem dX3_isLikelier_8 : decode cX3_isLikelier 8 = .ok (.iload 4, 2) := by decide +kernel
theorem dX3_isLikelier_10 : decode cX3_isLikelier 10 = .ok (.invokevirtual 26, 3) := by decide +kernel
theorem dX3_isLikelier_13 : decode cX3_isLikelier 13 = .ok (.imul, 1) := by decide +kernel
theorem dX3_isLikelier_14 : decode cX3_isLikelier 14 = .ok (.aload_n 0, 1) := by decide +kernel
theorem dX3_isLikelier_15 : decode cX3_isLikelier 15 = .ok (.iload_n 3, 1) := by decide +kernel
theorem dX3_isLikelier_16 : decode cX3_isLikelier 16 = .ok (.iload 4, 2) := by decide +kernel
theorem dX3_isLikelier_18 : decode cX3_isLikelier 18 = .ok (.invokevirtual 22, 3) := by decide +kernel
theorem dX3_isLikelier_21 : decode cX3_isLikelier 21 = .ok (.aload_n 0, 1) := by decide +kernel
theorem dX3_isLikelier_22 : decode cX3_isLikelier 22 = .ok (.iload_n 1, 1) := by decide +kernel
theorem dX3_isLikelier_23 : decode cX3_isLikelier 23 = .ok (.iload_n 2, 1) := by decide +kernel
theorem dX3_isLikelier_24 : decode cX3_isLikelier 24 = .ok (.invokevirtual 26, 3) := by decide +kernel
theorem dX3_isLikelier_27 : decode cX3_isLikelier 27 = .ok (.imul, 1) := by decide +kernel
theorem dX3_isLikelier_28 : decode cX3_isLikelier 28 = .ok (.if_icmp .le 7, 3) := by decide +kernel
theorem dX3_isLikelier_31 : decode cX3_isLikelier 31 = .ok (.iconst 1, 1) := by decide +kernel
theorem dX3_isLikelier_32 : decode cX3_isLikelier 32 = .ok (.goto 4, 3) := by decide +kernel
theorem dX3_isLikelier_35 : decode cX3_isLikelier 35 = .ok (.iconst 0, 1) := by decide +kernel
theorem dX3_isLikelier_36 : decode cX3_isLikelier 36 = .ok (.ireturn, 1) := by decide +kernel
theorem dX3_worstBed_0 : decode cX3_worstBed 0 = .ok (.iconst 0, 1) := by decide +kernel
theorem dX3_worstBed_1 : decode cX3_worstBed 1 = .ok (.istore_n 2, 1) := by decide +kernel
theorem dX3_worstBed_2 : decode cX3_worstBed 2 = .ok (.iconst 1, 1) := by decide +kernel
theorem dX3_worstBed_3 : decode cX3_worstBed 3 = .ok (.istore_n 3, 1) := by decide +kernel
theorem dX3_worstBed_4 : decode cX3_worstBed 4 = .ok (.iload_n 3, 1) := by decide +kernel
theorem dX3_worstBed_5 : decode cX3_worstBed 5 = .ok (.iconst 4, 1) := by decide +kernel
theorem dX3_worstBed_6 : decode cX3_worstBed 6 = .ok (.if_icmp .ge 22, 3) := by decide +kernel
theorem dX3_worstBed_9 : decode cX3_worstBed 9 = .ok (.aload_n 0, 1) := by decide +kernel
theorem dX3_worstBed_10 : decode cX3_worstBed 10 = .ok (.iload_n 1, 1) := by decide +kernel
theorem dX3_worstBed_11 : decode cX3_worstBed 11 = .ok (.iload_n 2, 1) := by decide +kernel
theorem dX3_worstBed_12 : decode cX3_worstBed 12 = .ok (.iload_n 1, 1) := by decide +kernel
theorem dX3_worstBed_13 : decode cX3_worstBed 13 = .ok (.iload_n 3, 1) := by decide +kernel
theorem dX3_worstBed_14 : decode cX3_worstBed 14 = .ok (.invokevirtual 29, 3) := by decide +kernel
theorem dX3_worstBed_17 : decode cX3_worstBed 17 = .ok (.ifCond .eq 5, 3) := by decide +kernel
theorem dX3_worstBed_20 : decode cX3_worstBed 20 = .ok (.iload_n 3, 1) := by decide +kernel
theorem dX3_worstBed_21 : decode cX3_worstBed 21 = .ok (.istore_n 2, 1) := by decide +kernel
theorem dX3_worstBed_22 : decode cX3_worstBed 22 = .ok (.iinc 3 1, 3) := by decide +kernel
theorem dX3_worstBed_25 : decode cX3_worstBed 25 = .ok (.goto (-21), 3) := by decide +kernel
theorem dX3_worstBed_28 : decode cX3_worstBed 28 = .ok (.iload_n 2, 1) := by decide +kernel
theorem dX3_worstBed_29 : decode cX3_worstBed 29 = .ok (.ireturn, 1) := by decide +kernel
theorem dX3_takeOver_0 : decode cX3_takeOver 0 = .ok (.iconst 0, 1) := by decide +kernel
theorem dX3_takeOver_1 : decode cX3_takeOver 1 = .ok (.istore_n 2, 1) := by decide +kernel
theorem dX3_takeOver_2 : decode cX3_takeOver 2 = .ok (.iload_n 2, 1) := by decide +kernel
theorem dX3_takeOver_3 : decode cX3_takeOver 3 = .ok (.bipush 20, 2) := by decide +kernel
theorem dX3_takeOver_5 : decode cX3_takeOver 5 = .ok (.if_icmp .ge 33, 3) := by decide +kernel
theorem dX3_takeOver_8 : decode cX3_takeOver 8 = .ok (.aload_n 0, 1) := by decide +kernel
theorem dX3_takeOver_9 : decode cX3_takeOver 9 = .ok (.getfield 9, 3) := by decide +kernel
theorem dX3_takeOver_12 : decode cX3_takeOver 12 = .ok (.iload_n 2, 1) := by decide +kernel
theorem dX3_takeOver_13 : decode cX3_takeOver 13 = .ok (.aload_n 1, 1) := by decide +kernel
theorem dX3_takeOver_14 : decode cX3_takeOver 14 = .ok (.getfield 9, 3) := by decide +kernel
theorem dX3_takeOver_17 : decode cX3_takeOver 17 = .ok (.iload_n 2, 1) := by decide +kernel
theorem dX3_takeOver_18 : decode cX3_takeOver 18 = .ok (.iaload, 1) := by decide +kernel
theorem dX3_takeOver_19 : decode cX3_takeOver 19 = .ok (.iastore, 1) := by decide +kernel
theorem dX3_takeOver_20 : decode cX3_takeOver 20 = .ok (.aload_n 0, 1) := by decide +kernel
theorem dX3_takeOver_21 : decode cX3_takeOver 21 = .ok (.getfield 15, 3) := by decide +kernel
theorem dX3_takeOver_24 : decode cX3_takeOver 24 = .ok (.iload_n 2, 1) := by decide +kernel
theorem dX3_takeOver_25 : decode cX3_takeOver 25 = .ok (.aload_n 1, 1) := by decide +kernel
theorem dX3_takeOver_26 : decode cX3_takeOver 26 = .ok (.getfield 15, 3) := by decide +kernel
theorem dX3_takeOver_29 : decode cX3_takeOver 29 = .ok (.iload_n 2, 1) := by decide +kernel
theorem dX3_takeOver_30 : decode cX3_takeOver 30 = .ok (.iaload, 1) := by decide +kernel
theorem dX3_takeOver_31 : decode cX3_takeOver 31 = .ok (.iastore, 1) := by decide +kernel
theorem dX3_takeOver_32 : decode cX3_takeOver 32 = .ok (.iinc 2 1, 3) := by decide +kernel
theorem dX3_takeOver_35 : decode cX3_takeOver 35 = .ok (.goto (-33), 3) := by decide +kernel
theorem dX3_takeOver_38 : decode cX3_takeOver 38 = .ok (.return_, 1) := by decide +kernel
theorem dX4_init_0 : decode cX4_init 0 = .ok (.aload_n 0, 1) := by decide +kernel
theorem dX4_init_1 : decode cX4_init 1 = .ok (.invokespecial 3, 3) := by decide +kernel
theorem dX4_init_4 : decode cX4_init 4 = .ok (.aload_n 0, 1) := by decide +kernel
theorem dX4_init_5 : decode cX4_init 5 = .ok (.bipush 6, 2) := by decide +kernel
theorem dX4_init_7 : decode cX4_init 7 = .ok (.newarray .int, 2) := by decide +kernel
theorem dX4_init_9 : decode cX4_init 9 = .ok (.putfield 9, 3) := by decide +kernel
theorem dX4_init_12 : decode cX4_init 12 = .ok (.aload_n 0, 1) := by decide +kernel
theorem dX4_init_13 : decode cX4_init 13 = .ok (.bipush 6, 2) := by decide +kernel
theorem dX4_init_15 : decode cX4_init 15 = .ok (.newarray .int, 2) := by decide +kernel
theorem dX4_init_17 : decode cX4_init 17 = .ok (.putfield 15, 3) := by decide +kernel
theorem dX4_init_20 : decode cX4_init 20 = .ok (.aload_n 0, 1) := by decide +kernel
theorem dX4_init_21 : decode cX4_init 21 = .ok (.new 18, 3) := by decide +kernel
theorem dX4_init_24 : decode cX4_init 24 = .ok (.dup, 1) := by decide +kernel
theorem dX4_init_25 : decode cX4_init 25 = .ok (.invokespecial 20, 3) := by decide +kernel
theorem dX4_init_28 : decode cX4_init 28 = .ok (.putfield 21, 3) := by decide +kernel
theorem dX4_init_31 : decode cX4_init 31 = .ok (.aload_n 0, 1) := by decide +kernel
theorem dX4_init_32 : decode cX4_init 32 = .ok (.iconst (-1), 1) := by decide +kernel
theorem dX4_init_33 : decode cX4_init 33 = .ok (.putfield 25, 3) := by decide +kernel
theorem dX4_init_36 : decode cX4_init 36 = .ok (.aload_n 0, 1) := by decide +kernel
theorem dX4_init_37 : decode cX4_init 37 = .ok (.iconst 0, 1) := by decide +kernel
theorem dX4_init_38 : decode cX4_init 38 = .ok (.putfield 29, 3) := by decide +kernel
theorem dX4_init_41 : decode cX4_init 41 = .ok (.aload_n 0, 1) := by decide +kernel
theorem dX4_init_42 : decode cX4_init 42 = .ok (.iconst 0, 1) := by decide +kernel
theorem dX4_init_43 : decode cX4_init 43 = .ok (.putfield 32, 3) := by decide +kernel
theorem dX4_init_46 : decode cX4_init 46 = .ok (.return_, 1) := by decide +kernel
theorem dX5_init_0 : decode cX5_init 0 = .ok (.aload_n 0, 1) := by decide +kernel
theorem dX5_init_1 : decode cX5_init 1 = .ok (.invokespecial 3, 3) := by decide +kernel
theorem dX5_init_4 : decode cX5_init 4 = .ok (.aload_n 0, 1) := by decide +kernel
theorem dX5_init_5 : decode cX5_init 5 = .ok (.sipush 160, 3) := by decide +kernel
theorem dX5_init_8 : decode cX5_init 8 = .ok (.newarray .int, 2) := by decide +kernel
theorem dX5_init_10 : decode cX5_init 10 = .ok (.putfield 9, 3) := by decide +kernel
theorem dX5_init_13 : decode cX5_init 13 = .ok (.aload_n 0, 1) := by decide +kernel
theorem dX5_init_14 : decode cX5_init 14 = .ok (.iconst 3, 1) := by decide +kernel
theorem dX5_init_15 : decode cX5_init 15 = .ok (.newarray .int, 2) := by decide +kernel
theorem dX5_init_17 : decode cX5_init 17 = .ok (.putfield 15, 3) := by decide +kernel
theorem dX5_init_20 : decode cX5_init 20 = .ok (.aload_n 0, 1) := by decide +kernel
theorem dX5_init_21 : decode cX5_init 21 = .ok (.iconst 0, 1) := by decide +kernel
theorem dX5_init_22 : decode cX5_init 22 = .ok (.putfield 18, 3) := by decide +kernel
theorem dX5_init_25 : decode cX5_init 25 = .ok (.return_, 1) := by decide +kernel
theorem dX5_clear_0 : decode cX5_clear 0 = .ok (.aload_n 0, 1) := by decide +kernel
theorem dX5_clear_1 : decode cX5_clear 1 = .ok (.iconst 0, 1) := by decide +kernel
theorem dX5_clear_2 : decode cX5_clear 2 = .ok (.putfield 18, 3) := by decide +kernel
theorem dX5_clear_5 : decode cX5_clear 5 = .ok (.return_, 1) := by decide +kernel
theorem dX5_add_0 : decode cX5_add 0 = .ok (.aload_n 0, 1) := by decide +kernel
theorem dX5_add_1 : decode cX5_add 1 = .ok (.getfield 18, 3) := by decide +kernel
theorem dX5_add_4 : decode cX5_add 4 = .ok (.aload_n 0, 1) := by decide +kernel
theorem dX5_add_5 : decode cX5_add 5 = .ok (.getfield 9, 3) := by decide +kernel
theorem dX5_add_8 : decode cX5_add 8 = .ok (.arraylength, 1) := by decide +kernel
theorem dX5_add_9 : decode cX5_add 9 = .ok (.if_icmp .ge 23, 3) := by decide +kernel
theorem dX5_add_12 : decode cX5_add 12 = .ok (.aload_n 0, 1) := by decide +kernel
theorem dX5_add_13 : decode cX5_add 13 = .ok (.getfield 9, 3) := by decide +kernel
theorem dX5_add_16 : decode cX5_add 16 = .ok (.aload_n 0, 1) := by decide +kernel
theorem dX5_add_17 : decode cX5_add 17 = .ok (.getfield 18, 3) := by decide +kernel
theorem dX5_add_20 : decode cX5_add 20 = .ok (.iload_n 1, 1) := by decide +kernel
theorem dX5_add_21 : decode cX5_add 21 = .ok (.iastore, 1) := by decide +kernel
theorem dX5_add_22 : decode cX5_add 22 = .ok (.aload_n 0, 1) := by decide +kernel
theorem dX5_add_23 : decode cX5_add 23 = .ok (.dup, 1) := by decide +kernel
theorem dX5_add_24 : decode cX5_add 24 = .ok (.getfield 18, 3) := by decide +kernel
theorem dX5_add_27 : decode cX5_add 27 = .ok (.iconst 1, 1) := by decide +kernel
theorem dX5_add_28 : decode cX5_add 28 = .ok (.iadd, 1) := by decide +kernel
theorem dX5_add_29 : decode cX5_add 29 = .ok (.putfield 18, 3) := by decide +kernel
theorem dX5_add_32 : decode cX5_add 32 = .ok (.return_, 1) := by decide +kernel
theorem dX5_endPart_0 : decode cX5_endPart 0 = .ok (.iload_n 1, 1) := by decide +kernel
theorem dX5_endPart_1 : decode cX5_endPart 1 = .ok (.iconst 0, 1) := by decide +kernel
theorem dX5_endPart_2 : decode cX5_endPart 2 = .ok (.iconst 2, 1) := by decide +kernel
theorem dX5_endPart_3 : decode cX5_endPart 3 = .ok (.invokestatic 22, 3) := by decide +kernel
theorem dX5_endPart_6 : decode cX5_endPart 6 = .ok (.ifCond .eq 13, 3) := by decide +kernel
theorem dX5_endPart_9 : decode cX5_endPart 9 = .ok (.aload_n 0, 1) := by decide +kernel
theorem dX5_endPart_10 : decode cX5_endPart 10 = .ok (.getfield 15, 3) := by decide +kernel
theorem dX5_endPart_13 : decode cX5_endPart 13 = .ok (.iload_n 1, 1) := by decide +kernel
theorem dX5_endPart_14 : decode cX5_endPart 14 = .ok (.aload_n 0, 1) := by decide +kernel
theorem dX5_endPart_15 : decode cX5_endPart 15 = .ok (.getfield 18, 3) := by decide +kernel
theorem dX5_endPart_18 : decode cX5_endPart 18 = .ok (.iastore, 1) := by decide +kernel
theorem dX5_endPart_19 : decode cX5_endPart 19 = .ok (.return_, 1) := by decide +kernel
theorem dX5_valueOf_0 : decode cX5_valueOf 0 = .ok (.iload_n 1, 1) := by decide +kernel
theorem dX5_valueOf_1 : decode cX5_valueOf 1 = .ok (.iconst 0, 1) := by decide +kernel
theorem dX5_valueOf_2 : decode cX5_valueOf 2 = .ok (.iconst 2, 1) := by decide +kernel
theorem dX5_valueOf_3 : decode cX5_valueOf 3 = .ok (.invokestatic 22, 3) := by decide +kernel
theorem dX5_valueOf_6 : decode cX5_valueOf 6 = .ok (.ifCond .ne 5, 3) := by decide +kernel
theorem dX5_valueOf_9 : decode cX5_valueOf 9 = .ok (.iconst 0, 1) := by decide +kernel
theorem dX5_valueOf_10 : decode cX5_valueOf 10 = .ok (.ireturn, 1) := by decide +kernel
theorem dX5_valueOf_11 : decode cX5_valueOf 11 = .ok (.iconst 0, 1) := by decide +kernel
theorem dX5_valueOf_12 : decode cX5_valueOf 12 = .ok (.istore 4, 2) := by decide +kernel
theorem dX5_valueOf_14 : decode cX5_valueOf 14 = .ok (.iload_n 1, 1) := by decide +kernel
theorem dX5_valueOf_15 : decode cX5_valueOf 15 = .ok (.ifCond .ne 7, 3) := by decide +kernel
theorem dX5_valueOf_18 : decode cX5_valueOf 18 = .ok (.iconst 0, 1) := by decide +kernel
theorem dX5_valueOf_19 : decode cX5_valueOf 19 = .ok (.goto 11, 3) := by decide +kernel
theorem dX5_valueOf_22 : decode cX5_valueOf 22 = .ok (.aload_n 0, 1) := by decide +kernel
theorem dX5_valueOf_23 : decode cX5_valueOf 23 = .ok (.getfield 15, 3) := by decide +kernel
theorem dX5_valueOf_26 : decode cX5_valueOf 26 = .ok (.iload_n 1, 1) := by decide +kernel
theorem dX5_valueOf_27 : decode cX5_valueOf 27 = .ok (.iconst 1, 1) := by decide +kernel
theorem dX5_valueOf_28 : decode cX5_valueOf 28 = .ok (.isub, 1) := by decide +kernel
theorem dX5_valueOf_29 : decode cX5_valueOf 29 = .ok (.iaload, 1) := by decide +kernel
theorem dX5_valueOf_30 : decode cX5_valueOf 30 = .ok (.istore 5, 2) := by decide +kernel
theorem dX5_valueOf_32 : decode cX5_valueOf 32 = .ok (.iload 5, 2) := by decide +kernel
theorem dX5_valueOf_34 : decode cX5_valueOf 34 = .ok (.aload_n 0, 1) := by decide +kernel
theorem dX5_valueOf_35 : decode cX5_valueOf 35 = .ok (.getfield 15, 3) := by decide +kernel
theorem dX5_valueOf_38 : decode cX5_valueOf 38 = .ok (.iload_n 1, 1) := by decide +kernel
theorem dX5_valueOf_39 : decode cX5_valueOf 39 = .ok (.iaload, 1) := by decide +kernel
theorem dX5_valueOf_40 : decode cX5_valueOf 40 = .ok (.if_icmp .ge 159, 3) := by decide +kernel
theorem dX5_valueOf_43 : decode cX5_valueOf 43 = .ok (.iload 5, 2) := by decide +kernel
theorem dX5_valueOf_45 : decode cX5_valueOf 45 = .ok (.aload_n 0, 1) := by decide +kernel
theorem dX5_valueOf_46 : decode cX5_valueOf 46 = .ok (.getfield 9, 3) := by decide +kernel
theorem dX5_valueOf_49 : decode cX5_valueOf 49 = .ok (.arraylength, 1) := by decide +kernel
theorem dX5_valueOf_50 : decode cX5_valueOf 50 = .ok (.if_icmp .ge 149, 3) := by decide +kernel
theorem dX5_valueOf_53 : decode cX5_valueOf 53 = .ok (.aload_n 0, 1) := by decide +kernel
theorem dX5_valueOf_54 : decode cX5_valueOf 54 = .ok (.getfield 9, 3) := by decide +kernel
theorem dX5_valueOf_57 : decode cX5_valueOf 57 = .ok (.iload 5, 2) := by decide +kernel
theorem dX5_valueOf_59 : decode cX5_valueOf 59 = .ok (.iaload, 1) := by decide +kernel
theorem dX5_valueOf_60 : decode cX5_valueOf 60 = .ok (.istore 6, 2) := by decide +kernel
theorem dX5_valueOf_62 : decode cX5_valueOf 62 = .ok (.iload 6, 2) := by decide +kernel
theorem dX5_valueOf_64 : decode cX5_valueOf 64 = .ok (.sipush 20000, 3) := by decide +kernel
theorem dX5_valueOf_67 : decode cX5_valueOf 67 = .ok (.isub, 1) := by decide +kernel
theorem dX5_valueOf_68 : decode cX5_valueOf 68 = .ok (.istore 7, 2) := by decide +kernel
theorem dX5_valueOf_70 : decode cX5_valueOf 70 = .ok (.iload 7, 2) := by decide +kernel
theorem dX5_valueOf_72 : decode cX5_valueOf 72 = .ok (.ifCond .ge 7, 3) := by decide +kernel
theorem dX5_valueOf_75 : decode cX5_valueOf 75 = .ok (.iconst 0, 1) := by decide +kernel
theorem dX5_valueOf_76 : decode cX5_valueOf 76 = .ok (.goto 22, 3) := by decide +kernel
theorem dX5_valueOf_79 : decode cX5_valueOf 79 = .ok (.iload 7, 2) := by decide +kernel
theorem dX5_valueOf_81 : decode cX5_valueOf 81 = .ok (.bipush 31, 2) := by decide +kernel
theorem dX5_valueOf_83 : decode cX5_valueOf 83 = .ok (.if_icmp .eq 10, 3) := by decide +kernel
theorem dX5_valueOf_86 : decode cX5_valueOf 86 = .ok (.iload 7, 2) := by decide +kernel
theorem dX5_valueOf_88 : decode cX5_valueOf 88 = .ok (.bipush 11, 2) := by decide +kernel
theorem dX5_valueOf_90 : decode cX5_valueOf 90 = .ok (.if_icmp .ne 7, 3) := by decide +kernel
theorem dX5_valueOf_93 : decode cX5_valueOf 93 = .ok (.iconst 1, 1) := by decide +kernel
theorem dX5_valueOf_94 : decode cX5_valueOf 94 = .ok (.goto 4, 3) := by decide +kernel
theorem dX5_valueOf_97 : decode cX5_valueOf 97 = .ok (.iconst 2, 1) := by decide +kernel
theorem dX5_valueOf_98 : decode cX5_valueOf 98 = .ok (.istore 8, 2) := by decide +kernel
theorem dX5_valueOf_100 : decode cX5_valueOf 100 = .ok (.iload 8, 2) := by decide +kernel
theorem dX5_valueOf_102 : decode cX5_valueOf 102 = .ok (.ifCond .ne 45, 3) := by decide +kernel
theorem dX5_valueOf_105 : decode cX5_valueOf 105 = .ok (.iload 4, 2) := by decide +kernel
theorem dX5_valueOf_107 : decode cX5_valueOf 107 = .ok (.aload_n 3, 1) := by decide +kernel
theorem dX5_valueOf_108 : decode cX5_valueOf 108 = .ok (.arraylength, 1) := by decide +kernel
theorem dX5_valueOf_109 : decode cX5_valueOf 109 = .ok (.if_icmp .ge 38, 3) := by decide +kernel
theorem dX5_valueOf_112 : decode cX5_valueOf 112 = .ok (.aload_n 3, 1) := by decide +kernel
theorem dX5_valueOf_113 : decode cX5_valueOf 113 = .ok (.iload 4, 2) := by decide +kernel
theorem dX5_valueOf_115 : decode cX5_valueOf 115 = .ok (.iload 6, 2) := by decide +kernel
theorem dX5_valueOf_117 : decode cX5_valueOf 117 = .ok (.sipush 10000, 3) := by decide +kernel
theorem dX5_valueOf_120 : decode cX5_valueOf 120 = .ok (.if_icmp .ge 8, 3) := by decide +kernel
theorem dX5_valueOf_123 : decode cX5_valueOf 123 = .ok (.iload 6, 2) := by decide +kernel
theorem dX5_valueOf_125 : decode cX5_valueOf 125 = .ok (.goto 15, 3) := by decide +kernel
theorem dX5_valueOf_128 : decode cX5_valueOf 128 = .ok (.aload_n 2, 1) := by decide +kernel
theorem dX5_valueOf_129 : decode cX5_valueOf 129 = .ok (.iload 6, 2) := by decide +kernel
theorem dX5_valueOf_131 : decode cX5_valueOf 131 = .ok (.sipush 10000, 3) := by decide +kernel
theorem dX5_valueOf_134 : decode cX5_valueOf 134 = .ok (.isub, 1) := by decide +kernel
theorem dX5_valueOf_135 : decode cX5_valueOf 135 = .ok (.iconst 5, 1) := by decide +kernel
theorem dX5_valueOf_136 : decode cX5_valueOf 136 = .ok (.invokestatic 28, 3) := by decide +kernel
theorem dX5_valueOf_139 : decode cX5_valueOf 139 = .ok (.iaload, 1) := by decide +kernel
theorem dX5_valueOf_140 : decode cX5_valueOf 140 = .ok (.iastore, 1) := by decide +kernel
theorem dX5_valueOf_141 : decode cX5_valueOf 141 = .ok (.iinc 4 1, 3) := by decide +kernel
theorem dX5_valueOf_144 : decode cX5_valueOf 144 = .ok (.goto 49, 3) := by decide +kernel
theorem dX5_valueOf_147 : decode cX5_valueOf 147 = .ok (.iload 8, 2) := by decide +kernel
theorem dX5_valueOf_149 : decode cX5_valueOf 149 = .ok (.ifCond .le 44, 3) := by decide +kernel
theorem dX5_valueOf_152 : decode cX5_valueOf 152 = .ok (.iload 4, 2) := by decide +kernel
theorem dX5_valueOf_154 : decode cX5_valueOf 154 = .ok (.iload 8, 2) := by decide +kernel
theorem dX5_valueOf_156 : decode cX5_valueOf 156 = .ok (.if_icmp .lt 37, 3) := by decide +kernel
theorem dX5_valueOf_159 : decode cX5_valueOf 159 = .ok (.aload_n 3, 1) := by decide +kernel
theorem dX5_valueOf_160 : decode cX5_valueOf 160 = .ok (.iload 4, 2) := by decide +kernel
theorem dX5_valueOf_162 : decode cX5_valueOf 162 = .ok (.iload 8, 2) := by decide +kernel
theorem dX5_valueOf_164 : decode cX5_valueOf 164 = .ok (.isub, 1) := by decide +kernel
theorem dX5_valueOf_165 : decode cX5_valueOf 165 = .ok (.iload 7, 2) := by decide +kernel
theorem dX5_valueOf_167 : decode cX5_valueOf 167 = .ok (.aload_n 3, 1) := by decide +kernel
theorem dX5_valueOf_168 : decode cX5_valueOf 168 = .ok (.iload 4, 2) := by decide +kernel
theorem dX5_valueOf_170 : decode cX5_valueOf 170 = .ok (.iload 8, 2) := by decide +kernel
theorem dX5_valueOf_172 : decode cX5_valueOf 172 = .ok (.isub, 1) := by decide +kernel
theorem dX5_valueOf_173 : decode cX5_valueOf 173 = .ok (.iaload, 1) := by decide +kernel
theorem dX5_valueOf_174 : decode cX5_valueOf 174 = .ok (.aload_n 3, 1) := by decide +kernel
theorem dX5_valueOf_175 : decode cX5_valueOf 175 = .ok (.iload 4, 2) := by decide +kernel
theorem dX5_valueOf_177 : decode cX5_valueOf 177 = .ok (.iconst 1, 1) := by decide +kernel
theorem dX5_valueOf_178 : decode cX5_valueOf 178 = .ok (.isub, 1) := by decide +kernel
theorem dX5_valueOf_179 : decode cX5_valueOf 179 = .ok (.iaload, 1) := by decide +kernel
theorem dX5_valueOf_180 : decode cX5_valueOf 180 = .ok (.invokestatic 34, 3) := by decide +kernel
theorem dX5_valueOf_183 : decode cX5_valueOf 183 = .ok (.iastore, 1) := by decide +kernel
theorem dX5_valueOf_184 : decode cX5_valueOf 184 = .ok (.iload 4, 2) := by decide +kernel
theorem dX5_valueOf_186 : decode cX5_valueOf 186 = .ok (.iload 8, 2) := by decide +kernel
theorem dX5_valueOf_188 : decode cX5_valueOf 188 = .ok (.isub, 1) := by decide +kernel
theorem dX5_valueOf_189 : decode cX5_valueOf 189 = .ok (.iconst 1, 1) := by decide +kernel
theorem dX5_valueOf_190 : decode cX5_valueOf 190 = .ok (.iadd, 1) := by decide +kernel
theorem dX5_valueOf_191 : decode cX5_valueOf 191 = .ok (.istore 4, 2) := by decide +kernel
theorem dX5_valueOf_193 : decode cX5_valueOf 193 = .ok (.iinc 5 1, 3) := by decide +kernel
theorem dX5_valueOf_196 : decode cX5_valueOf 196 = .ok (.goto (-164), 3) := by decide +kernel
theorem dX5_valueOf_199 : decode cX5_valueOf 199 = .ok (.iload 4, 2) := by decide +kernel
theorem dX5_valueOf_201 : decode cX5_valueOf 201 = .ok (.ifCond .le 9, 3) := by decide +kernel
theorem dX5_valueOf_204 : decode cX5_valueOf 204 = .ok (.aload_n 3, 1) := by decide +kernel
theorem dX5_valueOf_205 : decode cX5_valueOf 205 = .ok (.iconst 0, 1) := by decide +kernel
theorem dX5_valueOf_206 : decode cX5_valueOf 206 = .ok (.iaload, 1) := by decide +kernel
theorem dX5_valueOf_207 : decode cX5_valueOf 207 = .ok (.goto 4, 3) := by decide +kernel
theorem dX5_valueOf_210 : decode cX5_valueOf 210 = .ok (.iconst 0, 1) := by decide +kernel
theorem dX5_valueOf_211 : decode cX5_valueOf 211 = .ok (.ireturn, 1) := by decide +kernel
theorem dX5_outcome_0 : decode cX5_outcome 0 = .ok (.iload_n 0, 1) := by decide +kernel
theorem dX5_outcome_1 : decode cX5_outcome 1 = .ok (.tableswitch 190 6 31 #[179, 183, 190, 157, 168, 187, 190, 190, 190, 190, 190, 190, 190, 190, 190, 190, 190, 190, 190, 190, 190, 190, 190, 119, 133, 147], 119) := by decide +kernel
theorem dX5_outcome_120 : decode cX5_outcome 120 = .ok (.iload_n 1, 1) := by decide +kernel
theorem dX5_outcome_121 : decode cX5_outcome 121 = .ok (.ifCond .ne 7, 3) := by decide +kernel
theorem dX5_outcome_124 : decode cX5_outcome 124 = .ok (.iload_n 2, 1) := by decide +kernel
theorem dX5_outcome_125 : decode cX5_outcome 125 = .ok (.ifCond .eq 7, 3) := by decide +kernel
theorem dX5_outcome_128 : decode cX5_outcome 128 = .ok (.iconst 1, 1) := by decide +kernel
theorem dX5_outcome_129 : decode cX5_outcome 129 = .ok (.goto 4, 3) := by decide +kernel
theorem dX5_outcome_132 : decode cX5_outcome 132 = .ok (.iconst 0, 1) := by decide +kernel
theorem dX5_outcome_133 : decode cX5_outcome 133 = .ok (.ireturn, 1) := by decide +kernel
theorem dX5_outcome_134 : decode cX5_outcome 134 = .ok (.iload_n 1, 1) := by decide +kernel
theorem dX5_outcome_135 : decode cX5_outcome 135 = .ok (.ifCond .eq 11, 3) := by decide +kernel
theorem dX5_outcome_138 : decode cX5_outcome 138 = .ok (.iload_n 2, 1) := by decide +kernel
theorem dX5_outcome_139 : decode cX5_outcome 139 = .ok (.ifCond .eq 7, 3) := by decide +kernel
theorem dX5_outcome_142 : decode cX5_outcome 142 = .ok (.iconst 1, 1) := by decide +kernel
theorem dX5_outcome_143 : decode cX5_outcome 143 = .ok (.goto 4, 3) := by decide +kernel
theorem dX5_outcome_146 : decode cX5_outcome 146 = .ok (.iconst 0, 1) := by decide +kernel
theorem dX5_outcome_147 : decode cX5_outcome 147 = .ok (.ireturn, 1) := by decide +kernel
theorem dX5_outcome_148 : decode cX5_outcome 148 = .ok (.iload_n 2, 1) := by decide +kernel
theorem dX5_outcome_149 : decode cX5_outcome 149 = .ok (.ifCond .ne 7, 3) := by decide +kernel
theorem dX5_outcome_152 : decode cX5_outcome 152 = .ok (.iconst 1, 1) := by decide +kernel
theorem dX5_outcome_153 : decode cX5_outcome 153 = .ok (.goto 4, 3) := by decide +kernel
theorem dX5_outcome_156 : decode cX5_outcome 156 = .ok (.iconst 0, 1) := by decide +kernel
theorem dX5_outcome_157 : decode cX5_outcome 157 = .ok (.ireturn, 1) := by decide +kernel
theorem dX5_outcome_158 : decode cX5_outcome 158 = .ok (.iload_n 1, 1) := by decide +kernel
theorem dX5_outcome_159 : decode cX5_outcome 159 = .ok (.iload_n 2, 1) := by decide +kernel
theorem dX5_outcome_160 : decode cX5_outcome 160 = .ok (.if_icmp .ge 7, 3) := by decide +kernel
theorem dX5_outcome_163 : decode cX5_outcome 163 = .ok (.iconst 1, 1) := by decide +kernel
theorem dX5_outcome_164 : decode cX5_outcome 164 = .ok (.goto 4, 3) := by decide +kernel
theorem dX5_outcome_167 : decode cX5_outcome 167 = .ok (.iconst 0, 1) := by decide +kernel
theorem dX5_outcome_168 : decode cX5_outcome 168 = .ok (.ireturn, 1) := by decide +kernel
theorem dX5_outcome_169 : decode cX5_outcome 169 = .ok (.iload_n 1, 1) := by decide +kernel
theorem dX5_outcome_170 : decode cX5_outcome 170 = .ok (.iload_n 2, 1) := by decide +kernel
theorem dX5_outcome_171 : decode cX5_outcome 171 = .ok (.if_icmp .ne 7, 3) := by decide +kernel
theorem dX5_outcome_174 : decode cX5_outcome 174 = .ok (.iconst 1, 1) := by decide +kernel
theorem dX5_outcome_175 : decode cX5_outcome 175 = .ok (.goto 4, 3) := by decide +kernel
theorem dX5_outcome_178 : decode cX5_outcome 178 = .ok (.iconst 0, 1) := by decide +kernel
theorem dX5_outcome_179 : decode cX5_outcome 179 = .ok (.ireturn, 1) := by decide +kernel
theorem dX5_outcome_180 : decode cX5_outcome 180 = .ok (.iload_n 1, 1) := by decide +kernel
theorem dX5_outcome_181 : decode cX5_outcome 181 = .ok (.iload_n 2, 1) := by decide +kernel
theorem dX5_outcome_182 : decode cX5_outcome 182 = .ok (.iadd, 1) := by decide +kernel
theorem dX5_outcome_183 : decode cX5_outcome 183 = .ok (.ireturn, 1) := by decide +kernel
theorem dX5_outcome_184 : decode cX5_outcome 184 = .ok (.iload_n 1, 1) := by decide +kernel
theorem dX5_outcome_185 : decode cX5_outcome 185 = .ok (.iload_n 2, 1) := by decide +kernel
theorem dX5_outcome_186 : decode cX5_outcome 186 = .ok (.isub, 1) := by decide +kernel
theorem dX5_outcome_187 : decode cX5_outcome 187 = .ok (.ireturn, 1) := by decide +kernel
theorem dX5_outcome_188 : decode cX5_outcome 188 = .ok (.iload_n 2, 1) := by decide +kernel
theorem dX5_outcome_189 : decode cX5_outcome 189 = .ok (.ineg, 1) := by decide +kernel
theorem dX5_outcome_190 : decode cX5_outcome 190 = .ok (.ireturn, 1) := by decide +kernel
theorem dX5_outcome_191 : decode cX5_outcome 191 = .ok (.iload_n 1, 1) := by decide +kernel
theorem dX5_outcome_192 : decode cX5_outcome 192 = .ok (.iload_n 2, 1) := by decide +kernel
theorem dX5_outcome_193 : decode cX5_outcome 193 = .ok (.imul, 1) := by decide +kernel
theorem dX5_outcome_194 : decode cX5_outcome 194 = .ok (.ireturn, 1) := by decide +kernel
theorem dX6_init_0 : decode cX6_init 0 = .ok (.aload_n 0, 1) := by decide +kernel
theorem dX6_init_1 : decode cX6_init 1 = .ok (.invokespecial 3, 3) := by decide +kernel
theorem dX6_init_4 : decode cX6_init 4 = .ok (.aload_n 0, 1) := by decide +kernel
theorem dX6_init_5 : decode cX6_init 5 = .ok (.sipush 160, 3) := by decide +kernel
theorem dX6_init_8 : decode cX6_init 8 = .ok (.newarray .int, 2) := by decide +kernel
theorem dX6_init_10 : decode cX6_init 10 = .ok (.putfield 9, 3) := by decide +kernel
theorem dX6_init_13 : decode cX6_init 13 = .ok (.aload_n 0, 1) := by decide +kernel
theorem dX6_init_14 : decode cX6_init 14 = .ok (.iconst 0, 1) := by decide +kernel
theorem dX6_init_15 : decode cX6_init 15 = .ok (.putfield 15, 3) := by decide +kernel
theorem dX6_init_18 : decode cX6_init 18 = .ok (.aload_n 0, 1) := by decide +kernel
theorem dX6_init_19 : decode cX6_init 19 = .ok (.aconst_null, 1) := by decide +kernel
theorem dX6_init_20 : decode cX6_init 20 = .ok (.putfield 19, 3) := by decide +kernel
theorem dX6_init_23 : decode cX6_init 23 = .ok (.aload_n 0, 1) := by decide +kernel
theorem dX6_init_24 : decode cX6_init 24 = .ok (.iconst 0, 1) := by decide +kernel
theorem dX6_init_25 : decode cX6_init 25 = .ok (.putfield 23, 3) := by decide +kernel
theorem dX6_init_28 : decode cX6_init 28 = .ok (.aload_n 0, 1) := by decide +kernel
theorem dX6_init_29 : decode cX6_init 29 = .ok (.iconst 0, 1) := by decide +kernel
theorem dX6_init_30 : decode cX6_init 30 = .ok (.putfield 26, 3) := by decide +kernel
theorem dX6_init_33 : decode cX6_init 33 = .ok (.aload_n 0, 1) := by decide +kernel
theorem dX6_init_34 : decode cX6_init 34 = .ok (.iconst 0, 1) := by decide +kernel
theorem dX6_init_35 : decode cX6_init 35 = .ok (.putfield 29, 3) := by decide +kernel
theorem dX6_init_38 : decode cX6_init 38 = .ok (.aload_n 0, 1) := by decide +kernel
theorem dX6_init_39 : decode cX6_init 39 = .ok (.iconst 0, 1) := by decide +kernel
theorem dX6_init_40 : decode cX6_init 40 = .ok (.putfield 32, 3) := by decide +kernel
theorem dX6_init_43 : decode cX6_init 43 = .ok (.return_, 1) := by decide +kernel
theorem dX6_add_0 : decode cX6_add 0 = .ok (.aload_n 0, 1) := by decide +kernel
theorem dX6_add_1 : decode cX6_add 1 = .ok (.getfield 15, 3) := by decide +kernel
theorem dX6_add_4 : decode cX6_add 4 = .ok (.aload_n 0, 1) := by decide +kernel
theorem dX6_add_5 : decode cX6_add 5 = .ok (.getfield 9, 3) := by decide +kernel
theorem dX6_add_8 : decode cX6_add 8 = .ok (.arraylength, 1) := by decide +kernel
theorem dX6_add_9 : decode cX6_add 9 = .ok (.if_icmp .ge 23, 3) := by decide +kernel
theorem dX6_add_12 : decode cX6_add 12 = .ok (.aload_n 0, 1) := by decide +kernel
theorem dX6_add_13 : decode cX6_add 13 = .ok (.getfield 9, 3) := by decide +kernel
theorem dX6_add_16 : decode cX6_add 16 = .ok (.aload_n 0, 1) := by decide +kernel
theorem dX6_add_17 : decode cX6_add 17 = .ok (.getfield 15, 3) := by decide +kernel
theorem dX6_add_20 : decode cX6_add 20 = .ok (.iload_n 1, 1) := by decide +kernel
theorem dX6_add_21 : decode cX6_add 21 = .ok (.iastore, 1) := by decide +kernel
theorem dX6_add_22 : decode cX6_add 22 = .ok (.aload_n 0, 1) := by decide +kernel
theorem dX6_add_23 : decode cX6_add 23 = .ok (.dup, 1) := by decide +kernel
theorem dX6_add_24 : decode cX6_add 24 = .ok (.getfield 15, 3) := by decide +kernel
theorem dX6_add_27 : decode cX6_add 27 = .ok (.iconst 1, 1) := by decide +kernel
theorem dX6_add_28 : decode cX6_add 28 = .ok (.iadd, 1) := by decide +kernel
theorem dX6_add_29 : decode cX6_add 29 = .ok (.putfield 15, 3) := by decide +kernel
theorem dX6_add_32 : decode cX6_add 32 = .ok (.return_, 1) := by decide +kernel
theorem dX6_empty_0 : decode cX6_empty 0 = .ok (.aload_n 0, 1) := by decide +kernel
theorem dX6_empty_1 : decode cX6_empty 1 = .ok (.iconst 0, 1) := by decide +kernel
theorem dX6_empty_2 : decode cX6_empty 2 = .ok (.putfield 15, 3) := by decide +kernel
theorem dX6_empty_5 : decode cX6_empty 5 = .ok (.return_, 1) := by decide +kernel
theorem dX6_read_0 : decode cX6_read 0 = .ok (.aload_n 0, 1) := by decide +kernel
theorem dX6_read_1 : decode cX6_read 1 = .ok (.aload_n 1, 1) := by decide +kernel
theorem dX6_read_2 : decode cX6_read 2 = .ok (.putfield 19, 3) := by decide +kernel
theorem dX6_read_5 : decode cX6_read 5 = .ok (.aload_n 0, 1) := by decide +kernel
theorem dX6_read_6 : decode cX6_read 6 = .ok (.getfield 19, 3) := by decide +kernel
theorem dX6_read_9 : decode cX6_read 9 = .ok (.invokevirtual 35, 3) := by decide +kernel
theorem dX6_read_12 : decode cX6_read 12 = .ok (.aload_n 0, 1) := by decide +kernel
theorem dX6_read_13 : decode cX6_read 13 = .ok (.iconst 0, 1) := by decide +kernel
theorem dX6_read_14 : decode cX6_read 14 = .ok (.putfield 23, 3) := by decide +kernel
theorem dX6_read_17 : decode cX6_read 17 = .ok (.aload_n 0, 1) := by decide +kernel
theorem dX6_read_18 : decode cX6_read 18 = .ok (.invokevirtual 40, 3) := by decide +kernel
theorem dX6_read_21 : decode cX6_read 21 = .ok (.iconst 0, 1) := by decide +kernel
theorem dX6_read_22 : decode cX6_read 22 = .ok (.istore_n 2, 1) := by decide +kernel
theorem dX6_read_23 : decode cX6_read 23 = .ok (.iload_n 2, 1) := by decide +kernel
theorem dX6_read_24 : decode cX6_read 24 = .ok (.iconst 3, 1) := by decide +kernel
theorem dX6_read_25 : decode cX6_read 25 = .ok (.if_icmp .ge 63, 3) := by decide +kernel
theorem dX6_read_28 : decode cX6_read 28 = .ok (.aload_n 0, 1) := by decide +kernel
theorem dX6_read_29 : decode cX6_read 29 = .ok (.getfield 29, 3) := by decide +kernel
theorem dX6_read_32 : decode cX6_read 32 = .ok (.bipush 26, 2) := by decide +kernel
theorem dX6_read_34 : decode cX6_read 34 = .ok (.iload_n 2, 1) := by decide +kernel
theorem dX6_read_35 : decode cX6_read 35 = .ok (.iadd, 1) := by decide +kernel
theorem dX6_read_36 : decode cX6_read 36 = .ok (.if_icmp .eq 8, 3) := by decide +kernel
theorem dX6_read_39 : decode cX6_read 39 = .ok (.aload_n 0, 1) := by decide +kernel
theorem dX6_read_40 : decode cX6_read 40 = .ok (.getfield 26, 3) := by decide +kernel
theorem dX6_read_43 : decode cX6_read 43 = .ok (.ireturn, 1) := by decide +kernel
theorem dX6_read_44 : decode cX6_read 44 = .ok (.aload_n 0, 1) := by decide +kernel
theorem dX6_read_45 : decode cX6_read 45 = .ok (.invokevirtual 40, 3) := by decide +kernel
theorem dX6_read_48 : decode cX6_read 48 = .ok (.aload_n 0, 1) := by decide +kernel
theorem dX6_read_49 : decode cX6_read 49 = .ok (.iconst 0, 1) := by decide +kernel
theorem dX6_read_50 : decode cX6_read 50 = .ok (.iconst 0, 1) := by decide +kernel
theorem dX6_read_51 : decode cX6_read 51 = .ok (.invokevirtual 43, 3) := by decide +kernel
theorem dX6_read_54 : decode cX6_read 54 = .ok (.ifCond .eq 11, 3) := by decide +kernel
theorem dX6_read_57 : decode cX6_read 57 = .ok (.aload_n 0, 1) := by decide +kernel
theorem dX6_read_58 : decode cX6_read 58 = .ok (.getfield 29, 3) := by decide +kernel
theorem dX6_read_61 : decode cX6_read 61 = .ok (.iconst 5, 1) := by decide +kernel
theorem dX6_read_62 : decode cX6_read 62 = .ok (.if_icmp .eq 8, 3) := by decide +kernel
theorem dX6_read_65 : decode cX6_read 65 = .ok (.aload_n 0, 1) := by decide +kernel
theorem dX6_read_66 : decode cX6_read 66 = .ok (.getfield 26, 3) := by decide +kernel
theorem dX6_read_69 : decode cX6_read 69 = .ok (.ireturn, 1) := by decide +kernel
theorem dX6_read_70 : decode cX6_read 70 = .ok (.aload_n 0, 1) := by decide +kernel
theorem dX6_read_71 : decode cX6_read 71 = .ok (.invokevirtual 40, 3) := by decide +kernel
theorem dX6_read_74 : decode cX6_read 74 = .ok (.aload_n 0, 1) := by decide +kernel
theorem dX6_read_75 : decode cX6_read 75 = .ok (.getfield 19, 3) := by decide +kernel
theorem dX6_read_78 : decode cX6_read 78 = .ok (.iload_n 2, 1) := by decide +kernel
theorem dX6_read_79 : decode cX6_read 79 = .ok (.invokevirtual 47, 3) := by decide +kernel
theorem dX6_read_82 : decode cX6_read 82 = .ok (.iinc 2 1, 3) := by decide +kernel
theorem dX6_read_85 : decode cX6_read 85 = .ok (.goto (-62), 3) := by decide +kernel
theorem dX6_read_88 : decode cX6_read 88 = .ok (.aload_n 0, 1) := by decide +kernel
theorem dX6_read_89 : decode cX6_read 89 = .ok (.getfield 29, 3) := by decide +kernel
theorem dX6_read_92 : decode cX6_read 92 = .ok (.ifCond .ne 7, 3) := by decide +kernel
theorem dX6_read_95 : decode cX6_read 95 = .ok (.iconst (-1), 1) := by decide +kernel
theorem dX6_read_96 : decode cX6_read 96 = .ok (.goto 7, 3) := by decide +kernel
theorem dX6_read_99 : decode cX6_read 99 = .ok (.aload_n 0, 1) := by decide +kernel
theorem dX6_read_100 : decode cX6_read 100 = .ok (.getfield 26, 3) := by decide +kernel
theorem dX6_read_103 : decode cX6_read 103 = .ok (.ireturn, 1) := by decide +kernel
theorem dX6_readFrom_0 : decode cX6_readFrom 0 = .ok (.iload_n 1, 1) := by decide +kernel
theorem dX6_readFrom_1 : decode cX6_readFrom 1 = .ok (.iconst 5, 1) := by decide +kernel
theorem dX6_readFrom_2 : decode cX6_readFrom 2 = .ok (.if_icmp .ne 9, 3) := by decide +kernel
theorem dX6_readFrom_5 : decode cX6_readFrom 5 = .ok (.aload_n 0, 1) := by decide +kernel
theorem dX6_readFrom_6 : decode cX6_readFrom 6 = .ok (.iload_n 2, 1) := by decide +kernel
theorem dX6_readFrom_7 : decode cX6_readFrom 7 = .ok (.invokevirtual 51, 3) := by decide +kernel
theorem dX6_readFrom_10 : decode cX6_readFrom 10 = .ok (.ireturn, 1) := by decide +kernel
theorem dX6_readFrom_11 : decode cX6_readFrom 11 = .ok (.iload_n 1, 1) := by decide +kernel
theorem dX6_readFrom_12 : decode cX6_readFrom 12 = .ok (.iconst 2, 1) := by decide +kernel
theorem dX6_readFrom_13 : decode cX6_readFrom 13 = .ok (.if_icmp .ne 40, 3) := by decide +kernel
theorem dX6_readFrom_16 : decode cX6_readFrom 16 = .ok (.aload_n 0, 1) := by decide +kernel
theorem dX6_readFrom_17 : decode cX6_readFrom 17 = .ok (.getfield 29, 3) := by decide +kernel
theorem dX6_readFrom_20 : decode cX6_readFrom 20 = .ok (.bipush 31, 2) := by decide +kernel
theorem dX6_readFrom_22 : decode cX6_readFrom 22 = .ok (.if_icmp .ne 31, 3) := by decide +kernel
theorem dX6_readFrom_25 : decode cX6_readFrom 25 = .ok (.iload_n 2, 1) := by decide +kernel
theorem dX6_readFrom_26 : decode cX6_readFrom 26 = .ok (.iconst 5, 1) := by decide +kernel
theorem dX6_readFrom_27 : decode cX6_readFrom 27 = .ok (.if_icmp .lt 5, 3) := by decide +kernel
theorem dX6_readFrom_30 : decode cX6_readFrom 30 = .ok (.iconst 0, 1) := by decide +kernel
theorem dX6_readFrom_31 : decode cX6_readFrom 31 = .ok (.ireturn, 1) := by decide +kernel
theorem dX6_readFrom_32 : decode cX6_readFrom 32 = .ok (.aload_n 0, 1) := by decide +kernel
theorem dX6_readFrom_33 : decode cX6_readFrom 33 = .ok (.invokevirtual 40, 3) := by decide +kernel
theorem dX6_readFrom_36 : decode cX6_readFrom 36 = .ok (.aload_n 0, 1) := by decide +kernel
theorem dX6_readFrom_37 : decode cX6_readFrom 37 = .ok (.iconst 2, 1) := by decide +kernel
theorem dX6_readFrom_38 : decode cX6_readFrom 38 = .ok (.iload_n 2, 1) := by decide +kernel
theorem dX6_readFrom_39 : decode cX6_readFrom 39 = .ok (.iconst 1, 1) := by decide +kernel
theorem dX6_readFrom_40 : decode cX6_readFrom 40 = .ok (.iadd, 1) := by decide +kernel
theorem dX6_readFrom_41 : decode cX6_readFrom 41 = .ok (.invokevirtual 43, 3) := by decide +kernel
theorem dX6_readFrom_44 : decode cX6_readFrom 44 = .ok (.istore_n 3, 1) := by decide +kernel
theorem dX6_readFrom_45 : decode cX6_readFrom 45 = .ok (.aload_n 0, 1) := by decide +kernel
theorem dX6_readFrom_46 : decode cX6_readFrom 46 = .ok (.bipush 31, 2) := by decide +kernel
theorem dX6_readFrom_48 : decode cX6_readFrom 48 = .ok (.invokevirtual 55, 3) := by decide +kernel
theorem dX6_readFrom_51 : decode cX6_readFrom 51 = .ok (.iload_n 3, 1) := by decide +kernel
theorem dX6_readFrom_52 : decode cX6_readFrom 52 = .ok (.ireturn, 1) := by decide +kernel
theorem dX6_readFrom_53 : decode cX6_readFrom 53 = .ok (.aload_n 0, 1) := by decide +kernel
theorem dX6_readFrom_54 : decode cX6_readFrom 54 = .ok (.iload_n 1, 1) := by decide +kernel
theorem dX6_readFrom_55 : decode cX6_readFrom 55 = .ok (.iconst 1, 1) := by decide +kernel
theorem dX6_readFrom_56 : decode cX6_readFrom 56 = .ok (.iadd, 1) := by decide +kernel
theorem dX6_readFrom_57 : decode cX6_readFrom 57 = .ok (.iload_n 2, 1) := by decide +kernel
theorem dX6_readFrom_58 : decode cX6_readFrom 58 = .ok (.invokevirtual 43, 3) := by decide +kernel
theorem dX6_readFrom_61 : decode cX6_readFrom 61 = .ok (.istore_n 3, 1) := by decide +kernel
theorem dX6_readFrom_62 : decode cX6_readFrom 62 = .ok (.iload_n 1, 1) := by decide +kernel
theorem dX6_readFrom_63 : decode cX6_readFrom 63 = .ok (.iconst 2, 1) := by decide +kernel
theorem dX6_readFrom_64 : decode cX6_readFrom 64 = .ok (.if_icmp .ne 7, 3) := by decide +kernel
theorem dX6_readFrom_67 : decode cX6_readFrom 67 = .ok (.iconst 1, 1) := by decide +kernel
theorem dX6_readFrom_68 : decode cX6_readFrom 68 = .ok (.goto 6, 3) := by decide +kernel
theorem dX6_readFrom_71 : decode cX6_readFrom 71 = .ok (.sipush 160, 3) := by decide +kernel
theorem dX6_readFrom_74 : decode cX6_readFrom 74 = .ok (.istore 4, 2) := by decide +kernel
theorem dX6_readFrom_76 : decode cX6_readFrom 76 = .ok (.iconst 0, 1) := by decide +kernel
theorem dX6_readFrom_77 : decode cX6_readFrom 77 = .ok (.istore 5, 2) := by decide +kernel
theorem dX6_readFrom_79 : decode cX6_readFrom 79 = .ok (.iload 5, 2) := by decide +kernel
theorem dX6_readFrom_81 : decode cX6_readFrom 81 = .ok (.iload 4, 2) := by decide +kernel
theorem dX6_readFrom_83 : decode cX6_readFrom 83 = .ok (.if_icmp .ge 49, 3) := by decide +kernel
theorem dX6_readFrom_86 : decode cX6_readFrom 86 = .ok (.iload_n 3, 1) := by decide +kernel
theorem dX6_readFrom_87 : decode cX6_readFrom 87 = .ok (.ifCond .eq 45, 3) := by decide +kernel
theorem dX6_readFrom_90 : decode cX6_readFrom 90 = .ok (.aload_n 0, 1) := by decide +kernel
theorem dX6_readFrom_91 : decode cX6_readFrom 91 = .ok (.getfield 29, 3) := by decide +kernel
theorem dX6_readFrom_94 : decode cX6_readFrom 94 = .ok (.iload_n 1, 1) := by decide +kernel
theorem dX6_readFrom_95 : decode cX6_readFrom 95 = .ok (.invokestatic 58, 3) := by decide +kernel
theorem dX6_readFrom_98 : decode cX6_readFrom 98 = .ok (.ifCond .eq 34, 3) := by decide +kernel
theorem dX6_readFrom_101 : decode cX6_readFrom 101 = .ok (.aload_n 0, 1) := by decide +kernel
theorem dX6_readFrom_102 : decode cX6_readFrom 102 = .ok (.getfield 29, 3) := by decide +kernel
theorem dX6_readFrom_105 : decode cX6_readFrom 105 = .ok (.istore 6, 2) := by decide +kernel
theorem dX6_readFrom_107 : decode cX6_readFrom 107 = .ok (.aload_n 0, 1) := by decide +kernel
theorem dX6_readFrom_108 : decode cX6_readFrom 108 = .ok (.invokevirtual 40, 3) := by decide +kernel
theorem dX6_readFrom_111 : decode cX6_readFrom 111 = .ok (.aload_n 0, 1) := by decide +kernel
theorem dX6_readFrom_112 : decode cX6_readFrom 112 = .ok (.iload_n 1, 1) := by decide +kernel
theorem dX6_readFrom_113 : decode cX6_readFrom 113 = .ok (.iconst 1, 1) := by decide +kernel
theorem dX6_readFrom_114 : decode cX6_readFrom 114 = .ok (.iadd, 1) := by decide +kernel
theorem dX6_readFrom_115 : decode cX6_readFrom 115 = .ok (.iload_n 2, 1) := by decide +kernel
theorem dX6_readFrom_116 : decode cX6_readFrom 116 = .ok (.invokevirtual 43, 3) := by decide +kernel
theorem dX6_readFrom_119 : decode cX6_readFrom 119 = .ok (.istore_n 3, 1) := by decide +kernel
theorem dX6_readFrom_120 : decode cX6_readFrom 120 = .ok (.aload_n 0, 1) := by decide +kernel
theorem dX6_readFrom_121 : decode cX6_readFrom 121 = .ok (.iload 6, 2) := by decide +kernel
theorem dX6_readFrom_123 : decode cX6_readFrom 123 = .ok (.invokevirtual 55, 3) := by decide +kernel
theorem dX6_readFrom_126 : decode cX6_readFrom 126 = .ok (.iinc 5 1, 3) := by decide +kernel
theorem dX6_readFrom_129 : decode cX6_readFrom 129 = .ok (.goto (-50), 3) := by decide +kernel
theorem dX6_readFrom_132 : decode cX6_readFrom 132 = .ok (.iload_n 3, 1) := by decide +kernel
theorem dX6_readFrom_133 : decode cX6_readFrom 133 = .ok (.ireturn, 1) := by decide +kernel
theorem dX6_readOne_0 : decode cX6_readOne 0 = .ok (.aload_n 0, 1) := by decide +kernel
theorem dX6_readOne_1 : decode cX6_readOne 1 = .ok (.getfield 29, 3) := by decide +kernel
theorem dX6_readOne_4 : decode cX6_readOne 4 = .ok (.bipush 7, 2) := by decide +kernel
theorem dX6_readOne_6 : decode cX6_readOne 6 = .ok (.if_icmp .ne 7, 3) := by decide +kernel
theorem dX6_readOne_9 : decode cX6_readOne 9 = .ok (.iconst 1, 1) := by decide +kernel
theorem dX6_readOne_10 : decode cX6_readOne 10 = .ok (.goto 4, 3) := by decide +kernel
theorem dX6_readOne_13 : decode cX6_readOne 13 = .ok (.iconst 0, 1) := by decide +kernel
theorem dX6_readOne_14 : decode cX6_readOne 14 = .ok (.istore_n 2, 1) := by decide +kernel
theorem dX6_readOne_15 : decode cX6_readOne 15 = .ok (.iload_n 2, 1) := by decide +kernel
theorem dX6_readOne_16 : decode cX6_readOne 16 = .ok (.ifCond .ne 11, 3) := by decide +kernel
theorem dX6_readOne_19 : decode cX6_readOne 19 = .ok (.aload_n 0, 1) := by decide +kernel
theorem dX6_readOne_20 : decode cX6_readOne 20 = .ok (.getfield 29, 3) := by decide +kernel
theorem dX6_readOne_23 : decode cX6_readOne 23 = .ok (.iconst 3, 1) := by decide +kernel
theorem dX6_readOne_24 : decode cX6_readOne 24 = .ok (.if_icmp .ne 55, 3) := by decide +kernel
theorem dX6_readOne_27 : decode cX6_readOne 27 = .ok (.iload_n 1, 1) := by decide +kernel
theorem dX6_readOne_28 : decode cX6_readOne 28 = .ok (.iconst 5, 1) := by decide +kernel
theorem dX6_readOne_29 : decode cX6_readOne 29 = .ok (.if_icmp .lt 5, 3) := by decide +kernel
theorem dX6_readOne_32 : decode cX6_readOne 32 = .ok (.iconst 0, 1) := by decide +kernel
theorem dX6_readOne_33 : decode cX6_readOne 33 = .ok (.ireturn, 1) := by decide +kernel
theorem dX6_readOne_34 : decode cX6_readOne 34 = .ok (.aload_n 0, 1) := by decide +kernel
theorem dX6_readOne_35 : decode cX6_readOne 35 = .ok (.invokevirtual 40, 3) := by decide +kernel
theorem dX6_readOne_38 : decode cX6_readOne 38 = .ok (.iload_n 2, 1) := by decide +kernel
theorem dX6_readOne_39 : decode cX6_readOne 39 = .ok (.ifCond .eq 19, 3) := by decide +kernel
theorem dX6_readOne_42 : decode cX6_readOne 42 = .ok (.aload_n 0, 1) := by decide +kernel
theorem dX6_readOne_43 : decode cX6_readOne 43 = .ok (.iload_n 1, 1) := by decide +kernel
theorem dX6_readOne_44 : decode cX6_readOne 44 = .ok (.iconst 1, 1) := by decide +kernel
theorem dX6_readOne_45 : decode cX6_readOne 45 = .ok (.iadd, 1) := by decide +kernel
theorem dX6_readOne_46 : decode cX6_readOne 46 = .ok (.invokevirtual 51, 3) := by decide +kernel
theorem dX6_readOne_49 : decode cX6_readOne 49 = .ok (.istore_n 3, 1) := by decide +kernel
theorem dX6_readOne_50 : decode cX6_readOne 50 = .ok (.aload_n 0, 1) := by decide +kernel
theorem dX6_readOne_51 : decode cX6_readOne 51 = .ok (.bipush 11, 2) := by decide +kernel
theorem dX6_readOne_53 : decode cX6_readOne 53 = .ok (.invokevirtual 55, 3) := by decide +kernel
theorem dX6_readOne_56 : decode cX6_readOne 56 = .ok (.iload_n 3, 1) := by decide +kernel
theorem dX6_readOne_57 : decode cX6_readOne 57 = .ok (.ireturn, 1) := by decide +kernel
theorem dX6_readOne_58 : decode cX6_readOne 58 = .ok (.aload_n 0, 1) := by decide +kernel
theorem dX6_readOne_59 : decode cX6_readOne 59 = .ok (.iconst 0, 1) := by decide +kernel
theorem dX6_readOne_60 : decode cX6_readOne 60 = .ok (.iload_n 1, 1) := by decide +kernel
theorem dX6_readOne_61 : decode cX6_readOne 61 = .ok (.iconst 1, 1) := by decide +kernel
theorem dX6_readOne_62 : decode cX6_readOne 62 = .ok (.iadd, 1) := by decide +kernel
theorem dX6_readOne_63 : decode cX6_readOne 63 = .ok (.invokevirtual 43, 3) := by decide +kernel
theorem dX6_readOne_66 : decode cX6_readOne 66 = .ok (.ifCond .eq 11, 3) := by decide +kernel
theorem dX6_readOne_69 : decode cX6_readOne 69 = .ok (.aload_n 0, 1) := by decide +kernel
theorem dX6_readOne_70 : decode cX6_readOne 70 = .ok (.getfield 29, 3) := by decide +kernel
theorem dX6_readOne_73 : decode cX6_readOne 73 = .ok (.iconst 4, 1) := by decide +kernel
theorem dX6_readOne_74 : decode cX6_readOne 74 = .ok (.if_icmp .eq 64, 3) := by decide +kernel
theorem dX6_readOne_77 : decode cX6_readOne 77 = .ok (.iconst 0, 1) := by decide +kernel
theorem dX6_readOne_78 : decode cX6_readOne 78 = .ok (.ireturn, 1) := by decide +kernel
theorem dX6_readOne_79 : decode cX6_readOne 79 = .ok (.aload_n 0, 1) := by decide +kernel
theorem dX6_readOne_80 : decode cX6_readOne 80 = .ok (.getfield 29, 3) := by decide +kernel
theorem dX6_readOne_83 : decode cX6_readOne 83 = .ok (.iconst 2, 1) := by decide +kernel
theorem dX6_readOne_84 : decode cX6_readOne 84 = .ok (.if_icmp .ne 17, 3) := by decide +kernel
theorem dX6_readOne_87 : decode cX6_readOne 87 = .ok (.aload_n 0, 1) := by decide +kernel
theorem dX6_readOne_88 : decode cX6_readOne 88 = .ok (.getfield 19, 3) := by decide +kernel
theorem dX6_readOne_91 : decode cX6_readOne 91 = .ok (.aload_n 0, 1) := by decide +kernel
theorem dX6_readOne_92 : decode cX6_readOne 92 = .ok (.getfield 32, 3) := by decide +kernel
theorem dX6_readOne_95 : decode cX6_readOne 95 = .ok (.invokevirtual 61, 3) := by decide +kernel
theorem dX6_readOne_98 : decode cX6_readOne 98 = .ok (.goto 40, 3) := by decide +kernel
theorem dX6_readOne_101 : decode cX6_readOne 101 = .ok (.aload_n 0, 1) := by decide +kernel
theorem dX6_readOne_102 : decode cX6_readOne 102 = .ok (.getfield 29, 3) := by decide +kernel
theorem dX6_readOne_105 : decode cX6_readOne 105 = .ok (.bipush 20, 2) := by decide +kernel
theorem dX6_readOne_107 : decode cX6_readOne 107 = .ok (.bipush 25, 2) := by decide +kernel
theorem dX6_readOne_109 : decode cX6_readOne 109 = .ok (.invokestatic 64, 3) := by decide +kernel
theorem dX6_readOne_112 : decode cX6_readOne 112 = .ok (.ifCond .eq 24, 3) := by decide +kernel
theorem dX6_readOne_115 : decode cX6_readOne 115 = .ok (.aload_n 0, 1) := by decide +kernel
theorem dX6_readOne_116 : decode cX6_readOne 116 = .ok (.getfield 19, 3) := by decide +kernel
theorem dX6_readOne_119 : decode cX6_readOne 119 = .ok (.sipush 10000, 3) := by decide +kernel
theorem dX6_readOne_122 : decode cX6_readOne 122 = .ok (.aload_n 0, 1) := by decide +kernel
theorem dX6_readOne_123 : decode cX6_readOne 123 = .ok (.getfield 29, 3) := by decide +kernel
theorem dX6_readOne_126 : decode cX6_readOne 126 = .ok (.iadd, 1) := by decide +kernel
theorem dX6_readOne_127 : decode cX6_readOne 127 = .ok (.bipush 20, 2) := by decide +kernel
theorem dX6_readOne_129 : decode cX6_readOne 129 = .ok (.isub, 1) := by decide +kernel
theorem dX6_readOne_130 : decode cX6_readOne 130 = .ok (.invokevirtual 61, 3) := by decide +kernel
theorem dX6_readOne_133 : decode cX6_readOne 133 = .ok (.goto 5, 3) := by decide +kernel
theorem dX6_readOne_136 : decode cX6_readOne 136 = .ok (.iconst 0, 1) := by decide +kernel
theorem dX6_readOne_137 : decode cX6_readOne 137 = .ok (.ireturn, 1) := by decide +kernel
theorem dX6_readOne_138 : decode cX6_readOne 138 = .ok (.aload_n 0, 1) := by decide +kernel
theorem dX6_readOne_139 : decode cX6_readOne 139 = .ok (.invokevirtual 40, 3) := by decide +kernel
theorem dX6_readOne_142 : decode cX6_readOne 142 = .ok (.iconst 1, 1) := by decide +kernel
theorem dX6_readOne_143 : decode cX6_readOne 143 = .ok (.ireturn, 1) := by decide +kernel
theorem dX6_joins_0 : decode cX6_joins 0 = .ok (.iload_n 1, 1) := by decide +kernel
theorem dX6_joins_1 : decode cX6_joins 1 = .ok (.tableswitch 107 0 4 #[35, 47, 59, 77, 95], 35) := by decide +kernel
theorem dX6_joins_36 : decode cX6_joins 36 = .ok (.iload_n 0, 1) := by decide +kernel
theorem dX6_joins_37 : decode cX6_joins 37 = .ok (.bipush 29, 2) := by decide +kernel
theorem dX6_joins_39 : decode cX6_joins 39 = .ok (.if_icmp .ne 7, 3) := by decide +kernel
theorem dX6_joins_42 : decode cX6_joins 42 = .ok (.iconst 1, 1) := by decide +kernel
theorem dX6_joins_43 : decode cX6_joins 43 = .ok (.goto 4, 3) := by decide +kernel
theorem dX6_joins_46 : decode cX6_joins 46 = .ok (.iconst 0, 1) := by decide +kernel
theorem dX6_joins_47 : decode cX6_joins 47 = .ok (.ireturn, 1) := by decide +kernel
theorem dX6_joins_48 : decode cX6_joins 48 = .ok (.iload_n 0, 1) := by decide +kernel
theorem dX6_joins_49 : decode cX6_joins 49 = .ok (.bipush 30, 2) := by decide +kernel
theorem dX6_joins_51 : decode cX6_joins 51 = .ok (.if_icmp .ne 7, 3) := by decide +kernel
theorem dX6_joins_54 : decode cX6_joins 54 = .ok (.iconst 1, 1) := by decide +kernel
theorem dX6_joins_55 : decode cX6_joins 55 = .ok (.goto 4, 3) := by decide +kernel
theorem dX6_joins_58 : decode cX6_joins 58 = .ok (.iconst 0, 1) := by decide +kernel
theorem dX6_joins_59 : decode cX6_joins 59 = .ok (.ireturn, 1) := by decide +kernel
theorem dX6_joins_60 : decode cX6_joins 60 = .ok (.iload_n 0, 1) := by decide +kernel
theorem dX6_joins_61 : decode cX6_joins 61 = .ok (.bipush 9, 2) := by decide +kernel
theorem dX6_joins_63 : decode cX6_joins 63 = .ok (.if_icmp .eq 9, 3) := by decide +kernel
theorem dX6_joins_66 : decode cX6_joins 66 = .ok (.iload_n 0, 1) := by decide +kernel
theorem dX6_joins_67 : decode cX6_joins 67 = .ok (.bipush 10, 2) := by decide +kernel
theorem dX6_joins_69 : decode cX6_joins 69 = .ok (.if_icmp .ne 7, 3) := by decide +kernel
theorem dX6_joins_72 : decode cX6_joins 72 = .ok (.iconst 1, 1) := by decide +kernel
theorem dX6_joins_73 : decode cX6_joins 73 = .ok (.goto 4, 3) := by decide +kernel
theorem dX6_joins_76 : decode cX6_joins 76 = .ok (.iconst 0, 1) := by decide +kernel
theorem dX6_joins_77 : decode cX6_joins 77 = .ok (.ireturn, 1) := by decide +kernel
theorem dX6_joins_78 : decode cX6_joins 78 = .ok (.iload_n 0, 1) := by decide +kernel
theorem dX6_joins_79 : decode cX6_joins 79 = .ok (.bipush 6, 2) := by decide +kernel
theorem dX6_joins_81 : decode cX6_joins 81 = .ok (.if_icmp .eq 9, 3) := by decide +kernel
theorem dX6_joins_84 : decode cX6_joins 84 = .ok (.iload_n 0, 1) := by decide +kernel
theorem dX6_joins_85 : decode cX6_joins 85 = .ok (.bipush 7, 2) := by decide +kernel
theorem dX6_joins_87 : decode cX6_joins 87 = .ok (.if_icmp .ne 7, 3) := by decide +kernel
theorem dX6_joins_90 : decode cX6_joins 90 = .ok (.iconst 1, 1) := by decide +kernel
theorem dX6_joins_91 : decode cX6_joins 91 = .ok (.goto 4, 3) := by decide +kernel
theorem dX6_joins_94 : decode cX6_joins 94 = .ok (.iconst 0, 1) := by decide +kernel
theorem dX6_joins_95 : decode cX6_joins 95 = .ok (.ireturn, 1) := by decide +kernel
theorem dX6_joins_96 : decode cX6_joins 96 = .ok (.iload_n 0, 1) := by decide +kernel
theorem dX6_joins_97 : decode cX6_joins 97 = .ok (.bipush 8, 2) := by decide +kernel
theorem dX6_joins_99 : decode cX6_joins 99 = .ok (.if_icmp .ne 7, 3) := by decide +kernel
theorem dX6_joins_102 : decode cX6_joins 102 = .ok (.iconst 1, 1) := by decide +kernel
theorem dX6_joins_103 : decode cX6_joins 103 = .ok (.goto 4, 3) := by decide +kernel
theorem dX6_joins_106 : decode cX6_joins 106 = .ok (.iconst 0, 1) := by decide +kernel
theorem dX6_joins_107 : decode cX6_joins 107 = .ok (.ireturn, 1) := by decide +kernel
theorem dX6_joins_108 : decode cX6_joins 108 = .ok (.iconst 0, 1) := by decide +kernel
theorem dX6_joins_109 : decode cX6_joins 109 = .ok (.ireturn, 1) := by decide +kernel
theorem dX6_emit_0 : decode cX6_emit 0 = .ok (.aload_n 0, 1) := by decide +kernel
theorem dX6_emit_1 : decode cX6_emit 1 = .ok (.getfield 19, 3) := by decide +kernel
theorem dX6_emit_4 : decode cX6_emit 4 = .ok (.sipush 20000, 3) := by decide +kernel
theorem dX6_emit_7 : decode cX6_emit 7 = .ok (.iload_n 1, 1) := by decide +kernel
theorem dX6_emit_8 : decode cX6_emit 8 = .ok (.iadd, 1) := by decide +kernel
theorem dX6_emit_9 : decode cX6_emit 9 = .ok (.invokevirtual 61, 3) := by decide +kernel
theorem dX6_emit_12 : decode cX6_emit 12 = .ok (.return_, 1) := by decide +kernel
theorem dX6_byteAt_0 : decode cX6_byteAt 0 = .ok (.iload_n 1, 1) := by decide +kernel
theorem dX6_byteAt_1 : decode cX6_byteAt 1 = .ok (.ifCond .lt 29, 3) := by decide +kernel
theorem dX6_byteAt_4 : decode cX6_byteAt 4 = .ok (.iload_n 1, 1) := by decide +kernel
theorem dX6_byteAt_5 : decode cX6_byteAt 5 = .ok (.aload_n 0, 1) := by decide +kernel
theorem dX6_byteAt_6 : decode cX6_byteAt 6 = .ok (.getfield 15, 3) := by decide +kernel
theorem dX6_byteAt_9 : decode cX6_byteAt 9 = .ok (.if_icmp .ge 21, 3) := by decide +kernel
theorem dX6_byteAt_12 : decode cX6_byteAt 12 = .ok (.iload_n 1, 1) := by decide +kernel
theorem dX6_byteAt_13 : decode cX6_byteAt 13 = .ok (.aload_n 0, 1) := by decide +kernel
theorem dX6_byteAt_14 : decode cX6_byteAt 14 = .ok (.getfield 9, 3) := by decide +kernel
theorem dX6_byteAt_17 : decode cX6_byteAt 17 = .ok (.arraylength, 1) := by decide +kernel
theorem dX6_byteAt_18 : decode cX6_byteAt 18 = .ok (.if_icmp .ge 12, 3) := by decide +kernel
theorem dX6_byteAt_21 : decode cX6_byteAt 21 = .ok (.aload_n 0, 1) := by decide +kernel
theorem dX6_byteAt_22 : decode cX6_byteAt 22 = .ok (.getfield 9, 3) := by decide +kernel
theorem dX6_byteAt_25 : decode cX6_byteAt 25 = .ok (.iload_n 1, 1) := by decide +kernel
theorem dX6_byteAt_26 : decode cX6_byteAt 26 = .ok (.iaload, 1) := by decide +kernel
theorem dX6_byteAt_27 : decode cX6_byteAt 27 = .ok (.goto 4, 3) := by decide +kernel
theorem dX6_byteAt_30 : decode cX6_byteAt 30 = .ok (.iconst (-1), 1) := by decide +kernel
theorem dX6_byteAt_31 : decode cX6_byteAt 31 = .ok (.ireturn, 1) := by decide +kernel
theorem dX6_advance_0 : decode cX6_advance 0 = .ok (.iconst 0, 1) := by decide +kernel
theorem dX6_advance_1 : decode cX6_advance 1 = .ok (.istore_n 1, 1) := by decide +kernel
theorem dX6_advance_2 : decode cX6_advance 2 = .ok (.iload_n 1, 1) := by decide +kernel
theorem dX6_advance_3 : decode cX6_advance 3 = .ok (.sipush 160, 3) := by decide +kernel
theorem dX6_advance_6 : decode cX6_advance 6 = .ok (.if_icmp .ge 45, 3) := by decide +kernel
theorem dX6_advance_9 : decode cX6_advance 9 = .ok (.aload_n 0, 1) := by decide +kernel
theorem dX6_advance_10 : decode cX6_advance 10 = .ok (.aload_n 0, 1) := by decide +kernel
theorem dX6_advance_11 : decode cX6_advance 11 = .ok (.getfield 23, 3) := by decide +kernel
theorem dX6_advance_14 : decode cX6_advance 14 = .ok (.invokevirtual 68, 3) := by decide +kernel
theorem dX6_advance_17 : decode cX6_advance 17 = .ok (.bipush 32, 2) := by decide +kernel
theorem dX6_advance_19 : decode cX6_advance 19 = .ok (.if_icmp .eq 16, 3) := by decide +kernel
theorem dX6_advance_22 : decode cX6_advance 22 = .ok (.aload_n 0, 1) := by decide +kernel
theorem dX6_advance_23 : decode cX6_advance 23 = .ok (.aload_n 0, 1) := by decide +kernel
theorem dX6_advance_24 : decode cX6_advance 24 = .ok (.getfield 23, 3) := by decide +kernel
theorem dX6_advance_27 : decode cX6_advance 27 = .ok (.invokevirtual 68, 3) := by decide +kernel
theorem dX6_advance_30 : decode cX6_advance 30 = .ok (.bipush 10, 2) := by decide +kernel
theorem dX6_advance_32 : decode cX6_advance 32 = .ok (.if_icmp .ne 19, 3) := by decide +kernel
theorem dX6_advance_35 : decode cX6_advance 35 = .ok (.aload_n 0, 1) := by decide +kernel
theorem dX6_advance_36 : decode cX6_advance 36 = .ok (.dup, 1) := by decide +kernel
theorem dX6_advance_37 : decode cX6_advance 37 = .ok (.getfield 23, 3) := by decide +kernel
theorem dX6_advance_40 : decode cX6_advance 40 = .ok (.iconst 1, 1) := by decide +kernel
theorem dX6_advance_41 : decode cX6_advance 41 = .ok (.iadd, 1) := by decide +kernel
theorem dX6_advance_42 : decode cX6_advance 42 = .ok (.putfield 23, 3) := by decide +kernel
theorem dX6_advance_45 : decode cX6_advance 45 = .ok (.iinc 1 1, 3) := by decide +kernel
theorem dX6_advance_48 : decode cX6_advance 48 = .ok (.goto (-46), 3) := by decide +kernel
theorem dX6_advance_51 : decode cX6_advance 51 = .ok (.aload_n 0, 1) := by decide +kernel
theorem dX6_advance_52 : decode cX6_advance 52 = .ok (.aload_n 0, 1) := by decide +kernel
theorem dX6_advance_53 : decode cX6_advance 53 = .ok (.getfield 23, 3) := by decide +kernel
theorem dX6_advance_56 : decode cX6_advance 56 = .ok (.putfield 26, 3) := by decide +kernel
theorem dX6_advance_59 : decode cX6_advance 59 = .ok (.aload_n 0, 1) := by decide +kernel
theorem dX6_advance_60 : decode cX6_advance 60 = .ok (.aload_n 0, 1) := by decide +kernel
theorem dX6_advance_61 : decode cX6_advance 61 = .ok (.getfield 23, 3) := by decide +kernel
theorem dX6_advance_64 : decode cX6_advance 64 = .ok (.invokevirtual 68, 3) := by decide +kernel
theorem dX6_advance_67 : decode cX6_advance 67 = .ok (.istore_n 1, 1) := by decide +kernel
theorem dX6_advance_68 : decode cX6_advance 68 = .ok (.iload_n 1, 1) := by decide +kernel
theorem dX6_advance_69 : decode cX6_advance 69 = .ok (.iconst (-1), 1) := by decide +kernel
theorem dX6_advance_70 : decode cX6_advance 70 = .ok (.if_icmp .ne 11, 3) := by decide +kernel
theorem dX6_advance_73 : decode cX6_advance 73 = .ok (.aload_n 0, 1) := by decide +kernel
theorem dX6_advance_74 : decode cX6_advance 74 = .ok (.iconst 0, 1) := by decide +kernel
theorem dX6_advance_75 : decode cX6_advance 75 = .ok (.putfield 29, 3) := by decide +kernel
theorem dX6_advance_78 : decode cX6_advance 78 = .ok (.goto 49, 3) := by decide +kernel
theorem dX6_advance_81 : decode cX6_advance 81 = .ok (.iload_n 1, 1) := by decide +kernel
theorem dX6_advance_82 : decode cX6_advance 82 = .ok (.invokestatic 72, 3) := by decide +kernel
theorem dX6_advance_85 : decode cX6_advance 85 = .ok (.ifCond .eq 10, 3) := by decide +kernel
theorem dX6_advance_88 : decode cX6_advance 88 = .ok (.aload_n 0, 1) := by decide +kernel
theorem dX6_advance_89 : decode cX6_advance 89 = .ok (.invokevirtual 75, 3) := by decide +kernel
theorem dX6_advance_92 : decode cX6_advance 92 = .ok (.goto 35, 3) := by decide +kernel
theorem dX6_advance_95 : decode cX6_advance 95 = .ok (.iload_n 1, 1) := by decide +kernel
theorem dX6_advance_96 : decode cX6_advance 96 = .ok (.invokestatic 78, 3) := by decide +kernel
theorem dX6_advance_99 : decode cX6_advance 99 = .ok (.ifCond .eq 10, 3) := by decide +kernel
theorem dX6_advance_102 : decode cX6_advance 102 = .ok (.aload_n 0, 1) := by decide +kernel
theorem dX6_advance_103 : decode cX6_advance 103 = .ok (.invokevirtual 81, 3) := by decide +kernel
theorem dX6_advance_106 : decode cX6_advance 106 = .ok (.goto 21, 3) := by decide +kernel
theorem dX6_advance_109 : decode cX6_advance 109 = .ok (.aload_n 0, 1) := by decide +kernel
theorem dX6_advance_110 : decode cX6_advance 110 = .ok (.iload_n 1, 1) := by decide +kernel
theorem dX6_advance_111 : decode cX6_advance 111 = .ok (.invokestatic 84, 3) := by decide +kernel
theorem dX6_advance_114 : decode cX6_advance 114 = .ok (.putfield 29, 3) := by decide +kernel
theorem dX6_advance_117 : decode cX6_advance 117 = .ok (.aload_n 0, 1) := by decide +kernel
theorem dX6_advance_118 : decode cX6_advance 118 = .ok (.dup, 1) := by decide +kernel
theorem dX6_advance_119 : decode cX6_advance 119 = .ok (.getfield 23, 3) := by decide +kernel
theorem dX6_advance_122 : decode cX6_advance 122 = .ok (.iconst 1, 1) := by decide +kernel
theorem dX6_advance_123 : decode cX6_advance 123 = .ok (.iadd, 1) := by decide +kernel
theorem dX6_advance_124 : decode cX6_advance 124 = .ok (.putfield 23, 3) := by decide +kernel
theorem dX6_advance_127 : decode cX6_advance 127 = .ok (.return_, 1) := by decide +kernel
theorem dX6_readNumber_0 : decode cX6_readNumber 0 = .ok (.aload_n 0, 1) := by decide +kernel
theorem dX6_readNumber_1 : decode cX6_readNumber 1 = .ok (.iconst 0, 1) := by decide +kernel
theorem dX6_readNumber_2 : decode cX6_readNumber 2 = .ok (.putfield 32, 3) := by decide +kernel
theorem dX6_readNumber_5 : decode cX6_readNumber 5 = .ok (.iconst 0, 1) := by decide +kernel
theorem dX6_readNumber_6 : decode cX6_readNumber 6 = .ok (.istore_n 1, 1) := by decide +kernel
theorem dX6_readNumber_7 : decode cX6_readNumber 7 = .ok (.iload_n 1, 1) := by decide +kernel
theorem dX6_readNumber_8 : decode cX6_readNumber 8 = .ok (.sipush 160, 3) := by decide +kernel
theorem dX6_readNumber_11 : decode cX6_readNumber 11 = .ok (.if_icmp .ge 68, 3) := by decide +kernel
theorem dX6_readNumber_14 : decode cX6_readNumber 14 = .ok (.aload_n 0, 1) := by decide +kernel
theorem dX6_readNumber_15 : decode cX6_readNumber 15 = .ok (.aload_n 0, 1) := by decide +kernel
theorem dX6_readNumber_16 : decode cX6_readNumber 16 = .ok (.getfield 23, 3) := by decide +kernel
theorem dX6_readNumber_19 : decode cX6_readNumber 19 = .ok (.invokevirtual 68, 3) := by decide +kernel
theorem dX6_readNumber_22 : decode cX6_readNumber 22 = .ok (.invokestatic 72, 3) := by decide +kernel
theorem dX6_readNumber_25 : decode cX6_readNumber 25 = .ok (.ifCond .eq 54, 3) := by decide +kernel
theorem dX6_readNumber_28 : decode cX6_readNumber 28 = .ok (.aload_n 0, 1) := by decide +kernel
theorem dX6_readNumber_29 : decode cX6_readNumber 29 = .ok (.iload_n 1, 1) := by decide +kernel
theorem dX6_readNumber_30 : decode cX6_readNumber 30 = .ok (.iconst 4, 1) := by decide +kernel
theorem dX6_readNumber_31 : decode cX6_readNumber 31 = .ok (.if_icmp .ge 25, 3) := by decide +kernel
theorem dX6_readNumber_34 : decode cX6_readNumber 34 = .ok (.bipush 10, 2) := by decide +kernel
theorem dX6_readNumber_36 : decode cX6_readNumber 36 = .ok (.aload_n 0, 1) := by decide +kernel
theorem dX6_readNumber_37 : decode cX6_readNumber 37 = .ok (.getfield 32, 3) := by decide +kernel
theorem dX6_readNumber_40 : decode cX6_readNumber 40 = .ok (.imul, 1) := by decide +kernel
theorem dX6_readNumber_41 : decode cX6_readNumber 41 = .ok (.aload_n 0, 1) := by decide +kernel
theorem dX6_readNumber_42 : decode cX6_readNumber 42 = .ok (.aload_n 0, 1) := by decide +kernel
theorem dX6_readNumber_43 : decode cX6_readNumber 43 = .ok (.getfield 23, 3) := by decide +kernel
theorem dX6_readNumber_46 : decode cX6_readNumber 46 = .ok (.invokevirtual 68, 3) := by decide +kernel
theorem dX6_readNumber_49 : decode cX6_readNumber 49 = .ok (.iadd, 1) := by decide +kernel
theorem dX6_readNumber_50 : decode cX6_readNumber 50 = .ok (.bipush 48, 2) := by decide +kernel
theorem dX6_readNumber_52 : decode cX6_readNumber 52 = .ok (.isub, 1) := by decide +kernel
theorem dX6_readNumber_53 : decode cX6_readNumber 53 = .ok (.goto 7, 3) := by decide +kernel
theorem dX6_readNumber_56 : decode cX6_readNumber 56 = .ok (.aload_n 0, 1) := by decide +kernel
theorem dX6_readNumber_57 : decode cX6_readNumber 57 = .ok (.getfield 32, 3) := by decide +kernel
theorem dX6_readNumber_60 : decode cX6_readNumber 60 = .ok (.putfield 32, 3) := by decide +kernel
theorem dX6_readNumber_63 : decode cX6_readNumber 63 = .ok (.aload_n 0, 1) := by decide +kernel
theorem dX6_readNumber_64 : decode cX6_readNumber 64 = .ok (.dup, 1) := by decide +kernel
theorem dX6_readNumber_65 : decode cX6_readNumber 65 = .ok (.getfield 23, 3) := by decide +kernel
theorem dX6_readNumber_68 : decode cX6_readNumber 68 = .ok (.iconst 1, 1) := by decide +kernel
theorem dX6_readNumber_69 : decode cX6_readNumber 69 = .ok (.iadd, 1) := by decide +kernel
theorem dX6_readNumber_70 : decode cX6_readNumber 70 = .ok (.putfield 23, 3) := by decide +kernel
theorem dX6_readNumber_73 : decode cX6_readNumber 73 = .ok (.iinc 1 1, 3) := by decide +kernel
theorem dX6_readNumber_76 : decode cX6_readNumber 76 = .ok (.goto (-69), 3) := by decide +kernel
theorem dX6_readNumber_79 : decode cX6_readNumber 79 = .ok (.aload_n 0, 1) := by decide +kernel
theorem dX6_readNumber_80 : decode cX6_readNumber 80 = .ok (.aload_n 0, 1) := by decide +kernel
theorem dX6_readNumber_81 : decode cX6_readNumber 81 = .ok (.getfield 23, 3) := by decide +kernel
theorem dX6_readNumber_84 : decode cX6_readNumber 84 = .ok (.aload_n 0, 1) := by decide +kernel
theorem dX6_readNumber_85 : decode cX6_readNumber 85 = .ok (.getfield 26, 3) := by decide +kernel
theorem dX6_readNumber_88 : decode cX6_readNumber 88 = .ok (.isub, 1) := by decide +kernel
theorem dX6_readNumber_89 : decode cX6_readNumber 89 = .ok (.iconst 4, 1) := by decide +kernel
theorem dX6_readNumber_90 : decode cX6_readNumber 90 = .ok (.if_icmp .le 7, 3) := by decide +kernel
theorem dX6_readNumber_93 : decode cX6_readNumber 93 = .ok (.iconst 1, 1) := by decide +kernel
theorem dX6_readNumber_94 : decode cX6_readNumber 94 = .ok (.goto 4, 3) := by decide +kernel
theorem dX6_readNumber_97 : decode cX6_readNumber 97 = .ok (.iconst 2, 1) := by decide +kernel
theorem dX6_readNumber_98 : decode cX6_readNumber 98 = .ok (.putfield 29, 3) := by decide +kernel
theorem dX6_readNumber_101 : decode cX6_readNumber 101 = .ok (.return_, 1) := by decide +kernel
theorem dX6_readWord_0 : decode cX6_readWord 0 = .ok (.iconst 0, 1) := by decide +kernel
theorem dX6_readWord_1 : decode cX6_readWord 1 = .ok (.istore_n 1, 1) := by decide +kernel
theorem dX6_readWord_2 : decode cX6_readWord 2 = .ok (.iload_n 1, 1) := by decide +kernel
theorem dX6_readWord_3 : decode cX6_readWord 3 = .ok (.sipush 160, 3) := by decide +kernel
theorem dX6_readWord_6 : decode cX6_readWord 6 = .ok (.if_icmp .ge 33, 3) := by decide +kernel
theorem dX6_readWord_9 : decode cX6_readWord 9 = .ok (.aload_n 0, 1) := by decide +kernel
theorem dX6_readWord_10 : decode cX6_readWord 10 = .ok (.aload_n 0, 1) := by decide +kernel
theorem dX6_readWord_11 : decode cX6_readWord 11 = .ok (.getfield 23, 3) := by decide +kernel
theorem dX6_readWord_14 : decode cX6_readWord 14 = .ok (.invokevirtual 68, 3) := by decide +kernel
theorem dX6_readWord_17 : decode cX6_readWord 17 = .ok (.invokestatic 78, 3) := by decide +kernel
theorem dX6_readWord_20 : decode cX6_readWord 20 = .ok (.ifCond .eq 19, 3) := by decide +kernel
theorem dX6_readWord_23 : decode cX6_readWord 23 = .ok (.aload_n 0, 1) := by decide +kernel
theorem dX6_readWord_24 : decode cX6_readWord 24 = .ok (.dup, 1) := by decide +kernel
theorem dX6_readWord_25 : decode cX6_readWord 25 = .ok (.getfield 23, 3) := by decide +kernel
theorem dX6_readWord_28 : decode cX6_readWord 28 = .ok (.iconst 1, 1) := by decide +kernel
theorem dX6_readWord_29 : decode cX6_readWord 29 = .ok (.iadd, 1) := by decide +kernel
theorem dX6_readWord_30 : decode cX6_readWord 30 = .ok (.putfield 23, 3) := by decide +kernel
theorem dX6_readWord_33 : decode cX6_readWord 33 = .ok (.iinc 1 1, 3) := by decide +kernel
theorem dX6_readWord_36 : decode cX6_readWord 36 = .ok (.goto (-34), 3) := by decide +kernel
theorem dX6_readWord_39 : decode cX6_readWord 39 = .ok (.aload_n 0, 1) := by decide +kernel
theorem dX6_readWord_40 : decode cX6_readWord 40 = .ok (.iconst 1, 1) := by decide +kernel
theorem dX6_readWord_41 : decode cX6_readWord 41 = .ok (.putfield 29, 3) := by decide +kernel
theorem dX6_readWord_44 : decode cX6_readWord 44 = .ok (.iconst 0, 1) := by decide +kernel
theorem dX6_readWord_45 : decode cX6_readWord 45 = .ok (.istore_n 1, 1) := by decide +kernel
theorem dX6_readWord_46 : decode cX6_readWord 46 = .ok (.iload_n 1, 1) := by decide +kernel
theorem dX6_readWord_47 : decode cX6_readWord 47 = .ok (.bipush 12, 2) := by decide +kernel
theorem dX6_readWord_49 : decode cX6_readWord 49 = .ok (.if_icmp .ge 28, 3) := by decide +kernel
theorem dX6_readWord_52 : decode cX6_readWord 52 = .ok (.aload_n 0, 1) := by decide +kernel
theorem dX6_readWord_53 : decode cX6_readWord 53 = .ok (.iload_n 1, 1) := by decide +kernel
theorem dX6_readWord_54 : decode cX6_readWord 54 = .ok (.invokestatic 87, 3) := by decide +kernel
theorem dX6_readWord_57 : decode cX6_readWord 57 = .ok (.invokevirtual 91, 3) := by decide +kernel
theorem dX6_readWord_60 : decode cX6_readWord 60 = .ok (.ifCond .eq 11, 3) := by decide +kernel
theorem dX6_readWord_63 : decode cX6_readWord 63 = .ok (.aload_n 0, 1) := by decide +kernel
theorem dX6_readWord_64 : decode cX6_readWord 64 = .ok (.bipush 20, 2) := by decide +kernel
theorem dX6_readWord_66 : decode cX6_readWord 66 = .ok (.iload_n 1, 1) := by decide +kernel
theorem dX6_readWord_67 : decode cX6_readWord 67 = .ok (.iadd, 1) := by decide +kernel
theorem dX6_readWord_68 : decode cX6_readWord 68 = .ok (.putfield 29, 3) := by decide +kernel
theorem dX6_readWord_71 : decode cX6_readWord 71 = .ok (.iinc 1 1, 3) := by decide +kernel
theorem dX6_readWord_74 : decode cX6_readWord 74 = .ok (.goto (-28), 3) := by decide +kernel
theorem dX6_readWord_77 : decode cX6_readWord 77 = .ok (.return_, 1) := by decide +kernel
theorem dX6_stands_0 : decode cX6_stands 0 = .ok (.aload_n 1, 1) := by decide +kernel
theorem dX6_stands_1 : decode cX6_stands 1 = .ok (.invokevirtual 95, 3) := by decide +kernel
theorem dX6_stands_4 : decode cX6_stands 4 = .ok (.aload_n 0, 1) := by decide +kernel
theorem dX6_stands_5 : decode cX6_stands 5 = .ok (.getfield 23, 3) := by decide +kernel
theorem dX6_stands_8 : decode cX6_stands 8 = .ok (.aload_n 0, 1) := by decide +kernel
theorem dX6_stands_9 : decode cX6_stands 9 = .ok (.getfield 26, 3) := by decide +kernel
theorem dX6_stands_12 : decode cX6_stands 12 = .ok (.isub, 1) := by decide +kernel
theorem dX6_stands_13 : decode cX6_stands 13 = .ok (.if_icmp .eq 5, 3) := by decide +kernel
theorem dX6_stands_16 : decode cX6_stands 16 = .ok (.iconst 0, 1) := by decide +kernel
theorem dX6_stands_17 : decode cX6_stands 17 = .ok (.ireturn, 1) := by decide +kernel
theorem dX6_stands_18 : decode cX6_stands 18 = .ok (.iconst 0, 1) := by decide +kernel
theorem dX6_stands_19 : decode cX6_stands 19 = .ok (.istore_n 2, 1) := by decide +kernel
theorem dX6_stands_20 : decode cX6_stands 20 = .ok (.iload_n 2, 1) := by decide +kernel
theorem dX6_stands_21 : decode cX6_stands 21 = .ok (.aload_n 1, 1) := by decide +kernel
theorem dX6_stands_22 : decode cX6_stands 22 = .ok (.invokevirtual 95, 3) := by decide +kernel
theorem dX6_stands_25 : decode cX6_stands 25 = .ok (.if_icmp .ge 29, 3) := by decide +kernel
theorem dX6_stands_28 : decode cX6_stands 28 = .ok (.aload_n 1, 1) := by decide +kernel
theorem dX6_stands_29 : decode cX6_stands 29 = .ok (.iload_n 2, 1) := by decide +kernel
theorem dX6_stands_30 : decode cX6_stands 30 = .ok (.invokevirtual 101, 3) := by decide +kernel
theorem dX6_stands_33 : decode cX6_stands 33 = .ok (.aload_n 0, 1) := by decide +kernel
theorem dX6_stands_34 : decode cX6_stands 34 = .ok (.aload_n 0, 1) := by decide +kernel
theorem dX6_stands_35 : decode cX6_stands 35 = .ok (.getfield 26, 3) := by decide +kernel
theorem dX6_stands_38 : decode cX6_stands 38 = .ok (.iload_n 2, 1) := by decide +kernel
theorem dX6_stands_39 : decode cX6_stands 39 = .ok (.iadd, 1) := by decide +kernel
theorem dX6_stands_40 : decode cX6_stands 40 = .ok (.invokevirtual 68, 3) := by decide +kernel
theorem dX6_stands_43 : decode cX6_stands 43 = .ok (.if_icmp .eq 5, 3) := by decide +kernel
theorem dX6_stands_46 : decode cX6_stands 46 = .ok (.iconst 0, 1) := by decide +kernel
theorem dX6_stands_47 : decode cX6_stands 47 = .ok (.ireturn, 1) := by decide +kernel
theorem dX6_stands_48 : decode cX6_stands 48 = .ok (.iinc 2 1, 3) := by decide +kernel
theorem dX6_stands_51 : decode cX6_stands 51 = .ok (.goto (-31), 3) := by decide +kernel
theorem dX6_stands_54 : decode cX6_stands 54 = .ok (.iconst 1, 1) := by decide +kernel
theorem dX6_stands_55 : decode cX6_stands 55 = .ok (.ireturn, 1) := by decide +kernel
theorem dX6_isDigit_0 : decode cX6_isDigit 0 = .ok (.iload_n 0, 1) := by decide +kernel
theorem dX6_isDigit_1 : decode cX6_isDigit 1 = .ok (.bipush 48, 2) := by decide +kernel
theorem dX6_isDigit_3 : decode cX6_isDigit 3 = .ok (.bipush 57, 2) := by decide +kernel
theorem dX6_isDigit_5 : decode cX6_isDigit 5 = .ok (.invokestatic 64, 3) := by decide +kernel
theorem dX6_isDigit_8 : decode cX6_isDigit 8 = .ok (.ireturn, 1) := by decide +kernel
theorem dX6_isLetter_0 : decode cX6_isLetter 0 = .ok (.iload_n 0, 1) := by decide +kernel
theorem dX6_isLetter_1 : decode cX6_isLetter 1 = .ok (.bipush 97, 2) := by decide +kernel
theorem dX6_isLetter_3 : decode cX6_isLetter 3 = .ok (.bipush 122, 2) := by decide +kernel
theorem dX6_isLetter_5 : decode cX6_isLetter 5 = .ok (.invokestatic 64, 3) := by decide +kernel
theorem dX6_isLetter_8 : decode cX6_isLetter 8 = .ok (.ireturn, 1) := by decide +kernel
theorem dX6_signOf_0 : decode cX6_signOf 0 = .ok (.iload_n 0, 1) := by decide +kernel
theorem dX6_signOf_1 : decode cX6_signOf 1 = .ok (.tableswitch 124 40 61 #[103, 105, 115, 109, 124, 112, 124, 124, 124, 124, 124, 124, 124, 124, 124, 124, 124, 124, 124, 107, 118, 121], 103) := by decide +kernel
theorem dX6_signOf_104 : decode cX6_signOf 104 = .ok (.iconst 3, 1) := by decide +kernel
theorem dX6_signOf_105 : decode cX6_signOf 105 = .ok (.ireturn, 1) := by decide +kernel
theorem dX6_signOf_106 : decode cX6_signOf 106 = .ok (.iconst 4, 1) := by decide +kernel
theorem dX6_signOf_107 : decode cX6_signOf 107 = .ok (.ireturn, 1) := by decide +kernel
theorem dX6_signOf_108 : decode cX6_signOf 108 = .ok (.iconst 5, 1) := by decide +kernel
theorem dX6_signOf_109 : decode cX6_signOf 109 = .ok (.ireturn, 1) := by decide +kernel
theorem dX6_signOf_110 : decode cX6_signOf 110 = .ok (.bipush 6, 2) := by decide +kernel
theorem dX6_signOf_112 : decode cX6_signOf 112 = .ok (.ireturn, 1) := by decide +kernel
theorem dX6_signOf_113 : decode cX6_signOf 113 = .ok (.bipush 7, 2) := by decide +kernel
theorem dX6_signOf_115 : decode cX6_signOf 115 = .ok (.ireturn, 1) := by decide +kernel
theorem dX6_signOf_116 : decode cX6_signOf 116 = .ok (.bipush 8, 2) := by decide +kernel
theorem dX6_signOf_118 : decode cX6_signOf 118 = .ok (.ireturn, 1) := by decide +kernel
theorem dX6_signOf_119 : decode cX6_signOf 119 = .ok (.bipush 9, 2) := by decide +kernel
theorem dX6_signOf_121 : decode cX6_signOf 121 = .ok (.ireturn, 1) := by decide +kernel
theorem dX6_signOf_122 : decode cX6_signOf 122 = .ok (.bipush 10, 2) := by decide +kernel
theorem dX6_signOf_124 : decode cX6_signOf 124 = .ok (.ireturn, 1) := by decide +kernel
theorem dX6_signOf_125 : decode cX6_signOf 125 = .ok (.iconst 1, 1) := by decide +kernel
theorem dX6_signOf_126 : decode cX6_signOf 126 = .ok (.ireturn, 1) := by decide +kernel
theorem dX6_word_0 : decode cX6_word 0 = .ok (.iload_n 0, 1) := by decide +kernel
theorem dX6_word_1 : decode cX6_word 1 = .ok (.tableswitch 92 0 10 #[59, 62, 65, 68, 71, 74, 77, 80, 83, 86, 89], 59) := by decide +kernel
theorem dX6_word_60 : decode cX6_word 60 = .ok (.ldc 105, 2) := by decide +kernel
theorem dX6_word_62 : decode cX6_word 62 = .ok (.areturn, 1) := by decide +kernel
theorem dX6_word_63 : decode cX6_word 63 = .ok (.ldc 107, 2) := by decide +kernel
theorem dX6_word_65 : decode cX6_word 65 = .ok (.areturn, 1) := by decide +kernel
theorem dX6_word_66 : decode cX6_word 66 = .ok (.ldc 109, 2) := by decide +kernel
theorem dX6_word_68 : decode cX6_word 68 = .ok (.areturn, 1) := by decide +kernel
theorem dX6_word_69 : decode cX6_word 69 = .ok (.ldc 111, 2) := by decide +kernel
theorem dX6_word_71 : decode cX6_word 71 = .ok (.areturn, 1) := by decide +kernel
theorem dX6_word_72 : decode cX6_word 72 = .ok (.ldc 113, 2) := by decide +kernel
theorem dX6_word_74 : decode cX6_word 74 = .ok (.areturn, 1) := by decide +kernel
theorem dX6_word_75 : decode cX6_word 75 = .ok (.ldc 115, 2) := by decide +kernel
theorem dX6_word_77 : decode cX6_word 77 = .ok (.areturn, 1) := by decide +kernel
theorem dX6_word_78 : decode cX6_word 78 = .ok (.ldc 117, 2) := by decide +kernel
theorem dX6_word_80 : decode cX6_word 80 = .ok (.areturn, 1) := by decide +kernel
theorem dX6_word_81 : decode cX6_word 81 = .ok (.ldc 119, 2) := by decide +kernel
theorem dX6_word_83 : decode cX6_word 83 = .ok (.areturn, 1) := by decide +kernel
theorem dX6_word_84 : decode cX6_word 84 = .ok (.ldc 121, 2) := by decide +kernel
theorem dX6_word_86 : decode cX6_word 86 = .ok (.areturn, 1) := by decide +kernel
theorem dX6_word_87 : decode cX6_word 87 = .ok (.ldc 123, 2) := by decide +kernel
theorem dX6_word_89 : decode cX6_word 89 = .ok (.areturn, 1) := by decide +kernel
theorem dX6_word_90 : decode cX6_word 90 = .ok (.ldc 125, 2) := by decide +kernel
theorem dX6_word_92 : decode cX6_word 92 = .ok (.areturn, 1) := by decide +kernel
theorem dX6_word_93 : decode cX6_word 93 = .ok (.ldc 127, 2) := by decide +kernel
theorem dX6_word_95 : decode cX6_word 95 = .ok (.areturn, 1) := by decide +kernel
theorem dX7_init_0 : decode cX7_init 0 = .ok (.aload_n 0, 1) := by decide +kernel
theorem dX7_init_1 : decode cX7_init 1 = .ok (.invokespecial 3, 3) := by decide +kernel
theorem dX7_init_4 : decode cX7_init 4 = .ok (.aload_n 0, 1) := by decide +kernel
theorem dX7_init_5 : decode cX7_init 5 = .ok (.bipush 6, 2) := by decide +kernel
theorem dX7_init_7 : decode cX7_init 7 = .ok (.newarray .int, 2) := by decide +kernel
theorem dX7_init_9 : decode cX7_init 9 = .ok (.putfield 9, 3) := by decide +kernel
theorem dX7_init_12 : decode cX7_init 12 = .ok (.aload_n 0, 1) := by decide +kernel
theorem dX7_init_13 : decode cX7_init 13 = .ok (.sipush 160, 3) := by decide +kernel
theorem dX7_init_16 : decode cX7_init 16 = .ok (.newarray .int, 2) := by decide +kernel
theorem dX7_init_18 : decode cX7_init 18 = .ok (.putfield 15, 3) := by decide +kernel
theorem dX7_init_21 : decode cX7_init 21 = .ok (.aload_n 0, 1) := by decide +kernel
theorem dX7_init_22 : decode cX7_init 22 = .ok (.aconst_null, 1) := by decide +kernel
theorem dX7_init_23 : decode cX7_init 23 = .ok (.putfield 18, 3) := by decide +kernel
theorem dX7_init_26 : decode cX7_init 26 = .ok (.aload_n 0, 1) := by decide +kernel
theorem dX7_init_27 : decode cX7_init 27 = .ok (.aload_n 1, 1) := by decide +kernel
theorem dX7_init_28 : decode cX7_init 28 = .ok (.putfield 22, 3) := by decide +kernel
theorem dX7_init_31 : decode cX7_init 31 = .ok (.aload_n 0, 1) := by decide +kernel
theorem dX7_init_32 : decode cX7_init 32 = .ok (.aload_n 1, 1) := by decide +kernel
theorem dX7_init_33 : decode cX7_init 33 = .ok (.getfield 26, 3) := by decide +kernel
theorem dX7_init_36 : decode cX7_init 36 = .ok (.putfield 31, 3) := by decide +kernel
theorem dX7_init_39 : decode cX7_init 39 = .ok (.return_, 1) := by decide +kernel
theorem dX7_says_0 : decode cX7_says 0 = .ok (.aload_n 0, 1) := by decide +kernel
theorem dX7_says_1 : decode cX7_says 1 = .ok (.getfield 18, 3) := by decide +kernel
theorem dX7_says_4 : decode cX7_says 4 = .ok (.ifnull 12, 3) := by decide +kernel
theorem dX7_says_7 : decode cX7_says 7 = .ok (.iload_n 1, 1) := by decide +kernel
theorem dX7_says_8 : decode cX7_says 8 = .ok (.iconst 0, 1) := by decide +kernel
theorem dX7_says_9 : decode cX7_says 9 = .ok (.iconst 2, 1) := by decide +kernel
theorem dX7_says_10 : decode cX7_says 10 = .ok (.invokestatic 34, 3) := by decide +kernel
theorem dX7_says_13 : decode cX7_says 13 = .ok (.ifCond .ne 5, 3) := by decide +kernel
theorem dX7_says_16 : decode cX7_says 16 = .ok (.iconst 0, 1) := by decide +kernel
theorem dX7_says_17 : decode cX7_says 17 = .ok (.ireturn, 1) := by decide +kernel
theorem dX7_says_18 : decode cX7_says 18 = .ok (.iconst 0, 1) := by decide +kernel
theorem dX7_says_19 : decode cX7_says 19 = .ok (.getstatic 38, 3) := by decide +kernel
theorem dX7_says_22 : decode cX7_says 22 = .ok (.iload_n 1, 1) := by decide +kernel
theorem dX7_says_23 : decode cX7_says 23 = .ok (.iaload, 1) := by decide +kernel
theorem dX7_says_24 : decode cX7_says 24 = .ok (.aload_n 0, 1) := by decide +kernel
theorem dX7_says_25 : decode cX7_says 25 = .ok (.getfield 18, 3) := by decide +kernel
theorem dX7_says_28 : decode cX7_says 28 = .ok (.iload_n 1, 1) := by decide +kernel
theorem dX7_says_29 : decode cX7_says 29 = .ok (.aload_n 0, 1) := by decide +kernel
theorem dX7_says_30 : decode cX7_says 30 = .ok (.getfield 9, 3) := by decide +kernel
theorem dX7_says_33 : decode cX7_says 33 = .ok (.aload_n 0, 1) := by decide +kernel
theorem dX7_says_34 : decode cX7_says 34 = .ok (.getfield 15, 3) := by decide +kernel
theorem dX7_says_37 : decode cX7_says 37 = .ok (.invokevirtual 41, 3) := by decide +kernel
theorem dX7_says_40 : decode cX7_says 40 = .ok (.invokestatic 47, 3) := by decide +kernel
theorem dX7_says_43 : decode cX7_says 43 = .ok (.invokestatic 53, 3) := by decide +kernel
theorem dX7_says_46 : decode cX7_says 46 = .ok (.ireturn, 1) := by decide +kernel
theorem dX7_pullOn_0 : decode cX7_pullOn 0 = .ok (.aload_n 0, 1) := by decide +kernel
theorem dX7_pullOn_1 : decode cX7_pullOn 1 = .ok (.aload_n 1, 1) := by decide +kernel
theorem dX7_pullOn_2 : decode cX7_pullOn 2 = .ok (.iload_n 2, 1) := by decide +kernel
theorem dX7_pullOn_3 : decode cX7_pullOn 3 = .ok (.iload_n 3, 1) := by decide +kernel
theorem dX7_pullOn_4 : decode cX7_pullOn 4 = .ok (.iload 4, 2) := by decide +kernel
theorem dX7_pullOn_6 : decode cX7_pullOn 6 = .ok (.invokevirtual 56, 3) := by decide +kernel
theorem dX7_pullOn_9 : decode cX7_pullOn 9 = .ok (.aload_n 0, 1) := by decide +kernel
theorem dX7_pullOn_10 : decode cX7_pullOn 10 = .ok (.iconst 0, 1) := by decide +kernel
theorem dX7_pullOn_11 : decode cX7_pullOn 11 = .ok (.invokevirtual 60, 3) := by decide +kernel
theorem dX7_pullOn_14 : decode cX7_pullOn 14 = .ok (.ireturn, 1) := by decide +kernel
theorem dX7_jerkOn_0 : decode cX7_jerkOn 0 = .ok (.aload_n 0, 1) := by decide +kernel
theorem dX7_jerkOn_1 : decode cX7_jerkOn 1 = .ok (.aload_n 1, 1) := by decide +kernel
theorem dX7_jerkOn_2 : decode cX7_jerkOn 2 = .ok (.iload_n 2, 1) := by decide +kernel
theorem dX7_jerkOn_3 : decode cX7_jerkOn 3 = .ok (.iload_n 3, 1) := by decide +kernel
theorem dX7_jerkOn_4 : decode cX7_jerkOn 4 = .ok (.iload 4, 2) := by decide +kernel
theorem dX7_jerkOn_6 : decode cX7_jerkOn 6 = .ok (.invokevirtual 56, 3) := by decide +kernel
theorem dX7_jerkOn_9 : decode cX7_jerkOn 9 = .ok (.aload_n 0, 1) := by decide +kernel
theorem dX7_jerkOn_10 : decode cX7_jerkOn 10 = .ok (.iconst 2, 1) := by decide +kernel
theorem dX7_jerkOn_11 : decode cX7_jerkOn 11 = .ok (.invokevirtual 60, 3) := by decide +kernel
theorem dX7_jerkOn_14 : decode cX7_jerkOn 14 = .ok (.ireturn, 1) := by decide +kernel
theorem dX7_powerOf_0 : decode cX7_powerOf 0 = .ok (.aload_n 0, 1) := by decide +kernel
theorem dX7_powerOf_1 : decode cX7_powerOf 1 = .ok (.aload_n 1, 1) := by decide +kernel
theorem dX7_powerOf_2 : decode cX7_powerOf 2 = .ok (.iload_n 2, 1) := by decide +kernel
theorem dX7_powerOf_3 : decode cX7_powerOf 3 = .ok (.iload_n 3, 1) := by decide +kernel
theorem dX7_powerOf_4 : decode cX7_powerOf 4 = .ok (.iload 4, 2) := by decide +kernel
theorem dX7_powerOf_6 : decode cX7_powerOf 6 = .ok (.invokevirtual 56, 3) := by decide +kernel
theorem dX7_powerOf_9 : decode cX7_powerOf 9 = .ok (.aload_n 0, 1) := by decide +kernel
theorem dX7_powerOf_10 : decode cX7_powerOf 10 = .ok (.aload_n 1, 1) := by decide +kernel
theorem dX7_powerOf_11 : decode cX7_powerOf 11 = .ok (.invokevirtual 64, 3) := by decide +kernel
theorem dX7_powerOf_14 : decode cX7_powerOf 14 = .ok (.ireturn, 1) := by decide +kernel
theorem dX7_goesOn_0 : decode cX7_goesOn 0 = .ok (.aload_n 1, 1) := by decide +kernel
theorem dX7_goesOn_1 : decode cX7_goesOn 1 = .ok (.aload_n 0, 1) := by decide +kernel
theorem dX7_goesOn_2 : decode cX7_goesOn 2 = .ok (.getfield 22, 3) := by decide +kernel
theorem dX7_goesOn_5 : decode cX7_goesOn 5 = .ok (.iload 4, 2) := by decide +kernel
theorem dX7_goesOn_7 : decode cX7_goesOn 7 = .ok (.invokevirtual 68, 3) := by decide +kernel
theorem dX7_goesOn_10 : decode cX7_goesOn 10 = .ok (.invokevirtual 71, 3) := by decide +kernel
theorem dX7_goesOn_13 : decode cX7_goesOn 13 = .ok (.ifCond .eq 5, 3) := by decide +kernel
theorem dX7_goesOn_16 : decode cX7_goesOn 16 = .ok (.iconst 1, 1) := by decide +kernel
theorem dX7_goesOn_17 : decode cX7_goesOn 17 = .ok (.ireturn, 1) := by decide +kernel
theorem dX7_goesOn_18 : decode cX7_goesOn 18 = .ok (.aload_n 1, 1) := by decide +kernel
theorem dX7_goesOn_19 : decode cX7_goesOn 19 = .ok (.iload 4, 2) := by decide +kernel
theorem dX7_goesOn_21 : decode cX7_goesOn 21 = .ok (.invokevirtual 77, 3) := by decide +kernel
theorem dX7_goesOn_24 : decode cX7_goesOn 24 = .ok (.ifCond .ne 5, 3) := by decide +kernel
theorem dX7_goesOn_27 : decode cX7_goesOn 27 = .ok (.iconst 0, 1) := by decide +kernel
theorem dX7_goesOn_28 : decode cX7_goesOn 28 = .ok (.ireturn, 1) := by decide +kernel
theorem dX7_goesOn_29 : decode cX7_goesOn 29 = .ok (.aload_n 0, 1) := by decide +kernel
theorem dX7_goesOn_30 : decode cX7_goesOn 30 = .ok (.aload_n 1, 1) := by decide +kernel
theorem dX7_goesOn_31 : decode cX7_goesOn 31 = .ok (.iload_n 2, 1) := by decide +kernel
theorem dX7_goesOn_32 : decode cX7_goesOn 32 = .ok (.iload_n 3, 1) := by decide +kernel
theorem dX7_goesOn_33 : decode cX7_goesOn 33 = .ok (.iload 4, 2) := by decide +kernel
theorem dX7_goesOn_35 : decode cX7_goesOn 35 = .ok (.invokevirtual 56, 3) := by decide +kernel
theorem dX7_goesOn_38 : decode cX7_goesOn 38 = .ok (.aload_n 0, 1) := by decide +kernel
theorem dX7_goesOn_39 : decode cX7_goesOn 39 = .ok (.iconst 0, 1) := by decide +kernel
theorem dX7_goesOn_40 : decode cX7_goesOn 40 = .ok (.invokevirtual 60, 3) := by decide +kernel
theorem dX7_goesOn_43 : decode cX7_goesOn 43 = .ok (.iload 5, 2) := by decide +kernel
theorem dX7_goesOn_45 : decode cX7_goesOn 45 = .ok (.isub, 1) := by decide +kernel
theorem dX7_goesOn_46 : decode cX7_goesOn 46 = .ok (.aload_n 0, 1) := by decide +kernel
theorem dX7_goesOn_47 : decode cX7_goesOn 47 = .ok (.aload_n 1, 1) := by decide +kernel
theorem dX7_goesOn_48 : decode cX7_goesOn 48 = .ok (.invokevirtual 64, 3) := by decide +kernel
theorem dX7_goesOn_51 : decode cX7_goesOn 51 = .ok (.iload 6, 2) := by decide +kernel
theorem dX7_goesOn_53 : decode cX7_goesOn 53 = .ok (.iadd, 1) := by decide +kernel
theorem dX7_goesOn_54 : decode cX7_goesOn 54 = .ok (.if_icmp .le 7, 3) := by decide +kernel
theorem dX7_goesOn_57 : decode cX7_goesOn 57 = .ok (.iconst 1, 1) := by decide +kernel
theorem dX7_goesOn_58 : decode cX7_goesOn 58 = .ok (.goto 4, 3) := by decide +kernel
theorem dX7_goesOn_61 : decode cX7_goesOn 61 = .ok (.iconst 0, 1) := by decide +kernel
theorem dX7_goesOn_62 : decode cX7_goesOn 62 = .ok (.ireturn, 1) := by decide +kernel
theorem dX7_powerTold_0 : decode cX7_powerTold 0 = .ok (.aload_n 1, 1) := by decide +kernel
theorem dX7_powerTold_1 : decode cX7_powerTold 1 = .ok (.aload_n 0, 1) := by decide +kernel
theorem dX7_powerTold_2 : decode cX7_powerTold 2 = .ok (.iconst 1, 1) := by decide +kernel
theorem dX7_powerTold_3 : decode cX7_powerTold 3 = .ok (.invokevirtual 60, 3) := by decide +kernel
theorem dX7_powerTold_6 : decode cX7_powerTold 6 = .ok (.invokevirtual 80, 3) := by decide +kernel
theorem dX7_powerTold_9 : decode cX7_powerTold 9 = .ok (.istore_n 2, 1) := by decide +kernel
theorem dX7_powerTold_10 : decode cX7_powerTold 10 = .ok (.iconst 3, 1) := by decide +kernel
theorem dX7_powerTold_11 : decode cX7_powerTold 11 = .ok (.aload_n 0, 1) := by decide +kernel
theorem dX7_powerTold_12 : decode cX7_powerTold 12 = .ok (.getfield 9, 3) := by decide +kernel
theorem dX7_powerTold_15 : decode cX7_powerTold 15 = .ok (.iconst 2, 1) := by decide +kernel
theorem dX7_powerTold_16 : decode cX7_powerTold 16 = .ok (.iaload, 1) := by decide +kernel
theorem dX7_powerTold_17 : decode cX7_powerTold 17 = .ok (.imul, 1) := by decide +kernel
theorem dX7_powerTold_18 : decode cX7_powerTold 18 = .ok (.istore_n 3, 1) := by decide +kernel
theorem dX7_powerTold_19 : decode cX7_powerTold 19 = .ok (.iload_n 3, 1) := by decide +kernel
theorem dX7_powerTold_20 : decode cX7_powerTold 20 = .ok (.ifCond .le 26, 3) := by decide +kernel
theorem dX7_powerTold_23 : decode cX7_powerTold 23 = .ok (.aload_n 0, 1) := by decide +kernel
theorem dX7_powerTold_24 : decode cX7_powerTold 24 = .ok (.getfield 9, 3) := by decide +kernel
theorem dX7_powerTold_27 : decode cX7_powerTold 27 = .ok (.iconst 3, 1) := by decide +kernel
theorem dX7_powerTold_28 : decode cX7_powerTold 28 = .ok (.iaload, 1) := by decide +kernel
theorem dX7_powerTold_29 : decode cX7_powerTold 29 = .ok (.iload_n 3, 1) := by decide +kernel
theorem dX7_powerTold_30 : decode cX7_powerTold 30 = .ok (.if_icmp .ge 16, 3) := by decide +kernel
theorem dX7_powerTold_33 : decode cX7_powerTold 33 = .ok (.iload_n 2, 1) := by decide +kernel
theorem dX7_powerTold_34 : decode cX7_powerTold 34 = .ok (.aload_n 0, 1) := by decide +kernel
theorem dX7_powerTold_35 : decode cX7_powerTold 35 = .ok (.getfield 9, 3) := by decide +kernel
theorem dX7_powerTold_38 : decode cX7_powerTold 38 = .ok (.iconst 3, 1) := by decide +kernel
theorem dX7_powerTold_39 : decode cX7_powerTold 39 = .ok (.iaload, 1) := by decide +kernel
theorem dX7_powerTold_40 : decode cX7_powerTold 40 = .ok (.imul, 1) := by decide +kernel
theorem dX7_powerTold_41 : decode cX7_powerTold 41 = .ok (.iload_n 3, 1) := by decide +kernel
theorem dX7_powerTold_42 : decode cX7_powerTold 42 = .ok (.idiv, 1) := by decide +kernel
theorem dX7_powerTold_43 : decode cX7_powerTold 43 = .ok (.goto 4, 3) := by decide +kernel
theorem dX7_powerTold_46 : decode cX7_powerTold 46 = .ok (.iload_n 2, 1) := by decide +kernel
theorem dX7_powerTold_47 : decode cX7_powerTold 47 = .ok (.ireturn, 1) := by decide +kernel
theorem dX7_tell_0 : decode cX7_tell 0 = .ok (.aload_n 0, 1) := by decide +kernel
theorem dX7_tell_1 : decode cX7_tell 1 = .ok (.getfield 9, 3) := by decide +kernel
theorem dX7_tell_4 : decode cX7_tell 4 = .ok (.iconst 0, 1) := by decide +kernel
theorem dX7_tell_5 : decode cX7_tell 5 = .ok (.iload 4, 2) := by decide +kernel
theorem dX7_tell_7 : decode cX7_tell 7 = .ok (.invokestatic 83, 3) := by decide +kernel
theorem dX7_tell_10 : decode cX7_tell 10 = .ok (.ifCond .eq 13, 3) := by decide +kernel
theorem dX7_tell_13 : decode cX7_tell 13 = .ok (.aload_n 0, 1) := by decide +kernel
theorem dX7_tell_14 : decode cX7_tell 14 = .ok (.getfield 31, 3) := by decide +kernel
theorem dX7_tell_17 : decode cX7_tell 17 = .ok (.iload 4, 2) := by decide +kernel
theorem dX7_tell_19 : decode cX7_tell 19 = .ok (.iaload, 1) := by decide +kernel
theorem dX7_tell_20 : decode cX7_tell 20 = .ok (.goto 4, 3) := by decide +kernel
theorem dX7_tell_23 : decode cX7_tell 23 = .ok (.iconst 0, 1) := by decide +kernel
theorem dX7_tell_24 : decode cX7_tell 24 = .ok (.iastore, 1) := by decide +kernel
theorem dX7_tell_25 : decode cX7_tell 25 = .ok (.aload_n 0, 1) := by decide +kernel
theorem dX7_tell_26 : decode cX7_tell 26 = .ok (.getfield 9, 3) := by decide +kernel
theorem dX7_tell_29 : decode cX7_tell 29 = .ok (.iconst 1, 1) := by decide +kernel
theorem dX7_tell_30 : decode cX7_tell 30 = .ok (.aload_n 1, 1) := by decide +kernel
theorem dX7_tell_31 : decode cX7_tell 31 = .ok (.getfield 86, 3) := by decide +kernel
theorem dX7_tell_34 : decode cX7_tell 34 = .ok (.iastore, 1) := by decide +kernel
theorem dX7_tell_35 : decode cX7_tell 35 = .ok (.aload_n 0, 1) := by decide +kernel
theorem dX7_tell_36 : decode cX7_tell 36 = .ok (.getfield 9, 3) := by decide +kernel
theorem dX7_tell_39 : decode cX7_tell 39 = .ok (.iconst 2, 1) := by decide +kernel
theorem dX7_tell_40 : decode cX7_tell 40 = .ok (.aload_n 0, 1) := by decide +kernel
theorem dX7_tell_41 : decode cX7_tell 41 = .ok (.getfield 22, 3) := by decide +kernel
theorem dX7_tell_44 : decode cX7_tell 44 = .ok (.iload_n 2, 1) := by decide +kernel
theorem dX7_tell_45 : decode cX7_tell 45 = .ok (.iload 4, 2) := by decide +kernel
theorem dX7_tell_47 : decode cX7_tell 47 = .ok (.invokevirtual 90, 3) := by decide +kernel
theorem dX7_tell_50 : decode cX7_tell 50 = .ok (.iastore, 1) := by decide +kernel
theorem dX7_tell_51 : decode cX7_tell 51 = .ok (.aload_n 0, 1) := by decide +kernel
theorem dX7_tell_52 : decode cX7_tell 52 = .ok (.getfield 9, 3) := by decide +kernel
theorem dX7_tell_55 : decode cX7_tell 55 = .ok (.iconst 3, 1) := by decide +kernel
theorem dX7_tell_56 : decode cX7_tell 56 = .ok (.iload_n 3, 1) := by decide +kernel
theorem dX7_tell_57 : decode cX7_tell 57 = .ok (.iastore, 1) := by decide +kernel
theorem dX7_tell_58 : decode cX7_tell 58 = .ok (.aload_n 0, 1) := by decide +kernel
theorem dX7_tell_59 : decode cX7_tell 59 = .ok (.getfield 9, 3) := by decide +kernel
theorem dX7_tell_62 : decode cX7_tell 62 = .ok (.iconst 4, 1) := by decide +kernel
theorem dX7_tell_63 : decode cX7_tell 63 = .ok (.iload_n 2, 1) := by decide +kernel
theorem dX7_tell_64 : decode cX7_tell 64 = .ok (.invokestatic 93, 3) := by decide +kernel
theorem dX7_tell_67 : decode cX7_tell 67 = .ok (.ifCond .eq 15, 3) := by decide +kernel
theorem dX7_tell_70 : decode cX7_tell 70 = .ok (.aload_n 0, 1) := by decide +kernel
theorem dX7_tell_71 : decode cX7_tell 71 = .ok (.getfield 22, 3) := by decide +kernel
theorem dX7_tell_74 : decode cX7_tell 74 = .ok (.getfield 96, 3) := by decide +kernel
theorem dX7_tell_77 : decode cX7_tell 77 = .ok (.iload_n 2, 1) := by decide +kernel
theorem dX7_tell_78 : decode cX7_tell 78 = .ok (.iaload, 1) := by decide +kernel
theorem dX7_tell_79 : decode cX7_tell 79 = .ok (.goto 4, 3) := by decide +kernel
theorem dX7_tell_82 : decode cX7_tell 82 = .ok (.iconst 0, 1) := by decide +kernel
theorem dX7_tell_83 : decode cX7_tell 83 = .ok (.iastore, 1) := by decide +kernel
theorem dX7_tell_84 : decode cX7_tell 84 = .ok (.aload_n 0, 1) := by decide +kernel
theorem dX7_tell_85 : decode cX7_tell 85 = .ok (.getfield 9, 3) := by decide +kernel
theorem dX7_tell_88 : decode cX7_tell 88 = .ok (.iconst 5, 1) := by decide +kernel
theorem dX7_tell_89 : decode cX7_tell 89 = .ok (.aload_n 1, 1) := by decide +kernel
theorem dX7_tell_90 : decode cX7_tell 90 = .ok (.getfield 99, 3) := by decide +kernel
theorem dX7_tell_93 : decode cX7_tell 93 = .ok (.iastore, 1) := by decide +kernel
theorem dX7_tell_94 : decode cX7_tell 94 = .ok (.return_, 1) := by decide +kernel
theorem dX8_init_0 : decode cX8_init 0 = .ok (.aload_n 0, 1) := by decide +kernel
theorem dX8_init_1 : decode cX8_init 1 = .ok (.invokespecial 3, 3) := by decide +kernel
theorem dX8_init_4 : decode cX8_init 4 = .ok (.aload_n 0, 1) := by decide +kernel
theorem dX8_init_5 : decode cX8_init 5 = .ok (.bipush 40, 2) := by decide +kernel
theorem dX8_init_7 : decode cX8_init 7 = .ok (.newarray .int, 2) := by decide +kernel
theorem dX8_init_9 : decode cX8_init 9 = .ok (.putfield 9, 3) := by decide +kernel
theorem dX8_init_12 : decode cX8_init 12 = .ok (.aload_n 0, 1) := by decide +kernel
theorem dX8_init_13 : decode cX8_init 13 = .ok (.iconst (-1), 1) := by decide +kernel
theorem dX8_init_14 : decode cX8_init 14 = .ok (.putfield 15, 3) := by decide +kernel
theorem dX8_init_17 : decode cX8_init 17 = .ok (.aload_n 0, 1) := by decide +kernel
theorem dX8_init_18 : decode cX8_init 18 = .ok (.iconst 0, 1) := by decide +kernel
theorem dX8_init_19 : decode cX8_init 19 = .ok (.putfield 19, 3) := by decide +kernel
theorem dX8_init_22 : decode cX8_init 22 = .ok (.return_, 1) := by decide +kernel
theorem dX8_isMissing_0 : decode cX8_isMissing 0 = .ok (.aload_n 0, 1) := by decide +kernel
theorem dX8_isMissing_1 : decode cX8_isMissing 1 = .ok (.getfield 15, 3) := by decide +kernel
theorem dX8_isMissing_4 : decode cX8_isMissing 4 = .ok (.iconst (-1), 1) := by decide +kernel
theorem dX8_isMissing_5 : decode cX8_isMissing 5 = .ok (.if_icmp .ne 7, 3) := by decide +kernel
theorem dX8_isMissing_8 : decode cX8_isMissing 8 = .ok (.iconst 1, 1) := by decide +kernel
theorem dX8_isMissing_9 : decode cX8_isMissing 9 = .ok (.goto 4, 3) := by decide +kernel
theorem dX8_isMissing_12 : decode cX8_isMissing 12 = .ok (.iconst 0, 1) := by decide +kernel
theorem dX8_isMissing_13 : decode cX8_isMissing 13 = .ok (.ireturn, 1) := by decide +kernel
theorem dX8_become_0 : decode cX8_become 0 = .ok (.aload_n 0, 1) := by decide +kernel
theorem dX8_become_1 : decode cX8_become 1 = .ok (.iload_n 1, 1) := by decide +kernel
theorem dX8_become_2 : decode cX8_become 2 = .ok (.putfield 15, 3) := by decide +kernel
theorem dX8_become_5 : decode cX8_become 5 = .ok (.aload_n 0, 1) := by decide +kernel
theorem dX8_become_6 : decode cX8_become 6 = .ok (.iconst 0, 1) := by decide +kernel
theorem dX8_become_7 : decode cX8_become 7 = .ok (.bipush 40, 2) := by decide +kernel
theorem dX8_become_9 : decode cX8_become 9 = .ok (.iload_n 2, 1) := by decide +kernel
theorem dX8_become_10 : decode cX8_become 10 = .ok (.invokestatic 22, 3) := by decide +kernel
theorem dX8_become_13 : decode cX8_become 13 = .ok (.invokestatic 28, 3) := by decide +kernel
theorem dX8_become_16 : decode cX8_become 16 = .ok (.putfield 19, 3) := by decide +kernel
theorem dX8_become_19 : decode cX8_become 19 = .ok (.aload_n 0, 1) := by decide +kernel
theorem dX8_become_20 : decode cX8_become 20 = .ok (.getfield 9, 3) := by decide +kernel
theorem dX8_become_23 : decode cX8_become 23 = .ok (.iconst 0, 1) := by decide +kernel
theorem dX8_become_24 : decode cX8_become 24 = .ok (.invokestatic 31, 3) := by decide +kernel
theorem dX8_become_27 : decode cX8_become 27 = .ok (.return_, 1) := by decide +kernel
theorem dX8_put_0 : decode cX8_put 0 = .ok (.iload_n 1, 1) := by decide +kernel
theorem dX8_put_1 : decode cX8_put 1 = .ok (.iconst 0, 1) := by decide +kernel
theorem dX8_put_2 : decode cX8_put 2 = .ok (.aload_n 0, 1) := by decide +kernel
theorem dX8_put_3 : decode cX8_put 3 = .ok (.getfield 19, 3) := by decide +kernel
theorem dX8_put_6 : decode cX8_put 6 = .ok (.iconst 1, 1) := by decide +kernel
theorem dX8_put_7 : decode cX8_put 7 = .ok (.isub, 1) := by decide +kernel
theorem dX8_put_8 : decode cX8_put 8 = .ok (.invokestatic 37, 3) := by decide +kernel
theorem dX8_put_11 : decode cX8_put 11 = .ok (.ifCond .eq 35, 3) := by decide +kernel
theorem dX8_put_14 : decode cX8_put 14 = .ok (.aload_n 0, 1) := by decide +kernel
theorem dX8_put_15 : decode cX8_put 15 = .ok (.getfield 9, 3) := by decide +kernel
theorem dX8_put_18 : decode cX8_put 18 = .ok (.iload_n 1, 1) := by decide +kernel
theorem dX8_put_19 : decode cX8_put 19 = .ok (.aload_n 0, 1) := by decide +kernel
theorem dX8_put_20 : decode cX8_put 20 = .ok (.getfield 15, 3) := by decide +kernel
theorem dX8_put_23 : decode cX8_put 23 = .ok (.ifCond .ne 8, 3) := by decide +kernel
theorem dX8_put_26 : decode cX8_put 26 = .ok (.iload_n 2, 1) := by decide +kernel
theorem dX8_put_27 : decode cX8_put 27 = .ok (.i2b, 1) := by decide +kernel
theorem dX8_put_28 : decode cX8_put 28 = .ok (.goto 17, 3) := by decide +kernel
theorem dX8_put_31 : decode cX8_put 31 = .ok (.aload_n 0, 1) := by decide +kernel
theorem dX8_put_32 : decode cX8_put 32 = .ok (.getfield 15, 3) := by decide +kernel
theorem dX8_put_35 : decode cX8_put 35 = .ok (.iconst 1, 1) := by decide +kernel
theorem dX8_put_36 : decode cX8_put 36 = .ok (.if_icmp .ne 8, 3) := by decide +kernel
theorem dX8_put_39 : decode cX8_put 39 = .ok (.iload_n 2, 1) := by decide +kernel
theorem dX8_put_40 : decode cX8_put 40 = .ok (.i2s, 1) := by decide +kernel
theorem dX8_put_41 : decode cX8_put 41 = .ok (.goto 4, 3) := by decide +kernel
theorem dX8_put_44 : decode cX8_put 44 = .ok (.iload_n 2, 1) := by decide +kernel
theorem dX8_put_45 : decode cX8_put 45 = .ok (.iastore, 1) := by decide +kernel
theorem dX8_put_46 : decode cX8_put 46 = .ok (.return_, 1) := by decide +kernel
theorem dX8_hasRun_0 : decode cX8_hasRun 0 = .ok (.iload_n 1, 1) := by decide +kernel
theorem dX8_hasRun_1 : decode cX8_hasRun 1 = .ok (.ifCond .lt 29, 3) := by decide +kernel
theorem dX8_hasRun_4 : decode cX8_hasRun 4 = .ok (.iload_n 2, 1) := by decide +kernel
theorem dX8_hasRun_5 : decode cX8_hasRun 5 = .ok (.ifCond .lt 25, 3) := by decide +kernel
theorem dX8_hasRun_8 : decode cX8_hasRun 8 = .ok (.iload_n 2, 1) := by decide +kernel
theorem dX8_hasRun_9 : decode cX8_hasRun 9 = .ok (.aload_n 0, 1) := by decide +kernel
theorem dX8_hasRun_10 : decode cX8_hasRun 10 = .ok (.getfield 19, 3) := by decide +kernel
theorem dX8_hasRun_13 : decode cX8_hasRun 13 = .ok (.if_icmp .gt 17, 3) := by decide +kernel
theorem dX8_hasRun_16 : decode cX8_hasRun 16 = .ok (.iload_n 1, 1) := by decide +kernel
theorem dX8_hasRun_17 : decode cX8_hasRun 17 = .ok (.aload_n 0, 1) := by decide +kernel
theorem dX8_hasRun_18 : decode cX8_hasRun 18 = .ok (.getfield 19, 3) := by decide +kernel
theorem dX8_hasRun_21 : decode cX8_hasRun 21 = .ok (.iload_n 2, 1) := by decide +kernel
theorem dX8_hasRun_22 : decode cX8_hasRun 22 = .ok (.isub, 1) := by decide +kernel
theorem dX8_hasRun_23 : decode cX8_hasRun 23 = .ok (.if_icmp .gt 7, 3) := by decide +kernel
theorem dX8_hasRun_26 : decode cX8_hasRun 26 = .ok (.iconst 1, 1) := by decide +kernel
theorem dX8_hasRun_27 : decode cX8_hasRun 27 = .ok (.goto 4, 3) := by decide +kernel
theorem dX8_hasRun_30 : decode cX8_hasRun 30 = .ok (.iconst 0, 1) := by decide +kernel
theorem dX8_hasRun_31 : decode cX8_hasRun 31 = .ok (.ireturn, 1) := by decide +kernel
theorem dX9_init_0 : decode cX9_init 0 = .ok (.aload_n 0, 1) := by decide +kernel
theorem dX9_init_1 : decode cX9_init 1 = .ok (.invokespecial 1, 3) := by decide +kernel
theorem dX9_init_4 : decode cX9_init 4 = .ok (.aload_n 0, 1) := by decide +kernel
theorem dX9_init_5 : decode cX9_init 5 = .ok (.new 7, 3) := by decide +kernel
theorem dX9_init_8 : decode cX9_init 8 = .ok (.dup, 1) := by decide +kernel
theorem dX9_init_9 : decode cX9_init 9 = .ok (.invokespecial 9, 3) := by decide +kernel
theorem dX9_init_12 : decode cX9_init 12 = .ok (.putfield 10, 3) := by decide +kernel
theorem dX9_init_15 : decode cX9_init 15 = .ok (.aload_n 0, 1) := by decide +kernel
theorem dX9_init_16 : decode cX9_init 16 = .ok (.new 16, 3) := by decide +kernel
theorem dX9_init_19 : decode cX9_init 19 = .ok (.dup, 1) := by decide +kernel
theorem dX9_init_20 : decode cX9_init 20 = .ok (.invokespecial 18, 3) := by decide +kernel
theorem dX9_init_23 : decode cX9_init 23 = .ok (.putfield 19, 3) := by decide +kernel
theorem dX9_init_26 : decode cX9_init 26 = .ok (.aload_n 0, 1) := by decide +kernel
theorem dX9_init_27 : decode cX9_init 27 = .ok (.bipush 6, 2) := by decide +kernel
theorem dX9_init_29 : decode cX9_init 29 = .ok (.anewarray 23, 3) := by decide +kernel
theorem dX9_init_32 : decode cX9_init 32 = .ok (.putfield 25, 3) := by decide +kernel
theorem dX9_init_35 : decode cX9_init 35 = .ok (.aload_n 0, 1) := by decide +kernel
theorem dX9_init_36 : decode cX9_init 36 = .ok (.new 29, 3) := by decide +kernel
theorem dX9_init_39 : decode cX9_init 39 = .ok (.dup, 1) := by decide +kernel
theorem dX9_init_40 : decode cX9_init 40 = .ok (.aload_n 0, 1) := by decide +kernel
theorem dX9_init_41 : decode cX9_init 41 = .ok (.getfield 10, 3) := by decide +kernel
theorem dX9_init_44 : decode cX9_init 44 = .ok (.invokespecial 31, 3) := by decide +kernel
theorem dX9_init_47 : decode cX9_init 47 = .ok (.putfield 34, 3) := by decide +kernel
theorem dX9_init_50 : decode cX9_init 50 = .ok (.aload_n 0, 1) := by decide +kernel
theorem dX9_init_51 : decode cX9_init 51 = .ok (.bipush 6, 2) := by decide +kernel
theorem dX9_init_53 : decode cX9_init 53 = .ok (.anewarray 38, 3) := by decide +kernel
theorem dX9_init_56 : decode cX9_init 56 = .ok (.putfield 40, 3) := by decide +kernel
theorem dX9_init_59 : decode cX9_init 59 = .ok (.aload_n 0, 1) := by decide +kernel
theorem dX9_init_60 : decode cX9_init 60 = .ok (.bipush 6, 2) := by decide +kernel
theorem dX9_init_62 : decode cX9_init 62 = .ok (.anewarray 44, 3) := by decide +kernel
theorem dX9_init_65 : decode cX9_init 65 = .ok (.putfield 46, 3) := by decide +kernel
theorem dX9_init_68 : decode cX9_init 68 = .ok (.aload_n 0, 1) := by decide +kernel
theorem dX9_init_69 : decode cX9_init 69 = .ok (.sipush 180, 3) := by decide +kernel
theorem dX9_init_72 : decode cX9_init 72 = .ok (.newarray .int, 2) := by decide +kernel
theorem dX9_init_74 : decode cX9_init 74 = .ok (.putfield 50, 3) := by decide +kernel
theorem dX9_init_77 : decode cX9_init 77 = .ok (.aload_n 0, 1) := by decide +kernel
theorem dX9_init_78 : decode cX9_init 78 = .ok (.bipush 12, 2) := by decide +kernel
theorem dX9_init_80 : decode cX9_init 80 = .ok (.newarray .int, 2) := by decide +kernel
theorem dX9_init_82 : decode cX9_init 82 = .ok (.putfield 54, 3) := by decide +kernel
theorem dX9_init_85 : decode cX9_init 85 = .ok (.aload_n 0, 1) := by decide +kernel
theorem dX9_init_86 : decode cX9_init 86 = .ok (.new 57, 3) := by decide +kernel
theorem dX9_init_89 : decode cX9_init 89 = .ok (.dup, 1) := by decide +kernel
theorem dX9_init_90 : decode cX9_init 90 = .ok (.invokespecial 59, 3) := by decide +kernel
theorem dX9_init_93 : decode cX9_init 93 = .ok (.putfield 60, 3) := by decide +kernel
theorem dX9_init_96 : decode cX9_init 96 = .ok (.aload_n 0, 1) := by decide +kernel
theorem dX9_init_97 : decode cX9_init 97 = .ok (.iconst 4, 1) := by decide +kernel
theorem dX9_init_98 : decode cX9_init 98 = .ok (.anewarray 64, 3) := by decide +kernel
theorem dX9_init_101 : decode cX9_init 101 = .ok (.putfield 66, 3) := by decide +kernel
theorem dX9_init_104 : decode cX9_init 104 = .ok (.aload_n 0, 1) := by decide +kernel
theorem dX9_init_105 : decode cX9_init 105 = .ok (.new 70, 3) := by decide +kernel
theorem dX9_init_108 : decode cX9_init 108 = .ok (.dup, 1) := by decide +kernel
theorem dX9_init_109 : decode cX9_init 109 = .ok (.invokespecial 72, 3) := by decide +kernel
theorem dX9_init_112 : decode cX9_init 112 = .ok (.putfield 73, 3) := by decide +kernel
theorem dX9_init_115 : decode cX9_init 115 = .ok (.aload_n 0, 1) := by decide +kernel
theorem dX9_init_116 : decode cX9_init 116 = .ok (.iconst 0, 1) := by decide +kernel
theorem dX9_init_117 : decode cX9_init 117 = .ok (.putfield 77, 3) := by decide +kernel
theorem dX9_init_120 : decode cX9_init 120 = .ok (.aload_n 0, 1) := by decide +kernel
theorem dX9_init_121 : decode cX9_init 121 = .ok (.iconst 0, 1) := by decide +kernel
theorem dX9_init_122 : decode cX9_init 122 = .ok (.putfield 81, 3) := by decide +kernel
theorem dX9_init_125 : decode cX9_init 125 = .ok (.aload_n 0, 1) := by decide +kernel
theorem dX9_init_126 : decode cX9_init 126 = .ok (.iconst 1, 1) := by decide +kernel
theorem dX9_init_127 : decode cX9_init 127 = .ok (.putfield 84, 3) := by decide +kernel
theorem dX9_init_130 : decode cX9_init 130 = .ok (.aload_n 0, 1) := by decide +kernel
theorem dX9_init_131 : decode cX9_init 131 = .ok (.iconst 0, 1) := by decide +kernel
theorem dX9_init_132 : decode cX9_init 132 = .ok (.putfield 87, 3) := by decide +kernel
theorem dX9_init_135 : decode cX9_init 135 = .ok (.iconst 0, 1) := by decide +kernel
theorem dX9_init_136 : decode cX9_init 136 = .ok (.istore_n 1, 1) := by decide +kernel
theorem dX9_init_137 : decode cX9_init 137 = .ok (.iload_n 1, 1) := by decide +kernel
theorem dX9_init_138 : decode cX9_init 138 = .ok (.bipush 6, 2) := by decide +kernel
theorem dX9_init_140 : decode cX9_init 140 = .ok (.if_icmp .ge 22, 3) := by decide +kernel
theorem dX9_init_143 : decode cX9_init 143 = .ok (.aload_n 0, 1) := by decide +kernel
theorem dX9_init_144 : decode cX9_init 144 = .ok (.getfield 46, 3) := by decide +kernel
theorem dX9_init_147 : decode cX9_init 147 = .ok (.iload_n 1, 1) := by decide +kernel
theorem dX9_init_148 : decode cX9_init 148 = .ok (.new 44, 3) := by decide +kernel
theorem dX9_init_151 : decode cX9_init 151 = .ok (.dup, 1) := by decide +kernel
theorem dX9_init_152 : decode cX9_init 152 = .ok (.invokespecial 90, 3) := by decide +kernel
theorem dX9_init_155 : decode cX9_init 155 = .ok (.aastore, 1) := by decide +kernel
theorem dX9_init_156 : decode cX9_init 156 = .ok (.iinc 1 1, 3) := by decide +kernel
theorem dX9_init_159 : decode cX9_init 159 = .ok (.goto (-22), 3) := by decide +kernel
theorem dX9_init_162 : decode cX9_init 162 = .ok (.iconst 0, 1) := by decide +kernel
theorem dX9_init_163 : decode cX9_init 163 = .ok (.istore_n 1, 1) := by decide +kernel
theorem dX9_init_164 : decode cX9_init 164 = .ok (.iload_n 1, 1) := by decide +kernel
theorem dX9_init_165 : decode cX9_init 165 = .ok (.iconst 4, 1) := by decide +kernel
theorem dX9_init_166 : decode cX9_init 166 = .ok (.if_icmp .ge 22, 3) := by decide +kernel
theorem dX9_init_169 : decode cX9_init 169 = .ok (.aload_n 0, 1) := by decide +kernel
theorem dX9_init_170 : decode cX9_init 170 = .ok (.getfield 66, 3) := by decide +kernel
theorem dX9_init_173 : decode cX9_init 173 = .ok (.iload_n 1, 1) := by decide +kernel
theorem dX9_init_174 : decode cX9_init 174 = .ok (.new 64, 3) := by decide +kernel
theorem dX9_init_177 : decode cX9_init 177 = .ok (.dup, 1) := by decide +kernel
theorem dX9_init_178 : decode cX9_init 178 = .ok (.invokespecial 91, 3) := by decide +kernel
theorem dX9_init_181 : decode cX9_init 181 = .ok (.aastore, 1) := by decide +kernel
theorem dX9_init_182 : decode cX9_init 182 = .ok (.iinc 1 1, 3) := by decide +kernel
theorem dX9_init_185 : decode cX9_init 185 = .ok (.goto (-21), 3) := by decide +kernel
theorem dX9_init_188 : decode cX9_init 188 = .ok (.iconst 0, 1) := by decide +kernel
theorem dX9_init_189 : decode cX9_init 189 = .ok (.istore_n 1, 1) := by decide +kernel
theorem dX9_init_190 : decode cX9_init 190 = .ok (.iload_n 1, 1) := by decide +kernel
theorem dX9_init_191 : decode cX9_init 191 = .ok (.bipush 6, 2) := by decide +kernel
theorem dX9_init_193 : decode cX9_init 193 = .ok (.if_icmp .ge 22, 3) := by decide +kernel
theorem dX9_init_196 : decode cX9_init 196 = .ok (.aload_n 0, 1) := by decide +kernel
theorem dX9_init_197 : decode cX9_init 197 = .ok (.getfield 25, 3) := by decide +kernel
theorem dX9_init_200 : decode cX9_init 200 = .ok (.iload_n 1, 1) := by decide +kernel
theorem dX9_init_201 : decode cX9_init 201 = .ok (.new 23, 3) := by decide +kernel
theorem dX9_init_204 : decode cX9_init 204 = .ok (.dup, 1) := by decide +kernel
theorem dX9_init_205 : decode cX9_init 205 = .ok (.invokespecial 92, 3) := by decide +kernel
theorem dX9_init_208 : decode cX9_init 208 = .ok (.aastore, 1) := by decide +kernel
theorem dX9_init_209 : decode cX9_init 209 = .ok (.iinc 1 1, 3) := by decide +kernel
theorem dX9_init_212 : decode cX9_init 212 = .ok (.goto (-22), 3) := by decide +kernel
theorem dX9_init_215 : decode cX9_init 215 = .ok (.iconst 0, 1) := by decide +kernel
theorem dX9_init_216 : decode cX9_init 216 = .ok (.istore_n 1, 1) := by decide +kernel
theorem dX9_init_217 : decode cX9_init 217 = .ok (.iload_n 1, 1) := by decide +kernel
theorem dX9_init_218 : decode cX9_init 218 = .ok (.ldc 93, 2) := by decide +kernel
theorem dX9_init_220 : decode cX9_init 220 = .ok (.invokevirtual 95, 3) := by decide +kernel
theorem dX9_init_223 : decode cX9_init 223 = .ok (.if_icmp .ge 22, 3) := by decide +kernel
theorem dX9_init_226 : decode cX9_init 226 = .ok (.aload_n 0, 1) := by decide +kernel
theorem dX9_init_227 : decode cX9_init 227 = .ok (.getfield 19, 3) := by decide +kernel
theorem dX9_init_230 : decode cX9_init 230 = .ok (.ldc 93, 2) := by decide +kernel
theorem dX9_init_232 : decode cX9_init 232 = .ok (.iload_n 1, 1) := by decide +kernel
theorem dX9_init_233 : decode cX9_init 233 = .ok (.invokevirtual 101, 3) := by decide +kernel
theorem dX9_init_236 : decode cX9_init 236 = .ok (.invokevirtual 105, 3) := by decide +kernel
theorem dX9_init_239 : decode cX9_init 239 = .ok (.iinc 1 1, 3) := by decide +kernel
theorem dX9_init_242 : decode cX9_init 242 = .ok (.goto (-25), 3) := by decide +kernel
theorem dX9_init_245 : decode cX9_init 245 = .ok (.aload_n 0, 1) := by decide +kernel
theorem dX9_init_246 : decode cX9_init 246 = .ok (.getfield 19, 3) := by decide +kernel
theorem dX9_init_249 : decode cX9_init 249 = .ok (.aload_n 0, 1) := by decide +kernel
theorem dX9_init_250 : decode cX9_init 250 = .ok (.getfield 25, 3) := by decide +kernel
theorem dX9_init_253 : decode cX9_init 253 = .ok (.iconst 0, 1) := by decide +kernel
theorem dX9_init_254 : decode cX9_init 254 = .ok (.aaload, 1) := by decide +kernel
theorem dX9_init_255 : decode cX9_init 255 = .ok (.invokevirtual 109, 3) := by decide +kernel
theorem dX9_init_258 : decode cX9_init 258 = .ok (.pop, 1) := by decide +kernel
theorem dX9_init_259 : decode cX9_init 259 = .ok (.aload_n 0, 1) := by decide +kernel
theorem dX9_init_260 : decode cX9_init 260 = .ok (.getfield 19, 3) := by decide +kernel
theorem dX9_init_263 : decode cX9_init 263 = .ok (.invokevirtual 113, 3) := by decide +kernel
theorem dX9_init_266 : decode cX9_init 266 = .ok (.aload_n 0, 1) := by decide +kernel
theorem dX9_init_267 : decode cX9_init 267 = .ok (.getfield 34, 3) := by decide +kernel
theorem dX9_init_270 : decode cX9_init 270 = .ok (.aload_n 0, 1) := by decide +kernel
theorem dX9_init_271 : decode cX9_init 271 = .ok (.getfield 25, 3) := by decide +kernel
theorem dX9_init_274 : decode cX9_init 274 = .ok (.iconst 0, 1) := by decide +kernel
theorem dX9_init_275 : decode cX9_init 275 = .ok (.aaload, 1) := by decide +kernel
theorem dX9_init_276 : decode cX9_init 276 = .ok (.putfield 116, 3) := by decide +kernel
theorem dX9_init_279 : decode cX9_init 279 = .ok (.return_, 1) := by decide +kernel
theorem dX9_sound_0 : decode cX9_sound 0 = .ok (.iload_n 1, 1) := by decide +kernel
theorem dX9_sound_1 : decode cX9_sound 1 = .ok (.invokestatic 119, 3) := by decide +kernel
theorem dX9_sound_4 : decode cX9_sound 4 = .ok (.ifCond .ne 6, 3) := by decide +kernel
theorem dX9_sound_7 : decode cX9_sound 7 = .ok (.bipush (-5), 2) := by decide +kernel
theorem dX9_sound_9 : decode cX9_sound 9 = .ok (.ireturn, 1) := by decide +kernel
theorem dX9_sound_10 : decode cX9_sound 10 = .ok (.iload_n 2, 1) := by decide +kernel
theorem dX9_sound_11 : decode cX9_sound 11 = .ok (.iload_n 3, 1) := by decide +kernel
theorem dX9_sound_12 : decode cX9_sound 12 = .ok (.invokestatic 123, 3) := by decide +kernel
theorem dX9_sound_15 : decode cX9_sound 15 = .ok (.ifCond .ne 6, 3) := by decide +kernel
theorem dX9_sound_18 : decode cX9_sound 18 = .ok (.bipush (-7), 2) := by decide +kernel
theorem dX9_sound_20 : decode cX9_sound 20 = .ok (.ireturn, 1) := by decide +kernel
theorem dX9_sound_21 : decode cX9_sound 21 = .ok (.iload_n 2, 1) := by decide +kernel
theorem dX9_sound_22 : decode cX9_sound 22 = .ok (.ifCond .ne 13, 3) := by decide +kernel
theorem dX9_sound_25 : decode cX9_sound 25 = .ok (.aload_n 0, 1) := by decide +kernel
theorem dX9_sound_26 : decode cX9_sound 26 = .ok (.getfield 10, 3) := by decide +kernel
theorem dX9_sound_29 : decode cX9_sound 29 = .ok (.getfield 127, 3) := by decide +kernel
theorem dX9_sound_32 : decode cX9_sound 32 = .ok (.goto 10, 3) := by decide +kernel
theorem dX9_sound_35 : decode cX9_sound 35 = .ok (.aload_n 0, 1) := by decide +kernel
theorem dX9_sound_36 : decode cX9_sound 36 = .ok (.getfield 10, 3) := by decide +kernel
theorem dX9_sound_39 : decode cX9_sound 39 = .ok (.getfield 130, 3) := by decide +kernel
theorem dX9_sound_42 : decode cX9_sound 42 = .ok (.astore 4, 2) := by decide +kernel
theorem dX9_sound_44 : decode cX9_sound 44 = .ok (.aload 4, 2) := by decide +kernel
theorem dX9_sound_46 : decode cX9_sound 46 = .ok (.iload_n 1, 1) := by decide +kernel
theorem dX9_sound_47 : decode cX9_sound 47 = .ok (.iaload, 1) := by decide +kernel
theorem dX9_sound_48 : decode cX9_sound 48 = .ok (.istore 5, 2) := by decide +kernel
theorem dX9_sound_50 : decode cX9_sound 50 = .ok (.aload 4, 2) := by decide +kernel
theorem dX9_sound_52 : decode cX9_sound 52 = .ok (.iload_n 1, 1) := by decide +kernel
theorem dX9_sound_53 : decode cX9_sound 53 = .ok (.iload_n 3, 1) := by decide +kernel
theorem dX9_sound_54 : decode cX9_sound 54 = .ok (.iastore, 1) := by decide +kernel
theorem dX9_sound_55 : decode cX9_sound 55 = .ok (.iload 5, 2) := by decide +kernel
theorem dX9_sound_57 : decode cX9_sound 57 = .ok (.ireturn, 1) := by decide +kernel
theorem dX9_chart_0 : decode cX9_chart 0 = .ok (.iload_n 1, 1) := by decide +kernel
theorem dX9_chart_1 : decode cX9_chart 1 = .ok (.invokestatic 119, 3) := by decide +kernel
theorem dX9_chart_4 : decode cX9_chart 4 = .ok (.ifCond .eq 21, 3) := by decide +kernel
theorem dX9_chart_7 : decode cX9_chart 7 = .ok (.iload_n 2, 1) := by decide +kernel
theorem dX9_chart_8 : decode cX9_chart 8 = .ok (.bipush 11, 2) := by decide +kernel
theorem dX9_chart_10 : decode cX9_chart 10 = .ok (.bipush 99, 2) := by decide +kernel
theorem dX9_chart_12 : decode cX9_chart 12 = .ok (.invokestatic 133, 3) := by decide +kernel
theorem dX9_chart_15 : decode cX9_chart 15 = .ok (.ifCond .eq 10, 3) := by decide +kernel
theorem dX9_chart_18 : decode cX9_chart 18 = .ok (.iload_n 2, 1) := by decide +kernel
theorem dX9_chart_19 : decode cX9_chart 19 = .ok (.bipush 10, 2) := by decide +kernel
theorem dX9_chart_21 : decode cX9_chart 21 = .ok (.irem, 1) := by decide +kernel
theorem dX9_chart_22 : decode cX9_chart 22 = .ok (.ifCond .ne 6, 3) := by decide +kernel
theorem dX9_chart_25 : decode cX9_chart 25 = .ok (.bipush (-2), 2) := by decide +kernel
theorem dX9_chart_27 : decode cX9_chart 27 = .ok (.ireturn, 1) := by decide +kernel
theorem dX9_chart_28 : decode cX9_chart 28 = .ok (.iload_n 3, 1) := by decide +kernel
theorem dX9_chart_29 : decode cX9_chart 29 = .ok (.iload 4, 2) := by decide +kernel
theorem dX9_chart_31 : decode cX9_chart 31 = .ok (.invokestatic 123, 3) := by decide +kernel
theorem dX9_chart_34 : decode cX9_chart 34 = .ok (.ifCond .ne 6, 3) := by decide +kernel
theorem dX9_chart_37 : decode cX9_chart 37 = .ok (.bipush (-7), 2) := by decide +kernel
theorem dX9_chart_39 : decode cX9_chart 39 = .ok (.ireturn, 1) := by decide +kernel
theorem dX9_chart_40 : decode cX9_chart 40 = .ok (.iload_n 3, 1) := by decide +kernel
theorem dX9_chart_41 : decode cX9_chart 41 = .ok (.ifCond .ne 13, 3) := by decide +kernel
theorem dX9_chart_44 : decode cX9_chart 44 = .ok (.aload_n 0, 1) := by decide +kernel
theorem dX9_chart_45 : decode cX9_chart 45 = .ok (.getfield 10, 3) := by decide +kernel
theorem dX9_chart_48 : decode cX9_chart 48 = .ok (.getfield 127, 3) := by decide +kernel
theorem dX9_chart_51 : decode cX9_chart 51 = .ok (.goto 10, 3) := by decide +kernel
theorem dX9_chart_54 : decode cX9_chart 54 = .ok (.aload_n 0, 1) := by decide +kernel
theorem dX9_chart_55 : decode cX9_chart 55 = .ok (.getfield 10, 3) := by decide +kernel
theorem dX9_chart_58 : decode cX9_chart 58 = .ok (.getfield 130, 3) := by decide +kernel
theorem dX9_chart_61 : decode cX9_chart 61 = .ok (.astore 5, 2) := by decide +kernel
theorem dX9_chart_63 : decode cX9_chart 63 = .ok (.bipush 10, 2) := by decide +kernel
theorem dX9_chart_65 : decode cX9_chart 65 = .ok (.iload_n 1, 1) := by decide +kernel
theorem dX9_chart_66 : decode cX9_chart 66 = .ok (.bipush 10, 2) := by decide +kernel
theorem dX9_chart_68 : decode cX9_chart 68 = .ok (.idiv, 1) := by decide +kernel
theorem dX9_chart_69 : decode cX9_chart 69 = .ok (.iload_n 2, 1) := by decide +kernel
theorem dX9_chart_70 : decode cX9_chart 70 = .ok (.bipush 10, 2) := by decide +kernel
theorem dX9_chart_72 : decode cX9_chart 72 = .ok (.idiv, 1) := by decide +kernel
theorem dX9_chart_73 : decode cX9_chart 73 = .ok (.iadd, 1) := by decide +kernel
theorem dX9_chart_74 : decode cX9_chart 74 = .ok (.invokestatic 137, 3) := by decide +kernel
theorem dX9_chart_77 : decode cX9_chart 77 = .ok (.istore 6, 2) := by decide +kernel
theorem dX9_chart_79 : decode cX9_chart 79 = .ok (.bipush 10, 2) := by decide +kernel
theorem dX9_chart_81 : decode cX9_chart 81 = .ok (.iload_n 1, 1) := by decide +kernel
theorem dX9_chart_82 : decode cX9_chart 82 = .ok (.bipush 10, 2) := by decide +kernel
theorem dX9_chart_84 : decode cX9_chart 84 = .ok (.irem, 1) := by decide +kernel
theorem dX9_chart_85 : decode cX9_chart 85 = .ok (.iload_n 2, 1) := by decide +kernel
theorem dX9_chart_86 : decode cX9_chart 86 = .ok (.bipush 10, 2) := by decide +kernel
theorem dX9_chart_88 : decode cX9_chart 88 = .ok (.irem, 1) := by decide +kernel
theorem dX9_chart_89 : decode cX9_chart 89 = .ok (.iadd, 1) := by decide +kernel
theorem dX9_chart_90 : decode cX9_chart 90 = .ok (.invokestatic 137, 3) := by decide +kernel
theorem dX9_chart_93 : decode cX9_chart 93 = .ok (.istore 7, 2) := by decide +kernel
theorem dX9_chart_95 : decode cX9_chart 95 = .ok (.iconst 0, 1) := by decide +kernel
theorem dX9_chart_96 : decode cX9_chart 96 = .ok (.istore 8, 2) := by decide +kernel
theorem dX9_chart_98 : decode cX9_chart 98 = .ok (.iload_n 1, 1) := by decide +kernel
theorem dX9_chart_99 : decode cX9_chart 99 = .ok (.bipush 10, 2) := by decide +kernel
theorem dX9_chart_101 : decode cX9_chart 101 = .ok (.idiv, 1) := by decide +kernel
theorem dX9_chart_102 : decode cX9_chart 102 = .ok (.istore 9, 2) := by decide +kernel
theorem dX9_chart_104 : decode cX9_chart 104 = .ok (.iload 9, 2) := by decide +kernel
theorem dX9_chart_106 : decode cX9_chart 106 = .ok (.iload 6, 2) := by decide +kernel
theorem dX9_chart_108 : decode cX9_chart 108 = .ok (.if_icmp .ge 44, 3) := by decide +kernel
theorem dX9_chart_111 : decode cX9_chart 111 = .ok (.iload_n 1, 1) := by decide +kernel
theorem dX9_chart_112 : decode cX9_chart 112 = .ok (.bipush 10, 2) := by decide +kernel
theorem dX9_chart_114 : decode cX9_chart 114 = .ok (.irem, 1) := by decide +kernel
theorem dX9_chart_115 : decode cX9_chart 115 = .ok (.istore 10, 2) := by decide +kernel
theorem dX9_chart_117 : decode cX9_chart 117 = .ok (.iload 10, 2) := by decide +kernel
theorem dX9_chart_119 : decode cX9_chart 119 = .ok (.iload 7, 2) := by decide +kernel
theorem dX9_chart_121 : decode cX9_chart 121 = .ok (.if_icmp .ge 25, 3) := by decide +kernel
theorem dX9_chart_124 : decode cX9_chart 124 = .ok (.aload 5, 2) := by decide +kernel
theorem dX9_chart_126 : decode cX9_chart 126 = .ok (.bipush 10, 2) := by decide +kernel
theorem dX9_chart_128 : decode cX9_chart 128 = .ok (.iload 9, 2) := by decide +kernel
theorem dX9_chart_130 : decode cX9_chart 130 = .ok (.imul, 1) := by decide +kernel
theorem dX9_chart_131 : decode cX9_chart 131 = .ok (.iload 10, 2) := by decide +kernel
theorem dX9_chart_133 : decode cX9_chart 133 = .ok (.iadd, 1) := by decide +kernel
theorem dX9_chart_134 : decode cX9_chart 134 = .ok (.iload 4, 2) := by decide +kernel
theorem dX9_chart_136 : decode cX9_chart 136 = .ok (.iastore, 1) := by decide +kernel
theorem dX9_chart_137 : decode cX9_chart 137 = .ok (.iinc 8 1, 3) := by decide +kernel
theorem dX9_chart_140 : decode cX9_chart 140 = .ok (.iinc 10 1, 3) := by decide +kernel
theorem dX9_chart_143 : decode cX9_chart 143 = .ok (.goto (-26), 3) := by decide +kernel
theorem dX9_chart_146 : decode cX9_chart 146 = .ok (.iinc 9 1, 3) := by decide +kernel
theorem dX9_chart_149 : decode cX9_chart 149 = .ok (.goto (-45), 3) := by decide +kernel
theorem dX9_chart_152 : decode cX9_chart 152 = .ok (.iload 8, 2) := by decide +kernel
theorem dX9_chart_154 : decode cX9_chart 154 = .ok (.ireturn, 1) := by decide +kernel
theorem dX9_blow_0 : decode cX9_blow 0 = .ok (.iload_n 1, 1) := by decide +kernel
theorem dX9_blow_1 : decode cX9_blow 1 = .ok (.invokestatic 143, 3) := by decide +kernel
theorem dX9_blow_4 : decode cX9_blow 4 = .ok (.ifCond .ne 6, 3) := by decide +kernel
theorem dX9_blow_7 : decode cX9_blow 7 = .ok (.bipush (-5), 2) := by decide +kernel
theorem dX9_blow_9 : decode cX9_blow 9 = .ok (.ireturn, 1) := by decide +kernel
theorem dX9_blow_10 : decode cX9_blow 10 = .ok (.iload_n 2, 1) := by decide +kernel
theorem dX9_blow_11 : decode cX9_blow 11 = .ok (.iload_n 3, 1) := by decide +kernel
theorem dX9_blow_12 : decode cX9_blow 12 = .ok (.invokestatic 146, 3) := by decide +kernel
theorem dX9_blow_15 : decode cX9_blow 15 = .ok (.ifCond .ne 6, 3) := by decide +kernel
theorem dX9_blow_18 : decode cX9_blow 18 = .ok (.bipush (-7), 2) := by decide +kernel
theorem dX9_blow_20 : decode cX9_blow 20 = .ok (.ireturn, 1) := by decide +kernel
theorem dX9_blow_21 : decode cX9_blow 21 = .ok (.aload_n 0, 1) := by decide +kernel
theorem dX9_blow_22 : decode cX9_blow 22 = .ok (.getfield 10, 3) := by decide +kernel
theorem dX9_blow_25 : decode cX9_blow 25 = .ok (.iload_n 2, 1) := by decide +kernel
theorem dX9_blow_26 : decode cX9_blow 26 = .ok (.invokevirtual 149, 3) := by decide +kernel
theorem dX9_blow_29 : decode cX9_blow 29 = .ok (.astore 4, 2) := by decide +kernel
theorem dX9_blow_31 : decode cX9_blow 31 = .ok (.aload 4, 2) := by decide +kernel
theorem dX9_blow_33 : decode cX9_blow 33 = .ok (.iload_n 1, 1) := by decide +kernel
theorem dX9_blow_34 : decode cX9_blow 34 = .ok (.iaload, 1) := by decide +kernel
theorem dX9_blow_35 : decode cX9_blow 35 = .ok (.istore 5, 2) := by decide +kernel
theorem dX9_blow_37 : decode cX9_blow 37 = .ok (.aload 4, 2) := by decide +kernel
theorem dX9_blow_39 : decode cX9_blow 39 = .ok (.iload_n 1, 1) := by decide +kernel
theorem dX9_blow_40 : decode cX9_blow 40 = .ok (.iload_n 3, 1) := by decide +kernel
theorem dX9_blow_41 : decode cX9_blow 41 = .ok (.iastore, 1) := by decide +kernel
theorem dX9_blow_42 : decode cX9_blow 42 = .ok (.iload 5, 2) := by decide +kernel
theorem dX9_blow_44 : decode cX9_blow 44 = .ok (.ireturn, 1) := by decide +kernel
theorem dX9_told_0 : decode cX9_told 0 = .ok (.iload_n 2, 1) := by decide +kernel
theorem dX9_told_1 : decode cX9_told 1 = .ok (.iconst 0, 1) := by decide +kernel
theorem dX9_told_2 : decode cX9_told 2 = .ok (.iconst 4, 1) := by decide +kernel
theorem dX9_told_3 : decode cX9_told 3 = .ok (.invokestatic 133, 3) := by decide +kernel
theorem dX9_told_6 : decode cX9_told 6 = .ok (.ifCond .ne 6, 3) := by decide +kernel
theorem dX9_told_9 : decode cX9_told 9 = .ok (.bipush (-7), 2) := by decide +kernel
theorem dX9_told_11 : decode cX9_told 11 = .ok (.ireturn, 1) := by decide +kernel
theorem dX9_told_12 : decode cX9_told 12 = .ok (.iload_n 2, 1) := by decide +kernel
theorem dX9_told_13 : decode cX9_told 13 = .ok (.iconst 2, 1) := by decide +kernel
theorem dX9_told_14 : decode cX9_told 14 = .ok (.if_icmp .lt 28, 3) := by decide +kernel
theorem dX9_told_17 : decode cX9_told 17 = .ok (.iload_n 1, 1) := by decide +kernel
theorem dX9_told_18 : decode cX9_told 18 = .ok (.invokestatic 143, 3) := by decide +kernel
theorem dX9_told_21 : decode cX9_told 21 = .ok (.ifCond .eq 18, 3) := by decide +kernel
theorem dX9_told_24 : decode cX9_told 24 = .ok (.aload_n 0, 1) := by decide +kernel
theorem dX9_told_25 : decode cX9_told 25 = .ok (.getfield 10, 3) := by decide +kernel
theorem dX9_told_28 : decode cX9_told 28 = .ok (.iload_n 2, 1) := by decide +kernel
theorem dX9_told_29 : decode cX9_told 29 = .ok (.iconst 2, 1) := by decide +kernel
theorem dX9_told_30 : decode cX9_told 30 = .ok (.isub, 1) := by decide +kernel
theorem dX9_told_31 : decode cX9_told 31 = .ok (.invokevirtual 149, 3) := by decide +kernel
theorem dX9_told_34 : decode cX9_told 34 = .ok (.iload_n 1, 1) := by decide +kernel
theorem dX9_told_35 : decode cX9_told 35 = .ok (.iaload, 1) := by decide +kernel
theorem dX9_told_36 : decode cX9_told 36 = .ok (.goto 5, 3) := by decide +kernel
theorem dX9_told_39 : decode cX9_told 39 = .ok (.bipush (-5), 2) := by decide +kernel
theorem dX9_told_41 : decode cX9_told 41 = .ok (.ireturn, 1) := by decide +kernel
theorem dX9_told_42 : decode cX9_told 42 = .ok (.iload_n 1, 1) := by decide +kernel
theorem dX9_told_43 : decode cX9_told 43 = .ok (.invokestatic 119, 3) := by decide +kernel
theorem dX9_told_46 : decode cX9_told 46 = .ok (.ifCond .ne 6, 3) := by decide +kernel
theorem dX9_told_49 : decode cX9_told 49 = .ok (.bipush (-5), 2) := by decide +kernel
theorem dX9_told_51 : decode cX9_told 51 = .ok (.ireturn, 1) := by decide +kernel
theorem dX9_told_52 : decode cX9_told 52 = .ok (.iload_n 2, 1) := by decide +kernel
theorem dX9_told_53 : decode cX9_told 53 = .ok (.ifCond .ne 15, 3) := by decide +kernel
theorem dX9_told_56 : decode cX9_told 56 = .ok (.aload_n 0, 1) := by decide +kernel
theorem dX9_told_57 : decode cX9_told 57 = .ok (.getfield 10, 3) := by decide +kernel
theorem dX9_told_60 : decode cX9_told 60 = .ok (.getfield 127, 3) := by decide +kernel
theorem dX9_told_63 : decode cX9_told 63 = .ok (.iload_n 1, 1) := by decide +kernel
theorem dX9_told_64 : decode cX9_told 64 = .ok (.iaload, 1) := by decide +kernel
theorem dX9_told_65 : decode cX9_told 65 = .ok (.goto 12, 3) := by decide +kernel
theorem dX9_told_68 : decode cX9_told 68 = .ok (.aload_n 0, 1) := by decide +kernel
theorem dX9_told_69 : decode cX9_told 69 = .ok (.getfield 10, 3) := by decide +kernel
theorem dX9_told_72 : decode cX9_told 72 = .ok (.getfield 130, 3) := by decide +kernel
theorem dX9_told_75 : decode cX9_told 75 = .ok (.iload_n 1, 1) := by decide +kernel
theorem dX9_told_76 : decode cX9_told 76 = .ok (.iaload, 1) := by decide +kernel
theorem dX9_told_77 : decode cX9_told 77 = .ok (.ireturn, 1) := by decide +kernel
theorem dX9_count_0 : decode cX9_count 0 = .ok (.iload_n 1, 1) := by decide +kernel
theorem dX9_count_1 : decode cX9_count 1 = .ok (.tableswitch 63 0 4 #[35, 40, 45, 50, 55], 35) := by decide +kernel
theorem dX9_count_36 : decode cX9_count 36 = .ok (.aload_n 0, 1) := by decide +kernel
theorem dX9_count_37 : decode cX9_count 37 = .ok (.getfield 77, 3) := by decide +kernel
theorem dX9_count_40 : decode cX9_count 40 = .ok (.ireturn, 1) := by decide +kernel
theorem dX9_count_41 : decode cX9_count 41 = .ok (.aload_n 0, 1) := by decide +kernel
theorem dX9_count_42 : decode cX9_count 42 = .ok (.getfield 81, 3) := by decide +kernel
theorem dX9_count_45 : decode cX9_count 45 = .ok (.ireturn, 1) := by decide +kernel
theorem dX9_count_46 : decode cX9_count 46 = .ok (.aload_n 0, 1) := by decide +kernel
theorem dX9_count_47 : decode cX9_count 47 = .ok (.getfield 84, 3) := by decide +kernel
theorem dX9_count_50 : decode cX9_count 50 = .ok (.ireturn, 1) := by decide +kernel
theorem dX9_count_51 : decode cX9_count 51 = .ok (.aload_n 0, 1) := by decide +kernel
theorem dX9_count_52 : decode cX9_count 52 = .ok (.getfield 87, 3) := by decide +kernel
theorem dX9_count_55 : decode cX9_count 55 = .ok (.ireturn, 1) := by decide +kernel
theorem dX9_count_56 : decode cX9_count 56 = .ok (.aload_n 0, 1) := by decide +kernel
theorem dX9_count_57 : decode cX9_count 57 = .ok (.getfield 19, 3) := by decide +kernel
theorem dX9_count_60 : decode cX9_count 60 = .ok (.getfield 153, 3) := by decide +kernel
theorem dX9_count_63 : decode cX9_count 63 = .ok (.ireturn, 1) := by decide +kernel
theorem dX9_count_64 : decode cX9_count 64 = .ok (.bipush (-2), 2) := by decide +kernel
theorem dX9_count_66 : decode cX9_count 66 = .ok (.ireturn, 1) := by decide +kernel
theorem dX9_feed_0 : decode cX9_feed 0 = .ok (.iload_n 1, 1) := by decide +kernel
theorem dX9_feed_1 : decode cX9_feed 1 = .ok (.iconst 1, 1) := by decide +kernel
theorem dX9_feed_2 : decode cX9_feed 2 = .ok (.iconst 5, 1) := by decide +kernel
theorem dX9_feed_3 : decode cX9_feed 3 = .ok (.invokestatic 133, 3) := by decide +kernel
theorem dX9_feed_6 : decode cX9_feed 6 = .ok (.ifCond .eq 41, 3) := by decide +kernel
theorem dX9_feed_9 : decode cX9_feed 9 = .ok (.iload_n 2, 1) := by decide +kernel
theorem dX9_feed_10 : decode cX9_feed 10 = .ok (.invokestatic 156, 3) := by decide +kernel
theorem dX9_feed_13 : decode cX9_feed 13 = .ok (.ifCond .eq 34, 3) := by decide +kernel
theorem dX9_feed_16 : decode cX9_feed 16 = .ok (.iload_n 3, 1) := by decide +kernel
theorem dX9_feed_17 : decode cX9_feed 17 = .ok (.invokestatic 156, 3) := by decide +kernel
theorem dX9_feed_20 : decode cX9_feed 20 = .ok (.ifCond .eq 27, 3) := by decide +kernel
theorem dX9_feed_23 : decode cX9_feed 23 = .ok (.iload 4, 2) := by decide +kernel
theorem dX9_feed_25 : decode cX9_feed 25 = .ok (.invokestatic 156, 3) := by decide +kernel
theorem dX9_feed_28 : decode cX9_feed 28 = .ok (.ifCond .eq 19, 3) := by decide +kernel
theorem dX9_feed_31 : decode cX9_feed 31 = .ok (.iload 5, 2) := by decide +kernel
theorem dX9_feed_33 : decode cX9_feed 33 = .ok (.invokestatic 156, 3) := by decide +kernel
theorem dX9_feed_36 : decode cX9_feed 36 = .ok (.ifCond .eq 11, 3) := by decide +kernel
theorem dX9_feed_39 : decode cX9_feed 39 = .ok (.iload 6, 2) := by decide +kernel
theorem dX9_feed_41 : decode cX9_feed 41 = .ok (.invokestatic 156, 3) := by decide +kernel
theorem dX9_feed_44 : decode cX9_feed 44 = .ok (.ifCond .ne 6, 3) := by decide +kernel
theorem dX9_feed_47 : decode cX9_feed 47 = .ok (.bipush (-2), 2) := by decide +kernel
theorem dX9_feed_49 : decode cX9_feed 49 = .ok (.ireturn, 1) := by decide +kernel
theorem dX9_feed_50 : decode cX9_feed 50 = .ok (.aload_n 0, 1) := by decide +kernel
theorem dX9_feed_51 : decode cX9_feed 51 = .ok (.getfield 19, 3) := by decide +kernel
theorem dX9_feed_54 : decode cX9_feed 54 = .ok (.getfield 153, 3) := by decide +kernel
theorem dX9_feed_57 : decode cX9_feed 57 = .ok (.iload_n 1, 1) := by decide +kernel
theorem dX9_feed_58 : decode cX9_feed 58 = .ok (.iadd, 1) := by decide +kernel
theorem dX9_feed_59 : decode cX9_feed 59 = .ok (.sipush 160, 3) := by decide +kernel
theorem dX9_feed_62 : decode cX9_feed 62 = .ok (.if_icmp .le 6, 3) := by decide +kernel
theorem dX9_feed_65 : decode cX9_feed 65 = .ok (.bipush (-4), 2) := by decide +kernel
theorem dX9_feed_67 : decode cX9_feed 67 = .ok (.ireturn, 1) := by decide +kernel
theorem dX9_feed_68 : decode cX9_feed 68 = .ok (.aload_n 0, 1) := by decide +kernel
theorem dX9_feed_69 : decode cX9_feed 69 = .ok (.getfield 19, 3) := by decide +kernel
theorem dX9_feed_72 : decode cX9_feed 72 = .ok (.iload_n 2, 1) := by decide +kernel
theorem dX9_feed_73 : decode cX9_feed 73 = .ok (.invokevirtual 105, 3) := by decide +kernel
theorem dX9_feed_76 : decode cX9_feed 76 = .ok (.iload_n 1, 1) := by decide +kernel
theorem dX9_feed_77 : decode cX9_feed 77 = .ok (.iconst 1, 1) := by decide +kernel
theorem dX9_feed_78 : decode cX9_feed 78 = .ok (.if_icmp .le 11, 3) := by decide +kernel
theorem dX9_feed_81 : decode cX9_feed 81 = .ok (.aload_n 0, 1) := by decide +kernel
theorem dX9_feed_82 : decode cX9_feed 82 = .ok (.getfield 19, 3) := by decide +kernel
theorem dX9_feed_85 : decode cX9_feed 85 = .ok (.iload_n 3, 1) := by decide +kernel
theorem dX9_feed_86 : decode cX9_feed 86 = .ok (.invokevirtual 105, 3) := by decide +kernel
theorem dX9_feed_89 : decode cX9_feed 89 = .ok (.iload_n 1, 1) := by decide +kernel
theorem dX9_feed_90 : decode cX9_feed 90 = .ok (.iconst 2, 1) := by decide +kernel
theorem dX9_feed_91 : decode cX9_feed 91 = .ok (.if_icmp .le 12, 3) := by decide +kernel
theorem dX9_feed_94 : decode cX9_feed 94 = .ok (.aload_n 0, 1) := by decide +kernel
theorem dX9_feed_95 : decode cX9_feed 95 = .ok (.getfield 19, 3) := by decide +kernel
theorem dX9_feed_98 : decode cX9_feed 98 = .ok (.iload 4, 2) := by decide +kernel
theorem dX9_feed_100 : decode cX9_feed 100 = .ok (.invokevirtual 105, 3) := by decide +kernel
theorem dX9_feed_103 : decode cX9_feed 103 = .ok (.iload_n 1, 1) := by decide +kernel
theorem dX9_feed_104 : decode cX9_feed 104 = .ok (.iconst 3, 1) := by decide +kernel
theorem dX9_feed_105 : decode cX9_feed 105 = .ok (.if_icmp .le 12, 3) := by decide +kernel
theorem dX9_feed_108 : decode cX9_feed 108 = .ok (.aload_n 0, 1) := by decide +kernel
theorem dX9_feed_109 : decode cX9_feed 109 = .ok (.getfield 19, 3) := by decide +kernel
theorem dX9_feed_112 : decode cX9_feed 112 = .ok (.iload 5, 2) := by decide +kernel
theorem dX9_feed_114 : decode cX9_feed 114 = .ok (.invokevirtual 105, 3) := by decide +kernel
theorem dX9_feed_117 : decode cX9_feed 117 = .ok (.iload_n 1, 1) := by decide +kernel
theorem dX9_feed_118 : decode cX9_feed 118 = .ok (.iconst 4, 1) := by decide +kernel
theorem dX9_feed_119 : decode cX9_feed 119 = .ok (.if_icmp .le 12, 3) := by decide +kernel
theorem dX9_feed_122 : decode cX9_feed 122 = .ok (.aload_n 0, 1) := by decide +kernel
theorem dX9_feed_123 : decode cX9_feed 123 = .ok (.getfield 19, 3) := by decide +kernel
theorem dX9_feed_126 : decode cX9_feed 126 = .ok (.iload 6, 2) := by decide +kernel
theorem dX9_feed_128 : decode cX9_feed 128 = .ok (.invokevirtual 105, 3) := by decide +kernel
theorem dX9_feed_131 : decode cX9_feed 131 = .ok (.aload_n 0, 1) := by decide +kernel
theorem dX9_feed_132 : decode cX9_feed 132 = .ok (.getfield 19, 3) := by decide +kernel
theorem dX9_feed_135 : decode cX9_feed 135 = .ok (.getfield 153, 3) := by decide +kernel
theorem dX9_feed_138 : decode cX9_feed 138 = .ok (.ireturn, 1) := by decide +kernel
theorem dX9_text_0 : decode cX9_text 0 = .ok (.aload_n 0, 1) := by decide +kernel
theorem dX9_text_1 : decode cX9_text 1 = .ok (.getfield 84, 3) := by decide +kernel
theorem dX9_text_4 : decode cX9_text 4 = .ok (.bipush 6, 2) := by decide +kernel
theorem dX9_text_6 : decode cX9_text 6 = .ok (.if_icmp .lt 6, 3) := by decide +kernel
theorem dX9_text_9 : decode cX9_text 9 = .ok (.bipush (-4), 2) := by decide +kernel
theorem dX9_text_11 : decode cX9_text 11 = .ok (.ireturn, 1) := by decide +kernel
theorem dX9_text_12 : decode cX9_text 12 = .ok (.aload_n 0, 1) := by decide +kernel
theorem dX9_text_13 : decode cX9_text 13 = .ok (.getfield 19, 3) := by decide +kernel
theorem dX9_text_16 : decode cX9_text 16 = .ok (.aload_n 0, 1) := by decide +kernel
theorem dX9_text_17 : decode cX9_text 17 = .ok (.getfield 25, 3) := by decide +kernel
theorem dX9_text_20 : decode cX9_text 20 = .ok (.aload_n 0, 1) := by decide +kernel
theorem dX9_text_21 : decode cX9_text 21 = .ok (.getfield 84, 3) := by decide +kernel
theorem dX9_text_24 : decode cX9_text 24 = .ok (.aaload, 1) := by decide +kernel
theorem dX9_text_25 : decode cX9_text 25 = .ok (.invokevirtual 109, 3) := by decide +kernel
theorem dX9_text_28 : decode cX9_text 28 = .ok (.istore_n 1, 1) := by decide +kernel
theorem dX9_text_29 : decode cX9_text 29 = .ok (.aload_n 0, 1) := by decide +kernel
theorem dX9_text_30 : decode cX9_text 30 = .ok (.getfield 19, 3) := by decide +kernel
theorem dX9_text_33 : decode cX9_text 33 = .ok (.invokevirtual 113, 3) := by decide +kernel
theorem dX9_text_36 : decode cX9_text 36 = .ok (.iload_n 1, 1) := by decide +kernel
theorem dX9_text_37 : decode cX9_text 37 = .ok (.iconst (-1), 1) := by decide +kernel
theorem dX9_text_38 : decode cX9_text 38 = .ok (.if_icmp .eq 8, 3) := by decide +kernel
theorem dX9_text_41 : decode cX9_text 41 = .ok (.bipush (-100), 2) := by decide +kernel
theorem dX9_text_43 : decode cX9_text 43 = .ok (.iload_n 1, 1) := by decide +kernel
theorem dX9_text_44 : decode cX9_text 44 = .ok (.isub, 1) := by decide +kernel
theorem dX9_text_45 : decode cX9_text 45 = .ok (.ireturn, 1) := by decide +kernel
theorem dX9_text_46 : decode cX9_text 46 = .ok (.aload_n 0, 1) := by decide +kernel
theorem dX9_text_47 : decode cX9_text 47 = .ok (.dup, 1) := by decide +kernel
theorem dX9_text_48 : decode cX9_text 48 = .ok (.getfield 84, 3) := by decide +kernel
theorem dX9_text_51 : decode cX9_text 51 = .ok (.iconst 1, 1) := by decide +kernel
theorem dX9_text_52 : decode cX9_text 52 = .ok (.iadd, 1) := by decide +kernel
theorem dX9_text_53 : decode cX9_text 53 = .ok (.putfield 84, 3) := by decide +kernel
theorem dX9_text_56 : decode cX9_text 56 = .ok (.aload_n 0, 1) := by decide +kernel
theorem dX9_text_57 : decode cX9_text 57 = .ok (.getfield 84, 3) := by decide +kernel
theorem dX9_text_60 : decode cX9_text 60 = .ok (.iconst 1, 1) := by decide +kernel
theorem dX9_text_61 : decode cX9_text 61 = .ok (.isub, 1) := by decide +kernel
theorem dX9_text_62 : decode cX9_text 62 = .ok (.ireturn, 1) := by decide +kernel
theorem dX9_force_0 : decode cX9_force 0 = .ok (.iload_n 1, 1) := by decide +kernel
theorem dX9_force_1 : decode cX9_force 1 = .ok (.iconst 0, 1) := by decide +kernel
theorem dX9_force_2 : decode cX9_force 2 = .ok (.aload_n 0, 1) := by decide +kernel
theorem dX9_force_3 : decode cX9_force 3 = .ok (.getfield 84, 3) := by decide +kernel
theorem dX9_force_6 : decode cX9_force 6 = .ok (.iconst 1, 1) := by decide +kernel
theorem dX9_force_7 : decode cX9_force 7 = .ok (.isub, 1) := by decide +kernel
theorem dX9_force_8 : decode cX9_force 8 = .ok (.invokestatic 133, 3) := by decide +kernel
theorem dX9_force_11 : decode cX9_force 11 = .ok (.ifCond .ne 6, 3) := by decide +kernel
theorem dX9_force_14 : decode cX9_force 14 = .ok (.bipush (-2), 2) := by decide +kernel
theorem dX9_force_16 : decode cX9_force 16 = .ok (.ireturn, 1) := by decide +kernel
theorem dX9_force_17 : decode cX9_force 17 = .ok (.aload_n 0, 1) := by decide +kernel
theorem dX9_force_18 : decode cX9_force 18 = .ok (.getfield 87, 3) := by decide +kernel
theorem dX9_force_21 : decode cX9_force 21 = .ok (.istore_n 2, 1) := by decide +kernel
theorem dX9_force_22 : decode cX9_force 22 = .ok (.aload_n 0, 1) := by decide +kernel
theorem dX9_force_23 : decode cX9_force 23 = .ok (.iload_n 1, 1) := by decide +kernel
theorem dX9_force_24 : decode cX9_force 24 = .ok (.invokevirtual 159, 3) := by decide +kernel
theorem dX9_force_27 : decode cX9_force 27 = .ok (.iload_n 2, 1) := by decide +kernel
theorem dX9_force_28 : decode cX9_force 28 = .ok (.ireturn, 1) := by decide +kernel
theorem dX9_asks_0 : decode cX9_asks 0 = .ok (.iload_n 1, 1) := by decide +kernel
theorem dX9_asks_1 : decode cX9_asks 1 = .ok (.iconst 0, 1) := by decide +kernel
theorem dX9_asks_2 : decode cX9_asks 2 = .ok (.iconst 2, 1) := by decide +kernel
theorem dX9_asks_3 : decode cX9_asks 3 = .ok (.invokestatic 133, 3) := by decide +kernel
theorem dX9_asks_6 : decode cX9_asks 6 = .ok (.ifCond .eq 36, 3) := by decide +kernel
theorem dX9_asks_9 : decode cX9_asks 9 = .ok (.iload_n 2, 1) := by decide +kernel
theorem dX9_asks_10 : decode cX9_asks 10 = .ok (.iconst 0, 1) := by decide +kernel
theorem dX9_asks_11 : decode cX9_asks 11 = .ok (.sipush 9999, 3) := by decide +kernel
theorem dX9_asks_14 : decode cX9_asks 14 = .ok (.invokestatic 133, 3) := by decide +kernel
theorem dX9_asks_17 : decode cX9_asks 17 = .ok (.ifCond .eq 25, 3) := by decide +kernel
theorem dX9_asks_20 : decode cX9_asks 20 = .ok (.iload_n 3, 1) := by decide +kernel
theorem dX9_asks_21 : decode cX9_asks 21 = .ok (.iconst 0, 1) := by decide +kernel
theorem dX9_asks_22 : decode cX9_asks 22 = .ok (.sipush 9999, 3) := by decide +kernel
theorem dX9_asks_25 : decode cX9_asks 25 = .ok (.invokestatic 133, 3) := by decide +kernel
theorem dX9_asks_28 : decode cX9_asks 28 = .ok (.ifCond .eq 14, 3) := by decide +kernel
theorem dX9_asks_31 : decode cX9_asks 31 = .ok (.iload 4, 2) := by decide +kernel
theorem dX9_asks_33 : decode cX9_asks 33 = .ok (.iconst 0, 1) := by decide +kernel
theorem dX9_asks_34 : decode cX9_asks 34 = .ok (.bipush 39, 2) := by decide +kernel
theorem dX9_asks_36 : decode cX9_asks 36 = .ok (.invokestatic 133, 3) := by decide +kernel
theorem dX9_asks_39 : decode cX9_asks 39 = .ok (.ifCond .ne 6, 3) := by decide +kernel
theorem dX9_asks_42 : decode cX9_asks 42 = .ok (.bipush (-2), 2) := by decide +kernel
theorem dX9_asks_44 : decode cX9_asks 44 = .ok (.ireturn, 1) := by decide +kernel
theorem dX9_asks_45 : decode cX9_asks 45 = .ok (.aload_n 0, 1) := by decide +kernel
theorem dX9_asks_46 : decode cX9_asks 46 = .ok (.getfield 34, 3) := by decide +kernel
theorem dX9_asks_49 : decode cX9_asks 49 = .ok (.getfield 162, 3) := by decide +kernel
theorem dX9_asks_52 : decode cX9_asks 52 = .ok (.astore 5, 2) := by decide +kernel
theorem dX9_asks_54 : decode cX9_asks 54 = .ok (.aload 5, 2) := by decide +kernel
theorem dX9_asks_56 : decode cX9_asks 56 = .ok (.iconst 0, 1) := by decide +kernel
theorem dX9_asks_57 : decode cX9_asks 57 = .ok (.iload_n 2, 1) := by decide +kernel
theorem dX9_asks_58 : decode cX9_asks 58 = .ok (.bipush 100, 2) := by decide +kernel
theorem dX9_asks_60 : decode cX9_asks 60 = .ok (.idiv, 1) := by decide +kernel
theorem dX9_asks_61 : decode cX9_asks 61 = .ok (.iastore, 1) := by decide +kernel
theorem dX9_asks_62 : decode cX9_asks 62 = .ok (.aload 5, 2) := by decide +kernel
theorem dX9_asks_64 : decode cX9_asks 64 = .ok (.iconst 1, 1) := by decide +kernel
theorem dX9_asks_65 : decode cX9_asks 65 = .ok (.iload_n 2, 1) := by decide +kernel
theorem dX9_asks_66 : decode cX9_asks 66 = .ok (.bipush 100, 2) := by decide +kernel
theorem dX9_asks_68 : decode cX9_asks 68 = .ok (.irem, 1) := by decide +kernel
theorem dX9_asks_69 : decode cX9_asks 69 = .ok (.iastore, 1) := by decide +kernel
theorem dX9_asks_70 : decode cX9_asks 70 = .ok (.aload 5, 2) := by decide +kernel
theorem dX9_asks_72 : decode cX9_asks 72 = .ok (.iconst 2, 1) := by decide +kernel
theorem dX9_asks_73 : decode cX9_asks 73 = .ok (.iload_n 3, 1) := by decide +kernel
theorem dX9_asks_74 : decode cX9_asks 74 = .ok (.bipush 100, 2) := by decide +kernel
theorem dX9_asks_76 : decode cX9_asks 76 = .ok (.idiv, 1) := by decide +kernel
theorem dX9_asks_77 : decode cX9_asks 77 = .ok (.iastore, 1) := by decide +kernel
theorem dX9_asks_78 : decode cX9_asks 78 = .ok (.aload 5, 2) := by decide +kernel
theorem dX9_asks_80 : decode cX9_asks 80 = .ok (.iconst 3, 1) := by decide +kernel
theorem dX9_asks_81 : decode cX9_asks 81 = .ok (.iload_n 3, 1) := by decide +kernel
theorem dX9_asks_82 : decode cX9_asks 82 = .ok (.bipush 100, 2) := by decide +kernel
theorem dX9_asks_84 : decode cX9_asks 84 = .ok (.irem, 1) := by decide +kernel
theorem dX9_asks_85 : decode cX9_asks 85 = .ok (.iastore, 1) := by decide +kernel
theorem dX9_asks_86 : decode cX9_asks 86 = .ok (.aload 5, 2) := by decide +kernel
theorem dX9_asks_88 : decode cX9_asks 88 = .ok (.iconst 4, 1) := by decide +kernel
theorem dX9_asks_89 : decode cX9_asks 89 = .ok (.iload 4, 2) := by decide +kernel
theorem dX9_asks_91 : decode cX9_asks 91 = .ok (.bipush 10, 2) := by decide +kernel
theorem dX9_asks_93 : decode cX9_asks 93 = .ok (.idiv, 1) := by decide +kernel
theorem dX9_asks_94 : decode cX9_asks 94 = .ok (.iastore, 1) := by decide +kernel
theorem dX9_asks_95 : decode cX9_asks 95 = .ok (.aload 5, 2) := by decide +kernel
theorem dX9_asks_97 : decode cX9_asks 97 = .ok (.iconst 5, 1) := by decide +kernel
theorem dX9_asks_98 : decode cX9_asks 98 = .ok (.iload 4, 2) := by decide +kernel
theorem dX9_asks_100 : decode cX9_asks 100 = .ok (.bipush 10, 2) := by decide +kernel
theorem dX9_asks_102 : decode cX9_asks 102 = .ok (.irem, 1) := by decide +kernel
theorem dX9_asks_103 : decode cX9_asks 103 = .ok (.iastore, 1) := by decide +kernel
theorem dX9_asks_104 : decode cX9_asks 104 = .ok (.aload_n 0, 1) := by decide +kernel
theorem dX9_asks_105 : decode cX9_asks 105 = .ok (.getfield 34, 3) := by decide +kernel
theorem dX9_asks_108 : decode cX9_asks 108 = .ok (.iload_n 1, 1) := by decide +kernel
theorem dX9_asks_109 : decode cX9_asks 109 = .ok (.invokevirtual 165, 3) := by decide +kernel
theorem dX9_asks_112 : decode cX9_asks 112 = .ok (.ireturn, 1) := by decide +kernel
theorem dX9_boat_0 : decode cX9_boat 0 = .ok (.iload_n 1, 1) := by decide +kernel
theorem dX9_boat_1 : decode cX9_boat 1 = .ok (.iconst 0, 1) := by decide +kernel
theorem dX9_boat_2 : decode cX9_boat 2 = .ok (.iconst 5, 1) := by decide +kernel
theorem dX9_boat_3 : decode cX9_boat 3 = .ok (.invokestatic 133, 3) := by decide +kernel
theorem dX9_boat_6 : decode cX9_boat 6 = .ok (.ifCond .eq 32, 3) := by decide +kernel
theorem dX9_boat_9 : decode cX9_boat 9 = .ok (.iload_n 2, 1) := by decide +kernel
theorem dX9_boat_10 : decode cX9_boat 10 = .ok (.iconst 0, 1) := by decide +kernel
theorem dX9_boat_11 : decode cX9_boat 11 = .ok (.sipush 999, 3) := by decide +kernel
theorem dX9_boat_14 : decode cX9_boat 14 = .ok (.invokestatic 133, 3) := by decide +kernel
theorem dX9_boat_17 : decode cX9_boat 17 = .ok (.ifCond .eq 21, 3) := by decide +kernel
theorem dX9_boat_20 : decode cX9_boat 20 = .ok (.iload_n 3, 1) := by decide +kernel
theorem dX9_boat_21 : decode cX9_boat 21 = .ok (.invokestatic 119, 3) := by decide +kernel
theorem dX9_boat_24 : decode cX9_boat 24 = .ok (.ifCond .eq 14, 3) := by decide +kernel
theorem dX9_boat_27 : decode cX9_boat 27 = .ok (.iload 4, 2) := by decide +kernel
theorem dX9_boat_29 : decode cX9_boat 29 = .ok (.iconst 1, 1) := by decide +kernel
theorem dX9_boat_30 : decode cX9_boat 30 = .ok (.bipush 40, 2) := by decide +kernel
theorem dX9_boat_32 : decode cX9_boat 32 = .ok (.invokestatic 133, 3) := by decide +kernel
theorem dX9_boat_35 : decode cX9_boat 35 = .ok (.ifCond .ne 6, 3) := by decide +kernel
theorem dX9_boat_38 : decode cX9_boat 38 = .ok (.bipush (-2), 2) := by decide +kernel
theorem dX9_boat_40 : decode cX9_boat 40 = .ok (.ireturn, 1) := by decide +kernel
theorem dX9_boat_41 : decode cX9_boat 41 = .ok (.aload_n 0, 1) := by decide +kernel
theorem dX9_boat_42 : decode cX9_boat 42 = .ok (.getfield 81, 3) := by decide +kernel
theorem dX9_boat_45 : decode cX9_boat 45 = .ok (.bipush 6, 2) := by decide +kernel
theorem dX9_boat_47 : decode cX9_boat 47 = .ok (.if_icmp .lt 6, 3) := by decide +kernel
theorem dX9_boat_50 : decode cX9_boat 50 = .ok (.bipush (-4), 2) := by decide +kernel
theorem dX9_boat_52 : decode cX9_boat 52 = .ok (.ireturn, 1) := by decide +kernel
theorem dX9_boat_53 : decode cX9_boat 53 = .ok (.aload_n 0, 1) := by decide +kernel
theorem dX9_boat_54 : decode cX9_boat 54 = .ok (.getfield 40, 3) := by decide +kernel
theorem dX9_boat_57 : decode cX9_boat 57 = .ok (.aload_n 0, 1) := by decide +kernel
theorem dX9_boat_58 : decode cX9_boat 58 = .ok (.getfield 81, 3) := by decide +kernel
theorem dX9_boat_61 : decode cX9_boat 61 = .ok (.new 38, 3) := by decide +kernel
theorem dX9_boat_64 : decode cX9_boat 64 = .ok (.dup, 1) := by decide +kernel
theorem dX9_boat_65 : decode cX9_boat 65 = .ok (.iload_n 1, 1) := by decide +kernel
theorem dX9_boat_66 : decode cX9_boat 66 = .ok (.iload_n 2, 1) := by decide +kernel
theorem dX9_boat_67 : decode cX9_boat 67 = .ok (.iload_n 3, 1) := by decide +kernel
theorem dX9_boat_68 : decode cX9_boat 68 = .ok (.iload 4, 2) := by decide +kernel
theorem dX9_boat_70 : decode cX9_boat 70 = .ok (.invokespecial 169, 3) := by decide +kernel
theorem dX9_boat_73 : decode cX9_boat 73 = .ok (.aastore, 1) := by decide +kernel
theorem dX9_boat_74 : decode cX9_boat 74 = .ok (.aload_n 0, 1) := by decide +kernel
theorem dX9_boat_75 : decode cX9_boat 75 = .ok (.dup, 1) := by decide +kernel
theorem dX9_boat_76 : decode cX9_boat 76 = .ok (.getfield 81, 3) := by decide +kernel
theorem dX9_boat_79 : decode cX9_boat 79 = .ok (.iconst 1, 1) := by decide +kernel
theorem dX9_boat_80 : decode cX9_boat 80 = .ok (.iadd, 1) := by decide +kernel
theorem dX9_boat_81 : decode cX9_boat 81 = .ok (.putfield 81, 3) := by decide +kernel
theorem dX9_boat_84 : decode cX9_boat 84 = .ok (.aload_n 0, 1) := by decide +kernel
theorem dX9_boat_85 : decode cX9_boat 85 = .ok (.getfield 81, 3) := by decide +kernel
theorem dX9_boat_88 : decode cX9_boat 88 = .ok (.iconst 1, 1) := by decide +kernel
theorem dX9_boat_89 : decode cX9_boat 89 = .ok (.isub, 1) := by decide +kernel
theorem dX9_boat_90 : decode cX9_boat 90 = .ok (.ireturn, 1) := by decide +kernel
theorem dX9_let_0 : decode cX9_let 0 = .ok (.aload_n 0, 1) := by decide +kernel
theorem dX9_let_1 : decode cX9_let 1 = .ok (.iload_n 1, 1) := by decide +kernel
theorem dX9_let_2 : decode cX9_let 2 = .ok (.invokevirtual 172, 3) := by decide +kernel
theorem dX9_let_5 : decode cX9_let 5 = .ok (.astore 4, 2) := by decide +kernel
theorem dX9_let_7 : decode cX9_let 7 = .ok (.aload 4, 2) := by decide +kernel
theorem dX9_let_9 : decode cX9_let 9 = .ok (.ifnonnull 6, 3) := by decide +kernel
theorem dX9_let_12 : decode cX9_let 12 = .ok (.bipush (-5), 2) := by decide +kernel
theorem dX9_let_14 : decode cX9_let 14 = .ok (.ireturn, 1) := by decide +kernel
theorem dX9_let_15 : decode cX9_let 15 = .ok (.iload_n 2, 1) := by decide +kernel
theorem dX9_let_16 : decode cX9_let 16 = .ok (.ifCond .ne 26, 3) := by decide +kernel
theorem dX9_let_19 : decode cX9_let 19 = .ok (.iload_n 3, 1) := by decide +kernel
theorem dX9_let_20 : decode cX9_let 20 = .ok (.invokestatic 119, 3) := by decide +kernel
theorem dX9_let_23 : decode cX9_let 23 = .ok (.ifCond .eq 19, 3) := by decide +kernel
theorem dX9_let_26 : decode cX9_let 26 = .ok (.aload 4, 2) := by decide +kernel
theorem dX9_let_28 : decode cX9_let 28 = .ok (.getfield 176, 3) := by decide +kernel
theorem dX9_let_31 : decode cX9_let 31 = .ok (.istore 5, 2) := by decide +kernel
theorem dX9_let_33 : decode cX9_let 33 = .ok (.aload 4, 2) := by decide +kernel
theorem dX9_let_35 : decode cX9_let 35 = .ok (.iload_n 3, 1) := by decide +kernel
theorem dX9_let_36 : decode cX9_let 36 = .ok (.putfield 176, 3) := by decide +kernel
theorem dX9_let_39 : decode cX9_let 39 = .ok (.iload 5, 2) := by decide +kernel
theorem dX9_let_41 : decode cX9_let 41 = .ok (.ireturn, 1) := by decide +kernel
theorem dX9_let_42 : decode cX9_let 42 = .ok (.iload_n 2, 1) := by decide +kernel
theorem dX9_let_43 : decode cX9_let 43 = .ok (.iconst 1, 1) := by decide +kernel
theorem dX9_let_44 : decode cX9_let 44 = .ok (.if_icmp .ne 29, 3) := by decide +kernel
theorem dX9_let_47 : decode cX9_let 47 = .ok (.iload_n 3, 1) := by decide +kernel
theorem dX9_let_48 : decode cX9_let 48 = .ok (.iconst 1, 1) := by decide +kernel
theorem dX9_let_49 : decode cX9_let 49 = .ok (.bipush 40, 2) := by decide +kernel
theorem dX9_let_51 : decode cX9_let 51 = .ok (.invokestatic 133, 3) := by decide +kernel
theorem dX9_let_54 : decode cX9_let 54 = .ok (.ifCond .eq 19, 3) := by decide +kernel
theorem dX9_let_57 : decode cX9_let 57 = .ok (.aload 4, 2) := by decide +kernel
theorem dX9_let_59 : decode cX9_let 59 = .ok (.getfield 179, 3) := by decide +kernel
theorem dX9_let_62 : decode cX9_let 62 = .ok (.istore 5, 2) := by decide +kernel
theorem dX9_let_64 : decode cX9_let 64 = .ok (.aload 4, 2) := by decide +kernel
theorem dX9_let_66 : decode cX9_let 66 = .ok (.iload_n 3, 1) := by decide +kernel
theorem dX9_let_67 : decode cX9_let 67 = .ok (.putfield 179, 3) := by decide +kernel
theorem dX9_let_70 : decode cX9_let 70 = .ok (.iload 5, 2) := by decide +kernel
theorem dX9_let_72 : decode cX9_let 72 = .ok (.ireturn, 1) := by decide +kernel
theorem dX9_let_73 : decode cX9_let 73 = .ok (.bipush (-7), 2) := by decide +kernel
theorem dX9_let_75 : decode cX9_let 75 = .ok (.ireturn, 1) := by decide +kernel
theorem dX9_boatTold_0 : decode cX9_boatTold 0 = .ok (.aload_n 0, 1) := by decide +kernel
theorem dX9_boatTold_1 : decode cX9_boatTold 1 = .ok (.iload_n 1, 1) := by decide +kernel
theorem dX9_boatTold_2 : decode cX9_boatTold 2 = .ok (.invokevirtual 172, 3) := by decide +kernel
theorem dX9_boatTold_5 : decode cX9_boatTold 5 = .ok (.astore_n 3, 1) := by decide +kernel
theorem dX9_boatTold_6 : decode cX9_boatTold 6 = .ok (.aload_n 3, 1) := by decide +kernel
theorem dX9_boatTold_7 : decode cX9_boatTold 7 = .ok (.ifnonnull 6, 3) := by decide +kernel
theorem dX9_boatTold_10 : decode cX9_boatTold 10 = .ok (.bipush (-5), 2) := by decide +kernel
theorem dX9_boatTold_12 : decode cX9_boatTold 12 = .ok (.ireturn, 1) := by decide +kernel
theorem dX9_boatTold_13 : decode cX9_boatTold 13 = .ok (.iload_n 2, 1) := by decide +kernel
theorem dX9_boatTold_14 : decode cX9_boatTold 14 = .ok (.tableswitch 68 0 5 #[38, 43, 48, 53, 58, 63], 38) := by decide +kernel
theorem dX9_boatTold_52 : decode cX9_boatTold 52 = .ok (.aload_n 3, 1) := by decide +kernel
theorem dX9_boatTold_53 : decode cX9_boatTold 53 = .ok (.getfield 182, 3) := by decide +kernel
theorem dX9_boatTold_56 : decode cX9_boatTold 56 = .ok (.ireturn, 1) := by decide +kernel
theorem dX9_boatTold_57 : decode cX9_boatTold 57 = .ok (.aload_n 3, 1) := by decide +kernel
theorem dX9_boatTold_58 : decode cX9_boatTold 58 = .ok (.getfield 185, 3) := by decide +kernel
theorem dX9_boatTold_61 : decode cX9_boatTold 61 = .ok (.ireturn, 1) := by decide +kernel
theorem dX9_boatTold_62 : decode cX9_boatTold 62 = .ok (.aload_n 3, 1) := by decide +kernel
theorem dX9_boatTold_63 : decode cX9_boatTold 63 = .ok (.getfield 188, 3) := by decide +kernel
theorem dX9_boatTold_66 : decode cX9_boatTold 66 = .ok (.ireturn, 1) := by decide +kernel
theorem dX9_boatTold_67 : decode cX9_boatTold 67 = .ok (.aload_n 3, 1) := by decide +kernel
theorem dX9_boatTold_68 : decode cX9_boatTold 68 = .ok (.getfield 191, 3) := by decide +kernel
theorem dX9_boatTold_71 : decode cX9_boatTold 71 = .ok (.ireturn, 1) := by decide +kernel
theorem dX9_boatTold_72 : decode cX9_boatTold 72 = .ok (.aload_n 3, 1) := by decide +kernel
theorem dX9_boatTold_73 : decode cX9_boatTold 73 = .ok (.getfield 176, 3) := by decide +kernel
theorem dX9_boatTold_76 : decode cX9_boatTold 76 = .ok (.ireturn, 1) := by decide +kernel
theorem dX9_boatTold_77 : decode cX9_boatTold 77 = .ok (.aload_n 3, 1) := by decide +kernel
theorem dX9_boatTold_78 : decode cX9_boatTold 78 = .ok (.getfield 179, 3) := by decide +kernel
theorem dX9_boatTold_81 : decode cX9_boatTold 81 = .ok (.ireturn, 1) := by decide +kernel
theorem dX9_boatTold_82 : decode cX9_boatTold 82 = .ok (.bipush (-7), 2) := by decide +kernel
theorem dX9_boatTold_84 : decode cX9_boatTold 84 = .ok (.ireturn, 1) := by decide +kernel
theorem dX9_hold_0 : decode cX9_hold 0 = .ok (.aload_n 0, 1) := by decide +kernel
theorem dX9_hold_1 : decode cX9_hold 1 = .ok (.iload_n 1, 1) := by decide +kernel
theorem dX9_hold_2 : decode cX9_hold 2 = .ok (.invokevirtual 172, 3) := by decide +kernel
theorem dX9_hold_5 : decode cX9_hold 5 = .ok (.astore 4, 2) := by decide +kernel
theorem dX9_hold_7 : decode cX9_hold 7 = .ok (.aload 4, 2) := by decide +kernel
theorem dX9_hold_9 : decode cX9_hold 9 = .ok (.iload_n 2, 1) := by decide +kernel
theorem dX9_hold_10 : decode cX9_hold 10 = .ok (.invokestatic 143, 3) := by decide +kernel
theorem dX9_hold_13 : decode cX9_hold 13 = .ok (.ifCond .eq 16, 3) := by decide +kernel
theorem dX9_hold_16 : decode cX9_hold 16 = .ok (.iload_n 3, 1) := by decide +kernel
theorem dX9_hold_17 : decode cX9_hold 17 = .ok (.iconst 0, 1) := by decide +kernel
theorem dX9_hold_18 : decode cX9_hold 18 = .ok (.iconst 3, 1) := by decide +kernel
theorem dX9_hold_19 : decode cX9_hold 19 = .ok (.invokestatic 133, 3) := by decide +kernel
theorem dX9_hold_22 : decode cX9_hold 22 = .ok (.ifCond .eq 7, 3) := by decide +kernel
theorem dX9_hold_25 : decode cX9_hold 25 = .ok (.iconst 1, 1) := by decide +kernel
theorem dX9_hold_26 : decode cX9_hold 26 = .ok (.goto 4, 3) := by decide +kernel
theorem dX9_hold_29 : decode cX9_hold 29 = .ok (.iconst 0, 1) := by decide +kernel
theorem dX9_hold_30 : decode cX9_hold 30 = .ok (.invokestatic 194, 3) := by decide +kernel
theorem dX9_hold_33 : decode cX9_hold 33 = .ok (.istore 5, 2) := by decide +kernel
theorem dX9_hold_35 : decode cX9_hold 35 = .ok (.aload 4, 2) := by decide +kernel
theorem dX9_hold_37 : decode cX9_hold 37 = .ok (.ifnull 8, 3) := by decide +kernel
theorem dX9_hold_40 : decode cX9_hold 40 = .ok (.iload 5, 2) := by decide +kernel
theorem dX9_hold_42 : decode cX9_hold 42 = .ok (.ifCond .eq 6, 3) := by decide +kernel
theorem dX9_hold_45 : decode cX9_hold 45 = .ok (.iload 5, 2) := by decide +kernel
theorem dX9_hold_47 : decode cX9_hold 47 = .ok (.ireturn, 1) := by decide +kernel
theorem dX9_hold_48 : decode cX9_hold 48 = .ok (.aload_n 0, 1) := by decide +kernel
theorem dX9_hold_49 : decode cX9_hold 49 = .ok (.getfield 10, 3) := by decide +kernel
theorem dX9_hold_52 : decode cX9_hold 52 = .ok (.aload 4, 2) := by decide +kernel
theorem dX9_hold_54 : decode cX9_hold 54 = .ok (.getfield 176, 3) := by decide +kernel
theorem dX9_hold_57 : decode cX9_hold 57 = .ok (.iload_n 2, 1) := by decide +kernel
theorem dX9_hold_58 : decode cX9_hold 58 = .ok (.invokevirtual 198, 3) := by decide +kernel
theorem dX9_hold_61 : decode cX9_hold 61 = .ok (.istore 6, 2) := by decide +kernel
theorem dX9_hold_63 : decode cX9_hold 63 = .ok (.iload_n 3, 1) := by decide +kernel
theorem dX9_hold_64 : decode cX9_hold 64 = .ok (.tableswitch 81 0 2 #[28, 49, 70], 28) := by decide +kernel
theorem dX9_hold_92 : decode cX9_hold 92 = .ok (.aload_n 0, 1) := by decide +kernel
theorem dX9_hold_93 : decode cX9_hold 93 = .ok (.getfield 34, 3) := by decide +kernel
theorem dX9_hold_96 : decode cX9_hold 96 = .ok (.aload 4, 2) := by decide +kernel
theorem dX9_hold_98 : decode cX9_hold 98 = .ok (.aload 4, 2) := by decide +kernel
theorem dX9_hold_100 : decode cX9_hold 100 = .ok (.getfield 176, 3) := by decide +kernel
theorem dX9_hold_103 : decode cX9_hold 103 = .ok (.aload 4, 2) := by decide +kernel
theorem dX9_hold_105 : decode cX9_hold 105 = .ok (.getfield 179, 3) := by decide +kernel
theorem dX9_hold_108 : decode cX9_hold 108 = .ok (.iload_n 2, 1) := by decide +kernel
theorem dX9_hold_109 : decode cX9_hold 109 = .ok (.invokevirtual 201, 3) := by decide +kernel
theorem dX9_hold_112 : decode cX9_hold 112 = .ok (.ireturn, 1) := by decide +kernel
theorem dX9_hold_113 : decode cX9_hold 113 = .ok (.aload_n 0, 1) := by decide +kernel
theorem dX9_hold_114 : decode cX9_hold 114 = .ok (.getfield 34, 3) := by decide +kernel
theorem dX9_hold_117 : decode cX9_hold 117 = .ok (.aload 4, 2) := by decide +kernel
theorem dX9_hold_119 : decode cX9_hold 119 = .ok (.aload 4, 2) := by decide +kernel
theorem dX9_hold_121 : decode cX9_hold 121 = .ok (.getfield 176, 3) := by decide +kernel
theorem dX9_hold_124 : decode cX9_hold 124 = .ok (.aload 4, 2) := by decide +kernel
theorem dX9_hold_126 : decode cX9_hold 126 = .ok (.getfield 179, 3) := by decide +kernel
theorem dX9_hold_129 : decode cX9_hold 129 = .ok (.iload_n 2, 1) := by decide +kernel
theorem dX9_hold_130 : decode cX9_hold 130 = .ok (.invokevirtual 205, 3) := by decide +kernel
theorem dX9_hold_133 : decode cX9_hold 133 = .ok (.ireturn, 1) := by decide +kernel
theorem dX9_hold_134 : decode cX9_hold 134 = .ok (.aload 4, 2) := by decide +kernel
theorem dX9_hold_136 : decode cX9_hold 136 = .ok (.getfield 179, 3) := by decide +kernel
theorem dX9_hold_139 : decode cX9_hold 139 = .ok (.iload 6, 2) := by decide +kernel
theorem dX9_hold_141 : decode cX9_hold 141 = .ok (.invokestatic 208, 3) := by decide +kernel
theorem dX9_hold_144 : decode cX9_hold 144 = .ok (.ireturn, 1) := by decide +kernel
theorem dX9_hold_145 : decode cX9_hold 145 = .ok (.iload 6, 2) := by decide +kernel
theorem dX9_hold_147 : decode cX9_hold 147 = .ok (.ifCond .gt 8, 3) := by decide +kernel
theorem dX9_hold_150 : decode cX9_hold 150 = .ok (.bipush 100, 2) := by decide +kernel
theorem dX9_hold_152 : decode cX9_hold 152 = .ok (.goto 21, 3) := by decide +kernel
theorem dX9_hold_155 : decode cX9_hold 155 = .ok (.bipush 100, 2) := by decide +kernel
theorem dX9_hold_157 : decode cX9_hold 157 = .ok (.bipush 100, 2) := by decide +kernel
theorem dX9_hold_159 : decode cX9_hold 159 = .ok (.aload 4, 2) := by decide +kernel
theorem dX9_hold_161 : decode cX9_hold 161 = .ok (.getfield 179, 3) := by decide +kernel
theorem dX9_hold_164 : decode cX9_hold 164 = .ok (.imul, 1) := by decide +kernel
theorem dX9_hold_165 : decode cX9_hold 165 = .ok (.iconst 3, 1) := by decide +kernel
theorem dX9_hold_166 : decode cX9_hold 166 = .ok (.iload 6, 2) := by decide +kernel
theorem dX9_hold_168 : decode cX9_hold 168 = .ok (.imul, 1) := by decide +kernel
theorem dX9_hold_169 : decode cX9_hold 169 = .ok (.idiv, 1) := by decide +kernel
theorem dX9_hold_170 : decode cX9_hold 170 = .ok (.invokestatic 137, 3) := by decide +kernel
theorem dX9_hold_173 : decode cX9_hold 173 = .ok (.ireturn, 1) := by decide +kernel
theorem dX9_night_0 : decode cX9_night 0 = .ok (.aload_n 0, 1) := by decide +kernel
theorem dX9_night_1 : decode cX9_night 1 = .ok (.iload_n 2, 1) := by decide +kernel
theorem dX9_night_2 : decode cX9_night 2 = .ok (.invokevirtual 172, 3) := by decide +kernel
theorem dX9_night_5 : decode cX9_night 5 = .ok (.astore 4, 2) := by decide +kernel
theorem dX9_night_7 : decode cX9_night 7 = .ok (.aload 4, 2) := by decide +kernel
theorem dX9_night_9 : decode cX9_night 9 = .ok (.ifnonnull 6, 3) := by decide +kernel
theorem dX9_night_12 : decode cX9_night 12 = .ok (.bipush (-5), 2) := by decide +kernel
theorem dX9_night_14 : decode cX9_night 14 = .ok (.ireturn, 1) := by decide +kernel
theorem dX9_night_15 : decode cX9_night 15 = .ok (.aload_n 0, 1) := by decide +kernel
theorem dX9_night_16 : decode cX9_night 16 = .ok (.iload_n 1, 1) := by decide +kernel
theorem dX9_night_17 : decode cX9_night 17 = .ok (.invokevirtual 211, 3) := by decide +kernel
theorem dX9_night_20 : decode cX9_night 20 = .ok (.ifCond .eq 12, 3) := by decide +kernel
theorem dX9_night_23 : decode cX9_night 23 = .ok (.iload_n 3, 1) := by decide +kernel
theorem dX9_night_24 : decode cX9_night 24 = .ok (.iconst 0, 1) := by decide +kernel
theorem dX9_night_25 : decode cX9_night 25 = .ok (.iconst 3, 1) := by decide +kernel
theorem dX9_night_26 : decode cX9_night 26 = .ok (.invokestatic 133, 3) := by decide +kernel
theorem dX9_night_29 : decode cX9_night 29 = .ok (.ifCond .ne 6, 3) := by decide +kernel
theorem dX9_night_32 : decode cX9_night 32 = .ok (.bipush (-7), 2) := by decide +kernel
theorem dX9_night_34 : decode cX9_night 34 = .ok (.ireturn, 1) := by decide +kernel
theorem dX9_night_35 : decode cX9_night 35 = .ok (.aload_n 0, 1) := by decide +kernel
theorem dX9_night_36 : decode cX9_night 36 = .ok (.iload_n 2, 1) := by decide +kernel
theorem dX9_night_37 : decode cX9_night 37 = .ok (.aload 4, 2) := by decide +kernel
theorem dX9_night_39 : decode cX9_night 39 = .ok (.iload_n 1, 1) := by decide +kernel
theorem dX9_night_40 : decode cX9_night 40 = .ok (.invokevirtual 214, 3) := by decide +kernel
theorem dX9_night_43 : decode cX9_night 43 = .ok (.astore 5, 2) := by decide +kernel
theorem dX9_night_45 : decode cX9_night 45 = .ok (.iload_n 3, 1) := by decide +kernel
theorem dX9_night_46 : decode cX9_night 46 = .ok (.tableswitch 44 0 2 #[26, 32, 38], 26) := by decide +kernel
theorem dX9_night_72 : decode cX9_night 72 = .ok (.aload 5, 2) := by decide +kernel
theorem dX9_night_74 : decode cX9_night 74 = .ok (.getfield 218, 3) := by decide +kernel
theorem dX9_night_77 : decode cX9_night 77 = .ok (.ireturn, 1) := by decide +kernel
theorem dX9_night_78 : decode cX9_night 78 = .ok (.aload 5, 2) := by decide +kernel
theorem dX9_night_80 : decode cX9_night 80 = .ok (.getfield 219, 3) := by decide +kernel
theorem dX9_night_83 : decode cX9_night 83 = .ok (.ireturn, 1) := by decide +kernel
theorem dX9_night_84 : decode cX9_night 84 = .ok (.aload 5, 2) := by decide +kernel
theorem dX9_night_86 : decode cX9_night 86 = .ok (.getfield 222, 3) := by decide +kernel
theorem dX9_night_89 : decode cX9_night 89 = .ok (.ireturn, 1) := by decide +kernel
theorem dX9_night_90 : decode cX9_night 90 = .ok (.iload_n 1, 1) := by decide +kernel
theorem dX9_night_91 : decode cX9_night 91 = .ok (.ifCond .ne 7, 3) := by decide +kernel
theorem dX9_night_94 : decode cX9_night 94 = .ok (.iconst (-1), 1) := by decide +kernel
theorem dX9_night_95 : decode cX9_night 95 = .ok (.goto 16, 3) := by decide +kernel
theorem dX9_night_98 : decode cX9_night 98 = .ok (.aload 5, 2) := by decide +kernel
theorem dX9_night_100 : decode cX9_night 100 = .ok (.aload_n 0, 1) := by decide +kernel
theorem dX9_night_101 : decode cX9_night 101 = .ok (.getfield 77, 3) := by decide +kernel
theorem dX9_night_104 : decode cX9_night 104 = .ok (.iload_n 1, 1) := by decide +kernel
theorem dX9_night_105 : decode cX9_night 105 = .ok (.iadd, 1) := by decide +kernel
theorem dX9_night_106 : decode cX9_night 106 = .ok (.iconst 1, 1) := by decide +kernel
theorem dX9_night_107 : decode cX9_night 107 = .ok (.isub, 1) := by decide +kernel
theorem dX9_night_108 : decode cX9_night 108 = .ok (.invokevirtual 225, 3) := by decide +kernel
theorem dX9_night_111 : decode cX9_night 111 = .ok (.ireturn, 1) := by decide +kernel
theorem dX9_fleet_0 : decode cX9_fleet 0 = .ok (.aload_n 0, 1) := by decide +kernel
theorem dX9_fleet_1 : decode cX9_fleet 1 = .ok (.iload_n 1, 1) := by decide +kernel
theorem dX9_fleet_2 : decode cX9_fleet 2 = .ok (.invokevirtual 211, 3) := by decide +kernel
theorem dX9_fleet_5 : decode cX9_fleet 5 = .ok (.ifCond .eq 12, 3) := by decide +kernel
theorem dX9_fleet_8 : decode cX9_fleet 8 = .ok (.iload_n 2, 1) := by decide +kernel
theorem dX9_fleet_9 : decode cX9_fleet 9 = .ok (.iconst 0, 1) := by decide +kernel
theorem dX9_fleet_10 : decode cX9_fleet 10 = .ok (.iconst 3, 1) := by decide +kernel
theorem dX9_fleet_11 : decode cX9_fleet 11 = .ok (.invokestatic 133, 3) := by decide +kernel
theorem dX9_fleet_14 : decode cX9_fleet 14 = .ok (.ifCond .ne 6, 3) := by decide +kernel
theorem dX9_fleet_17 : decode cX9_fleet 17 = .ok (.bipush (-2), 2) := by decide +kernel
theorem dX9_fleet_19 : decode cX9_fleet 19 = .ok (.ireturn, 1) := by decide +kernel
theorem dX9_fleet_20 : decode cX9_fleet 20 = .ok (.aload_n 0, 1) := by decide +kernel
theorem dX9_fleet_21 : decode cX9_fleet 21 = .ok (.iload_n 1, 1) := by decide +kernel
theorem dX9_fleet_22 : decode cX9_fleet 22 = .ok (.invokevirtual 228, 3) := by decide +kernel
theorem dX9_fleet_25 : decode cX9_fleet 25 = .ok (.iload_n 2, 1) := by decide +kernel
theorem dX9_fleet_26 : decode cX9_fleet 26 = .ok (.iconst 2, 1) := by decide +kernel
theorem dX9_fleet_27 : decode cX9_fleet 27 = .ok (.if_icmp .ne 9, 3) := by decide +kernel
theorem dX9_fleet_30 : decode cX9_fleet 30 = .ok (.aload_n 0, 1) := by decide +kernel
theorem dX9_fleet_31 : decode cX9_fleet 31 = .ok (.iload_n 1, 1) := by decide +kernel
theorem dX9_fleet_32 : decode cX9_fleet 32 = .ok (.invokevirtual 231, 3) := by decide +kernel
theorem dX9_fleet_35 : decode cX9_fleet 35 = .ok (.ireturn, 1) := by decide +kernel
theorem dX9_fleet_36 : decode cX9_fleet 36 = .ok (.iload_n 2, 1) := by decide +kernel
theorem dX9_fleet_37 : decode cX9_fleet 37 = .ok (.iconst 3, 1) := by decide +kernel
theorem dX9_fleet_38 : decode cX9_fleet 38 = .ok (.if_icmp .ne 8, 3) := by decide +kernel
theorem dX9_fleet_41 : decode cX9_fleet 41 = .ok (.aload_n 0, 1) := by decide +kernel
theorem dX9_fleet_42 : decode cX9_fleet 42 = .ok (.invokevirtual 234, 3) := by decide +kernel
theorem dX9_fleet_45 : decode cX9_fleet 45 = .ok (.ireturn, 1) := by decide +kernel
theorem dX9_fleet_46 : decode cX9_fleet 46 = .ok (.aload_n 0, 1) := by decide +kernel
theorem dX9_fleet_47 : decode cX9_fleet 47 = .ok (.invokevirtual 237, 3) := by decide +kernel
theorem dX9_fleet_50 : decode cX9_fleet 50 = .ok (.istore_n 3, 1) := by decide +kernel
theorem dX9_fleet_51 : decode cX9_fleet 51 = .ok (.iload_n 2, 1) := by decide +kernel
theorem dX9_fleet_52 : decode cX9_fleet 52 = .ok (.ifCond .eq 8, 3) := by decide +kernel
theorem dX9_fleet_55 : decode cX9_fleet 55 = .ok (.iload_n 3, 1) := by decide +kernel
theorem dX9_fleet_56 : decode cX9_fleet 56 = .ok (.iconst (-1), 1) := by decide +kernel
theorem dX9_fleet_57 : decode cX9_fleet 57 = .ok (.if_icmp .ne 7, 3) := by decide +kernel
theorem dX9_fleet_60 : decode cX9_fleet 60 = .ok (.iload_n 3, 1) := by decide +kernel
theorem dX9_fleet_61 : decode cX9_fleet 61 = .ok (.goto 12, 3) := by decide +kernel
theorem dX9_fleet_64 : decode cX9_fleet 64 = .ok (.aload_n 0, 1) := by decide +kernel
theorem dX9_fleet_65 : decode cX9_fleet 65 = .ok (.getfield 46, 3) := by decide +kernel
theorem dX9_fleet_68 : decode cX9_fleet 68 = .ok (.iload_n 3, 1) := by decide +kernel
theorem dX9_fleet_69 : decode cX9_fleet 69 = .ok (.aaload, 1) := by decide +kernel
theorem dX9_fleet_70 : decode cX9_fleet 70 = .ok (.getfield 222, 3) := by decide +kernel
theorem dX9_fleet_73 : decode cX9_fleet 73 = .ok (.ireturn, 1) := by decide +kernel
theorem dX9_hit_0 : decode cX9_hit 0 = .ok (.aload_n 0, 1) := by decide +kernel
theorem dX9_hit_1 : decode cX9_hit 1 = .ok (.iload_n 1, 1) := by decide +kernel
theorem dX9_hit_2 : decode cX9_hit 2 = .ok (.invokevirtual 211, 3) := by decide +kernel
theorem dX9_hit_5 : decode cX9_hit 5 = .ok (.ifCond .eq 12, 3) := by decide +kernel
theorem dX9_hit_8 : decode cX9_hit 8 = .ok (.iload_n 3, 1) := by decide +kernel
theorem dX9_hit_9 : decode cX9_hit 9 = .ok (.iconst 0, 1) := by decide +kernel
theorem dX9_hit_10 : decode cX9_hit 10 = .ok (.iconst 2, 1) := by decide +kernel
theorem dX9_hit_11 : decode cX9_hit 11 = .ok (.invokestatic 133, 3) := by decide +kernel
theorem dX9_hit_14 : decode cX9_hit 14 = .ok (.ifCond .ne 6, 3) := by decide +kernel
theorem dX9_hit_17 : decode cX9_hit 17 = .ok (.bipush (-2), 2) := by decide +kernel
theorem dX9_hit_19 : decode cX9_hit 19 = .ok (.ireturn, 1) := by decide +kernel
theorem dX9_hit_20 : decode cX9_hit 20 = .ok (.aload_n 0, 1) := by decide +kernel
theorem dX9_hit_21 : decode cX9_hit 21 = .ok (.iload_n 1, 1) := by decide +kernel
theorem dX9_hit_22 : decode cX9_hit 22 = .ok (.invokevirtual 228, 3) := by decide +kernel
theorem dX9_hit_25 : decode cX9_hit 25 = .ok (.iload_n 2, 1) := by decide +kernel
theorem dX9_hit_26 : decode cX9_hit 26 = .ok (.iconst 0, 1) := by decide +kernel
theorem dX9_hit_27 : decode cX9_hit 27 = .ok (.aload_n 0, 1) := by decide +kernel
theorem dX9_hit_28 : decode cX9_hit 28 = .ok (.iload_n 1, 1) := by decide +kernel
theorem dX9_hit_29 : decode cX9_hit 29 = .ok (.invokevirtual 231, 3) := by decide +kernel
theorem dX9_hit_32 : decode cX9_hit 32 = .ok (.iconst 1, 1) := by decide +kernel
theorem dX9_hit_33 : decode cX9_hit 33 = .ok (.isub, 1) := by decide +kernel
theorem dX9_hit_34 : decode cX9_hit 34 = .ok (.invokestatic 133, 3) := by decide +kernel
theorem dX9_hit_37 : decode cX9_hit 37 = .ok (.ifCond .ne 5, 3) := by decide +kernel
theorem dX9_hit_40 : decode cX9_hit 40 = .ok (.iconst (-1), 1) := by decide +kernel
theorem dX9_hit_41 : decode cX9_hit 41 = .ok (.ireturn, 1) := by decide +kernel
theorem dX9_hit_42 : decode cX9_hit 42 = .ok (.iload_n 3, 1) := by decide +kernel
theorem dX9_hit_43 : decode cX9_hit 43 = .ok (.lookupswitch 48 #[(0, 25), (1, 35)], 25) := by decide +kernel
theorem dX9_hit_68 : decode cX9_hit 68 = .ok (.aload_n 0, 1) := by decide +kernel
theorem dX9_hit_69 : decode cX9_hit 69 = .ok (.getfield 50, 3) := by decide +kernel
theorem dX9_hit_72 : decode cX9_hit 72 = .ok (.iload_n 2, 1) := by decide +kernel
theorem dX9_hit_73 : decode cX9_hit 73 = .ok (.iaload, 1) := by decide +kernel
theorem dX9_hit_74 : decode cX9_hit 74 = .ok (.bipush 100, 2) := by decide +kernel
theorem dX9_hit_76 : decode cX9_hit 76 = .ok (.idiv, 1) := by decide +kernel
theorem dX9_hit_77 : decode cX9_hit 77 = .ok (.ireturn, 1) := by decide +kernel
theorem dX9_hit_78 : decode cX9_hit 78 = .ok (.aload_n 0, 1) := by decide +kernel
theorem dX9_hit_79 : decode cX9_hit 79 = .ok (.getfield 50, 3) := by decide +kernel
theorem dX9_hit_82 : decode cX9_hit 82 = .ok (.iload_n 2, 1) := by decide +kernel
theorem dX9_hit_83 : decode cX9_hit 83 = .ok (.iaload, 1) := by decide +kernel
theorem dX9_hit_84 : decode cX9_hit 84 = .ok (.bipush 10, 2) := by decide +kernel
theorem dX9_hit_86 : decode cX9_hit 86 = .ok (.idiv, 1) := by decide +kernel
theorem dX9_hit_87 : decode cX9_hit 87 = .ok (.bipush 10, 2) := by decide +kernel
theorem dX9_hit_89 : decode cX9_hit 89 = .ok (.irem, 1) := by decide +kernel
theorem dX9_hit_90 : decode cX9_hit 90 = .ok (.ireturn, 1) := by decide +kernel
theorem dX9_hit_91 : decode cX9_hit 91 = .ok (.aload_n 0, 1) := by decide +kernel
theorem dX9_hit_92 : decode cX9_hit 92 = .ok (.getfield 50, 3) := by decide +kernel
theorem dX9_hit_95 : decode cX9_hit 95 = .ok (.iload_n 2, 1) := by decide +kernel
theorem dX9_hit_96 : decode cX9_hit 96 = .ok (.iaload, 1) := by decide +kernel
theorem dX9_hit_97 : decode cX9_hit 97 = .ok (.bipush 10, 2) := by decide +kernel
theorem dX9_hit_99 : decode cX9_hit 99 = .ok (.irem, 1) := by decide +kernel
theorem dX9_hit_100 : decode cX9_hit 100 = .ok (.ireturn, 1) := by decide +kernel
theorem dX9_wake_0 : decode cX9_wake 0 = .ok (.aload_n 0, 1) := by decide +kernel
theorem dX9_wake_1 : decode cX9_wake 1 = .ok (.iload_n 1, 1) := by decide +kernel
theorem dX9_wake_2 : decode cX9_wake 2 = .ok (.invokevirtual 211, 3) := by decide +kernel
theorem dX9_wake_5 : decode cX9_wake 5 = .ok (.ifCond .ne 6, 3) := by decide +kernel
theorem dX9_wake_8 : decode cX9_wake 8 = .ok (.bipush (-2), 2) := by decide +kernel
theorem dX9_wake_10 : decode cX9_wake 10 = .ok (.ireturn, 1) := by decide +kernel
theorem dX9_wake_11 : decode cX9_wake 11 = .ok (.aload_n 0, 1) := by decide +kernel
theorem dX9_wake_12 : decode cX9_wake 12 = .ok (.iload_n 1, 1) := by decide +kernel
theorem dX9_wake_13 : decode cX9_wake 13 = .ok (.invokevirtual 228, 3) := by decide +kernel
theorem dX9_wake_16 : decode cX9_wake 16 = .ok (.aload_n 0, 1) := by decide +kernel
theorem dX9_wake_17 : decode cX9_wake 17 = .ok (.iload_n 1, 1) := by decide +kernel
theorem dX9_wake_18 : decode cX9_wake 18 = .ok (.invokevirtual 231, 3) := by decide +kernel
theorem dX9_wake_21 : decode cX9_wake 21 = .ok (.ifCond .ne 5, 3) := by decide +kernel
theorem dX9_wake_24 : decode cX9_wake 24 = .ok (.iconst (-1), 1) := by decide +kernel
theorem dX9_wake_25 : decode cX9_wake 25 = .ok (.ireturn, 1) := by decide +kernel
theorem dX9_wake_26 : decode cX9_wake 26 = .ok (.aload_n 0, 1) := by decide +kernel
theorem dX9_wake_27 : decode cX9_wake 27 = .ok (.getfield 50, 3) := by decide +kernel
theorem dX9_wake_30 : decode cX9_wake 30 = .ok (.iconst 0, 1) := by decide +kernel
theorem dX9_wake_31 : decode cX9_wake 31 = .ok (.iaload, 1) := by decide +kernel
theorem dX9_wake_32 : decode cX9_wake 32 = .ok (.bipush 10, 2) := by decide +kernel
theorem dX9_wake_34 : decode cX9_wake 34 = .ok (.idiv, 1) := by decide +kernel
theorem dX9_wake_35 : decode cX9_wake 35 = .ok (.bipush 10, 2) := by decide +kernel
theorem dX9_wake_37 : decode cX9_wake 37 = .ok (.irem, 1) := by decide +kernel
theorem dX9_wake_38 : decode cX9_wake 38 = .ok (.istore_n 2, 1) := by decide +kernel
theorem dX9_wake_39 : decode cX9_wake 39 = .ok (.aload_n 0, 1) := by decide +kernel
theorem dX9_wake_40 : decode cX9_wake 40 = .ok (.getfield 50, 3) := by decide +kernel
theorem dX9_wake_43 : decode cX9_wake 43 = .ok (.iconst 0, 1) := by decide +kernel
theorem dX9_wake_44 : decode cX9_wake 44 = .ok (.iaload, 1) := by decide +kernel
theorem dX9_wake_45 : decode cX9_wake 45 = .ok (.bipush 10, 2) := by decide +kernel
theorem dX9_wake_47 : decode cX9_wake 47 = .ok (.irem, 1) := by decide +kernel
theorem dX9_wake_48 : decode cX9_wake 48 = .ok (.istore_n 3, 1) := by decide +kernel
theorem dX9_wake_49 : decode cX9_wake 49 = .ok (.aload_n 0, 1) := by decide +kernel
theorem dX9_wake_50 : decode cX9_wake 50 = .ok (.getfield 46, 3) := by decide +kernel
theorem dX9_wake_53 : decode cX9_wake 53 = .ok (.iload_n 3, 1) := by decide +kernel
theorem dX9_wake_54 : decode cX9_wake 54 = .ok (.aaload, 1) := by decide +kernel
theorem dX9_wake_55 : decode cX9_wake 55 = .ok (.getfield 219, 3) := by decide +kernel
theorem dX9_wake_58 : decode cX9_wake 58 = .ok (.aload_n 0, 1) := by decide +kernel
theorem dX9_wake_59 : decode cX9_wake 59 = .ok (.getfield 46, 3) := by decide +kernel
theorem dX9_wake_62 : decode cX9_wake 62 = .ok (.iload_n 2, 1) := by decide +kernel
theorem dX9_wake_63 : decode cX9_wake 63 = .ok (.aaload, 1) := by decide +kernel
theorem dX9_wake_64 : decode cX9_wake 64 = .ok (.getfield 219, 3) := by decide +kernel
theorem dX9_wake_67 : decode cX9_wake 67 = .ok (.if_icmp .le 7, 3) := by decide +kernel
theorem dX9_wake_70 : decode cX9_wake 70 = .ok (.iload_n 3, 1) := by decide +kernel
theorem dX9_wake_71 : decode cX9_wake 71 = .ok (.goto 4, 3) := by decide +kernel
theorem dX9_wake_74 : decode cX9_wake 74 = .ok (.iload_n 2, 1) := by decide +kernel
theorem dX9_wake_75 : decode cX9_wake 75 = .ok (.ireturn, 1) := by decide +kernel
theorem dX9_goOn_0 : decode cX9_goOn 0 = .ok (.iload_n 1, 1) := by decide +kernel
theorem dX9_goOn_1 : decode cX9_goOn 1 = .ok (.iconst 0, 1) := by decide +kernel
theorem dX9_goOn_2 : decode cX9_goOn 2 = .ok (.bipush 11, 2) := by decide +kernel
theorem dX9_goOn_4 : decode cX9_goOn 4 = .ok (.aload_n 0, 1) := by decide +kernel
theorem dX9_goOn_5 : decode cX9_goOn 5 = .ok (.getfield 77, 3) := by decide +kernel
theorem dX9_goOn_8 : decode cX9_goOn 8 = .ok (.isub, 1) := by decide +kernel
theorem dX9_goOn_9 : decode cX9_goOn 9 = .ok (.invokestatic 133, 3) := by decide +kernel
theorem dX9_goOn_12 : decode cX9_goOn 12 = .ok (.ifCond .ne 6, 3) := by decide +kernel
theorem dX9_goOn_15 : decode cX9_goOn 15 = .ok (.bipush (-2), 2) := by decide +kernel
theorem dX9_goOn_17 : decode cX9_goOn 17 = .ok (.ireturn, 1) := by decide +kernel
theorem dX9_goOn_18 : decode cX9_goOn 18 = .ok (.aload_n 0, 1) := by decide +kernel
theorem dX9_goOn_19 : decode cX9_goOn 19 = .ok (.iload_n 1, 1) := by decide +kernel
theorem dX9_goOn_20 : decode cX9_goOn 20 = .ok (.invokevirtual 228, 3) := by decide +kernel
theorem dX9_goOn_23 : decode cX9_goOn 23 = .ok (.iconst 0, 1) := by decide +kernel
theorem dX9_goOn_24 : decode cX9_goOn 24 = .ok (.istore_n 2, 1) := by decide +kernel
theorem dX9_goOn_25 : decode cX9_goOn 25 = .ok (.iload_n 2, 1) := by decide +kernel
theorem dX9_goOn_26 : decode cX9_goOn 26 = .ok (.aload_n 0, 1) := by decide +kernel
theorem dX9_goOn_27 : decode cX9_goOn 27 = .ok (.getfield 81, 3) := by decide +kernel
theorem dX9_goOn_30 : decode cX9_goOn 30 = .ok (.if_icmp .ge 27, 3) := by decide +kernel
theorem dX9_goOn_33 : decode cX9_goOn 33 = .ok (.aload_n 0, 1) := by decide +kernel
theorem dX9_goOn_34 : decode cX9_goOn 34 = .ok (.getfield 40, 3) := by decide +kernel
theorem dX9_goOn_37 : decode cX9_goOn 37 = .ok (.iload_n 2, 1) := by decide +kernel
theorem dX9_goOn_38 : decode cX9_goOn 38 = .ok (.aaload, 1) := by decide +kernel
theorem dX9_goOn_39 : decode cX9_goOn 39 = .ok (.aload_n 0, 1) := by decide +kernel
theorem dX9_goOn_40 : decode cX9_goOn 40 = .ok (.getfield 46, 3) := by decide +kernel
theorem dX9_goOn_43 : decode cX9_goOn 43 = .ok (.iload_n 2, 1) := by decide +kernel
theorem dX9_goOn_44 : decode cX9_goOn 44 = .ok (.aaload, 1) := by decide +kernel
theorem dX9_goOn_45 : decode cX9_goOn 45 = .ok (.getfield 218, 3) := by decide +kernel
theorem dX9_goOn_48 : decode cX9_goOn 48 = .ok (.putfield 176, 3) := by decide +kernel
theorem dX9_goOn_51 : decode cX9_goOn 51 = .ok (.iinc 2 1, 3) := by decide +kernel
theorem dX9_goOn_54 : decode cX9_goOn 54 = .ok (.goto (-29), 3) := by decide +kernel
theorem dX9_goOn_57 : decode cX9_goOn 57 = .ok (.aload_n 0, 1) := by decide +kernel
theorem dX9_goOn_58 : decode cX9_goOn 58 = .ok (.dup, 1) := by decide +kernel
theorem dX9_goOn_59 : decode cX9_goOn 59 = .ok (.getfield 77, 3) := by decide +kernel
theorem dX9_goOn_62 : decode cX9_goOn 62 = .ok (.iload_n 1, 1) := by decide +kernel
theorem dX9_goOn_63 : decode cX9_goOn 63 = .ok (.iadd, 1) := by decide +kernel
theorem dX9_goOn_64 : decode cX9_goOn 64 = .ok (.putfield 77, 3) := by decide +kernel
theorem dX9_goOn_67 : decode cX9_goOn 67 = .ok (.aload_n 0, 1) := by decide +kernel
theorem dX9_goOn_68 : decode cX9_goOn 68 = .ok (.getfield 77, 3) := by decide +kernel
theorem dX9_goOn_71 : decode cX9_goOn 71 = .ok (.ireturn, 1) := by decide +kernel
theorem dX9_veer_0 : decode cX9_veer 0 = .ok (.aload_n 0, 1) := by decide +kernel
theorem dX9_veer_1 : decode cX9_veer 1 = .ok (.iload_n 1, 1) := by decide +kernel
theorem dX9_veer_2 : decode cX9_veer 2 = .ok (.invokevirtual 172, 3) := by decide +kernel
theorem dX9_veer_5 : decode cX9_veer 5 = .ok (.astore_n 3, 1) := by decide +kernel
theorem dX9_veer_6 : decode cX9_veer 6 = .ok (.aload_n 3, 1) := by decide +kernel
theorem dX9_veer_7 : decode cX9_veer 7 = .ok (.aload_n 0, 1) := by decide +kernel
theorem dX9_veer_8 : decode cX9_veer 8 = .ok (.iload_n 2, 1) := by decide +kernel
theorem dX9_veer_9 : decode cX9_veer 9 = .ok (.invokevirtual 211, 3) := by decide +kernel
theorem dX9_veer_12 : decode cX9_veer 12 = .ok (.invokestatic 194, 3) := by decide +kernel
theorem dX9_veer_15 : decode cX9_veer 15 = .ok (.istore 4, 2) := by decide +kernel
theorem dX9_veer_17 : decode cX9_veer 17 = .ok (.aload_n 3, 1) := by decide +kernel
theorem dX9_veer_18 : decode cX9_veer 18 = .ok (.ifnull 8, 3) := by decide +kernel
theorem dX9_veer_21 : decode cX9_veer 21 = .ok (.iload 4, 2) := by decide +kernel
theorem dX9_veer_23 : decode cX9_veer 23 = .ok (.ifCond .eq 6, 3) := by decide +kernel
theorem dX9_veer_26 : decode cX9_veer 26 = .ok (.iload 4, 2) := by decide +kernel
theorem dX9_veer_28 : decode cX9_veer 28 = .ok (.ireturn, 1) := by decide +kernel
theorem dX9_veer_29 : decode cX9_veer 29 = .ok (.iconst 1, 1) := by decide +kernel
theorem dX9_veer_30 : decode cX9_veer 30 = .ok (.istore 5, 2) := by decide +kernel
theorem dX9_veer_32 : decode cX9_veer 32 = .ok (.iload 5, 2) := by decide +kernel
theorem dX9_veer_34 : decode cX9_veer 34 = .ok (.bipush 40, 2) := by decide +kernel
theorem dX9_veer_36 : decode cX9_veer 36 = .ok (.if_icmp .gt 27, 3) := by decide +kernel
theorem dX9_veer_39 : decode cX9_veer 39 = .ok (.aload_n 0, 1) := by decide +kernel
theorem dX9_veer_40 : decode cX9_veer 40 = .ok (.aload_n 3, 1) := by decide +kernel
theorem dX9_veer_41 : decode cX9_veer 41 = .ok (.aload_n 3, 1) := by decide +kernel
theorem dX9_veer_42 : decode cX9_veer 42 = .ok (.getfield 176, 3) := by decide +kernel
theorem dX9_veer_45 : decode cX9_veer 45 = .ok (.iload 5, 2) := by decide +kernel
theorem dX9_veer_47 : decode cX9_veer 47 = .ok (.iload_n 2, 1) := by decide +kernel
theorem dX9_veer_48 : decode cX9_veer 48 = .ok (.invokevirtual 240, 3) := by decide +kernel
theorem dX9_veer_51 : decode cX9_veer 51 = .ok (.ifCond .eq 6, 3) := by decide +kernel
theorem dX9_veer_54 : decode cX9_veer 54 = .ok (.iload 5, 2) := by decide +kernel
theorem dX9_veer_56 : decode cX9_veer 56 = .ok (.ireturn, 1) := by decide +kernel
theorem dX9_veer_57 : decode cX9_veer 57 = .ok (.iinc 5 1, 3) := by decide +kernel
theorem dX9_veer_60 : decode cX9_veer 60 = .ok (.goto (-28), 3) := by decide +kernel
theorem dX9_veer_63 : decode cX9_veer 63 = .ok (.iconst (-1), 1) := by decide +kernel
theorem dX9_veer_64 : decode cX9_veer 64 = .ok (.ireturn, 1) := by decide +kernel
theorem dX9_drop_0 : decode cX9_drop 0 = .ok (.aload_n 0, 1) := by decide +kernel
theorem dX9_drop_1 : decode cX9_drop 1 = .ok (.iload_n 1, 1) := by decide +kernel
theorem dX9_drop_2 : decode cX9_drop 2 = .ok (.invokevirtual 172, 3) := by decide +kernel
theorem dX9_drop_5 : decode cX9_drop 5 = .ok (.astore 4, 2) := by decide +kernel
theorem dX9_drop_7 : decode cX9_drop 7 = .ok (.aload 4, 2) := by decide +kernel
theorem dX9_drop_9 : decode cX9_drop 9 = .ok (.ifnonnull 6, 3) := by decide +kernel
theorem dX9_drop_12 : decode cX9_drop 12 = .ok (.bipush (-5), 2) := by decide +kernel
theorem dX9_drop_14 : decode cX9_drop 14 = .ok (.ireturn, 1) := by decide +kernel
theorem dX9_drop_15 : decode cX9_drop 15 = .ok (.aload_n 0, 1) := by decide +kernel
theorem dX9_drop_16 : decode cX9_drop 16 = .ok (.iload_n 2, 1) := by decide +kernel
theorem dX9_drop_17 : decode cX9_drop 17 = .ok (.invokevirtual 211, 3) := by decide +kernel
theorem dX9_drop_20 : decode cX9_drop 20 = .ok (.ifCond .eq 12, 3) := by decide +kernel
theorem dX9_drop_23 : decode cX9_drop 23 = .ok (.iload_n 3, 1) := by decide +kernel
theorem dX9_drop_24 : decode cX9_drop 24 = .ok (.iconst 0, 1) := by decide +kernel
theorem dX9_drop_25 : decode cX9_drop 25 = .ok (.iconst 1, 1) := by decide +kernel
theorem dX9_drop_26 : decode cX9_drop 26 = .ok (.invokestatic 133, 3) := by decide +kernel
theorem dX9_drop_29 : decode cX9_drop 29 = .ok (.ifCond .ne 6, 3) := by decide +kernel
theorem dX9_drop_32 : decode cX9_drop 32 = .ok (.bipush (-7), 2) := by decide +kernel
theorem dX9_drop_34 : decode cX9_drop 34 = .ok (.ireturn, 1) := by decide +kernel
theorem dX9_drop_35 : decode cX9_drop 35 = .ok (.aload_n 0, 1) := by decide +kernel
theorem dX9_drop_36 : decode cX9_drop 36 = .ok (.iload_n 2, 1) := by decide +kernel
theorem dX9_drop_37 : decode cX9_drop 37 = .ok (.invokevirtual 228, 3) := by decide +kernel
theorem dX9_drop_40 : decode cX9_drop 40 = .ok (.iconst (-1), 1) := by decide +kernel
theorem dX9_drop_41 : decode cX9_drop 41 = .ok (.istore 5, 2) := by decide +kernel
theorem dX9_drop_43 : decode cX9_drop 43 = .ok (.iconst 0, 1) := by decide +kernel
theorem dX9_drop_44 : decode cX9_drop 44 = .ok (.istore 6, 2) := by decide +kernel
theorem dX9_drop_46 : decode cX9_drop 46 = .ok (.iconst 0, 1) := by decide +kernel
theorem dX9_drop_47 : decode cX9_drop 47 = .ok (.istore 7, 2) := by decide +kernel
theorem dX9_drop_49 : decode cX9_drop 49 = .ok (.iload 7, 2) := by decide +kernel
theorem dX9_drop_51 : decode cX9_drop 51 = .ok (.bipush 100, 2) := by decide +kernel
theorem dX9_drop_53 : decode cX9_drop 53 = .ok (.if_icmp .ge 71, 3) := by decide +kernel
theorem dX9_drop_56 : decode cX9_drop 56 = .ok (.aload_n 0, 1) := by decide +kernel
theorem dX9_drop_57 : decode cX9_drop 57 = .ok (.getfield 10, 3) := by decide +kernel
theorem dX9_drop_60 : decode cX9_drop 60 = .ok (.getfield 130, 3) := by decide +kernel
theorem dX9_drop_63 : decode cX9_drop 63 = .ok (.iload 7, 2) := by decide +kernel
theorem dX9_drop_65 : decode cX9_drop 65 = .ok (.iaload, 1) := by decide +kernel
theorem dX9_drop_66 : decode cX9_drop 66 = .ok (.iconst 3, 1) := by decide +kernel
theorem dX9_drop_67 : decode cX9_drop 67 = .ok (.if_icmp .eq 51, 3) := by decide +kernel
theorem dX9_drop_70 : decode cX9_drop 70 = .ok (.aload_n 0, 1) := by decide +kernel
theorem dX9_drop_71 : decode cX9_drop 71 = .ok (.aload 4, 2) := by decide +kernel
theorem dX9_drop_73 : decode cX9_drop 73 = .ok (.iload 7, 2) := by decide +kernel
theorem dX9_drop_75 : decode cX9_drop 75 = .ok (.aload 4, 2) := by decide +kernel
theorem dX9_drop_77 : decode cX9_drop 77 = .ok (.getfield 179, 3) := by decide +kernel
theorem dX9_drop_80 : decode cX9_drop 80 = .ok (.iload_n 2, 1) := by decide +kernel
theorem dX9_drop_81 : decode cX9_drop 81 = .ok (.invokevirtual 240, 3) := by decide +kernel
theorem dX9_drop_84 : decode cX9_drop 84 = .ok (.ifCond .eq 34, 3) := by decide +kernel
theorem dX9_drop_87 : decode cX9_drop 87 = .ok (.aload_n 0, 1) := by decide +kernel
theorem dX9_drop_88 : decode cX9_drop 88 = .ok (.iload_n 1, 1) := by decide +kernel
theorem dX9_drop_89 : decode cX9_drop 89 = .ok (.aload 4, 2) := by decide +kernel
theorem dX9_drop_91 : decode cX9_drop 91 = .ok (.iload 7, 2) := by decide +kernel
theorem dX9_drop_93 : decode cX9_drop 93 = .ok (.iload_n 2, 1) := by decide +kernel
theorem dX9_drop_94 : decode cX9_drop 94 = .ok (.invokevirtual 244, 3) := by decide +kernel
theorem dX9_drop_97 : decode cX9_drop 97 = .ok (.ifCond .ne 21, 3) := by decide +kernel
theorem dX9_drop_100 : decode cX9_drop 100 = .ok (.iload 5, 2) := by decide +kernel
theorem dX9_drop_102 : decode cX9_drop 102 = .ok (.iconst (-1), 1) := by decide +kernel
theorem dX9_drop_103 : decode cX9_drop 103 = .ok (.if_icmp .ne 8, 3) := by decide +kernel
theorem dX9_drop_106 : decode cX9_drop 106 = .ok (.iload 7, 2) := by decide +kernel
theorem dX9_drop_108 : decode cX9_drop 108 = .ok (.goto 5, 3) := by decide +kernel
theorem dX9_drop_111 : decode cX9_drop 111 = .ok (.iload 5, 2) := by decide +kernel
theorem dX9_drop_113 : decode cX9_drop 113 = .ok (.istore 5, 2) := by decide +kernel
theorem dX9_drop_115 : decode cX9_drop 115 = .ok (.iinc 6 1, 3) := by decide +kernel
theorem dX9_drop_118 : decode cX9_drop 118 = .ok (.iinc 7 1, 3) := by decide +kernel
theorem dX9_drop_121 : decode cX9_drop 121 = .ok (.goto (-72), 3) := by decide +kernel
theorem dX9_drop_124 : decode cX9_drop 124 = .ok (.iload_n 3, 1) := by decide +kernel
theorem dX9_drop_125 : decode cX9_drop 125 = .ok (.ifCond .ne 8, 3) := by decide +kernel
theorem dX9_drop_128 : decode cX9_drop 128 = .ok (.iload 5, 2) := by decide +kernel
theorem dX9_drop_130 : decode cX9_drop 130 = .ok (.goto 5, 3) := by decide +kernel
theorem dX9_drop_133 : decode cX9_drop 133 = .ok (.iload 6, 2) := by decide +kernel
theorem dX9_drop_135 : decode cX9_drop 135 = .ok (.ireturn, 1) := by decide +kernel
theorem dX9_rings_0 : decode cX9_rings 0 = .ok (.aload_n 0, 1) := by decide +kernel
theorem dX9_rings_1 : decode cX9_rings 1 = .ok (.iload_n 1, 1) := by decide +kernel
theorem dX9_rings_2 : decode cX9_rings 2 = .ok (.invokevirtual 172, 3) := by decide +kernel
theorem dX9_rings_5 : decode cX9_rings 5 = .ok (.astore_n 3, 1) := by decide +kernel
theorem dX9_rings_6 : decode cX9_rings 6 = .ok (.aload_n 0, 1) := by decide +kernel
theorem dX9_rings_7 : decode cX9_rings 7 = .ok (.iload_n 2, 1) := by decide +kernel
theorem dX9_rings_8 : decode cX9_rings 8 = .ok (.invokevirtual 172, 3) := by decide +kernel
theorem dX9_rings_11 : decode cX9_rings 11 = .ok (.astore 4, 2) := by decide +kernel
theorem dX9_rings_13 : decode cX9_rings 13 = .ok (.aload_n 3, 1) := by decide +kernel
theorem dX9_rings_14 : decode cX9_rings 14 = .ok (.ifnull 13, 3) := by decide +kernel
theorem dX9_rings_17 : decode cX9_rings 17 = .ok (.aload 4, 2) := by decide +kernel
theorem dX9_rings_19 : decode cX9_rings 19 = .ok (.ifnull 8, 3) := by decide +kernel
theorem dX9_rings_22 : decode cX9_rings 22 = .ok (.iload_n 1, 1) := by decide +kernel
theorem dX9_rings_23 : decode cX9_rings 23 = .ok (.iload_n 2, 1) := by decide +kernel
theorem dX9_rings_24 : decode cX9_rings 24 = .ok (.if_icmp .ne 6, 3) := by decide +kernel
theorem dX9_rings_27 : decode cX9_rings 27 = .ok (.bipush (-5), 2) := by decide +kernel
theorem dX9_rings_29 : decode cX9_rings 29 = .ok (.ireturn, 1) := by decide +kernel
theorem dX9_rings_30 : decode cX9_rings 30 = .ok (.aload_n 3, 1) := by decide +kernel
theorem dX9_rings_31 : decode cX9_rings 31 = .ok (.invokevirtual 248, 3) := by decide +kernel
theorem dX9_rings_34 : decode cX9_rings 34 = .ok (.ifCond .ne 11, 3) := by decide +kernel
theorem dX9_rings_37 : decode cX9_rings 37 = .ok (.aload 4, 2) := by decide +kernel
theorem dX9_rings_39 : decode cX9_rings 39 = .ok (.invokevirtual 248, 3) := by decide +kernel
theorem dX9_rings_42 : decode cX9_rings 42 = .ok (.ifCond .eq 8, 3) := by decide +kernel
theorem dX9_rings_45 : decode cX9_rings 45 = .ok (.bipush (-3), 2) := by decide +kernel
theorem dX9_rings_47 : decode cX9_rings 47 = .ok (.goto 10, 3) := by decide +kernel
theorem dX9_rings_50 : decode cX9_rings 50 = .ok (.aload_n 0, 1) := by decide +kernel
theorem dX9_rings_51 : decode cX9_rings 51 = .ok (.aload_n 3, 1) := by decide +kernel
theorem dX9_rings_52 : decode cX9_rings 52 = .ok (.aload 4, 2) := by decide +kernel
theorem dX9_rings_54 : decode cX9_rings 54 = .ok (.invokevirtual 252, 3) := by decide +kernel
theorem dX9_rings_57 : decode cX9_rings 57 = .ok (.ireturn, 1) := by decide +kernel
theorem dX9_late_0 : decode cX9_late 0 = .ok (.iconst 1, 1) := by decide +kernel
theorem dX9_late_1 : decode cX9_late 1 = .ok (.istore_n 1, 1) := by decide +kernel
theorem dX9_late_2 : decode cX9_late 2 = .ok (.iload_n 1, 1) := by decide +kernel
theorem dX9_late_3 : decode cX9_late 3 = .ok (.aload_n 0, 1) := by decide +kernel
theorem dX9_late_4 : decode cX9_late 4 = .ok (.getfield 81, 3) := by decide +kernel
theorem dX9_late_7 : decode cX9_late 7 = .ok (.if_icmp .ge 67, 3) := by decide +kernel
theorem dX9_late_10 : decode cX9_late 10 = .ok (.iconst 0, 1) := by decide +kernel
theorem dX9_late_11 : decode cX9_late 11 = .ok (.istore_n 2, 1) := by decide +kernel
theorem dX9_late_12 : decode cX9_late 12 = .ok (.iload_n 2, 1) := by decide +kernel
theorem dX9_late_13 : decode cX9_late 13 = .ok (.iload_n 1, 1) := by decide +kernel
theorem dX9_late_14 : decode cX9_late 14 = .ok (.if_icmp .ge 54, 3) := by decide +kernel
theorem dX9_late_17 : decode cX9_late 17 = .ok (.aload_n 0, 1) := by decide +kernel
theorem dX9_late_18 : decode cX9_late 18 = .ok (.getfield 40, 3) := by decide +kernel
theorem dX9_late_21 : decode cX9_late 21 = .ok (.iload_n 1, 1) := by decide +kernel
theorem dX9_late_22 : decode cX9_late 22 = .ok (.aaload, 1) := by decide +kernel
theorem dX9_late_23 : decode cX9_late 23 = .ok (.invokevirtual 248, 3) := by decide +kernel
theorem dX9_late_26 : decode cX9_late 26 = .ok (.ifCond .ne 36, 3) := by decide +kernel
theorem dX9_late_29 : decode cX9_late 29 = .ok (.aload_n 0, 1) := by decide +kernel
theorem dX9_late_30 : decode cX9_late 30 = .ok (.getfield 40, 3) := by decide +kernel
theorem dX9_late_33 : decode cX9_late 33 = .ok (.iload_n 2, 1) := by decide +kernel
theorem dX9_late_34 : decode cX9_late 34 = .ok (.aaload, 1) := by decide +kernel
theorem dX9_late_35 : decode cX9_late 35 = .ok (.invokevirtual 248, 3) := by decide +kernel
theorem dX9_late_38 : decode cX9_late 38 = .ok (.ifCond .ne 24, 3) := by decide +kernel
theorem dX9_late_41 : decode cX9_late 41 = .ok (.aload_n 0, 1) := by decide +kernel
theorem dX9_late_42 : decode cX9_late 42 = .ok (.aload_n 0, 1) := by decide +kernel
theorem dX9_late_43 : decode cX9_late 43 = .ok (.getfield 40, 3) := by decide +kernel
theorem dX9_late_46 : decode cX9_late 46 = .ok (.iload_n 1, 1) := by decide +kernel
theorem dX9_late_47 : decode cX9_late 47 = .ok (.aaload, 1) := by decide +kernel
theorem dX9_late_48 : decode cX9_late 48 = .ok (.aload_n 0, 1) := by decide +kernel
theorem dX9_late_49 : decode cX9_late 49 = .ok (.getfield 40, 3) := by decide +kernel
theorem dX9_late_52 : decode cX9_late 52 = .ok (.iload_n 2, 1) := by decide +kernel
theorem dX9_late_53 : decode cX9_late 53 = .ok (.aaload, 1) := by decide +kernel
theorem dX9_late_54 : decode cX9_late 54 = .ok (.invokevirtual 252, 3) := by decide +kernel
theorem dX9_late_57 : decode cX9_late 57 = .ok (.ifCond .eq 5, 3) := by decide +kernel
theorem dX9_late_60 : decode cX9_late 60 = .ok (.iload_n 1, 1) := by decide +kernel
theorem dX9_late_61 : decode cX9_late 61 = .ok (.ireturn, 1) := by decide +kernel
theorem dX9_late_62 : decode cX9_late 62 = .ok (.iinc 2 1, 3) := by decide +kernel
theorem dX9_late_65 : decode cX9_late 65 = .ok (.goto (-53), 3) := by decide +kernel
theorem dX9_late_68 : decode cX9_late 68 = .ok (.iinc 1 1, 3) := by decide +kernel
theorem dX9_late_71 : decode cX9_late 71 = .ok (.goto (-69), 3) := by decide +kernel
theorem dX9_late_74 : decode cX9_late 74 = .ok (.iconst (-1), 1) := by decide +kernel
theorem dX9_late_75 : decode cX9_late 75 = .ok (.ireturn, 1) := by decide +kernel
theorem dX9_alarm_0 : decode cX9_alarm 0 = .ok (.aload_n 0, 1) := by decide +kernel
theorem dX9_alarm_1 : decode cX9_alarm 1 = .ok (.iload_n 1, 1) := by decide +kernel
theorem dX9_alarm_2 : decode cX9_alarm 2 = .ok (.invokevirtual 172, 3) := by decide +kernel
theorem dX9_alarm_5 : decode cX9_alarm 5 = .ok (.astore 4, 2) := by decide +kernel
theorem dX9_alarm_7 : decode cX9_alarm 7 = .ok (.aload 4, 2) := by decide +kernel
theorem dX9_alarm_9 : decode cX9_alarm 9 = .ok (.aload_n 0, 1) := by decide +kernel
theorem dX9_alarm_10 : decode cX9_alarm 10 = .ok (.iload_n 2, 1) := by decide +kernel
theorem dX9_alarm_11 : decode cX9_alarm 11 = .ok (.invokevirtual 211, 3) := by decide +kernel
theorem dX9_alarm_14 : decode cX9_alarm 14 = .ok (.ifCond .eq 17, 3) := by decide +kernel
theorem dX9_alarm_17 : decode cX9_alarm 17 = .ok (.iload_n 3, 1) := by decide +kernel
theorem dX9_alarm_18 : decode cX9_alarm 18 = .ok (.iconst 0, 1) := by decide +kernel
theorem dX9_alarm_19 : decode cX9_alarm 19 = .ok (.bipush 10, 2) := by decide +kernel
theorem dX9_alarm_21 : decode cX9_alarm 21 = .ok (.invokestatic 133, 3) := by decide +kernel
theorem dX9_alarm_24 : decode cX9_alarm 24 = .ok (.ifCond .eq 7, 3) := by decide +kernel
theorem dX9_alarm_27 : decode cX9_alarm 27 = .ok (.iconst 1, 1) := by decide +kernel
theorem dX9_alarm_28 : decode cX9_alarm 28 = .ok (.goto 4, 3) := by decide +kernel
theorem dX9_alarm_31 : decode cX9_alarm 31 = .ok (.iconst 0, 1) := by decide +kernel
theorem dX9_alarm_32 : decode cX9_alarm 32 = .ok (.invokestatic 194, 3) := by decide +kernel
theorem dX9_alarm_35 : decode cX9_alarm 35 = .ok (.istore 5, 2) := by decide +kernel
theorem dX9_alarm_37 : decode cX9_alarm 37 = .ok (.aload 4, 2) := by decide +kernel
theorem dX9_alarm_39 : decode cX9_alarm 39 = .ok (.ifnull 8, 3) := by decide +kernel
theorem dX9_alarm_42 : decode cX9_alarm 42 = .ok (.iload 5, 2) := by decide +kernel
theorem dX9_alarm_44 : decode cX9_alarm 44 = .ok (.ifCond .eq 6, 3) := by decide +kernel
theorem dX9_alarm_47 : decode cX9_alarm 47 = .ok (.iload 5, 2) := by decide +kernel
theorem dX9_alarm_49 : decode cX9_alarm 49 = .ok (.ireturn, 1) := by decide +kernel
theorem dX9_alarm_50 : decode cX9_alarm 50 = .ok (.aload_n 0, 1) := by decide +kernel
theorem dX9_alarm_51 : decode cX9_alarm 51 = .ok (.iload_n 1, 1) := by decide +kernel
theorem dX9_alarm_52 : decode cX9_alarm 52 = .ok (.aload 4, 2) := by decide +kernel
theorem dX9_alarm_54 : decode cX9_alarm 54 = .ok (.iload_n 2, 1) := by decide +kernel
theorem dX9_alarm_55 : decode cX9_alarm 55 = .ok (.invokevirtual 214, 3) := by decide +kernel
theorem dX9_alarm_58 : decode cX9_alarm 58 = .ok (.iload_n 3, 1) := by decide +kernel
theorem dX9_alarm_59 : decode cX9_alarm 59 = .ok (.aload 4, 2) := by decide +kernel
theorem dX9_alarm_61 : decode cX9_alarm 61 = .ok (.getfield 176, 3) := by decide +kernel
theorem dX9_alarm_64 : decode cX9_alarm 64 = .ok (.aload_n 0, 1) := by decide +kernel
theorem dX9_alarm_65 : decode cX9_alarm 65 = .ok (.getfield 77, 3) := by decide +kernel
theorem dX9_alarm_68 : decode cX9_alarm 68 = .ok (.aload_n 0, 1) := by decide +kernel
theorem dX9_alarm_69 : decode cX9_alarm 69 = .ok (.getfield 77, 3) := by decide +kernel
theorem dX9_alarm_72 : decode cX9_alarm 72 = .ok (.iload_n 2, 1) := by decide +kernel
theorem dX9_alarm_73 : decode cX9_alarm 73 = .ok (.iadd, 1) := by decide +kernel
theorem dX9_alarm_74 : decode cX9_alarm 74 = .ok (.invokevirtual 256, 3) := by decide +kernel
theorem dX9_alarm_77 : decode cX9_alarm 77 = .ok (.ireturn, 1) := by decide +kernel
theorem dX9_size_0 : decode cX9_size 0 = .ok (.aload_n 0, 1) := by decide +kernel
theorem dX9_size_1 : decode cX9_size 1 = .ok (.iload_n 1, 1) := by decide +kernel
theorem dX9_size_2 : decode cX9_size 2 = .ok (.invokevirtual 172, 3) := by decide +kernel
theorem dX9_size_5 : decode cX9_size 5 = .ok (.astore 4, 2) := by decide +kernel
theorem dX9_size_7 : decode cX9_size 7 = .ok (.aload 4, 2) := by decide +kernel
theorem dX9_size_9 : decode cX9_size 9 = .ok (.aload_n 0, 1) := by decide +kernel
theorem dX9_size_10 : decode cX9_size 10 = .ok (.iload_n 2, 1) := by decide +kernel
theorem dX9_size_11 : decode cX9_size 11 = .ok (.invokevirtual 211, 3) := by decide +kernel
theorem dX9_size_14 : decode cX9_size 14 = .ok (.ifCond .eq 16, 3) := by decide +kernel
theorem dX9_size_17 : decode cX9_size 17 = .ok (.iload_n 3, 1) := by decide +kernel
theorem dX9_size_18 : decode cX9_size 18 = .ok (.iconst 0, 1) := by decide +kernel
theorem dX9_size_19 : decode cX9_size 19 = .ok (.iconst 1, 1) := by decide +kernel
theorem dX9_size_20 : decode cX9_size 20 = .ok (.invokestatic 133, 3) := by decide +kernel
theorem dX9_size_23 : decode cX9_size 23 = .ok (.ifCond .eq 7, 3) := by decide +kernel
theorem dX9_size_26 : decode cX9_size 26 = .ok (.iconst 1, 1) := by decide +kernel
theorem dX9_size_27 : decode cX9_size 27 = .ok (.goto 4, 3) := by decide +kernel
theorem dX9_size_30 : decode cX9_size 30 = .ok (.iconst 0, 1) := by decide +kernel
theorem dX9_size_31 : decode cX9_size 31 = .ok (.invokestatic 194, 3) := by decide +kernel
theorem dX9_size_34 : decode cX9_size 34 = .ok (.istore 5, 2) := by decide +kernel
theorem dX9_size_36 : decode cX9_size 36 = .ok (.aload 4, 2) := by decide +kernel
theorem dX9_size_38 : decode cX9_size 38 = .ok (.ifnull 8, 3) := by decide +kernel
theorem dX9_size_41 : decode cX9_size 41 = .ok (.iload 5, 2) := by decide +kernel
theorem dX9_size_43 : decode cX9_size 43 = .ok (.ifCond .eq 6, 3) := by decide +kernel
theorem dX9_size_46 : decode cX9_size 46 = .ok (.iload 5, 2) := by decide +kernel
theorem dX9_size_48 : decode cX9_size 48 = .ok (.ireturn, 1) := by decide +kernel
theorem dX9_size_49 : decode cX9_size 49 = .ok (.aload_n 0, 1) := by decide +kernel
theorem dX9_size_50 : decode cX9_size 50 = .ok (.iload_n 1, 1) := by decide +kernel
theorem dX9_size_51 : decode cX9_size 51 = .ok (.aload 4, 2) := by decide +kernel
theorem dX9_size_53 : decode cX9_size 53 = .ok (.iload_n 2, 1) := by decide +kernel
theorem dX9_size_54 : decode cX9_size 54 = .ok (.invokevirtual 214, 3) := by decide +kernel
theorem dX9_size_57 : decode cX9_size 57 = .ok (.astore 6, 2) := by decide +kernel
theorem dX9_size_59 : decode cX9_size 59 = .ok (.aload 6, 2) := by decide +kernel
theorem dX9_size_61 : decode cX9_size 61 = .ok (.getfield 222, 3) := by decide +kernel
theorem dX9_size_64 : decode cX9_size 64 = .ok (.iconst (-1), 1) := by decide +kernel
theorem dX9_size_65 : decode cX9_size 65 = .ok (.if_icmp .eq 7, 3) := by decide +kernel
theorem dX9_size_68 : decode cX9_size 68 = .ok (.iconst 1, 1) := by decide +kernel
theorem dX9_size_69 : decode cX9_size 69 = .ok (.goto 4, 3) := by decide +kernel
theorem dX9_size_72 : decode cX9_size 72 = .ok (.iconst 0, 1) := by decide +kernel
theorem dX9_size_73 : decode cX9_size 73 = .ok (.istore 7, 2) := by decide +kernel
theorem dX9_size_75 : decode cX9_size 75 = .ok (.aload 6, 2) := by decide +kernel
theorem dX9_size_77 : decode cX9_size 77 = .ok (.aload 4, 2) := by decide +kernel
theorem dX9_size_79 : decode cX9_size 79 = .ok (.getfield 176, 3) := by decide +kernel
theorem dX9_size_82 : decode cX9_size 82 = .ok (.aload_n 0, 1) := by decide +kernel
theorem dX9_size_83 : decode cX9_size 83 = .ok (.getfield 77, 3) := by decide +kernel
theorem dX9_size_86 : decode cX9_size 86 = .ok (.iload 7, 2) := by decide +kernel
theorem dX9_size_88 : decode cX9_size 88 = .ok (.ifCond .eq 11, 3) := by decide +kernel
theorem dX9_size_91 : decode cX9_size 91 = .ok (.aload 6, 2) := by decide +kernel
theorem dX9_size_93 : decode cX9_size 93 = .ok (.getfield 222, 3) := by decide +kernel
theorem dX9_size_96 : decode cX9_size 96 = .ok (.goto 9, 3) := by decide +kernel
theorem dX9_size_99 : decode cX9_size 99 = .ok (.aload_n 0, 1) := by decide +kernel
theorem dX9_size_100 : decode cX9_size 100 = .ok (.getfield 77, 3) := by decide +kernel
theorem dX9_size_103 : decode cX9_size 103 = .ok (.iload_n 2, 1) := by decide +kernel
theorem dX9_size_104 : decode cX9_size 104 = .ok (.iadd, 1) := by decide +kernel
theorem dX9_size_105 : decode cX9_size 105 = .ok (.invokevirtual 260, 3) := by decide +kernel
theorem dX9_size_108 : decode cX9_size 108 = .ok (.istore 8, 2) := by decide +kernel
theorem dX9_size_110 : decode cX9_size 110 = .ok (.iload_n 3, 1) := by decide +kernel
theorem dX9_size_111 : decode cX9_size 111 = .ok (.ifCond .ne 6, 3) := by decide +kernel
theorem dX9_size_114 : decode cX9_size 114 = .ok (.iload 8, 2) := by decide +kernel
theorem dX9_size_116 : decode cX9_size 116 = .ok (.ireturn, 1) := by decide +kernel
theorem dX9_size_117 : decode cX9_size 117 = .ok (.iload 7, 2) := by decide +kernel
theorem dX9_size_119 : decode cX9_size 119 = .ok (.ifCond .eq 28, 3) := by decide +kernel
theorem dX9_size_122 : decode cX9_size 122 = .ok (.aload 6, 2) := by decide +kernel
theorem dX9_size_124 : decode cX9_size 124 = .ok (.iload 8, 2) := by decide +kernel
theorem dX9_size_126 : decode cX9_size 126 = .ok (.aload 4, 2) := by decide +kernel
theorem dX9_size_128 : decode cX9_size 128 = .ok (.getfield 176, 3) := by decide +kernel
theorem dX9_size_131 : decode cX9_size 131 = .ok (.aload_n 0, 1) := by decide +kernel
theorem dX9_size_132 : decode cX9_size 132 = .ok (.getfield 77, 3) := by decide +kernel
theorem dX9_size_135 : decode cX9_size 135 = .ok (.aload_n 0, 1) := by decide +kernel
theorem dX9_size_136 : decode cX9_size 136 = .ok (.getfield 77, 3) := by decide +kernel
theorem dX9_size_139 : decode cX9_size 139 = .ok (.iload_n 2, 1) := by decide +kernel
theorem dX9_size_140 : decode cX9_size 140 = .ok (.iadd, 1) := by decide +kernel
theorem dX9_size_141 : decode cX9_size 141 = .ok (.invokevirtual 256, 3) := by decide +kernel
theorem dX9_size_144 : decode cX9_size 144 = .ok (.goto 4, 3) := by decide +kernel
theorem dX9_size_147 : decode cX9_size 147 = .ok (.iconst (-1), 1) := by decide +kernel
theorem dX9_size_148 : decode cX9_size 148 = .ok (.istore 9, 2) := by decide +kernel
theorem dX9_size_150 : decode cX9_size 150 = .ok (.iload 9, 2) := by decide +kernel
theorem dX9_size_152 : decode cX9_size 152 = .ok (.iconst (-1), 1) := by decide +kernel
theorem dX9_size_153 : decode cX9_size 153 = .ok (.if_icmp .ne 7, 3) := by decide +kernel
theorem dX9_size_156 : decode cX9_size 156 = .ok (.iconst (-1), 1) := by decide +kernel
theorem dX9_size_157 : decode cX9_size 157 = .ok (.goto 11, 3) := by decide +kernel
theorem dX9_size_160 : decode cX9_size 160 = .ok (.iload 9, 2) := by decide +kernel
theorem dX9_size_162 : decode cX9_size 162 = .ok (.aload 6, 2) := by decide +kernel
theorem dX9_size_164 : decode cX9_size 164 = .ok (.getfield 222, 3) := by decide +kernel
theorem dX9_size_167 : decode cX9_size 167 = .ok (.isub, 1) := by decide +kernel
theorem dX9_size_168 : decode cX9_size 168 = .ok (.ireturn, 1) := by decide +kernel
theorem dX9_line_0 : decode cX9_line 0 = .ok (.iload_n 1, 1) := by decide +kernel
theorem dX9_line_1 : decode cX9_line 1 = .ok (.invokestatic 119, 3) := by decide +kernel
theorem dX9_line_4 : decode cX9_line 4 = .ok (.ifCond .eq 22, 3) := by decide +kernel
theorem dX9_line_7 : decode cX9_line 7 = .ok (.iload_n 2, 1) := by decide +kernel
theorem dX9_line_8 : decode cX9_line 8 = .ok (.invokestatic 119, 3) := by decide +kernel
theorem dX9_line_11 : decode cX9_line 11 = .ok (.ifCond .eq 15, 3) := by decide +kernel
theorem dX9_line_14 : decode cX9_line 14 = .ok (.iload_n 3, 1) := by decide +kernel
theorem dX9_line_15 : decode cX9_line 15 = .ok (.invokestatic 119, 3) := by decide +kernel
theorem dX9_line_18 : decode cX9_line 18 = .ok (.ifCond .eq 8, 3) := by decide +kernel
theorem dX9_line_21 : decode cX9_line 21 = .ok (.iload_n 1, 1) := by decide +kernel
theorem dX9_line_22 : decode cX9_line 22 = .ok (.iload_n 2, 1) := by decide +kernel
theorem dX9_line_23 : decode cX9_line 23 = .ok (.if_icmp .ne 9, 3) := by decide +kernel
theorem dX9_line_26 : decode cX9_line 26 = .ok (.ldc_w 264, 3) := by decide +kernel
theorem dX9_line_29 : decode cX9_line 29 = .ok (.goto 9, 3) := by decide +kernel
theorem dX9_line_32 : decode cX9_line 32 = .ok (.iload_n 1, 1) := by decide +kernel
theorem dX9_line_33 : decode cX9_line 33 = .ok (.iload_n 2, 1) := by decide +kernel
theorem dX9_line_34 : decode cX9_line 34 = .ok (.iload_n 3, 1) := by decide +kernel
theorem dX9_line_35 : decode cX9_line 35 = .ok (.invokestatic 265, 3) := by decide +kernel
theorem dX9_line_38 : decode cX9_line 38 = .ok (.ireturn, 1) := by decide +kernel
theorem dX9_marks_0 : decode cX9_marks 0 = .ok (.aload_n 0, 1) := by decide +kernel
theorem dX9_marks_1 : decode cX9_marks 1 = .ok (.iload_n 1, 1) := by decide +kernel
theorem dX9_marks_2 : decode cX9_marks 2 = .ok (.invokevirtual 172, 3) := by decide +kernel
theorem dX9_marks_5 : decode cX9_marks 5 = .ok (.astore 5, 2) := by decide +kernel
theorem dX9_marks_7 : decode cX9_marks 7 = .ok (.aload 5, 2) := by decide +kernel
theorem dX9_marks_9 : decode cX9_marks 9 = .ok (.ifnonnull 6, 3) := by decide +kernel
theorem dX9_marks_12 : decode cX9_marks 12 = .ok (.bipush (-5), 2) := by decide +kernel
theorem dX9_marks_14 : decode cX9_marks 14 = .ok (.ireturn, 1) := by decide +kernel
theorem dX9_marks_15 : decode cX9_marks 15 = .ok (.aload_n 0, 1) := by decide +kernel
theorem dX9_marks_16 : decode cX9_marks 16 = .ok (.iload_n 2, 1) := by decide +kernel
theorem dX9_marks_17 : decode cX9_marks 17 = .ok (.invokevirtual 211, 3) := by decide +kernel
theorem dX9_marks_20 : decode cX9_marks 20 = .ok (.ifCond .eq 36, 3) := by decide +kernel
theorem dX9_marks_23 : decode cX9_marks 23 = .ok (.iload_n 3, 1) := by decide +kernel
theorem dX9_marks_24 : decode cX9_marks 24 = .ok (.iconst 0, 1) := by decide +kernel
theorem dX9_marks_25 : decode cX9_marks 25 = .ok (.sipush 9999, 3) := by decide +kernel
theorem dX9_marks_28 : decode cX9_marks 28 = .ok (.invokestatic 133, 3) := by decide +kernel
theorem dX9_marks_31 : decode cX9_marks 31 = .ok (.ifCond .eq 25, 3) := by decide +kernel
theorem dX9_marks_34 : decode cX9_marks 34 = .ok (.iload_n 3, 1) := by decide +kernel
theorem dX9_marks_35 : decode cX9_marks 35 = .ok (.bipush 100, 2) := by decide +kernel
theorem dX9_marks_37 : decode cX9_marks 37 = .ok (.idiv, 1) := by decide +kernel
theorem dX9_marks_38 : decode cX9_marks 38 = .ok (.iload_n 3, 1) := by decide +kernel
theorem dX9_marks_39 : decode cX9_marks 39 = .ok (.bipush 100, 2) := by decide +kernel
theorem dX9_marks_41 : decode cX9_marks 41 = .ok (.irem, 1) := by decide +kernel
theorem dX9_marks_42 : decode cX9_marks 42 = .ok (.if_icmp .eq 14, 3) := by decide +kernel
theorem dX9_marks_45 : decode cX9_marks 45 = .ok (.iload 4, 2) := by decide +kernel
theorem dX9_marks_47 : decode cX9_marks 47 = .ok (.iconst 0, 1) := by decide +kernel
theorem dX9_marks_48 : decode cX9_marks 48 = .ok (.bipush 99, 2) := by decide +kernel
theorem dX9_marks_50 : decode cX9_marks 50 = .ok (.invokestatic 133, 3) := by decide +kernel
theorem dX9_marks_53 : decode cX9_marks 53 = .ok (.ifCond .ne 6, 3) := by decide +kernel
theorem dX9_marks_56 : decode cX9_marks 56 = .ok (.bipush (-7), 2) := by decide +kernel
theorem dX9_marks_58 : decode cX9_marks 58 = .ok (.ireturn, 1) := by decide +kernel
theorem dX9_marks_59 : decode cX9_marks 59 = .ok (.aload_n 0, 1) := by decide +kernel
theorem dX9_marks_60 : decode cX9_marks 60 = .ok (.iload_n 1, 1) := by decide +kernel
theorem dX9_marks_61 : decode cX9_marks 61 = .ok (.aload 5, 2) := by decide +kernel
theorem dX9_marks_63 : decode cX9_marks 63 = .ok (.iload_n 2, 1) := by decide +kernel
theorem dX9_marks_64 : decode cX9_marks 64 = .ok (.invokevirtual 214, 3) := by decide +kernel
theorem dX9_marks_67 : decode cX9_marks 67 = .ok (.astore 6, 2) := by decide +kernel
theorem dX9_marks_69 : decode cX9_marks 69 = .ok (.iconst 0, 1) := by decide +kernel
theorem dX9_marks_70 : decode cX9_marks 70 = .ok (.istore 7, 2) := by decide +kernel
theorem dX9_marks_72 : decode cX9_marks 72 = .ok (.aload_n 0, 1) := by decide +kernel
theorem dX9_marks_73 : decode cX9_marks 73 = .ok (.getfield 77, 3) := by decide +kernel
theorem dX9_marks_76 : decode cX9_marks 76 = .ok (.istore 8, 2) := by decide +kernel
theorem dX9_marks_78 : decode cX9_marks 78 = .ok (.iload 8, 2) := by decide +kernel
theorem dX9_marks_80 : decode cX9_marks 80 = .ok (.aload_n 0, 1) := by decide +kernel
theorem dX9_marks_81 : decode cX9_marks 81 = .ok (.getfield 77, 3) := by decide +kernel
theorem dX9_marks_84 : decode cX9_marks 84 = .ok (.iload_n 2, 1) := by decide +kernel
theorem dX9_marks_85 : decode cX9_marks 85 = .ok (.iadd, 1) := by decide +kernel
theorem dX9_marks_86 : decode cX9_marks 86 = .ok (.if_icmp .ge 76, 3) := by decide +kernel
theorem dX9_marks_89 : decode cX9_marks 89 = .ok (.aload 6, 2) := by decide +kernel
theorem dX9_marks_91 : decode cX9_marks 91 = .ok (.iload 8, 2) := by decide +kernel
theorem dX9_marks_93 : decode cX9_marks 93 = .ok (.invokevirtual 225, 3) := by decide +kernel
theorem dX9_marks_96 : decode cX9_marks 96 = .ok (.istore 9, 2) := by decide +kernel
theorem dX9_marks_98 : decode cX9_marks 98 = .ok (.iload 9, 2) := by decide +kernel
theorem dX9_marks_100 : decode cX9_marks 100 = .ok (.iconst (-1), 1) := by decide +kernel
theorem dX9_marks_101 : decode cX9_marks 101 = .ok (.if_icmp .ne 6, 3) := by decide +kernel
theorem dX9_marks_104 : decode cX9_marks 104 = .ok (.iload 8, 2) := by decide +kernel
theorem dX9_marks_106 : decode cX9_marks 106 = .ok (.ireturn, 1) := by decide +kernel
theorem dX9_marks_107 : decode cX9_marks 107 = .ok (.iload_n 3, 1) := by decide +kernel
theorem dX9_marks_108 : decode cX9_marks 108 = .ok (.bipush 100, 2) := by decide +kernel
theorem dX9_marks_110 : decode cX9_marks 110 = .ok (.idiv, 1) := by decide +kernel
theorem dX9_marks_111 : decode cX9_marks 111 = .ok (.iload_n 3, 1) := by decide +kernel
theorem dX9_marks_112 : decode cX9_marks 112 = .ok (.bipush 100, 2) := by decide +kernel
theorem dX9_marks_114 : decode cX9_marks 114 = .ok (.irem, 1) := by decide +kernel
theorem dX9_marks_115 : decode cX9_marks 115 = .ok (.iload 9, 2) := by decide +kernel
theorem dX9_marks_117 : decode cX9_marks 117 = .ok (.invokestatic 265, 3) := by decide +kernel
theorem dX9_marks_120 : decode cX9_marks 120 = .ok (.istore 10, 2) := by decide +kernel
theorem dX9_marks_122 : decode cX9_marks 122 = .ok (.iload 8, 2) := by decide +kernel
theorem dX9_marks_124 : decode cX9_marks 124 = .ok (.aload_n 0, 1) := by decide +kernel
theorem dX9_marks_125 : decode cX9_marks 125 = .ok (.getfield 77, 3) := by decide +kernel
theorem dX9_marks_128 : decode cX9_marks 128 = .ok (.if_icmp .ne 8, 3) := by decide +kernel
theorem dX9_marks_131 : decode cX9_marks 131 = .ok (.iload 10, 2) := by decide +kernel
theorem dX9_marks_133 : decode cX9_marks 133 = .ok (.goto 5, 3) := by decide +kernel
theorem dX9_marks_136 : decode cX9_marks 136 = .ok (.iload 7, 2) := by decide +kernel
theorem dX9_marks_138 : decode cX9_marks 138 = .ok (.istore 7, 2) := by decide +kernel
theorem dX9_marks_140 : decode cX9_marks 140 = .ok (.iload 10, 2) := by decide +kernel
theorem dX9_marks_142 : decode cX9_marks 142 = .ok (.iload 7, 2) := by decide +kernel
theorem dX9_marks_144 : decode cX9_marks 144 = .ok (.isub, 1) := by decide +kernel
theorem dX9_marks_145 : decode cX9_marks 145 = .ok (.invokestatic 268, 3) := by decide +kernel
theorem dX9_marks_148 : decode cX9_marks 148 = .ok (.iload 4, 2) := by decide +kernel
theorem dX9_marks_150 : decode cX9_marks 150 = .ok (.if_icmp .le 6, 3) := by decide +kernel
theorem dX9_marks_153 : decode cX9_marks 153 = .ok (.iload 8, 2) := by decide +kernel
theorem dX9_marks_155 : decode cX9_marks 155 = .ok (.ireturn, 1) := by decide +kernel
theorem dX9_marks_156 : decode cX9_marks 156 = .ok (.iinc 8 1, 3) := by decide +kernel
theorem dX9_marks_159 : decode cX9_marks 159 = .ok (.goto (-81), 3) := by decide +kernel
theorem dX9_marks_162 : decode cX9_marks 162 = .ok (.iconst (-1), 1) := by decide +kernel
theorem dX9_marks_163 : decode cX9_marks 163 = .ok (.ireturn, 1) := by decide +kernel
theorem dX9_next_0 : decode cX9_next 0 = .ok (.aload_n 0, 1) := by decide +kernel
theorem dX9_next_1 : decode cX9_next 1 = .ok (.iload_n 1, 1) := by decide +kernel
theorem dX9_next_2 : decode cX9_next 2 = .ok (.invokevirtual 172, 3) := by decide +kernel
theorem dX9_next_5 : decode cX9_next 5 = .ok (.astore 4, 2) := by decide +kernel
theorem dX9_next_7 : decode cX9_next 7 = .ok (.aload 4, 2) := by decide +kernel
theorem dX9_next_9 : decode cX9_next 9 = .ok (.iload_n 2, 1) := by decide +kernel
theorem dX9_next_10 : decode cX9_next 10 = .ok (.iconst 1, 1) := by decide +kernel
theorem dX9_next_11 : decode cX9_next 11 = .ok (.iconst 4, 1) := by decide +kernel
theorem dX9_next_12 : decode cX9_next 12 = .ok (.invokestatic 133, 3) := by decide +kernel
theorem dX9_next_15 : decode cX9_next 15 = .ok (.ifCond .eq 16, 3) := by decide +kernel
theorem dX9_next_18 : decode cX9_next 18 = .ok (.iload_n 3, 1) := by decide +kernel
theorem dX9_next_19 : decode cX9_next 19 = .ok (.iconst 0, 1) := by decide +kernel
theorem dX9_next_20 : decode cX9_next 20 = .ok (.iconst 1, 1) := by decide +kernel
theorem dX9_next_21 : decode cX9_next 21 = .ok (.invokestatic 133, 3) := by decide +kernel
theorem dX9_next_24 : decode cX9_next 24 = .ok (.ifCond .eq 7, 3) := by decide +kernel
theorem dX9_next_27 : decode cX9_next 27 = .ok (.iconst 1, 1) := by decide +kernel
theorem dX9_next_28 : decode cX9_next 28 = .ok (.goto 4, 3) := by decide +kernel
theorem dX9_next_31 : decode cX9_next 31 = .ok (.iconst 0, 1) := by decide +kernel
theorem dX9_next_32 : decode cX9_next 32 = .ok (.invokestatic 194, 3) := by decide +kernel
theorem dX9_next_35 : decode cX9_next 35 = .ok (.istore 5, 2) := by decide +kernel
theorem dX9_next_37 : decode cX9_next 37 = .ok (.aload 4, 2) := by decide +kernel
theorem dX9_next_39 : decode cX9_next 39 = .ok (.ifnull 8, 3) := by decide +kernel
theorem dX9_next_42 : decode cX9_next 42 = .ok (.iload 5, 2) := by decide +kernel
theorem dX9_next_44 : decode cX9_next 44 = .ok (.ifCond .eq 6, 3) := by decide +kernel
theorem dX9_next_47 : decode cX9_next 47 = .ok (.iload 5, 2) := by decide +kernel
theorem dX9_next_49 : decode cX9_next 49 = .ok (.ireturn, 1) := by decide +kernel
theorem dX9_next_50 : decode cX9_next 50 = .ok (.bipush 12, 2) := by decide +kernel
theorem dX9_next_52 : decode cX9_next 52 = .ok (.aload_n 0, 1) := by decide +kernel
theorem dX9_next_53 : decode cX9_next 53 = .ok (.getfield 77, 3) := by decide +kernel
theorem dX9_next_56 : decode cX9_next 56 = .ok (.iload_n 2, 1) := by decide +kernel
theorem dX9_next_57 : decode cX9_next 57 = .ok (.iadd, 1) := by decide +kernel
theorem dX9_next_58 : decode cX9_next 58 = .ok (.invokestatic 137, 3) := by decide +kernel
theorem dX9_next_61 : decode cX9_next 61 = .ok (.istore 6, 2) := by decide +kernel
theorem dX9_next_63 : decode cX9_next 63 = .ok (.iconst 0, 1) := by decide +kernel
theorem dX9_next_64 : decode cX9_next 64 = .ok (.istore 7, 2) := by decide +kernel
theorem dX9_next_66 : decode cX9_next 66 = .ok (.aload_n 0, 1) := by decide +kernel
theorem dX9_next_67 : decode cX9_next 67 = .ok (.iconst 0, 1) := by decide +kernel
theorem dX9_next_68 : decode cX9_next 68 = .ok (.aload 4, 2) := by decide +kernel
theorem dX9_next_70 : decode cX9_next 70 = .ok (.aload 4, 2) := by decide +kernel
theorem dX9_next_72 : decode cX9_next 72 = .ok (.getfield 176, 3) := by decide +kernel
theorem dX9_next_75 : decode cX9_next 75 = .ok (.aload 4, 2) := by decide +kernel
theorem dX9_next_77 : decode cX9_next 77 = .ok (.getfield 179, 3) := by decide +kernel
theorem dX9_next_80 : decode cX9_next 80 = .ok (.iconst 0, 1) := by decide +kernel
theorem dX9_next_81 : decode cX9_next 81 = .ok (.aload_n 0, 1) := by decide +kernel
theorem dX9_next_82 : decode cX9_next 82 = .ok (.getfield 77, 3) := by decide +kernel
theorem dX9_next_85 : decode cX9_next 85 = .ok (.iload 6, 2) := by decide +kernel
theorem dX9_next_87 : decode cX9_next 87 = .ok (.invokevirtual 271, 3) := by decide +kernel
theorem dX9_next_90 : decode cX9_next 90 = .ok (.istore 8, 2) := by decide +kernel
theorem dX9_next_92 : decode cX9_next 92 = .ok (.iconst 1, 1) := by decide +kernel
theorem dX9_next_93 : decode cX9_next 93 = .ok (.istore 9, 2) := by decide +kernel
theorem dX9_next_95 : decode cX9_next 95 = .ok (.iload 9, 2) := by decide +kernel
theorem dX9_next_97 : decode cX9_next 97 = .ok (.iconst 5, 1) := by decide +kernel
theorem dX9_next_98 : decode cX9_next 98 = .ok (.if_icmp .ge 51, 3) := by decide +kernel
theorem dX9_next_101 : decode cX9_next 101 = .ok (.aload_n 0, 1) := by decide +kernel
theorem dX9_next_102 : decode cX9_next 102 = .ok (.iload 9, 2) := by decide +kernel
theorem dX9_next_104 : decode cX9_next 104 = .ok (.aload 4, 2) := by decide +kernel
theorem dX9_next_106 : decode cX9_next 106 = .ok (.aload 4, 2) := by decide +kernel
theorem dX9_next_108 : decode cX9_next 108 = .ok (.getfield 176, 3) := by decide +kernel
theorem dX9_next_111 : decode cX9_next 111 = .ok (.aload 4, 2) := by decide +kernel
theorem dX9_next_113 : decode cX9_next 113 = .ok (.getfield 179, 3) := by decide +kernel
theorem dX9_next_116 : decode cX9_next 116 = .ok (.iconst 0, 1) := by decide +kernel
theorem dX9_next_117 : decode cX9_next 117 = .ok (.aload_n 0, 1) := by decide +kernel
theorem dX9_next_118 : decode cX9_next 118 = .ok (.getfield 77, 3) := by decide +kernel
theorem dX9_next_121 : decode cX9_next 121 = .ok (.iload 6, 2) := by decide +kernel
theorem dX9_next_123 : decode cX9_next 123 = .ok (.invokevirtual 271, 3) := by decide +kernel
theorem dX9_next_126 : decode cX9_next 126 = .ok (.istore 10, 2) := by decide +kernel
theorem dX9_next_128 : decode cX9_next 128 = .ok (.iload 10, 2) := by decide +kernel
theorem dX9_next_130 : decode cX9_next 130 = .ok (.iload 8, 2) := by decide +kernel
theorem dX9_next_132 : decode cX9_next 132 = .ok (.if_icmp .ge 11, 3) := by decide +kernel
theorem dX9_next_135 : decode cX9_next 135 = .ok (.iload 9, 2) := by decide +kernel
theorem dX9_next_137 : decode cX9_next 137 = .ok (.istore 7, 2) := by decide +kernel
theorem dX9_next_139 : decode cX9_next 139 = .ok (.iload 10, 2) := by decide +kernel
theorem dX9_next_141 : decode cX9_next 141 = .ok (.istore 8, 2) := by decide +kernel
theorem dX9_next_143 : decode cX9_next 143 = .ok (.iinc 9 1, 3) := by decide +kernel
theorem dX9_next_146 : decode cX9_next 146 = .ok (.goto (-51), 3) := by decide +kernel
theorem dX9_next_149 : decode cX9_next 149 = .ok (.iload_n 3, 1) := by decide +kernel
theorem dX9_next_150 : decode cX9_next 150 = .ok (.ifCond .ne 8, 3) := by decide +kernel
theorem dX9_next_153 : decode cX9_next 153 = .ok (.iload 7, 2) := by decide +kernel
theorem dX9_next_155 : decode cX9_next 155 = .ok (.goto 5, 3) := by decide +kernel
theorem dX9_next_158 : decode cX9_next 158 = .ok (.iload 8, 2) := by decide +kernel
theorem dX9_next_160 : decode cX9_next 160 = .ok (.ireturn, 1) := by decide +kernel
theorem dX9_two_0 : decode cX9_two 0 = .ok (.aload_n 0, 1) := by decide +kernel
theorem dX9_two_1 : decode cX9_two 1 = .ok (.iload_n 1, 1) := by decide +kernel
theorem dX9_two_2 : decode cX9_two 2 = .ok (.invokevirtual 172, 3) := by decide +kernel
theorem dX9_two_5 : decode cX9_two 5 = .ok (.astore 5, 2) := by decide +kernel
theorem dX9_two_7 : decode cX9_two 7 = .ok (.aload 5, 2) := by decide +kernel
theorem dX9_two_9 : decode cX9_two 9 = .ok (.iload_n 2, 1) := by decide +kernel
theorem dX9_two_10 : decode cX9_two 10 = .ok (.invokestatic 143, 3) := by decide +kernel
theorem dX9_two_13 : decode cX9_two 13 = .ok (.ifCond .eq 26, 3) := by decide +kernel
theorem dX9_two_16 : decode cX9_two 16 = .ok (.iload_n 3, 1) := by decide +kernel
theorem dX9_two_17 : decode cX9_two 17 = .ok (.iconst 0, 1) := by decide +kernel
theorem dX9_two_18 : decode cX9_two 18 = .ok (.iconst 3, 1) := by decide +kernel
theorem dX9_two_19 : decode cX9_two 19 = .ok (.invokestatic 133, 3) := by decide +kernel
theorem dX9_two_22 : decode cX9_two 22 = .ok (.ifCond .eq 17, 3) := by decide +kernel
theorem dX9_two_25 : decode cX9_two 25 = .ok (.iload 4, 2) := by decide +kernel
theorem dX9_two_27 : decode cX9_two 27 = .ok (.iconst 0, 1) := by decide +kernel
theorem dX9_two_28 : decode cX9_two 28 = .ok (.iconst 1, 1) := by decide +kernel
theorem dX9_two_29 : decode cX9_two 29 = .ok (.invokestatic 133, 3) := by decide +kernel
theorem dX9_two_32 : decode cX9_two 32 = .ok (.ifCond .eq 7, 3) := by decide +kernel
theorem dX9_two_35 : decode cX9_two 35 = .ok (.iconst 1, 1) := by decide +kernel
theorem dX9_two_36 : decode cX9_two 36 = .ok (.goto 4, 3) := by decide +kernel
theorem dX9_two_39 : decode cX9_two 39 = .ok (.iconst 0, 1) := by decide +kernel
theorem dX9_two_40 : decode cX9_two 40 = .ok (.invokestatic 194, 3) := by decide +kernel
theorem dX9_two_43 : decode cX9_two 43 = .ok (.istore 6, 2) := by decide +kernel
theorem dX9_two_45 : decode cX9_two 45 = .ok (.aload 5, 2) := by decide +kernel
theorem dX9_two_47 : decode cX9_two 47 = .ok (.ifnull 8, 3) := by decide +kernel
theorem dX9_two_50 : decode cX9_two 50 = .ok (.iload 6, 2) := by decide +kernel
theorem dX9_two_52 : decode cX9_two 52 = .ok (.ifCond .eq 6, 3) := by decide +kernel
theorem dX9_two_55 : decode cX9_two 55 = .ok (.iload 6, 2) := by decide +kernel
theorem dX9_two_57 : decode cX9_two 57 = .ok (.ireturn, 1) := by decide +kernel
theorem dX9_two_58 : decode cX9_two 58 = .ok (.iload 4, 2) := by decide +kernel
theorem dX9_two_60 : decode cX9_two 60 = .ok (.ifCond .ne 12, 3) := by decide +kernel
theorem dX9_two_63 : decode cX9_two 63 = .ok (.aload_n 0, 1) := by decide +kernel
theorem dX9_two_64 : decode cX9_two 64 = .ok (.aload 5, 2) := by decide +kernel
theorem dX9_two_66 : decode cX9_two 66 = .ok (.iload_n 2, 1) := by decide +kernel
theorem dX9_two_67 : decode cX9_two 67 = .ok (.iload_n 3, 1) := by decide +kernel
theorem dX9_two_68 : decode cX9_two 68 = .ok (.invokevirtual 275, 3) := by decide +kernel
theorem dX9_two_71 : decode cX9_two 71 = .ok (.ireturn, 1) := by decide +kernel
theorem dX9_two_72 : decode cX9_two 72 = .ok (.aload_n 0, 1) := by decide +kernel
theorem dX9_two_73 : decode cX9_two 73 = .ok (.aload 5, 2) := by decide +kernel
theorem dX9_two_75 : decode cX9_two 75 = .ok (.iload_n 2, 1) := by decide +kernel
theorem dX9_two_76 : decode cX9_two 76 = .ok (.iload_n 3, 1) := by decide +kernel
theorem dX9_two_77 : decode cX9_two 77 = .ok (.invokevirtual 279, 3) := by decide +kernel
theorem dX9_two_80 : decode cX9_two 80 = .ok (.ifCond .eq 7, 3) := by decide +kernel
theorem dX9_two_83 : decode cX9_two 83 = .ok (.iconst 1, 1) := by decide +kernel
theorem dX9_two_84 : decode cX9_two 84 = .ok (.goto 4, 3) := by decide +kernel
theorem dX9_two_87 : decode cX9_two 87 = .ok (.iconst 0, 1) := by decide +kernel
theorem dX9_two_88 : decode cX9_two 88 = .ok (.ireturn, 1) := by decide +kernel
theorem dX9_angle_0 : decode cX9_angle 0 = .ok (.aload_n 0, 1) := by decide +kernel
theorem dX9_angle_1 : decode cX9_angle 1 = .ok (.iload_n 1, 1) := by decide +kernel
theorem dX9_angle_2 : decode cX9_angle 2 = .ok (.invokevirtual 172, 3) := by decide +kernel
theorem dX9_angle_5 : decode cX9_angle 5 = .ok (.astore_n 3, 1) := by decide +kernel
theorem dX9_angle_6 : decode cX9_angle 6 = .ok (.aload_n 3, 1) := by decide +kernel
theorem dX9_angle_7 : decode cX9_angle 7 = .ok (.aload_n 0, 1) := by decide +kernel
theorem dX9_angle_8 : decode cX9_angle 8 = .ok (.iload_n 2, 1) := by decide +kernel
theorem dX9_angle_9 : decode cX9_angle 9 = .ok (.invokevirtual 211, 3) := by decide +kernel
theorem dX9_angle_12 : decode cX9_angle 12 = .ok (.invokestatic 194, 3) := by decide +kernel
theorem dX9_angle_15 : decode cX9_angle 15 = .ok (.istore 4, 2) := by decide +kernel
theorem dX9_angle_17 : decode cX9_angle 17 = .ok (.aload_n 3, 1) := by decide +kernel
theorem dX9_angle_18 : decode cX9_angle 18 = .ok (.ifnull 8, 3) := by decide +kernel
theorem dX9_angle_21 : decode cX9_angle 21 = .ok (.iload 4, 2) := by decide +kernel
theorem dX9_angle_23 : decode cX9_angle 23 = .ok (.ifCond .eq 6, 3) := by decide +kernel
theorem dX9_angle_26 : decode cX9_angle 26 = .ok (.iload 4, 2) := by decide +kernel
theorem dX9_angle_28 : decode cX9_angle 28 = .ok (.ireturn, 1) := by decide +kernel
theorem dX9_angle_29 : decode cX9_angle 29 = .ok (.iconst 3, 1) := by decide +kernel
theorem dX9_angle_30 : decode cX9_angle 30 = .ok (.istore 5, 2) := by decide +kernel
theorem dX9_angle_32 : decode cX9_angle 32 = .ok (.iload 5, 2) := by decide +kernel
theorem dX9_angle_34 : decode cX9_angle 34 = .ok (.ifCond .lt 23, 3) := by decide +kernel
theorem dX9_angle_37 : decode cX9_angle 37 = .ok (.aload_n 0, 1) := by decide +kernel
theorem dX9_angle_38 : decode cX9_angle 38 = .ok (.aload_n 3, 1) := by decide +kernel
theorem dX9_angle_39 : decode cX9_angle 39 = .ok (.iload_n 2, 1) := by decide +kernel
theorem dX9_angle_40 : decode cX9_angle 40 = .ok (.iload 5, 2) := by decide +kernel
theorem dX9_angle_42 : decode cX9_angle 42 = .ok (.invokevirtual 283, 3) := by decide +kernel
theorem dX9_angle_45 : decode cX9_angle 45 = .ok (.ifCond .eq 6, 3) := by decide +kernel
theorem dX9_angle_48 : decode cX9_angle 48 = .ok (.iload 5, 2) := by decide +kernel
theorem dX9_angle_50 : decode cX9_angle 50 = .ok (.ireturn, 1) := by decide +kernel
theorem dX9_angle_51 : decode cX9_angle 51 = .ok (.iinc 5 (-1), 3) := by decide +kernel
theorem dX9_angle_54 : decode cX9_angle 54 = .ok (.goto (-22), 3) := by decide +kernel
theorem dX9_angle_57 : decode cX9_angle 57 = .ok (.iconst (-1), 1) := by decide +kernel
theorem dX9_angle_58 : decode cX9_angle 58 = .ok (.ireturn, 1) := by decide +kernel
theorem dX9_turns_0 : decode cX9_turns 0 = .ok (.aload_n 0, 1) := by decide +kernel
theorem dX9_turns_1 : decode cX9_turns 1 = .ok (.iload_n 1, 1) := by decide +kernel
theorem dX9_turns_2 : decode cX9_turns 2 = .ok (.invokevirtual 172, 3) := by decide +kernel
theorem dX9_turns_5 : decode cX9_turns 5 = .ok (.astore_n 3, 1) := by decide +kernel
theorem dX9_turns_6 : decode cX9_turns 6 = .ok (.aload_n 3, 1) := by decide +kernel
theorem dX9_turns_7 : decode cX9_turns 7 = .ok (.ifnull 11, 3) := by decide +kernel
theorem dX9_turns_10 : decode cX9_turns 10 = .ok (.aload_n 0, 1) := by decide +kernel
theorem dX9_turns_11 : decode cX9_turns 11 = .ok (.iload_n 2, 1) := by decide +kernel
theorem dX9_turns_12 : decode cX9_turns 12 = .ok (.invokevirtual 211, 3) := by decide +kernel
theorem dX9_turns_15 : decode cX9_turns 15 = .ok (.ifCond .ne 7, 3) := by decide +kernel
theorem dX9_turns_18 : decode cX9_turns 18 = .ok (.ldc2_w 286, 3) := by decide +kernel
theorem dX9_turns_21 : decode cX9_turns 21 = .ok (.lreturn, 1) := by decide +kernel
theorem dX9_turns_22 : decode cX9_turns 22 = .ok (.aload_n 3, 1) := by decide +kernel
theorem dX9_turns_23 : decode cX9_turns 23 = .ok (.invokevirtual 248, 3) := by decide +kernel
theorem dX9_turns_26 : decode cX9_turns 26 = .ok (.ifCond .eq 7, 3) := by decide +kernel
theorem dX9_turns_29 : decode cX9_turns 29 = .ok (.ldc2_w 288, 3) := by decide +kernel
theorem dX9_turns_32 : decode cX9_turns 32 = .ok (.lreturn, 1) := by decide +kernel
theorem dX9_turns_33 : decode cX9_turns 33 = .ok (.ldc2_w 290, 3) := by decide +kernel
theorem dX9_turns_36 : decode cX9_turns 36 = .ok (.lstore 4, 2) := by decide +kernel
theorem dX9_turns_38 : decode cX9_turns 38 = .ok (.aload_n 0, 1) := by decide +kernel
theorem dX9_turns_39 : decode cX9_turns 39 = .ok (.getfield 77, 3) := by decide +kernel
theorem dX9_turns_42 : decode cX9_turns 42 = .ok (.istore 6, 2) := by decide +kernel
theorem dX9_turns_44 : decode cX9_turns 44 = .ok (.iload 6, 2) := by decide +kernel
theorem dX9_turns_46 : decode cX9_turns 46 = .ok (.aload_n 0, 1) := by decide +kernel
theorem dX9_turns_47 : decode cX9_turns 47 = .ok (.getfield 77, 3) := by decide +kernel
theorem dX9_turns_50 : decode cX9_turns 50 = .ok (.iload_n 2, 1) := by decide +kernel
theorem dX9_turns_51 : decode cX9_turns 51 = .ok (.iadd, 1) := by decide +kernel
theorem dX9_turns_52 : decode cX9_turns 52 = .ok (.if_icmp .ge 53, 3) := by decide +kernel
theorem dX9_turns_55 : decode cX9_turns 55 = .ok (.aload_n 0, 1) := by decide +kernel
theorem dX9_turns_56 : decode cX9_turns 56 = .ok (.getfield 10, 3) := by decide +kernel
theorem dX9_turns_59 : decode cX9_turns 59 = .ok (.iload 6, 2) := by decide +kernel
theorem dX9_turns_61 : decode cX9_turns 61 = .ok (.invokevirtual 292, 3) := by decide +kernel
theorem dX9_turns_64 : decode cX9_turns 64 = .ok (.iconst 3, 1) := by decide +kernel
theorem dX9_turns_65 : decode cX9_turns 65 = .ok (.if_icmp .lt 34, 3) := by decide +kernel
theorem dX9_turns_68 : decode cX9_turns 68 = .ok (.lload 4, 2) := by decide +kernel
theorem dX9_turns_70 : decode cX9_turns 70 = .ok (.bipush 100, 2) := by decide +kernel
theorem dX9_turns_72 : decode cX9_turns 72 = .ok (.aload_n 0, 1) := by decide +kernel
theorem dX9_turns_73 : decode cX9_turns 73 = .ok (.getfield 34, 3) := by decide +kernel
theorem dX9_turns_76 : decode cX9_turns 76 = .ok (.aload_n 3, 1) := by decide +kernel
theorem dX9_turns_77 : decode cX9_turns 77 = .ok (.aload_n 3, 1) := by decide +kernel
theorem dX9_turns_78 : decode cX9_turns 78 = .ok (.getfield 176, 3) := by decide +kernel
theorem dX9_turns_81 : decode cX9_turns 81 = .ok (.aload_n 3, 1) := by decide +kernel
theorem dX9_turns_82 : decode cX9_turns 82 = .ok (.getfield 179, 3) := by decide +kernel
theorem dX9_turns_85 : decode cX9_turns 85 = .ok (.iload 6, 2) := by decide +kernel
theorem dX9_turns_87 : decode cX9_turns 87 = .ok (.invokevirtual 295, 3) := by decide +kernel
theorem dX9_turns_90 : decode cX9_turns 90 = .ok (.isub, 1) := by decide +kernel
theorem dX9_turns_91 : decode cX9_turns 91 = .ok (.i2l, 1) := by decide +kernel
theorem dX9_turns_92 : decode cX9_turns 92 = .ok (.lmul, 1) := by decide +kernel
theorem dX9_turns_93 : decode cX9_turns 93 = .ok (.ldc2_w 298, 3) := by decide +kernel
theorem dX9_turns_96 : decode cX9_turns 96 = .ok (.ldiv, 1) := by decide +kernel
theorem dX9_turns_97 : decode cX9_turns 97 = .ok (.lstore 4, 2) := by decide +kernel
theorem dX9_turns_99 : decode cX9_turns 99 = .ok (.iinc 6 1, 3) := by decide +kernel
theorem dX9_turns_102 : decode cX9_turns 102 = .ok (.goto (-58), 3) := by decide +kernel
theorem dX9_turns_105 : decode cX9_turns 105 = .ok (.lload 4, 2) := by decide +kernel
theorem dX9_turns_107 : decode cX9_turns 107 = .ok (.lreturn, 1) := by decide +kernel
theorem dX9_trial_0 : decode cX9_trial 0 = .ok (.iload_n 1, 1) := by decide +kernel
theorem dX9_trial_1 : decode cX9_trial 1 = .ok (.iload_n 2, 1) := by decide +kernel
theorem dX9_trial_2 : decode cX9_trial 2 = .ok (.invokestatic 300, 3) := by decide +kernel
theorem dX9_trial_5 : decode cX9_trial 5 = .ok (.ifCond .ne 5, 3) := by decide +kernel
theorem dX9_trial_8 : decode cX9_trial 8 = .ok (.iconst (-1), 1) := by decide +kernel
theorem dX9_trial_9 : decode cX9_trial 9 = .ok (.ireturn, 1) := by decide +kernel
theorem dX9_trial_10 : decode cX9_trial 10 = .ok (.iload 4, 2) := by decide +kernel
theorem dX9_trial_12 : decode cX9_trial 12 = .ok (.iconst 1, 1) := by decide +kernel
theorem dX9_trial_13 : decode cX9_trial 13 = .ok (.bipush 99, 2) := by decide +kernel
theorem dX9_trial_15 : decode cX9_trial 15 = .ok (.invokestatic 133, 3) := by decide +kernel
theorem dX9_trial_18 : decode cX9_trial 18 = .ok (.ifCond .eq 13, 3) := by decide +kernel
theorem dX9_trial_21 : decode cX9_trial 21 = .ok (.iload_n 3, 1) := by decide +kernel
theorem dX9_trial_22 : decode cX9_trial 22 = .ok (.iconst 0, 1) := by decide +kernel
theorem dX9_trial_23 : decode cX9_trial 23 = .ok (.iload 4, 2) := by decide +kernel
theorem dX9_trial_25 : decode cX9_trial 25 = .ok (.invokestatic 133, 3) := by decide +kernel
theorem dX9_trial_28 : decode cX9_trial 28 = .ok (.ifCond .ne 6, 3) := by decide +kernel
theorem dX9_trial_31 : decode cX9_trial 31 = .ok (.bipush (-2), 2) := by decide +kernel
theorem dX9_trial_33 : decode cX9_trial 33 = .ok (.ireturn, 1) := by decide +kernel
theorem dX9_trial_34 : decode cX9_trial 34 = .ok (.iconst 4, 1) := by decide +kernel
theorem dX9_trial_35 : decode cX9_trial 35 = .ok (.iload_n 1, 1) := by decide +kernel
theorem dX9_trial_36 : decode cX9_trial 36 = .ok (.imul, 1) := by decide +kernel
theorem dX9_trial_37 : decode cX9_trial 37 = .ok (.iload_n 2, 1) := by decide +kernel
theorem dX9_trial_38 : decode cX9_trial 38 = .ok (.iadd, 1) := by decide +kernel
theorem dX9_trial_39 : decode cX9_trial 39 = .ok (.istore 5, 2) := by decide +kernel
theorem dX9_trial_41 : decode cX9_trial 41 = .ok (.aload_n 0, 1) := by decide +kernel
theorem dX9_trial_42 : decode cX9_trial 42 = .ok (.getfield 60, 3) := by decide +kernel
theorem dX9_trial_45 : decode cX9_trial 45 = .ok (.getfield 303, 3) := by decide +kernel
theorem dX9_trial_48 : decode cX9_trial 48 = .ok (.iload 5, 2) := by decide +kernel
theorem dX9_trial_50 : decode cX9_trial 50 = .ok (.iaload, 1) := by decide +kernel
theorem dX9_trial_51 : decode cX9_trial 51 = .ok (.iload 4, 2) := by decide +kernel
theorem dX9_trial_53 : decode cX9_trial 53 = .ok (.iadd, 1) := by decide +kernel
theorem dX9_trial_54 : decode cX9_trial 54 = .ok (.sipush 9999, 3) := by decide +kernel
theorem dX9_trial_57 : decode cX9_trial 57 = .ok (.if_icmp .le 6, 3) := by decide +kernel
theorem dX9_trial_60 : decode cX9_trial 60 = .ok (.bipush (-4), 2) := by decide +kernel
theorem dX9_trial_62 : decode cX9_trial 62 = .ok (.ireturn, 1) := by decide +kernel
theorem dX9_trial_63 : decode cX9_trial 63 = .ok (.aload_n 0, 1) := by decide +kernel
theorem dX9_trial_64 : decode cX9_trial 64 = .ok (.getfield 60, 3) := by decide +kernel
theorem dX9_trial_67 : decode cX9_trial 67 = .ok (.getfield 303, 3) := by decide +kernel
theorem dX9_trial_70 : decode cX9_trial 70 = .ok (.iload 5, 2) := by decide +kernel
theorem dX9_trial_72 : decode cX9_trial 72 = .ok (.dup2, 1) := by decide +kernel
theorem dX9_trial_73 : decode cX9_trial 73 = .ok (.iaload, 1) := by decide +kernel
theorem dX9_trial_74 : decode cX9_trial 74 = .ok (.iload 4, 2) := by decide +kernel
theorem dX9_trial_76 : decode cX9_trial 76 = .ok (.iadd, 1) := by decide +kernel
theorem dX9_trial_77 : decode cX9_trial 77 = .ok (.iastore, 1) := by decide +kernel
theorem dX9_trial_78 : decode cX9_trial 78 = .ok (.aload_n 0, 1) := by decide +kernel
theorem dX9_trial_79 : decode cX9_trial 79 = .ok (.getfield 60, 3) := by decide +kernel
theorem dX9_trial_82 : decode cX9_trial 82 = .ok (.getfield 306, 3) := by decide +kernel
theorem dX9_trial_85 : decode cX9_trial 85 = .ok (.iload 5, 2) := by decide +kernel
theorem dX9_trial_87 : decode cX9_trial 87 = .ok (.dup2, 1) := by decide +kernel
theorem dX9_trial_88 : decode cX9_trial 88 = .ok (.iaload, 1) := by decide +kernel
theorem dX9_trial_89 : decode cX9_trial 89 = .ok (.iload_n 3, 1) := by decide +kernel
theorem dX9_trial_90 : decode cX9_trial 90 = .ok (.iadd, 1) := by decide +kernel
theorem dX9_trial_91 : decode cX9_trial 91 = .ok (.iastore, 1) := by decide +kernel
theorem dX9_trial_92 : decode cX9_trial 92 = .ok (.aload_n 0, 1) := by decide +kernel
theorem dX9_trial_93 : decode cX9_trial 93 = .ok (.getfield 60, 3) := by decide +kernel
theorem dX9_trial_96 : decode cX9_trial 96 = .ok (.getfield 303, 3) := by decide +kernel
theorem dX9_trial_99 : decode cX9_trial 99 = .ok (.iload 5, 2) := by decide +kernel
theorem dX9_trial_101 : decode cX9_trial 101 = .ok (.iaload, 1) := by decide +kernel
theorem dX9_trial_102 : decode cX9_trial 102 = .ok (.ireturn, 1) := by decide +kernel
theorem dX9_rate_0 : decode cX9_rate 0 = .ok (.iload_n 1, 1) := by decide +kernel
theorem dX9_rate_1 : decode cX9_rate 1 = .ok (.iload_n 2, 1) := by decide +kernel
theorem dX9_rate_2 : decode cX9_rate 2 = .ok (.invokestatic 300, 3) := by decide +kernel
theorem dX9_rate_5 : decode cX9_rate 5 = .ok (.ifCond .eq 12, 3) := by decide +kernel
theorem dX9_rate_8 : decode cX9_rate 8 = .ok (.iload_n 3, 1) := by decide +kernel
theorem dX9_rate_9 : decode cX9_rate 9 = .ok (.iconst 0, 1) := by decide +kernel
theorem dX9_rate_10 : decode cX9_rate 10 = .ok (.iconst 1, 1) := by decide +kernel
theorem dX9_rate_11 : decode cX9_rate 11 = .ok (.invokestatic 133, 3) := by decide +kernel
theorem dX9_rate_14 : decode cX9_rate 14 = .ok (.ifCond .ne 7, 3) := by decide +kernel
theorem dX9_rate_17 : decode cX9_rate 17 = .ok (.ldc2_w 286, 3) := by decide +kernel
theorem dX9_rate_20 : decode cX9_rate 20 = .ok (.lreturn, 1) := by decide +kernel
theorem dX9_rate_21 : decode cX9_rate 21 = .ok (.aload_n 0, 1) := by decide +kernel
theorem dX9_rate_22 : decode cX9_rate 22 = .ok (.getfield 60, 3) := by decide +kernel
theorem dX9_rate_25 : decode cX9_rate 25 = .ok (.iload_n 1, 1) := by decide +kernel
theorem dX9_rate_26 : decode cX9_rate 26 = .ok (.iload_n 2, 1) := by decide +kernel
theorem dX9_rate_27 : decode cX9_rate 27 = .ok (.invokevirtual 309, 3) := by decide +kernel
theorem dX9_rate_30 : decode cX9_rate 30 = .ok (.aload_n 0, 1) := by decide +kernel
theorem dX9_rate_31 : decode cX9_rate 31 = .ok (.getfield 60, 3) := by decide +kernel
theorem dX9_rate_34 : decode cX9_rate 34 = .ok (.iload_n 1, 1) := by decide +kernel
theorem dX9_rate_35 : decode cX9_rate 35 = .ok (.iload_n 2, 1) := by decide +kernel
theorem dX9_rate_36 : decode cX9_rate 36 = .ok (.invokevirtual 312, 3) := by decide +kernel
theorem dX9_rate_39 : decode cX9_rate 39 = .ok (.iload_n 3, 1) := by decide +kernel
theorem dX9_rate_40 : decode cX9_rate 40 = .ok (.invokestatic 315, 3) := by decide +kernel
theorem dX9_rate_43 : decode cX9_rate 43 = .ok (.lreturn, 1) := by decide +kernel
theorem dX9_form_0 : decode cX9_form 0 = .ok (.iload_n 1, 1) := by decide +kernel
theorem dX9_form_1 : decode cX9_form 1 = .ok (.iconst 0, 1) := by decide +kernel
theorem dX9_form_2 : decode cX9_form 2 = .ok (.iconst 3, 1) := by decide +kernel
theorem dX9_form_3 : decode cX9_form 3 = .ok (.invokestatic 133, 3) := by decide +kernel
theorem dX9_form_6 : decode cX9_form 6 = .ok (.ifCond .ne 6, 3) := by decide +kernel
theorem dX9_form_9 : decode cX9_form 9 = .ok (.bipush (-5), 2) := by decide +kernel
theorem dX9_form_11 : decode cX9_form 11 = .ok (.ireturn, 1) := by decide +kernel
theorem dX9_form_12 : decode cX9_form 12 = .ok (.iconst 0, 1) := by decide +kernel
theorem dX9_form_13 : decode cX9_form 13 = .ok (.istore_n 2, 1) := by decide +kernel
theorem dX9_form_14 : decode cX9_form 14 = .ok (.iconst 1, 1) := by decide +kernel
theorem dX9_form_15 : decode cX9_form 15 = .ok (.istore_n 3, 1) := by decide +kernel
theorem dX9_form_16 : decode cX9_form 16 = .ok (.iload_n 3, 1) := by decide +kernel
theorem dX9_form_17 : decode cX9_form 17 = .ok (.iconst 5, 1) := by decide +kernel
theorem dX9_form_18 : decode cX9_form 18 = .ok (.if_icmp .ge 25, 3) := by decide +kernel
theorem dX9_form_21 : decode cX9_form 21 = .ok (.aload_n 0, 1) := by decide +kernel
theorem dX9_form_22 : decode cX9_form 22 = .ok (.getfield 60, 3) := by decide +kernel
theorem dX9_form_25 : decode cX9_form 25 = .ok (.iload_n 3, 1) := by decide +kernel
theorem dX9_form_26 : decode cX9_form 26 = .ok (.iload_n 1, 1) := by decide +kernel
theorem dX9_form_27 : decode cX9_form 27 = .ok (.iload_n 2, 1) := by decide +kernel
theorem dX9_form_28 : decode cX9_form 28 = .ok (.iload_n 1, 1) := by decide +kernel
theorem dX9_form_29 : decode cX9_form 29 = .ok (.invokevirtual 319, 3) := by decide +kernel
theorem dX9_form_32 : decode cX9_form 32 = .ok (.ifCond .eq 5, 3) := by decide +kernel
theorem dX9_form_35 : decode cX9_form 35 = .ok (.iload_n 3, 1) := by decide +kernel
theorem dX9_form_36 : decode cX9_form 36 = .ok (.istore_n 2, 1) := by decide +kernel
theorem dX9_form_37 : decode cX9_form 37 = .ok (.iinc 3 1, 3) := by decide +kernel
theorem dX9_form_40 : decode cX9_form 40 = .ok (.goto (-24), 3) := by decide +kernel
theorem dX9_form_43 : decode cX9_form 43 = .ok (.iload_n 2, 1) := by decide +kernel
theorem dX9_form_44 : decode cX9_form 44 = .ok (.ireturn, 1) := by decide +kernel
theorem dX9_joined_0 : decode cX9_joined 0 = .ok (.iconst 0, 1) := by decide +kernel
theorem dX9_joined_1 : decode cX9_joined 1 = .ok (.istore_n 1, 1) := by decide +kernel
theorem dX9_joined_2 : decode cX9_joined 2 = .ok (.iconst 1, 1) := by decide +kernel
theorem dX9_joined_3 : decode cX9_joined 3 = .ok (.istore_n 2, 1) := by decide +kernel
theorem dX9_joined_4 : decode cX9_joined 4 = .ok (.iload_n 2, 1) := by decide +kernel
theorem dX9_joined_5 : decode cX9_joined 5 = .ok (.iconst 5, 1) := by decide +kernel
theorem dX9_joined_6 : decode cX9_joined 6 = .ok (.if_icmp .ge 39, 3) := by decide +kernel
theorem dX9_joined_9 : decode cX9_joined 9 = .ok (.aload_n 0, 1) := by decide +kernel
theorem dX9_joined_10 : decode cX9_joined 10 = .ok (.getfield 60, 3) := by decide +kernel
theorem dX9_joined_13 : decode cX9_joined 13 = .ok (.iload_n 2, 1) := by decide +kernel
theorem dX9_joined_14 : decode cX9_joined 14 = .ok (.aload_n 0, 1) := by decide +kernel
theorem dX9_joined_15 : decode cX9_joined 15 = .ok (.getfield 60, 3) := by decide +kernel
theorem dX9_joined_18 : decode cX9_joined 18 = .ok (.iload_n 2, 1) := by decide +kernel
theorem dX9_joined_19 : decode cX9_joined 19 = .ok (.invokevirtual 323, 3) := by decide +kernel
theorem dX9_joined_22 : decode cX9_joined 22 = .ok (.iload_n 1, 1) := by decide +kernel
theorem dX9_joined_23 : decode cX9_joined 23 = .ok (.aload_n 0, 1) := by decide +kernel
theorem dX9_joined_24 : decode cX9_joined 24 = .ok (.getfield 60, 3) := by decide +kernel
theorem dX9_joined_27 : decode cX9_joined 27 = .ok (.iload_n 1, 1) := by decide +kernel
theorem dX9_joined_28 : decode cX9_joined 28 = .ok (.invokevirtual 323, 3) := by decide +kernel
theorem dX9_joined_31 : decode cX9_joined 31 = .ok (.invokevirtual 319, 3) := by decide +kernel
theorem dX9_joined_34 : decode cX9_joined 34 = .ok (.ifCond .eq 5, 3) := by decide +kernel
theorem dX9_joined_37 : decode cX9_joined 37 = .ok (.iload_n 2, 1) := by decide +kernel
theorem dX9_joined_38 : decode cX9_joined 38 = .ok (.istore_n 1, 1) := by decide +kernel
theorem dX9_joined_39 : decode cX9_joined 39 = .ok (.iinc 2 1, 3) := by decide +kernel
theorem dX9_joined_42 : decode cX9_joined 42 = .ok (.goto (-38), 3) := by decide +kernel
theorem dX9_joined_45 : decode cX9_joined 45 = .ok (.iload_n 1, 1) := by decide +kernel
theorem dX9_joined_46 : decode cX9_joined 46 = .ok (.ireturn, 1) := by decide +kernel
theorem dX9_judge_0 : decode cX9_judge 0 = .ok (.aload_n 0, 1) := by decide +kernel
theorem dX9_judge_1 : decode cX9_judge 1 = .ok (.iload_n 1, 1) := by decide +kernel
theorem dX9_judge_2 : decode cX9_judge 2 = .ok (.invokevirtual 172, 3) := by decide +kernel
theorem dX9_judge_5 : decode cX9_judge 5 = .ok (.astore_n 3, 1) := by decide +kernel
theorem dX9_judge_6 : decode cX9_judge 6 = .ok (.aload_n 3, 1) := by decide +kernel
theorem dX9_judge_7 : decode cX9_judge 7 = .ok (.ifnonnull 6, 3) := by decide +kernel
theorem dX9_judge_10 : decode cX9_judge 10 = .ok (.bipush (-5), 2) := by decide +kernel
theorem dX9_judge_12 : decode cX9_judge 12 = .ok (.ireturn, 1) := by decide +kernel
theorem dX9_judge_13 : decode cX9_judge 13 = .ok (.aload_n 0, 1) := by decide +kernel
theorem dX9_judge_14 : decode cX9_judge 14 = .ok (.iload_n 2, 1) := by decide +kernel
theorem dX9_judge_15 : decode cX9_judge 15 = .ok (.invokevirtual 326, 3) := by decide +kernel
theorem dX9_judge_18 : decode cX9_judge 18 = .ok (.astore 4, 2) := by decide +kernel
theorem dX9_judge_20 : decode cX9_judge 20 = .ok (.aload_n 0, 1) := by decide +kernel
theorem dX9_judge_21 : decode cX9_judge 21 = .ok (.aload 4, 2) := by decide +kernel
theorem dX9_judge_23 : decode cX9_judge 23 = .ok (.invokevirtual 330, 3) := by decide +kernel
theorem dX9_judge_26 : decode cX9_judge 26 = .ok (.istore 5, 2) := by decide +kernel
theorem dX9_judge_28 : decode cX9_judge 28 = .ok (.aload 4, 2) := by decide +kernel
theorem dX9_judge_30 : decode cX9_judge 30 = .ok (.ifnull 8, 3) := by decide +kernel
theorem dX9_judge_33 : decode cX9_judge 33 = .ok (.iload 5, 2) := by decide +kernel
theorem dX9_judge_35 : decode cX9_judge 35 = .ok (.ifCond .eq 8, 3) := by decide +kernel
theorem dX9_judge_38 : decode cX9_judge 38 = .ok (.iload 5, 2) := by decide +kernel
theorem dX9_judge_40 : decode cX9_judge 40 = .ok (.goto 11, 3) := by decide +kernel
theorem dX9_judge_43 : decode cX9_judge 43 = .ok (.aload_n 0, 1) := by decide +kernel
theorem dX9_judge_44 : decode cX9_judge 44 = .ok (.iload_n 1, 1) := by decide +kernel
theorem dX9_judge_45 : decode cX9_judge 45 = .ok (.aload_n 3, 1) := by decide +kernel
theorem dX9_judge_46 : decode cX9_judge 46 = .ok (.aload 4, 2) := by decide +kernel
theorem dX9_judge_48 : decode cX9_judge 48 = .ok (.invokevirtual 334, 3) := by decide +kernel
theorem dX9_judge_51 : decode cX9_judge 51 = .ok (.ireturn, 1) := by decide +kernel
theorem dX9_which_0 : decode cX9_which 0 = .ok (.aload_n 0, 1) := by decide +kernel
theorem dX9_which_1 : decode cX9_which 1 = .ok (.iload_n 1, 1) := by decide +kernel
theorem dX9_which_2 : decode cX9_which 2 = .ok (.invokevirtual 326, 3) := by decide +kernel
theorem dX9_which_5 : decode cX9_which 5 = .ok (.astore_n 2, 1) := by decide +kernel
theorem dX9_which_6 : decode cX9_which 6 = .ok (.aload_n 0, 1) := by decide +kernel
theorem dX9_which_7 : decode cX9_which 7 = .ok (.aload_n 2, 1) := by decide +kernel
theorem dX9_which_8 : decode cX9_which 8 = .ok (.invokevirtual 330, 3) := by decide +kernel
theorem dX9_which_11 : decode cX9_which 11 = .ok (.istore_n 3, 1) := by decide +kernel
theorem dX9_which_12 : decode cX9_which 12 = .ok (.aload_n 2, 1) := by decide +kernel
theorem dX9_which_13 : decode cX9_which 13 = .ok (.ifnull 7, 3) := by decide +kernel
theorem dX9_which_16 : decode cX9_which 16 = .ok (.iload_n 3, 1) := by decide +kernel
theorem dX9_which_17 : decode cX9_which 17 = .ok (.ifCond .eq 5, 3) := by decide +kernel
theorem dX9_which_20 : decode cX9_which 20 = .ok (.iload_n 3, 1) := by decide +kernel
theorem dX9_which_21 : decode cX9_which 21 = .ok (.ireturn, 1) := by decide +kernel
theorem dX9_which_22 : decode cX9_which 22 = .ok (.iconst 0, 1) := by decide +kernel
theorem dX9_which_23 : decode cX9_which 23 = .ok (.istore 4, 2) := by decide +kernel
theorem dX9_which_25 : decode cX9_which 25 = .ok (.iconst 0, 1) := by decide +kernel
theorem dX9_which_26 : decode cX9_which 26 = .ok (.istore 5, 2) := by decide +kernel
theorem dX9_which_28 : decode cX9_which 28 = .ok (.iload 5, 2) := by decide +kernel
theorem dX9_which_30 : decode cX9_which 30 = .ok (.aload_n 0, 1) := by decide +kernel
theorem dX9_which_31 : decode cX9_which 31 = .ok (.getfield 81, 3) := by decide +kernel
theorem dX9_which_34 : decode cX9_which 34 = .ok (.if_icmp .ge 36, 3) := by decide +kernel
theorem dX9_which_37 : decode cX9_which 37 = .ok (.aload_n 0, 1) := by decide +kernel
theorem dX9_which_38 : decode cX9_which 38 = .ok (.iload 5, 2) := by decide +kernel
theorem dX9_which_40 : decode cX9_which 40 = .ok (.aload_n 0, 1) := by decide +kernel
theorem dX9_which_41 : decode cX9_which 41 = .ok (.getfield 40, 3) := by decide +kernel
theorem dX9_which_44 : decode cX9_which 44 = .ok (.iload 5, 2) := by decide +kernel
theorem dX9_which_46 : decode cX9_which 46 = .ok (.aaload, 1) := by decide +kernel
theorem dX9_which_47 : decode cX9_which 47 = .ok (.aload_n 2, 1) := by decide +kernel
theorem dX9_which_48 : decode cX9_which 48 = .ok (.invokevirtual 334, 3) := by decide +kernel
theorem dX9_which_51 : decode cX9_which 51 = .ok (.iconst (-1), 1) := by decide +kernel
theorem dX9_which_52 : decode cX9_which 52 = .ok (.if_icmp .ne 12, 3) := by decide +kernel
theorem dX9_which_55 : decode cX9_which 55 = .ok (.iload 4, 2) := by decide +kernel
theorem dX9_which_57 : decode cX9_which 57 = .ok (.iconst 1, 1) := by decide +kernel
theorem dX9_which_58 : decode cX9_which 58 = .ok (.iload 5, 2) := by decide +kernel
theorem dX9_which_60 : decode cX9_which 60 = .ok (.ishl, 1) := by decide +kernel
theorem dX9_which_61 : decode cX9_which 61 = .ok (.ior, 1) := by decide +kernel
theorem dX9_which_62 : decode cX9_which 62 = .ok (.istore 4, 2) := by decide +kernel
theorem dX9_which_64 : decode cX9_which 64 = .ok (.iinc 5 1, 3) := by decide +kernel
theorem dX9_which_67 : decode cX9_which 67 = .ok (.goto (-39), 3) := by decide +kernel
theorem dX9_which_70 : decode cX9_which 70 = .ok (.iload 4, 2) := by decide +kernel
theorem dX9_which_72 : decode cX9_which 72 = .ok (.ireturn, 1) := by decide +kernel
theorem dX9_laws_0 : decode cX9_laws 0 = .ok (.aload_n 0, 1) := by decide +kernel
theorem dX9_laws_1 : decode cX9_laws 1 = .ok (.iload_n 1, 1) := by decide +kernel
theorem dX9_laws_2 : decode cX9_laws 2 = .ok (.invokevirtual 172, 3) := by decide +kernel
theorem dX9_laws_5 : decode cX9_laws 5 = .ok (.astore_n 3, 1) := by decide +kernel
theorem dX9_laws_6 : decode cX9_laws 6 = .ok (.aload_n 3, 1) := by decide +kernel
theorem dX9_laws_7 : decode cX9_laws 7 = .ok (.ifnonnull 6, 3) := by decide +kernel
theorem dX9_laws_10 : decode cX9_laws 10 = .ok (.bipush (-5), 2) := by decide +kernel
theorem dX9_laws_12 : decode cX9_laws 12 = .ok (.ireturn, 1) := by decide +kernel
theorem dX9_laws_13 : decode cX9_laws 13 = .ok (.aload_n 0, 1) := by decide +kernel
theorem dX9_laws_14 : decode cX9_laws 14 = .ok (.iload_n 2, 1) := by decide +kernel
theorem dX9_laws_15 : decode cX9_laws 15 = .ok (.invokevirtual 326, 3) := by decide +kernel
theorem dX9_laws_18 : decode cX9_laws 18 = .ok (.astore 4, 2) := by decide +kernel
theorem dX9_laws_20 : decode cX9_laws 20 = .ok (.aload_n 0, 1) := by decide +kernel
theorem dX9_laws_21 : decode cX9_laws 21 = .ok (.aload 4, 2) := by decide +kernel
theorem dX9_laws_23 : decode cX9_laws 23 = .ok (.invokevirtual 330, 3) := by decide +kernel
theorem dX9_laws_26 : decode cX9_laws 26 = .ok (.istore 5, 2) := by decide +kernel
theorem dX9_laws_28 : decode cX9_laws 28 = .ok (.aload 4, 2) := by decide +kernel
theorem dX9_laws_30 : decode cX9_laws 30 = .ok (.ifnull 8, 3) := by decide +kernel
theorem dX9_laws_33 : decode cX9_laws 33 = .ok (.iload 5, 2) := by decide +kernel
theorem dX9_laws_35 : decode cX9_laws 35 = .ok (.ifCond .eq 6, 3) := by decide +kernel
theorem dX9_laws_38 : decode cX9_laws 38 = .ok (.iload 5, 2) := by decide +kernel
theorem dX9_laws_40 : decode cX9_laws 40 = .ok (.ireturn, 1) := by decide +kernel
theorem dX9_laws_41 : decode cX9_laws 41 = .ok (.iconst 0, 1) := by decide +kernel
theorem dX9_laws_42 : decode cX9_laws 42 = .ok (.istore 6, 2) := by decide +kernel
theorem dX9_laws_44 : decode cX9_laws 44 = .ok (.iconst 0, 1) := by decide +kernel
theorem dX9_laws_45 : decode cX9_laws 45 = .ok (.istore 7, 2) := by decide +kernel
theorem dX9_laws_47 : decode cX9_laws 47 = .ok (.iload 7, 2) := by decide +kernel
theorem dX9_laws_49 : decode cX9_laws 49 = .ok (.aload_n 0, 1) := by decide +kernel
theorem dX9_laws_50 : decode cX9_laws 50 = .ok (.getfield 84, 3) := by decide +kernel
theorem dX9_laws_53 : decode cX9_laws 53 = .ok (.if_icmp .ge 44, 3) := by decide +kernel
theorem dX9_laws_56 : decode cX9_laws 56 = .ok (.aload_n 0, 1) := by decide +kernel
theorem dX9_laws_57 : decode cX9_laws 57 = .ok (.getfield 34, 3) := by decide +kernel
theorem dX9_laws_60 : decode cX9_laws 60 = .ok (.aload_n 0, 1) := by decide +kernel
theorem dX9_laws_61 : decode cX9_laws 61 = .ok (.getfield 25, 3) := by decide +kernel
theorem dX9_laws_64 : decode cX9_laws 64 = .ok (.iload 7, 2) := by decide +kernel
theorem dX9_laws_66 : decode cX9_laws 66 = .ok (.aaload, 1) := by decide +kernel
theorem dX9_laws_67 : decode cX9_laws 67 = .ok (.putfield 116, 3) := by decide +kernel
theorem dX9_laws_70 : decode cX9_laws 70 = .ok (.aload_n 0, 1) := by decide +kernel
theorem dX9_laws_71 : decode cX9_laws 71 = .ok (.iload_n 1, 1) := by decide +kernel
theorem dX9_laws_72 : decode cX9_laws 72 = .ok (.aload_n 3, 1) := by decide +kernel
theorem dX9_laws_73 : decode cX9_laws 73 = .ok (.aload 4, 2) := by decide +kernel
theorem dX9_laws_75 : decode cX9_laws 75 = .ok (.invokevirtual 334, 3) := by decide +kernel
theorem dX9_laws_78 : decode cX9_laws 78 = .ok (.iconst (-1), 1) := by decide +kernel
theorem dX9_laws_79 : decode cX9_laws 79 = .ok (.if_icmp .ne 12, 3) := by decide +kernel
theorem dX9_laws_82 : decode cX9_laws 82 = .ok (.iload 6, 2) := by decide +kernel
theorem dX9_laws_84 : decode cX9_laws 84 = .ok (.iconst 1, 1) := by decide +kernel
theorem dX9_laws_85 : decode cX9_laws 85 = .ok (.iload 7, 2) := by decide +kernel
theorem dX9_laws_87 : decode cX9_laws 87 = .ok (.ishl, 1) := by decide +kernel
theorem dX9_laws_88 : decode cX9_laws 88 = .ok (.ior, 1) := by decide +kernel
theorem dX9_laws_89 : decode cX9_laws 89 = .ok (.istore 6, 2) := by decide +kernel
theorem dX9_laws_91 : decode cX9_laws 91 = .ok (.iinc 7 1, 3) := by decide +kernel
theorem dX9_laws_94 : decode cX9_laws 94 = .ok (.goto (-47), 3) := by decide +kernel
theorem dX9_laws_97 : decode cX9_laws 97 = .ok (.aload_n 0, 1) := by decide +kernel
theorem dX9_laws_98 : decode cX9_laws 98 = .ok (.getfield 34, 3) := by decide +kernel
theorem dX9_laws_101 : decode cX9_laws 101 = .ok (.aload_n 0, 1) := by decide +kernel
theorem dX9_laws_102 : decode cX9_laws 102 = .ok (.getfield 25, 3) := by decide +kernel
theorem dX9_laws_105 : decode cX9_laws 105 = .ok (.aload_n 0, 1) := by decide +kernel
theorem dX9_laws_106 : decode cX9_laws 106 = .ok (.getfield 87, 3) := by decide +kernel
theorem dX9_laws_109 : decode cX9_laws 109 = .ok (.aaload, 1) := by decide +kernel
theorem dX9_laws_110 : decode cX9_laws 110 = .ok (.putfield 116, 3) := by decide +kernel
theorem dX9_laws_113 : decode cX9_laws 113 = .ok (.iload 6, 2) := by decide +kernel
theorem dX9_laws_115 : decode cX9_laws 115 = .ok (.ireturn, 1) := by decide +kernel
theorem dX9_film_0 : decode cX9_film 0 = .ok (.aload_n 0, 1) := by decide +kernel
theorem dX9_film_1 : decode cX9_film 1 = .ok (.iload_n 1, 1) := by decide +kernel
theorem dX9_film_2 : decode cX9_film 2 = .ok (.invokevirtual 172, 3) := by decide +kernel
theorem dX9_film_5 : decode cX9_film 5 = .ok (.astore 4, 2) := by decide +kernel
theorem dX9_film_7 : decode cX9_film 7 = .ok (.aload 4, 2) := by decide +kernel
theorem dX9_film_9 : decode cX9_film 9 = .ok (.ifnonnull 6, 3) := by decide +kernel
theorem dX9_film_12 : decode cX9_film 12 = .ok (.bipush (-5), 2) := by decide +kernel
theorem dX9_film_14 : decode cX9_film 14 = .ok (.ireturn, 1) := by decide +kernel
theorem dX9_film_15 : decode cX9_film 15 = .ok (.aload_n 0, 1) := by decide +kernel
theorem dX9_film_16 : decode cX9_film 16 = .ok (.iload_n 2, 1) := by decide +kernel
theorem dX9_film_17 : decode cX9_film 17 = .ok (.invokevirtual 326, 3) := by decide +kernel
theorem dX9_film_20 : decode cX9_film 20 = .ok (.astore 5, 2) := by decide +kernel
theorem dX9_film_22 : decode cX9_film 22 = .ok (.aload 5, 2) := by decide +kernel
theorem dX9_film_24 : decode cX9_film 24 = .ok (.ifnonnull 6, 3) := by decide +kernel
theorem dX9_film_27 : decode cX9_film 27 = .ok (.bipush (-2), 2) := by decide +kernel
theorem dX9_film_29 : decode cX9_film 29 = .ok (.ireturn, 1) := by decide +kernel
theorem dX9_film_30 : decode cX9_film 30 = .ok (.aload_n 0, 1) := by decide +kernel
theorem dX9_film_31 : decode cX9_film 31 = .ok (.iload_n 3, 1) := by decide +kernel
theorem dX9_film_32 : decode cX9_film 32 = .ok (.invokevirtual 211, 3) := by decide +kernel
theorem dX9_film_35 : decode cX9_film 35 = .ok (.ifCond .ne 6, 3) := by decide +kernel
theorem dX9_film_38 : decode cX9_film 38 = .ok (.bipush (-7), 2) := by decide +kernel
theorem dX9_film_40 : decode cX9_film 40 = .ok (.ireturn, 1) := by decide +kernel
theorem dX9_film_41 : decode cX9_film 41 = .ok (.aload_n 0, 1) := by decide +kernel
theorem dX9_film_42 : decode cX9_film 42 = .ok (.iload_n 1, 1) := by decide +kernel
theorem dX9_film_43 : decode cX9_film 43 = .ok (.aload 4, 2) := by decide +kernel
theorem dX9_film_45 : decode cX9_film 45 = .ok (.iload_n 3, 1) := by decide +kernel
theorem dX9_film_46 : decode cX9_film 46 = .ok (.invokevirtual 214, 3) := by decide +kernel
theorem dX9_film_49 : decode cX9_film 49 = .ok (.astore 6, 2) := by decide +kernel
theorem dX9_film_51 : decode cX9_film 51 = .ok (.aload 5, 2) := by decide +kernel
theorem dX9_film_53 : decode cX9_film 53 = .ok (.iconst 2, 1) := by decide +kernel
theorem dX9_film_54 : decode cX9_film 54 = .ok (.iload_n 3, 1) := by decide +kernel
theorem dX9_film_55 : decode cX9_film 55 = .ok (.invokevirtual 338, 3) := by decide +kernel
theorem dX9_film_58 : decode cX9_film 58 = .ok (.iconst 0, 1) := by decide +kernel
theorem dX9_film_59 : decode cX9_film 59 = .ok (.istore 7, 2) := by decide +kernel
theorem dX9_film_61 : decode cX9_film 61 = .ok (.iload 7, 2) := by decide +kernel
theorem dX9_film_63 : decode cX9_film 63 = .ok (.iload_n 3, 1) := by decide +kernel
theorem dX9_film_64 : decode cX9_film 64 = .ok (.if_icmp .ge 28, 3) := by decide +kernel
theorem dX9_film_67 : decode cX9_film 67 = .ok (.aload 5, 2) := by decide +kernel
theorem dX9_film_69 : decode cX9_film 69 = .ok (.iload 7, 2) := by decide +kernel
theorem dX9_film_71 : decode cX9_film 71 = .ok (.aload 6, 2) := by decide +kernel
theorem dX9_film_73 : decode cX9_film 73 = .ok (.aload_n 0, 1) := by decide +kernel
theorem dX9_film_74 : decode cX9_film 74 = .ok (.getfield 77, 3) := by decide +kernel
theorem dX9_film_77 : decode cX9_film 77 = .ok (.iload 7, 2) := by decide +kernel
theorem dX9_film_79 : decode cX9_film 79 = .ok (.iadd, 1) := by decide +kernel
theorem dX9_film_80 : decode cX9_film 80 = .ok (.invokevirtual 225, 3) := by decide +kernel
theorem dX9_film_83 : decode cX9_film 83 = .ok (.invokevirtual 342, 3) := by decide +kernel
theorem dX9_film_86 : decode cX9_film 86 = .ok (.iinc 7 1, 3) := by decide +kernel
theorem dX9_film_89 : decode cX9_film 89 = .ok (.goto (-28), 3) := by decide +kernel
theorem dX9_film_92 : decode cX9_film 92 = .ok (.iload_n 3, 1) := by decide +kernel
theorem dX9_film_93 : decode cX9_film 93 = .ok (.ireturn, 1) := by decide +kernel
theorem dX9_drawn_0 : decode cX9_drawn 0 = .ok (.aload_n 0, 1) := by decide +kernel
theorem dX9_drawn_1 : decode cX9_drawn 1 = .ok (.iload_n 3, 1) := by decide +kernel
theorem dX9_drawn_2 : decode cX9_drawn 2 = .ok (.invokevirtual 172, 3) := by decide +kernel
theorem dX9_drawn_5 : decode cX9_drawn 5 = .ok (.astore 5, 2) := by decide +kernel
theorem dX9_drawn_7 : decode cX9_drawn 7 = .ok (.aload 5, 2) := by decide +kernel
theorem dX9_drawn_9 : decode cX9_drawn 9 = .ok (.ifnonnull 6, 3) := by decide +kernel
theorem dX9_drawn_12 : decode cX9_drawn 12 = .ok (.bipush (-5), 2) := by decide +kernel
theorem dX9_drawn_14 : decode cX9_drawn 14 = .ok (.ireturn, 1) := by decide +kernel
theorem dX9_drawn_15 : decode cX9_drawn 15 = .ok (.iload_n 1, 1) := by decide +kernel
theorem dX9_drawn_16 : decode cX9_drawn 16 = .ok (.iconst 0, 1) := by decide +kernel
theorem dX9_drawn_17 : decode cX9_drawn 17 = .ok (.ldc_w 345, 3) := by decide +kernel
theorem dX9_drawn_20 : decode cX9_drawn 20 = .ok (.invokestatic 133, 3) := by decide +kernel
theorem dX9_drawn_23 : decode cX9_drawn 23 = .ok (.ifCond .eq 21, 3) := by decide +kernel
theorem dX9_drawn_26 : decode cX9_drawn 26 = .ok (.aload_n 0, 1) := by decide +kernel
theorem dX9_drawn_27 : decode cX9_drawn 27 = .ok (.iload_n 2, 1) := by decide +kernel
theorem dX9_drawn_28 : decode cX9_drawn 28 = .ok (.invokevirtual 211, 3) := by decide +kernel
theorem dX9_drawn_31 : decode cX9_drawn 31 = .ok (.ifCond .eq 13, 3) := by decide +kernel
theorem dX9_drawn_34 : decode cX9_drawn 34 = .ok (.iload 4, 2) := by decide +kernel
theorem dX9_drawn_36 : decode cX9_drawn 36 = .ok (.iconst 0, 1) := by decide +kernel
theorem dX9_drawn_37 : decode cX9_drawn 37 = .ok (.iconst 2, 1) := by decide +kernel
theorem dX9_drawn_38 : decode cX9_drawn 38 = .ok (.invokestatic 133, 3) := by decide +kernel
theorem dX9_drawn_41 : decode cX9_drawn 41 = .ok (.ifCond .ne 6, 3) := by decide +kernel
theorem dX9_drawn_44 : decode cX9_drawn 44 = .ok (.bipush (-7), 2) := by decide +kernel
theorem dX9_drawn_46 : decode cX9_drawn 46 = .ok (.ireturn, 1) := by decide +kernel
theorem dX9_drawn_47 : decode cX9_drawn 47 = .ok (.aload_n 0, 1) := by decide +kernel
theorem dX9_drawn_48 : decode cX9_drawn 48 = .ok (.iload_n 1, 1) := by decide +kernel
theorem dX9_drawn_49 : decode cX9_drawn 49 = .ok (.invokevirtual 346, 3) := by decide +kernel
theorem dX9_drawn_52 : decode cX9_drawn 52 = .ok (.aload_n 0, 1) := by decide +kernel
theorem dX9_drawn_53 : decode cX9_drawn 53 = .ok (.getfield 34, 3) := by decide +kernel
theorem dX9_drawn_56 : decode cX9_drawn 56 = .ok (.aload_n 0, 1) := by decide +kernel
theorem dX9_drawn_57 : decode cX9_drawn 57 = .ok (.getfield 54, 3) := by decide +kernel
theorem dX9_drawn_60 : decode cX9_drawn 60 = .ok (.putfield 349, 3) := by decide +kernel
theorem dX9_drawn_63 : decode cX9_drawn 63 = .ok (.aload_n 0, 1) := by decide +kernel
theorem dX9_drawn_64 : decode cX9_drawn 64 = .ok (.iload_n 3, 1) := by decide +kernel
theorem dX9_drawn_65 : decode cX9_drawn 65 = .ok (.aload 5, 2) := by decide +kernel
theorem dX9_drawn_67 : decode cX9_drawn 67 = .ok (.iload_n 2, 1) := by decide +kernel
theorem dX9_drawn_68 : decode cX9_drawn 68 = .ok (.invokevirtual 214, 3) := by decide +kernel
theorem dX9_drawn_71 : decode cX9_drawn 71 = .ok (.astore 6, 2) := by decide +kernel
theorem dX9_drawn_73 : decode cX9_drawn 73 = .ok (.aload_n 0, 1) := by decide +kernel
theorem dX9_drawn_74 : decode cX9_drawn 74 = .ok (.getfield 34, 3) := by decide +kernel
theorem dX9_drawn_77 : decode cX9_drawn 77 = .ok (.aload_n 0, 1) := by decide +kernel
theorem dX9_drawn_78 : decode cX9_drawn 78 = .ok (.getfield 10, 3) := by decide +kernel
theorem dX9_drawn_81 : decode cX9_drawn 81 = .ok (.getfield 352, 3) := by decide +kernel
theorem dX9_drawn_84 : decode cX9_drawn 84 = .ok (.putfield 349, 3) := by decide +kernel
theorem dX9_drawn_87 : decode cX9_drawn 87 = .ok (.iload 4, 2) := by decide +kernel
theorem dX9_drawn_89 : decode cX9_drawn 89 = .ok (.lookupswitch 39 #[(0, 27), (1, 33)], 27) := by decide +kernel
theorem dX9_drawn_116 : decode cX9_drawn 116 = .ok (.aload 6, 2) := by decide +kernel
theorem dX9_drawn_118 : decode cX9_drawn 118 = .ok (.getfield 218, 3) := by decide +kernel
theorem dX9_drawn_121 : decode cX9_drawn 121 = .ok (.ireturn, 1) := by decide +kernel
theorem dX9_drawn_122 : decode cX9_drawn 122 = .ok (.aload 6, 2) := by decide +kernel
theorem dX9_drawn_124 : decode cX9_drawn 124 = .ok (.getfield 219, 3) := by decide +kernel
theorem dX9_drawn_127 : decode cX9_drawn 127 = .ok (.ireturn, 1) := by decide +kernel
theorem dX9_drawn_128 : decode cX9_drawn 128 = .ok (.aload 6, 2) := by decide +kernel
theorem dX9_drawn_130 : decode cX9_drawn 130 = .ok (.getfield 222, 3) := by decide +kernel
theorem dX9_drawn_133 : decode cX9_drawn 133 = .ok (.ireturn, 1) := by decide +kernel
theorem dX9_chance_0 : decode cX9_chance 0 = .ok (.aload_n 0, 1) := by decide +kernel
theorem dX9_chance_1 : decode cX9_chance 1 = .ok (.iload_n 1, 1) := by decide +kernel
theorem dX9_chance_2 : decode cX9_chance 2 = .ok (.invokevirtual 172, 3) := by decide +kernel
theorem dX9_chance_5 : decode cX9_chance 5 = .ok (.astore 5, 2) := by decide +kernel
theorem dX9_chance_7 : decode cX9_chance 7 = .ok (.aload 5, 2) := by decide +kernel
theorem dX9_chance_9 : decode cX9_chance 9 = .ok (.ifnull 48, 3) := by decide +kernel
theorem dX9_chance_12 : decode cX9_chance 12 = .ok (.iload_n 2, 1) := by decide +kernel
theorem dX9_chance_13 : decode cX9_chance 13 = .ok (.iconst 0, 1) := by decide +kernel
theorem dX9_chance_14 : decode cX9_chance 14 = .ok (.ldc_w 345, 3) := by decide +kernel
theorem dX9_chance_17 : decode cX9_chance 17 = .ok (.invokestatic 133, 3) := by decide +kernel
theorem dX9_chance_20 : decode cX9_chance 20 = .ok (.ifCond .eq 37, 3) := by decide +kernel
theorem dX9_chance_23 : decode cX9_chance 23 = .ok (.iload_n 3, 1) := by decide +kernel
theorem dX9_chance_24 : decode cX9_chance 24 = .ok (.bipush 100, 2) := by decide +kernel
theorem dX9_chance_26 : decode cX9_chance 26 = .ok (.idiv, 1) := by decide +kernel
theorem dX9_chance_27 : decode cX9_chance 27 = .ok (.iconst 1, 1) := by decide +kernel
theorem dX9_chance_28 : decode cX9_chance 28 = .ok (.bipush 20, 2) := by decide +kernel
theorem dX9_chance_30 : decode cX9_chance 30 = .ok (.invokestatic 133, 3) := by decide +kernel
theorem dX9_chance_33 : decode cX9_chance 33 = .ok (.ifCond .eq 24, 3) := by decide +kernel
theorem dX9_chance_36 : decode cX9_chance 36 = .ok (.aload_n 0, 1) := by decide +kernel
theorem dX9_chance_37 : decode cX9_chance 37 = .ok (.iload_n 3, 1) := by decide +kernel
theorem dX9_chance_38 : decode cX9_chance 38 = .ok (.bipush 100, 2) := by decide +kernel
theorem dX9_chance_40 : decode cX9_chance 40 = .ok (.irem, 1) := by decide +kernel
theorem dX9_chance_41 : decode cX9_chance 41 = .ok (.invokevirtual 211, 3) := by decide +kernel
theorem dX9_chance_44 : decode cX9_chance 44 = .ok (.ifCond .eq 13, 3) := by decide +kernel
theorem dX9_chance_47 : decode cX9_chance 47 = .ok (.iload 4, 2) := by decide +kernel
theorem dX9_chance_49 : decode cX9_chance 49 = .ok (.iconst 0, 1) := by decide +kernel
theorem dX9_chance_50 : decode cX9_chance 50 = .ok (.iconst 1, 1) := by decide +kernel
theorem dX9_chance_51 : decode cX9_chance 51 = .ok (.invokestatic 133, 3) := by decide +kernel
theorem dX9_chance_54 : decode cX9_chance 54 = .ok (.ifCond .ne 7, 3) := by decide +kernel
theorem dX9_chance_57 : decode cX9_chance 57 = .ok (.ldc2_w 286, 3) := by decide +kernel
theorem dX9_chance_60 : decode cX9_chance 60 = .ok (.lreturn, 1) := by decide +kernel
theorem dX9_chance_61 : decode cX9_chance 61 = .ok (.iload_n 3, 1) := by decide +kernel
theorem dX9_chance_62 : decode cX9_chance 62 = .ok (.bipush 100, 2) := by decide +kernel
theorem dX9_chance_64 : decode cX9_chance 64 = .ok (.idiv, 1) := by decide +kernel
theorem dX9_chance_65 : decode cX9_chance 65 = .ok (.istore 6, 2) := by decide +kernel
theorem dX9_chance_67 : decode cX9_chance 67 = .ok (.iconst 0, 1) := by decide +kernel
theorem dX9_chance_68 : decode cX9_chance 68 = .ok (.istore 7, 2) := by decide +kernel
theorem dX9_chance_70 : decode cX9_chance 70 = .ok (.aload_n 0, 1) := by decide +kernel
theorem dX9_chance_71 : decode cX9_chance 71 = .ok (.getfield 34, 3) := by decide +kernel
theorem dX9_chance_74 : decode cX9_chance 74 = .ok (.aload_n 0, 1) := by decide +kernel
theorem dX9_chance_75 : decode cX9_chance 75 = .ok (.getfield 54, 3) := by decide +kernel
theorem dX9_chance_78 : decode cX9_chance 78 = .ok (.putfield 349, 3) := by decide +kernel
theorem dX9_chance_81 : decode cX9_chance 81 = .ok (.iconst 0, 1) := by decide +kernel
theorem dX9_chance_82 : decode cX9_chance 82 = .ok (.istore 8, 2) := by decide +kernel
theorem dX9_chance_84 : decode cX9_chance 84 = .ok (.iload 8, 2) := by decide +kernel
theorem dX9_chance_86 : decode cX9_chance 86 = .ok (.iload 6, 2) := by decide +kernel
theorem dX9_chance_88 : decode cX9_chance 88 = .ok (.if_icmp .ge 51, 3) := by decide +kernel
theorem dX9_chance_91 : decode cX9_chance 91 = .ok (.aload_n 0, 1) := by decide +kernel
theorem dX9_chance_92 : decode cX9_chance 92 = .ok (.iload_n 2, 1) := by decide +kernel
theorem dX9_chance_93 : decode cX9_chance 93 = .ok (.iload 8, 2) := by decide +kernel
theorem dX9_chance_95 : decode cX9_chance 95 = .ok (.iadd, 1) := by decide +kernel
theorem dX9_chance_96 : decode cX9_chance 96 = .ok (.invokevirtual 346, 3) := by decide +kernel
theorem dX9_chance_99 : decode cX9_chance 99 = .ok (.aload 5, 2) := by decide +kernel
theorem dX9_chance_101 : decode cX9_chance 101 = .ok (.invokevirtual 248, 3) := by decide +kernel
theorem dX9_chance_104 : decode cX9_chance 104 = .ok (.ifCond .ne 26, 3) := by decide +kernel
theorem dX9_chance_107 : decode cX9_chance 107 = .ok (.aload_n 0, 1) := by decide +kernel
theorem dX9_chance_108 : decode cX9_chance 108 = .ok (.aload 5, 2) := by decide +kernel
theorem dX9_chance_110 : decode cX9_chance 110 = .ok (.aload 5, 2) := by decide +kernel
theorem dX9_chance_112 : decode cX9_chance 112 = .ok (.getfield 176, 3) := by decide +kernel
theorem dX9_chance_115 : decode cX9_chance 115 = .ok (.aload 5, 2) := by decide +kernel
theorem dX9_chance_117 : decode cX9_chance 117 = .ok (.getfield 179, 3) := by decide +kernel
theorem dX9_chance_120 : decode cX9_chance 120 = .ok (.iload_n 3, 1) := by decide +kernel
theorem dX9_chance_121 : decode cX9_chance 121 = .ok (.bipush 100, 2) := by decide +kernel
theorem dX9_chance_123 : decode cX9_chance 123 = .ok (.irem, 1) := by decide +kernel
theorem dX9_chance_124 : decode cX9_chance 124 = .ok (.invokevirtual 240, 3) := by decide +kernel
theorem dX9_chance_127 : decode cX9_chance 127 = .ok (.ifCond .eq 6, 3) := by decide +kernel
theorem dX9_chance_130 : decode cX9_chance 130 = .ok (.iinc 7 1, 3) := by decide +kernel
theorem dX9_chance_133 : decode cX9_chance 133 = .ok (.iinc 8 1, 3) := by decide +kernel
theorem dX9_chance_136 : decode cX9_chance 136 = .ok (.goto (-52), 3) := by decide +kernel
theorem dX9_chance_139 : decode cX9_chance 139 = .ok (.aload_n 0, 1) := by decide +kernel
theorem dX9_chance_140 : decode cX9_chance 140 = .ok (.getfield 34, 3) := by decide +kernel
theorem dX9_chance_143 : decode cX9_chance 143 = .ok (.aload_n 0, 1) := by decide +kernel
theorem dX9_chance_144 : decode cX9_chance 144 = .ok (.getfield 10, 3) := by decide +kernel
theorem dX9_chance_147 : decode cX9_chance 147 = .ok (.getfield 352, 3) := by decide +kernel
theorem dX9_chance_150 : decode cX9_chance 150 = .ok (.putfield 349, 3) := by decide +kernel
theorem dX9_chance_153 : decode cX9_chance 153 = .ok (.iload 7, 2) := by decide +kernel
theorem dX9_chance_155 : decode cX9_chance 155 = .ok (.iload 6, 2) := by decide +kernel
theorem dX9_chance_157 : decode cX9_chance 157 = .ok (.iload 4, 2) := by decide +kernel
theorem dX9_chance_159 : decode cX9_chance 159 = .ok (.invokestatic 315, 3) := by decide +kernel
theorem dX9_chance_162 : decode cX9_chance 162 = .ok (.lreturn, 1) := by decide +kernel
theorem dX9_image_0 : decode cX9_image 0 = .ok (.iconst 0, 1) := by decide +kernel
theorem dX9_image_1 : decode cX9_image 1 = .ok (.istore_n 1, 1) := by decide +kernel
theorem dX9_image_2 : decode cX9_image 2 = .ok (.iload_n 1, 1) := by decide +kernel
theorem dX9_image_3 : decode cX9_image 3 = .ok (.aload_n 0, 1) := by decide +kernel
theorem dX9_image_4 : decode cX9_image 4 = .ok (.getfield 81, 3) := by decide +kernel
theorem dX9_image_7 : decode cX9_image 7 = .ok (.if_icmp .ge 45, 3) := by decide +kernel
theorem dX9_image_10 : decode cX9_image 10 = .ok (.aload_n 0, 1) := by decide +kernel
theorem dX9_image_11 : decode cX9_image 11 = .ok (.getfield 73, 3) := by decide +kernel
theorem dX9_image_14 : decode cX9_image 14 = .ok (.getfield 355, 3) := by decide +kernel
theorem dX9_image_17 : decode cX9_image 17 = .ok (.iload_n 1, 1) := by decide +kernel
theorem dX9_image_18 : decode cX9_image 18 = .ok (.aload_n 0, 1) := by decide +kernel
theorem dX9_image_19 : decode cX9_image 19 = .ok (.getfield 40, 3) := by decide +kernel
theorem dX9_image_22 : decode cX9_image 22 = .ok (.iload_n 1, 1) := by decide +kernel
theorem dX9_image_23 : decode cX9_image 23 = .ok (.aaload, 1) := by decide +kernel
theorem dX9_image_24 : decode cX9_image 24 = .ok (.getfield 176, 3) := by decide +kernel
theorem dX9_image_27 : decode cX9_image 27 = .ok (.iastore, 1) := by decide +kernel
theorem dX9_image_28 : decode cX9_image 28 = .ok (.aload_n 0, 1) := by decide +kernel
theorem dX9_image_29 : decode cX9_image 29 = .ok (.getfield 73, 3) := by decide +kernel
theorem dX9_image_32 : decode cX9_image 32 = .ok (.getfield 358, 3) := by decide +kernel
theorem dX9_image_35 : decode cX9_image 35 = .ok (.iload_n 1, 1) := by decide +kernel
theorem dX9_image_36 : decode cX9_image 36 = .ok (.aload_n 0, 1) := by decide +kernel
theorem dX9_image_37 : decode cX9_image 37 = .ok (.getfield 40, 3) := by decide +kernel
theorem dX9_image_40 : decode cX9_image 40 = .ok (.iload_n 1, 1) := by decide +kernel
theorem dX9_image_41 : decode cX9_image 41 = .ok (.aaload, 1) := by decide +kernel
theorem dX9_image_42 : decode cX9_image 42 = .ok (.getfield 179, 3) := by decide +kernel
theorem dX9_image_45 : decode cX9_image 45 = .ok (.iastore, 1) := by decide +kernel
theorem dX9_image_46 : decode cX9_image 46 = .ok (.iinc 1 1, 3) := by decide +kernel
theorem dX9_image_49 : decode cX9_image 49 = .ok (.goto (-47), 3) := by decide +kernel
theorem dX9_image_52 : decode cX9_image 52 = .ok (.aload_n 0, 1) := by decide +kernel
theorem dX9_image_53 : decode cX9_image 53 = .ok (.getfield 73, 3) := by decide +kernel
theorem dX9_image_56 : decode cX9_image 56 = .ok (.getfield 361, 3) := by decide +kernel
theorem dX9_image_59 : decode cX9_image 59 = .ok (.aload_n 0, 1) := by decide +kernel
theorem dX9_image_60 : decode cX9_image 60 = .ok (.getfield 60, 3) := by decide +kernel
theorem dX9_image_63 : decode cX9_image 63 = .ok (.invokevirtual 362, 3) := by decide +kernel
theorem dX9_image_66 : decode cX9_image 66 = .ok (.aload_n 0, 1) := by decide +kernel
theorem dX9_image_67 : decode cX9_image 67 = .ok (.getfield 73, 3) := by decide +kernel
theorem dX9_image_70 : decode cX9_image 70 = .ok (.aload_n 0, 1) := by decide +kernel
theorem dX9_image_71 : decode cX9_image 71 = .ok (.getfield 81, 3) := by decide +kernel
theorem dX9_image_74 : decode cX9_image 74 = .ok (.putfield 366, 3) := by decide +kernel
theorem dX9_image_77 : decode cX9_image 77 = .ok (.aload_n 0, 1) := by decide +kernel
theorem dX9_image_78 : decode cX9_image 78 = .ok (.getfield 73, 3) := by decide +kernel
theorem dX9_image_81 : decode cX9_image 81 = .ok (.aload_n 0, 1) := by decide +kernel
theorem dX9_image_82 : decode cX9_image 82 = .ok (.getfield 77, 3) := by decide +kernel
theorem dX9_image_85 : decode cX9_image 85 = .ok (.putfield 368, 3) := by decide +kernel
theorem dX9_image_88 : decode cX9_image 88 = .ok (.aload_n 0, 1) := by decide +kernel
theorem dX9_image_89 : decode cX9_image 89 = .ok (.getfield 73, 3) := by decide +kernel
theorem dX9_image_92 : decode cX9_image 92 = .ok (.aload_n 0, 1) := by decide +kernel
theorem dX9_image_93 : decode cX9_image 93 = .ok (.getfield 87, 3) := by decide +kernel
theorem dX9_image_96 : decode cX9_image 96 = .ok (.putfield 369, 3) := by decide +kernel
theorem dX9_image_99 : decode cX9_image 99 = .ok (.aload_n 0, 1) := by decide +kernel
theorem dX9_image_100 : decode cX9_image 100 = .ok (.getfield 81, 3) := by decide +kernel
theorem dX9_image_103 : decode cX9_image 103 = .ok (.ireturn, 1) := by decide +kernel
theorem dX9_back_0 : decode cX9_back 0 = .ok (.aload_n 0, 1) := by decide +kernel
theorem dX9_back_1 : decode cX9_back 1 = .ok (.getfield 73, 3) := by decide +kernel
theorem dX9_back_4 : decode cX9_back 4 = .ok (.getfield 366, 3) := by decide +kernel
theorem dX9_back_7 : decode cX9_back 7 = .ok (.iconst (-1), 1) := by decide +kernel
theorem dX9_back_8 : decode cX9_back 8 = .ok (.if_icmp .ne 6, 3) := by decide +kernel
theorem dX9_back_11 : decode cX9_back 11 = .ok (.bipush (-3), 2) := by decide +kernel
theorem dX9_back_13 : decode cX9_back 13 = .ok (.ireturn, 1) := by decide +kernel
theorem dX9_back_14 : decode cX9_back 14 = .ok (.aload_n 0, 1) := by decide +kernel
theorem dX9_back_15 : decode cX9_back 15 = .ok (.aload_n 0, 1) := by decide +kernel
theorem dX9_back_16 : decode cX9_back 16 = .ok (.getfield 81, 3) := by decide +kernel
theorem dX9_back_19 : decode cX9_back 19 = .ok (.aload_n 0, 1) := by decide +kernel
theorem dX9_back_20 : decode cX9_back 20 = .ok (.getfield 73, 3) := by decide +kernel
theorem dX9_back_23 : decode cX9_back 23 = .ok (.getfield 366, 3) := by decide +kernel
theorem dX9_back_26 : decode cX9_back 26 = .ok (.invokestatic 137, 3) := by decide +kernel
theorem dX9_back_29 : decode cX9_back 29 = .ok (.putfield 81, 3) := by decide +kernel
theorem dX9_back_32 : decode cX9_back 32 = .ok (.iconst 0, 1) := by decide +kernel
theorem dX9_back_33 : decode cX9_back 33 = .ok (.istore_n 1, 1) := by decide +kernel
theorem dX9_back_34 : decode cX9_back 34 = .ok (.iload_n 1, 1) := by decide +kernel
theorem dX9_back_35 : decode cX9_back 35 = .ok (.aload_n 0, 1) := by decide +kernel
theorem dX9_back_36 : decode cX9_back 36 = .ok (.getfield 81, 3) := by decide +kernel
theorem dX9_back_39 : decode cX9_back 39 = .ok (.if_icmp .ge 45, 3) := by decide +kernel
theorem dX9_back_42 : decode cX9_back 42 = .ok (.aload_n 0, 1) := by decide +kernel
theorem dX9_back_43 : decode cX9_back 43 = .ok (.getfield 40, 3) := by decide +kernel
theorem dX9_back_46 : decode cX9_back 46 = .ok (.iload_n 1, 1) := by decide +kernel
theorem dX9_back_47 : decode cX9_back 47 = .ok (.aaload, 1) := by decide +kernel
theorem dX9_back_48 : decode cX9_back 48 = .ok (.aload_n 0, 1) := by decide +kernel
theorem dX9_back_49 : decode cX9_back 49 = .ok (.getfield 73, 3) := by decide +kernel
theorem dX9_back_52 : decode cX9_back 52 = .ok (.getfield 355, 3) := by decide +kernel
theorem dX9_back_55 : decode cX9_back 55 = .ok (.iload_n 1, 1) := by decide +kernel
theorem dX9_back_56 : decode cX9_back 56 = .ok (.iaload, 1) := by decide +kernel
theorem dX9_back_57 : decode cX9_back 57 = .ok (.putfield 176, 3) := by decide +kernel
theorem dX9_back_60 : decode cX9_back 60 = .ok (.aload_n 0, 1) := by decide +kernel
theorem dX9_back_61 : decode cX9_back 61 = .ok (.getfield 40, 3) := by decide +kernel
theorem dX9_back_64 : decode cX9_back 64 = .ok (.iload_n 1, 1) := by decide +kernel
theorem dX9_back_65 : decode cX9_back 65 = .ok (.aaload, 1) := by decide +kernel
theorem dX9_back_66 : decode cX9_back 66 = .ok (.aload_n 0, 1) := by decide +kernel
theorem dX9_back_67 : decode cX9_back 67 = .ok (.getfield 73, 3) := by decide +kernel
theorem dX9_back_70 : decode cX9_back 70 = .ok (.getfield 358, 3) := by decide +kernel
theorem dX9_back_73 : decode cX9_back 73 = .ok (.iload_n 1, 1) := by decide +kernel
theorem dX9_back_74 : decode cX9_back 74 = .ok (.iaload, 1) := by decide +kernel
theorem dX9_back_75 : decode cX9_back 75 = .ok (.putfield 179, 3) := by decide +kernel
theorem dX9_back_78 : decode cX9_back 78 = .ok (.iinc 1 1, 3) := by decide +kernel
theorem dX9_back_81 : decode cX9_back 81 = .ok (.goto (-47), 3) := by decide +kernel
theorem dX9_back_84 : decode cX9_back 84 = .ok (.aload_n 0, 1) := by decide +kernel
theorem dX9_back_85 : decode cX9_back 85 = .ok (.getfield 60, 3) := by decide +kernel
theorem dX9_back_88 : decode cX9_back 88 = .ok (.aload_n 0, 1) := by decide +kernel
theorem dX9_back_89 : decode cX9_back 89 = .ok (.getfield 73, 3) := by decide +kernel
theorem dX9_back_92 : decode cX9_back 92 = .ok (.getfield 361, 3) := by decide +kernel
theorem dX9_back_95 : decode cX9_back 95 = .ok (.invokevirtual 362, 3) := by decide +kernel
theorem dX9_back_98 : decode cX9_back 98 = .ok (.aload_n 0, 1) := by decide +kernel
theorem dX9_back_99 : decode cX9_back 99 = .ok (.aload_n 0, 1) := by decide +kernel
theorem dX9_back_100 : decode cX9_back 100 = .ok (.getfield 73, 3) := by decide +kernel
theorem dX9_back_103 : decode cX9_back 103 = .ok (.getfield 368, 3) := by decide +kernel
theorem dX9_back_106 : decode cX9_back 106 = .ok (.putfield 77, 3) := by decide +kernel
theorem dX9_back_109 : decode cX9_back 109 = .ok (.aload_n 0, 1) := by decide +kernel
theorem dX9_back_110 : decode cX9_back 110 = .ok (.aload_n 0, 1) := by decide +kernel
theorem dX9_back_111 : decode cX9_back 111 = .ok (.getfield 73, 3) := by decide +kernel
theorem dX9_back_114 : decode cX9_back 114 = .ok (.getfield 369, 3) := by decide +kernel
theorem dX9_back_117 : decode cX9_back 117 = .ok (.invokevirtual 159, 3) := by decide +kernel
theorem dX9_back_120 : decode cX9_back 120 = .ok (.aload_n 0, 1) := by decide +kernel
theorem dX9_back_121 : decode cX9_back 121 = .ok (.getfield 81, 3) := by decide +kernel
theorem dX9_back_124 : decode cX9_back 124 = .ok (.ireturn, 1) := by decide +kernel
theorem dX9_sheet_0 : decode cX9_sheet 0 = .ok (.aload_n 0, 1) := by decide +kernel
theorem dX9_sheet_1 : decode cX9_sheet 1 = .ok (.iload_n 1, 1) := by decide +kernel
theorem dX9_sheet_2 : decode cX9_sheet 2 = .ok (.invokevirtual 326, 3) := by decide +kernel
theorem dX9_sheet_5 : decode cX9_sheet 5 = .ok (.astore 4, 2) := by decide +kernel
theorem dX9_sheet_7 : decode cX9_sheet 7 = .ok (.aload 4, 2) := by decide +kernel
theorem dX9_sheet_9 : decode cX9_sheet 9 = .ok (.ifnull 12, 3) := by decide +kernel
theorem dX9_sheet_12 : decode cX9_sheet 12 = .ok (.iload_n 2, 1) := by decide +kernel
theorem dX9_sheet_13 : decode cX9_sheet 13 = .ok (.iconst (-1), 1) := by decide +kernel
theorem dX9_sheet_14 : decode cX9_sheet 14 = .ok (.iconst 2, 1) := by decide +kernel
theorem dX9_sheet_15 : decode cX9_sheet 15 = .ok (.invokestatic 133, 3) := by decide +kernel
theorem dX9_sheet_18 : decode cX9_sheet 18 = .ok (.ifCond .ne 6, 3) := by decide +kernel
theorem dX9_sheet_21 : decode cX9_sheet 21 = .ok (.bipush (-2), 2) := by decide +kernel
theorem dX9_sheet_23 : decode cX9_sheet 23 = .ok (.ireturn, 1) := by decide +kernel
theorem dX9_sheet_24 : decode cX9_sheet 24 = .ok (.iload_n 2, 1) := by decide +kernel
theorem dX9_sheet_25 : decode cX9_sheet 25 = .ok (.iconst (-1), 1) := by decide +kernel
theorem dX9_sheet_26 : decode cX9_sheet 26 = .ok (.if_icmp .ne 12, 3) := by decide +kernel
theorem dX9_sheet_29 : decode cX9_sheet 29 = .ok (.aload 4, 2) := by decide +kernel
theorem dX9_sheet_31 : decode cX9_sheet 31 = .ok (.iconst (-1), 1) := by decide +kernel
theorem dX9_sheet_32 : decode cX9_sheet 32 = .ok (.iconst 0, 1) := by decide +kernel
theorem dX9_sheet_33 : decode cX9_sheet 33 = .ok (.invokevirtual 338, 3) := by decide +kernel
theorem dX9_sheet_36 : decode cX9_sheet 36 = .ok (.iconst 1, 1) := by decide +kernel
theorem dX9_sheet_37 : decode cX9_sheet 37 = .ok (.ireturn, 1) := by decide +kernel
theorem dX9_sheet_38 : decode cX9_sheet 38 = .ok (.iload_n 3, 1) := by decide +kernel
theorem dX9_sheet_39 : decode cX9_sheet 39 = .ok (.bipush 40, 2) := by decide +kernel
theorem dX9_sheet_41 : decode cX9_sheet 41 = .ok (.if_icmp .le 6, 3) := by decide +kernel
theorem dX9_sheet_44 : decode cX9_sheet 44 = .ok (.bipush (-2), 2) := by decide +kernel
theorem dX9_sheet_46 : decode cX9_sheet 46 = .ok (.ireturn, 1) := by decide +kernel
theorem dX9_sheet_47 : decode cX9_sheet 47 = .ok (.iload_n 3, 1) := by decide +kernel
theorem dX9_sheet_48 : decode cX9_sheet 48 = .ok (.ifCond .ge 6, 3) := by decide +kernel
theorem dX9_sheet_51 : decode cX9_sheet 51 = .ok (.bipush (-14), 2) := by decide +kernel
theorem dX9_sheet_53 : decode cX9_sheet 53 = .ok (.ireturn, 1) := by decide +kernel
theorem dX9_sheet_54 : decode cX9_sheet 54 = .ok (.aload 4, 2) := by decide +kernel
theorem dX9_sheet_56 : decode cX9_sheet 56 = .ok (.iload_n 2, 1) := by decide +kernel
theorem dX9_sheet_57 : decode cX9_sheet 57 = .ok (.iload_n 3, 1) := by decide +kernel
theorem dX9_sheet_58 : decode cX9_sheet 58 = .ok (.invokevirtual 338, 3) := by decide +kernel
theorem dX9_sheet_61 : decode cX9_sheet 61 = .ok (.iconst 1, 1) := by decide +kernel
theorem dX9_sheet_62 : decode cX9_sheet 62 = .ok (.ireturn, 1) := by decide +kernel
theorem dX9_cell_0 : decode cX9_cell 0 = .ok (.aload_n 0, 1) := by decide +kernel
theorem dX9_cell_1 : decode cX9_cell 1 = .ok (.iload_n 1, 1) := by decide +kernel
theorem dX9_cell_2 : decode cX9_cell 2 = .ok (.invokevirtual 326, 3) := by decide +kernel
theorem dX9_cell_5 : decode cX9_cell 5 = .ok (.astore 4, 2) := by decide +kernel
theorem dX9_cell_7 : decode cX9_cell 7 = .ok (.aload 4, 2) := by decide +kernel
theorem dX9_cell_9 : decode cX9_cell 9 = .ok (.ifnonnull 6, 3) := by decide +kernel
theorem dX9_cell_12 : decode cX9_cell 12 = .ok (.bipush (-2), 2) := by decide +kernel
theorem dX9_cell_14 : decode cX9_cell 14 = .ok (.ireturn, 1) := by decide +kernel
theorem dX9_cell_15 : decode cX9_cell 15 = .ok (.aload 4, 2) := by decide +kernel
theorem dX9_cell_17 : decode cX9_cell 17 = .ok (.invokevirtual 370, 3) := by decide +kernel
theorem dX9_cell_20 : decode cX9_cell 20 = .ok (.ifCond .eq 6, 3) := by decide +kernel
theorem dX9_cell_23 : decode cX9_cell 23 = .ok (.bipush (-11), 2) := by decide +kernel
theorem dX9_cell_25 : decode cX9_cell 25 = .ok (.ireturn, 1) := by decide +kernel
theorem dX9_cell_26 : decode cX9_cell 26 = .ok (.iload_n 2, 1) := by decide +kernel
theorem dX9_cell_27 : decode cX9_cell 27 = .ok (.iconst 0, 1) := by decide +kernel
theorem dX9_cell_28 : decode cX9_cell 28 = .ok (.aload 4, 2) := by decide +kernel
theorem dX9_cell_30 : decode cX9_cell 30 = .ok (.getfield 373, 3) := by decide +kernel
theorem dX9_cell_33 : decode cX9_cell 33 = .ok (.iconst 1, 1) := by decide +kernel
theorem dX9_cell_34 : decode cX9_cell 34 = .ok (.isub, 1) := by decide +kernel
theorem dX9_cell_35 : decode cX9_cell 35 = .ok (.invokestatic 133, 3) := by decide +kernel
theorem dX9_cell_38 : decode cX9_cell 38 = .ok (.ifCond .ne 6, 3) := by decide +kernel
theorem dX9_cell_41 : decode cX9_cell 41 = .ok (.bipush (-12), 2) := by decide +kernel
theorem dX9_cell_43 : decode cX9_cell 43 = .ok (.ireturn, 1) := by decide +kernel
theorem dX9_cell_44 : decode cX9_cell 44 = .ok (.aload 4, 2) := by decide +kernel
theorem dX9_cell_46 : decode cX9_cell 46 = .ok (.iload_n 2, 1) := by decide +kernel
theorem dX9_cell_47 : decode cX9_cell 47 = .ok (.iload_n 3, 1) := by decide +kernel
theorem dX9_cell_48 : decode cX9_cell 48 = .ok (.invokevirtual 342, 3) := by decide +kernel
theorem dX9_cell_51 : decode cX9_cell 51 = .ok (.iconst 1, 1) := by decide +kernel
theorem dX9_cell_52 : decode cX9_cell 52 = .ok (.ireturn, 1) := by decide +kernel
theorem dX9_copy_0 : decode cX9_copy 0 = .ok (.aload_n 0, 1) := by decide +kernel
theorem dX9_copy_1 : decode cX9_copy 1 = .ok (.iload_n 1, 1) := by decide +kernel
theorem dX9_copy_2 : decode cX9_copy 2 = .ok (.invokevirtual 326, 3) := by decide +kernel
theorem dX9_copy_5 : decode cX9_copy 5 = .ok (.astore 6, 2) := by decide +kernel
theorem dX9_copy_7 : decode cX9_copy 7 = .ok (.aload_n 0, 1) := by decide +kernel
theorem dX9_copy_8 : decode cX9_copy 8 = .ok (.iload_n 3, 1) := by decide +kernel
theorem dX9_copy_9 : decode cX9_copy 9 = .ok (.invokevirtual 326, 3) := by decide +kernel
theorem dX9_copy_12 : decode cX9_copy 12 = .ok (.astore 7, 2) := by decide +kernel
theorem dX9_copy_14 : decode cX9_copy 14 = .ok (.aload 6, 2) := by decide +kernel
theorem dX9_copy_16 : decode cX9_copy 16 = .ok (.ifnull 8, 3) := by decide +kernel
theorem dX9_copy_19 : decode cX9_copy 19 = .ok (.aload 7, 2) := by decide +kernel
theorem dX9_copy_21 : decode cX9_copy 21 = .ok (.ifnonnull 6, 3) := by decide +kernel
theorem dX9_copy_24 : decode cX9_copy 24 = .ok (.bipush (-2), 2) := by decide +kernel
theorem dX9_copy_26 : decode cX9_copy 26 = .ok (.ireturn, 1) := by decide +kernel
theorem dX9_copy_27 : decode cX9_copy 27 = .ok (.aload 6, 2) := by decide +kernel
theorem dX9_copy_29 : decode cX9_copy 29 = .ok (.invokevirtual 370, 3) := by decide +kernel
theorem dX9_copy_32 : decode cX9_copy 32 = .ok (.ifCond .ne 11, 3) := by decide +kernel
theorem dX9_copy_35 : decode cX9_copy 35 = .ok (.aload 7, 2) := by decide +kernel
theorem dX9_copy_37 : decode cX9_copy 37 = .ok (.invokevirtual 370, 3) := by decide +kernel
theorem dX9_copy_40 : decode cX9_copy 40 = .ok (.ifCond .eq 6, 3) := by decide +kernel
theorem dX9_copy_43 : decode cX9_copy 43 = .ok (.bipush (-11), 2) := by decide +kernel
theorem dX9_copy_45 : decode cX9_copy 45 = .ok (.ireturn, 1) := by decide +kernel
theorem dX9_copy_46 : decode cX9_copy 46 = .ok (.aload 6, 2) := by decide +kernel
theorem dX9_copy_48 : decode cX9_copy 48 = .ok (.getfield 374, 3) := by decide +kernel
theorem dX9_copy_51 : decode cX9_copy 51 = .ok (.aload 7, 2) := by decide +kernel
theorem dX9_copy_53 : decode cX9_copy 53 = .ok (.getfield 374, 3) := by decide +kernel
theorem dX9_copy_56 : decode cX9_copy 56 = .ok (.if_icmp .eq 6, 3) := by decide +kernel
theorem dX9_copy_59 : decode cX9_copy 59 = .ok (.bipush (-13), 2) := by decide +kernel
theorem dX9_copy_61 : decode cX9_copy 61 = .ok (.ireturn, 1) := by decide +kernel
theorem dX9_copy_62 : decode cX9_copy 62 = .ok (.aload 6, 2) := by decide +kernel
theorem dX9_copy_64 : decode cX9_copy 64 = .ok (.iload_n 2, 1) := by decide +kernel
theorem dX9_copy_65 : decode cX9_copy 65 = .ok (.iload 5, 2) := by decide +kernel
theorem dX9_copy_67 : decode cX9_copy 67 = .ok (.invokevirtual 377, 3) := by decide +kernel
theorem dX9_copy_70 : decode cX9_copy 70 = .ok (.ifCond .eq 15, 3) := by decide +kernel
theorem dX9_copy_73 : decode cX9_copy 73 = .ok (.aload 7, 2) := by decide +kernel
theorem dX9_copy_75 : decode cX9_copy 75 = .ok (.iload 4, 2) := by decide +kernel
theorem dX9_copy_77 : decode cX9_copy 77 = .ok (.iload 5, 2) := by decide +kernel
theorem dX9_copy_79 : decode cX9_copy 79 = .ok (.invokevirtual 377, 3) := by decide +kernel
theorem dX9_copy_82 : decode cX9_copy 82 = .ok (.ifCond .ne 6, 3) := by decide +kernel
theorem dX9_copy_85 : decode cX9_copy 85 = .ok (.bipush (-12), 2) := by decide +kernel
theorem dX9_copy_87 : decode cX9_copy 87 = .ok (.ireturn, 1) := by decide +kernel
theorem dX9_copy_88 : decode cX9_copy 88 = .ok (.aload 6, 2) := by decide +kernel
theorem dX9_copy_90 : decode cX9_copy 90 = .ok (.getfield 380, 3) := by decide +kernel
theorem dX9_copy_93 : decode cX9_copy 93 = .ok (.iload_n 2, 1) := by decide +kernel
theorem dX9_copy_94 : decode cX9_copy 94 = .ok (.aload 7, 2) := by decide +kernel
theorem dX9_copy_96 : decode cX9_copy 96 = .ok (.getfield 380, 3) := by decide +kernel
theorem dX9_copy_99 : decode cX9_copy 99 = .ok (.iload 4, 2) := by decide +kernel
theorem dX9_copy_101 : decode cX9_copy 101 = .ok (.iload 5, 2) := by decide +kernel
theorem dX9_copy_103 : decode cX9_copy 103 = .ok (.invokestatic 383, 3) := by decide +kernel
theorem dX9_copy_106 : decode cX9_copy 106 = .ok (.iload 5, 2) := by decide +kernel
theorem dX9_copy_108 : decode cX9_copy 108 = .ok (.ireturn, 1) := by decide +kernel
theorem dX9_boatsBy_0 : decode cX9_boatsBy 0 = .ok (.aload_n 0, 1) := by decide +kernel
theorem dX9_boatsBy_1 : decode cX9_boatsBy 1 = .ok (.iload_n 1, 1) := by decide +kernel
theorem dX9_boatsBy_2 : decode cX9_boatsBy 2 = .ok (.invokevirtual 326, 3) := by decide +kernel
theorem dX9_boatsBy_5 : decode cX9_boatsBy 5 = .ok (.astore 5, 2) := by decide +kernel
theorem dX9_boatsBy_7 : decode cX9_boatsBy 7 = .ok (.aload 5, 2) := by decide +kernel
theorem dX9_boatsBy_9 : decode cX9_boatsBy 9 = .ok (.ifnull 23, 3) := by decide +kernel
theorem dX9_boatsBy_12 : decode cX9_boatsBy 12 = .ok (.iload_n 2, 1) := by decide +kernel
theorem dX9_boatsBy_13 : decode cX9_boatsBy 13 = .ok (.iconst 0, 1) := by decide +kernel
theorem dX9_boatsBy_14 : decode cX9_boatsBy 14 = .ok (.iconst 2, 1) := by decide +kernel
theorem dX9_boatsBy_15 : decode cX9_boatsBy 15 = .ok (.invokestatic 133, 3) := by decide +kernel
theorem dX9_boatsBy_18 : decode cX9_boatsBy 18 = .ok (.ifCond .eq 14, 3) := by decide +kernel
theorem dX9_boatsBy_21 : decode cX9_boatsBy 21 = .ok (.iload 4, 2) := by decide +kernel
theorem dX9_boatsBy_23 : decode cX9_boatsBy 23 = .ok (.iconst 0, 1) := by decide +kernel
theorem dX9_boatsBy_24 : decode cX9_boatsBy 24 = .ok (.bipush 6, 2) := by decide +kernel
theorem dX9_boatsBy_26 : decode cX9_boatsBy 26 = .ok (.invokestatic 133, 3) := by decide +kernel
theorem dX9_boatsBy_29 : decode cX9_boatsBy 29 = .ok (.ifCond .ne 6, 3) := by decide +kernel
theorem dX9_boatsBy_32 : decode cX9_boatsBy 32 = .ok (.bipush (-2), 2) := by decide +kernel
theorem dX9_boatsBy_34 : decode cX9_boatsBy 34 = .ok (.ireturn, 1) := by decide +kernel
theorem dX9_boatsBy_35 : decode cX9_boatsBy 35 = .ok (.aload 5, 2) := by decide +kernel
theorem dX9_boatsBy_37 : decode cX9_boatsBy 37 = .ok (.invokevirtual 370, 3) := by decide +kernel
theorem dX9_boatsBy_40 : decode cX9_boatsBy 40 = .ok (.ifCond .eq 6, 3) := by decide +kernel
theorem dX9_boatsBy_43 : decode cX9_boatsBy 43 = .ok (.bipush (-11), 2) := by decide +kernel
theorem dX9_boatsBy_45 : decode cX9_boatsBy 45 = .ok (.ireturn, 1) := by decide +kernel
theorem dX9_boatsBy_46 : decode cX9_boatsBy 46 = .ok (.aload 5, 2) := by decide +kernel
theorem dX9_boatsBy_48 : decode cX9_boatsBy 48 = .ok (.getfield 374, 3) := by decide +kernel
theorem dX9_boatsBy_51 : decode cX9_boatsBy 51 = .ok (.iload_n 2, 1) := by decide +kernel
theorem dX9_boatsBy_52 : decode cX9_boatsBy 52 = .ok (.if_icmp .eq 6, 3) := by decide +kernel
theorem dX9_boatsBy_55 : decode cX9_boatsBy 55 = .ok (.bipush (-13), 2) := by decide +kernel
theorem dX9_boatsBy_57 : decode cX9_boatsBy 57 = .ok (.ireturn, 1) := by decide +kernel
theorem dX9_boatsBy_58 : decode cX9_boatsBy 58 = .ok (.iconst 0, 1) := by decide +kernel
theorem dX9_boatsBy_59 : decode cX9_boatsBy 59 = .ok (.istore 6, 2) := by decide +kernel
theorem dX9_boatsBy_61 : decode cX9_boatsBy 61 = .ok (.iconst 0, 1) := by decide +kernel
theorem dX9_boatsBy_62 : decode cX9_boatsBy 62 = .ok (.istore 7, 2) := by decide +kernel
theorem dX9_boatsBy_64 : decode cX9_boatsBy 64 = .ok (.iload 7, 2) := by decide +kernel
theorem dX9_boatsBy_66 : decode cX9_boatsBy 66 = .ok (.iload 4, 2) := by decide +kernel
theorem dX9_boatsBy_68 : decode cX9_boatsBy 68 = .ok (.if_icmp .ge 79, 3) := by decide +kernel
theorem dX9_boatsBy_71 : decode cX9_boatsBy 71 = .ok (.iload_n 3, 1) := by decide +kernel
theorem dX9_boatsBy_72 : decode cX9_boatsBy 72 = .ok (.iconst 4, 1) := by decide +kernel
theorem dX9_boatsBy_73 : decode cX9_boatsBy 73 = .ok (.iload 7, 2) := by decide +kernel
theorem dX9_boatsBy_75 : decode cX9_boatsBy 75 = .ok (.imul, 1) := by decide +kernel
theorem dX9_boatsBy_76 : decode cX9_boatsBy 76 = .ok (.iadd, 1) := by decide +kernel
theorem dX9_boatsBy_77 : decode cX9_boatsBy 77 = .ok (.istore 8, 2) := by decide +kernel
theorem dX9_boatsBy_79 : decode cX9_boatsBy 79 = .ok (.aload 5, 2) := by decide +kernel
theorem dX9_boatsBy_81 : decode cX9_boatsBy 81 = .ok (.iload 8, 2) := by decide +kernel
theorem dX9_boatsBy_83 : decode cX9_boatsBy 83 = .ok (.iconst 4, 1) := by decide +kernel
theorem dX9_boatsBy_84 : decode cX9_boatsBy 84 = .ok (.invokevirtual 377, 3) := by decide +kernel
theorem dX9_boatsBy_87 : decode cX9_boatsBy 87 = .ok (.ifCond .ne 6, 3) := by decide +kernel
theorem dX9_boatsBy_90 : decode cX9_boatsBy 90 = .ok (.bipush (-12), 2) := by decide +kernel
theorem dX9_boatsBy_92 : decode cX9_boatsBy 92 = .ok (.ireturn, 1) := by decide +kernel
theorem dX9_boatsBy_93 : decode cX9_boatsBy 93 = .ok (.aload_n 0, 1) := by decide +kernel
theorem dX9_boatsBy_94 : decode cX9_boatsBy 94 = .ok (.aload 5, 2) := by decide +kernel
theorem dX9_boatsBy_96 : decode cX9_boatsBy 96 = .ok (.getfield 380, 3) := by decide +kernel
theorem dX9_boatsBy_99 : decode cX9_boatsBy 99 = .ok (.iload 8, 2) := by decide +kernel
theorem dX9_boatsBy_101 : decode cX9_boatsBy 101 = .ok (.iaload, 1) := by decide +kernel
theorem dX9_boatsBy_102 : decode cX9_boatsBy 102 = .ok (.aload 5, 2) := by decide +kernel
theorem dX9_boatsBy_104 : decode cX9_boatsBy 104 = .ok (.getfield 380, 3) := by decide +kernel
theorem dX9_boatsBy_107 : decode cX9_boatsBy 107 = .ok (.iload 8, 2) := by decide +kernel
theorem dX9_boatsBy_109 : decode cX9_boatsBy 109 = .ok (.iconst 1, 1) := by decide +kernel
theorem dX9_boatsBy_110 : decode cX9_boatsBy 110 = .ok (.iadd, 1) := by decide +kernel
theorem dX9_boatsBy_111 : decode cX9_boatsBy 111 = .ok (.iaload, 1) := by decide +kernel
theorem dX9_boatsBy_112 : decode cX9_boatsBy 112 = .ok (.aload 5, 2) := by decide +kernel
theorem dX9_boatsBy_114 : decode cX9_boatsBy 114 = .ok (.getfield 380, 3) := by decide +kernel
theorem dX9_boatsBy_117 : decode cX9_boatsBy 117 = .ok (.iload 8, 2) := by decide +kernel
theorem dX9_boatsBy_119 : decode cX9_boatsBy 119 = .ok (.iconst 2, 1) := by decide +kernel
theorem dX9_boatsBy_120 : decode cX9_boatsBy 120 = .ok (.iadd, 1) := by decide +kernel
theorem dX9_boatsBy_121 : decode cX9_boatsBy 121 = .ok (.iaload, 1) := by decide +kernel
theorem dX9_boatsBy_122 : decode cX9_boatsBy 122 = .ok (.aload 5, 2) := by decide +kernel
theorem dX9_boatsBy_124 : decode cX9_boatsBy 124 = .ok (.getfield 380, 3) := by decide +kernel
theorem dX9_boatsBy_127 : decode cX9_boatsBy 127 = .ok (.iload 8, 2) := by decide +kernel
theorem dX9_boatsBy_129 : decode cX9_boatsBy 129 = .ok (.iconst 3, 1) := by decide +kernel
theorem dX9_boatsBy_130 : decode cX9_boatsBy 130 = .ok (.iadd, 1) := by decide +kernel
theorem dX9_boatsBy_131 : decode cX9_boatsBy 131 = .ok (.iaload, 1) := by decide +kernel
theorem dX9_boatsBy_132 : decode cX9_boatsBy 132 = .ok (.invokevirtual 389, 3) := by decide +kernel
theorem dX9_boatsBy_135 : decode cX9_boatsBy 135 = .ok (.ifCond .lt 6, 3) := by decide +kernel
theorem dX9_boatsBy_138 : decode cX9_boatsBy 138 = .ok (.iinc 6 1, 3) := by decide +kernel
theorem dX9_boatsBy_141 : decode cX9_boatsBy 141 = .ok (.iinc 7 1, 3) := by decide +kernel
theorem dX9_boatsBy_144 : decode cX9_boatsBy 144 = .ok (.goto (-80), 3) := by decide +kernel
theorem dX9_boatsBy_147 : decode cX9_boatsBy 147 = .ok (.iload 6, 2) := by decide +kernel
theorem dX9_boatsBy_149 : decode cX9_boatsBy 149 = .ok (.ireturn, 1) := by decide +kernel
theorem dX9_taken_0 : decode cX9_taken 0 = .ok (.iload_n 2, 1) := by decide +kernel
theorem dX9_taken_1 : decode cX9_taken 1 = .ok (.iconst 0, 1) := by decide +kernel
theorem dX9_taken_2 : decode cX9_taken 2 = .ok (.bipush 6, 2) := by decide +kernel
theorem dX9_taken_4 : decode cX9_taken 4 = .ok (.invokestatic 133, 3) := by decide +kernel
theorem dX9_taken_7 : decode cX9_taken 7 = .ok (.ifCond .ne 6, 3) := by decide +kernel
theorem dX9_taken_10 : decode cX9_taken 10 = .ok (.bipush (-2), 2) := by decide +kernel
theorem dX9_taken_12 : decode cX9_taken 12 = .ok (.ireturn, 1) := by decide +kernel
theorem dX9_taken_13 : decode cX9_taken 13 = .ok (.iload_n 1, 1) := by decide +kernel
theorem dX9_taken_14 : decode cX9_taken 14 = .ok (.invokestatic 119, 3) := by decide +kernel
theorem dX9_taken_17 : decode cX9_taken 17 = .ok (.ifCond .ne 6, 3) := by decide +kernel
theorem dX9_taken_20 : decode cX9_taken 20 = .ok (.bipush (-12), 2) := by decide +kernel
theorem dX9_taken_22 : decode cX9_taken 22 = .ok (.ireturn, 1) := by decide +kernel
theorem dX9_taken_23 : decode cX9_taken 23 = .ok (.iconst 0, 1) := by decide +kernel
theorem dX9_taken_24 : decode cX9_taken 24 = .ok (.istore_n 3, 1) := by decide +kernel
theorem dX9_taken_25 : decode cX9_taken 25 = .ok (.iload_n 3, 1) := by decide +kernel
theorem dX9_taken_26 : decode cX9_taken 26 = .ok (.aload_n 0, 1) := by decide +kernel
theorem dX9_taken_27 : decode cX9_taken 27 = .ok (.getfield 81, 3) := by decide +kernel
theorem dX9_taken_30 : decode cX9_taken 30 = .ok (.if_icmp .ge 42, 3) := by decide +kernel
theorem dX9_taken_33 : decode cX9_taken 33 = .ok (.aload_n 0, 1) := by decide +kernel
theorem dX9_taken_34 : decode cX9_taken 34 = .ok (.getfield 40, 3) := by decide +kernel
theorem dX9_taken_37 : decode cX9_taken 37 = .ok (.iload_n 3, 1) := by decide +kernel
theorem dX9_taken_38 : decode cX9_taken 38 = .ok (.aaload, 1) := by decide +kernel
theorem dX9_taken_39 : decode cX9_taken 39 = .ok (.getfield 176, 3) := by decide +kernel
theorem dX9_taken_42 : decode cX9_taken 42 = .ok (.iload_n 1, 1) := by decide +kernel
theorem dX9_taken_43 : decode cX9_taken 43 = .ok (.if_icmp .ne 23, 3) := by decide +kernel
theorem dX9_taken_46 : decode cX9_taken 46 = .ok (.aload_n 0, 1) := by decide +kernel
theorem dX9_taken_47 : decode cX9_taken 47 = .ok (.getfield 40, 3) := by decide +kernel
theorem dX9_taken_50 : decode cX9_taken 50 = .ok (.iload_n 3, 1) := by decide +kernel
theorem dX9_taken_51 : decode cX9_taken 51 = .ok (.aaload, 1) := by decide +kernel
theorem dX9_taken_52 : decode cX9_taken 52 = .ok (.iload_n 2, 1) := by decide +kernel
theorem dX9_taken_53 : decode cX9_taken 53 = .ok (.invokevirtual 392, 3) := by decide +kernel
theorem dX9_taken_56 : decode cX9_taken 56 = .ok (.ifCond .eq 7, 3) := by decide +kernel
theorem dX9_taken_59 : decode cX9_taken 59 = .ok (.iload_n 3, 1) := by decide +kernel
theorem dX9_taken_60 : decode cX9_taken 60 = .ok (.goto 5, 3) := by decide +kernel
theorem dX9_taken_63 : decode cX9_taken 63 = .ok (.bipush (-13), 2) := by decide +kernel
theorem dX9_taken_65 : decode cX9_taken 65 = .ok (.ireturn, 1) := by decide +kernel
theorem dX9_taken_66 : decode cX9_taken 66 = .ok (.iinc 3 1, 3) := by decide +kernel
theorem dX9_taken_69 : decode cX9_taken 69 = .ok (.goto (-44), 3) := by decide +kernel
theorem dX9_taken_72 : decode cX9_taken 72 = .ok (.aload_n 0, 1) := by decide +kernel
theorem dX9_taken_73 : decode cX9_taken 73 = .ok (.getfield 10, 3) := by decide +kernel
theorem dX9_taken_76 : decode cX9_taken 76 = .ok (.getfield 127, 3) := by decide +kernel
theorem dX9_taken_79 : decode cX9_taken 79 = .ok (.iload_n 1, 1) := by decide +kernel
theorem dX9_taken_80 : decode cX9_taken 80 = .ok (.iaload, 1) := by decide +kernel
theorem dX9_taken_81 : decode cX9_taken 81 = .ok (.ifCond .gt 6, 3) := by decide +kernel
theorem dX9_taken_84 : decode cX9_taken 84 = .ok (.bipush (-11), 2) := by decide +kernel
theorem dX9_taken_86 : decode cX9_taken 86 = .ok (.ireturn, 1) := by decide +kernel
theorem dX9_taken_87 : decode cX9_taken 87 = .ok (.iload_n 2, 1) := by decide +kernel
theorem dX9_taken_88 : decode cX9_taken 88 = .ok (.bipush 6, 2) := by decide +kernel
theorem dX9_taken_90 : decode cX9_taken 90 = .ok (.if_icmp .ne 28, 3) := by decide +kernel
theorem dX9_taken_93 : decode cX9_taken 93 = .ok (.bipush 10, 2) := by decide +kernel
theorem dX9_taken_95 : decode cX9_taken 95 = .ok (.aload_n 0, 1) := by decide +kernel
theorem dX9_taken_96 : decode cX9_taken 96 = .ok (.getfield 10, 3) := by decide +kernel
theorem dX9_taken_99 : decode cX9_taken 99 = .ok (.getfield 127, 3) := by decide +kernel
theorem dX9_taken_102 : decode cX9_taken 102 = .ok (.iload_n 1, 1) := by decide +kernel
theorem dX9_taken_103 : decode cX9_taken 103 = .ok (.iaload, 1) := by decide +kernel
theorem dX9_taken_104 : decode cX9_taken 104 = .ok (.imul, 1) := by decide +kernel
theorem dX9_taken_105 : decode cX9_taken 105 = .ok (.aload_n 0, 1) := by decide +kernel
theorem dX9_taken_106 : decode cX9_taken 106 = .ok (.getfield 10, 3) := by decide +kernel
theorem dX9_taken_109 : decode cX9_taken 109 = .ok (.getfield 130, 3) := by decide +kernel
theorem dX9_taken_112 : decode cX9_taken 112 = .ok (.iload_n 1, 1) := by decide +kernel
theorem dX9_taken_113 : decode cX9_taken 113 = .ok (.iaload, 1) := by decide +kernel
theorem dX9_taken_114 : decode cX9_taken 114 = .ok (.iadd, 1) := by decide +kernel
theorem dX9_taken_115 : decode cX9_taken 115 = .ok (.goto 5, 3) := by decide +kernel
theorem dX9_taken_118 : decode cX9_taken 118 = .ok (.bipush (-13), 2) := by decide +kernel
theorem dX9_taken_120 : decode cX9_taken 120 = .ok (.ireturn, 1) := by decide +kernel
theorem dX9_within_0 : decode cX9_within 0 = .ok (.iload_n 0, 1) := by decide +kernel
theorem dX9_within_1 : decode cX9_within 1 = .ok (.iload_n 1, 1) := by decide +kernel
theorem dX9_within_2 : decode cX9_within 2 = .ok (.if_icmp .lt 12, 3) := by decide +kernel
theorem dX9_within_5 : decode cX9_within 5 = .ok (.iload_n 0, 1) := by decide +kernel
theorem dX9_within_6 : decode cX9_within 6 = .ok (.iload_n 2, 1) := by decide +kernel
theorem dX9_within_7 : decode cX9_within 7 = .ok (.if_icmp .gt 7, 3) := by decide +kernel
theorem dX9_within_10 : decode cX9_within 10 = .ok (.iconst 1, 1) := by decide +kernel
theorem dX9_within_11 : decode cX9_within 11 = .ok (.goto 4, 3) := by decide +kernel
theorem dX9_within_14 : decode cX9_within 14 = .ok (.iconst 0, 1) := by decide +kernel
theorem dX9_within_15 : decode cX9_within 15 = .ok (.ireturn, 1) := by decide +kernel
theorem dX9_isCell_0 : decode cX9_isCell 0 = .ok (.iload_n 0, 1) := by decide +kernel
theorem dX9_isCell_1 : decode cX9_isCell 1 = .ok (.iconst 0, 1) := by decide +kernel
theorem dX9_isCell_2 : decode cX9_isCell 2 = .ok (.bipush 99, 2) := by decide +kernel
theorem dX9_isCell_4 : decode cX9_isCell 4 = .ok (.invokestatic 133, 3) := by decide +kernel
theorem dX9_isCell_7 : decode cX9_isCell 7 = .ok (.ireturn, 1) := by decide +kernel
theorem dX9_isHour_0 : decode cX9_isHour 0 = .ok (.iload_n 0, 1) := by decide +kernel
theorem dX9_isHour_1 : decode cX9_isHour 1 = .ok (.iconst 0, 1) := by decide +kernel
theorem dX9_isHour_2 : decode cX9_isHour 2 = .ok (.bipush 11, 2) := by decide +kernel
theorem dX9_isHour_4 : decode cX9_isHour 4 = .ok (.invokestatic 133, 3) := by decide +kernel
theorem dX9_isHour_7 : decode cX9_isHour 7 = .ok (.ireturn, 1) := by decide +kernel
theorem dX9_isByte_0 : decode cX9_isByte 0 = .ok (.iload_n 0, 1) := by decide +kernel
theorem dX9_isByte_1 : decode cX9_isByte 1 = .ok (.iconst 0, 1) := by decide +kernel
theorem dX9_isByte_2 : decode cX9_isByte 2 = .ok (.sipush 255, 3) := by decide +kernel
theorem dX9_isByte_5 : decode cX9_isByte 5 = .ok (.invokestatic 133, 3) := by decide +kernel
theorem dX9_isByte_8 : decode cX9_isByte 8 = .ok (.ireturn, 1) := by decide +kernel
theorem dX9_isFormIn_0 : decode cX9_isFormIn 0 = .ok (.iload_n 0, 1) := by decide +kernel
theorem dX9_isFormIn_1 : decode cX9_isFormIn 1 = .ok (.iconst 0, 1) := by decide +kernel
theorem dX9_isFormIn_2 : decode cX9_isFormIn 2 = .ok (.iconst 4, 1) := by decide +kernel
theorem dX9_isFormIn_3 : decode cX9_isFormIn 3 = .ok (.invokestatic 133, 3) := by decide +kernel
theorem dX9_isFormIn_6 : decode cX9_isFormIn 6 = .ok (.ifCond .eq 16, 3) := by decide +kernel
theorem dX9_isFormIn_9 : decode cX9_isFormIn 9 = .ok (.iload_n 1, 1) := by decide +kernel
theorem dX9_isFormIn_10 : decode cX9_isFormIn 10 = .ok (.iconst 0, 1) := by decide +kernel
theorem dX9_isFormIn_11 : decode cX9_isFormIn 11 = .ok (.iconst 3, 1) := by decide +kernel
theorem dX9_isFormIn_12 : decode cX9_isFormIn 12 = .ok (.invokestatic 133, 3) := by decide +kernel
theorem dX9_isFormIn_15 : decode cX9_isFormIn 15 = .ok (.ifCond .eq 7, 3) := by decide +kernel
theorem dX9_isFormIn_18 : decode cX9_isFormIn 18 = .ok (.iconst 1, 1) := by decide +kernel
theorem dX9_isFormIn_19 : decode cX9_isFormIn 19 = .ok (.goto 4, 3) := by decide +kernel
theorem dX9_isFormIn_22 : decode cX9_isFormIn 22 = .ok (.iconst 0, 1) := by decide +kernel
theorem dX9_isFormIn_23 : decode cX9_isFormIn 23 = .ok (.ireturn, 1) := by decide +kernel
theorem dX9_isSounding_0 : decode cX9_isSounding 0 = .ok (.iload_n 0, 1) := by decide +kernel
theorem dX9_isSounding_1 : decode cX9_isSounding 1 = .ok (.ifCond .ne 13, 3) := by decide +kernel
theorem dX9_isSounding_4 : decode cX9_isSounding 4 = .ok (.iload_n 1, 1) := by decide +kernel
theorem dX9_isSounding_5 : decode cX9_isSounding 5 = .ok (.iconst 0, 1) := by decide +kernel
theorem dX9_isSounding_6 : decode cX9_isSounding 6 = .ok (.bipush 30, 2) := by decide +kernel
theorem dX9_isSounding_8 : decode cX9_isSounding 8 = .ok (.invokestatic 133, 3) := by decide +kernel
theorem dX9_isSounding_11 : decode cX9_isSounding 11 = .ok (.ifCond .ne 17, 3) := by decide +kernel
theorem dX9_isSounding_14 : decode cX9_isSounding 14 = .ok (.iload_n 0, 1) := by decide +kernel
theorem dX9_isSounding_15 : decode cX9_isSounding 15 = .ok (.iconst 1, 1) := by decide +kernel
theorem dX9_isSounding_16 : decode cX9_isSounding 16 = .ok (.if_icmp .ne 16, 3) := by decide +kernel
theorem dX9_isSounding_19 : decode cX9_isSounding 19 = .ok (.iload_n 1, 1) := by decide +kernel
theorem dX9_isSounding_20 : decode cX9_isSounding 20 = .ok (.iconst 0, 1) := by decide +kernel
theorem dX9_isSounding_21 : decode cX9_isSounding 21 = .ok (.iconst 3, 1) := by decide +kernel
theorem dX9_isSounding_22 : decode cX9_isSounding 22 = .ok (.invokestatic 133, 3) := by decide +kernel
theorem dX9_isSounding_25 : decode cX9_isSounding 25 = .ok (.ifCond .eq 7, 3) := by decide +kernel
theorem dX9_isSounding_28 : decode cX9_isSounding 28 = .ok (.iconst 1, 1) := by decide +kernel
theorem dX9_isSounding_29 : decode cX9_isSounding 29 = .ok (.goto 4, 3) := by decide +kernel
theorem dX9_isSounding_32 : decode cX9_isSounding 32 = .ok (.iconst 0, 1) := by decide +kernel
theorem dX9_isSounding_33 : decode cX9_isSounding 33 = .ok (.ireturn, 1) := by decide +kernel
theorem dX9_isBlowing_0 : decode cX9_isBlowing 0 = .ok (.iload_n 0, 1) := by decide +kernel
theorem dX9_isBlowing_1 : decode cX9_isBlowing 1 = .ok (.tableswitch 51 0 2 #[27, 35, 43], 27) := by decide +kernel
theorem dX9_isBlowing_28 : decode cX9_isBlowing 28 = .ok (.iload_n 1, 1) := by decide +kernel
theorem dX9_isBlowing_29 : decode cX9_isBlowing 29 = .ok (.iconst 0, 1) := by decide +kernel
theorem dX9_isBlowing_30 : decode cX9_isBlowing 30 = .ok (.bipush 7, 2) := by decide +kernel
theorem dX9_isBlowing_32 : decode cX9_isBlowing 32 = .ok (.invokestatic 133, 3) := by decide +kernel
theorem dX9_isBlowing_35 : decode cX9_isBlowing 35 = .ok (.ireturn, 1) := by decide +kernel
theorem dX9_isBlowing_36 : decode cX9_isBlowing 36 = .ok (.iload_n 1, 1) := by decide +kernel
theorem dX9_isBlowing_37 : decode cX9_isBlowing 37 = .ok (.iconst 0, 1) := by decide +kernel
theorem dX9_isBlowing_38 : decode cX9_isBlowing 38 = .ok (.bipush 99, 2) := by decide +kernel
theorem dX9_isBlowing_40 : decode cX9_isBlowing 40 = .ok (.invokestatic 133, 3) := by decide +kernel
theorem dX9_isBlowing_43 : decode cX9_isBlowing 43 = .ok (.ireturn, 1) := by decide +kernel
theorem dX9_isBlowing_44 : decode cX9_isBlowing 44 = .ok (.iload_n 1, 1) := by decide +kernel
theorem dX9_isBlowing_45 : decode cX9_isBlowing 45 = .ok (.bipush (-3), 2) := by decide +kernel
theorem dX9_isBlowing_47 : decode cX9_isBlowing 47 = .ok (.iconst 3, 1) := by decide +kernel
theorem dX9_isBlowing_48 : decode cX9_isBlowing 48 = .ok (.invokestatic 133, 3) := by decide +kernel
theorem dX9_isBlowing_51 : decode cX9_isBlowing 51 = .ok (.ireturn, 1) := by decide +kernel
theorem dX9_isBlowing_52 : decode cX9_isBlowing 52 = .ok (.iconst 0, 1) := by decide +kernel
theorem dX9_isBlowing_53 : decode cX9_isBlowing 53 = .ok (.ireturn, 1) := by decide +kernel
theorem dX9_isNight_0 : decode cX9_isNight 0 = .ok (.iload_n 1, 1) := by decide +kernel
theorem dX9_isNight_1 : decode cX9_isNight 1 = .ok (.iconst 0, 1) := by decide +kernel
theorem dX9_isNight_2 : decode cX9_isNight 2 = .ok (.bipush 12, 2) := by decide +kernel
theorem dX9_isNight_4 : decode cX9_isNight 4 = .ok (.aload_n 0, 1) := by decide +kernel
theorem dX9_isNight_5 : decode cX9_isNight 5 = .ok (.getfield 77, 3) := by decide +kernel
theorem dX9_isNight_8 : decode cX9_isNight 8 = .ok (.isub, 1) := by decide +kernel
theorem dX9_isNight_9 : decode cX9_isNight 9 = .ok (.invokestatic 133, 3) := by decide +kernel
theorem dX9_isNight_12 : decode cX9_isNight 12 = .ok (.ireturn, 1) := by decide +kernel
theorem dX9_boatOf_0 : decode cX9_boatOf 0 = .ok (.iload_n 1, 1) := by decide +kernel
theorem dX9_boatOf_1 : decode cX9_boatOf 1 = .ok (.iconst 0, 1) := by decide +kernel
theorem dX9_boatOf_2 : decode cX9_boatOf 2 = .ok (.aload_n 0, 1) := by decide +kernel
theorem dX9_boatOf_3 : decode cX9_boatOf 3 = .ok (.getfield 81, 3) := by decide +kernel
theorem dX9_boatOf_6 : decode cX9_boatOf 6 = .ok (.iconst 1, 1) := by decide +kernel
theorem dX9_boatOf_7 : decode cX9_boatOf 7 = .ok (.isub, 1) := by decide +kernel
theorem dX9_boatOf_8 : decode cX9_boatOf 8 = .ok (.invokestatic 133, 3) := by decide +kernel
theorem dX9_boatOf_11 : decode cX9_boatOf 11 = .ok (.ifCond .eq 12, 3) := by decide +kernel
theorem dX9_boatOf_14 : decode cX9_boatOf 14 = .ok (.aload_n 0, 1) := by decide +kernel
theorem dX9_boatOf_15 : decode cX9_boatOf 15 = .ok (.getfield 40, 3) := by decide +kernel
theorem dX9_boatOf_18 : decode cX9_boatOf 18 = .ok (.iload_n 1, 1) := by decide +kernel
theorem dX9_boatOf_19 : decode cX9_boatOf 19 = .ok (.aaload, 1) := by decide +kernel
theorem dX9_boatOf_20 : decode cX9_boatOf 20 = .ok (.goto 4, 3) := by decide +kernel
theorem dX9_boatOf_23 : decode cX9_boatOf 23 = .ok (.aconst_null, 1) := by decide +kernel
theorem dX9_boatOf_24 : decode cX9_boatOf 24 = .ok (.areturn, 1) := by decide +kernel
theorem dX9_refusal_0 : decode cX9_refusal 0 = .ok (.aload_n 0, 1) := by decide +kernel
theorem dX9_refusal_1 : decode cX9_refusal 1 = .ok (.ifnonnull 6, 3) := by decide +kernel
theorem dX9_refusal_4 : decode cX9_refusal 4 = .ok (.bipush (-5), 2) := by decide +kernel
theorem dX9_refusal_6 : decode cX9_refusal 6 = .ok (.ireturn, 1) := by decide +kernel
theorem dX9_refusal_7 : decode cX9_refusal 7 = .ok (.iload_n 1, 1) := by decide +kernel
theorem dX9_refusal_8 : decode cX9_refusal 8 = .ok (.ifCond .ne 6, 3) := by decide +kernel
theorem dX9_refusal_11 : decode cX9_refusal 11 = .ok (.bipush (-7), 2) := by decide +kernel
theorem dX9_refusal_13 : decode cX9_refusal 13 = .ok (.ireturn, 1) := by decide +kernel
theorem dX9_refusal_14 : decode cX9_refusal 14 = .ok (.aload_n 0, 1) := by decide +kernel
theorem dX9_refusal_15 : decode cX9_refusal 15 = .ok (.invokevirtual 248, 3) := by decide +kernel
theorem dX9_refusal_18 : decode cX9_refusal 18 = .ok (.ifCond .eq 8, 3) := by decide +kernel
theorem dX9_refusal_21 : decode cX9_refusal 21 = .ok (.bipush (-3), 2) := by decide +kernel
theorem dX9_refusal_23 : decode cX9_refusal 23 = .ok (.goto 4, 3) := by decide +kernel
theorem dX9_refusal_26 : decode cX9_refusal 26 = .ok (.iconst 0, 1) := by decide +kernel
theorem dX9_refusal_27 : decode cX9_refusal 27 = .ok (.ireturn, 1) := by decide +kernel
theorem dX9_sheetOf_0 : decode cX9_sheetOf 0 = .ok (.iload_n 1, 1) := by decide +kernel
theorem dX9_sheetOf_1 : decode cX9_sheetOf 1 = .ok (.iconst 0, 1) := by decide +kernel
theorem dX9_sheetOf_2 : decode cX9_sheetOf 2 = .ok (.iconst 3, 1) := by decide +kernel
theorem dX9_sheetOf_3 : decode cX9_sheetOf 3 = .ok (.invokestatic 133, 3) := by decide +kernel
theorem dX9_sheetOf_6 : decode cX9_sheetOf 6 = .ok (.ifCond .eq 12, 3) := by decide +kernel
theorem dX9_sheetOf_9 : decode cX9_sheetOf 9 = .ok (.aload_n 0, 1) := by decide +kernel
theorem dX9_sheetOf_10 : decode cX9_sheetOf 10 = .ok (.getfield 66, 3) := by decide +kernel
theorem dX9_sheetOf_13 : decode cX9_sheetOf 13 = .ok (.iload_n 1, 1) := by decide +kernel
theorem dX9_sheetOf_14 : decode cX9_sheetOf 14 = .ok (.aaload, 1) := by decide +kernel
theorem dX9_sheetOf_15 : decode cX9_sheetOf 15 = .ok (.goto 4, 3) := by decide +kernel
theorem dX9_sheetOf_18 : decode cX9_sheetOf 18 = .ok (.aconst_null, 1) := by decide +kernel
theorem dX9_sheetOf_19 : decode cX9_sheetOf 19 = .ok (.areturn, 1) := by decide +kernel
theorem dX9_rule_0 : decode cX9_rule 0 = .ok (.aload_n 0, 1) := by decide +kernel
theorem dX9_rule_1 : decode cX9_rule 1 = .ok (.iload_n 1, 1) := by decide +kernel
theorem dX9_rule_2 : decode cX9_rule 2 = .ok (.putfield 87, 3) := by decide +kernel
theorem dX9_rule_5 : decode cX9_rule 5 = .ok (.aload_n 0, 1) := by decide +kernel
theorem dX9_rule_6 : decode cX9_rule 6 = .ok (.getfield 34, 3) := by decide +kernel
theorem dX9_rule_9 : decode cX9_rule 9 = .ok (.aload_n 0, 1) := by decide +kernel
theorem dX9_rule_10 : decode cX9_rule 10 = .ok (.getfield 25, 3) := by decide +kernel
theorem dX9_rule_13 : decode cX9_rule 13 = .ok (.iload_n 1, 1) := by decide +kernel
theorem dX9_rule_14 : decode cX9_rule 14 = .ok (.aaload, 1) := by decide +kernel
theorem dX9_rule_15 : decode cX9_rule 15 = .ok (.putfield 116, 3) := by decide +kernel
theorem dX9_rule_18 : decode cX9_rule 18 = .ok (.return_, 1) := by decide +kernel
theorem dX9_sailed_0 : decode cX9_sailed 0 = .ok (.aload_n 0, 1) := by decide +kernel
theorem dX9_sailed_1 : decode cX9_sailed 1 = .ok (.getfield 46, 3) := by decide +kernel
theorem dX9_sailed_4 : decode cX9_sailed 4 = .ok (.iload_n 1, 1) := by decide +kernel
theorem dX9_sailed_5 : decode cX9_sailed 5 = .ok (.aaload, 1) := by decide +kernel
theorem dX9_sailed_6 : decode cX9_sailed 6 = .ok (.astore 4, 2) := by decide +kernel
theorem dX9_sailed_8 : decode cX9_sailed 8 = .ok (.aload 4, 2) := by decide +kernel
theorem dX9_sailed_10 : decode cX9_sailed 10 = .ok (.aload_n 0, 1) := by decide +kernel
theorem dX9_sailed_11 : decode cX9_sailed 11 = .ok (.getfield 34, 3) := by decide +kernel
theorem dX9_sailed_14 : decode cX9_sailed 14 = .ok (.aload_n 2, 1) := by decide +kernel
theorem dX9_sailed_15 : decode cX9_sailed 15 = .ok (.aload_n 0, 1) := by decide +kernel
theorem dX9_sailed_16 : decode cX9_sailed 16 = .ok (.getfield 77, 3) := by decide +kernel
theorem dX9_sailed_19 : decode cX9_sailed 19 = .ok (.aload_n 0, 1) := by decide +kernel
theorem dX9_sailed_20 : decode cX9_sailed 20 = .ok (.getfield 77, 3) := by decide +kernel
theorem dX9_sailed_23 : decode cX9_sailed 23 = .ok (.iload_n 3, 1) := by decide +kernel
theorem dX9_sailed_24 : decode cX9_sailed 24 = .ok (.iadd, 1) := by decide +kernel
theorem dX9_sailed_25 : decode cX9_sailed 25 = .ok (.invokevirtual 395, 3) := by decide +kernel
theorem dX9_sailed_28 : decode cX9_sailed 28 = .ok (.aload 4, 2) := by decide +kernel
theorem dX9_sailed_30 : decode cX9_sailed 30 = .ok (.areturn, 1) := by decide +kernel
theorem dX9_sailAll_0 : decode cX9_sailAll 0 = .ok (.iconst 0, 1) := by decide +kernel
theorem dX9_sailAll_1 : decode cX9_sailAll 1 = .ok (.istore_n 2, 1) := by decide +kernel
theorem dX9_sailAll_2 : decode cX9_sailAll 2 = .ok (.iload_n 2, 1) := by decide +kernel
theorem dX9_sailAll_3 : decode cX9_sailAll 3 = .ok (.aload_n 0, 1) := by decide +kernel
theorem dX9_sailAll_4 : decode cX9_sailAll 4 = .ok (.getfield 81, 3) := by decide +kernel
theorem dX9_sailAll_7 : decode cX9_sailAll 7 = .ok (.if_icmp .ge 38, 3) := by decide +kernel
theorem dX9_sailAll_10 : decode cX9_sailAll 10 = .ok (.aload_n 0, 1) := by decide +kernel
theorem dX9_sailAll_11 : decode cX9_sailAll 11 = .ok (.getfield 46, 3) := by decide +kernel
theorem dX9_sailAll_14 : decode cX9_sailAll 14 = .ok (.iload_n 2, 1) := by decide +kernel
theorem dX9_sailAll_15 : decode cX9_sailAll 15 = .ok (.aaload, 1) := by decide +kernel
theorem dX9_sailAll_16 : decode cX9_sailAll 16 = .ok (.aload_n 0, 1) := by decide +kernel
theorem dX9_sailAll_17 : decode cX9_sailAll 17 = .ok (.getfield 34, 3) := by decide +kernel
theorem dX9_sailAll_20 : decode cX9_sailAll 20 = .ok (.aload_n 0, 1) := by decide +kernel
theorem dX9_sailAll_21 : decode cX9_sailAll 21 = .ok (.getfield 40, 3) := by decide +kernel
theorem dX9_sailAll_24 : decode cX9_sailAll 24 = .ok (.iload_n 2, 1) := by decide +kernel
theorem dX9_sailAll_25 : decode cX9_sailAll 25 = .ok (.aaload, 1) := by decide +kernel
theorem dX9_sailAll_26 : decode cX9_sailAll 26 = .ok (.aload_n 0, 1) := by decide +kernel
theorem dX9_sailAll_27 : decode cX9_sailAll 27 = .ok (.getfield 77, 3) := by decide +kernel
theorem dX9_sailAll_30 : decode cX9_sailAll 30 = .ok (.aload_n 0, 1) := by decide +kernel
theorem dX9_sailAll_31 : decode cX9_sailAll 31 = .ok (.getfield 77, 3) := by decide +kernel
theorem dX9_sailAll_34 : decode cX9_sailAll 34 = .ok (.iload_n 1, 1) := by decide +kernel
theorem dX9_sailAll_35 : decode cX9_sailAll 35 = .ok (.iadd, 1) := by decide +kernel
theorem dX9_sailAll_36 : decode cX9_sailAll 36 = .ok (.invokevirtual 395, 3) := by decide +kernel
theorem dX9_sailAll_39 : decode cX9_sailAll 39 = .ok (.iinc 2 1, 3) := by decide +kernel
theorem dX9_sailAll_42 : decode cX9_sailAll 42 = .ok (.goto (-40), 3) := by decide +kernel
theorem dX9_sailAll_45 : decode cX9_sailAll 45 = .ok (.return_, 1) := by decide +kernel
theorem dX9_stays_0 : decode cX9_stays 0 = .ok (.aload_n 0, 1) := by decide +kernel
theorem dX9_stays_1 : decode cX9_stays 1 = .ok (.getfield 77, 3) := by decide +kernel
theorem dX9_stays_4 : decode cX9_stays 4 = .ok (.istore 5, 2) := by decide +kernel
theorem dX9_stays_6 : decode cX9_stays 6 = .ok (.iload 5, 2) := by decide +kernel
theorem dX9_stays_8 : decode cX9_stays 8 = .ok (.aload_n 0, 1) := by decide +kernel
theorem dX9_stays_9 : decode cX9_stays 9 = .ok (.getfield 77, 3) := by decide +kernel
theorem dX9_stays_12 : decode cX9_stays 12 = .ok (.iload 4, 2) := by decide +kernel
theorem dX9_stays_14 : decode cX9_stays 14 = .ok (.iadd, 1) := by decide +kernel
theorem dX9_stays_15 : decode cX9_stays 15 = .ok (.if_icmp .ge 28, 3) := by decide +kernel
theorem dX9_stays_18 : decode cX9_stays 18 = .ok (.aload_n 0, 1) := by decide +kernel
theorem dX9_stays_19 : decode cX9_stays 19 = .ok (.getfield 34, 3) := by decide +kernel
theorem dX9_stays_22 : decode cX9_stays 22 = .ok (.aload_n 1, 1) := by decide +kernel
theorem dX9_stays_23 : decode cX9_stays 23 = .ok (.iload_n 2, 1) := by decide +kernel
theorem dX9_stays_24 : decode cX9_stays 24 = .ok (.iload_n 3, 1) := by decide +kernel
theorem dX9_stays_25 : decode cX9_stays 25 = .ok (.iload 5, 2) := by decide +kernel
theorem dX9_stays_27 : decode cX9_stays 27 = .ok (.iconst 0, 1) := by decide +kernel
theorem dX9_stays_28 : decode cX9_stays 28 = .ok (.iconst 0, 1) := by decide +kernel
theorem dX9_stays_29 : decode cX9_stays 29 = .ok (.invokevirtual 399, 3) := by decide +kernel
theorem dX9_stays_32 : decode cX9_stays 32 = .ok (.ifCond .eq 5, 3) := by decide +kernel
theorem dX9_stays_35 : decode cX9_stays 35 = .ok (.iconst 0, 1) := by decide +kernel
theorem dX9_stays_36 : decode cX9_stays 36 = .ok (.ireturn, 1) := by decide +kernel
theorem dX9_stays_37 : decode cX9_stays 37 = .ok (.iinc 5 1, 3) := by decide +kernel
theorem dX9_stays_40 : decode cX9_stays 40 = .ok (.goto (-34), 3) := by decide +kernel
theorem dX9_stays_43 : decode cX9_stays 43 = .ok (.iconst 1, 1) := by decide +kernel
theorem dX9_stays_44 : decode cX9_stays 44 = .ok (.ireturn, 1) := by decide +kernel
theorem dX9_meetings_0 : decode cX9_meetings 0 = .ok (.iconst 0, 1) := by decide +kernel
theorem dX9_meetings_1 : decode cX9_meetings 1 = .ok (.istore_n 2, 1) := by decide +kernel
theorem dX9_meetings_2 : decode cX9_meetings 2 = .ok (.aload_n 0, 1) := by decide +kernel
theorem dX9_meetings_3 : decode cX9_meetings 3 = .ok (.getfield 77, 3) := by decide +kernel
theorem dX9_meetings_6 : decode cX9_meetings 6 = .ok (.istore_n 3, 1) := by decide +kernel
theorem dX9_meetings_7 : decode cX9_meetings 7 = .ok (.iload_n 3, 1) := by decide +kernel
theorem dX9_meetings_8 : decode cX9_meetings 8 = .ok (.aload_n 0, 1) := by decide +kernel
theorem dX9_meetings_9 : decode cX9_meetings 9 = .ok (.getfield 77, 3) := by decide +kernel
theorem dX9_meetings_12 : decode cX9_meetings 12 = .ok (.iload_n 1, 1) := by decide +kernel
theorem dX9_meetings_13 : decode cX9_meetings 13 = .ok (.iadd, 1) := by decide +kernel
theorem dX9_meetings_14 : decode cX9_meetings 14 = .ok (.if_icmp .ge 104, 3) := by decide +kernel
theorem dX9_meetings_17 : decode cX9_meetings 17 = .ok (.iconst 0, 1) := by decide +kernel
theorem dX9_meetings_18 : decode cX9_meetings 18 = .ok (.istore 4, 2) := by decide +kernel
theorem dX9_meetings_20 : decode cX9_meetings 20 = .ok (.iload 4, 2) := by decide +kernel
theorem dX9_meetings_22 : decode cX9_meetings 22 = .ok (.aload_n 0, 1) := by decide +kernel
theorem dX9_meetings_23 : decode cX9_meetings 23 = .ok (.getfield 81, 3) := by decide +kernel
theorem dX9_meetings_26 : decode cX9_meetings 26 = .ok (.if_icmp .ge 86, 3) := by decide +kernel
theorem dX9_meetings_29 : decode cX9_meetings 29 = .ok (.iload 4, 2) := by decide +kernel
theorem dX9_meetings_31 : decode cX9_meetings 31 = .ok (.iconst 1, 1) := by decide +kernel
theorem dX9_meetings_32 : decode cX9_meetings 32 = .ok (.iadd, 1) := by decide +kernel
theorem dX9_meetings_33 : decode cX9_meetings 33 = .ok (.istore 5, 2) := by decide +kernel
theorem dX9_meetings_35 : decode cX9_meetings 35 = .ok (.iload 5, 2) := by decide +kernel
theorem dX9_meetings_37 : decode cX9_meetings 37 = .ok (.aload_n 0, 1) := by decide +kernel
theorem dX9_meetings_38 : decode cX9_meetings 38 = .ok (.getfield 81, 3) := by decide +kernel
theorem dX9_meetings_41 : decode cX9_meetings 41 = .ok (.if_icmp .ge 65, 3) := by decide +kernel
theorem dX9_meetings_44 : decode cX9_meetings 44 = .ok (.aload_n 0, 1) := by decide +kernel
theorem dX9_meetings_45 : decode cX9_meetings 45 = .ok (.getfield 46, 3) := by decide +kernel
theorem dX9_meetings_48 : decode cX9_meetings 48 = .ok (.iload 4, 2) := by decide +kernel
theorem dX9_meetings_50 : decode cX9_meetings 50 = .ok (.aaload, 1) := by decide +kernel
theorem dX9_meetings_51 : decode cX9_meetings 51 = .ok (.iload_n 3, 1) := by decide +kernel
theorem dX9_meetings_52 : decode cX9_meetings 52 = .ok (.aload_n 0, 1) := by decide +kernel
theorem dX9_meetings_53 : decode cX9_meetings 53 = .ok (.getfield 46, 3) := by decide +kernel
theorem dX9_meetings_56 : decode cX9_meetings 56 = .ok (.iload 5, 2) := by decide +kernel
theorem dX9_meetings_58 : decode cX9_meetings 58 = .ok (.aaload, 1) := by decide +kernel
theorem dX9_meetings_59 : decode cX9_meetings 59 = .ok (.iload_n 3, 1) := by decide +kernel
theorem dX9_meetings_60 : decode cX9_meetings 60 = .ok (.invokevirtual 225, 3) := by decide +kernel
theorem dX9_meetings_63 : decode cX9_meetings 63 = .ok (.invokevirtual 403, 3) := by decide +kernel
theorem dX9_meetings_66 : decode cX9_meetings 66 = .ok (.ifCond .eq 34, 3) := by decide +kernel
theorem dX9_meetings_69 : decode cX9_meetings 69 = .ok (.iload_n 2, 1) := by decide +kernel
theorem dX9_meetings_70 : decode cX9_meetings 70 = .ok (.aload_n 0, 1) := by decide +kernel
theorem dX9_meetings_71 : decode cX9_meetings 71 = .ok (.getfield 50, 3) := by decide +kernel
theorem dX9_meetings_74 : decode cX9_meetings 74 = .ok (.arraylength, 1) := by decide +kernel
theorem dX9_meetings_75 : decode cX9_meetings 75 = .ok (.if_icmp .ge 25, 3) := by decide +kernel
theorem dX9_meetings_78 : decode cX9_meetings 78 = .ok (.aload_n 0, 1) := by decide +kernel
theorem dX9_meetings_79 : decode cX9_meetings 79 = .ok (.getfield 50, 3) := by decide +kernel
theorem dX9_meetings_82 : decode cX9_meetings 82 = .ok (.iload_n 2, 1) := by decide +kernel
theorem dX9_meetings_83 : decode cX9_meetings 83 = .ok (.bipush 100, 2) := by decide +kernel
theorem dX9_meetings_85 : decode cX9_meetings 85 = .ok (.iload_n 3, 1) := by decide +kernel
theorem dX9_meetings_86 : decode cX9_meetings 86 = .ok (.imul, 1) := by decide +kernel
theorem dX9_meetings_87 : decode cX9_meetings 87 = .ok (.bipush 10, 2) := by decide +kernel
theorem dX9_meetings_89 : decode cX9_meetings 89 = .ok (.iload 4, 2) := by decide +kernel
theorem dX9_meetings_91 : decode cX9_meetings 91 = .ok (.imul, 1) := by decide +kernel
theorem dX9_meetings_92 : decode cX9_meetings 92 = .ok (.iadd, 1) := by decide +kernel
theorem dX9_meetings_93 : decode cX9_meetings 93 = .ok (.iload 5, 2) := by decide +kernel
theorem dX9_meetings_95 : decode cX9_meetings 95 = .ok (.iadd, 1) := by decide +kernel
theorem dX9_meetings_96 : decode cX9_meetings 96 = .ok (.iastore, 1) := by decide +kernel
theorem dX9_meetings_97 : decode cX9_meetings 97 = .ok (.iinc 2 1, 3) := by decide +kernel
theorem dX9_meetings_100 : decode cX9_meetings 100 = .ok (.iinc 5 1, 3) := by decide +kernel
theorem dX9_meetings_103 : decode cX9_meetings 103 = .ok (.goto (-68), 3) := by decide +kernel
theorem dX9_meetings_106 : decode cX9_meetings 106 = .ok (.iinc 4 1, 3) := by decide +kernel
theorem dX9_meetings_109 : decode cX9_meetings 109 = .ok (.goto (-89), 3) := by decide +kernel
theorem dX9_meetings_112 : decode cX9_meetings 112 = .ok (.iinc 3 1, 3) := by decide +kernel
theorem dX9_meetings_115 : decode cX9_meetings 115 = .ok (.goto (-108), 3) := by decide +kernel
theorem dX9_meetings_118 : decode cX9_meetings 118 = .ok (.iload_n 2, 1) := by decide +kernel
theorem dX9_meetings_119 : decode cX9_meetings 119 = .ok (.ireturn, 1) := by decide +kernel
theorem dX9_firstToDrag_0 : decode cX9_firstToDrag 0 = .ok (.iconst (-1), 1) := by decide +kernel
theorem dX9_firstToDrag_1 : decode cX9_firstToDrag 1 = .ok (.istore_n 1, 1) := by decide +kernel
theorem dX9_firstToDrag_2 : decode cX9_firstToDrag 2 = .ok (.iconst 0, 1) := by decide +kernel
theorem dX9_firstToDrag_3 : decode cX9_firstToDrag 3 = .ok (.istore_n 2, 1) := by decide +kernel
theorem dX9_firstToDrag_4 : decode cX9_firstToDrag 4 = .ok (.iload_n 2, 1) := by decide +kernel
theorem dX9_firstToDrag_5 : decode cX9_firstToDrag 5 = .ok (.aload_n 0, 1) := by decide +kernel
theorem dX9_firstToDrag_6 : decode cX9_firstToDrag 6 = .ok (.getfield 81, 3) := by decide +kernel
theorem dX9_firstToDrag_9 : decode cX9_firstToDrag 9 = .ok (.if_icmp .ge 60, 3) := by decide +kernel
theorem dX9_firstToDrag_12 : decode cX9_firstToDrag 12 = .ok (.aload_n 0, 1) := by decide +kernel
theorem dX9_firstToDrag_13 : decode cX9_firstToDrag 13 = .ok (.getfield 46, 3) := by decide +kernel
theorem dX9_firstToDrag_16 : decode cX9_firstToDrag 16 = .ok (.iload_n 2, 1) := by decide +kernel
theorem dX9_firstToDrag_17 : decode cX9_firstToDrag 17 = .ok (.aaload, 1) := by decide +kernel
theorem dX9_firstToDrag_18 : decode cX9_firstToDrag 18 = .ok (.getfield 222, 3) := by decide +kernel
theorem dX9_firstToDrag_21 : decode cX9_firstToDrag 21 = .ok (.iconst (-1), 1) := by decide +kernel
theorem dX9_firstToDrag_22 : decode cX9_firstToDrag 22 = .ok (.if_icmp .eq 7, 3) := by decide +kernel
theorem dX9_firstToDrag_25 : decode cX9_firstToDrag 25 = .ok (.iconst 1, 1) := by decide +kernel
theorem dX9_firstToDrag_26 : decode cX9_firstToDrag 26 = .ok (.goto 4, 3) := by decide +kernel
theorem dX9_firstToDrag_29 : decode cX9_firstToDrag 29 = .ok (.iconst 0, 1) := by decide +kernel
theorem dX9_firstToDrag_30 : decode cX9_firstToDrag 30 = .ok (.istore_n 3, 1) := by decide +kernel
theorem dX9_firstToDrag_31 : decode cX9_firstToDrag 31 = .ok (.iload_n 3, 1) := by decide +kernel
theorem dX9_firstToDrag_32 : decode cX9_firstToDrag 32 = .ok (.ifCond .eq 31, 3) := by decide +kernel
theorem dX9_firstToDrag_35 : decode cX9_firstToDrag 35 = .ok (.iload_n 1, 1) := by decide +kernel
theorem dX9_firstToDrag_36 : decode cX9_firstToDrag 36 = .ok (.iconst (-1), 1) := by decide +kernel
theorem dX9_firstToDrag_37 : decode cX9_firstToDrag 37 = .ok (.if_icmp .eq 24, 3) := by decide +kernel
theorem dX9_firstToDrag_40 : decode cX9_firstToDrag 40 = .ok (.aload_n 0, 1) := by decide +kernel
theorem dX9_firstToDrag_41 : decode cX9_firstToDrag 41 = .ok (.getfield 46, 3) := by decide +kernel
theorem dX9_firstToDrag_44 : decode cX9_firstToDrag 44 = .ok (.iload_n 2, 1) := by decide +kernel
theorem dX9_firstToDrag_45 : decode cX9_firstToDrag 45 = .ok (.aaload, 1) := by decide +kernel
theorem dX9_firstToDrag_46 : decode cX9_firstToDrag 46 = .ok (.getfield 222, 3) := by decide +kernel
theorem dX9_firstToDrag_49 : decode cX9_firstToDrag 49 = .ok (.aload_n 0, 1) := by decide +kernel
theorem dX9_firstToDrag_50 : decode cX9_firstToDrag 50 = .ok (.getfield 46, 3) := by decide +kernel
theorem dX9_firstToDrag_53 : decode cX9_firstToDrag 53 = .ok (.iload_n 1, 1) := by decide +kernel
theorem dX9_firstToDrag_54 : decode cX9_firstToDrag 54 = .ok (.aaload, 1) := by decide +kernel
theorem dX9_firstToDrag_55 : decode cX9_firstToDrag 55 = .ok (.getfield 222, 3) := by decide +kernel
theorem dX9_firstToDrag_58 : decode cX9_firstToDrag 58 = .ok (.if_icmp .ge 5, 3) := by decide +kernel
theorem dX9_firstToDrag_61 : decode cX9_firstToDrag 61 = .ok (.iload_n 2, 1) := by decide +kernel
theorem dX9_firstToDrag_62 : decode cX9_firstToDrag 62 = .ok (.istore_n 1, 1) := by decide +kernel
theorem dX9_firstToDrag_63 : decode cX9_firstToDrag 63 = .ok (.iinc 2 1, 3) := by decide +kernel
theorem dX9_firstToDrag_66 : decode cX9_firstToDrag 66 = .ok (.goto (-62), 3) := by decide +kernel
theorem dX9_firstToDrag_69 : decode cX9_firstToDrag 69 = .ok (.iload_n 1, 1) := by decide +kernel
theorem dX9_firstToDrag_70 : decode cX9_firstToDrag 70 = .ok (.ireturn, 1) := by decide +kernel
theorem dX9_lost_0 : decode cX9_lost 0 = .ok (.iconst 0, 1) := by decide +kernel
theorem dX9_lost_1 : decode cX9_lost 1 = .ok (.istore_n 1, 1) := by decide +kernel
theorem dX9_lost_2 : decode cX9_lost 2 = .ok (.iconst 0, 1) := by decide +kernel
theorem dX9_lost_3 : decode cX9_lost 3 = .ok (.istore_n 2, 1) := by decide +kernel
theorem dX9_lost_4 : decode cX9_lost 4 = .ok (.iload_n 2, 1) := by decide +kernel
theorem dX9_lost_5 : decode cX9_lost 5 = .ok (.aload_n 0, 1) := by decide +kernel
theorem dX9_lost_6 : decode cX9_lost 6 = .ok (.getfield 81, 3) := by decide +kernel
theorem dX9_lost_9 : decode cX9_lost 9 = .ok (.if_icmp .ge 37, 3) := by decide +kernel
theorem dX9_lost_12 : decode cX9_lost 12 = .ok (.aload_n 0, 1) := by decide +kernel
theorem dX9_lost_13 : decode cX9_lost 13 = .ok (.getfield 40, 3) := by decide +kernel
theorem dX9_lost_16 : decode cX9_lost 16 = .ok (.iload_n 2, 1) := by decide +kernel
theorem dX9_lost_17 : decode cX9_lost 17 = .ok (.aaload, 1) := by decide +kernel
theorem dX9_lost_18 : decode cX9_lost 18 = .ok (.invokevirtual 248, 3) := by decide +kernel
theorem dX9_lost_21 : decode cX9_lost 21 = .ok (.ifCond .ne 19, 3) := by decide +kernel
theorem dX9_lost_24 : decode cX9_lost 24 = .ok (.aload_n 0, 1) := by decide +kernel
theorem dX9_lost_25 : decode cX9_lost 25 = .ok (.getfield 46, 3) := by decide +kernel
theorem dX9_lost_28 : decode cX9_lost 28 = .ok (.iload_n 2, 1) := by decide +kernel
theorem dX9_lost_29 : decode cX9_lost 29 = .ok (.aaload, 1) := by decide +kernel
theorem dX9_lost_30 : decode cX9_lost 30 = .ok (.getfield 218, 3) := by decide +kernel
theorem dX9_lost_33 : decode cX9_lost 33 = .ok (.iconst (-1), 1) := by decide +kernel
theorem dX9_lost_34 : decode cX9_lost 34 = .ok (.if_icmp .ne 6, 3) := by decide +kernel
theorem dX9_lost_37 : decode cX9_lost 37 = .ok (.iinc 1 1, 3) := by decide +kernel
theorem dX9_lost_40 : decode cX9_lost 40 = .ok (.iinc 2 1, 3) := by decide +kernel
theorem dX9_lost_43 : decode cX9_lost 43 = .ok (.goto (-39), 3) := by decide +kernel
theorem dX9_lost_46 : decode cX9_lost 46 = .ok (.iload_n 1, 1) := by decide +kernel
theorem dX9_lost_47 : decode cX9_lost 47 = .ok (.ireturn, 1) := by decide +kernel
theorem dX9_meetsAnother_0 : decode cX9_meetsAnother 0 = .ok (.aload_n 0, 1) := by decide +kernel
theorem dX9_meetsAnother_1 : decode cX9_meetsAnother 1 = .ok (.getfield 77, 3) := by decide +kernel
theorem dX9_meetsAnother_4 : decode cX9_meetsAnother 4 = .ok (.istore 5, 2) := by decide +kernel
theorem dX9_meetsAnother_6 : decode cX9_meetsAnother 6 = .ok (.iload 5, 2) := by decide +kernel
theorem dX9_meetsAnother_8 : decode cX9_meetsAnother 8 = .ok (.aload_n 0, 1) := by decide +kernel
theorem dX9_meetsAnother_9 : decode cX9_meetsAnother 9 = .ok (.getfield 77, 3) := by decide +kernel
theorem dX9_meetsAnother_12 : decode cX9_meetsAnother 12 = .ok (.iload 4, 2) := by decide +kernel
theorem dX9_meetsAnother_14 : decode cX9_meetsAnother 14 = .ok (.iadd, 1) := by decide +kernel
theorem dX9_meetsAnother_15 : decode cX9_meetsAnother 15 = .ok (.if_icmp .ge 78, 3) := by decide +kernel
theorem dX9_meetsAnother_18 : decode cX9_meetsAnother 18 = .ok (.aload_n 0, 1) := by decide +kernel
theorem dX9_meetsAnother_19 : decode cX9_meetsAnother 19 = .ok (.getfield 10, 3) := by decide +kernel
theorem dX9_meetsAnother_22 : decode cX9_meetsAnother 22 = .ok (.iload_n 3, 1) := by decide +kernel
theorem dX9_meetsAnother_23 : decode cX9_meetsAnother 23 = .ok (.aload_n 2, 1) := by decide +kernel
theorem dX9_meetsAnother_24 : decode cX9_meetsAnother 24 = .ok (.getfield 179, 3) := by decide +kernel
theorem dX9_meetsAnother_27 : decode cX9_meetsAnother 27 = .ok (.iload 5, 2) := by decide +kernel
theorem dX9_meetsAnother_29 : decode cX9_meetsAnother 29 = .ok (.aload_n 0, 1) := by decide +kernel
theorem dX9_meetsAnother_30 : decode cX9_meetsAnother 30 = .ok (.getfield 10, 3) := by decide +kernel
theorem dX9_meetsAnother_33 : decode cX9_meetsAnother 33 = .ok (.getfield 406, 3) := by decide +kernel
theorem dX9_meetsAnother_36 : decode cX9_meetsAnother 36 = .ok (.iload 5, 2) := by decide +kernel
theorem dX9_meetsAnother_38 : decode cX9_meetsAnother 38 = .ok (.iaload, 1) := by decide +kernel
theorem dX9_meetsAnother_39 : decode cX9_meetsAnother 39 = .ok (.invokevirtual 409, 3) := by decide +kernel
theorem dX9_meetsAnother_42 : decode cX9_meetsAnother 42 = .ok (.istore 6, 2) := by decide +kernel
theorem dX9_meetsAnother_44 : decode cX9_meetsAnother 44 = .ok (.iconst 0, 1) := by decide +kernel
theorem dX9_meetsAnother_45 : decode cX9_meetsAnother 45 = .ok (.istore 7, 2) := by decide +kernel
theorem dX9_meetsAnother_47 : decode cX9_meetsAnother 47 = .ok (.iload 7, 2) := by decide +kernel
theorem dX9_meetsAnother_49 : decode cX9_meetsAnother 49 = .ok (.aload_n 0, 1) := by decide +kernel
theorem dX9_meetsAnother_50 : decode cX9_meetsAnother 50 = .ok (.getfield 81, 3) := by decide +kernel
theorem dX9_meetsAnother_53 : decode cX9_meetsAnother 53 = .ok (.if_icmp .ge 34, 3) := by decide +kernel
theorem dX9_meetsAnother_56 : decode cX9_meetsAnother 56 = .ok (.iload 7, 2) := by decide +kernel
theorem dX9_meetsAnother_58 : decode cX9_meetsAnother 58 = .ok (.iload_n 1, 1) := by decide +kernel
theorem dX9_meetsAnother_59 : decode cX9_meetsAnother 59 = .ok (.if_icmp .eq 22, 3) := by decide +kernel
theorem dX9_meetsAnother_62 : decode cX9_meetsAnother 62 = .ok (.aload_n 0, 1) := by decide +kernel
theorem dX9_meetsAnother_63 : decode cX9_meetsAnother 63 = .ok (.getfield 46, 3) := by decide +kernel
theorem dX9_meetsAnother_66 : decode cX9_meetsAnother 66 = .ok (.iload 7, 2) := by decide +kernel
theorem dX9_meetsAnother_68 : decode cX9_meetsAnother 68 = .ok (.aaload, 1) := by decide +kernel
theorem dX9_meetsAnother_69 : decode cX9_meetsAnother 69 = .ok (.iload 5, 2) := by decide +kernel
theorem dX9_meetsAnother_71 : decode cX9_meetsAnother 71 = .ok (.iload 6, 2) := by decide +kernel
theorem dX9_meetsAnother_73 : decode cX9_meetsAnother 73 = .ok (.invokevirtual 403, 3) := by decide +kernel
theorem dX9_meetsAnother_76 : decode cX9_meetsAnother 76 = .ok (.ifCond .eq 5, 3) := by decide +kernel
theorem dX9_meetsAnother_79 : decode cX9_meetsAnother 79 = .ok (.iconst 1, 1) := by decide +kernel
theorem dX9_meetsAnother_80 : decode cX9_meetsAnother 80 = .ok (.ireturn, 1) := by decide +kernel
theorem dX9_meetsAnother_81 : decode cX9_meetsAnother 81 = .ok (.iinc 7 1, 3) := by decide +kernel
theorem dX9_meetsAnother_84 : decode cX9_meetsAnother 84 = .ok (.goto (-37), 3) := by decide +kernel
theorem dX9_meetsAnother_87 : decode cX9_meetsAnother 87 = .ok (.iinc 5 1, 3) := by decide +kernel
theorem dX9_meetsAnother_90 : decode cX9_meetsAnother 90 = .ok (.goto (-84), 3) := by decide +kernel
theorem dX9_meetsAnother_93 : decode cX9_meetsAnother 93 = .ok (.iconst 0, 1) := by decide +kernel
theorem dX9_meetsAnother_94 : decode cX9_meetsAnother 94 = .ok (.ireturn, 1) := by decide +kernel
theorem dX9_waysToMeet_0 : decode cX9_waysToMeet 0 = .ok (.iconst 0, 1) := by decide +kernel
theorem dX9_waysToMeet_1 : decode cX9_waysToMeet 1 = .ok (.istore_n 3, 1) := by decide +kernel
theorem dX9_waysToMeet_2 : decode cX9_waysToMeet 2 = .ok (.iconst 0, 1) := by decide +kernel
theorem dX9_waysToMeet_3 : decode cX9_waysToMeet 3 = .ok (.istore 4, 2) := by decide +kernel
theorem dX9_waysToMeet_5 : decode cX9_waysToMeet 5 = .ok (.iload 4, 2) := by decide +kernel
theorem dX9_waysToMeet_7 : decode cX9_waysToMeet 7 = .ok (.bipush 8, 2) := by decide +kernel
theorem dX9_waysToMeet_9 : decode cX9_waysToMeet 9 = .ok (.if_icmp .ge 61, 3) := by decide +kernel
theorem dX9_waysToMeet_12 : decode cX9_waysToMeet 12 = .ok (.aload_n 0, 1) := by decide +kernel
theorem dX9_waysToMeet_13 : decode cX9_waysToMeet 13 = .ok (.getfield 10, 3) := by decide +kernel
theorem dX9_waysToMeet_16 : decode cX9_waysToMeet 16 = .ok (.aload_n 1, 1) := by decide +kernel
theorem dX9_waysToMeet_17 : decode cX9_waysToMeet 17 = .ok (.getfield 176, 3) := by decide +kernel
theorem dX9_waysToMeet_20 : decode cX9_waysToMeet 20 = .ok (.aload_n 1, 1) := by decide +kernel
theorem dX9_waysToMeet_21 : decode cX9_waysToMeet 21 = .ok (.getfield 179, 3) := by decide +kernel
theorem dX9_waysToMeet_24 : decode cX9_waysToMeet 24 = .ok (.aload_n 0, 1) := by decide +kernel
theorem dX9_waysToMeet_25 : decode cX9_waysToMeet 25 = .ok (.getfield 77, 3) := by decide +kernel
theorem dX9_waysToMeet_28 : decode cX9_waysToMeet 28 = .ok (.iload 4, 2) := by decide +kernel
theorem dX9_waysToMeet_30 : decode cX9_waysToMeet 30 = .ok (.invokevirtual 409, 3) := by decide +kernel
theorem dX9_waysToMeet_33 : decode cX9_waysToMeet 33 = .ok (.aload_n 0, 1) := by decide +kernel
theorem dX9_waysToMeet_34 : decode cX9_waysToMeet 34 = .ok (.getfield 10, 3) := by decide +kernel
theorem dX9_waysToMeet_37 : decode cX9_waysToMeet 37 = .ok (.aload_n 2, 1) := by decide +kernel
theorem dX9_waysToMeet_38 : decode cX9_waysToMeet 38 = .ok (.getfield 176, 3) := by decide +kernel
theorem dX9_waysToMeet_41 : decode cX9_waysToMeet 41 = .ok (.aload_n 2, 1) := by decide +kernel
theorem dX9_waysToMeet_42 : decode cX9_waysToMeet 42 = .ok (.getfield 179, 3) := by decide +kernel
theorem dX9_waysToMeet_45 : decode cX9_waysToMeet 45 = .ok (.aload_n 0, 1) := by decide +kernel
theorem dX9_waysToMeet_46 : decode cX9_waysToMeet 46 = .ok (.getfield 77, 3) := by decide +kernel
theorem dX9_waysToMeet_49 : decode cX9_waysToMeet 49 = .ok (.iload 4, 2) := by decide +kernel
theorem dX9_waysToMeet_51 : decode cX9_waysToMeet 51 = .ok (.invokevirtual 409, 3) := by decide +kernel
theorem dX9_waysToMeet_54 : decode cX9_waysToMeet 54 = .ok (.if_icmp .ne 10, 3) := by decide +kernel
theorem dX9_waysToMeet_57 : decode cX9_waysToMeet 57 = .ok (.iload_n 3, 1) := by decide +kernel
theorem dX9_waysToMeet_58 : decode cX9_waysToMeet 58 = .ok (.iconst 1, 1) := by decide +kernel
theorem dX9_waysToMeet_59 : decode cX9_waysToMeet 59 = .ok (.iload 4, 2) := by decide +kernel
theorem dX9_waysToMeet_61 : decode cX9_waysToMeet 61 = .ok (.ishl, 1) := by decide +kernel
theorem dX9_waysToMeet_62 : decode cX9_waysToMeet 62 = .ok (.ior, 1) := by decide +kernel
theorem dX9_waysToMeet_63 : decode cX9_waysToMeet 63 = .ok (.istore_n 3, 1) := by decide +kernel
theorem dX9_waysToMeet_64 : decode cX9_waysToMeet 64 = .ok (.iinc 4 1, 3) := by decide +kernel
theorem dX9_waysToMeet_67 : decode cX9_waysToMeet 67 = .ok (.goto (-62), 3) := by decide +kernel
theorem dX9_waysToMeet_70 : decode cX9_waysToMeet 70 = .ok (.iload_n 3, 1) := by decide +kernel
theorem dX9_waysToMeet_71 : decode cX9_waysToMeet 71 = .ok (.ireturn, 1) := by decide +kernel
theorem dX9_sideOf_0 : decode cX9_sideOf 0 = .ok (.iload_n 0, 1) := by decide +kernel
theorem dX9_sideOf_1 : decode cX9_sideOf 1 = .ok (.bipush 10, 2) := by decide +kernel
theorem dX9_sideOf_3 : decode cX9_sideOf 3 = .ok (.irem, 1) := by decide +kernel
theorem dX9_sideOf_4 : decode cX9_sideOf 4 = .ok (.istore_n 3, 1) := by decide +kernel
theorem dX9_sideOf_5 : decode cX9_sideOf 5 = .ok (.iload_n 0, 1) := by decide +kernel
theorem dX9_sideOf_6 : decode cX9_sideOf 6 = .ok (.bipush 10, 2) := by decide +kernel
theorem dX9_sideOf_8 : decode cX9_sideOf 8 = .ok (.idiv, 1) := by decide +kernel
theorem dX9_sideOf_9 : decode cX9_sideOf 9 = .ok (.istore 4, 2) := by decide +kernel
theorem dX9_sideOf_11 : decode cX9_sideOf 11 = .ok (.iload_n 1, 1) := by decide +kernel
theorem dX9_sideOf_12 : decode cX9_sideOf 12 = .ok (.bipush 10, 2) := by decide +kernel
theorem dX9_sideOf_14 : decode cX9_sideOf 14 = .ok (.irem, 1) := by decide +kernel
theorem dX9_sideOf_15 : decode cX9_sideOf 15 = .ok (.iload_n 3, 1) := by decide +kernel
theorem dX9_sideOf_16 : decode cX9_sideOf 16 = .ok (.isub, 1) := by decide +kernel
theorem dX9_sideOf_17 : decode cX9_sideOf 17 = .ok (.iload_n 2, 1) := by decide +kernel
theorem dX9_sideOf_18 : decode cX9_sideOf 18 = .ok (.bipush 10, 2) := by decide +kernel
theorem dX9_sideOf_20 : decode cX9_sideOf 20 = .ok (.idiv, 1) := by decide +kernel
theorem dX9_sideOf_21 : decode cX9_sideOf 21 = .ok (.iload 4, 2) := by decide +kernel
theorem dX9_sideOf_23 : decode cX9_sideOf 23 = .ok (.isub, 1) := by decide +kernel
theorem dX9_sideOf_24 : decode cX9_sideOf 24 = .ok (.imul, 1) := by decide +kernel
theorem dX9_sideOf_25 : decode cX9_sideOf 25 = .ok (.iload_n 1, 1) := by decide +kernel
theorem dX9_sideOf_26 : decode cX9_sideOf 26 = .ok (.bipush 10, 2) := by decide +kernel
theorem dX9_sideOf_28 : decode cX9_sideOf 28 = .ok (.idiv, 1) := by decide +kernel
theorem dX9_sideOf_29 : decode cX9_sideOf 29 = .ok (.iload 4, 2) := by decide +kernel
theorem dX9_sideOf_31 : decode cX9_sideOf 31 = .ok (.isub, 1) := by decide +kernel
theorem dX9_sideOf_32 : decode cX9_sideOf 32 = .ok (.iload_n 2, 1) := by decide +kernel
theorem dX9_sideOf_33 : decode cX9_sideOf 33 = .ok (.bipush 10, 2) := by decide +kernel
theorem dX9_sideOf_35 : decode cX9_sideOf 35 = .ok (.irem, 1) := by decide +kernel
theorem dX9_sideOf_36 : decode cX9_sideOf 36 = .ok (.iload_n 3, 1) := by decide +kernel
theorem dX9_sideOf_37 : decode cX9_sideOf 37 = .ok (.isub, 1) := by decide +kernel
theorem dX9_sideOf_38 : decode cX9_sideOf 38 = .ok (.imul, 1) := by decide +kernel
theorem dX9_sideOf_39 : decode cX9_sideOf 39 = .ok (.isub, 1) := by decide +kernel
theorem dX9_sideOf_40 : decode cX9_sideOf 40 = .ok (.ireturn, 1) := by decide +kernel
theorem dX9_leastDue_0 : decode cX9_leastDue 0 = .ok (.iload 5, 2) := by decide +kernel
theorem dX9_leastDue_2 : decode cX9_leastDue 2 = .ok (.iload 6, 2) := by decide +kernel
theorem dX9_leastDue_4 : decode cX9_leastDue 4 = .ok (.if_icmp .lt 5, 3) := by decide +kernel
theorem dX9_leastDue_7 : decode cX9_leastDue 7 = .ok (.iconst 0, 1) := by decide +kernel
theorem dX9_leastDue_8 : decode cX9_leastDue 8 = .ok (.ireturn, 1) := by decide +kernel
theorem dX9_leastDue_9 : decode cX9_leastDue 9 = .ok (.aload_n 0, 1) := by decide +kernel
theorem dX9_leastDue_10 : decode cX9_leastDue 10 = .ok (.iconst 0, 1) := by decide +kernel
theorem dX9_leastDue_11 : decode cX9_leastDue 11 = .ok (.aload_n 1, 1) := by decide +kernel
theorem dX9_leastDue_12 : decode cX9_leastDue 12 = .ok (.iload_n 2, 1) := by decide +kernel
theorem dX9_leastDue_13 : decode cX9_leastDue 13 = .ok (.iload_n 3, 1) := by decide +kernel
theorem dX9_leastDue_14 : decode cX9_leastDue 14 = .ok (.iload 4, 2) := by decide +kernel
theorem dX9_leastDue_16 : decode cX9_leastDue 16 = .ok (.iload 5, 2) := by decide +kernel
theorem dX9_leastDue_18 : decode cX9_leastDue 18 = .ok (.iload 6, 2) := by decide +kernel
theorem dX9_leastDue_20 : decode cX9_leastDue 20 = .ok (.invokevirtual 271, 3) := by decide +kernel
theorem dX9_leastDue_23 : decode cX9_leastDue 23 = .ok (.istore 7, 2) := by decide +kernel
theorem dX9_leastDue_25 : decode cX9_leastDue 25 = .ok (.iconst 1, 1) := by decide +kernel
theorem dX9_leastDue_26 : decode cX9_leastDue 26 = .ok (.istore 8, 2) := by decide +kernel
theorem dX9_leastDue_28 : decode cX9_leastDue 28 = .ok (.iload 8, 2) := by decide +kernel
theorem dX9_leastDue_30 : decode cX9_leastDue 30 = .ok (.iconst 5, 1) := by decide +kernel
theorem dX9_leastDue_31 : decode cX9_leastDue 31 = .ok (.if_icmp .ge 31, 3) := by decide +kernel
theorem dX9_leastDue_34 : decode cX9_leastDue 34 = .ok (.iload 7, 2) := by decide +kernel
theorem dX9_leastDue_36 : decode cX9_leastDue 36 = .ok (.aload_n 0, 1) := by decide +kernel
theorem dX9_leastDue_37 : decode cX9_leastDue 37 = .ok (.iload 8, 2) := by decide +kernel
theorem dX9_leastDue_39 : decode cX9_leastDue 39 = .ok (.aload_n 1, 1) := by decide +kernel
theorem dX9_leastDue_40 : decode cX9_leastDue 40 = .ok (.iload_n 2, 1) := by decide +kernel
theorem dX9_leastDue_41 : decode cX9_leastDue 41 = .ok (.iload_n 3, 1) := by decide +kernel
theorem dX9_leastDue_42 : decode cX9_leastDue 42 = .ok (.iload 4, 2) := by decide +kernel
theorem dX9_leastDue_44 : decode cX9_leastDue 44 = .ok (.iload 5, 2) := by decide +kernel
theorem dX9_leastDue_46 : decode cX9_leastDue 46 = .ok (.iload 6, 2) := by decide +kernel
theorem dX9_leastDue_48 : decode cX9_leastDue 48 = .ok (.invokevirtual 271, 3) := by decide +kernel
theorem dX9_leastDue_51 : decode cX9_leastDue 51 = .ok (.invokestatic 137, 3) := by decide +kernel
theorem dX9_leastDue_54 : decode cX9_leastDue 54 = .ok (.istore 7, 2) := by decide +kernel
theorem dX9_leastDue_56 : decode cX9_leastDue 56 = .ok (.iinc 8 1, 3) := by decide +kernel
theorem dX9_leastDue_59 : decode cX9_leastDue 59 = .ok (.goto (-31), 3) := by decide +kernel
theorem dX9_leastDue_62 : decode cX9_leastDue 62 = .ok (.iload 7, 2) := by decide +kernel
theorem dX9_leastDue_64 : decode cX9_leastDue 64 = .ok (.ireturn, 1) := by decide +kernel
theorem dX9_dueWith_0 : decode cX9_dueWith 0 = .ok (.getstatic 412, 3) := by decide +kernel
theorem dX9_dueWith_3 : decode cX9_dueWith 3 = .ok (.iload_n 1, 1) := by decide +kernel
theorem dX9_dueWith_4 : decode cX9_dueWith 4 = .ok (.iaload, 1) := by decide +kernel
theorem dX9_dueWith_5 : decode cX9_dueWith 5 = .ok (.istore 8, 2) := by decide +kernel
theorem dX9_dueWith_7 : decode cX9_dueWith 7 = .ok (.iload_n 1, 1) := by decide +kernel
theorem dX9_dueWith_8 : decode cX9_dueWith 8 = .ok (.iconst 4, 1) := by decide +kernel
theorem dX9_dueWith_9 : decode cX9_dueWith 9 = .ok (.if_icmp .eq 10, 3) := by decide +kernel
theorem dX9_dueWith_12 : decode cX9_dueWith 12 = .ok (.iload 6, 2) := by decide +kernel
theorem dX9_dueWith_14 : decode cX9_dueWith 14 = .ok (.iload 7, 2) := by decide +kernel
theorem dX9_dueWith_16 : decode cX9_dueWith 16 = .ok (.if_icmp .lt 6, 3) := by decide +kernel
theorem dX9_dueWith_19 : decode cX9_dueWith 19 = .ok (.iload 8, 2) := by decide +kernel
theorem dX9_dueWith_21 : decode cX9_dueWith 21 = .ok (.ireturn, 1) := by decide +kernel
theorem dX9_dueWith_22 : decode cX9_dueWith 22 = .ok (.iload_n 1, 1) := by decide +kernel
theorem dX9_dueWith_23 : decode cX9_dueWith 23 = .ok (.iconst 1, 1) := by decide +kernel
theorem dX9_dueWith_24 : decode cX9_dueWith 24 = .ok (.if_icmp .ne 15, 3) := by decide +kernel
theorem dX9_dueWith_27 : decode cX9_dueWith 27 = .ok (.bipush 40, 2) := by decide +kernel
theorem dX9_dueWith_29 : decode cX9_dueWith 29 = .ok (.iload 4, 2) := by decide +kernel
theorem dX9_dueWith_31 : decode cX9_dueWith 31 = .ok (.iconst 5, 1) := by decide +kernel
theorem dX9_dueWith_32 : decode cX9_dueWith 32 = .ok (.iadd, 1) := by decide +kernel
theorem dX9_dueWith_33 : decode cX9_dueWith 33 = .ok (.invokestatic 137, 3) := by decide +kernel
theorem dX9_dueWith_36 : decode cX9_dueWith 36 = .ok (.goto 5, 3) := by decide +kernel
theorem dX9_dueWith_39 : decode cX9_dueWith 39 = .ok (.iload 4, 2) := by decide +kernel
theorem dX9_dueWith_41 : decode cX9_dueWith 41 = .ok (.istore 9, 2) := by decide +kernel
theorem dX9_dueWith_43 : decode cX9_dueWith 43 = .ok (.iload_n 1, 1) := by decide +kernel
theorem dX9_dueWith_44 : decode cX9_dueWith 44 = .ok (.iconst 3, 1) := by decide +kernel
theorem dX9_dueWith_45 : decode cX9_dueWith 45 = .ok (.if_icmp .ne 11, 3) := by decide +kernel
theorem dX9_dueWith_48 : decode cX9_dueWith 48 = .ok (.iload 5, 2) := by decide +kernel
theorem dX9_dueWith_50 : decode cX9_dueWith 50 = .ok (.bipush 50, 2) := by decide +kernel
theorem dX9_dueWith_52 : decode cX9_dueWith 52 = .ok (.iadd, 1) := by decide +kernel
theorem dX9_dueWith_53 : decode cX9_dueWith 53 = .ok (.goto 5, 3) := by decide +kernel
theorem dX9_dueWith_56 : decode cX9_dueWith 56 = .ok (.iload 5, 2) := by decide +kernel
theorem dX9_dueWith_58 : decode cX9_dueWith 58 = .ok (.istore 10, 2) := by decide +kernel
theorem dX9_dueWith_60 : decode cX9_dueWith 60 = .ok (.iload_n 1, 1) := by decide +kernel
theorem dX9_dueWith_61 : decode cX9_dueWith 61 = .ok (.iconst 2, 1) := by decide +kernel
theorem dX9_dueWith_62 : decode cX9_dueWith 62 = .ok (.if_icmp .ne 8, 3) := by decide +kernel
theorem dX9_dueWith_65 : decode cX9_dueWith 65 = .ok (.bipush 40, 2) := by decide +kernel
theorem dX9_dueWith_67 : decode cX9_dueWith 67 = .ok (.goto 4, 3) := by decide +kernel
theorem dX9_dueWith_70 : decode cX9_dueWith 70 = .ok (.iconst 0, 1) := by decide +kernel
theorem dX9_dueWith_71 : decode cX9_dueWith 71 = .ok (.istore 11, 2) := by decide +kernel
theorem dX9_dueWith_73 : decode cX9_dueWith 73 = .ok (.aload_n 0, 1) := by decide +kernel
theorem dX9_dueWith_74 : decode cX9_dueWith 74 = .ok (.getfield 34, 3) := by decide +kernel
theorem dX9_dueWith_77 : decode cX9_dueWith 77 = .ok (.aload_n 2, 1) := by decide +kernel
theorem dX9_dueWith_78 : decode cX9_dueWith 78 = .ok (.iload_n 3, 1) := by decide +kernel
theorem dX9_dueWith_79 : decode cX9_dueWith 79 = .ok (.iload 9, 2) := by decide +kernel
theorem dX9_dueWith_81 : decode cX9_dueWith 81 = .ok (.iload 6, 2) := by decide +kernel
theorem dX9_dueWith_83 : decode cX9_dueWith 83 = .ok (.iload 11, 2) := by decide +kernel
theorem dX9_dueWith_85 : decode cX9_dueWith 85 = .ok (.iload 10, 2) := by decide +kernel
theorem dX9_dueWith_87 : decode cX9_dueWith 87 = .ok (.invokevirtual 399, 3) := by decide +kernel
theorem dX9_dueWith_90 : decode cX9_dueWith 90 = .ok (.ifCond .ne 23, 3) := by decide +kernel
theorem dX9_dueWith_93 : decode cX9_dueWith 93 = .ok (.iload 8, 2) := by decide +kernel
theorem dX9_dueWith_95 : decode cX9_dueWith 95 = .ok (.aload_n 0, 1) := by decide +kernel
theorem dX9_dueWith_96 : decode cX9_dueWith 96 = .ok (.aload_n 2, 1) := by decide +kernel
theorem dX9_dueWith_97 : decode cX9_dueWith 97 = .ok (.iload_n 3, 1) := by decide +kernel
theorem dX9_dueWith_98 : decode cX9_dueWith 98 = .ok (.iload 9, 2) := by decide +kernel
theorem dX9_dueWith_100 : decode cX9_dueWith 100 = .ok (.iload 10, 2) := by decide +kernel
theorem dX9_dueWith_102 : decode cX9_dueWith 102 = .ok (.iload 6, 2) := by decide +kernel
theorem dX9_dueWith_104 : decode cX9_dueWith 104 = .ok (.iconst 1, 1) := by decide +kernel
theorem dX9_dueWith_105 : decode cX9_dueWith 105 = .ok (.iadd, 1) := by decide +kernel
theorem dX9_dueWith_106 : decode cX9_dueWith 106 = .ok (.iload 7, 2) := by decide +kernel
theorem dX9_dueWith_108 : decode cX9_dueWith 108 = .ok (.invokevirtual 415, 3) := by decide +kernel
theorem dX9_dueWith_111 : decode cX9_dueWith 111 = .ok (.iadd, 1) := by decide +kernel
theorem dX9_dueWith_112 : decode cX9_dueWith 112 = .ok (.ireturn, 1) := by decide +kernel
theorem dX9_dueWith_113 : decode cX9_dueWith 113 = .ok (.aload_n 0, 1) := by decide +kernel
theorem dX9_dueWith_114 : decode cX9_dueWith 114 = .ok (.getfield 10, 3) := by decide +kernel
theorem dX9_dueWith_117 : decode cX9_dueWith 117 = .ok (.iload_n 3, 1) := by decide +kernel
theorem dX9_dueWith_118 : decode cX9_dueWith 118 = .ok (.iload 6, 2) := by decide +kernel
theorem dX9_dueWith_120 : decode cX9_dueWith 120 = .ok (.invokevirtual 419, 3) := by decide +kernel
theorem dX9_dueWith_123 : decode cX9_dueWith 123 = .ok (.istore 12, 2) := by decide +kernel
theorem dX9_dueWith_125 : decode cX9_dueWith 125 = .ok (.iload 12, 2) := by decide +kernel
theorem dX9_dueWith_127 : decode cX9_dueWith 127 = .ok (.iconst (-1), 1) := by decide +kernel
theorem dX9_dueWith_128 : decode cX9_dueWith 128 = .ok (.if_icmp .ne 9, 3) := by decide +kernel
theorem dX9_dueWith_131 : decode cX9_dueWith 131 = .ok (.iload 8, 2) := by decide +kernel
theorem dX9_dueWith_133 : decode cX9_dueWith 133 = .ok (.bipush 50, 2) := by decide +kernel
theorem dX9_dueWith_135 : decode cX9_dueWith 135 = .ok (.iadd, 1) := by decide +kernel
theorem dX9_dueWith_136 : decode cX9_dueWith 136 = .ok (.ireturn, 1) := by decide +kernel
theorem dX9_dueWith_137 : decode cX9_dueWith 137 = .ok (.iload 8, 2) := by decide +kernel
theorem dX9_dueWith_139 : decode cX9_dueWith 139 = .ok (.iconst 5, 1) := by decide +kernel
theorem dX9_dueWith_140 : decode cX9_dueWith 140 = .ok (.iadd, 1) := by decide +kernel
theorem dX9_dueWith_141 : decode cX9_dueWith 141 = .ok (.aload_n 0, 1) := by decide +kernel
theorem dX9_dueWith_142 : decode cX9_dueWith 142 = .ok (.aload_n 2, 1) := by decide +kernel
theorem dX9_dueWith_143 : decode cX9_dueWith 143 = .ok (.iload 12, 2) := by decide +kernel
theorem dX9_dueWith_145 : decode cX9_dueWith 145 = .ok (.iload 9, 2) := by decide +kernel
theorem dX9_dueWith_147 : decode cX9_dueWith 147 = .ok (.iload 10, 2) := by decide +kernel
theorem dX9_dueWith_149 : decode cX9_dueWith 149 = .ok (.iload 6, 2) := by decide +kernel
theorem dX9_dueWith_151 : decode cX9_dueWith 151 = .ok (.iconst 1, 1) := by decide +kernel
theorem dX9_dueWith_152 : decode cX9_dueWith 152 = .ok (.iadd, 1) := by decide +kernel
theorem dX9_dueWith_153 : decode cX9_dueWith 153 = .ok (.iload 7, 2) := by decide +kernel
theorem dX9_dueWith_155 : decode cX9_dueWith 155 = .ok (.invokevirtual 415, 3) := by decide +kernel
theorem dX9_dueWith_158 : decode cX9_dueWith 158 = .ok (.iadd, 1) := by decide +kernel
theorem dX9_dueWith_159 : decode cX9_dueWith 159 = .ok (.ireturn, 1) := by decide +kernel
theorem dX9_borneByEach_0 : decode cX9_borneByEach 0 = .ok (.aload_n 0, 1) := by decide +kernel
theorem dX9_borneByEach_1 : decode cX9_borneByEach 1 = .ok (.getfield 34, 3) := by decide +kernel
theorem dX9_borneByEach_4 : decode cX9_borneByEach 4 = .ok (.aload_n 1, 1) := by decide +kernel
theorem dX9_borneByEach_5 : decode cX9_borneByEach 5 = .ok (.aload_n 1, 1) := by decide +kernel
theorem dX9_borneByEach_6 : decode cX9_borneByEach 6 = .ok (.getfield 176, 3) := by decide +kernel
theorem dX9_borneByEach_9 : decode cX9_borneByEach 9 = .ok (.aload_n 1, 1) := by decide +kernel
theorem dX9_borneByEach_10 : decode cX9_borneByEach 10 = .ok (.getfield 179, 3) := by decide +kernel
theorem dX9_borneByEach_13 : decode cX9_borneByEach 13 = .ok (.iload_n 2, 1) := by decide +kernel
theorem dX9_borneByEach_14 : decode cX9_borneByEach 14 = .ok (.invokevirtual 201, 3) := by decide +kernel
theorem dX9_borneByEach_17 : decode cX9_borneByEach 17 = .ok (.getstatic 422, 3) := by decide +kernel
theorem dX9_borneByEach_20 : decode cX9_borneByEach 20 = .ok (.iload_n 3, 1) := by decide +kernel
theorem dX9_borneByEach_21 : decode cX9_borneByEach 21 = .ok (.iaload, 1) := by decide +kernel
theorem dX9_borneByEach_22 : decode cX9_borneByEach 22 = .ok (.imul, 1) := by decide +kernel
theorem dX9_borneByEach_23 : decode cX9_borneByEach 23 = .ok (.bipush 100, 2) := by decide +kernel
theorem dX9_borneByEach_25 : decode cX9_borneByEach 25 = .ok (.idiv, 1) := by decide +kernel
theorem dX9_borneByEach_26 : decode cX9_borneByEach 26 = .ok (.ireturn, 1) := by decide +kernel
theorem dX9_twoHold_0 : decode cX9_twoHold 0 = .ok (.aload_n 0, 1) := by decide +kernel
theorem dX9_twoHold_1 : decode cX9_twoHold 1 = .ok (.aload_n 1, 1) := by decide +kernel
theorem dX9_twoHold_2 : decode cX9_twoHold 2 = .ok (.iload_n 2, 1) := by decide +kernel
theorem dX9_twoHold_3 : decode cX9_twoHold 3 = .ok (.iload_n 3, 1) := by decide +kernel
theorem dX9_twoHold_4 : decode cX9_twoHold 4 = .ok (.invokevirtual 275, 3) := by decide +kernel
theorem dX9_twoHold_7 : decode cX9_twoHold 7 = .ok (.aload_n 0, 1) := by decide +kernel
theorem dX9_twoHold_8 : decode cX9_twoHold 8 = .ok (.getfield 34, 3) := by decide +kernel
theorem dX9_twoHold_11 : decode cX9_twoHold 11 = .ok (.aload_n 1, 1) := by decide +kernel
theorem dX9_twoHold_12 : decode cX9_twoHold 12 = .ok (.aload_n 1, 1) := by decide +kernel
theorem dX9_twoHold_13 : decode cX9_twoHold 13 = .ok (.getfield 176, 3) := by decide +kernel
theorem dX9_twoHold_16 : decode cX9_twoHold 16 = .ok (.aload_n 1, 1) := by decide +kernel
theorem dX9_twoHold_17 : decode cX9_twoHold 17 = .ok (.getfield 179, 3) := by decide +kernel
theorem dX9_twoHold_20 : decode cX9_twoHold 20 = .ok (.iload_n 2, 1) := by decide +kernel
theorem dX9_twoHold_21 : decode cX9_twoHold 21 = .ok (.invokevirtual 205, 3) := by decide +kernel
theorem dX9_twoHold_24 : decode cX9_twoHold 24 = .ok (.if_icmp .gt 7, 3) := by decide +kernel
theorem dX9_twoHold_27 : decode cX9_twoHold 27 = .ok (.iconst 1, 1) := by decide +kernel
theorem dX9_twoHold_28 : decode cX9_twoHold 28 = .ok (.goto 4, 3) := by decide +kernel
theorem dX9_twoHold_31 : decode cX9_twoHold 31 = .ok (.iconst 0, 1) := by decide +kernel
theorem dX9_twoHold_32 : decode cX9_twoHold 32 = .ok (.ireturn, 1) := by decide +kernel
theorem dX9_twoHoldAll_0 : decode cX9_twoHoldAll 0 = .ok (.aload_n 0, 1) := by decide +kernel
theorem dX9_twoHoldAll_1 : decode cX9_twoHoldAll 1 = .ok (.getfield 77, 3) := by decide +kernel
theorem dX9_twoHoldAll_4 : decode cX9_twoHoldAll 4 = .ok (.istore 4, 2) := by decide +kernel
theorem dX9_twoHoldAll_6 : decode cX9_twoHoldAll 6 = .ok (.iload 4, 2) := by decide +kernel
theorem dX9_twoHoldAll_8 : decode cX9_twoHoldAll 8 = .ok (.aload_n 0, 1) := by decide +kernel
theorem dX9_twoHoldAll_9 : decode cX9_twoHoldAll 9 = .ok (.getfield 77, 3) := by decide +kernel
theorem dX9_twoHoldAll_12 : decode cX9_twoHoldAll 12 = .ok (.iload_n 2, 1) := by decide +kernel
theorem dX9_twoHoldAll_13 : decode cX9_twoHoldAll 13 = .ok (.iadd, 1) := by decide +kernel
theorem dX9_twoHoldAll_14 : decode cX9_twoHoldAll 14 = .ok (.if_icmp .ge 22, 3) := by decide +kernel
theorem dX9_twoHoldAll_17 : decode cX9_twoHoldAll 17 = .ok (.aload_n 0, 1) := by decide +kernel
theorem dX9_twoHoldAll_18 : decode cX9_twoHoldAll 18 = .ok (.aload_n 1, 1) := by decide +kernel
theorem dX9_twoHoldAll_19 : decode cX9_twoHoldAll 19 = .ok (.iload 4, 2) := by decide +kernel
theorem dX9_twoHoldAll_21 : decode cX9_twoHoldAll 21 = .ok (.iload_n 3, 1) := by decide +kernel
theorem dX9_twoHoldAll_22 : decode cX9_twoHoldAll 22 = .ok (.invokevirtual 279, 3) := by decide +kernel
theorem dX9_twoHoldAll_25 : decode cX9_twoHoldAll 25 = .ok (.ifCond .ne 5, 3) := by decide +kernel
theorem dX9_twoHoldAll_28 : decode cX9_twoHoldAll 28 = .ok (.iconst 0, 1) := by decide +kernel
theorem dX9_twoHoldAll_29 : decode cX9_twoHoldAll 29 = .ok (.ireturn, 1) := by decide +kernel
theorem dX9_twoHoldAll_30 : decode cX9_twoHoldAll 30 = .ok (.iinc 4 1, 3) := by decide +kernel
theorem dX9_twoHoldAll_33 : decode cX9_twoHoldAll 33 = .ok (.goto (-27), 3) := by decide +kernel
theorem dX9_twoHoldAll_36 : decode cX9_twoHoldAll 36 = .ok (.iconst 1, 1) := by decide +kernel
theorem dX9_twoHoldAll_37 : decode cX9_twoHoldAll 37 = .ok (.ireturn, 1) := by decide +kernel
theorem dX9_filmRefusal_0 : decode cX9_filmRefusal 0 = .ok (.aload_n 1, 1) := by decide +kernel
theorem dX9_filmRefusal_1 : decode cX9_filmRefusal 1 = .ok (.ifnonnull 6, 3) := by decide +kernel
theorem dX9_filmRefusal_4 : decode cX9_filmRefusal 4 = .ok (.bipush (-2), 2) := by decide +kernel
theorem dX9_filmRefusal_6 : decode cX9_filmRefusal 6 = .ok (.ireturn, 1) := by decide +kernel
theorem dX9_filmRefusal_7 : decode cX9_filmRefusal 7 = .ok (.aload_n 1, 1) := by decide +kernel
theorem dX9_filmRefusal_8 : decode cX9_filmRefusal 8 = .ok (.invokevirtual 370, 3) := by decide +kernel
theorem dX9_filmRefusal_11 : decode cX9_filmRefusal 11 = .ok (.ifCond .eq 6, 3) := by decide +kernel
theorem dX9_filmRefusal_14 : decode cX9_filmRefusal 14 = .ok (.bipush (-11), 2) := by decide +kernel
theorem dX9_filmRefusal_16 : decode cX9_filmRefusal 16 = .ok (.ireturn, 1) := by decide +kernel
theorem dX9_filmRefusal_17 : decode cX9_filmRefusal 17 = .ok (.aload_n 1, 1) := by decide +kernel
theorem dX9_filmRefusal_18 : decode cX9_filmRefusal 18 = .ok (.getfield 373, 3) := by decide +kernel
theorem dX9_filmRefusal_21 : decode cX9_filmRefusal 21 = .ok (.iconst 1, 1) := by decide +kernel
theorem dX9_filmRefusal_22 : decode cX9_filmRefusal 22 = .ok (.bipush 12, 2) := by decide +kernel
theorem dX9_filmRefusal_24 : decode cX9_filmRefusal 24 = .ok (.aload_n 0, 1) := by decide +kernel
theorem dX9_filmRefusal_25 : decode cX9_filmRefusal 25 = .ok (.getfield 77, 3) := by decide +kernel
theorem dX9_filmRefusal_28 : decode cX9_filmRefusal 28 = .ok (.isub, 1) := by decide +kernel
theorem dX9_filmRefusal_29 : decode cX9_filmRefusal 29 = .ok (.invokestatic 133, 3) := by decide +kernel
theorem dX9_filmRefusal_32 : decode cX9_filmRefusal 32 = .ok (.ifCond .eq 7, 3) := by decide +kernel
theorem dX9_filmRefusal_35 : decode cX9_filmRefusal 35 = .ok (.iconst 0, 1) := by decide +kernel
theorem dX9_filmRefusal_36 : decode cX9_filmRefusal 36 = .ok (.goto 5, 3) := by decide +kernel
theorem dX9_filmRefusal_39 : decode cX9_filmRefusal 39 = .ok (.bipush (-2), 2) := by decide +kernel
theorem dX9_filmRefusal_41 : decode cX9_filmRefusal 41 = .ok (.ireturn, 1) := by decide +kernel
theorem dX9_firstElsewhere_0 : decode cX9_firstElsewhere 0 = .ok (.aload_n 0, 1) := by decide +kernel
theorem dX9_firstElsewhere_1 : decode cX9_firstElsewhere 1 = .ok (.getfield 46, 3) := by decide +kernel
theorem dX9_firstElsewhere_4 : decode cX9_firstElsewhere 4 = .ok (.iload_n 1, 1) := by decide +kernel
theorem dX9_firstElsewhere_5 : decode cX9_firstElsewhere 5 = .ok (.aaload, 1) := by decide +kernel
theorem dX9_firstElsewhere_6 : decode cX9_firstElsewhere 6 = .ok (.astore 4, 2) := by decide +kernel
theorem dX9_firstElsewhere_8 : decode cX9_firstElsewhere 8 = .ok (.aload 4, 2) := by decide +kernel
theorem dX9_firstElsewhere_10 : decode cX9_firstElsewhere 10 = .ok (.aload_n 0, 1) := by decide +kernel
theorem dX9_firstElsewhere_11 : decode cX9_firstElsewhere 11 = .ok (.getfield 34, 3) := by decide +kernel
theorem dX9_firstElsewhere_14 : decode cX9_firstElsewhere 14 = .ok (.aload_n 2, 1) := by decide +kernel
theorem dX9_firstElsewhere_15 : decode cX9_firstElsewhere 15 = .ok (.aload_n 0, 1) := by decide +kernel
theorem dX9_firstElsewhere_16 : decode cX9_firstElsewhere 16 = .ok (.getfield 77, 3) := by decide +kernel
theorem dX9_firstElsewhere_19 : decode cX9_firstElsewhere 19 = .ok (.aload_n 0, 1) := by decide +kernel
theorem dX9_firstElsewhere_20 : decode cX9_firstElsewhere 20 = .ok (.getfield 77, 3) := by decide +kernel
theorem dX9_firstElsewhere_23 : decode cX9_firstElsewhere 23 = .ok (.aload_n 3, 1) := by decide +kernel
theorem dX9_firstElsewhere_24 : decode cX9_firstElsewhere 24 = .ok (.getfield 373, 3) := by decide +kernel
theorem dX9_firstElsewhere_27 : decode cX9_firstElsewhere 27 = .ok (.iadd, 1) := by decide +kernel
theorem dX9_firstElsewhere_28 : decode cX9_firstElsewhere 28 = .ok (.invokevirtual 395, 3) := by decide +kernel
theorem dX9_firstElsewhere_31 : decode cX9_firstElsewhere 31 = .ok (.iconst 0, 1) := by decide +kernel
theorem dX9_firstElsewhere_32 : decode cX9_firstElsewhere 32 = .ok (.istore 5, 2) := by decide +kernel
theorem dX9_firstElsewhere_34 : decode cX9_firstElsewhere 34 = .ok (.iload 5, 2) := by decide +kernel
theorem dX9_firstElsewhere_36 : decode cX9_firstElsewhere 36 = .ok (.aload_n 3, 1) := by decide +kernel
theorem dX9_firstElsewhere_37 : decode cX9_firstElsewhere 37 = .ok (.getfield 373, 3) := by decide +kernel
theorem dX9_firstElsewhere_40 : decode cX9_firstElsewhere 40 = .ok (.if_icmp .ge 34, 3) := by decide +kernel
theorem dX9_firstElsewhere_43 : decode cX9_firstElsewhere 43 = .ok (.aload_n 3, 1) := by decide +kernel
theorem dX9_firstElsewhere_44 : decode cX9_firstElsewhere 44 = .ok (.getfield 380, 3) := by decide +kernel
theorem dX9_firstElsewhere_47 : decode cX9_firstElsewhere 47 = .ok (.iload 5, 2) := by decide +kernel
theorem dX9_firstElsewhere_49 : decode cX9_firstElsewhere 49 = .ok (.iaload, 1) := by decide +kernel
theorem dX9_firstElsewhere_50 : decode cX9_firstElsewhere 50 = .ok (.aload 4, 2) := by decide +kernel
theorem dX9_firstElsewhere_52 : decode cX9_firstElsewhere 52 = .ok (.aload_n 0, 1) := by decide +kernel
theorem dX9_firstElsewhere_53 : decode cX9_firstElsewhere 53 = .ok (.getfield 77, 3) := by decide +kernel
theorem dX9_firstElsewhere_56 : decode cX9_firstElsewhere 56 = .ok (.iload 5, 2) := by decide +kernel
theorem dX9_firstElsewhere_58 : decode cX9_firstElsewhere 58 = .ok (.iadd, 1) := by decide +kernel
theorem dX9_firstElsewhere_59 : decode cX9_firstElsewhere 59 = .ok (.invokevirtual 225, 3) := by decide +kernel
theorem dX9_firstElsewhere_62 : decode cX9_firstElsewhere 62 = .ok (.if_icmp .eq 6, 3) := by decide +kernel
theorem dX9_firstElsewhere_65 : decode cX9_firstElsewhere 65 = .ok (.iload 5, 2) := by decide +kernel
theorem dX9_firstElsewhere_67 : decode cX9_firstElsewhere 67 = .ok (.ireturn, 1) := by decide +kernel
theorem dX9_firstElsewhere_68 : decode cX9_firstElsewhere 68 = .ok (.iinc 5 1, 3) := by decide +kernel
theorem dX9_firstElsewhere_71 : decode cX9_firstElsewhere 71 = .ok (.goto (-37), 3) := by decide +kernel
theorem dX9_firstElsewhere_74 : decode cX9_firstElsewhere 74 = .ok (.iconst (-1), 1) := by decide +kernel
theorem dX9_firstElsewhere_75 : decode cX9_firstElsewhere 75 = .ok (.ireturn, 1) := by decide +kernel
theorem dX9_draw_0 : decode cX9_draw 0 = .ok (.iload_n 1, 1) := by decide +kernel
theorem dX9_draw_1 : decode cX9_draw 1 = .ok (.i2l, 1) := by decide +kernel
theorem dX9_draw_2 : decode cX9_draw 2 = .ok (.lconst 1, 1) := by decide +kernel
theorem dX9_draw_3 : decode cX9_draw 3 = .ok (.ladd, 1) := by decide +kernel
theorem dX9_draw_4 : decode cX9_draw 4 = .ok (.lstore_n 2, 1) := by decide +kernel
theorem dX9_draw_5 : decode cX9_draw 5 = .ok (.aload_n 0, 1) := by decide +kernel
theorem dX9_draw_6 : decode cX9_draw 6 = .ok (.getfield 77, 3) := by decide +kernel
theorem dX9_draw_9 : decode cX9_draw 9 = .ok (.istore 4, 2) := by decide +kernel
theorem dX9_draw_11 : decode cX9_draw 11 = .ok (.iload 4, 2) := by decide +kernel
theorem dX9_draw_13 : decode cX9_draw 13 = .ok (.bipush 12, 2) := by decide +kernel
theorem dX9_draw_15 : decode cX9_draw 15 = .ok (.if_icmp .ge 59, 3) := by decide +kernel
theorem dX9_draw_18 : decode cX9_draw 18 = .ok (.lload_n 2, 1) := by decide +kernel
theorem dX9_draw_19 : decode cX9_draw 19 = .ok (.ldc2_w 425, 3) := by decide +kernel
theorem dX9_draw_22 : decode cX9_draw 22 = .ok (.lmul, 1) := by decide +kernel
theorem dX9_draw_23 : decode cX9_draw 23 = .ok (.ldc2_w 427, 3) := by decide +kernel
theorem dX9_draw_26 : decode cX9_draw 26 = .ok (.lrem, 1) := by decide +kernel
theorem dX9_draw_27 : decode cX9_draw 27 = .ok (.lstore_n 2, 1) := by decide +kernel
theorem dX9_draw_28 : decode cX9_draw 28 = .ok (.aload_n 0, 1) := by decide +kernel
theorem dX9_draw_29 : decode cX9_draw 29 = .ok (.getfield 10, 3) := by decide +kernel
theorem dX9_draw_32 : decode cX9_draw 32 = .ok (.getfield 352, 3) := by decide +kernel
theorem dX9_draw_35 : decode cX9_draw 35 = .ok (.iload 4, 2) := by decide +kernel
theorem dX9_draw_37 : decode cX9_draw 37 = .ok (.iaload, 1) := by decide +kernel
theorem dX9_draw_38 : decode cX9_draw 38 = .ok (.lload_n 2, 1) := by decide +kernel
theorem dX9_draw_39 : decode cX9_draw 39 = .ok (.ldc2_w 429, 3) := by decide +kernel
theorem dX9_draw_42 : decode cX9_draw 42 = .ok (.lrem, 1) := by decide +kernel
theorem dX9_draw_43 : decode cX9_draw 43 = .ok (.l2i, 1) := by decide +kernel
theorem dX9_draw_44 : decode cX9_draw 44 = .ok (.iadd, 1) := by decide +kernel
theorem dX9_draw_45 : decode cX9_draw 45 = .ok (.bipush 20, 2) := by decide +kernel
theorem dX9_draw_47 : decode cX9_draw 47 = .ok (.isub, 1) := by decide +kernel
theorem dX9_draw_48 : decode cX9_draw 48 = .ok (.istore 5, 2) := by decide +kernel
theorem dX9_draw_50 : decode cX9_draw 50 = .ok (.aload_n 0, 1) := by decide +kernel
theorem dX9_draw_51 : decode cX9_draw 51 = .ok (.getfield 54, 3) := by decide +kernel
theorem dX9_draw_54 : decode cX9_draw 54 = .ok (.iload 4, 2) := by decide +kernel
theorem dX9_draw_56 : decode cX9_draw 56 = .ok (.iconst 0, 1) := by decide +kernel
theorem dX9_draw_57 : decode cX9_draw 57 = .ok (.bipush 99, 2) := by decide +kernel
theorem dX9_draw_59 : decode cX9_draw 59 = .ok (.iload 5, 2) := by decide +kernel
theorem dX9_draw_61 : decode cX9_draw 61 = .ok (.invokestatic 137, 3) := by decide +kernel
theorem dX9_draw_64 : decode cX9_draw 64 = .ok (.invokestatic 431, 3) := by decide +kernel
theorem dX9_draw_67 : decode cX9_draw 67 = .ok (.iastore, 1) := by decide +kernel
theorem dX9_draw_68 : decode cX9_draw 68 = .ok (.iinc 4 1, 3) := by decide +kernel
theorem dX9_draw_71 : decode cX9_draw 71 = .ok (.goto (-60), 3) := by decide +kernel
theorem dX9_draw_74 : decode cX9_draw 74 = .ok (.return_, 1) := by decide +kernel
theorem dX9_partOf_0 : decode cX9_partOf 0 = .ok (.iload_n 0, 1) := by decide +kernel
theorem dX9_partOf_1 : decode cX9_partOf 1 = .ok (.istore_n 3, 1) := by decide +kernel
theorem dX9_partOf_2 : decode cX9_partOf 2 = .ok (.iload_n 1, 1) := by decide +kernel
theorem dX9_partOf_3 : decode cX9_partOf 3 = .ok (.istore 4, 2) := by decide +kernel
theorem dX9_partOf_5 : decode cX9_partOf 5 = .ok (.iconst 0, 1) := by decide +kernel
theorem dX9_partOf_6 : decode cX9_partOf 6 = .ok (.istore 5, 2) := by decide +kernel
theorem dX9_partOf_8 : decode cX9_partOf 8 = .ok (.iload 5, 2) := by decide +kernel
theorem dX9_partOf_10 : decode cX9_partOf 10 = .ok (.bipush 64, 2) := by decide +kernel
theorem dX9_partOf_12 : decode cX9_partOf 12 = .ok (.if_icmp .ge 27, 3) := by decide +kernel
theorem dX9_partOf_15 : decode cX9_partOf 15 = .ok (.iload 4, 2) := by decide +kernel
theorem dX9_partOf_17 : decode cX9_partOf 17 = .ok (.ifCond .eq 22, 3) := by decide +kernel
theorem dX9_partOf_20 : decode cX9_partOf 20 = .ok (.iload_n 3, 1) := by decide +kernel
theorem dX9_partOf_21 : decode cX9_partOf 21 = .ok (.iload 4, 2) := by decide +kernel
theorem dX9_partOf_23 : decode cX9_partOf 23 = .ok (.irem, 1) := by decide +kernel
theorem dX9_partOf_24 : decode cX9_partOf 24 = .ok (.istore 6, 2) := by decide +kernel
theorem dX9_partOf_26 : decode cX9_partOf 26 = .ok (.iload 4, 2) := by decide +kernel
theorem dX9_partOf_28 : decode cX9_partOf 28 = .ok (.istore_n 3, 1) := by decide +kernel
theorem dX9_partOf_29 : decode cX9_partOf 29 = .ok (.iload 6, 2) := by decide +kernel
theorem dX9_partOf_31 : decode cX9_partOf 31 = .ok (.istore 4, 2) := by decide +kernel
theorem dX9_partOf_33 : decode cX9_partOf 33 = .ok (.iinc 5 1, 3) := by decide +kernel
theorem dX9_partOf_36 : decode cX9_partOf 36 = .ok (.goto (-28), 3) := by decide +kernel
theorem dX9_partOf_39 : decode cX9_partOf 39 = .ok (.iload_n 2, 1) := by decide +kernel
theorem dX9_partOf_40 : decode cX9_partOf 40 = .ok (.ifCond .ne 7, 3) := by decide +kernel
theorem dX9_partOf_43 : decode cX9_partOf 43 = .ok (.iload_n 0, 1) := by decide +kernel
theorem dX9_partOf_44 : decode cX9_partOf 44 = .ok (.goto 4, 3) := by decide +kernel
theorem dX9_partOf_47 : decode cX9_partOf 47 = .ok (.iload_n 1, 1) := by decide +kernel
theorem dX9_partOf_48 : decode cX9_partOf 48 = .ok (.istore 5, 2) := by decide +kernel
theorem dX9_partOf_50 : decode cX9_partOf 50 = .ok (.iload_n 3, 1) := by decide +kernel
theorem dX9_partOf_51 : decode cX9_partOf 51 = .ok (.ifCond .le 11, 3) := by decide +kernel
theorem dX9_partOf_54 : decode cX9_partOf 54 = .ok (.iload 5, 2) := by decide +kernel
theorem dX9_partOf_56 : decode cX9_partOf 56 = .ok (.iload_n 3, 1) := by decide +kernel
theorem dX9_partOf_57 : decode cX9_partOf 57 = .ok (.idiv, 1) := by decide +kernel
theorem dX9_partOf_58 : decode cX9_partOf 58 = .ok (.i2l, 1) := by decide +kernel
theorem dX9_partOf_59 : decode cX9_partOf 59 = .ok (.goto 6, 3) := by decide +kernel
theorem dX9_partOf_62 : decode cX9_partOf 62 = .ok (.iload 5, 2) := by decide +kernel
theorem dX9_partOf_64 : decode cX9_partOf 64 = .ok (.i2l, 1) := by decide +kernel
theorem dX9_partOf_65 : decode cX9_partOf 65 = .ok (.lreturn, 1) := by decide +kernel
theorem dJ9_abs_0f7a4_0 : decode cJ9_abs_0f7a4 0 = .ok (.iload_n 0, 1) := by decide +kernel
theorem dJ9_abs_0f7a4_1 : decode cJ9_abs_0f7a4 1 = .ok (.ifCond .ge 8, 3) := by decide +kernel
theorem dJ9_abs_0f7a4_4 : decode cJ9_abs_0f7a4 4 = .ok (.iload_n 0, 1) := by decide +kernel
theorem dJ9_abs_0f7a4_5 : decode cJ9_abs_0f7a4 5 = .ok (.ineg, 1) := by decide +kernel
theorem dJ9_abs_0f7a4_6 : decode cJ9_abs_0f7a4 6 = .ok (.goto 4, 3) := by decide +kernel
theorem dJ9_abs_0f7a4_9 : decode cJ9_abs_0f7a4 9 = .ok (.iload_n 0, 1) := by decide +kernel
theorem dJ9_abs_0f7a4_10 : decode cJ9_abs_0f7a4 10 = .ok (.ireturn, 1) := by decide +kernel
theorem dJ9_max_7cf53_0 : decode cJ9_max_7cf53 0 = .ok (.iload_n 0, 1) := by decide +kernel
theorem dJ9_max_7cf53_1 : decode cJ9_max_7cf53 1 = .ok (.iload_n 1, 1) := by decide +kernel
theorem dJ9_max_7cf53_2 : decode cJ9_max_7cf53 2 = .ok (.if_icmp .lt 7, 3) := by decide +kernel
theorem dJ9_max_7cf53_5 : decode cJ9_max_7cf53 5 = .ok (.iload_n 0, 1) := by decide +kernel
theorem dJ9_max_7cf53_6 : decode cJ9_max_7cf53 6 = .ok (.goto 4, 3) := by decide +kernel
theorem dJ9_max_7cf53_9 : decode cJ9_max_7cf53 9 = .ok (.iload_n 1, 1) := by decide +kernel
theorem dJ9_max_7cf53_10 : decode cJ9_max_7cf53 10 = .ok (.ireturn, 1) := by decide +kernel
theorem dJ9_min_7cf53_0 : decode cJ9_min_7cf53 0 = .ok (.iload_n 0, 1) := by decide +kernel
theorem dJ9_min_7cf53_1 : decode cJ9_min_7cf53 1 = .ok (.iload_n 1, 1) := by decide +kernel
theorem dJ9_min_7cf53_2 : decode cJ9_min_7cf53 2 = .ok (.if_icmp .gt 7, 3) := by decide +kernel
theorem dJ9_min_7cf53_5 : decode cJ9_min_7cf53 5 = .ok (.iload_n 0, 1) := by decide +kernel
theorem dJ9_min_7cf53_6 : decode cJ9_min_7cf53 6 = .ok (.goto 4, 3) := by decide +kernel
theorem dJ9_min_7cf53_9 : decode cJ9_min_7cf53 9 = .ok (.iload_n 1, 1) := by decide +kernel
theorem dJ9_min_7cf53_10 : decode cJ9_min_7cf53 10 = .ok (.ireturn, 1) := by decide +kernel
theorem dJ0_length_8abf5_0 : decode cJ0_length_8abf5 0 = .ok (.aload_n 0, 1) := by decide +kernel
theorem dJ0_length_8abf5_1 : decode cJ0_length_8abf5 1 = .ok (.getfield 9, 3) := by decide +kernel
theorem dJ0_length_8abf5_4 : decode cJ0_length_8abf5 4 = .ok (.arraylength, 1) := by decide +kernel
theorem dJ0_length_8abf5_5 : decode cJ0_length_8abf5 5 = .ok (.aload_n 0, 1) := by decide +kernel
theorem dJ0_length_8abf5_6 : decode cJ0_length_8abf5 6 = .ok (.invokevirtual 335, 3) := by decide +kernel
theorem dJ0_length_8abf5_9 : decode cJ0_length_8abf5 9 = .ok (.ishr, 1) := by decide +kernel
theorem dJ0_length_8abf5_10 : decode cJ0_length_8abf5 10 = .ok (.ireturn, 1) := by decide +kernel
theorem dJ0_charAt_5068e_0 : decode cJ0_charAt_5068e 0 = .ok (.aload_n 0, 1) := by decide +kernel
theorem dJ0_charAt_5068e_1 : decode cJ0_charAt_5068e 1 = .ok (.invokevirtual 492, 3) := by decide +kernel
theorem dJ0_charAt_5068e_4 : decode cJ0_charAt_5068e 4 = .ok (.ifCond .eq 12, 3) := by decide +kernel
theorem dJ0_charAt_5068e_7 : decode cJ0_charAt_5068e 7 = .ok (.aload_n 0, 1) := by decide +kernel
theorem dJ0_charAt_5068e_8 : decode cJ0_charAt_5068e 8 = .ok (.getfield 9, 3) := by decide +kernel
theorem dJ0_charAt_5068e_11 : decode cJ0_charAt_5068e 11 = .ok (.iload_n 1, 1) := by decide +kernel
theorem dJ0_charAt_5068e_12 : decode cJ0_charAt_5068e 12 = .ok (.invokestatic 495, 3) := by decide +kernel
theorem dJ0_charAt_5068e_15 : decode cJ0_charAt_5068e 15 = .ok (.ireturn, 1) := by decide +kernel
theorem dJ0_charAt_5068e_16 : decode cJ0_charAt_5068e 16 = .ok (.aload_n 0, 1) := by decide +kernel
theorem dJ0_charAt_5068e_17 : decode cJ0_charAt_5068e 17 = .ok (.getfield 9, 3) := by decide +kernel
theorem dJ0_charAt_5068e_20 : decode cJ0_charAt_5068e 20 = .ok (.iload_n 1, 1) := by decide +kernel
theorem dJ0_charAt_5068e_21 : decode cJ0_charAt_5068e 21 = .ok (.invokestatic 498, 3) := by decide +kernel
theorem dJ0_charAt_5068e_24 : decode cJ0_charAt_5068e 24 = .ok (.ireturn, 1) := by decide +kernel
theorem dJ0_coder_7d493_0 : decode cJ0_coder_7d493 0 = .ok (.getstatic 38, 3) := by decide +kernel
theorem dJ0_coder_7d493_3 : decode cJ0_coder_7d493 3 = .ok (.ifCond .eq 10, 3) := by decide +kernel
theorem dJ0_coder_7d493_6 : decode cJ0_coder_7d493 6 = .ok (.aload_n 0, 1) := by decide +kernel
theorem dJ0_coder_7d493_7 : decode cJ0_coder_7d493 7 = .ok (.getfield 15, 3) := by decide +kernel
theorem dJ0_coder_7d493_10 : decode cJ0_coder_7d493 10 = .ok (.goto 4, 3) := by decide +kernel
theorem dJ0_coder_7d493_13 : decode cJ0_coder_7d493 13 = .ok (.iconst 1, 1) := by decide +kernel
theorem dJ0_coder_7d493_14 : decode cJ0_coder_7d493 14 = .ok (.ireturn, 1) := by decide +kernel
theorem dJ0_isLatin1_aae02_0 : decode cJ0_isLatin1_aae02 0 = .ok (.getstatic 38, 3) := by decide +kernel
theorem dJ0_isLatin1_aae02_3 : decode cJ0_isLatin1_aae02 3 = .ok (.ifCond .eq 14, 3) := by decide +kernel
theorem dJ0_isLatin1_aae02_6 : decode cJ0_isLatin1_aae02 6 = .ok (.aload_n 0, 1) := by decide +kernel
theorem dJ0_isLatin1_aae02_7 : decode cJ0_isLatin1_aae02 7 = .ok (.getfield 15, 3) := by decide +kernel
theorem dJ0_isLatin1_aae02_10 : decode cJ0_isLatin1_aae02 10 = .ok (.ifCond .ne 7, 3) := by decide +kernel
theorem dJ0_isLatin1_aae02_13 : decode cJ0_isLatin1_aae02 13 = .ok (.iconst 1, 1) := by decide +kernel
theorem dJ0_isLatin1_aae02_14 : decode cJ0_isLatin1_aae02 14 = .ok (.goto 4, 3) := by decide +kernel
theorem dJ0_isLatin1_aae02_17 : decode cJ0_isLatin1_aae02 17 = .ok (.iconst 0, 1) := by decide +kernel
theorem dJ0_isLatin1_aae02_18 : decode cJ0_isLatin1_aae02 18 = .ok (.ireturn, 1) := by decide +kernel
theorem dJ0_checkIndex_df160_0 : decode cJ0_checkIndex_df160 0 = .ok (.iload_n 0, 1) := by decide +kernel
theorem dJ0_checkIndex_df160_1 : decode cJ0_checkIndex_df160 1 = .ok (.iload_n 1, 1) := by decide +kernel
theorem dJ0_checkIndex_df160_2 : decode cJ0_checkIndex_df160 2 = .ok (.getstatic 1053, 3) := by decide +kernel
theorem dJ0_checkIndex_df160_5 : decode cJ0_checkIndex_df160 5 = .ok (.invokestatic 1059, 3) := by decide +kernel
theorem dJ0_checkIndex_df160_8 : decode cJ0_checkIndex_df160 8 = .ok (.pop, 1) := by decide +kernel
theorem dJ0_checkIndex_df160_9 : decode cJ0_checkIndex_df160 9 = .ok (.return_, 1) := by decide +kernel
theorem dJ1_charAt_3b067_0 : decode cJ1_charAt_3b067 0 = .ok (.iload_n 1, 1) := by decide +kernel
theorem dJ1_charAt_3b067_1 : decode cJ1_charAt_3b067 1 = .ok (.aload_n 0, 1) := by decide +kernel
theorem dJ1_charAt_3b067_2 : decode cJ1_charAt_3b067 2 = .ok (.arraylength, 1) := by decide +kernel
theorem dJ1_charAt_3b067_3 : decode cJ1_charAt_3b067 3 = .ok (.invokestatic 9, 3) := by decide +kernel
theorem dJ1_charAt_3b067_6 : decode cJ1_charAt_3b067 6 = .ok (.aload_n 0, 1) := by decide +kernel
theorem dJ1_charAt_3b067_7 : decode cJ1_charAt_3b067 7 = .ok (.iload_n 1, 1) := by decide +kernel
theorem dJ1_charAt_3b067_8 : decode cJ1_charAt_3b067 8 = .ok (.baload, 1) := by decide +kernel
theorem dJ1_charAt_3b067_9 : decode cJ1_charAt_3b067 9 = .ok (.sipush 255, 3) := by decide +kernel
theorem dJ1_charAt_3b067_12 : decode cJ1_charAt_3b067 12 = .ok (.iand, 1) := by decide +kernel
theorem dJ1_charAt_3b067_13 : decode cJ1_charAt_3b067 13 = .ok (.i2c, 1) := by decide +kernel
theorem dJ1_charAt_3b067_14 : decode cJ1_charAt_3b067 14 = .ok (.ireturn, 1) := by decide +kernel
theorem dJ2_getChar_3b067_0 : decode cJ2_getChar_3b067 0 = .ok (.getstatic 44, 3) := by decide +kernel
theorem dJ2_getChar_3b067_3 : decode cJ2_getChar_3b067 3 = .ok (.ifCond .ne 25, 3) := by decide +kernel
theorem dJ2_getChar_3b067_6 : decode cJ2_getChar_3b067 6 = .ok (.iload_n 1, 1) := by decide +kernel
theorem dJ2_getChar_3b067_7 : decode cJ2_getChar_3b067 7 = .ok (.ifCond .lt 11, 3) := by decide +kernel
theorem dJ2_getChar_3b067_10 : decode cJ2_getChar_3b067 10 = .ok (.iload_n 1, 1) := by decide +kernel
theorem dJ2_getChar_3b067_11 : decode cJ2_getChar_3b067 11 = .ok (.aload_n 0, 1) := by decide +kernel
theorem dJ2_getChar_3b067_12 : decode cJ2_getChar_3b067 12 = .ok (.invokestatic 48, 3) := by decide +kernel
theorem dJ2_getChar_3b067_15 : decode cJ2_getChar_3b067 15 = .ok (.if_icmp .lt 13, 3) := by decide +kernel
theorem dJ2_getChar_3b067_18 : decode cJ2_getChar_3b067 18 = .ok (.new 52, 3) := by decide +kernel
theorem dJ2_getChar_3b067_21 : decode cJ2_getChar_3b067 21 = .ok (.dup, 1) := by decide +kernel
theorem dJ2_getChar_3b067_22 : decode cJ2_getChar_3b067 22 = .ok (.ldc 54, 2) := by decide +kernel
theorem dJ2_getChar_3b067_24 : decode cJ2_getChar_3b067 24 = .ok (.invokespecial 56, 3) := by decide +kernel
theorem dJ2_getChar_3b067_27 : decode cJ2_getChar_3b067 27 = .ok (.athrow, 1) := by decide +kernel
theorem dJ2_getChar_3b067_28 : decode cJ2_getChar_3b067 28 = .ok (.iload_n 1, 1) := by decide +kernel
theorem dJ2_getChar_3b067_29 : decode cJ2_getChar_3b067 29 = .ok (.iconst 1, 1) := by decide +kernel
theorem dJ2_getChar_3b067_30 : decode cJ2_getChar_3b067 30 = .ok (.ishl, 1) := by decide +kernel
theorem dJ2_getChar_3b067_31 : decode cJ2_getChar_3b067 31 = .ok (.istore_n 1, 1) := by decide +kernel
theorem dJ2_getChar_3b067_32 : decode cJ2_getChar_3b067 32 = .ok (.aload_n 0, 1) := by decide +kernel
theorem dJ2_getChar_3b067_33 : decode cJ2_getChar_3b067 33 = .ok (.iload_n 1, 1) := by decide +kernel
theorem dJ2_getChar_3b067_34 : decode cJ2_getChar_3b067 34 = .ok (.iinc 1 1, 3) := by decide +kernel
theorem dJ2_getChar_3b067_37 : decode cJ2_getChar_3b067 37 = .ok (.baload, 1) := by decide +kernel
theorem dJ2_getChar_3b067_38 : decode cJ2_getChar_3b067 38 = .ok (.sipush 255, 3) := by decide +kernel
theorem dJ2_getChar_3b067_41 : decode cJ2_getChar_3b067 41 = .ok (.iand, 1) := by decide +kernel
theorem dJ2_getChar_3b067_42 : decode cJ2_getChar_3b067 42 = .ok (.getstatic 59, 3) := by decide +kernel
theorem dJ2_getChar_3b067_45 : decode cJ2_getChar_3b067 45 = .ok (.ishl, 1) := by decide +kernel
theorem dJ2_getChar_3b067_46 : decode cJ2_getChar_3b067 46 = .ok (.aload_n 0, 1) := by decide +kernel
theorem dJ2_getChar_3b067_47 : decode cJ2_getChar_3b067 47 = .ok (.iload_n 1, 1) := by decide +kernel
theorem dJ2_getChar_3b067_48 : decode cJ2_getChar_3b067 48 = .ok (.baload, 1) := by decide +kernel
theorem dJ2_getChar_3b067_49 : decode cJ2_getChar_3b067 49 = .ok (.sipush 255, 3) := by decide +kernel
theorem dJ2_getChar_3b067_52 : decode cJ2_getChar_3b067 52 = .ok (.iand, 1) := by decide +kernel
theorem dJ2_getChar_3b067_53 : decode cJ2_getChar_3b067 53 = .ok (.getstatic 63, 3) := by decide +kernel
theorem dJ2_getChar_3b067_56 : decode cJ2_getChar_3b067 56 = .ok (.ishl, 1) := by decide +kernel
theorem dJ2_getChar_3b067_57 : decode cJ2_getChar_3b067 57 = .ok (.ior, 1) := by decide +kernel
theorem dJ2_getChar_3b067_58 : decode cJ2_getChar_3b067 58 = .ok (.i2c, 1) := by decide +kernel
theorem dJ2_getChar_3b067_59 : decode cJ2_getChar_3b067 59 = .ok (.ireturn, 1) := by decide +kernel
theorem dJ2_length_9d52b_0 : decode cJ2_length_9d52b 0 = .ok (.aload_n 0, 1) := by decide +kernel
theorem dJ2_length_9d52b_1 : decode cJ2_length_9d52b 1 = .ok (.arraylength, 1) := by decide +kernel
theorem dJ2_length_9d52b_2 : decode cJ2_length_9d52b 2 = .ok (.iconst 1, 1) := by decide +kernel
theorem dJ2_length_9d52b_3 : decode cJ2_length_9d52b 3 = .ok (.ishr, 1) := by decide +kernel
theorem dJ2_length_9d52b_4 : decode cJ2_length_9d52b 4 = .ok (.ireturn, 1) := by decide +kernel
theorem dJ2_charAt_3b067_0 : decode cJ2_charAt_3b067 0 = .ok (.iload_n 1, 1) := by decide +kernel
theorem dJ2_charAt_3b067_1 : decode cJ2_charAt_3b067 1 = .ok (.aload_n 0, 1) := by decide +kernel
theorem dJ2_charAt_3b067_2 : decode cJ2_charAt_3b067 2 = .ok (.invokestatic 67, 3) := by decide +kernel
theorem dJ2_charAt_3b067_5 : decode cJ2_charAt_3b067 5 = .ok (.aload_n 0, 1) := by decide +kernel
theorem dJ2_charAt_3b067_6 : decode cJ2_charAt_3b067 6 = .ok (.iload_n 1, 1) := by decide +kernel
theorem dJ2_charAt_3b067_7 : decode cJ2_charAt_3b067 7 = .ok (.invokestatic 71, 3) := by decide +kernel
theorem dJ2_charAt_3b067_10 : decode cJ2_charAt_3b067 10 = .ok (.ireturn, 1) := by decide +kernel
theorem dJ2_checkIndex_2214a_0 : decode cJ2_checkIndex_2214a 0 = .ok (.iload_n 0, 1) := by decide +kernel
theorem dJ2_checkIndex_2214a_1 : decode cJ2_checkIndex_2214a 1 = .ok (.aload_n 1, 1) := by decide +kernel
theorem dJ2_checkIndex_2214a_2 : decode cJ2_checkIndex_2214a 2 = .ok (.invokestatic 48, 3) := by decide +kernel
theorem dJ2_checkIndex_2214a_5 : decode cJ2_checkIndex_2214a 5 = .ok (.invokestatic 414, 3) := by decide +kernel
theorem dJ2_checkIndex_2214a_8 : decode cJ2_checkIndex_2214a 8 = .ok (.return_, 1) := by decide +kernel
theorem dJ7_fill_53178_0 : decode cJ7_fill_53178 0 = .ok (.iconst 0, 1) := by decide +kernel
theorem dJ7_fill_53178_1 : decode cJ7_fill_53178 1 = .ok (.istore_n 2, 1) := by decide +kernel
theorem dJ7_fill_53178_2 : decode cJ7_fill_53178 2 = .ok (.aload_n 0, 1) := by decide +kernel
theorem dJ7_fill_53178_3 : decode cJ7_fill_53178 3 = .ok (.arraylength, 1) := by decide +kernel
theorem dJ7_fill_53178_4 : decode cJ7_fill_53178 4 = .ok (.istore_n 3, 1) := by decide +kernel
theorem dJ7_fill_53178_5 : decode cJ7_fill_53178 5 = .ok (.iload_n 2, 1) := by decide +kernel
theorem dJ7_fill_53178_6 : decode cJ7_fill_53178 6 = .ok (.iload_n 3, 1) := by decide +kernel
theorem dJ7_fill_53178_7 : decode cJ7_fill_53178 7 = .ok (.if_icmp .ge 13, 3) := by decide +kernel
theorem dJ7_fill_53178_10 : decode cJ7_fill_53178 10 = .ok (.aload_n 0, 1) := by decide +kernel
theorem dJ7_fill_53178_11 : decode cJ7_fill_53178 11 = .ok (.iload_n 2, 1) := by decide +kernel
theorem dJ7_fill_53178_12 : decode cJ7_fill_53178 12 = .ok (.iload_n 1, 1) := by decide +kernel
theorem dJ7_fill_53178_13 : decode cJ7_fill_53178 13 = .ok (.iastore, 1) := by decide +kernel
theorem dJ7_fill_53178_14 : decode cJ7_fill_53178 14 = .ok (.iinc 2 1, 3) := by decide +kernel
theorem dJ7_fill_53178_17 : decode cJ7_fill_53178 17 = .ok (.goto (-12), 3) := by decide +kernel
theorem dJ7_fill_53178_20 : decode cJ7_fill_53178 20 = .ok (.return_, 1) := by decide +kernel
theorem dJ3_checkIndex_8e157_0 : decode cJ3_checkIndex_8e157 0 = .ok (.iload_n 0, 1) := by decide +kernel
theorem dJ3_checkIndex_8e157_1 : decode cJ3_checkIndex_8e157 1 = .ok (.ifCond .lt 8, 3) := by decide +kernel
theorem dJ3_checkIndex_8e157_4 : decode cJ3_checkIndex_8e157 4 = .ok (.iload_n 0, 1) := by decide +kernel
theorem dJ3_checkIndex_8e157_5 : decode cJ3_checkIndex_8e157 5 = .ok (.iload_n 1, 1) := by decide +kernel
theorem dJ3_checkIndex_8e157_6 : decode cJ3_checkIndex_8e157 6 = .ok (.if_icmp .lt 10, 3) := by decide +kernel
theorem dJ3_checkIndex_8e157_9 : decode cJ3_checkIndex_8e157 9 = .ok (.aload_n 2, 1) := by decide +kernel
theorem dJ3_checkIndex_8e157_10 : decode cJ3_checkIndex_8e157 10 = .ok (.iload_n 0, 1) := by decide +kernel
theorem dJ3_checkIndex_8e157_11 : decode cJ3_checkIndex_8e157 11 = .ok (.iload_n 1, 1) := by decide +kernel
theorem dJ3_checkIndex_8e157_12 : decode cJ3_checkIndex_8e157 12 = .ok (.invokestatic 95, 3) := by decide +kernel
theorem dJ3_checkIndex_8e157_15 : decode cJ3_checkIndex_8e157 15 = .ok (.athrow, 1) := by decide +kernel
theorem dJ3_checkIndex_8e157_16 : decode cJ3_checkIndex_8e157 16 = .ok (.iload_n 0, 1) := by decide +kernel
theorem dJ3_checkIndex_8e157_17 : decode cJ3_checkIndex_8e157 17 = .ok (.ireturn, 1) := by decide +kernel
