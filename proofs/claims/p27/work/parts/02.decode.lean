theorem dX0_init_0 : decode cX0_init 0 = .ok (.aload_n 0, 1) := by decide +kernel
theorem dX0_init_1 : decode cX0_init 1 = .ok (.invokespecial 3, 3) := by decide +kernel
theorem dX0_init_4 : decode cX0_init 4 = .ok (.aload_n 0, 1) := by decide +kernel
theorem dX0_init_5 : decode cX0_init 5 = .ok (.bipush 100, 2) := by decide +kernel
theorem dX0_init_7 : decode cX0_init 7 = .ok (.newarray .boolean, 2) := by decide +kernel
theorem dX0_init_9 : decode cX0_init 9 = .ok (.putfield 9, 3) := by decide +kernel
theorem dX0_init_12 : decode cX0_init 12 = .ok (.aload_n 0, 1) := by decide +kernel
theorem dX0_init_13 : decode cX0_init 13 = .ok (.bipush 100, 2) := by decide +kernel
theorem dX0_init_15 : decode cX0_init 15 = .ok (.newarray .boolean, 2) := by decide +kernel
theorem dX0_init_17 : decode cX0_init 17 = .ok (.putfield 15, 3) := by decide +kernel
theorem dX0_init_20 : decode cX0_init 20 = .ok (.aload_n 0, 1) := by decide +kernel
theorem dX0_init_21 : decode cX0_init 21 = .ok (.bipush 100, 2) := by decide +kernel
theorem dX0_init_23 : decode cX0_init 23 = .ok (.newarray .int, 2) := by decide +kernel
theorem dX0_init_25 : decode cX0_init 25 = .ok (.putfield 18, 3) := by decide +kernel
theorem dX0_init_28 : decode cX0_init 28 = .ok (.aload_n 0, 1) := by decide +kernel
theorem dX0_init_29 : decode cX0_init 29 = .ok (.bipush 100, 2) := by decide +kernel
theorem dX0_init_31 : decode cX0_init 31 = .ok (.newarray .int, 2) := by decide +kernel
theorem dX0_init_33 : decode cX0_init 33 = .ok (.putfield 22, 3) := by decide +kernel
theorem dX0_init_36 : decode cX0_init 36 = .ok (.aload_n 0, 1) := by decide +kernel
theorem dX0_init_37 : decode cX0_init 37 = .ok (.iconst 0, 1) := by decide +kernel
theorem dX0_init_38 : decode cX0_init 38 = .ok (.putfield 25, 3) := by decide +kernel
theorem dX0_init_41 : decode cX0_init 41 = .ok (.return_, 1) := by decide +kernel
theorem dX0_clear_0 : decode cX0_clear 0 = .ok (.aload_n 0, 1) := by decide +kernel
theorem dX0_clear_1 : decode cX0_clear 1 = .ok (.iconst 0, 1) := by decide +kernel
theorem dX0_clear_2 : decode cX0_clear 2 = .ok (.putfield 25, 3) := by decide +kernel
theorem dX0_clear_5 : decode cX0_clear 5 = .ok (.iconst 0, 1) := by decide +kernel
theorem dX0_clear_6 : decode cX0_clear 6 = .ok (.istore_n 1, 1) := by decide +kernel
theorem dX0_clear_7 : decode cX0_clear 7 = .ok (.iload_n 1, 1) := by decide +kernel
theorem dX0_clear_8 : decode cX0_clear 8 = .ok (.bipush 100, 2) := by decide +kernel
theorem dX0_clear_10 : decode cX0_clear 10 = .ok (.if_icmp .ge 23, 3) := by decide +kernel
theorem dX0_clear_13 : decode cX0_clear 13 = .ok (.aload_n 0, 1) := by decide +kernel
theorem dX0_clear_14 : decode cX0_clear 14 = .ok (.getfield 9, 3) := by decide +kernel
theorem dX0_clear_17 : decode cX0_clear 17 = .ok (.iload_n 1, 1) := by decide +kernel
theorem dX0_clear_18 : decode cX0_clear 18 = .ok (.iconst 0, 1) := by decide +kernel
theorem dX0_clear_19 : decode cX0_clear 19 = .ok (.bastore, 1) := by decide +kernel
theorem dX0_clear_20 : decode cX0_clear 20 = .ok (.aload_n 0, 1) := by decide +kernel
theorem dX0_clear_21 : decode cX0_clear 21 = .ok (.getfield 15, 3) := by decide +kernel
theorem dX0_clear_24 : decode cX0_clear 24 = .ok (.iload_n 1, 1) := by decide +kernel
theorem dX0_clear_25 : decode cX0_clear 25 = .ok (.iconst 0, 1) := by decide +kernel
theorem dX0_clear_26 : decode cX0_clear 26 = .ok (.bastore, 1) := by decide +kernel
theorem dX0_clear_27 : decode cX0_clear 27 = .ok (.iinc 1 1, 3) := by decide +kernel
theorem dX0_clear_30 : decode cX0_clear 30 = .ok (.goto (-23), 3) := by decide +kernel
theorem dX0_clear_33 : decode cX0_clear 33 = .ok (.return_, 1) := by decide +kernel
theorem dX0_darken_0 : decode cX0_darken 0 = .ok (.iload_n 1, 1) := by decide +kernel
theorem dX0_darken_1 : decode cX0_darken 1 = .ok (.invokestatic 29, 3) := by decide +kernel
theorem dX0_darken_4 : decode cX0_darken 4 = .ok (.ifCond .eq 10, 3) := by decide +kernel
theorem dX0_darken_7 : decode cX0_darken 7 = .ok (.aload_n 0, 1) := by decide +kernel
theorem dX0_darken_8 : decode cX0_darken 8 = .ok (.getfield 9, 3) := by decide +kernel
theorem dX0_darken_11 : decode cX0_darken 11 = .ok (.iload_n 1, 1) := by decide +kernel
theorem dX0_darken_12 : decode cX0_darken 12 = .ok (.iconst 1, 1) := by decide +kernel
theorem dX0_darken_13 : decode cX0_darken 13 = .ok (.bastore, 1) := by decide +kernel
theorem dX0_darken_14 : decode cX0_darken 14 = .ok (.return_, 1) := by decide +kernel
theorem dX0_block_0 : decode cX0_block 0 = .ok (.iload_n 1, 1) := by decide +kernel
theorem dX0_block_1 : decode cX0_block 1 = .ok (.invokestatic 29, 3) := by decide +kernel
theorem dX0_block_4 : decode cX0_block 4 = .ok (.ifCond .eq 10, 3) := by decide +kernel
theorem dX0_block_7 : decode cX0_block 7 = .ok (.aload_n 0, 1) := by decide +kernel
theorem dX0_block_8 : decode cX0_block 8 = .ok (.getfield 15, 3) := by decide +kernel
theorem dX0_block_11 : decode cX0_block 11 = .ok (.iload_n 1, 1) := by decide +kernel
theorem dX0_block_12 : decode cX0_block 12 = .ok (.iconst 1, 1) := by decide +kernel
theorem dX0_block_13 : decode cX0_block 13 = .ok (.bastore, 1) := by decide +kernel
theorem dX0_block_14 : decode cX0_block 14 = .ok (.return_, 1) := by decide +kernel
theorem dX0_darkCells_0 : decode cX0_darkCells 0 = .ok (.iconst 0, 1) := by decide +kernel
theorem dX0_darkCells_1 : decode cX0_darkCells 1 = .ok (.istore_n 1, 1) := by decide +kernel
theorem dX0_darkCells_2 : decode cX0_darkCells 2 = .ok (.iconst 0, 1) := by decide +kernel
theorem dX0_darkCells_3 : decode cX0_darkCells 3 = .ok (.istore_n 2, 1) := by decide +kernel
theorem dX0_darkCells_4 : decode cX0_darkCells 4 = .ok (.iload_n 2, 1) := by decide +kernel
theorem dX0_darkCells_5 : decode cX0_darkCells 5 = .ok (.bipush 100, 2) := by decide +kernel
theorem dX0_darkCells_7 : decode cX0_darkCells 7 = .ok (.if_icmp .ge 21, 3) := by decide +kernel
theorem dX0_darkCells_10 : decode cX0_darkCells 10 = .ok (.aload_n 0, 1) := by decide +kernel
theorem dX0_darkCells_11 : decode cX0_darkCells 11 = .ok (.getfield 9, 3) := by decide +kernel
theorem dX0_darkCells_14 : decode cX0_darkCells 14 = .ok (.iload_n 2, 1) := by decide +kernel
theorem dX0_darkCells_15 : decode cX0_darkCells 15 = .ok (.baload, 1) := by decide +kernel
theorem dX0_darkCells_16 : decode cX0_darkCells 16 = .ok (.ifCond .eq 6, 3) := by decide +kernel
theorem dX0_darkCells_19 : decode cX0_darkCells 19 = .ok (.iinc 1 1, 3) := by decide +kernel
theorem dX0_darkCells_22 : decode cX0_darkCells 22 = .ok (.iinc 2 1, 3) := by decide +kernel
theorem dX0_darkCells_25 : decode cX0_darkCells 25 = .ok (.goto (-21), 3) := by decide +kernel
theorem dX0_darkCells_28 : decode cX0_darkCells 28 = .ok (.iload_n 1, 1) := by decide +kernel
theorem dX0_darkCells_29 : decode cX0_darkCells 29 = .ok (.ireturn, 1) := by decide +kernel
theorem dX0_stepsIntoTheDark_0 : decode cX0_stepsIntoTheDark 0 = .ok (.aload_n 0, 1) := by decide +kernel
theorem dX0_stepsIntoTheDark_1 : decode cX0_stepsIntoTheDark 1 = .ok (.iload_n 1, 1) := by decide +kernel
theorem dX0_stepsIntoTheDark_2 : decode cX0_stepsIntoTheDark 2 = .ok (.iconst 0, 1) := by decide +kernel
theorem dX0_stepsIntoTheDark_3 : decode cX0_stepsIntoTheDark 3 = .ok (.invokevirtual 33, 3) := by decide +kernel
theorem dX0_stepsIntoTheDark_6 : decode cX0_stepsIntoTheDark 6 = .ok (.iconst 0, 1) := by decide +kernel
theorem dX0_stepsIntoTheDark_7 : decode cX0_stepsIntoTheDark 7 = .ok (.istore_n 2, 1) := by decide +kernel
theorem dX0_stepsIntoTheDark_8 : decode cX0_stepsIntoTheDark 8 = .ok (.iload_n 2, 1) := by decide +kernel
theorem dX0_stepsIntoTheDark_9 : decode cX0_stepsIntoTheDark 9 = .ok (.aload_n 0, 1) := by decide +kernel
theorem dX0_stepsIntoTheDark_10 : decode cX0_stepsIntoTheDark 10 = .ok (.getfield 25, 3) := by decide +kernel
theorem dX0_stepsIntoTheDark_13 : decode cX0_stepsIntoTheDark 13 = .ok (.if_icmp .ge 91, 3) := by decide +kernel
theorem dX0_stepsIntoTheDark_16 : decode cX0_stepsIntoTheDark 16 = .ok (.iload_n 2, 1) := by decide +kernel
theorem dX0_stepsIntoTheDark_17 : decode cX0_stepsIntoTheDark 17 = .ok (.bipush 100, 2) := by decide +kernel
theorem dX0_stepsIntoTheDark_19 : decode cX0_stepsIntoTheDark 19 = .ok (.if_icmp .ge 85, 3) := by decide +kernel
theorem dX0_stepsIntoTheDark_22 : decode cX0_stepsIntoTheDark 22 = .ok (.aload_n 0, 1) := by decide +kernel
theorem dX0_stepsIntoTheDark_23 : decode cX0_stepsIntoTheDark 23 = .ok (.getfield 22, 3) := by decide +kernel
theorem dX0_stepsIntoTheDark_26 : decode cX0_stepsIntoTheDark 26 = .ok (.iload_n 2, 1) := by decide +kernel
theorem dX0_stepsIntoTheDark_27 : decode cX0_stepsIntoTheDark 27 = .ok (.iaload, 1) := by decide +kernel
theorem dX0_stepsIntoTheDark_28 : decode cX0_stepsIntoTheDark 28 = .ok (.istore_n 3, 1) := by decide +kernel
theorem dX0_stepsIntoTheDark_29 : decode cX0_stepsIntoTheDark 29 = .ok (.iload_n 3, 1) := by decide +kernel
theorem dX0_stepsIntoTheDark_30 : decode cX0_stepsIntoTheDark 30 = .ok (.invokestatic 29, 3) := by decide +kernel
theorem dX0_stepsIntoTheDark_33 : decode cX0_stepsIntoTheDark 33 = .ok (.ifCond .ne 6, 3) := by decide +kernel
theorem dX0_stepsIntoTheDark_36 : decode cX0_stepsIntoTheDark 36 = .ok (.bipush (-5), 2) := by decide +kernel
theorem dX0_stepsIntoTheDark_38 : decode cX0_stepsIntoTheDark 38 = .ok (.ireturn, 1) := by decide +kernel
theorem dX0_stepsIntoTheDark_39 : decode cX0_stepsIntoTheDark 39 = .ok (.aload_n 0, 1) := by decide +kernel
theorem dX0_stepsIntoTheDark_40 : decode cX0_stepsIntoTheDark 40 = .ok (.getfield 9, 3) := by decide +kernel
theorem dX0_stepsIntoTheDark_43 : decode cX0_stepsIntoTheDark 43 = .ok (.iload_n 3, 1) := by decide +kernel
theorem dX0_stepsIntoTheDark_44 : decode cX0_stepsIntoTheDark 44 = .ok (.baload, 1) := by decide +kernel
theorem dX0_stepsIntoTheDark_45 : decode cX0_stepsIntoTheDark 45 = .ok (.ifCond .eq 10, 3) := by decide +kernel
theorem dX0_stepsIntoTheDark_48 : decode cX0_stepsIntoTheDark 48 = .ok (.aload_n 0, 1) := by decide +kernel
theorem dX0_stepsIntoTheDark_49 : decode cX0_stepsIntoTheDark 49 = .ok (.getfield 18, 3) := by decide +kernel
theorem dX0_stepsIntoTheDark_52 : decode cX0_stepsIntoTheDark 52 = .ok (.iload_n 3, 1) := by decide +kernel
theorem dX0_stepsIntoTheDark_53 : decode cX0_stepsIntoTheDark 53 = .ok (.iaload, 1) := by decide +kernel
theorem dX0_stepsIntoTheDark_54 : decode cX0_stepsIntoTheDark 54 = .ok (.ireturn, 1) := by decide +kernel
theorem dX0_stepsIntoTheDark_55 : decode cX0_stepsIntoTheDark 55 = .ok (.iconst 0, 1) := by decide +kernel
theorem dX0_stepsIntoTheDark_56 : decode cX0_stepsIntoTheDark 56 = .ok (.istore 4, 2) := by decide +kernel
theorem dX0_stepsIntoTheDark_58 : decode cX0_stepsIntoTheDark 58 = .ok (.iload 4, 2) := by decide +kernel
theorem dX0_stepsIntoTheDark_60 : decode cX0_stepsIntoTheDark 60 = .ok (.iconst 4, 1) := by decide +kernel
theorem dX0_stepsIntoTheDark_61 : decode cX0_stepsIntoTheDark 61 = .ok (.if_icmp .ge 37, 3) := by decide +kernel
theorem dX0_stepsIntoTheDark_64 : decode cX0_stepsIntoTheDark 64 = .ok (.iload_n 3, 1) := by decide +kernel
theorem dX0_stepsIntoTheDark_65 : decode cX0_stepsIntoTheDark 65 = .ok (.iload 4, 2) := by decide +kernel
theorem dX0_stepsIntoTheDark_67 : decode cX0_stepsIntoTheDark 67 = .ok (.invokestatic 37, 3) := by decide +kernel
theorem dX0_stepsIntoTheDark_70 : decode cX0_stepsIntoTheDark 70 = .ok (.ifCond .le 22, 3) := by decide +kernel
theorem dX0_stepsIntoTheDark_73 : decode cX0_stepsIntoTheDark 73 = .ok (.aload_n 0, 1) := by decide +kernel
theorem dX0_stepsIntoTheDark_74 : decode cX0_stepsIntoTheDark 74 = .ok (.iload_n 3, 1) := by decide +kernel
theorem dX0_stepsIntoTheDark_75 : decode cX0_stepsIntoTheDark 75 = .ok (.iload 4, 2) := by decide +kernel
theorem dX0_stepsIntoTheDark_77 : decode cX0_stepsIntoTheDark 77 = .ok (.iconst 1, 1) := by decide +kernel
theorem dX0_stepsIntoTheDark_78 : decode cX0_stepsIntoTheDark 78 = .ok (.invokestatic 41, 3) := by decide +kernel
theorem dX0_stepsIntoTheDark_81 : decode cX0_stepsIntoTheDark 81 = .ok (.aload_n 0, 1) := by decide +kernel
theorem dX0_stepsIntoTheDark_82 : decode cX0_stepsIntoTheDark 82 = .ok (.getfield 18, 3) := by decide +kernel
theorem dX0_stepsIntoTheDark_85 : decode cX0_stepsIntoTheDark 85 = .ok (.iload_n 3, 1) := by decide +kernel
theorem dX0_stepsIntoTheDark_86 : decode cX0_stepsIntoTheDark 86 = .ok (.iaload, 1) := by decide +kernel
theorem dX0_stepsIntoTheDark_87 : decode cX0_stepsIntoTheDark 87 = .ok (.iconst 1, 1) := by decide +kernel
theorem dX0_stepsIntoTheDark_88 : decode cX0_stepsIntoTheDark 88 = .ok (.iadd, 1) := by decide +kernel
theorem dX0_stepsIntoTheDark_89 : decode cX0_stepsIntoTheDark 89 = .ok (.invokevirtual 33, 3) := by decide +kernel
theorem dX0_stepsIntoTheDark_92 : decode cX0_stepsIntoTheDark 92 = .ok (.iinc 4 1, 3) := by decide +kernel
theorem dX0_stepsIntoTheDark_95 : decode cX0_stepsIntoTheDark 95 = .ok (.goto (-37), 3) := by decide +kernel
theorem dX0_stepsIntoTheDark_98 : decode cX0_stepsIntoTheDark 98 = .ok (.iinc 2 1, 3) := by decide +kernel
theorem dX0_stepsIntoTheDark_101 : decode cX0_stepsIntoTheDark 101 = .ok (.goto (-93), 3) := by decide +kernel
theorem dX0_stepsIntoTheDark_104 : decode cX0_stepsIntoTheDark 104 = .ok (.bipush (-5), 2) := by decide +kernel
theorem dX0_stepsIntoTheDark_106 : decode cX0_stepsIntoTheDark 106 = .ok (.ireturn, 1) := by decide +kernel
theorem dX0_enter_0 : decode cX0_enter 0 = .ok (.iload_n 1, 1) := by decide +kernel
theorem dX0_enter_1 : decode cX0_enter 1 = .ok (.invokestatic 29, 3) := by decide +kernel
theorem dX0_enter_4 : decode cX0_enter 4 = .ok (.ifCond .eq 55, 3) := by decide +kernel
theorem dX0_enter_7 : decode cX0_enter 7 = .ok (.aload_n 0, 1) := by decide +kernel
theorem dX0_enter_8 : decode cX0_enter 8 = .ok (.getfield 15, 3) := by decide +kernel
theorem dX0_enter_11 : decode cX0_enter 11 = .ok (.iload_n 1, 1) := by decide +kernel
theorem dX0_enter_12 : decode cX0_enter 12 = .ok (.baload, 1) := by decide +kernel
theorem dX0_enter_13 : decode cX0_enter 13 = .ok (.ifCond .ne 46, 3) := by decide +kernel
theorem dX0_enter_16 : decode cX0_enter 16 = .ok (.aload_n 0, 1) := by decide +kernel
theorem dX0_enter_17 : decode cX0_enter 17 = .ok (.getfield 25, 3) := by decide +kernel
theorem dX0_enter_20 : decode cX0_enter 20 = .ok (.bipush 100, 2) := by decide +kernel
theorem dX0_enter_22 : decode cX0_enter 22 = .ok (.if_icmp .ge 37, 3) := by decide +kernel
theorem dX0_enter_25 : decode cX0_enter 25 = .ok (.aload_n 0, 1) := by decide +kernel
theorem dX0_enter_26 : decode cX0_enter 26 = .ok (.getfield 15, 3) := by decide +kernel
theorem dX0_enter_29 : decode cX0_enter 29 = .ok (.iload_n 1, 1) := by decide +kernel
theorem dX0_enter_30 : decode cX0_enter 30 = .ok (.iconst 1, 1) := by decide +kernel
theorem dX0_enter_31 : decode cX0_enter 31 = .ok (.bastore, 1) := by decide +kernel
theorem dX0_enter_32 : decode cX0_enter 32 = .ok (.aload_n 0, 1) := by decide +kernel
theorem dX0_enter_33 : decode cX0_enter 33 = .ok (.getfield 18, 3) := by decide +kernel
theorem dX0_enter_36 : decode cX0_enter 36 = .ok (.iload_n 1, 1) := by decide +kernel
theorem dX0_enter_37 : decode cX0_enter 37 = .ok (.iload_n 2, 1) := by decide +kernel
theorem dX0_enter_38 : decode cX0_enter 38 = .ok (.iastore, 1) := by decide +kernel
theorem dX0_enter_39 : decode cX0_enter 39 = .ok (.aload_n 0, 1) := by decide +kernel
theorem dX0_enter_40 : decode cX0_enter 40 = .ok (.getfield 22, 3) := by decide +kernel
theorem dX0_enter_43 : decode cX0_enter 43 = .ok (.aload_n 0, 1) := by decide +kernel
theorem dX0_enter_44 : decode cX0_enter 44 = .ok (.getfield 25, 3) := by decide +kernel
theorem dX0_enter_47 : decode cX0_enter 47 = .ok (.iload_n 1, 1) := by decide +kernel
theorem dX0_enter_48 : decode cX0_enter 48 = .ok (.iastore, 1) := by decide +kernel
theorem dX0_enter_49 : decode cX0_enter 49 = .ok (.aload_n 0, 1) := by decide +kernel
theorem dX0_enter_50 : decode cX0_enter 50 = .ok (.dup, 1) := by decide +kernel
theorem dX0_enter_51 : decode cX0_enter 51 = .ok (.getfield 25, 3) := by decide +kernel
theorem dX0_enter_54 : decode cX0_enter 54 = .ok (.iconst 1, 1) := by decide +kernel
theorem dX0_enter_55 : decode cX0_enter 55 = .ok (.iadd, 1) := by decide +kernel
theorem dX0_enter_56 : decode cX0_enter 56 = .ok (.putfield 25, 3) := by decide +kernel
theorem dX0_enter_59 : decode cX0_enter 59 = .ok (.return_, 1) := by decide +kernel
theorem dX1_init_0 : decode cX1_init 0 = .ok (.aload_n 0, 1) := by decide +kernel
theorem dX1_init_1 : decode cX1_init 1 = .ok (.invokespecial 3, 3) := by decide +kernel
theorem dX1_init_4 : decode cX1_init 4 = .ok (.aload_n 0, 1) := by decide +kernel
theorem dX1_init_5 : decode cX1_init 5 = .ok (.bipush 60, 2) := by decide +kernel
theorem dX1_init_7 : decode cX1_init 7 = .ok (.newarray .char, 2) := by decide +kernel
theorem dX1_init_9 : decode cX1_init 9 = .ok (.putfield 9, 3) := by decide +kernel
theorem dX1_init_12 : decode cX1_init 12 = .ok (.aload_n 0, 1) := by decide +kernel
theorem dX1_init_13 : decode cX1_init 13 = .ok (.iconst 0, 1) := by decide +kernel
theorem dX1_init_14 : decode cX1_init 14 = .ok (.putfield 15, 3) := by decide +kernel
theorem dX1_init_17 : decode cX1_init 17 = .ok (.aload_n 0, 1) := by decide +kernel
theorem dX1_init_18 : decode cX1_init 18 = .ok (.iconst 0, 1) := by decide +kernel
theorem dX1_init_19 : decode cX1_init 19 = .ok (.putfield 19, 3) := by decide +kernel
theorem dX1_init_22 : decode cX1_init 22 = .ok (.aload_n 0, 1) := by decide +kernel
theorem dX1_init_23 : decode cX1_init 23 = .ok (.bipush 20, 2) := by decide +kernel
theorem dX1_init_25 : decode cX1_init 25 = .ok (.newarray .int, 2) := by decide +kernel
theorem dX1_init_27 : decode cX1_init 27 = .ok (.putfield 22, 3) := by decide +kernel
theorem dX1_init_30 : decode cX1_init 30 = .ok (.aload_n 0, 1) := by decide +kernel
theorem dX1_init_31 : decode cX1_init 31 = .ok (.bipush 20, 2) := by decide +kernel
theorem dX1_init_33 : decode cX1_init 33 = .ok (.newarray .int, 2) := by decide +kernel
theorem dX1_init_35 : decode cX1_init 35 = .ok (.putfield 26, 3) := by decide +kernel
theorem dX1_init_38 : decode cX1_init 38 = .ok (.aload_n 0, 1) := by decide +kernel
theorem dX1_init_39 : decode cX1_init 39 = .ok (.bipush 20, 2) := by decide +kernel
theorem dX1_init_41 : decode cX1_init 41 = .ok (.newarray .int, 2) := by decide +kernel
theorem dX1_init_43 : decode cX1_init 43 = .ok (.putfield 29, 3) := by decide +kernel
theorem dX1_init_46 : decode cX1_init 46 = .ok (.aload_n 0, 1) := by decide +kernel
theorem dX1_init_47 : decode cX1_init 47 = .ok (.iconst 0, 1) := by decide +kernel
theorem dX1_init_48 : decode cX1_init 48 = .ok (.putfield 32, 3) := by decide +kernel
theorem dX1_init_51 : decode cX1_init 51 = .ok (.return_, 1) := by decide +kernel
theorem dX2_init_0 : decode cX2_init 0 = .ok (.aload_n 0, 1) := by decide +kernel
theorem dX2_init_1 : decode cX2_init 1 = .ok (.invokespecial 3, 3) := by decide +kernel
theorem dX2_init_4 : decode cX2_init 4 = .ok (.aload_n 0, 1) := by decide +kernel
theorem dX2_init_5 : decode cX2_init 5 = .ok (.iconst 4, 1) := by decide +kernel
theorem dX2_init_6 : decode cX2_init 6 = .ok (.anewarray 9, 3) := by decide +kernel
theorem dX2_init_9 : decode cX2_init 9 = .ok (.putfield 11, 3) := by decide +kernel
theorem dX2_init_12 : decode cX2_init 12 = .ok (.aload_n 0, 1) := by decide +kernel
theorem dX2_init_13 : decode cX2_init 13 = .ok (.iconst 0, 1) := by decide +kernel
theorem dX2_init_14 : decode cX2_init 14 = .ok (.putfield 17, 3) := by decide +kernel
theorem dX2_init_17 : decode cX2_init 17 = .ok (.aload_n 0, 1) := by decide +kernel
theorem dX2_init_18 : decode cX2_init 18 = .ok (.iconst 0, 1) := by decide +kernel
theorem dX2_init_19 : decode cX2_init 19 = .ok (.putfield 21, 3) := by decide +kernel
theorem dX2_init_22 : decode cX2_init 22 = .ok (.iconst 0, 1) := by decide +kernel
theorem dX2_init_23 : decode cX2_init 23 = .ok (.istore_n 1, 1) := by decide +kernel
theorem dX2_init_24 : decode cX2_init 24 = .ok (.iload_n 1, 1) := by decide +kernel
theorem dX2_init_25 : decode cX2_init 25 = .ok (.iconst 4, 1) := by decide +kernel
theorem dX2_init_26 : decode cX2_init 26 = .ok (.if_icmp .ge 22, 3) := by decide +kernel
theorem dX2_init_29 : decode cX2_init 29 = .ok (.aload_n 0, 1) := by decide +kernel
theorem dX2_init_30 : decode cX2_init 30 = .ok (.getfield 11, 3) := by decide +kernel
theorem dX2_init_33 : decode cX2_init 33 = .ok (.iload_n 1, 1) := by decide +kernel
theorem dX2_init_34 : decode cX2_init 34 = .ok (.new 9, 3) := by decide +kernel
theorem dX2_init_37 : decode cX2_init 37 = .ok (.dup, 1) := by decide +kernel
theorem dX2_init_38 : decode cX2_init 38 = .ok (.invokespecial 24, 3) := by decide +kernel
theorem dX2_init_41 : decode cX2_init 41 = .ok (.aastore, 1) := by decide +kernel
theorem dX2_init_42 : decode cX2_init 42 = .ok (.iinc 1 1, 3) := by decide +kernel
theorem dX2_init_45 : decode cX2_init 45 = .ok (.goto (-21), 3) := by decide +kernel
theorem dX2_init_48 : decode cX2_init 48 = .ok (.return_, 1) := by decide +kernel
theorem dX2_record_0 : decode cX2_record 0 = .ok (.aload_n 0, 1) := by decide +kernel
theorem dX2_record_1 : decode cX2_record 1 = .ok (.aload_n 0, 1) := by decide +kernel
theorem dX2_record_2 : decode cX2_record 2 = .ok (.getfield 17, 3) := by decide +kernel
theorem dX2_record_5 : decode cX2_record 5 = .ok (.aload_n 0, 1) := by decide +kernel
theorem dX2_record_6 : decode cX2_record 6 = .ok (.getfield 21, 3) := by decide +kernel
theorem dX2_record_9 : decode cX2_record 9 = .ok (.iadd, 1) := by decide +kernel
theorem dX2_record_10 : decode cX2_record 10 = .ok (.invokevirtual 25, 3) := by decide +kernel
theorem dX2_record_13 : decode cX2_record 13 = .ok (.astore_n 2, 1) := by decide +kernel
theorem dX2_record_14 : decode cX2_record 14 = .ok (.aload_n 2, 1) := by decide +kernel
theorem dX2_record_15 : decode cX2_record 15 = .ok (.ifnonnull 4, 3) := by decide +kernel
theorem dX2_record_18 : decode cX2_record 18 = .ok (.return_, 1) := by decide +kernel
theorem dX2_record_19 : decode cX2_record 19 = .ok (.aload_n 2, 1) := by decide +kernel
theorem dX2_record_20 : decode cX2_record 20 = .ok (.aload_n 1, 1) := by decide +kernel
theorem dX2_record_21 : decode cX2_record 21 = .ok (.invokevirtual 29, 3) := by decide +kernel
theorem dX2_record_24 : decode cX2_record 24 = .ok (.aload_n 0, 1) := by decide +kernel
theorem dX2_record_25 : decode cX2_record 25 = .ok (.getfield 21, 3) := by decide +kernel
theorem dX2_record_28 : decode cX2_record 28 = .ok (.iconst 4, 1) := by decide +kernel
theorem dX2_record_29 : decode cX2_record 29 = .ok (.if_icmp .ge 16, 3) := by decide +kernel
theorem dX2_record_32 : decode cX2_record 32 = .ok (.aload_n 0, 1) := by decide +kernel
theorem dX2_record_33 : decode cX2_record 33 = .ok (.dup, 1) := by decide +kernel
theorem dX2_record_34 : decode cX2_record 34 = .ok (.getfield 21, 3) := by decide +kernel
theorem dX2_record_37 : decode cX2_record 37 = .ok (.iconst 1, 1) := by decide +kernel
theorem dX2_record_38 : decode cX2_record 38 = .ok (.iadd, 1) := by decide +kernel
theorem dX2_record_39 : decode cX2_record 39 = .ok (.putfield 21, 3) := by decide +kernel
theorem dX2_record_42 : decode cX2_record 42 = .ok (.goto 15, 3) := by decide +kernel
theorem dX2_record_45 : decode cX2_record 45 = .ok (.aload_n 0, 1) := by decide +kernel
theorem dX2_record_46 : decode cX2_record 46 = .ok (.aload_n 0, 1) := by decide +kernel
theorem dX2_record_47 : decode cX2_record 47 = .ok (.getfield 17, 3) := by decide +kernel
theorem dX2_record_50 : decode cX2_record 50 = .ok (.iconst 1, 1) := by decide +kernel
theorem dX2_record_51 : decode cX2_record 51 = .ok (.iadd, 1) := by decide +kernel
theorem dX2_record_52 : decode cX2_record 52 = .ok (.iconst 4, 1) := by decide +kernel
theorem dX2_record_53 : decode cX2_record 53 = .ok (.irem, 1) := by decide +kernel
theorem dX2_record_54 : decode cX2_record 54 = .ok (.putfield 17, 3) := by decide +kernel
theorem dX2_record_57 : decode cX2_record 57 = .ok (.return_, 1) := by decide +kernel
theorem dX2_ringPlace_0 : decode cX2_ringPlace 0 = .ok (.iload_n 1, 1) := by decide +kernel
theorem dX2_ringPlace_1 : decode cX2_ringPlace 1 = .ok (.ifCond .ge 7, 3) := by decide +kernel
theorem dX2_ringPlace_4 : decode cX2_ringPlace 4 = .ok (.aconst_null, 1) := by decide +kernel
theorem dX2_ringPlace_5 : decode cX2_ringPlace 5 = .ok (.goto 11, 3) := by decide +kernel
theorem dX2_ringPlace_8 : decode cX2_ringPlace 8 = .ok (.aload_n 0, 1) := by decide +kernel
theorem dX2_ringPlace_9 : decode cX2_ringPlace 9 = .ok (.getfield 11, 3) := by decide +kernel
theorem dX2_ringPlace_12 : decode cX2_ringPlace 12 = .ok (.iload_n 1, 1) := by decide +kernel
theorem dX2_ringPlace_13 : decode cX2_ringPlace 13 = .ok (.iconst 4, 1) := by decide +kernel
theorem dX2_ringPlace_14 : decode cX2_ringPlace 14 = .ok (.irem, 1) := by decide +kernel
theorem dX2_ringPlace_15 : decode cX2_ringPlace 15 = .ok (.aaload, 1) := by decide +kernel
theorem dX2_ringPlace_16 : decode cX2_ringPlace 16 = .ok (.areturn, 1) := by decide +kernel
theorem dX3_init_0 : decode cX3_init 0 = .ok (.aload_n 0, 1) := by decide +kernel
theorem dX3_init_1 : decode cX3_init 1 = .ok (.invokespecial 3, 3) := by decide +kernel
theorem dX3_init_4 : decode cX3_init 4 = .ok (.aload_n 0, 1) := by decide +kernel
theorem dX3_init_5 : decode cX3_init 5 = .ok (.iconst 3, 1) := by decide +kernel
theorem dX3_init_6 : decode cX3_init 6 = .ok (.newarray .int, 2) := by decide +kernel
theorem dX3_init_8 : decode cX3_init 8 = .ok (.dup, 1) := by decide +kernel
theorem dX3_init_9 : decode cX3_init 9 = .ok (.iconst 0, 1) := by decide +kernel
theorem dX3_init_10 : decode cX3_init 10 = .ok (.iconst 0, 1) := by decide +kernel
theorem dX3_init_11 : decode cX3_init 11 = .ok (.iastore, 1) := by decide +kernel
theorem dX3_init_12 : decode cX3_init 12 = .ok (.dup, 1) := by decide +kernel
theorem dX3_init_13 : decode cX3_init 13 = .ok (.iconst 1, 1) := by decide +kernel
theorem dX3_init_14 : decode cX3_init 14 = .ok (.iconst 1, 1) := by decide +kernel
theorem dX3_init_15 : decode cX3_init 15 = .ok (.iastore, 1) := by decide +kernel
theorem dX3_init_16 : decode cX3_init 16 = .ok (.dup, 1) := by decide +kernel
theorem dX3_init_17 : decode cX3_init 17 = .ok (.iconst 2, 1) := by decide +kernel
theorem dX3_init_18 : decode cX3_init 18 = .ok (.iconst 2, 1) := by decide +kernel
theorem dX3_init_19 : decode cX3_init 19 = .ok (.iastore, 1) := by decide +kernel
theorem dX3_init_20 : decode cX3_init 20 = .ok (.putfield 9, 3) := by decide +kernel
theorem dX3_init_23 : decode cX3_init 23 = .ok (.aload_n 0, 1) := by decide +kernel
theorem dX3_init_24 : decode cX3_init 24 = .ok (.iconst 3, 1) := by decide +kernel
theorem dX3_init_25 : decode cX3_init 25 = .ok (.newarray .int, 2) := by decide +kernel
theorem dX3_init_27 : decode cX3_init 27 = .ok (.dup, 1) := by decide +kernel
theorem dX3_init_28 : decode cX3_init 28 = .ok (.iconst 0, 1) := by decide +kernel
theorem dX3_init_29 : decode cX3_init 29 = .ok (.iconst 1, 1) := by decide +kernel
theorem dX3_init_30 : decode cX3_init 30 = .ok (.iastore, 1) := by decide +kernel
theorem dX3_init_31 : decode cX3_init 31 = .ok (.dup, 1) := by decide +kernel
theorem dX3_init_32 : decode cX3_init 32 = .ok (.iconst 1, 1) := by decide +kernel
theorem dX3_init_33 : decode cX3_init 33 = .ok (.iconst 1, 1) := by decide +kernel
theorem dX3_init_34 : decode cX3_init 34 = .ok (.iastore, 1) := by decide +kernel
theorem dX3_init_35 : decode cX3_init 35 = .ok (.dup, 1) := by decide +kernel
theorem dX3_init_36 : decode cX3_init 36 = .ok (.iconst 2, 1) := by decide +kernel
theorem dX3_init_37 : decode cX3_init 37 = .ok (.iconst 1, 1) := by decide +kernel
theorem dX3_init_38 : decode cX3_init 38 = .ok (.iastore, 1) := by decide +kernel
theorem dX3_init_39 : decode cX3_init 39 = .ok (.putfield 15, 3) := by decide +kernel
theorem dX3_init_42 : decode cX3_init 42 = .ok (.aload_n 0, 1) := by decide +kernel
theorem dX3_init_43 : decode cX3_init 43 = .ok (.iconst 3, 1) := by decide +kernel
theorem dX3_init_44 : decode cX3_init 44 = .ok (.newarray .int, 2) := by decide +kernel
theorem dX3_init_46 : decode cX3_init 46 = .ok (.dup, 1) := by decide +kernel
theorem dX3_init_47 : decode cX3_init 47 = .ok (.iconst 0, 1) := by decide +kernel
theorem dX3_init_48 : decode cX3_init 48 = .ok (.iconst 0, 1) := by decide +kernel
theorem dX3_init_49 : decode cX3_init 49 = .ok (.iastore, 1) := by decide +kernel
theorem dX3_init_50 : decode cX3_init 50 = .ok (.dup, 1) := by decide +kernel
theorem dX3_init_51 : decode cX3_init 51 = .ok (.iconst 1, 1) := by decide +kernel
theorem dX3_init_52 : decode cX3_init 52 = .ok (.iconst 0, 1) := by decide +kernel
theorem dX3_init_53 : decode cX3_init 53 = .ok (.iastore, 1) := by decide +kernel
theorem dX3_init_54 : decode cX3_init 54 = .ok (.dup, 1) := by decide +kernel
theorem dX3_init_55 : decode cX3_init 55 = .ok (.iconst 2, 1) := by decide +kernel
theorem dX3_init_56 : decode cX3_init 56 = .ok (.iconst 0, 1) := by decide +kernel
theorem dX3_init_57 : decode cX3_init 57 = .ok (.iastore, 1) := by decide +kernel
theorem dX3_init_58 : decode cX3_init 58 = .ok (.putfield 18, 3) := by decide +kernel
theorem dX3_init_61 : decode cX3_init 61 = .ok (.aload_n 0, 1) := by decide +kernel
theorem dX3_init_62 : decode cX3_init 62 = .ok (.iconst 3, 1) := by decide +kernel
theorem dX3_init_63 : decode cX3_init 63 = .ok (.newarray .int, 2) := by decide +kernel
theorem dX3_init_65 : decode cX3_init 65 = .ok (.dup, 1) := by decide +kernel
theorem dX3_init_66 : decode cX3_init 66 = .ok (.iconst 0, 1) := by decide +kernel
theorem dX3_init_67 : decode cX3_init 67 = .ok (.iconst 1, 1) := by decide +kernel
theorem dX3_init_68 : decode cX3_init 68 = .ok (.iastore, 1) := by decide +kernel
theorem dX3_init_69 : decode cX3_init 69 = .ok (.dup, 1) := by decide +kernel
theorem dX3_init_70 : decode cX3_init 70 = .ok (.iconst 1, 1) := by decide +kernel
theorem dX3_init_71 : decode cX3_init 71 = .ok (.iconst 1, 1) := by decide +kernel
theorem dX3_init_72 : decode cX3_init 72 = .ok (.iastore, 1) := by decide +kernel
theorem dX3_init_73 : decode cX3_init 73 = .ok (.dup, 1) := by decide +kernel
theorem dX3_init_74 : decode cX3_init 74 = .ok (.iconst 2, 1) := by decide +kernel
theorem dX3_init_75 : decode cX3_init 75 = .ok (.iconst 1, 1) := by decide +kernel
theorem dX3_init_76 : decode cX3_init 76 = .ok (.iastore, 1) := by decide +kernel
theorem dX3_init_77 : decode cX3_init 77 = .ok (.putfield 21, 3) := by decide +kernel
theorem dX3_init_80 : decode cX3_init 80 = .ok (.return_, 1) := by decide +kernel
theorem dX3_copyFrom_0 : decode cX3_copyFrom 0 = .ok (.aload_n 1, 1) := by decide +kernel
theorem dX3_copyFrom_1 : decode cX3_copyFrom 1 = .ok (.getfield 9, 3) := by decide +kernel
theorem dX3_copyFrom_4 : decode cX3_copyFrom 4 = .ok (.aload_n 0, 1) := by decide +kernel
theorem dX3_copyFrom_5 : decode cX3_copyFrom 5 = .ok (.getfield 9, 3) := by decide +kernel
theorem dX3_copyFrom_8 : decode cX3_copyFrom 8 = .ok (.invokestatic 24, 3) := by decide +kernel
theorem dX3_copyFrom_11 : decode cX3_copyFrom 11 = .ok (.aload_n 1, 1) := by decide +kernel
theorem dX3_copyFrom_12 : decode cX3_copyFrom 12 = .ok (.getfield 15, 3) := by decide +kernel
theorem dX3_copyFrom_15 : decode cX3_copyFrom 15 = .ok (.aload_n 0, 1) := by decide +kernel
theorem dX3_copyFrom_16 : decode cX3_copyFrom 16 = .ok (.getfield 15, 3) := by decide +kernel
theorem dX3_copyFrom_19 : decode cX3_copyFrom 19 = .ok (.invokestatic 24, 3) := by decide +kernel
theorem dX3_copyFrom_22 : decode cX3_copyFrom 22 = .ok (.aload_n 1, 1) := by decide +kernel
theorem dX3_copyFrom_23 : decode cX3_copyFrom 23 = .ok (.getfield 18, 3) := by decide +kernel
theorem dX3_copyFrom_26 : decode cX3_copyFrom 26 = .ok (.aload_n 0, 1) := by decide +kernel
theorem dX3_copyFrom_27 : decode cX3_copyFrom 27 = .ok (.getfield 18, 3) := by decide +kernel
theorem dX3_copyFrom_30 : decode cX3_copyFrom 30 = .ok (.invokestatic 24, 3) := by decide +kernel
theorem dX3_copyFrom_33 : decode cX3_copyFrom 33 = .ok (.aload_n 1, 1) := by decide +kernel
theorem dX3_copyFrom_34 : decode cX3_copyFrom 34 = .ok (.getfield 21, 3) := by decide +kernel
theorem dX3_copyFrom_37 : decode cX3_copyFrom 37 = .ok (.aload_n 0, 1) := by decide +kernel
theorem dX3_copyFrom_38 : decode cX3_copyFrom 38 = .ok (.getfield 21, 3) := by decide +kernel
theorem dX3_copyFrom_41 : decode cX3_copyFrom 41 = .ok (.invokestatic 24, 3) := by decide +kernel
theorem dX3_copyFrom_44 : decode cX3_copyFrom 44 = .ok (.return_, 1) := by decide +kernel
theorem dX3_burning_0 : decode cX3_burning 0 = .ok (.iconst 0, 1) := by decide +kernel
theorem dX3_burning_1 : decode cX3_burning 1 = .ok (.istore_n 1, 1) := by decide +kernel
theorem dX3_burning_2 : decode cX3_burning 2 = .ok (.iconst 0, 1) := by decide +kernel
theorem dX3_burning_3 : decode cX3_burning 3 = .ok (.istore_n 2, 1) := by decide +kernel
theorem dX3_burning_4 : decode cX3_burning 4 = .ok (.iload_n 2, 1) := by decide +kernel
theorem dX3_burning_5 : decode cX3_burning 5 = .ok (.iconst 3, 1) := by decide +kernel
theorem dX3_burning_6 : decode cX3_burning 6 = .ok (.if_icmp .ge 18, 3) := by decide +kernel
theorem dX3_burning_9 : decode cX3_burning 9 = .ok (.iload_n 1, 1) := by decide +kernel
theorem dX3_burning_10 : decode cX3_burning 10 = .ok (.aload_n 0, 1) := by decide +kernel
theorem dX3_burning_11 : decode cX3_burning 11 = .ok (.getfield 21, 3) := by decide +kernel
theorem dX3_burning_14 : decode cX3_burning 14 = .ok (.iload_n 2, 1) := by decide +kernel
theorem dX3_burning_15 : decode cX3_burning 15 = .ok (.iaload, 1) := by decide +kernel
theorem dX3_burning_16 : decode cX3_burning 16 = .ok (.iadd, 1) := by decide +kernel
theorem dX3_burning_17 : decode cX3_burning 17 = .ok (.istore_n 1, 1) := by decide +kernel
theorem dX3_burning_18 : decode cX3_burning 18 = .ok (.iinc 2 1, 3) := by decide +kernel
theorem dX3_burning_21 : decode cX3_burning 21 = .ok (.goto (-17), 3) := by decide +kernel
theorem dX3_burning_24 : decode cX3_burning 24 = .ok (.iload_n 1, 1) := by decide +kernel
theorem dX3_burning_25 : decode cX3_burning 25 = .ok (.ireturn, 1) := by decide +kernel
theorem dX3_switchTo_0 : decode cX3_switchTo 0 = .ok (.aload_n 0, 1) := by decide +kernel
theorem dX3_switchTo_1 : decode cX3_switchTo 1 = .ok (.getfield 21, 3) := by decide +kernel
theorem dX3_switchTo_4 : decode cX3_switchTo 4 = .ok (.iload_n 1, 1) := by decide +kernel
theorem dX3_switchTo_5 : decode cX3_switchTo 5 = .ok (.iload_n 2, 1) := by decide +kernel
theorem dX3_switchTo_6 : decode cX3_switchTo 6 = .ok (.iconst 0, 1) := by decide +kernel
theorem dX3_switchTo_7 : decode cX3_switchTo 7 = .ok (.iconst 1, 1) := by decide +kernel
theorem dX3_switchTo_8 : decode cX3_switchTo 8 = .ok (.invokestatic 28, 3) := by decide +kernel
theorem dX3_switchTo_11 : decode cX3_switchTo 11 = .ok (.istore_n 3, 1) := by decide +kernel
theorem dX3_switchTo_12 : decode cX3_switchTo 12 = .ok (.iload_n 3, 1) := by decide +kernel
theorem dX3_switchTo_13 : decode cX3_switchTo 13 = .ok (.ifCond .ge 7, 3) := by decide +kernel
theorem dX3_switchTo_16 : decode cX3_switchTo 16 = .ok (.iload_n 3, 1) := by decide +kernel
theorem dX3_switchTo_17 : decode cX3_switchTo 17 = .ok (.goto 7, 3) := by decide +kernel
theorem dX3_switchTo_20 : decode cX3_switchTo 20 = .ok (.aload_n 0, 1) := by decide +kernel
theorem dX3_switchTo_21 : decode cX3_switchTo 21 = .ok (.invokevirtual 32, 3) := by decide +kernel
theorem dX3_switchTo_24 : decode cX3_switchTo 24 = .ok (.ireturn, 1) := by decide +kernel
theorem dX3_adjust_0 : decode cX3_adjust 0 = .ok (.iload_n 1, 1) := by decide +kernel
theorem dX3_adjust_1 : decode cX3_adjust 1 = .ok (.invokestatic 36, 3) := by decide +kernel
theorem dX3_adjust_4 : decode cX3_adjust 4 = .ok (.ifCond .ne 5, 3) := by decide +kernel
theorem dX3_adjust_7 : decode cX3_adjust 7 = .ok (.iconst (-1), 1) := by decide +kernel
theorem dX3_adjust_8 : decode cX3_adjust 8 = .ok (.ireturn, 1) := by decide +kernel
theorem dX3_adjust_9 : decode cX3_adjust 9 = .ok (.iload_n 2, 1) := by decide +kernel
theorem dX3_adjust_10 : decode cX3_adjust 10 = .ok (.tableswitch 63 0 2 #[26, 38, 50], 26) := by decide +kernel
theorem dX3_adjust_36 : decode cX3_adjust 36 = .ok (.aload_n 0, 1) := by decide +kernel
theorem dX3_adjust_37 : decode cX3_adjust 37 = .ok (.getfield 9, 3) := by decide +kernel
theorem dX3_adjust_40 : decode cX3_adjust 40 = .ok (.iload_n 1, 1) := by decide +kernel
theorem dX3_adjust_41 : decode cX3_adjust 41 = .ok (.iload_n 3, 1) := by decide +kernel
theorem dX3_adjust_42 : decode cX3_adjust 42 = .ok (.iconst 0, 1) := by decide +kernel
theorem dX3_adjust_43 : decode cX3_adjust 43 = .ok (.iconst 3, 1) := by decide +kernel
theorem dX3_adjust_44 : decode cX3_adjust 44 = .ok (.invokestatic 28, 3) := by decide +kernel
theorem dX3_adjust_47 : decode cX3_adjust 47 = .ok (.ireturn, 1) := by decide +kernel
theorem dX3_adjust_48 : decode cX3_adjust 48 = .ok (.aload_n 0, 1) := by decide +kernel
theorem dX3_adjust_49 : decode cX3_adjust 49 = .ok (.getfield 15, 3) := by decide +kernel
theorem dX3_adjust_52 : decode cX3_adjust 52 = .ok (.iload_n 1, 1) := by decide +kernel
theorem dX3_adjust_53 : decode cX3_adjust 53 = .ok (.iload_n 3, 1) := by decide +kernel
theorem dX3_adjust_54 : decode cX3_adjust 54 = .ok (.iconst 1, 1) := by decide +kernel
theorem dX3_adjust_55 : decode cX3_adjust 55 = .ok (.iconst 4, 1) := by decide +kernel
theorem dX3_adjust_56 : decode cX3_adjust 56 = .ok (.invokestatic 28, 3) := by decide +kernel
theorem dX3_adjust_59 : decode cX3_adjust 59 = .ok (.ireturn, 1) := by decide +kernel
theorem dX3_adjust_60 : decode cX3_adjust 60 = .ok (.aload_n 0, 1) := by decide +kernel
theorem dX3_adjust_61 : decode cX3_adjust 61 = .ok (.getfield 18, 3) := by decide +kernel
theorem dX3_adjust_64 : decode cX3_adjust 64 = .ok (.iload_n 1, 1) := by decide +kernel
theorem dX3_adjust_65 : decode cX3_adjust 65 = .ok (.iload_n 3, 1) := by decide +kernel
theorem dX3_adjust_66 : decode cX3_adjust 66 = .ok (.iconst 0, 1) := by decide +kernel
theorem dX3_adjust_67 : decode cX3_adjust 67 = .ok (.bipush 9, 2) := by decide +kernel
theorem dX3_adjust_69 : decode cX3_adjust 69 = .ok (.invokestatic 28, 3) := by decide +kernel
theorem dX3_adjust_72 : decode cX3_adjust 72 = .ok (.ireturn, 1) := by decide +kernel
theorem dX3_adjust_73 : decode cX3_adjust 73 = .ok (.bipush (-2), 2) := by decide +kernel
theorem dX3_adjust_75 : decode cX3_adjust 75 = .ok (.ireturn, 1) := by decide +kernel
theorem dX3_swingAtTurn_0 : decode cX3_swingAtTurn 0 = .ok (.iconst 0, 1) := by decide +kernel
theorem dX3_swingAtTurn_1 : decode cX3_swingAtTurn 1 = .ok (.istore_n 2, 1) := by decide +kernel
theorem dX3_swingAtTurn_2 : decode cX3_swingAtTurn 2 = .ok (.iload_n 2, 1) := by decide +kernel
theorem dX3_swingAtTurn_3 : decode cX3_swingAtTurn 3 = .ok (.iconst 3, 1) := by decide +kernel
theorem dX3_swingAtTurn_4 : decode cX3_swingAtTurn 4 = .ok (.if_icmp .ge 45, 3) := by decide +kernel
theorem dX3_swingAtTurn_7 : decode cX3_swingAtTurn 7 = .ok (.aload_n 0, 1) := by decide +kernel
theorem dX3_swingAtTurn_8 : decode cX3_swingAtTurn 8 = .ok (.getfield 18, 3) := by decide +kernel
theorem dX3_swingAtTurn_11 : decode cX3_swingAtTurn 11 = .ok (.iload_n 2, 1) := by decide +kernel
theorem dX3_swingAtTurn_12 : decode cX3_swingAtTurn 12 = .ok (.iaload, 1) := by decide +kernel
theorem dX3_swingAtTurn_13 : decode cX3_swingAtTurn 13 = .ok (.ifCond .eq 30, 3) := by decide +kernel
theorem dX3_swingAtTurn_16 : decode cX3_swingAtTurn 16 = .ok (.iload_n 1, 1) := by decide +kernel
theorem dX3_swingAtTurn_17 : decode cX3_swingAtTurn 17 = .ok (.aload_n 0, 1) := by decide +kernel
theorem dX3_swingAtTurn_18 : decode cX3_swingAtTurn 18 = .ok (.getfield 18, 3) := by decide +kernel
theorem dX3_swingAtTurn_21 : decode cX3_swingAtTurn 21 = .ok (.iload_n 2, 1) := by decide +kernel
theorem dX3_swingAtTurn_22 : decode cX3_swingAtTurn 22 = .ok (.iaload, 1) := by decide +kernel
theorem dX3_swingAtTurn_23 : decode cX3_swingAtTurn 23 = .ok (.irem, 1) := by decide +kernel
theorem dX3_swingAtTurn_24 : decode cX3_swingAtTurn 24 = .ok (.ifCond .ne 19, 3) := by decide +kernel
theorem dX3_swingAtTurn_27 : decode cX3_swingAtTurn 27 = .ok (.aload_n 0, 1) := by decide +kernel
theorem dX3_swingAtTurn_28 : decode cX3_swingAtTurn 28 = .ok (.getfield 9, 3) := by decide +kernel
theorem dX3_swingAtTurn_31 : decode cX3_swingAtTurn 31 = .ok (.iload_n 2, 1) := by decide +kernel
theorem dX3_swingAtTurn_32 : decode cX3_swingAtTurn 32 = .ok (.aload_n 0, 1) := by decide +kernel
theorem dX3_swingAtTurn_33 : decode cX3_swingAtTurn 33 = .ok (.getfield 9, 3) := by decide +kernel
theorem dX3_swingAtTurn_36 : decode cX3_swingAtTurn 36 = .ok (.iload_n 2, 1) := by decide +kernel
theorem dX3_swingAtTurn_37 : decode cX3_swingAtTurn 37 = .ok (.iaload, 1) := by decide +kernel
theorem dX3_swingAtTurn_38 : decode cX3_swingAtTurn 38 = .ok (.iconst 1, 1) := by decide +kernel
theorem dX3_swingAtTurn_39 : decode cX3_swingAtTurn 39 = .ok (.iadd, 1) := by decide +kernel
theorem dX3_swingAtTurn_40 : decode cX3_swingAtTurn 40 = .ok (.iconst 4, 1) := by decide +kernel
theorem dX3_swingAtTurn_41 : decode cX3_swingAtTurn 41 = .ok (.irem, 1) := by decide +kernel
theorem dX3_swingAtTurn_42 : decode cX3_swingAtTurn 42 = .ok (.iastore, 1) := by decide +kernel
theorem dX3_swingAtTurn_43 : decode cX3_swingAtTurn 43 = .ok (.iinc 2 1, 3) := by decide +kernel
theorem dX3_swingAtTurn_46 : decode cX3_swingAtTurn 46 = .ok (.goto (-44), 3) := by decide +kernel
theorem dX3_swingAtTurn_49 : decode cX3_swingAtTurn 49 = .ok (.return_, 1) := by decide +kernel
theorem dX4_init_0 : decode cX4_init 0 = .ok (.aload_n 0, 1) := by decide +kernel
theorem dX4_init_1 : decode cX4_init 1 = .ok (.invokespecial 3, 3) := by decide +kernel
theorem dX4_init_4 : decode cX4_init 4 = .ok (.aload_n 0, 1) := by decide +kernel
theorem dX4_init_5 : decode cX4_init 5 = .ok (.new 9, 3) := by decide +kernel
theorem dX4_init_8 : decode cX4_init 8 = .ok (.dup, 1) := by decide +kernel
theorem dX4_init_9 : decode cX4_init 9 = .ok (.invokespecial 11, 3) := by decide +kernel
theorem dX4_init_12 : decode cX4_init 12 = .ok (.putfield 12, 3) := by decide +kernel
theorem dX4_init_15 : decode cX4_init 15 = .ok (.aload_n 0, 1) := by decide +kernel
theorem dX4_init_16 : decode cX4_init 16 = .ok (.new 18, 3) := by decide +kernel
theorem dX4_init_19 : decode cX4_init 19 = .ok (.dup, 1) := by decide +kernel
theorem dX4_init_20 : decode cX4_init 20 = .ok (.invokespecial 20, 3) := by decide +kernel
theorem dX4_init_23 : decode cX4_init 23 = .ok (.putfield 21, 3) := by decide +kernel
theorem dX4_init_26 : decode cX4_init 26 = .ok (.aload_n 0, 1) := by decide +kernel
theorem dX4_init_27 : decode cX4_init 27 = .ok (.iconst 2, 1) := by decide +kernel
theorem dX4_init_28 : decode cX4_init 28 = .ok (.newarray .int, 2) := by decide +kernel
theorem dX4_init_30 : decode cX4_init 30 = .ok (.dup, 1) := by decide +kernel
theorem dX4_init_31 : decode cX4_init 31 = .ok (.iconst 0, 1) := by decide +kernel
theorem dX4_init_32 : decode cX4_init 32 = .ok (.iconst 3, 1) := by decide +kernel
theorem dX4_init_33 : decode cX4_init 33 = .ok (.iastore, 1) := by decide +kernel
theorem dX4_init_34 : decode cX4_init 34 = .ok (.dup, 1) := by decide +kernel
theorem dX4_init_35 : decode cX4_init 35 = .ok (.iconst 1, 1) := by decide +kernel
theorem dX4_init_36 : decode cX4_init 36 = .ok (.iconst 0, 1) := by decide +kernel
theorem dX4_init_37 : decode cX4_init 37 = .ok (.iastore, 1) := by decide +kernel
theorem dX4_init_38 : decode cX4_init 38 = .ok (.putfield 25, 3) := by decide +kernel
theorem dX4_init_41 : decode cX4_init 41 = .ok (.aload_n 0, 1) := by decide +kernel
theorem dX4_init_42 : decode cX4_init 42 = .ok (.iconst 0, 1) := by decide +kernel
theorem dX4_init_43 : decode cX4_init 43 = .ok (.putfield 29, 3) := by decide +kernel
theorem dX4_init_46 : decode cX4_init 46 = .ok (.aload_n 0, 1) := by decide +kernel
theorem dX4_init_47 : decode cX4_init 47 = .ok (.iconst 0, 1) := by decide +kernel
theorem dX4_init_48 : decode cX4_init 48 = .ok (.putfield 33, 3) := by decide +kernel
theorem dX4_init_51 : decode cX4_init 51 = .ok (.return_, 1) := by decide +kernel
theorem dX4_copyFrom_0 : decode cX4_copyFrom 0 = .ok (.aload_n 0, 1) := by decide +kernel
theorem dX4_copyFrom_1 : decode cX4_copyFrom 1 = .ok (.getfield 12, 3) := by decide +kernel
theorem dX4_copyFrom_4 : decode cX4_copyFrom 4 = .ok (.aload_n 1, 1) := by decide +kernel
theorem dX4_copyFrom_5 : decode cX4_copyFrom 5 = .ok (.getfield 12, 3) := by decide +kernel
theorem dX4_copyFrom_8 : decode cX4_copyFrom 8 = .ok (.invokevirtual 36, 3) := by decide +kernel
theorem dX4_copyFrom_11 : decode cX4_copyFrom 11 = .ok (.aload_n 0, 1) := by decide +kernel
theorem dX4_copyFrom_12 : decode cX4_copyFrom 12 = .ok (.getfield 21, 3) := by decide +kernel
theorem dX4_copyFrom_15 : decode cX4_copyFrom 15 = .ok (.aload_n 1, 1) := by decide +kernel
theorem dX4_copyFrom_16 : decode cX4_copyFrom 16 = .ok (.getfield 21, 3) := by decide +kernel
theorem dX4_copyFrom_19 : decode cX4_copyFrom 19 = .ok (.invokevirtual 40, 3) := by decide +kernel
theorem dX4_copyFrom_22 : decode cX4_copyFrom 22 = .ok (.aload_n 1, 1) := by decide +kernel
theorem dX4_copyFrom_23 : decode cX4_copyFrom 23 = .ok (.getfield 25, 3) := by decide +kernel
theorem dX4_copyFrom_26 : decode cX4_copyFrom 26 = .ok (.aload_n 0, 1) := by decide +kernel
theorem dX4_copyFrom_27 : decode cX4_copyFrom 27 = .ok (.getfield 25, 3) := by decide +kernel
theorem dX4_copyFrom_30 : decode cX4_copyFrom 30 = .ok (.invokestatic 43, 3) := by decide +kernel
theorem dX4_copyFrom_33 : decode cX4_copyFrom 33 = .ok (.aload_n 0, 1) := by decide +kernel
theorem dX4_copyFrom_34 : decode cX4_copyFrom 34 = .ok (.aload_n 1, 1) := by decide +kernel
theorem dX4_copyFrom_35 : decode cX4_copyFrom 35 = .ok (.getfield 29, 3) := by decide +kernel
theorem dX4_copyFrom_38 : decode cX4_copyFrom 38 = .ok (.putfield 29, 3) := by decide +kernel
theorem dX4_copyFrom_41 : decode cX4_copyFrom 41 = .ok (.aload_n 0, 1) := by decide +kernel
theorem dX4_copyFrom_42 : decode cX4_copyFrom 42 = .ok (.aload_n 1, 1) := by decide +kernel
theorem dX4_copyFrom_43 : decode cX4_copyFrom 43 = .ok (.getfield 33, 3) := by decide +kernel
theorem dX4_copyFrom_46 : decode cX4_copyFrom 46 = .ok (.putfield 33, 3) := by decide +kernel
theorem dX4_copyFrom_49 : decode cX4_copyFrom 49 = .ok (.return_, 1) := by decide +kernel
theorem dX4_takeTurns_0 : decode cX4_takeTurns 0 = .ok (.iload_n 1, 1) := by decide +kernel
theorem dX4_takeTurns_1 : decode cX4_takeTurns 1 = .ok (.iconst 1, 1) := by decide +kernel
theorem dX4_takeTurns_2 : decode cX4_takeTurns 2 = .ok (.if_icmp .lt 9, 3) := by decide +kernel
theorem dX4_takeTurns_5 : decode cX4_takeTurns 5 = .ok (.iload_n 1, 1) := by decide +kernel
theorem dX4_takeTurns_6 : decode cX4_takeTurns 6 = .ok (.bipush 99, 2) := by decide +kernel
theorem dX4_takeTurns_8 : decode cX4_takeTurns 8 = .ok (.if_icmp .le 6, 3) := by decide +kernel
theorem dX4_takeTurns_11 : decode cX4_takeTurns 11 = .ok (.bipush (-2), 2) := by decide +kernel
theorem dX4_takeTurns_13 : decode cX4_takeTurns 13 = .ok (.ireturn, 1) := by decide +kernel
theorem dX4_takeTurns_14 : decode cX4_takeTurns 14 = .ok (.aload_n 0, 1) := by decide +kernel
theorem dX4_takeTurns_15 : decode cX4_takeTurns 15 = .ok (.getfield 29, 3) := by decide +kernel
theorem dX4_takeTurns_18 : decode cX4_takeTurns 18 = .ok (.iload_n 1, 1) := by decide +kernel
theorem dX4_takeTurns_19 : decode cX4_takeTurns 19 = .ok (.iadd, 1) := by decide +kernel
theorem dX4_takeTurns_20 : decode cX4_takeTurns 20 = .ok (.ldc 47, 2) := by decide +kernel
theorem dX4_takeTurns_22 : decode cX4_takeTurns 22 = .ok (.if_icmp .le 6, 3) := by decide +kernel
theorem dX4_takeTurns_25 : decode cX4_takeTurns 25 = .ok (.bipush (-3), 2) := by decide +kernel
theorem dX4_takeTurns_27 : decode cX4_takeTurns 27 = .ok (.ireturn, 1) := by decide +kernel
theorem dX4_takeTurns_28 : decode cX4_takeTurns 28 = .ok (.aload_n 0, 1) := by decide +kernel
theorem dX4_takeTurns_29 : decode cX4_takeTurns 29 = .ok (.getfield 12, 3) := by decide +kernel
theorem dX4_takeTurns_32 : decode cX4_takeTurns 32 = .ok (.getfield 48, 3) := by decide +kernel
theorem dX4_takeTurns_35 : decode cX4_takeTurns 35 = .ok (.istore_n 2, 1) := by decide +kernel
theorem dX4_takeTurns_36 : decode cX4_takeTurns 36 = .ok (.iconst 0, 1) := by decide +kernel
theorem dX4_takeTurns_37 : decode cX4_takeTurns 37 = .ok (.istore_n 3, 1) := by decide +kernel
theorem dX4_takeTurns_38 : decode cX4_takeTurns 38 = .ok (.iload_n 3, 1) := by decide +kernel
theorem dX4_takeTurns_39 : decode cX4_takeTurns 39 = .ok (.iload_n 1, 1) := by decide +kernel
theorem dX4_takeTurns_40 : decode cX4_takeTurns 40 = .ok (.if_icmp .ge 14, 3) := by decide +kernel
theorem dX4_takeTurns_43 : decode cX4_takeTurns 43 = .ok (.aload_n 0, 1) := by decide +kernel
theorem dX4_takeTurns_44 : decode cX4_takeTurns 44 = .ok (.invokevirtual 51, 3) := by decide +kernel
theorem dX4_takeTurns_47 : decode cX4_takeTurns 47 = .ok (.pop, 1) := by decide +kernel
theorem dX4_takeTurns_48 : decode cX4_takeTurns 48 = .ok (.iinc 3 1, 3) := by decide +kernel
theorem dX4_takeTurns_51 : decode cX4_takeTurns 51 = .ok (.goto (-13), 3) := by decide +kernel
theorem dX4_takeTurns_54 : decode cX4_takeTurns 54 = .ok (.aload_n 0, 1) := by decide +kernel
theorem dX4_takeTurns_55 : decode cX4_takeTurns 55 = .ok (.getfield 12, 3) := by decide +kernel
theorem dX4_takeTurns_58 : decode cX4_takeTurns 58 = .ok (.getfield 48, 3) := by decide +kernel
theorem dX4_takeTurns_61 : decode cX4_takeTurns 61 = .ok (.iload_n 2, 1) := by decide +kernel
theorem dX4_takeTurns_62 : decode cX4_takeTurns 62 = .ok (.isub, 1) := by decide +kernel
theorem dX4_takeTurns_63 : decode cX4_takeTurns 63 = .ok (.ireturn, 1) := by decide +kernel
theorem dX4_takeTurn_0 : decode cX4_takeTurn 0 = .ok (.aload_n 0, 1) := by decide +kernel
theorem dX4_takeTurn_1 : decode cX4_takeTurn 1 = .ok (.getfield 12, 3) := by decide +kernel
theorem dX4_takeTurn_4 : decode cX4_takeTurn 4 = .ok (.invokevirtual 55, 3) := by decide +kernel
theorem dX4_takeTurn_7 : decode cX4_takeTurn 7 = .ok (.aload_n 0, 1) := by decide +kernel
theorem dX4_takeTurn_8 : decode cX4_takeTurn 8 = .ok (.invokevirtual 58, 3) := by decide +kernel
theorem dX4_takeTurn_11 : decode cX4_takeTurn 11 = .ok (.istore_n 1, 1) := by decide +kernel
theorem dX4_takeTurn_12 : decode cX4_takeTurn 12 = .ok (.iload_n 1, 1) := by decide +kernel
theorem dX4_takeTurn_13 : decode cX4_takeTurn 13 = .ok (.bipush (-5), 2) := by decide +kernel
theorem dX4_takeTurn_15 : decode cX4_takeTurn 15 = .ok (.if_icmp .eq 19, 3) := by decide +kernel
theorem dX4_takeTurn_18 : decode cX4_takeTurn 18 = .ok (.aload_n 0, 1) := by decide +kernel
theorem dX4_takeTurn_19 : decode cX4_takeTurn 19 = .ok (.getfield 12, 3) := by decide +kernel
theorem dX4_takeTurn_22 : decode cX4_takeTurn 22 = .ok (.iload_n 1, 1) := by decide +kernel
theorem dX4_takeTurn_23 : decode cX4_takeTurn 23 = .ok (.aload_n 0, 1) := by decide +kernel
theorem dX4_takeTurn_24 : decode cX4_takeTurn 24 = .ok (.getfield 25, 3) := by decide +kernel
theorem dX4_takeTurn_27 : decode cX4_takeTurn 27 = .ok (.iconst 0, 1) := by decide +kernel
theorem dX4_takeTurn_28 : decode cX4_takeTurn 28 = .ok (.iaload, 1) := by decide +kernel
theorem dX4_takeTurn_29 : decode cX4_takeTurn 29 = .ok (.iconst 1, 1) := by decide +kernel
theorem dX4_takeTurn_30 : decode cX4_takeTurn 30 = .ok (.iadd, 1) := by decide +kernel
theorem dX4_takeTurn_31 : decode cX4_takeTurn 31 = .ok (.invokevirtual 62, 3) := by decide +kernel
theorem dX4_takeTurn_34 : decode cX4_takeTurn 34 = .ok (.aload_n 0, 1) := by decide +kernel
theorem dX4_takeTurn_35 : decode cX4_takeTurn 35 = .ok (.getfield 12, 3) := by decide +kernel
theorem dX4_takeTurn_38 : decode cX4_takeTurn 38 = .ok (.invokevirtual 66, 3) := by decide +kernel
theorem dX4_takeTurn_41 : decode cX4_takeTurn 41 = .ok (.aload_n 0, 1) := by decide +kernel
theorem dX4_takeTurn_42 : decode cX4_takeTurn 42 = .ok (.getfield 12, 3) := by decide +kernel
theorem dX4_takeTurn_45 : decode cX4_takeTurn 45 = .ok (.invokevirtual 69, 3) := by decide +kernel
theorem dX4_takeTurn_48 : decode cX4_takeTurn 48 = .ok (.aload_n 0, 1) := by decide +kernel
theorem dX4_takeTurn_49 : decode cX4_takeTurn 49 = .ok (.dup, 1) := by decide +kernel
theorem dX4_takeTurn_50 : decode cX4_takeTurn 50 = .ok (.getfield 29, 3) := by decide +kernel
theorem dX4_takeTurn_53 : decode cX4_takeTurn 53 = .ok (.iconst 1, 1) := by decide +kernel
theorem dX4_takeTurn_54 : decode cX4_takeTurn 54 = .ok (.iadd, 1) := by decide +kernel
theorem dX4_takeTurn_55 : decode cX4_takeTurn 55 = .ok (.putfield 29, 3) := by decide +kernel
theorem dX4_takeTurn_58 : decode cX4_takeTurn 58 = .ok (.aload_n 0, 1) := by decide +kernel
theorem dX4_takeTurn_59 : decode cX4_takeTurn 59 = .ok (.getfield 21, 3) := by decide +kernel
theorem dX4_takeTurn_62 : decode cX4_takeTurn 62 = .ok (.aload_n 0, 1) := by decide +kernel
theorem dX4_takeTurn_63 : decode cX4_takeTurn 63 = .ok (.getfield 29, 3) := by decide +kernel
theorem dX4_takeTurn_66 : decode cX4_takeTurn 66 = .ok (.invokevirtual 72, 3) := by decide +kernel
theorem dX4_takeTurn_69 : decode cX4_takeTurn 69 = .ok (.aload_n 0, 1) := by decide +kernel
theorem dX4_takeTurn_70 : decode cX4_takeTurn 70 = .ok (.getfield 25, 3) := by decide +kernel
theorem dX4_takeTurn_73 : decode cX4_takeTurn 73 = .ok (.iconst 1, 1) := by decide +kernel
theorem dX4_takeTurn_74 : decode cX4_takeTurn 74 = .ok (.iaload, 1) := by decide +kernel
theorem dX4_takeTurn_75 : decode cX4_takeTurn 75 = .ok (.ifCond .eq 34, 3) := by decide +kernel
theorem dX4_takeTurn_78 : decode cX4_takeTurn 78 = .ok (.aload_n 0, 1) := by decide +kernel
theorem dX4_takeTurn_79 : decode cX4_takeTurn 79 = .ok (.getfield 29, 3) := by decide +kernel
theorem dX4_takeTurn_82 : decode cX4_takeTurn 82 = .ok (.aload_n 0, 1) := by decide +kernel
theorem dX4_takeTurn_83 : decode cX4_takeTurn 83 = .ok (.getfield 25, 3) := by decide +kernel
theorem dX4_takeTurn_86 : decode cX4_takeTurn 86 = .ok (.iconst 1, 1) := by decide +kernel
theorem dX4_takeTurn_87 : decode cX4_takeTurn 87 = .ok (.iaload, 1) := by decide +kernel
theorem dX4_takeTurn_88 : decode cX4_takeTurn 88 = .ok (.irem, 1) := by decide +kernel
theorem dX4_takeTurn_89 : decode cX4_takeTurn 89 = .ok (.ifCond .ne 20, 3) := by decide +kernel
theorem dX4_takeTurn_92 : decode cX4_takeTurn 92 = .ok (.aload_n 0, 1) := by decide +kernel
theorem dX4_takeTurn_93 : decode cX4_takeTurn 93 = .ok (.getfield 12, 3) := by decide +kernel
theorem dX4_takeTurn_96 : decode cX4_takeTurn 96 = .ok (.invokevirtual 76, 3) := by decide +kernel
theorem dX4_takeTurn_99 : decode cX4_takeTurn 99 = .ok (.aload_n 0, 1) := by decide +kernel
theorem dX4_takeTurn_100 : decode cX4_takeTurn 100 = .ok (.dup, 1) := by decide +kernel
theorem dX4_takeTurn_101 : decode cX4_takeTurn 101 = .ok (.getfield 33, 3) := by decide +kernel
theorem dX4_takeTurn_104 : decode cX4_takeTurn 104 = .ok (.iconst 1, 1) := by decide +kernel
theorem dX4_takeTurn_105 : decode cX4_takeTurn 105 = .ok (.iadd, 1) := by decide +kernel
theorem dX4_takeTurn_106 : decode cX4_takeTurn 106 = .ok (.putfield 33, 3) := by decide +kernel
theorem dX4_takeTurn_109 : decode cX4_takeTurn 109 = .ok (.iload_n 1, 1) := by decide +kernel
theorem dX4_takeTurn_110 : decode cX4_takeTurn 110 = .ok (.bipush (-5), 2) := by decide +kernel
theorem dX4_takeTurn_112 : decode cX4_takeTurn 112 = .ok (.if_icmp .eq 7, 3) := by decide +kernel
theorem dX4_takeTurn_115 : decode cX4_takeTurn 115 = .ok (.iconst 1, 1) := by decide +kernel
theorem dX4_takeTurn_116 : decode cX4_takeTurn 116 = .ok (.goto 4, 3) := by decide +kernel
theorem dX4_takeTurn_119 : decode cX4_takeTurn 119 = .ok (.iconst 0, 1) := by decide +kernel
theorem dX4_takeTurn_120 : decode cX4_takeTurn 120 = .ok (.ireturn, 1) := by decide +kernel
theorem dX4_firstCaught_0 : decode cX4_firstCaught 0 = .ok (.aload_n 0, 1) := by decide +kernel
theorem dX4_firstCaught_1 : decode cX4_firstCaught 1 = .ok (.getfield 12, 3) := by decide +kernel
theorem dX4_firstCaught_4 : decode cX4_firstCaught 4 = .ok (.aload_n 0, 1) := by decide +kernel
theorem dX4_firstCaught_5 : decode cX4_firstCaught 5 = .ok (.getfield 12, 3) := by decide +kernel
theorem dX4_firstCaught_8 : decode cX4_firstCaught 8 = .ok (.getfield 79, 3) := by decide +kernel
theorem dX4_firstCaught_11 : decode cX4_firstCaught 11 = .ok (.invokevirtual 82, 3) := by decide +kernel
theorem dX4_firstCaught_14 : decode cX4_firstCaught 14 = .ok (.ifCond .ne 6, 3) := by decide +kernel
theorem dX4_firstCaught_17 : decode cX4_firstCaught 17 = .ok (.bipush (-5), 2) := by decide +kernel
theorem dX4_firstCaught_19 : decode cX4_firstCaught 19 = .ok (.ireturn, 1) := by decide +kernel
theorem dX4_firstCaught_20 : decode cX4_firstCaught 20 = .ok (.aload_n 0, 1) := by decide +kernel
theorem dX4_firstCaught_21 : decode cX4_firstCaught 21 = .ok (.getfield 12, 3) := by decide +kernel
theorem dX4_firstCaught_24 : decode cX4_firstCaught 24 = .ok (.getfield 86, 3) := by decide +kernel
theorem dX4_firstCaught_27 : decode cX4_firstCaught 27 = .ok (.aload_n 0, 1) := by decide +kernel
theorem dX4_firstCaught_28 : decode cX4_firstCaught 28 = .ok (.getfield 12, 3) := by decide +kernel
theorem dX4_firstCaught_31 : decode cX4_firstCaught 31 = .ok (.getfield 79, 3) := by decide +kernel
theorem dX4_firstCaught_34 : decode cX4_firstCaught 34 = .ok (.iaload, 1) := by decide +kernel
theorem dX4_firstCaught_35 : decode cX4_firstCaught 35 = .ok (.istore_n 1, 1) := by decide +kernel
theorem dX4_firstCaught_36 : decode cX4_firstCaught 36 = .ok (.bipush (-5), 2) := by decide +kernel
theorem dX4_firstCaught_38 : decode cX4_firstCaught 38 = .ok (.istore_n 2, 1) := by decide +kernel
theorem dX4_firstCaught_39 : decode cX4_firstCaught 39 = .ok (.iconst 0, 1) := by decide +kernel
theorem dX4_firstCaught_40 : decode cX4_firstCaught 40 = .ok (.istore_n 3, 1) := by decide +kernel
theorem dX4_firstCaught_41 : decode cX4_firstCaught 41 = .ok (.iload_n 3, 1) := by decide +kernel
theorem dX4_firstCaught_42 : decode cX4_firstCaught 42 = .ok (.iconst 3, 1) := by decide +kernel
theorem dX4_firstCaught_43 : decode cX4_firstCaught 43 = .ok (.if_icmp .ge 57, 3) := by decide +kernel
theorem dX4_firstCaught_46 : decode cX4_firstCaught 46 = .ok (.aload_n 0, 1) := by decide +kernel
theorem dX4_firstCaught_47 : decode cX4_firstCaught 47 = .ok (.iload_n 1, 1) := by decide +kernel
theorem dX4_firstCaught_48 : decode cX4_firstCaught 48 = .ok (.iload_n 3, 1) := by decide +kernel
theorem dX4_firstCaught_49 : decode cX4_firstCaught 49 = .ok (.invokevirtual 89, 3) := by decide +kernel
theorem dX4_firstCaught_52 : decode cX4_firstCaught 52 = .ok (.istore 4, 2) := by decide +kernel
theorem dX4_firstCaught_54 : decode cX4_firstCaught 54 = .ok (.aload_n 0, 1) := by decide +kernel
theorem dX4_firstCaught_55 : decode cX4_firstCaught 55 = .ok (.getfield 12, 3) := by decide +kernel
theorem dX4_firstCaught_58 : decode cX4_firstCaught 58 = .ok (.iload 4, 2) := by decide +kernel
theorem dX4_firstCaught_60 : decode cX4_firstCaught 60 = .ok (.invokevirtual 82, 3) := by decide +kernel
theorem dX4_firstCaught_63 : decode cX4_firstCaught 63 = .ok (.ifCond .eq 31, 3) := by decide +kernel
theorem dX4_firstCaught_66 : decode cX4_firstCaught 66 = .ok (.aload_n 0, 1) := by decide +kernel
theorem dX4_firstCaught_67 : decode cX4_firstCaught 67 = .ok (.getfield 12, 3) := by decide +kernel
theorem dX4_firstCaught_70 : decode cX4_firstCaught 70 = .ok (.getfield 93, 3) := by decide +kernel
theorem dX4_firstCaught_73 : decode cX4_firstCaught 73 = .ok (.iload 4, 2) := by decide +kernel
theorem dX4_firstCaught_75 : decode cX4_firstCaught 75 = .ok (.iaload, 1) := by decide +kernel
theorem dX4_firstCaught_76 : decode cX4_firstCaught 76 = .ok (.ifCond .ne 18, 3) := by decide +kernel
theorem dX4_firstCaught_79 : decode cX4_firstCaught 79 = .ok (.iload_n 2, 1) := by decide +kernel
theorem dX4_firstCaught_80 : decode cX4_firstCaught 80 = .ok (.bipush (-5), 2) := by decide +kernel
theorem dX4_firstCaught_82 : decode cX4_firstCaught 82 = .ok (.if_icmp .eq 9, 3) := by decide +kernel
theorem dX4_firstCaught_85 : decode cX4_firstCaught 85 = .ok (.iload 4, 2) := by decide +kernel
theorem dX4_firstCaught_87 : decode cX4_firstCaught 87 = .ok (.iload_n 2, 1) := by decide +kernel
theorem dX4_firstCaught_88 : decode cX4_firstCaught 88 = .ok (.if_icmp .ge 6, 3) := by decide +kernel
theorem dX4_firstCaught_91 : decode cX4_firstCaught 91 = .ok (.iload 4, 2) := by decide +kernel
theorem dX4_firstCaught_93 : decode cX4_firstCaught 93 = .ok (.istore_n 2, 1) := by decide +kernel
theorem dX4_firstCaught_94 : decode cX4_firstCaught 94 = .ok (.iinc 3 1, 3) := by decide +kernel
theorem dX4_firstCaught_97 : decode cX4_firstCaught 97 = .ok (.goto (-56), 3) := by decide +kernel
theorem dX4_firstCaught_100 : decode cX4_firstCaught 100 = .ok (.iload_n 2, 1) := by decide +kernel
theorem dX4_firstCaught_101 : decode cX4_firstCaught 101 = .ok (.ireturn, 1) := by decide +kernel
theorem dX4_catcherStandsInShadowOf_0 : decode cX4_catcherStandsInShadowOf 0 = .ok (.aload_n 0, 1) := by decide +kernel
theorem dX4_catcherStandsInShadowOf_1 : decode cX4_catcherStandsInShadowOf 1 = .ok (.getfield 12, 3) := by decide +kernel
theorem dX4_catcherStandsInShadowOf_4 : decode cX4_catcherStandsInShadowOf 4 = .ok (.aload_n 0, 1) := by decide +kernel
theorem dX4_catcherStandsInShadowOf_5 : decode cX4_catcherStandsInShadowOf 5 = .ok (.getfield 12, 3) := by decide +kernel
theorem dX4_catcherStandsInShadowOf_8 : decode cX4_catcherStandsInShadowOf 8 = .ok (.getfield 79, 3) := by decide +kernel
theorem dX4_catcherStandsInShadowOf_11 : decode cX4_catcherStandsInShadowOf 11 = .ok (.invokevirtual 82, 3) := by decide +kernel
theorem dX4_catcherStandsInShadowOf_14 : decode cX4_catcherStandsInShadowOf 14 = .ok (.ifCond .ne 5, 3) := by decide +kernel
theorem dX4_catcherStandsInShadowOf_17 : decode cX4_catcherStandsInShadowOf 17 = .ok (.iconst 0, 1) := by decide +kernel
theorem dX4_catcherStandsInShadowOf_18 : decode cX4_catcherStandsInShadowOf 18 = .ok (.ireturn, 1) := by decide +kernel
theorem dX4_catcherStandsInShadowOf_19 : decode cX4_catcherStandsInShadowOf 19 = .ok (.aload_n 0, 1) := by decide +kernel
theorem dX4_catcherStandsInShadowOf_20 : decode cX4_catcherStandsInShadowOf 20 = .ok (.getfield 12, 3) := by decide +kernel
theorem dX4_catcherStandsInShadowOf_23 : decode cX4_catcherStandsInShadowOf 23 = .ok (.getfield 86, 3) := by decide +kernel
theorem dX4_catcherStandsInShadowOf_26 : decode cX4_catcherStandsInShadowOf 26 = .ok (.aload_n 0, 1) := by decide +kernel
theorem dX4_catcherStandsInShadowOf_27 : decode cX4_catcherStandsInShadowOf 27 = .ok (.getfield 12, 3) := by decide +kernel
theorem dX4_catcherStandsInShadowOf_30 : decode cX4_catcherStandsInShadowOf 30 = .ok (.getfield 79, 3) := by decide +kernel
theorem dX4_catcherStandsInShadowOf_33 : decode cX4_catcherStandsInShadowOf 33 = .ok (.iaload, 1) := by decide +kernel
theorem dX4_catcherStandsInShadowOf_34 : decode cX4_catcherStandsInShadowOf 34 = .ok (.istore_n 2, 1) := by decide +kernel
theorem dX4_catcherStandsInShadowOf_35 : decode cX4_catcherStandsInShadowOf 35 = .ok (.iconst 0, 1) := by decide +kernel
theorem dX4_catcherStandsInShadowOf_36 : decode cX4_catcherStandsInShadowOf 36 = .ok (.istore_n 3, 1) := by decide +kernel
theorem dX4_catcherStandsInShadowOf_37 : decode cX4_catcherStandsInShadowOf 37 = .ok (.iload_n 3, 1) := by decide +kernel
theorem dX4_catcherStandsInShadowOf_38 : decode cX4_catcherStandsInShadowOf 38 = .ok (.iconst 3, 1) := by decide +kernel
theorem dX4_catcherStandsInShadowOf_39 : decode cX4_catcherStandsInShadowOf 39 = .ok (.if_icmp .ge 21, 3) := by decide +kernel
theorem dX4_catcherStandsInShadowOf_42 : decode cX4_catcherStandsInShadowOf 42 = .ok (.aload_n 0, 1) := by decide +kernel
theorem dX4_catcherStandsInShadowOf_43 : decode cX4_catcherStandsInShadowOf 43 = .ok (.iload_n 2, 1) := by decide +kernel
theorem dX4_catcherStandsInShadowOf_44 : decode cX4_catcherStandsInShadowOf 44 = .ok (.iload_n 1, 1) := by decide +kernel
theorem dX4_catcherStandsInShadowOf_45 : decode cX4_catcherStandsInShadowOf 45 = .ok (.iload_n 3, 1) := by decide +kernel
theorem dX4_catcherStandsInShadowOf_46 : decode cX4_catcherStandsInShadowOf 46 = .ok (.invokevirtual 96, 3) := by decide +kernel
theorem dX4_catcherStandsInShadowOf_49 : decode cX4_catcherStandsInShadowOf 49 = .ok (.ifCond .eq 5, 3) := by decide +kernel
theorem dX4_catcherStandsInShadowOf_52 : decode cX4_catcherStandsInShadowOf 52 = .ok (.iconst 1, 1) := by decide +kernel
theorem dX4_catcherStandsInShadowOf_53 : decode cX4_catcherStandsInShadowOf 53 = .ok (.ireturn, 1) := by decide +kernel
theorem dX4_catcherStandsInShadowOf_54 : decode cX4_catcherStandsInShadowOf 54 = .ok (.iinc 3 1, 3) := by decide +kernel
theorem dX4_catcherStandsInShadowOf_57 : decode cX4_catcherStandsInShadowOf 57 = .ok (.goto (-20), 3) := by decide +kernel
theorem dX4_catcherStandsInShadowOf_60 : decode cX4_catcherStandsInShadowOf 60 = .ok (.iconst 0, 1) := by decide +kernel
theorem dX4_catcherStandsInShadowOf_61 : decode cX4_catcherStandsInShadowOf 61 = .ok (.ireturn, 1) := by decide +kernel
theorem dX4_isInShadow_0 : decode cX4_isInShadow 0 = .ok (.aload_n 0, 1) := by decide +kernel
theorem dX4_isInShadow_1 : decode cX4_isInShadow 1 = .ok (.getfield 12, 3) := by decide +kernel
theorem dX4_isInShadow_4 : decode cX4_isInShadow 4 = .ok (.iload_n 2, 1) := by decide +kernel
theorem dX4_isInShadow_5 : decode cX4_isInShadow 5 = .ok (.invokevirtual 82, 3) := by decide +kernel
theorem dX4_isInShadow_8 : decode cX4_isInShadow 8 = .ok (.ifCond .eq 10, 3) := by decide +kernel
theorem dX4_isInShadow_11 : decode cX4_isInShadow 11 = .ok (.iload_n 3, 1) := by decide +kernel
theorem dX4_isInShadow_12 : decode cX4_isInShadow 12 = .ok (.invokestatic 100, 3) := by decide +kernel
theorem dX4_isInShadow_15 : decode cX4_isInShadow 15 = .ok (.ifCond .ne 5, 3) := by decide +kernel
theorem dX4_isInShadow_18 : decode cX4_isInShadow 18 = .ok (.iconst 0, 1) := by decide +kernel
theorem dX4_isInShadow_19 : decode cX4_isInShadow 19 = .ok (.ireturn, 1) := by decide +kernel
theorem dX4_isInShadow_20 : decode cX4_isInShadow 20 = .ok (.aload_n 0, 1) := by decide +kernel
theorem dX4_isInShadow_21 : decode cX4_isInShadow 21 = .ok (.getfield 12, 3) := by decide +kernel
theorem dX4_isInShadow_24 : decode cX4_isInShadow 24 = .ok (.getfield 86, 3) := by decide +kernel
theorem dX4_isInShadow_27 : decode cX4_isInShadow 27 = .ok (.iload_n 2, 1) := by decide +kernel
theorem dX4_isInShadow_28 : decode cX4_isInShadow 28 = .ok (.iaload, 1) := by decide +kernel
theorem dX4_isInShadow_29 : decode cX4_isInShadow 29 = .ok (.iload_n 1, 1) := by decide +kernel
theorem dX4_isInShadow_30 : decode cX4_isInShadow 30 = .ok (.aload_n 0, 1) := by decide +kernel
theorem dX4_isInShadow_31 : decode cX4_isInShadow 31 = .ok (.getfield 21, 3) := by decide +kernel
theorem dX4_isInShadow_34 : decode cX4_isInShadow 34 = .ok (.getfield 103, 3) := by decide +kernel
theorem dX4_isInShadow_37 : decode cX4_isInShadow 37 = .ok (.iload_n 3, 1) := by decide +kernel
theorem dX4_isInShadow_38 : decode cX4_isInShadow 38 = .ok (.iaload, 1) := by decide +kernel
theorem dX4_isInShadow_39 : decode cX4_isInShadow 39 = .ok (.invokestatic 106, 3) := by decide +kernel
theorem dX4_isInShadow_42 : decode cX4_isInShadow 42 = .ok (.invokestatic 110, 3) := by decide +kernel
theorem dX4_isInShadow_45 : decode cX4_isInShadow 45 = .ok (.istore 4, 2) := by decide +kernel
theorem dX4_isInShadow_47 : decode cX4_isInShadow 47 = .ok (.iload 4, 2) := by decide +kernel
theorem dX4_isInShadow_49 : decode cX4_isInShadow 49 = .ok (.ifCond .le 18, 3) := by decide +kernel
theorem dX4_isInShadow_52 : decode cX4_isInShadow 52 = .ok (.iload 4, 2) := by decide +kernel
theorem dX4_isInShadow_54 : decode cX4_isInShadow 54 = .ok (.aload_n 0, 1) := by decide +kernel
theorem dX4_isInShadow_55 : decode cX4_isInShadow 55 = .ok (.iload_n 2, 1) := by decide +kernel
theorem dX4_isInShadow_56 : decode cX4_isInShadow 56 = .ok (.iload_n 3, 1) := by decide +kernel
theorem dX4_isInShadow_57 : decode cX4_isInShadow 57 = .ok (.invokevirtual 114, 3) := by decide +kernel
theorem dX4_isInShadow_60 : decode cX4_isInShadow 60 = .ok (.if_icmp .gt 7, 3) := by decide +kernel
theorem dX4_isInShadow_63 : decode cX4_isInShadow 63 = .ok (.iconst 1, 1) := by decide +kernel
theorem dX4_isInShadow_64 : decode cX4_isInShadow 64 = .ok (.goto 4, 3) := by decide +kernel
theorem dX4_isInShadow_67 : decode cX4_isInShadow 67 = .ok (.iconst 0, 1) := by decide +kernel
theorem dX4_isInShadow_68 : decode cX4_isInShadow 68 = .ok (.ireturn, 1) := by decide +kernel
theorem dX4_shadowLength_0 : decode cX4_shadowLength 0 = .ok (.aload_n 0, 1) := by decide +kernel
theorem dX4_shadowLength_1 : decode cX4_shadowLength 1 = .ok (.getfield 12, 3) := by decide +kernel
theorem dX4_shadowLength_4 : decode cX4_shadowLength 4 = .ok (.iload_n 1, 1) := by decide +kernel
theorem dX4_shadowLength_5 : decode cX4_shadowLength 5 = .ok (.invokevirtual 82, 3) := by decide +kernel
theorem dX4_shadowLength_8 : decode cX4_shadowLength 8 = .ok (.ifCond .eq 22, 3) := by decide +kernel
theorem dX4_shadowLength_11 : decode cX4_shadowLength 11 = .ok (.iload_n 2, 1) := by decide +kernel
theorem dX4_shadowLength_12 : decode cX4_shadowLength 12 = .ok (.invokestatic 100, 3) := by decide +kernel
theorem dX4_shadowLength_15 : decode cX4_shadowLength 15 = .ok (.ifCond .eq 15, 3) := by decide +kernel
theorem dX4_shadowLength_18 : decode cX4_shadowLength 18 = .ok (.aload_n 0, 1) := by decide +kernel
theorem dX4_shadowLength_19 : decode cX4_shadowLength 19 = .ok (.getfield 21, 3) := by decide +kernel
theorem dX4_shadowLength_22 : decode cX4_shadowLength 22 = .ok (.getfield 117, 3) := by decide +kernel
theorem dX4_shadowLength_25 : decode cX4_shadowLength 25 = .ok (.iload_n 2, 1) := by decide +kernel
theorem dX4_shadowLength_26 : decode cX4_shadowLength 26 = .ok (.iaload, 1) := by decide +kernel
theorem dX4_shadowLength_27 : decode cX4_shadowLength 27 = .ok (.ifCond .ne 5, 3) := by decide +kernel
theorem dX4_shadowLength_30 : decode cX4_shadowLength 30 = .ok (.iconst 0, 1) := by decide +kernel
theorem dX4_shadowLength_31 : decode cX4_shadowLength 31 = .ok (.ireturn, 1) := by decide +kernel
theorem dX4_shadowLength_32 : decode cX4_shadowLength 32 = .ok (.aload_n 0, 1) := by decide +kernel
theorem dX4_shadowLength_33 : decode cX4_shadowLength 33 = .ok (.getfield 12, 3) := by decide +kernel
theorem dX4_shadowLength_36 : decode cX4_shadowLength 36 = .ok (.getfield 86, 3) := by decide +kernel
theorem dX4_shadowLength_39 : decode cX4_shadowLength 39 = .ok (.iload_n 1, 1) := by decide +kernel
theorem dX4_shadowLength_40 : decode cX4_shadowLength 40 = .ok (.iaload, 1) := by decide +kernel
theorem dX4_shadowLength_41 : decode cX4_shadowLength 41 = .ok (.istore_n 3, 1) := by decide +kernel
theorem dX4_shadowLength_42 : decode cX4_shadowLength 42 = .ok (.aload_n 0, 1) := by decide +kernel
theorem dX4_shadowLength_43 : decode cX4_shadowLength 43 = .ok (.getfield 21, 3) := by decide +kernel
theorem dX4_shadowLength_46 : decode cX4_shadowLength 46 = .ok (.getfield 103, 3) := by decide +kernel
theorem dX4_shadowLength_49 : decode cX4_shadowLength 49 = .ok (.iload_n 2, 1) := by decide +kernel
theorem dX4_shadowLength_50 : decode cX4_shadowLength 50 = .ok (.iaload, 1) := by decide +kernel
theorem dX4_shadowLength_51 : decode cX4_shadowLength 51 = .ok (.invokestatic 106, 3) := by decide +kernel
theorem dX4_shadowLength_54 : decode cX4_shadowLength 54 = .ok (.istore 4, 2) := by decide +kernel
theorem dX4_shadowLength_56 : decode cX4_shadowLength 56 = .ok (.aload_n 0, 1) := by decide +kernel
theorem dX4_shadowLength_57 : decode cX4_shadowLength 57 = .ok (.getfield 12, 3) := by decide +kernel
theorem dX4_shadowLength_60 : decode cX4_shadowLength 60 = .ok (.getfield 120, 3) := by decide +kernel
theorem dX4_shadowLength_63 : decode cX4_shadowLength 63 = .ok (.iload_n 1, 1) := by decide +kernel
theorem dX4_shadowLength_64 : decode cX4_shadowLength 64 = .ok (.iaload, 1) := by decide +kernel
theorem dX4_shadowLength_65 : decode cX4_shadowLength 65 = .ok (.aload_n 0, 1) := by decide +kernel
theorem dX4_shadowLength_66 : decode cX4_shadowLength 66 = .ok (.getfield 21, 3) := by decide +kernel
theorem dX4_shadowLength_69 : decode cX4_shadowLength 69 = .ok (.getfield 123, 3) := by decide +kernel
theorem dX4_shadowLength_72 : decode cX4_shadowLength 72 = .ok (.iload_n 2, 1) := by decide +kernel
theorem dX4_shadowLength_73 : decode cX4_shadowLength 73 = .ok (.iaload, 1) := by decide +kernel
theorem dX4_shadowLength_74 : decode cX4_shadowLength 74 = .ok (.imul, 1) := by decide +kernel
theorem dX4_shadowLength_75 : decode cX4_shadowLength 75 = .ok (.iload_n 3, 1) := by decide +kernel
theorem dX4_shadowLength_76 : decode cX4_shadowLength 76 = .ok (.iload 4, 2) := by decide +kernel
theorem dX4_shadowLength_78 : decode cX4_shadowLength 78 = .ok (.invokestatic 126, 3) := by decide +kernel
theorem dX4_shadowLength_81 : decode cX4_shadowLength 81 = .ok (.invokestatic 129, 3) := by decide +kernel
theorem dX4_shadowLength_84 : decode cX4_shadowLength 84 = .ok (.istore 5, 2) := by decide +kernel
theorem dX4_shadowLength_86 : decode cX4_shadowLength 86 = .ok (.iconst 0, 1) := by decide +kernel
theorem dX4_shadowLength_87 : decode cX4_shadowLength 87 = .ok (.istore 6, 2) := by decide +kernel
theorem dX4_shadowLength_89 : decode cX4_shadowLength 89 = .ok (.iload 6, 2) := by decide +kernel
theorem dX4_shadowLength_91 : decode cX4_shadowLength 91 = .ok (.aload_n 0, 1) := by decide +kernel
theorem dX4_shadowLength_92 : decode cX4_shadowLength 92 = .ok (.getfield 12, 3) := by decide +kernel
theorem dX4_shadowLength_95 : decode cX4_shadowLength 95 = .ok (.getfield 134, 3) := by decide +kernel
theorem dX4_shadowLength_98 : decode cX4_shadowLength 98 = .ok (.if_icmp .ge 50, 3) := by decide +kernel
theorem dX4_shadowLength_101 : decode cX4_shadowLength 101 = .ok (.iload 6, 2) := by decide +kernel
theorem dX4_shadowLength_103 : decode cX4_shadowLength 103 = .ok (.bipush 6, 2) := by decide +kernel
theorem dX4_shadowLength_105 : decode cX4_shadowLength 105 = .ok (.if_icmp .ge 43, 3) := by decide +kernel
theorem dX4_shadowLength_108 : decode cX4_shadowLength 108 = .ok (.iload_n 3, 1) := by decide +kernel
theorem dX4_shadowLength_109 : decode cX4_shadowLength 109 = .ok (.aload_n 0, 1) := by decide +kernel
theorem dX4_shadowLength_110 : decode cX4_shadowLength 110 = .ok (.getfield 12, 3) := by decide +kernel
theorem dX4_shadowLength_113 : decode cX4_shadowLength 113 = .ok (.getfield 86, 3) := by decide +kernel
theorem dX4_shadowLength_116 : decode cX4_shadowLength 116 = .ok (.iload 6, 2) := by decide +kernel
theorem dX4_shadowLength_118 : decode cX4_shadowLength 118 = .ok (.iaload, 1) := by decide +kernel
theorem dX4_shadowLength_119 : decode cX4_shadowLength 119 = .ok (.iload 4, 2) := by decide +kernel
theorem dX4_shadowLength_121 : decode cX4_shadowLength 121 = .ok (.invokestatic 110, 3) := by decide +kernel
theorem dX4_shadowLength_124 : decode cX4_shadowLength 124 = .ok (.istore 7, 2) := by decide +kernel
theorem dX4_shadowLength_126 : decode cX4_shadowLength 126 = .ok (.iload 7, 2) := by decide +kernel
theorem dX4_shadowLength_128 : decode cX4_shadowLength 128 = .ok (.ifCond .le 14, 3) := by decide +kernel
theorem dX4_shadowLength_131 : decode cX4_shadowLength 131 = .ok (.iload 7, 2) := by decide +kernel
theorem dX4_shadowLength_133 : decode cX4_shadowLength 133 = .ok (.iload 5, 2) := by decide +kernel
theorem dX4_shadowLength_135 : decode cX4_shadowLength 135 = .ok (.if_icmp .ge 7, 3) := by decide +kernel
theorem dX4_shadowLength_138 : decode cX4_shadowLength 138 = .ok (.iload 7, 2) := by decide +kernel
theorem dX4_shadowLength_140 : decode cX4_shadowLength 140 = .ok (.istore 5, 2) := by decide +kernel
theorem dX4_shadowLength_142 : decode cX4_shadowLength 142 = .ok (.iinc 6 1, 3) := by decide +kernel
theorem dX4_shadowLength_145 : decode cX4_shadowLength 145 = .ok (.goto (-56), 3) := by decide +kernel
theorem dX4_shadowLength_148 : decode cX4_shadowLength 148 = .ok (.iload 5, 2) := by decide +kernel
theorem dX4_shadowLength_150 : decode cX4_shadowLength 150 = .ok (.ireturn, 1) := by decide +kernel
theorem dX4_shadowEnd_0 : decode cX4_shadowEnd 0 = .ok (.aload_n 0, 1) := by decide +kernel
theorem dX4_shadowEnd_1 : decode cX4_shadowEnd 1 = .ok (.iload_n 1, 1) := by decide +kernel
theorem dX4_shadowEnd_2 : decode cX4_shadowEnd 2 = .ok (.iload_n 2, 1) := by decide +kernel
theorem dX4_shadowEnd_3 : decode cX4_shadowEnd 3 = .ok (.invokevirtual 114, 3) := by decide +kernel
theorem dX4_shadowEnd_6 : decode cX4_shadowEnd 6 = .ok (.istore_n 3, 1) := by decide +kernel
theorem dX4_shadowEnd_7 : decode cX4_shadowEnd 7 = .ok (.iload_n 3, 1) := by decide +kernel
theorem dX4_shadowEnd_8 : decode cX4_shadowEnd 8 = .ok (.ifCond .eq 21, 3) := by decide +kernel
theorem dX4_shadowEnd_11 : decode cX4_shadowEnd 11 = .ok (.aload_n 0, 1) := by decide +kernel
theorem dX4_shadowEnd_12 : decode cX4_shadowEnd 12 = .ok (.getfield 12, 3) := by decide +kernel
theorem dX4_shadowEnd_15 : decode cX4_shadowEnd 15 = .ok (.iload_n 1, 1) := by decide +kernel
theorem dX4_shadowEnd_16 : decode cX4_shadowEnd 16 = .ok (.invokevirtual 82, 3) := by decide +kernel
theorem dX4_shadowEnd_19 : decode cX4_shadowEnd 19 = .ok (.ifCond .eq 10, 3) := by decide +kernel
theorem dX4_shadowEnd_22 : decode cX4_shadowEnd 22 = .ok (.iload_n 2, 1) := by decide +kernel
theorem dX4_shadowEnd_23 : decode cX4_shadowEnd 23 = .ok (.invokestatic 100, 3) := by decide +kernel
theorem dX4_shadowEnd_26 : decode cX4_shadowEnd 26 = .ok (.ifCond .ne 6, 3) := by decide +kernel
theorem dX4_shadowEnd_29 : decode cX4_shadowEnd 29 = .ok (.bipush (-5), 2) := by decide +kernel
theorem dX4_shadowEnd_31 : decode cX4_shadowEnd 31 = .ok (.ireturn, 1) := by decide +kernel
theorem dX4_shadowEnd_32 : decode cX4_shadowEnd 32 = .ok (.aload_n 0, 1) := by decide +kernel
theorem dX4_shadowEnd_33 : decode cX4_shadowEnd 33 = .ok (.getfield 12, 3) := by decide +kernel
theorem dX4_shadowEnd_36 : decode cX4_shadowEnd 36 = .ok (.getfield 86, 3) := by decide +kernel
theorem dX4_shadowEnd_39 : decode cX4_shadowEnd 39 = .ok (.iload_n 1, 1) := by decide +kernel
theorem dX4_shadowEnd_40 : decode cX4_shadowEnd 40 = .ok (.iaload, 1) := by decide +kernel
theorem dX4_shadowEnd_41 : decode cX4_shadowEnd 41 = .ok (.aload_n 0, 1) := by decide +kernel
theorem dX4_shadowEnd_42 : decode cX4_shadowEnd 42 = .ok (.getfield 21, 3) := by decide +kernel
theorem dX4_shadowEnd_45 : decode cX4_shadowEnd 45 = .ok (.getfield 103, 3) := by decide +kernel
theorem dX4_shadowEnd_48 : decode cX4_shadowEnd 48 = .ok (.iload_n 2, 1) := by decide +kernel
theorem dX4_shadowEnd_49 : decode cX4_shadowEnd 49 = .ok (.iaload, 1) := by decide +kernel
theorem dX4_shadowEnd_50 : decode cX4_shadowEnd 50 = .ok (.invokestatic 106, 3) := by decide +kernel
theorem dX4_shadowEnd_53 : decode cX4_shadowEnd 53 = .ok (.iload_n 3, 1) := by decide +kernel
theorem dX4_shadowEnd_54 : decode cX4_shadowEnd 54 = .ok (.invokestatic 137, 3) := by decide +kernel
theorem dX4_shadowEnd_57 : decode cX4_shadowEnd 57 = .ok (.ireturn, 1) := by decide +kernel
theorem dX4_hasShadow_0 : decode cX4_hasShadow 0 = .ok (.iconst 0, 1) := by decide +kernel
theorem dX4_hasShadow_1 : decode cX4_hasShadow 1 = .ok (.istore_n 2, 1) := by decide +kernel
theorem dX4_hasShadow_2 : decode cX4_hasShadow 2 = .ok (.iload_n 2, 1) := by decide +kernel
theorem dX4_hasShadow_3 : decode cX4_hasShadow 3 = .ok (.iconst 3, 1) := by decide +kernel
theorem dX4_hasShadow_4 : decode cX4_hasShadow 4 = .ok (.if_icmp .ge 20, 3) := by decide +kernel
theorem dX4_hasShadow_7 : decode cX4_hasShadow 7 = .ok (.aload_n 0, 1) := by decide +kernel
theorem dX4_hasShadow_8 : decode cX4_hasShadow 8 = .ok (.iload_n 1, 1) := by decide +kernel
theorem dX4_hasShadow_9 : decode cX4_hasShadow 9 = .ok (.iload_n 2, 1) := by decide +kernel
theorem dX4_hasShadow_10 : decode cX4_hasShadow 10 = .ok (.invokevirtual 114, 3) := by decide +kernel
theorem dX4_hasShadow_13 : decode cX4_hasShadow 13 = .ok (.ifCond .le 5, 3) := by decide +kernel
theorem dX4_hasShadow_16 : decode cX4_hasShadow 16 = .ok (.iconst 1, 1) := by decide +kernel
theorem dX4_hasShadow_17 : decode cX4_hasShadow 17 = .ok (.ireturn, 1) := by decide +kernel
theorem dX4_hasShadow_18 : decode cX4_hasShadow 18 = .ok (.iinc 2 1, 3) := by decide +kernel
theorem dX4_hasShadow_21 : decode cX4_hasShadow 21 = .ok (.goto (-19), 3) := by decide +kernel
theorem dX4_hasShadow_24 : decode cX4_hasShadow 24 = .ok (.iconst 0, 1) := by decide +kernel
theorem dX4_hasShadow_25 : decode cX4_hasShadow 25 = .ok (.ireturn, 1) := by decide +kernel
theorem dX4_runnersWithoutShadow_0 : decode cX4_runnersWithoutShadow 0 = .ok (.iconst 0, 1) := by decide +kernel
theorem dX4_runnersWithoutShadow_1 : decode cX4_runnersWithoutShadow 1 = .ok (.istore_n 1, 1) := by decide +kernel
theorem dX4_runnersWithoutShadow_2 : decode cX4_runnersWithoutShadow 2 = .ok (.iconst 0, 1) := by decide +kernel
theorem dX4_runnersWithoutShadow_3 : decode cX4_runnersWithoutShadow 3 = .ok (.istore_n 2, 1) := by decide +kernel
theorem dX4_runnersWithoutShadow_4 : decode cX4_runnersWithoutShadow 4 = .ok (.iload_n 2, 1) := by decide +kernel
theorem dX4_runnersWithoutShadow_5 : decode cX4_runnersWithoutShadow 5 = .ok (.aload_n 0, 1) := by decide +kernel
theorem dX4_runnersWithoutShadow_6 : decode cX4_runnersWithoutShadow 6 = .ok (.getfield 12, 3) := by decide +kernel
theorem dX4_runnersWithoutShadow_9 : decode cX4_runnersWithoutShadow 9 = .ok (.getfield 134, 3) := by decide +kernel
theorem dX4_runnersWithoutShadow_12 : decode cX4_runnersWithoutShadow 12 = .ok (.if_icmp .ge 20, 3) := by decide +kernel
theorem dX4_runnersWithoutShadow_15 : decode cX4_runnersWithoutShadow 15 = .ok (.aload_n 0, 1) := by decide +kernel
theorem dX4_runnersWithoutShadow_16 : decode cX4_runnersWithoutShadow 16 = .ok (.iload_n 2, 1) := by decide +kernel
theorem dX4_runnersWithoutShadow_17 : decode cX4_runnersWithoutShadow 17 = .ok (.invokevirtual 140, 3) := by decide +kernel
theorem dX4_runnersWithoutShadow_20 : decode cX4_runnersWithoutShadow 20 = .ok (.ifCond .ne 6, 3) := by decide +kernel
theorem dX4_runnersWithoutShadow_23 : decode cX4_runnersWithoutShadow 23 = .ok (.iinc 1 1, 3) := by decide +kernel
theorem dX4_runnersWithoutShadow_26 : decode cX4_runnersWithoutShadow 26 = .ok (.iinc 2 1, 3) := by decide +kernel
theorem dX4_runnersWithoutShadow_29 : decode cX4_runnersWithoutShadow 29 = .ok (.goto (-25), 3) := by decide +kernel
theorem dX4_runnersWithoutShadow_32 : decode cX4_runnersWithoutShadow 32 = .ok (.iload_n 1, 1) := by decide +kernel
theorem dX4_runnersWithoutShadow_33 : decode cX4_runnersWithoutShadow 33 = .ok (.ireturn, 1) := by decide +kernel
theorem dX4_shadowerOf_0 : decode cX4_shadowerOf 0 = .ok (.iload_n 1, 1) := by decide +kernel
theorem dX4_shadowerOf_1 : decode cX4_shadowerOf 1 = .ok (.invokestatic 143, 3) := by decide +kernel
theorem dX4_shadowerOf_4 : decode cX4_shadowerOf 4 = .ok (.ifCond .eq 22, 3) := by decide +kernel
theorem dX4_shadowerOf_7 : decode cX4_shadowerOf 7 = .ok (.iload_n 2, 1) := by decide +kernel
theorem dX4_shadowerOf_8 : decode cX4_shadowerOf 8 = .ok (.invokestatic 100, 3) := by decide +kernel
theorem dX4_shadowerOf_11 : decode cX4_shadowerOf 11 = .ok (.ifCond .eq 15, 3) := by decide +kernel
theorem dX4_shadowerOf_14 : decode cX4_shadowerOf 14 = .ok (.aload_n 0, 1) := by decide +kernel
theorem dX4_shadowerOf_15 : decode cX4_shadowerOf 15 = .ok (.getfield 21, 3) := by decide +kernel
theorem dX4_shadowerOf_18 : decode cX4_shadowerOf 18 = .ok (.getfield 117, 3) := by decide +kernel
theorem dX4_shadowerOf_21 : decode cX4_shadowerOf 21 = .ok (.iload_n 2, 1) := by decide +kernel
theorem dX4_shadowerOf_22 : decode cX4_shadowerOf 22 = .ok (.iaload, 1) := by decide +kernel
theorem dX4_shadowerOf_23 : decode cX4_shadowerOf 23 = .ok (.ifCond .ne 6, 3) := by decide +kernel
theorem dX4_shadowerOf_26 : decode cX4_shadowerOf 26 = .ok (.bipush (-5), 2) := by decide +kernel
theorem dX4_shadowerOf_28 : decode cX4_shadowerOf 28 = .ok (.ireturn, 1) := by decide +kernel
theorem dX4_shadowerOf_29 : decode cX4_shadowerOf 29 = .ok (.aload_n 0, 1) := by decide +kernel
theorem dX4_shadowerOf_30 : decode cX4_shadowerOf 30 = .ok (.getfield 21, 3) := by decide +kernel
theorem dX4_shadowerOf_33 : decode cX4_shadowerOf 33 = .ok (.getfield 103, 3) := by decide +kernel
theorem dX4_shadowerOf_36 : decode cX4_shadowerOf 36 = .ok (.iload_n 2, 1) := by decide +kernel
theorem dX4_shadowerOf_37 : decode cX4_shadowerOf 37 = .ok (.iaload, 1) := by decide +kernel
theorem dX4_shadowerOf_38 : decode cX4_shadowerOf 38 = .ok (.istore_n 3, 1) := by decide +kernel
theorem dX4_shadowerOf_39 : decode cX4_shadowerOf 39 = .ok (.iload_n 1, 1) := by decide +kernel
theorem dX4_shadowerOf_40 : decode cX4_shadowerOf 40 = .ok (.iload_n 3, 1) := by decide +kernel
theorem dX4_shadowerOf_41 : decode cX4_shadowerOf 41 = .ok (.invokestatic 126, 3) := by decide +kernel
theorem dX4_shadowerOf_44 : decode cX4_shadowerOf 44 = .ok (.istore 4, 2) := by decide +kernel
theorem dX4_shadowerOf_46 : decode cX4_shadowerOf 46 = .ok (.iconst 1, 1) := by decide +kernel
theorem dX4_shadowerOf_47 : decode cX4_shadowerOf 47 = .ok (.istore 5, 2) := by decide +kernel
theorem dX4_shadowerOf_49 : decode cX4_shadowerOf 49 = .ok (.iload 5, 2) := by decide +kernel
theorem dX4_shadowerOf_51 : decode cX4_shadowerOf 51 = .ok (.iload 4, 2) := by decide +kernel
theorem dX4_shadowerOf_53 : decode cX4_shadowerOf 53 = .ok (.if_icmp .gt 70, 3) := by decide +kernel
theorem dX4_shadowerOf_56 : decode cX4_shadowerOf 56 = .ok (.aload_n 0, 1) := by decide +kernel
theorem dX4_shadowerOf_57 : decode cX4_shadowerOf 57 = .ok (.getfield 12, 3) := by decide +kernel
theorem dX4_shadowerOf_60 : decode cX4_shadowerOf 60 = .ok (.iload_n 1, 1) := by decide +kernel
theorem dX4_shadowerOf_61 : decode cX4_shadowerOf 61 = .ok (.iload_n 3, 1) := by decide +kernel
theorem dX4_shadowerOf_62 : decode cX4_shadowerOf 62 = .ok (.iload 5, 2) := by decide +kernel
theorem dX4_shadowerOf_64 : decode cX4_shadowerOf 64 = .ok (.invokestatic 137, 3) := by decide +kernel
theorem dX4_shadowerOf_67 : decode cX4_shadowerOf 67 = .ok (.invokevirtual 146, 3) := by decide +kernel
theorem dX4_shadowerOf_70 : decode cX4_shadowerOf 70 = .ok (.istore 6, 2) := by decide +kernel
theorem dX4_shadowerOf_72 : decode cX4_shadowerOf 72 = .ok (.aload_n 0, 1) := by decide +kernel
theorem dX4_shadowerOf_73 : decode cX4_shadowerOf 73 = .ok (.getfield 12, 3) := by decide +kernel
theorem dX4_shadowerOf_76 : decode cX4_shadowerOf 76 = .ok (.iload 6, 2) := by decide +kernel
theorem dX4_shadowerOf_78 : decode cX4_shadowerOf 78 = .ok (.invokevirtual 82, 3) := by decide +kernel
theorem dX4_shadowerOf_81 : decode cX4_shadowerOf 81 = .ok (.ifCond .eq 36, 3) := by decide +kernel
theorem dX4_shadowerOf_84 : decode cX4_shadowerOf 84 = .ok (.iload 5, 2) := by decide +kernel
theorem dX4_shadowerOf_86 : decode cX4_shadowerOf 86 = .ok (.aload_n 0, 1) := by decide +kernel
theorem dX4_shadowerOf_87 : decode cX4_shadowerOf 87 = .ok (.getfield 12, 3) := by decide +kernel
theorem dX4_shadowerOf_90 : decode cX4_shadowerOf 90 = .ok (.getfield 120, 3) := by decide +kernel
theorem dX4_shadowerOf_93 : decode cX4_shadowerOf 93 = .ok (.iload 6, 2) := by decide +kernel
theorem dX4_shadowerOf_95 : decode cX4_shadowerOf 95 = .ok (.iaload, 1) := by decide +kernel
theorem dX4_shadowerOf_96 : decode cX4_shadowerOf 96 = .ok (.aload_n 0, 1) := by decide +kernel
theorem dX4_shadowerOf_97 : decode cX4_shadowerOf 97 = .ok (.getfield 21, 3) := by decide +kernel
theorem dX4_shadowerOf_100 : decode cX4_shadowerOf 100 = .ok (.getfield 123, 3) := by decide +kernel
theorem dX4_shadowerOf_103 : decode cX4_shadowerOf 103 = .ok (.iload_n 2, 1) := by decide +kernel
theorem dX4_shadowerOf_104 : decode cX4_shadowerOf 104 = .ok (.iaload, 1) := by decide +kernel
theorem dX4_shadowerOf_105 : decode cX4_shadowerOf 105 = .ok (.imul, 1) := by decide +kernel
theorem dX4_shadowerOf_106 : decode cX4_shadowerOf 106 = .ok (.if_icmp .gt 8, 3) := by decide +kernel
theorem dX4_shadowerOf_109 : decode cX4_shadowerOf 109 = .ok (.iload 6, 2) := by decide +kernel
theorem dX4_shadowerOf_111 : decode cX4_shadowerOf 111 = .ok (.goto 5, 3) := by decide +kernel
theorem dX4_shadowerOf_114 : decode cX4_shadowerOf 114 = .ok (.bipush (-5), 2) := by decide +kernel
theorem dX4_shadowerOf_116 : decode cX4_shadowerOf 116 = .ok (.ireturn, 1) := by decide +kernel
theorem dX4_shadowerOf_117 : decode cX4_shadowerOf 117 = .ok (.iinc 5 1, 3) := by decide +kernel
theorem dX4_shadowerOf_120 : decode cX4_shadowerOf 120 = .ok (.goto (-71), 3) := by decide +kernel
theorem dX4_shadowerOf_123 : decode cX4_shadowerOf 123 = .ok (.bipush (-5), 2) := by decide +kernel
theorem dX4_shadowerOf_125 : decode cX4_shadowerOf 125 = .ok (.ireturn, 1) := by decide +kernel
theorem dX4_darkenShadowsOf_0 : decode cX4_darkenShadowsOf 0 = .ok (.iconst 0, 1) := by decide +kernel
theorem dX4_darkenShadowsOf_1 : decode cX4_darkenShadowsOf 1 = .ok (.istore_n 3, 1) := by decide +kernel
theorem dX4_darkenShadowsOf_2 : decode cX4_darkenShadowsOf 2 = .ok (.iload_n 3, 1) := by decide +kernel
theorem dX4_darkenShadowsOf_3 : decode cX4_darkenShadowsOf 3 = .ok (.iconst 3, 1) := by decide +kernel
theorem dX4_darkenShadowsOf_4 : decode cX4_darkenShadowsOf 4 = .ok (.if_icmp .ge 16, 3) := by decide +kernel
theorem dX4_darkenShadowsOf_7 : decode cX4_darkenShadowsOf 7 = .ok (.aload_n 0, 1) := by decide +kernel
theorem dX4_darkenShadowsOf_8 : decode cX4_darkenShadowsOf 8 = .ok (.iload_n 1, 1) := by decide +kernel
theorem dX4_darkenShadowsOf_9 : decode cX4_darkenShadowsOf 9 = .ok (.iload_n 3, 1) := by decide +kernel
theorem dX4_darkenShadowsOf_10 : decode cX4_darkenShadowsOf 10 = .ok (.aload_n 2, 1) := by decide +kernel
theorem dX4_darkenShadowsOf_11 : decode cX4_darkenShadowsOf 11 = .ok (.invokevirtual 149, 3) := by decide +kernel
theorem dX4_darkenShadowsOf_14 : decode cX4_darkenShadowsOf 14 = .ok (.iinc 3 1, 3) := by decide +kernel
theorem dX4_darkenShadowsOf_17 : decode cX4_darkenShadowsOf 17 = .ok (.goto (-15), 3) := by decide +kernel
theorem dX4_darkenShadowsOf_20 : decode cX4_darkenShadowsOf 20 = .ok (.return_, 1) := by decide +kernel
theorem dX4_darkenShadow_0 : decode cX4_darkenShadow 0 = .ok (.aload_n 0, 1) := by decide +kernel
theorem dX4_darkenShadow_1 : decode cX4_darkenShadow 1 = .ok (.iload_n 1, 1) := by decide +kernel
theorem dX4_darkenShadow_2 : decode cX4_darkenShadow 2 = .ok (.iload_n 2, 1) := by decide +kernel
theorem dX4_darkenShadow_3 : decode cX4_darkenShadow 3 = .ok (.invokevirtual 114, 3) := by decide +kernel
theorem dX4_darkenShadow_6 : decode cX4_darkenShadow 6 = .ok (.istore 4, 2) := by decide +kernel
theorem dX4_darkenShadow_8 : decode cX4_darkenShadow 8 = .ok (.iload 4, 2) := by decide +kernel
theorem dX4_darkenShadow_10 : decode cX4_darkenShadow 10 = .ok (.ifCond .eq 21, 3) := by decide +kernel
theorem dX4_darkenShadow_13 : decode cX4_darkenShadow 13 = .ok (.aload_n 0, 1) := by decide +kernel
theorem dX4_darkenShadow_14 : decode cX4_darkenShadow 14 = .ok (.getfield 12, 3) := by decide +kernel
theorem dX4_darkenShadow_17 : decode cX4_darkenShadow 17 = .ok (.iload_n 1, 1) := by decide +kernel
theorem dX4_darkenShadow_18 : decode cX4_darkenShadow 18 = .ok (.invokevirtual 82, 3) := by decide +kernel
theorem dX4_darkenShadow_21 : decode cX4_darkenShadow 21 = .ok (.ifCond .eq 10, 3) := by decide +kernel
theorem dX4_darkenShadow_24 : decode cX4_darkenShadow 24 = .ok (.iload_n 2, 1) := by decide +kernel
theorem dX4_darkenShadow_25 : decode cX4_darkenShadow 25 = .ok (.invokestatic 100, 3) := by decide +kernel
theorem dX4_darkenShadow_28 : decode cX4_darkenShadow 28 = .ok (.ifCond .ne 4, 3) := by decide +kernel
theorem dX4_darkenShadow_31 : decode cX4_darkenShadow 31 = .ok (.return_, 1) := by decide +kernel
theorem dX4_darkenShadow_32 : decode cX4_darkenShadow 32 = .ok (.aload_n 0, 1) := by decide +kernel
theorem dX4_darkenShadow_33 : decode cX4_darkenShadow 33 = .ok (.getfield 12, 3) := by decide +kernel
theorem dX4_darkenShadow_36 : decode cX4_darkenShadow 36 = .ok (.getfield 86, 3) := by decide +kernel
theorem dX4_darkenShadow_39 : decode cX4_darkenShadow 39 = .ok (.iload_n 1, 1) := by decide +kernel
theorem dX4_darkenShadow_40 : decode cX4_darkenShadow 40 = .ok (.iaload, 1) := by decide +kernel
theorem dX4_darkenShadow_41 : decode cX4_darkenShadow 41 = .ok (.istore 5, 2) := by decide +kernel
theorem dX4_darkenShadow_43 : decode cX4_darkenShadow 43 = .ok (.aload_n 0, 1) := by decide +kernel
theorem dX4_darkenShadow_44 : decode cX4_darkenShadow 44 = .ok (.getfield 21, 3) := by decide +kernel
theorem dX4_darkenShadow_47 : decode cX4_darkenShadow 47 = .ok (.getfield 103, 3) := by decide +kernel
theorem dX4_darkenShadow_50 : decode cX4_darkenShadow 50 = .ok (.iload_n 2, 1) := by decide +kernel
theorem dX4_darkenShadow_51 : decode cX4_darkenShadow 51 = .ok (.iaload, 1) := by decide +kernel
theorem dX4_darkenShadow_52 : decode cX4_darkenShadow 52 = .ok (.invokestatic 106, 3) := by decide +kernel
theorem dX4_darkenShadow_55 : decode cX4_darkenShadow 55 = .ok (.istore 6, 2) := by decide +kernel
theorem dX4_darkenShadow_57 : decode cX4_darkenShadow 57 = .ok (.iconst 1, 1) := by decide +kernel
theorem dX4_darkenShadow_58 : decode cX4_darkenShadow 58 = .ok (.istore 7, 2) := by decide +kernel
theorem dX4_darkenShadow_60 : decode cX4_darkenShadow 60 = .ok (.iload 7, 2) := by decide +kernel
theorem dX4_darkenShadow_62 : decode cX4_darkenShadow 62 = .ok (.iload 4, 2) := by decide +kernel
theorem dX4_darkenShadow_64 : decode cX4_darkenShadow 64 = .ok (.if_icmp .gt 22, 3) := by decide +kernel
theorem dX4_darkenShadow_67 : decode cX4_darkenShadow 67 = .ok (.aload_n 3, 1) := by decide +kernel
theorem dX4_darkenShadow_68 : decode cX4_darkenShadow 68 = .ok (.iload 5, 2) := by decide +kernel
theorem dX4_darkenShadow_70 : decode cX4_darkenShadow 70 = .ok (.iload 6, 2) := by decide +kernel
theorem dX4_darkenShadow_72 : decode cX4_darkenShadow 72 = .ok (.iload 7, 2) := by decide +kernel
theorem dX4_darkenShadow_74 : decode cX4_darkenShadow 74 = .ok (.invokestatic 137, 3) := by decide +kernel
theorem dX4_darkenShadow_77 : decode cX4_darkenShadow 77 = .ok (.invokevirtual 153, 3) := by decide +kernel
theorem dX4_darkenShadow_80 : decode cX4_darkenShadow 80 = .ok (.iinc 7 1, 3) := by decide +kernel
theorem dX4_darkenShadow_83 : decode cX4_darkenShadow 83 = .ok (.goto (-23), 3) := by decide +kernel
theorem dX4_darkenShadow_86 : decode cX4_darkenShadow 86 = .ok (.return_, 1) := by decide +kernel
theorem dX5_init_0 : decode cX5_init 0 = .ok (.aload_n 0, 1) := by decide +kernel
theorem dX5_init_1 : decode cX5_init 1 = .ok (.invokespecial 3, 3) := by decide +kernel
theorem dX5_init_4 : decode cX5_init 4 = .ok (.aload_n 0, 1) := by decide +kernel
theorem dX5_init_5 : decode cX5_init 5 = .ok (.bipush 6, 2) := by decide +kernel
theorem dX5_init_7 : decode cX5_init 7 = .ok (.newarray .int, 2) := by decide +kernel
theorem dX5_init_9 : decode cX5_init 9 = .ok (.putfield 9, 3) := by decide +kernel
theorem dX5_init_12 : decode cX5_init 12 = .ok (.aload_n 0, 1) := by decide +kernel
theorem dX5_init_13 : decode cX5_init 13 = .ok (.bipush 6, 2) := by decide +kernel
theorem dX5_init_15 : decode cX5_init 15 = .ok (.newarray .int, 2) := by decide +kernel
theorem dX5_init_17 : decode cX5_init 17 = .ok (.putfield 15, 3) := by decide +kernel
theorem dX5_init_20 : decode cX5_init 20 = .ok (.aload_n 0, 1) := by decide +kernel
theorem dX5_init_21 : decode cX5_init 21 = .ok (.bipush 6, 2) := by decide +kernel
theorem dX5_init_23 : decode cX5_init 23 = .ok (.newarray .int, 2) := by decide +kernel
theorem dX5_init_25 : decode cX5_init 25 = .ok (.putfield 18, 3) := by decide +kernel
theorem dX5_init_28 : decode cX5_init 28 = .ok (.aload_n 0, 1) := by decide +kernel
theorem dX5_init_29 : decode cX5_init 29 = .ok (.bipush 6, 2) := by decide +kernel
theorem dX5_init_31 : decode cX5_init 31 = .ok (.newarray .int, 2) := by decide +kernel
theorem dX5_init_33 : decode cX5_init 33 = .ok (.putfield 21, 3) := by decide +kernel
theorem dX5_init_36 : decode cX5_init 36 = .ok (.aload_n 0, 1) := by decide +kernel
theorem dX5_init_37 : decode cX5_init 37 = .ok (.bipush 6, 2) := by decide +kernel
theorem dX5_init_39 : decode cX5_init 39 = .ok (.newarray .int, 2) := by decide +kernel
theorem dX5_init_41 : decode cX5_init 41 = .ok (.putfield 24, 3) := by decide +kernel
theorem dX5_init_44 : decode cX5_init 44 = .ok (.aload_n 0, 1) := by decide +kernel
theorem dX5_init_45 : decode cX5_init 45 = .ok (.bipush 6, 2) := by decide +kernel
theorem dX5_init_47 : decode cX5_init 47 = .ok (.newarray .int, 2) := by decide +kernel
theorem dX5_init_49 : decode cX5_init 49 = .ok (.putfield 27, 3) := by decide +kernel
theorem dX5_init_52 : decode cX5_init 52 = .ok (.aload_n 0, 1) := by decide +kernel
theorem dX5_init_53 : decode cX5_init 53 = .ok (.bipush 6, 2) := by decide +kernel
theorem dX5_init_55 : decode cX5_init 55 = .ok (.newarray .int, 2) := by decide +kernel
theorem dX5_init_57 : decode cX5_init 57 = .ok (.putfield 30, 3) := by decide +kernel
theorem dX5_init_60 : decode cX5_init 60 = .ok (.aload_n 0, 1) := by decide +kernel
theorem dX5_init_61 : decode cX5_init 61 = .ok (.iconst 0, 1) := by decide +kernel
theorem dX5_init_62 : decode cX5_init 62 = .ok (.putfield 33, 3) := by decide +kernel
theorem dX5_init_65 : decode cX5_init 65 = .ok (.aload_n 0, 1) := by decide +kernel
theorem dX5_init_66 : decode cX5_init 66 = .ok (.bipush (-5), 2) := by decide +kernel
theorem dX5_init_68 : decode cX5_init 68 = .ok (.putfield 37, 3) := by decide +kernel
theorem dX5_init_71 : decode cX5_init 71 = .ok (.aload_n 0, 1) := by decide +kernel
theorem dX5_init_72 : decode cX5_init 72 = .ok (.iconst 0, 1) := by decide +kernel
theorem dX5_init_73 : decode cX5_init 73 = .ok (.putfield 40, 3) := by decide +kernel
theorem dX5_init_76 : decode cX5_init 76 = .ok (.aload_n 0, 1) := by decide +kernel
theorem dX5_init_77 : decode cX5_init 77 = .ok (.iconst 0, 1) := by decide +kernel
theorem dX5_init_78 : decode cX5_init 78 = .ok (.putfield 43, 3) := by decide +kernel
theorem dX5_init_81 : decode cX5_init 81 = .ok (.aload_n 0, 1) := by decide +kernel
theorem dX5_init_82 : decode cX5_init 82 = .ok (.iconst 0, 1) := by decide +kernel
theorem dX5_init_83 : decode cX5_init 83 = .ok (.putfield 46, 3) := by decide +kernel
theorem dX5_init_86 : decode cX5_init 86 = .ok (.return_, 1) := by decide +kernel
theorem dX5_copyFrom_0 : decode cX5_copyFrom 0 = .ok (.aload_n 1, 1) := by decide +kernel
theorem dX5_copyFrom_1 : decode cX5_copyFrom 1 = .ok (.getfield 9, 3) := by decide +kernel
theorem dX5_copyFrom_4 : decode cX5_copyFrom 4 = .ok (.aload_n 0, 1) := by decide +kernel
theorem dX5_copyFrom_5 : decode cX5_copyFrom 5 = .ok (.getfield 9, 3) := by decide +kernel
theorem dX5_copyFrom_8 : decode cX5_copyFrom 8 = .ok (.invokestatic 49, 3) := by decide +kernel
theorem dX5_copyFrom_11 : decode cX5_copyFrom 11 = .ok (.aload_n 1, 1) := by decide +kernel
theorem dX5_copyFrom_12 : decode cX5_copyFrom 12 = .ok (.getfield 15, 3) := by decide +kernel
theorem dX5_copyFrom_15 : decode cX5_copyFrom 15 = .ok (.aload_n 0, 1) := by decide +kernel
theorem dX5_copyFrom_16 : decode cX5_copyFrom 16 = .ok (.getfield 15, 3) := by decide +kernel
theorem dX5_copyFrom_19 : decode cX5_copyFrom 19 = .ok (.invokestatic 49, 3) := by decide +kernel
theorem dX5_copyFrom_22 : decode cX5_copyFrom 22 = .ok (.aload_n 1, 1) := by decide +kernel
theorem dX5_copyFrom_23 : decode cX5_copyFrom 23 = .ok (.getfield 18, 3) := by decide +kernel
theorem dX5_copyFrom_26 : decode cX5_copyFrom 26 = .ok (.aload_n 0, 1) := by decide +kernel
theorem dX5_copyFrom_27 : decode cX5_copyFrom 27 = .ok (.getfield 18, 3) := by decide +kernel
theorem dX5_copyFrom_30 : decode cX5_copyFrom 30 = .ok (.invokestatic 49, 3) := by decide +kernel
theorem dX5_copyFrom_33 : decode cX5_copyFrom 33 = .ok (.aload_n 1, 1) := by decide +kernel
theorem dX5_copyFrom_34 : decode cX5_copyFrom 34 = .ok (.getfield 21, 3) := by decide +kernel
theorem dX5_copyFrom_37 : decode cX5_copyFrom 37 = .ok (.aload_n 0, 1) := by decide +kernel
theorem dX5_copyFrom_38 : decode cX5_copyFrom 38 = .ok (.getfield 21, 3) := by decide +kernel
theorem dX5_copyFrom_41 : decode cX5_copyFrom 41 = .ok (.invokestatic 49, 3) := by decide +kernel
theorem dX5_copyFrom_44 : decode cX5_copyFrom 44 = .ok (.aload_n 1, 1) := by decide +kernel
theorem dX5_copyFrom_45 : decode cX5_copyFrom 45 = .ok (.getfield 24, 3) := by decide +kernel
theorem dX5_copyFrom_48 : decode cX5_copyFrom 48 = .ok (.aload_n 0, 1) := by decide +kernel
theorem dX5_copyFrom_49 : decode cX5_copyFrom 49 = .ok (.getfield 24, 3) := by decide +kernel
theorem dX5_copyFrom_52 : decode cX5_copyFrom 52 = .ok (.invokestatic 49, 3) := by decide +kernel
theorem dX5_copyFrom_55 : decode cX5_copyFrom 55 = .ok (.aload_n 1, 1) := by decide +kernel
theorem dX5_copyFrom_56 : decode cX5_copyFrom 56 = .ok (.getfield 27, 3) := by decide +kernel
theorem dX5_copyFrom_59 : decode cX5_copyFrom 59 = .ok (.aload_n 0, 1) := by decide +kernel
theorem dX5_copyFrom_60 : decode cX5_copyFrom 60 = .ok (.getfield 27, 3) := by decide +kernel
theorem dX5_copyFrom_63 : decode cX5_copyFrom 63 = .ok (.invokestatic 49, 3) := by decide +kernel
theorem dX5_copyFrom_66 : decode cX5_copyFrom 66 = .ok (.aload_n 1, 1) := by decide +kernel
theorem dX5_copyFrom_67 : decode cX5_copyFrom 67 = .ok (.getfield 30, 3) := by decide +kernel
theorem dX5_copyFrom_70 : decode cX5_copyFrom 70 = .ok (.aload_n 0, 1) := by decide +kernel
theorem dX5_copyFrom_71 : decode cX5_copyFrom 71 = .ok (.getfield 30, 3) := by decide +kernel
theorem dX5_copyFrom_74 : decode cX5_copyFrom 74 = .ok (.invokestatic 49, 3) := by decide +kernel
theorem dX5_copyFrom_77 : decode cX5_copyFrom 77 = .ok (.aload_n 0, 1) := by decide +kernel
theorem dX5_copyFrom_78 : decode cX5_copyFrom 78 = .ok (.aload_n 1, 1) := by decide +kernel
theorem dX5_copyFrom_79 : decode cX5_copyFrom 79 = .ok (.getfield 33, 3) := by decide +kernel
theorem dX5_copyFrom_82 : decode cX5_copyFrom 82 = .ok (.putfield 33, 3) := by decide +kernel
theorem dX5_copyFrom_85 : decode cX5_copyFrom 85 = .ok (.aload_n 0, 1) := by decide +kernel
theorem dX5_copyFrom_86 : decode cX5_copyFrom 86 = .ok (.aload_n 1, 1) := by decide +kernel
theorem dX5_copyFrom_87 : decode cX5_copyFrom 87 = .ok (.getfield 37, 3) := by decide +kernel
theorem dX5_copyFrom_90 : decode cX5_copyFrom 90 = .ok (.putfield 37, 3) := by decide +kernel
theorem dX5_copyFrom_93 : decode cX5_copyFrom 93 = .ok (.aload_n 0, 1) := by decide +kernel
theorem dX5_copyFrom_94 : decode cX5_copyFrom 94 = .ok (.aload_n 1, 1) := by decide +kernel
theorem dX5_copyFrom_95 : decode cX5_copyFrom 95 = .ok (.getfield 40, 3) := by decide +kernel
theorem dX5_copyFrom_98 : decode cX5_copyFrom 98 = .ok (.putfield 40, 3) := by decide +kernel
theorem dX5_copyFrom_101 : decode cX5_copyFrom 101 = .ok (.aload_n 0, 1) := by decide +kernel
theorem dX5_copyFrom_102 : decode cX5_copyFrom 102 = .ok (.aload_n 1, 1) := by decide +kernel
theorem dX5_copyFrom_103 : decode cX5_copyFrom 103 = .ok (.getfield 43, 3) := by decide +kernel
theorem dX5_copyFrom_106 : decode cX5_copyFrom 106 = .ok (.putfield 43, 3) := by decide +kernel
theorem dX5_copyFrom_109 : decode cX5_copyFrom 109 = .ok (.aload_n 0, 1) := by decide +kernel
theorem dX5_copyFrom_110 : decode cX5_copyFrom 110 = .ok (.aload_n 1, 1) := by decide +kernel
theorem dX5_copyFrom_111 : decode cX5_copyFrom 111 = .ok (.getfield 46, 3) := by decide +kernel
theorem dX5_copyFrom_114 : decode cX5_copyFrom 114 = .ok (.putfield 46, 3) := by decide +kernel
theorem dX5_copyFrom_117 : decode cX5_copyFrom 117 = .ok (.return_, 1) := by decide +kernel
theorem dX5_has_0 : decode cX5_has 0 = .ok (.iload_n 1, 1) := by decide +kernel
theorem dX5_has_1 : decode cX5_has 1 = .ok (.ifCond .lt 21, 3) := by decide +kernel
theorem dX5_has_4 : decode cX5_has 4 = .ok (.iload_n 1, 1) := by decide +kernel
theorem dX5_has_5 : decode cX5_has 5 = .ok (.aload_n 0, 1) := by decide +kernel
theorem dX5_has_6 : decode cX5_has 6 = .ok (.getfield 33, 3) := by decide +kernel
theorem dX5_has_9 : decode cX5_has 9 = .ok (.if_icmp .ge 13, 3) := by decide +kernel
theorem dX5_has_12 : decode cX5_has 12 = .ok (.iload_n 1, 1) := by decide +kernel
theorem dX5_has_13 : decode cX5_has 13 = .ok (.bipush 6, 2) := by decide +kernel
theorem dX5_has_15 : decode cX5_has 15 = .ok (.if_icmp .ge 7, 3) := by decide +kernel
theorem dX5_has_18 : decode cX5_has 18 = .ok (.iconst 1, 1) := by decide +kernel
theorem dX5_has_19 : decode cX5_has 19 = .ok (.goto 4, 3) := by decide +kernel
theorem dX5_has_22 : decode cX5_has 22 = .ok (.iconst 0, 1) := by decide +kernel
theorem dX5_has_23 : decode cX5_has 23 = .ok (.ireturn, 1) := by decide +kernel
theorem dX5_standingOn_0 : decode cX5_standingOn 0 = .ok (.iconst 0, 1) := by decide +kernel
theorem dX5_standingOn_1 : decode cX5_standingOn 1 = .ok (.istore_n 2, 1) := by decide +kernel
theorem dX5_standingOn_2 : decode cX5_standingOn 2 = .ok (.iload_n 2, 1) := by decide +kernel
theorem dX5_standingOn_3 : decode cX5_standingOn 3 = .ok (.aload_n 0, 1) := by decide +kernel
theorem dX5_standingOn_4 : decode cX5_standingOn 4 = .ok (.getfield 33, 3) := by decide +kernel
theorem dX5_standingOn_7 : decode cX5_standingOn 7 = .ok (.if_icmp .ge 27, 3) := by decide +kernel
theorem dX5_standingOn_10 : decode cX5_standingOn 10 = .ok (.iload_n 2, 1) := by decide +kernel
theorem dX5_standingOn_11 : decode cX5_standingOn 11 = .ok (.bipush 6, 2) := by decide +kernel
theorem dX5_standingOn_13 : decode cX5_standingOn 13 = .ok (.if_icmp .ge 21, 3) := by decide +kernel
theorem dX5_standingOn_16 : decode cX5_standingOn 16 = .ok (.aload_n 0, 1) := by decide +kernel
theorem dX5_standingOn_17 : decode cX5_standingOn 17 = .ok (.getfield 9, 3) := by decide +kernel
theorem dX5_standingOn_20 : decode cX5_standingOn 20 = .ok (.iload_n 2, 1) := by decide +kernel
theorem dX5_standingOn_21 : decode cX5_standingOn 21 = .ok (.iaload, 1) := by decide +kernel
theorem dX5_standingOn_22 : decode cX5_standingOn 22 = .ok (.iload_n 1, 1) := by decide +kernel
theorem dX5_standingOn_23 : decode cX5_standingOn 23 = .ok (.if_icmp .ne 5, 3) := by decide +kernel
theorem dX5_standingOn_26 : decode cX5_standingOn 26 = .ok (.iload_n 2, 1) := by decide +kernel
theorem dX5_standingOn_27 : decode cX5_standingOn 27 = .ok (.ireturn, 1) := by decide +kernel
theorem dX5_standingOn_28 : decode cX5_standingOn 28 = .ok (.iinc 2 1, 3) := by decide +kernel
theorem dX5_standingOn_31 : decode cX5_standingOn 31 = .ok (.goto (-29), 3) := by decide +kernel
theorem dX5_standingOn_34 : decode cX5_standingOn 34 = .ok (.bipush (-5), 2) := by decide +kernel
theorem dX5_standingOn_36 : decode cX5_standingOn 36 = .ok (.ireturn, 1) := by decide +kernel
theorem dX5_welcome_0 : decode cX5_welcome 0 = .ok (.iload_n 1, 1) := by decide +kernel
theorem dX5_welcome_1 : decode cX5_welcome 1 = .ok (.invokestatic 53, 3) := by decide +kernel
theorem dX5_welcome_4 : decode cX5_welcome 4 = .ok (.ifCond .ne 5, 3) := by decide +kernel
theorem dX5_welcome_7 : decode cX5_welcome 7 = .ok (.iconst (-1), 1) := by decide +kernel
theorem dX5_welcome_8 : decode cX5_welcome 8 = .ok (.ireturn, 1) := by decide +kernel
theorem dX5_welcome_9 : decode cX5_welcome 9 = .ok (.iload_n 2, 1) := by decide +kernel
theorem dX5_welcome_10 : decode cX5_welcome 10 = .ok (.iconst 1, 1) := by decide +kernel
theorem dX5_welcome_11 : decode cX5_welcome 11 = .ok (.if_icmp .lt 8, 3) := by decide +kernel
theorem dX5_welcome_14 : decode cX5_welcome 14 = .ok (.iload_n 2, 1) := by decide +kernel
theorem dX5_welcome_15 : decode cX5_welcome 15 = .ok (.iconst 5, 1) := by decide +kernel
theorem dX5_welcome_16 : decode cX5_welcome 16 = .ok (.if_icmp .le 6, 3) := by decide +kernel
theorem dX5_welcome_19 : decode cX5_welcome 19 = .ok (.bipush (-2), 2) := by decide +kernel
theorem dX5_welcome_21 : decode cX5_welcome 21 = .ok (.ireturn, 1) := by decide +kernel
theorem dX5_welcome_22 : decode cX5_welcome 22 = .ok (.aload_n 0, 1) := by decide +kernel
theorem dX5_welcome_23 : decode cX5_welcome 23 = .ok (.iload_n 1, 1) := by decide +kernel
theorem dX5_welcome_24 : decode cX5_welcome 24 = .ok (.invokevirtual 57, 3) := by decide +kernel
theorem dX5_welcome_27 : decode cX5_welcome 27 = .ok (.bipush (-5), 2) := by decide +kernel
theorem dX5_welcome_29 : decode cX5_welcome 29 = .ok (.if_icmp .eq 6, 3) := by decide +kernel
theorem dX5_welcome_32 : decode cX5_welcome 32 = .ok (.bipush (-4), 2) := by decide +kernel
theorem dX5_welcome_34 : decode cX5_welcome 34 = .ok (.ireturn, 1) := by decide +kernel
theorem dX5_welcome_35 : decode cX5_welcome 35 = .ok (.aload_n 0, 1) := by decide +kernel
theorem dX5_welcome_36 : decode cX5_welcome 36 = .ok (.getfield 33, 3) := by decide +kernel
theorem dX5_welcome_39 : decode cX5_welcome 39 = .ok (.ifCond .lt 12, 3) := by decide +kernel
theorem dX5_welcome_42 : decode cX5_welcome 42 = .ok (.aload_n 0, 1) := by decide +kernel
theorem dX5_welcome_43 : decode cX5_welcome 43 = .ok (.getfield 33, 3) := by decide +kernel
theorem dX5_welcome_46 : decode cX5_welcome 46 = .ok (.bipush 6, 2) := by decide +kernel
theorem dX5_welcome_48 : decode cX5_welcome 48 = .ok (.if_icmp .lt 6, 3) := by decide +kernel
theorem dX5_welcome_51 : decode cX5_welcome 51 = .ok (.bipush (-3), 2) := by decide +kernel
theorem dX5_welcome_53 : decode cX5_welcome 53 = .ok (.ireturn, 1) := by decide +kernel
theorem dX5_welcome_54 : decode cX5_welcome 54 = .ok (.aload_n 0, 1) := by decide +kernel
theorem dX5_welcome_55 : decode cX5_welcome 55 = .ok (.getfield 33, 3) := by decide +kernel
theorem dX5_welcome_58 : decode cX5_welcome 58 = .ok (.istore_n 3, 1) := by decide +kernel
theorem dX5_welcome_59 : decode cX5_welcome 59 = .ok (.aload_n 0, 1) := by decide +kernel
theorem dX5_welcome_60 : decode cX5_welcome 60 = .ok (.getfield 9, 3) := by decide +kernel
theorem dX5_welcome_63 : decode cX5_welcome 63 = .ok (.iload_n 3, 1) := by decide +kernel
theorem dX5_welcome_64 : decode cX5_welcome 64 = .ok (.iload_n 1, 1) := by decide +kernel
theorem dX5_welcome_65 : decode cX5_welcome 65 = .ok (.iastore, 1) := by decide +kernel
theorem dX5_welcome_66 : decode cX5_welcome 66 = .ok (.aload_n 0, 1) := by decide +kernel
theorem dX5_welcome_67 : decode cX5_welcome 67 = .ok (.getfield 15, 3) := by decide +kernel
theorem dX5_welcome_70 : decode cX5_welcome 70 = .ok (.iload_n 3, 1) := by decide +kernel
theorem dX5_welcome_71 : decode cX5_welcome 71 = .ok (.iload_n 2, 1) := by decide +kernel
theorem dX5_welcome_72 : decode cX5_welcome 72 = .ok (.iastore, 1) := by decide +kernel
theorem dX5_welcome_73 : decode cX5_welcome 73 = .ok (.aload_n 0, 1) := by decide +kernel
theorem dX5_welcome_74 : decode cX5_welcome 74 = .ok (.getfield 18, 3) := by decide +kernel
theorem dX5_welcome_77 : decode cX5_welcome 77 = .ok (.iload_n 3, 1) := by decide +kernel
theorem dX5_welcome_78 : decode cX5_welcome 78 = .ok (.iconst 4, 1) := by decide +kernel
theorem dX5_welcome_79 : decode cX5_welcome 79 = .ok (.iastore, 1) := by decide +kernel
theorem dX5_welcome_80 : decode cX5_welcome 80 = .ok (.aload_n 0, 1) := by decide +kernel
theorem dX5_welcome_81 : decode cX5_welcome 81 = .ok (.getfield 21, 3) := by decide +kernel
theorem dX5_welcome_84 : decode cX5_welcome 84 = .ok (.iload_n 3, 1) := by decide +kernel
theorem dX5_welcome_85 : decode cX5_welcome 85 = .ok (.iconst 0, 1) := by decide +kernel
theorem dX5_welcome_86 : decode cX5_welcome 86 = .ok (.iastore, 1) := by decide +kernel
theorem dX5_welcome_87 : decode cX5_welcome 87 = .ok (.aload_n 0, 1) := by decide +kernel
theorem dX5_welcome_88 : decode cX5_welcome 88 = .ok (.getfield 24, 3) := by decide +kernel
theorem dX5_welcome_91 : decode cX5_welcome 91 = .ok (.iload_n 3, 1) := by decide +kernel
theorem dX5_welcome_92 : decode cX5_welcome 92 = .ok (.iconst 0, 1) := by decide +kernel
theorem dX5_welcome_93 : decode cX5_welcome 93 = .ok (.iastore, 1) := by decide +kernel
theorem dX5_welcome_94 : decode cX5_welcome 94 = .ok (.aload_n 0, 1) := by decide +kernel
theorem dX5_welcome_95 : decode cX5_welcome 95 = .ok (.getfield 27, 3) := by decide +kernel
theorem dX5_welcome_98 : decode cX5_welcome 98 = .ok (.iload_n 3, 1) := by decide +kernel
theorem dX5_welcome_99 : decode cX5_welcome 99 = .ok (.iconst 0, 1) := by decide +kernel
theorem dX5_welcome_100 : decode cX5_welcome 100 = .ok (.iastore, 1) := by decide +kernel
theorem dX5_welcome_101 : decode cX5_welcome 101 = .ok (.aload_n 0, 1) := by decide +kernel
theorem dX5_welcome_102 : decode cX5_welcome 102 = .ok (.getfield 30, 3) := by decide +kernel
theorem dX5_welcome_105 : decode cX5_welcome 105 = .ok (.iload_n 3, 1) := by decide +kernel
theorem dX5_welcome_106 : decode cX5_welcome 106 = .ok (.iconst 0, 1) := by decide +kernel
theorem dX5_welcome_107 : decode cX5_welcome 107 = .ok (.iastore, 1) := by decide +kernel
theorem dX5_welcome_108 : decode cX5_welcome 108 = .ok (.aload_n 0, 1) := by decide +kernel
theorem dX5_welcome_109 : decode cX5_welcome 109 = .ok (.dup, 1) := by decide +kernel
theorem dX5_welcome_110 : decode cX5_welcome 110 = .ok (.getfield 33, 3) := by decide +kernel
theorem dX5_welcome_113 : decode cX5_welcome 113 = .ok (.iconst 1, 1) := by decide +kernel
theorem dX5_welcome_114 : decode cX5_welcome 114 = .ok (.iadd, 1) := by decide +kernel
theorem dX5_welcome_115 : decode cX5_welcome 115 = .ok (.putfield 33, 3) := by decide +kernel
theorem dX5_welcome_118 : decode cX5_welcome 118 = .ok (.aload_n 0, 1) := by decide +kernel
theorem dX5_welcome_119 : decode cX5_welcome 119 = .ok (.aload_n 0, 1) := by decide +kernel
theorem dX5_welcome_120 : decode cX5_welcome 120 = .ok (.getfield 37, 3) := by decide +kernel
theorem dX5_welcome_123 : decode cX5_welcome 123 = .ok (.bipush (-5), 2) := by decide +kernel
theorem dX5_welcome_125 : decode cX5_welcome 125 = .ok (.if_icmp .ne 7, 3) := by decide +kernel
theorem dX5_welcome_128 : decode cX5_welcome 128 = .ok (.iload_n 3, 1) := by decide +kernel
theorem dX5_welcome_129 : decode cX5_welcome 129 = .ok (.goto 7, 3) := by decide +kernel
theorem dX5_welcome_132 : decode cX5_welcome 132 = .ok (.aload_n 0, 1) := by decide +kernel
theorem dX5_welcome_133 : decode cX5_welcome 133 = .ok (.getfield 37, 3) := by decide +kernel
theorem dX5_welcome_136 : decode cX5_welcome 136 = .ok (.putfield 37, 3) := by decide +kernel
theorem dX5_welcome_139 : decode cX5_welcome 139 = .ok (.iload_n 3, 1) := by decide +kernel
theorem dX5_welcome_140 : decode cX5_welcome 140 = .ok (.ireturn, 1) := by decide +kernel
theorem dX5_steer_0 : decode cX5_steer 0 = .ok (.aload_n 0, 1) := by decide +kernel
theorem dX5_steer_1 : decode cX5_steer 1 = .ok (.iload_n 1, 1) := by decide +kernel
theorem dX5_steer_2 : decode cX5_steer 2 = .ok (.invokevirtual 61, 3) := by decide +kernel
theorem dX5_steer_5 : decode cX5_steer 5 = .ok (.ifCond .ne 5, 3) := by decide +kernel
theorem dX5_steer_8 : decode cX5_steer 8 = .ok (.iconst (-1), 1) := by decide +kernel
theorem dX5_steer_9 : decode cX5_steer 9 = .ok (.ireturn, 1) := by decide +kernel
theorem dX5_steer_10 : decode cX5_steer 10 = .ok (.iload_n 2, 1) := by decide +kernel
theorem dX5_steer_11 : decode cX5_steer 11 = .ok (.iconst (-1), 1) := by decide +kernel
theorem dX5_steer_12 : decode cX5_steer 12 = .ok (.if_icmp .lt 8, 3) := by decide +kernel
theorem dX5_steer_15 : decode cX5_steer 15 = .ok (.iload_n 2, 1) := by decide +kernel
theorem dX5_steer_16 : decode cX5_steer 16 = .ok (.iconst 4, 1) := by decide +kernel
theorem dX5_steer_17 : decode cX5_steer 17 = .ok (.if_icmp .lt 6, 3) := by decide +kernel
theorem dX5_steer_20 : decode cX5_steer 20 = .ok (.bipush (-2), 2) := by decide +kernel
theorem dX5_steer_22 : decode cX5_steer 22 = .ok (.ireturn, 1) := by decide +kernel
theorem dX5_steer_23 : decode cX5_steer 23 = .ok (.aload_n 0, 1) := by decide +kernel
theorem dX5_steer_24 : decode cX5_steer 24 = .ok (.getfield 18, 3) := by decide +kernel
theorem dX5_steer_27 : decode cX5_steer 27 = .ok (.iload_n 1, 1) := by decide +kernel
theorem dX5_steer_28 : decode cX5_steer 28 = .ok (.iload_n 2, 1) := by decide +kernel
theorem dX5_steer_29 : decode cX5_steer 29 = .ok (.iconst (-1), 1) := by decide +kernel
theorem dX5_steer_30 : decode cX5_steer 30 = .ok (.if_icmp .ne 7, 3) := by decide +kernel
theorem dX5_steer_33 : decode cX5_steer 33 = .ok (.iconst 4, 1) := by decide +kernel
theorem dX5_steer_34 : decode cX5_steer 34 = .ok (.goto 4, 3) := by decide +kernel
theorem dX5_steer_37 : decode cX5_steer 37 = .ok (.iload_n 2, 1) := by decide +kernel
theorem dX5_steer_38 : decode cX5_steer 38 = .ok (.iconst 0, 1) := by decide +kernel
theorem dX5_steer_39 : decode cX5_steer 39 = .ok (.iconst 4, 1) := by decide +kernel
theorem dX5_steer_40 : decode cX5_steer 40 = .ok (.invokestatic 64, 3) := by decide +kernel
theorem dX5_steer_43 : decode cX5_steer 43 = .ok (.ireturn, 1) := by decide +kernel
theorem dX5_stepAll_0 : decode cX5_stepAll 0 = .ok (.iconst 0, 1) := by decide +kernel
theorem dX5_stepAll_1 : decode cX5_stepAll 1 = .ok (.istore_n 1, 1) := by decide +kernel
theorem dX5_stepAll_2 : decode cX5_stepAll 2 = .ok (.iload_n 1, 1) := by decide +kernel
theorem dX5_stepAll_3 : decode cX5_stepAll 3 = .ok (.aload_n 0, 1) := by decide +kernel
theorem dX5_stepAll_4 : decode cX5_stepAll 4 = .ok (.getfield 33, 3) := by decide +kernel
theorem dX5_stepAll_7 : decode cX5_stepAll 7 = .ok (.if_icmp .ge 14, 3) := by decide +kernel
theorem dX5_stepAll_10 : decode cX5_stepAll 10 = .ok (.aload_n 0, 1) := by decide +kernel
theorem dX5_stepAll_11 : decode cX5_stepAll 11 = .ok (.iload_n 1, 1) := by decide +kernel
theorem dX5_stepAll_12 : decode cX5_stepAll 12 = .ok (.invokevirtual 68, 3) := by decide +kernel
theorem dX5_stepAll_15 : decode cX5_stepAll 15 = .ok (.iinc 1 1, 3) := by decide +kernel
theorem dX5_stepAll_18 : decode cX5_stepAll 18 = .ok (.goto (-16), 3) := by decide +kernel
theorem dX5_stepAll_21 : decode cX5_stepAll 21 = .ok (.return_, 1) := by decide +kernel
theorem dX5_step_0 : decode cX5_step 0 = .ok (.aload_n 0, 1) := by decide +kernel
theorem dX5_step_1 : decode cX5_step 1 = .ok (.iload_n 1, 1) := by decide +kernel
theorem dX5_step_2 : decode cX5_step 2 = .ok (.invokevirtual 61, 3) := by decide +kernel
theorem dX5_step_5 : decode cX5_step 5 = .ok (.ifCond .eq 13, 3) := by decide +kernel
theorem dX5_step_8 : decode cX5_step 8 = .ok (.aload_n 0, 1) := by decide +kernel
theorem dX5_step_9 : decode cX5_step 9 = .ok (.getfield 18, 3) := by decide +kernel
theorem dX5_step_12 : decode cX5_step 12 = .ok (.iload_n 1, 1) := by decide +kernel
theorem dX5_step_13 : decode cX5_step 13 = .ok (.iaload, 1) := by decide +kernel
theorem dX5_step_14 : decode cX5_step 14 = .ok (.iconst 4, 1) := by decide +kernel
theorem dX5_step_15 : decode cX5_step 15 = .ok (.if_icmp .ne 4, 3) := by decide +kernel
theorem dX5_step_18 : decode cX5_step 18 = .ok (.return_, 1) := by decide +kernel
theorem dX5_step_19 : decode cX5_step 19 = .ok (.aload_n 0, 1) := by decide +kernel
theorem dX5_step_20 : decode cX5_step 20 = .ok (.getfield 9, 3) := by decide +kernel
theorem dX5_step_23 : decode cX5_step 23 = .ok (.iload_n 1, 1) := by decide +kernel
theorem dX5_step_24 : decode cX5_step 24 = .ok (.iaload, 1) := by decide +kernel
theorem dX5_step_25 : decode cX5_step 25 = .ok (.istore_n 2, 1) := by decide +kernel
theorem dX5_step_26 : decode cX5_step 26 = .ok (.aload_n 0, 1) := by decide +kernel
theorem dX5_step_27 : decode cX5_step 27 = .ok (.getfield 18, 3) := by decide +kernel
theorem dX5_step_30 : decode cX5_step 30 = .ok (.iload_n 1, 1) := by decide +kernel
theorem dX5_step_31 : decode cX5_step 31 = .ok (.iaload, 1) := by decide +kernel
theorem dX5_step_32 : decode cX5_step 32 = .ok (.istore_n 3, 1) := by decide +kernel
theorem dX5_step_33 : decode cX5_step 33 = .ok (.iload_n 2, 1) := by decide +kernel
theorem dX5_step_34 : decode cX5_step 34 = .ok (.iload_n 3, 1) := by decide +kernel
theorem dX5_step_35 : decode cX5_step 35 = .ok (.iconst 1, 1) := by decide +kernel
theorem dX5_step_36 : decode cX5_step 36 = .ok (.invokestatic 72, 3) := by decide +kernel
theorem dX5_step_39 : decode cX5_step 39 = .ok (.istore 4, 2) := by decide +kernel
theorem dX5_step_41 : decode cX5_step 41 = .ok (.iload_n 2, 1) := by decide +kernel
theorem dX5_step_42 : decode cX5_step 42 = .ok (.iload_n 3, 1) := by decide +kernel
theorem dX5_step_43 : decode cX5_step 43 = .ok (.invokestatic 76, 3) := by decide +kernel
theorem dX5_step_46 : decode cX5_step 46 = .ok (.ifCond .eq 14, 3) := by decide +kernel
theorem dX5_step_49 : decode cX5_step 49 = .ok (.aload_n 0, 1) := by decide +kernel
theorem dX5_step_50 : decode cX5_step 50 = .ok (.iload 4, 2) := by decide +kernel
theorem dX5_step_52 : decode cX5_step 52 = .ok (.invokevirtual 57, 3) := by decide +kernel
theorem dX5_step_55 : decode cX5_step 55 = .ok (.bipush (-5), 2) := by decide +kernel
theorem dX5_step_57 : decode cX5_step 57 = .ok (.if_icmp .eq 16, 3) := by decide +kernel
theorem dX5_step_60 : decode cX5_step 60 = .ok (.aload_n 0, 1) := by decide +kernel
theorem dX5_step_61 : decode cX5_step 61 = .ok (.dup, 1) := by decide +kernel
theorem dX5_step_62 : decode cX5_step 62 = .ok (.getfield 46, 3) := by decide +kernel
theorem dX5_step_65 : decode cX5_step 65 = .ok (.iconst 1, 1) := by decide +kernel
theorem dX5_step_66 : decode cX5_step 66 = .ok (.iadd, 1) := by decide +kernel
theorem dX5_step_67 : decode cX5_step 67 = .ok (.putfield 46, 3) := by decide +kernel
theorem dX5_step_70 : decode cX5_step 70 = .ok (.goto 21, 3) := by decide +kernel
theorem dX5_step_73 : decode cX5_step 73 = .ok (.aload_n 0, 1) := by decide +kernel
theorem dX5_step_74 : decode cX5_step 74 = .ok (.getfield 9, 3) := by decide +kernel
theorem dX5_step_77 : decode cX5_step 77 = .ok (.iload_n 1, 1) := by decide +kernel
theorem dX5_step_78 : decode cX5_step 78 = .ok (.iload 4, 2) := by decide +kernel
theorem dX5_step_80 : decode cX5_step 80 = .ok (.iastore, 1) := by decide +kernel
theorem dX5_step_81 : decode cX5_step 81 = .ok (.aload_n 0, 1) := by decide +kernel
theorem dX5_step_82 : decode cX5_step 82 = .ok (.dup, 1) := by decide +kernel
theorem dX5_step_83 : decode cX5_step 83 = .ok (.getfield 43, 3) := by decide +kernel
theorem dX5_step_86 : decode cX5_step 86 = .ok (.iconst 1, 1) := by decide +kernel
theorem dX5_step_87 : decode cX5_step 87 = .ok (.iadd, 1) := by decide +kernel
theorem dX5_step_88 : decode cX5_step 88 = .ok (.putfield 43, 3) := by decide +kernel
theorem dX5_step_91 : decode cX5_step 91 = .ok (.return_, 1) := by decide +kernel
theorem dX5_handOver_0 : decode cX5_handOver 0 = .ok (.aload_n 0, 1) := by decide +kernel
theorem dX5_handOver_1 : decode cX5_handOver 1 = .ok (.iload_n 1, 1) := by decide +kernel
theorem dX5_handOver_2 : decode cX5_handOver 2 = .ok (.invokevirtual 61, 3) := by decide +kernel
theorem dX5_handOver_5 : decode cX5_handOver 5 = .ok (.ifCond .eq 14, 3) := by decide +kernel
theorem dX5_handOver_8 : decode cX5_handOver 8 = .ok (.aload_n 0, 1) := by decide +kernel
theorem dX5_handOver_9 : decode cX5_handOver 9 = .ok (.aload_n 0, 1) := by decide +kernel
theorem dX5_handOver_10 : decode cX5_handOver 10 = .ok (.getfield 37, 3) := by decide +kernel
theorem dX5_handOver_13 : decode cX5_handOver 13 = .ok (.invokevirtual 61, 3) := by decide +kernel
theorem dX5_handOver_16 : decode cX5_handOver 16 = .ok (.ifCond .ne 4, 3) := by decide +kernel
theorem dX5_handOver_19 : decode cX5_handOver 19 = .ok (.return_, 1) := by decide +kernel
theorem dX5_handOver_20 : decode cX5_handOver 20 = .ok (.aload_n 0, 1) := by decide +kernel
theorem dX5_handOver_21 : decode cX5_handOver 21 = .ok (.getfield 24, 3) := by decide +kernel
theorem dX5_handOver_24 : decode cX5_handOver 24 = .ok (.iload_n 1, 1) := by decide +kernel
theorem dX5_handOver_25 : decode cX5_handOver 25 = .ok (.dup2, 1) := by decide +kernel
theorem dX5_handOver_26 : decode cX5_handOver 26 = .ok (.iaload, 1) := by decide +kernel
theorem dX5_handOver_27 : decode cX5_handOver 27 = .ok (.iconst 1, 1) := by decide +kernel
theorem dX5_handOver_28 : decode cX5_handOver 28 = .ok (.iadd, 1) := by decide +kernel
theorem dX5_handOver_29 : decode cX5_handOver 29 = .ok (.iastore, 1) := by decide +kernel
theorem dX5_handOver_30 : decode cX5_handOver 30 = .ok (.aload_n 0, 1) := by decide +kernel
theorem dX5_handOver_31 : decode cX5_handOver 31 = .ok (.getfield 27, 3) := by decide +kernel
theorem dX5_handOver_34 : decode cX5_handOver 34 = .ok (.aload_n 0, 1) := by decide +kernel
theorem dX5_handOver_35 : decode cX5_handOver 35 = .ok (.getfield 37, 3) := by decide +kernel
theorem dX5_handOver_38 : decode cX5_handOver 38 = .ok (.dup2, 1) := by decide +kernel
theorem dX5_handOver_39 : decode cX5_handOver 39 = .ok (.iaload, 1) := by decide +kernel
theorem dX5_handOver_40 : decode cX5_handOver 40 = .ok (.iconst 1, 1) := by decide +kernel
theorem dX5_handOver_41 : decode cX5_handOver 41 = .ok (.iadd, 1) := by decide +kernel
theorem dX5_handOver_42 : decode cX5_handOver 42 = .ok (.iastore, 1) := by decide +kernel
theorem dX5_handOver_43 : decode cX5_handOver 43 = .ok (.aload_n 0, 1) := by decide +kernel
theorem dX5_handOver_44 : decode cX5_handOver 44 = .ok (.getfield 21, 3) := by decide +kernel
theorem dX5_handOver_47 : decode cX5_handOver 47 = .ok (.aload_n 0, 1) := by decide +kernel
theorem dX5_handOver_48 : decode cX5_handOver 48 = .ok (.getfield 37, 3) := by decide +kernel
theorem dX5_handOver_51 : decode cX5_handOver 51 = .ok (.iload_n 2, 1) := by decide +kernel
theorem dX5_handOver_52 : decode cX5_handOver 52 = .ok (.iastore, 1) := by decide +kernel
theorem dX5_handOver_53 : decode cX5_handOver 53 = .ok (.aload_n 0, 1) := by decide +kernel
theorem dX5_handOver_54 : decode cX5_handOver 54 = .ok (.iload_n 1, 1) := by decide +kernel
theorem dX5_handOver_55 : decode cX5_handOver 55 = .ok (.putfield 37, 3) := by decide +kernel
theorem dX5_handOver_58 : decode cX5_handOver 58 = .ok (.aload_n 0, 1) := by decide +kernel
theorem dX5_handOver_59 : decode cX5_handOver 59 = .ok (.dup, 1) := by decide +kernel
theorem dX5_handOver_60 : decode cX5_handOver 60 = .ok (.getfield 40, 3) := by decide +kernel
theorem dX5_handOver_63 : decode cX5_handOver 63 = .ok (.iconst 1, 1) := by decide +kernel
theorem dX5_handOver_64 : decode cX5_handOver 64 = .ok (.iadd, 1) := by decide +kernel
theorem dX5_handOver_65 : decode cX5_handOver 65 = .ok (.putfield 40, 3) := by decide +kernel
theorem dX5_handOver_68 : decode cX5_handOver 68 = .ok (.return_, 1) := by decide +kernel
theorem dX5_shortenRespites_0 : decode cX5_shortenRespites 0 = .ok (.iconst 0, 1) := by decide +kernel
theorem dX5_shortenRespites_1 : decode cX5_shortenRespites 1 = .ok (.istore_n 1, 1) := by decide +kernel
theorem dX5_shortenRespites_2 : decode cX5_shortenRespites 2 = .ok (.iload_n 1, 1) := by decide +kernel
theorem dX5_shortenRespites_3 : decode cX5_shortenRespites 3 = .ok (.aload_n 0, 1) := by decide +kernel
theorem dX5_shortenRespites_4 : decode cX5_shortenRespites 4 = .ok (.getfield 33, 3) := by decide +kernel
theorem dX5_shortenRespites_7 : decode cX5_shortenRespites 7 = .ok (.if_icmp .ge 34, 3) := by decide +kernel
theorem dX5_shortenRespites_10 : decode cX5_shortenRespites 10 = .ok (.iload_n 1, 1) := by decide +kernel
theorem dX5_shortenRespites_11 : decode cX5_shortenRespites 11 = .ok (.bipush 6, 2) := by decide +kernel
theorem dX5_shortenRespites_13 : decode cX5_shortenRespites 13 = .ok (.if_icmp .ge 28, 3) := by decide +kernel
theorem dX5_shortenRespites_16 : decode cX5_shortenRespites 16 = .ok (.aload_n 0, 1) := by decide +kernel
theorem dX5_shortenRespites_17 : decode cX5_shortenRespites 17 = .ok (.getfield 21, 3) := by decide +kernel
theorem dX5_shortenRespites_20 : decode cX5_shortenRespites 20 = .ok (.iload_n 1, 1) := by decide +kernel
theorem dX5_shortenRespites_21 : decode cX5_shortenRespites 21 = .ok (.iaload, 1) := by decide +kernel
theorem dX5_shortenRespites_22 : decode cX5_shortenRespites 22 = .ok (.ifCond .le 13, 3) := by decide +kernel
theorem dX5_shortenRespites_25 : decode cX5_shortenRespites 25 = .ok (.aload_n 0, 1) := by decide +kernel
theorem dX5_shortenRespites_26 : decode cX5_shortenRespites 26 = .ok (.getfield 21, 3) := by decide +kernel
theorem dX5_shortenRespites_29 : decode cX5_shortenRespites 29 = .ok (.iload_n 1, 1) := by decide +kernel
theorem dX5_shortenRespites_30 : decode cX5_shortenRespites 30 = .ok (.dup2, 1) := by decide +kernel
theorem dX5_shortenRespites_31 : decode cX5_shortenRespites 31 = .ok (.iaload, 1) := by decide +kernel
theorem dX5_shortenRespites_32 : decode cX5_shortenRespites 32 = .ok (.iconst 1, 1) := by decide +kernel
theorem dX5_shortenRespites_33 : decode cX5_shortenRespites 33 = .ok (.isub, 1) := by decide +kernel
theorem dX5_shortenRespites_34 : decode cX5_shortenRespites 34 = .ok (.iastore, 1) := by decide +kernel
theorem dX5_shortenRespites_35 : decode cX5_shortenRespites 35 = .ok (.iinc 1 1, 3) := by decide +kernel
theorem dX5_shortenRespites_38 : decode cX5_shortenRespites 38 = .ok (.goto (-36), 3) := by decide +kernel
theorem dX5_shortenRespites_41 : decode cX5_shortenRespites 41 = .ok (.return_, 1) := by decide +kernel
theorem dX5_addToAccounts_0 : decode cX5_addToAccounts 0 = .ok (.iconst 0, 1) := by decide +kernel
theorem dX5_addToAccounts_1 : decode cX5_addToAccounts 1 = .ok (.istore_n 1, 1) := by decide +kernel
theorem dX5_addToAccounts_2 : decode cX5_addToAccounts 2 = .ok (.iload_n 1, 1) := by decide +kernel
theorem dX5_addToAccounts_3 : decode cX5_addToAccounts 3 = .ok (.aload_n 0, 1) := by decide +kernel
theorem dX5_addToAccounts_4 : decode cX5_addToAccounts 4 = .ok (.getfield 33, 3) := by decide +kernel
theorem dX5_addToAccounts_7 : decode cX5_addToAccounts 7 = .ok (.if_icmp .ge 33, 3) := by decide +kernel
theorem dX5_addToAccounts_10 : decode cX5_addToAccounts 10 = .ok (.iload_n 1, 1) := by decide +kernel
theorem dX5_addToAccounts_11 : decode cX5_addToAccounts 11 = .ok (.bipush 6, 2) := by decide +kernel
theorem dX5_addToAccounts_13 : decode cX5_addToAccounts 13 = .ok (.if_icmp .ge 27, 3) := by decide +kernel
theorem dX5_addToAccounts_16 : decode cX5_addToAccounts 16 = .ok (.iload_n 1, 1) := by decide +kernel
theorem dX5_addToAccounts_17 : decode cX5_addToAccounts 17 = .ok (.aload_n 0, 1) := by decide +kernel
theorem dX5_addToAccounts_18 : decode cX5_addToAccounts 18 = .ok (.getfield 37, 3) := by decide +kernel
theorem dX5_addToAccounts_21 : decode cX5_addToAccounts 21 = .ok (.if_icmp .eq 13, 3) := by decide +kernel
theorem dX5_addToAccounts_24 : decode cX5_addToAccounts 24 = .ok (.aload_n 0, 1) := by decide +kernel
theorem dX5_addToAccounts_25 : decode cX5_addToAccounts 25 = .ok (.getfield 30, 3) := by decide +kernel
theorem dX5_addToAccounts_28 : decode cX5_addToAccounts 28 = .ok (.iload_n 1, 1) := by decide +kernel
theorem dX5_addToAccounts_29 : decode cX5_addToAccounts 29 = .ok (.dup2, 1) := by decide +kernel
theorem dX5_addToAccounts_30 : decode cX5_addToAccounts 30 = .ok (.iaload, 1) := by decide +kernel
theorem dX5_addToAccounts_31 : decode cX5_addToAccounts 31 = .ok (.iconst 1, 1) := by decide +kernel
theorem dX5_addToAccounts_32 : decode cX5_addToAccounts 32 = .ok (.iadd, 1) := by decide +kernel
theorem dX5_addToAccounts_33 : decode cX5_addToAccounts 33 = .ok (.iastore, 1) := by decide +kernel
theorem dX5_addToAccounts_34 : decode cX5_addToAccounts 34 = .ok (.iinc 1 1, 3) := by decide +kernel
theorem dX5_addToAccounts_37 : decode cX5_addToAccounts 37 = .ok (.goto (-35), 3) := by decide +kernel
theorem dX5_addToAccounts_40 : decode cX5_addToAccounts 40 = .ok (.return_, 1) := by decide +kernel
theorem dX5_spin_0 : decode cX5_spin 0 = .ok (.iconst 0, 1) := by decide +kernel
theorem dX5_spin_1 : decode cX5_spin 1 = .ok (.istore_n 1, 1) := by decide +kernel
theorem dX5_spin_2 : decode cX5_spin 2 = .ok (.iload_n 1, 1) := by decide +kernel
theorem dX5_spin_3 : decode cX5_spin 3 = .ok (.aload_n 0, 1) := by decide +kernel
theorem dX5_spin_4 : decode cX5_spin 4 = .ok (.getfield 33, 3) := by decide +kernel
theorem dX5_spin_7 : decode cX5_spin 7 = .ok (.if_icmp .ge 78, 3) := by decide +kernel
theorem dX5_spin_10 : decode cX5_spin 10 = .ok (.iload_n 1, 1) := by decide +kernel
theorem dX5_spin_11 : decode cX5_spin 11 = .ok (.bipush 6, 2) := by decide +kernel
theorem dX5_spin_13 : decode cX5_spin 13 = .ok (.if_icmp .ge 72, 3) := by decide +kernel
theorem dX5_spin_16 : decode cX5_spin 16 = .ok (.aload_n 0, 1) := by decide +kernel
theorem dX5_spin_17 : decode cX5_spin 17 = .ok (.getfield 9, 3) := by decide +kernel
theorem dX5_spin_20 : decode cX5_spin 20 = .ok (.iload_n 1, 1) := by decide +kernel
theorem dX5_spin_21 : decode cX5_spin 21 = .ok (.iaload, 1) := by decide +kernel
theorem dX5_spin_22 : decode cX5_spin 22 = .ok (.bipush 10, 2) := by decide +kernel
theorem dX5_spin_24 : decode cX5_spin 24 = .ok (.idiv, 1) := by decide +kernel
theorem dX5_spin_25 : decode cX5_spin 25 = .ok (.istore_n 2, 1) := by decide +kernel
theorem dX5_spin_26 : decode cX5_spin 26 = .ok (.aload_n 0, 1) := by decide +kernel
theorem dX5_spin_27 : decode cX5_spin 27 = .ok (.getfield 9, 3) := by decide +kernel
theorem dX5_spin_30 : decode cX5_spin 30 = .ok (.iload_n 1, 1) := by decide +kernel
theorem dX5_spin_31 : decode cX5_spin 31 = .ok (.iaload, 1) := by decide +kernel
theorem dX5_spin_32 : decode cX5_spin 32 = .ok (.bipush 10, 2) := by decide +kernel
theorem dX5_spin_34 : decode cX5_spin 34 = .ok (.irem, 1) := by decide +kernel
theorem dX5_spin_35 : decode cX5_spin 35 = .ok (.istore_n 3, 1) := by decide +kernel
theorem dX5_spin_36 : decode cX5_spin 36 = .ok (.aload_n 0, 1) := by decide +kernel
theorem dX5_spin_37 : decode cX5_spin 37 = .ok (.getfield 9, 3) := by decide +kernel
theorem dX5_spin_40 : decode cX5_spin 40 = .ok (.iload_n 1, 1) := by decide +kernel
theorem dX5_spin_41 : decode cX5_spin 41 = .ok (.iload_n 3, 1) := by decide +kernel
theorem dX5_spin_42 : decode cX5_spin 42 = .ok (.bipush 10, 2) := by decide +kernel
theorem dX5_spin_44 : decode cX5_spin 44 = .ok (.imul, 1) := by decide +kernel
theorem dX5_spin_45 : decode cX5_spin 45 = .ok (.bipush 10, 2) := by decide +kernel
theorem dX5_spin_47 : decode cX5_spin 47 = .ok (.iadd, 1) := by decide +kernel
theorem dX5_spin_48 : decode cX5_spin 48 = .ok (.iconst 1, 1) := by decide +kernel
theorem dX5_spin_49 : decode cX5_spin 49 = .ok (.isub, 1) := by decide +kernel
theorem dX5_spin_50 : decode cX5_spin 50 = .ok (.iload_n 2, 1) := by decide +kernel
theorem dX5_spin_51 : decode cX5_spin 51 = .ok (.isub, 1) := by decide +kernel
theorem dX5_spin_52 : decode cX5_spin 52 = .ok (.iastore, 1) := by decide +kernel
theorem dX5_spin_53 : decode cX5_spin 53 = .ok (.aload_n 0, 1) := by decide +kernel
theorem dX5_spin_54 : decode cX5_spin 54 = .ok (.getfield 18, 3) := by decide +kernel
theorem dX5_spin_57 : decode cX5_spin 57 = .ok (.iload_n 1, 1) := by decide +kernel
theorem dX5_spin_58 : decode cX5_spin 58 = .ok (.iaload, 1) := by decide +kernel
theorem dX5_spin_59 : decode cX5_spin 59 = .ok (.iconst 4, 1) := by decide +kernel
theorem dX5_spin_60 : decode cX5_spin 60 = .ok (.if_icmp .eq 19, 3) := by decide +kernel
theorem dX5_spin_63 : decode cX5_spin 63 = .ok (.aload_n 0, 1) := by decide +kernel
theorem dX5_spin_64 : decode cX5_spin 64 = .ok (.getfield 18, 3) := by decide +kernel
theorem dX5_spin_67 : decode cX5_spin 67 = .ok (.iload_n 1, 1) := by decide +kernel
theorem dX5_spin_68 : decode cX5_spin 68 = .ok (.aload_n 0, 1) := by decide +kernel
theorem dX5_spin_69 : decode cX5_spin 69 = .ok (.getfield 18, 3) := by decide +kernel
theorem dX5_spin_72 : decode cX5_spin 72 = .ok (.iload_n 1, 1) := by decide +kernel
theorem dX5_spin_73 : decode cX5_spin 73 = .ok (.iaload, 1) := by decide +kernel
theorem dX5_spin_74 : decode cX5_spin 74 = .ok (.iconst 1, 1) := by decide +kernel
theorem dX5_spin_75 : decode cX5_spin 75 = .ok (.iadd, 1) := by decide +kernel
theorem dX5_spin_76 : decode cX5_spin 76 = .ok (.iconst 4, 1) := by decide +kernel
theorem dX5_spin_77 : decode cX5_spin 77 = .ok (.irem, 1) := by decide +kernel
theorem dX5_spin_78 : decode cX5_spin 78 = .ok (.iastore, 1) := by decide +kernel
theorem dX5_spin_79 : decode cX5_spin 79 = .ok (.iinc 1 1, 3) := by decide +kernel
theorem dX5_spin_82 : decode cX5_spin 82 = .ok (.goto (-80), 3) := by decide +kernel
theorem dX5_spin_85 : decode cX5_spin 85 = .ok (.return_, 1) := by decide +kernel
theorem dX6_init_0 : decode cX6_init 0 = .ok (.aload_n 0, 1) := by decide +kernel
theorem dX6_init_1 : decode cX6_init 1 = .ok (.invokespecial 3, 3) := by decide +kernel
theorem dX6_init_4 : decode cX6_init 4 = .ok (.aload_n 0, 1) := by decide +kernel
theorem dX6_init_5 : decode cX6_init 5 = .ok (.new 9, 3) := by decide +kernel
theorem dX6_init_8 : decode cX6_init 8 = .ok (.dup, 1) := by decide +kernel
theorem dX6_init_9 : decode cX6_init 9 = .ok (.invokespecial 11, 3) := by decide +kernel
theorem dX6_init_12 : decode cX6_init 12 = .ok (.putfield 12, 3) := by decide +kernel
theorem dX6_init_15 : decode cX6_init 15 = .ok (.aload_n 0, 1) := by decide +kernel
theorem dX6_init_16 : decode cX6_init 16 = .ok (.new 9, 3) := by decide +kernel
theorem dX6_init_19 : decode cX6_init 19 = .ok (.dup, 1) := by decide +kernel
theorem dX6_init_20 : decode cX6_init 20 = .ok (.invokespecial 11, 3) := by decide +kernel
theorem dX6_init_23 : decode cX6_init 23 = .ok (.putfield 16, 3) := by decide +kernel
theorem dX6_init_26 : decode cX6_init 26 = .ok (.aload_n 0, 1) := by decide +kernel
theorem dX6_init_27 : decode cX6_init 27 = .ok (.new 9, 3) := by decide +kernel
theorem dX6_init_30 : decode cX6_init 30 = .ok (.dup, 1) := by decide +kernel
theorem dX6_init_31 : decode cX6_init 31 = .ok (.invokespecial 11, 3) := by decide +kernel
theorem dX6_init_34 : decode cX6_init 34 = .ok (.putfield 19, 3) := by decide +kernel
theorem dX6_init_37 : decode cX6_init 37 = .ok (.aload_n 0, 1) := by decide +kernel
theorem dX6_init_38 : decode cX6_init 38 = .ok (.new 22, 3) := by decide +kernel
theorem dX6_init_41 : decode cX6_init 41 = .ok (.dup, 1) := by decide +kernel
theorem dX6_init_42 : decode cX6_init 42 = .ok (.invokespecial 24, 3) := by decide +kernel
theorem dX6_init_45 : decode cX6_init 45 = .ok (.putfield 25, 3) := by decide +kernel
theorem dX6_init_48 : decode cX6_init 48 = .ok (.aload_n 0, 1) := by decide +kernel
theorem dX6_init_49 : decode cX6_init 49 = .ok (.new 29, 3) := by decide +kernel
theorem dX6_init_52 : decode cX6_init 52 = .ok (.dup, 1) := by decide +kernel
theorem dX6_init_53 : decode cX6_init 53 = .ok (.invokespecial 31, 3) := by decide +kernel
theorem dX6_init_56 : decode cX6_init 56 = .ok (.putfield 32, 3) := by decide +kernel
theorem dX6_init_59 : decode cX6_init 59 = .ok (.aload_n 0, 1) := by decide +kernel
theorem dX6_init_60 : decode cX6_init 60 = .ok (.new 36, 3) := by decide +kernel
theorem dX6_init_63 : decode cX6_init 63 = .ok (.dup, 1) := by decide +kernel
theorem dX6_init_64 : decode cX6_init 64 = .ok (.invokespecial 38, 3) := by decide +kernel
theorem dX6_init_67 : decode cX6_init 67 = .ok (.putfield 39, 3) := by decide +kernel
theorem dX6_init_70 : decode cX6_init 70 = .ok (.aload_n 0, 1) := by decide +kernel
theorem dX6_init_71 : decode cX6_init 71 = .ok (.iconst 0, 1) := by decide +kernel
theorem dX6_init_72 : decode cX6_init 72 = .ok (.putfield 43, 3) := by decide +kernel
theorem dX6_init_75 : decode cX6_init 75 = .ok (.aload_n 0, 1) := by decide +kernel
theorem dX6_init_76 : decode cX6_init 76 = .ok (.bipush (-5), 2) := by decide +kernel
theorem dX6_init_78 : decode cX6_init 78 = .ok (.putfield 47, 3) := by decide +kernel
theorem dX6_init_81 : decode cX6_init 81 = .ok (.aload_n 0, 1) := by decide +kernel
theorem dX6_init_82 : decode cX6_init 82 = .ok (.bipush (-5), 2) := by decide +kernel
theorem dX6_init_84 : decode cX6_init 84 = .ok (.putfield 51, 3) := by decide +kernel
theorem dX6_init_87 : decode cX6_init 87 = .ok (.return_, 1) := by decide +kernel
theorem dX6_come_0 : decode cX6_come 0 = .ok (.aload_n 0, 1) := by decide +kernel
theorem dX6_come_1 : decode cX6_come 1 = .ok (.getfield 16, 3) := by decide +kernel
theorem dX6_come_4 : decode cX6_come 4 = .ok (.aload_n 0, 1) := by decide +kernel
theorem dX6_come_5 : decode cX6_come 5 = .ok (.getfield 12, 3) := by decide +kernel
theorem dX6_come_8 : decode cX6_come 8 = .ok (.invokevirtual 54, 3) := by decide +kernel
theorem dX6_come_11 : decode cX6_come 11 = .ok (.aload_n 0, 1) := by decide +kernel
theorem dX6_come_12 : decode cX6_come 12 = .ok (.aload_n 0, 1) := by decide +kernel
theorem dX6_come_13 : decode cX6_come 13 = .ok (.getfield 16, 3) := by decide +kernel
theorem dX6_come_16 : decode cX6_come 16 = .ok (.getfield 58, 3) := by decide +kernel
theorem dX6_come_19 : decode cX6_come 19 = .ok (.iload_n 1, 1) := by decide +kernel
theorem dX6_come_20 : decode cX6_come 20 = .ok (.iload_n 2, 1) := by decide +kernel
theorem dX6_come_21 : decode cX6_come 21 = .ok (.invokevirtual 62, 3) := by decide +kernel
theorem dX6_come_24 : decode cX6_come 24 = .ok (.invokevirtual 68, 3) := by decide +kernel
theorem dX6_come_27 : decode cX6_come 27 = .ok (.ireturn, 1) := by decide +kernel
theorem dX6_head_0 : decode cX6_head 0 = .ok (.aload_n 0, 1) := by decide +kernel
theorem dX6_head_1 : decode cX6_head 1 = .ok (.getfield 16, 3) := by decide +kernel
theorem dX6_head_4 : decode cX6_head 4 = .ok (.aload_n 0, 1) := by decide +kernel
theorem dX6_head_5 : decode cX6_head 5 = .ok (.getfield 12, 3) := by decide +kernel
theorem dX6_head_8 : decode cX6_head 8 = .ok (.invokevirtual 54, 3) := by decide +kernel
theorem dX6_head_11 : decode cX6_head 11 = .ok (.aload_n 0, 1) := by decide +kernel
theorem dX6_head_12 : decode cX6_head 12 = .ok (.aload_n 0, 1) := by decide +kernel
theorem dX6_head_13 : decode cX6_head 13 = .ok (.getfield 16, 3) := by decide +kernel
theorem dX6_head_16 : decode cX6_head 16 = .ok (.getfield 58, 3) := by decide +kernel
theorem dX6_head_19 : decode cX6_head 19 = .ok (.iload_n 1, 1) := by decide +kernel
theorem dX6_head_20 : decode cX6_head 20 = .ok (.iload_n 2, 1) := by decide +kernel
theorem dX6_head_21 : decode cX6_head 21 = .ok (.invokevirtual 72, 3) := by decide +kernel
theorem dX6_head_24 : decode cX6_head 24 = .ok (.invokevirtual 68, 3) := by decide +kernel
theorem dX6_head_27 : decode cX6_head 27 = .ok (.ireturn, 1) := by decide +kernel
theorem dX6_light_0 : decode cX6_light 0 = .ok (.aload_n 0, 1) := by decide +kernel
theorem dX6_light_1 : decode cX6_light 1 = .ok (.getfield 16, 3) := by decide +kernel
theorem dX6_light_4 : decode cX6_light 4 = .ok (.aload_n 0, 1) := by decide +kernel
theorem dX6_light_5 : decode cX6_light 5 = .ok (.getfield 12, 3) := by decide +kernel
theorem dX6_light_8 : decode cX6_light 8 = .ok (.invokevirtual 54, 3) := by decide +kernel
theorem dX6_light_11 : decode cX6_light 11 = .ok (.aload_n 0, 1) := by decide +kernel
theorem dX6_light_12 : decode cX6_light 12 = .ok (.aload_n 0, 1) := by decide +kernel
theorem dX6_light_13 : decode cX6_light 13 = .ok (.getfield 16, 3) := by decide +kernel
theorem dX6_light_16 : decode cX6_light 16 = .ok (.getfield 75, 3) := by decide +kernel
theorem dX6_light_19 : decode cX6_light 19 = .ok (.iload_n 1, 1) := by decide +kernel
theorem dX6_light_20 : decode cX6_light 20 = .ok (.iload_n 2, 1) := by decide +kernel
theorem dX6_light_21 : decode cX6_light 21 = .ok (.ifCond .eq 7, 3) := by decide +kernel
theorem dX6_light_24 : decode cX6_light 24 = .ok (.iconst 1, 1) := by decide +kernel
theorem dX6_light_25 : decode cX6_light 25 = .ok (.goto 4, 3) := by decide +kernel
theorem dX6_light_28 : decode cX6_light 28 = .ok (.iconst 0, 1) := by decide +kernel
theorem dX6_light_29 : decode cX6_light 29 = .ok (.invokevirtual 79, 3) := by decide +kernel
theorem dX6_light_32 : decode cX6_light 32 = .ok (.invokevirtual 68, 3) := by decide +kernel
theorem dX6_light_35 : decode cX6_light 35 = .ok (.ireturn, 1) := by decide +kernel
theorem dX6_setLamp_0 : decode cX6_setLamp 0 = .ok (.aload_n 0, 1) := by decide +kernel
theorem dX6_setLamp_1 : decode cX6_setLamp 1 = .ok (.getfield 16, 3) := by decide +kernel
theorem dX6_setLamp_4 : decode cX6_setLamp 4 = .ok (.aload_n 0, 1) := by decide +kernel
theorem dX6_setLamp_5 : decode cX6_setLamp 5 = .ok (.getfield 12, 3) := by decide +kernel
theorem dX6_setLamp_8 : decode cX6_setLamp 8 = .ok (.invokevirtual 54, 3) := by decide +kernel
theorem dX6_setLamp_11 : decode cX6_setLamp 11 = .ok (.aload_n 0, 1) := by decide +kernel
theorem dX6_setLamp_12 : decode cX6_setLamp 12 = .ok (.aload_n 0, 1) := by decide +kernel
theorem dX6_setLamp_13 : decode cX6_setLamp 13 = .ok (.getfield 16, 3) := by decide +kernel
theorem dX6_setLamp_16 : decode cX6_setLamp 16 = .ok (.getfield 75, 3) := by decide +kernel
theorem dX6_setLamp_19 : decode cX6_setLamp 19 = .ok (.iload_n 1, 1) := by decide +kernel
theorem dX6_setLamp_20 : decode cX6_setLamp 20 = .ok (.iload_n 2, 1) := by decide +kernel
theorem dX6_setLamp_21 : decode cX6_setLamp 21 = .ok (.iload_n 3, 1) := by decide +kernel
theorem dX6_setLamp_22 : decode cX6_setLamp 22 = .ok (.invokevirtual 84, 3) := by decide +kernel
theorem dX6_setLamp_25 : decode cX6_setLamp 25 = .ok (.invokevirtual 68, 3) := by decide +kernel
theorem dX6_setLamp_28 : decode cX6_setLamp 28 = .ok (.ireturn, 1) := by decide +kernel
theorem dX6_set_0 : decode cX6_set 0 = .ok (.aload_n 0, 1) := by decide +kernel
theorem dX6_set_1 : decode cX6_set 1 = .ok (.getfield 16, 3) := by decide +kernel
theorem dX6_set_4 : decode cX6_set 4 = .ok (.aload_n 0, 1) := by decide +kernel
theorem dX6_set_5 : decode cX6_set 5 = .ok (.getfield 12, 3) := by decide +kernel
theorem dX6_set_8 : decode cX6_set 8 = .ok (.invokevirtual 54, 3) := by decide +kernel
theorem dX6_set_11 : decode cX6_set 11 = .ok (.aload_n 0, 1) := by decide +kernel
theorem dX6_set_12 : decode cX6_set 12 = .ok (.aload_n 0, 1) := by decide +kernel
theorem dX6_set_13 : decode cX6_set 13 = .ok (.getfield 16, 3) := by decide +kernel
theorem dX6_set_16 : decode cX6_set 16 = .ok (.getfield 88, 3) := by decide +kernel
theorem dX6_set_19 : decode cX6_set 19 = .ok (.iload_n 1, 1) := by decide +kernel
theorem dX6_set_20 : decode cX6_set 20 = .ok (.iload_n 2, 1) := by decide +kernel
theorem dX6_set_21 : decode cX6_set 21 = .ok (.iconst 0, 1) := by decide +kernel
theorem dX6_set_22 : decode cX6_set 22 = .ok (.bipush 9, 2) := by decide +kernel
theorem dX6_set_24 : decode cX6_set 24 = .ok (.invokestatic 92, 3) := by decide +kernel
theorem dX6_set_27 : decode cX6_set 27 = .ok (.invokevirtual 68, 3) := by decide +kernel
theorem dX6_set_30 : decode cX6_set 30 = .ok (.ireturn, 1) := by decide +kernel
theorem dX6_pass_0 : decode cX6_pass 0 = .ok (.aload_n 0, 1) := by decide +kernel
theorem dX6_pass_1 : decode cX6_pass 1 = .ok (.getfield 16, 3) := by decide +kernel
theorem dX6_pass_4 : decode cX6_pass 4 = .ok (.aload_n 0, 1) := by decide +kernel
theorem dX6_pass_5 : decode cX6_pass 5 = .ok (.getfield 12, 3) := by decide +kernel
theorem dX6_pass_8 : decode cX6_pass 8 = .ok (.invokevirtual 54, 3) := by decide +kernel
theorem dX6_pass_11 : decode cX6_pass 11 = .ok (.aload_n 0, 1) := by decide +kernel
theorem dX6_pass_12 : decode cX6_pass 12 = .ok (.aload_n 0, 1) := by decide +kernel
theorem dX6_pass_13 : decode cX6_pass 13 = .ok (.getfield 16, 3) := by decide +kernel
theorem dX6_pass_16 : decode cX6_pass 16 = .ok (.iload_n 1, 1) := by decide +kernel
theorem dX6_pass_17 : decode cX6_pass 17 = .ok (.invokevirtual 96, 3) := by decide +kernel
theorem dX6_pass_20 : decode cX6_pass 20 = .ok (.invokevirtual 68, 3) := by decide +kernel
theorem dX6_pass_23 : decode cX6_pass 23 = .ok (.ireturn, 1) := by decide +kernel
theorem dX6_runner_0 : decode cX6_runner 0 = .ok (.aload_n 0, 1) := by decide +kernel
theorem dX6_runner_1 : decode cX6_runner 1 = .ok (.getfield 12, 3) := by decide +kernel
theorem dX6_runner_4 : decode cX6_runner 4 = .ok (.getfield 58, 3) := by decide +kernel
theorem dX6_runner_7 : decode cX6_runner 7 = .ok (.astore_n 3, 1) := by decide +kernel
theorem dX6_runner_8 : decode cX6_runner 8 = .ok (.aload_n 3, 1) := by decide +kernel
theorem dX6_runner_9 : decode cX6_runner 9 = .ok (.iload_n 1, 1) := by decide +kernel
theorem dX6_runner_10 : decode cX6_runner 10 = .ok (.invokevirtual 126, 3) := by decide +kernel
theorem dX6_runner_13 : decode cX6_runner 13 = .ok (.ifCond .ne 5, 3) := by decide +kernel
theorem dX6_runner_16 : decode cX6_runner 16 = .ok (.iconst (-1), 1) := by decide +kernel
theorem dX6_runner_17 : decode cX6_runner 17 = .ok (.ireturn, 1) := by decide +kernel
theorem dX6_runner_18 : decode cX6_runner 18 = .ok (.iload_n 2, 1) := by decide +kernel
theorem dX6_runner_19 : decode cX6_runner 19 = .ok (.tableswitch 100 0 7 #[45, 52, 59, 66, 73, 80, 87, 94], 45) := by decide +kernel
theorem dX6_runner_64 : decode cX6_runner 64 = .ok (.aload_n 3, 1) := by decide +kernel
theorem dX6_runner_65 : decode cX6_runner 65 = .ok (.getfield 130, 3) := by decide +kernel
theorem dX6_runner_68 : decode cX6_runner 68 = .ok (.iload_n 1, 1) := by decide +kernel
theorem dX6_runner_69 : decode cX6_runner 69 = .ok (.iaload, 1) := by decide +kernel
theorem dX6_runner_70 : decode cX6_runner 70 = .ok (.ireturn, 1) := by decide +kernel
theorem dX6_runner_71 : decode cX6_runner 71 = .ok (.aload_n 3, 1) := by decide +kernel
theorem dX6_runner_72 : decode cX6_runner 72 = .ok (.getfield 133, 3) := by decide +kernel
theorem dX6_runner_75 : decode cX6_runner 75 = .ok (.iload_n 1, 1) := by decide +kernel
theorem dX6_runner_76 : decode cX6_runner 76 = .ok (.iaload, 1) := by decide +kernel
theorem dX6_runner_77 : decode cX6_runner 77 = .ok (.ireturn, 1) := by decide +kernel
theorem dX6_runner_78 : decode cX6_runner 78 = .ok (.aload_n 3, 1) := by decide +kernel
theorem dX6_runner_79 : decode cX6_runner 79 = .ok (.getfield 136, 3) := by decide +kernel
theorem dX6_runner_82 : decode cX6_runner 82 = .ok (.iload_n 1, 1) := by decide +kernel
theorem dX6_runner_83 : decode cX6_runner 83 = .ok (.iaload, 1) := by decide +kernel
theorem dX6_runner_84 : decode cX6_runner 84 = .ok (.ireturn, 1) := by decide +kernel
theorem dX6_runner_85 : decode cX6_runner 85 = .ok (.aload_n 3, 1) := by decide +kernel
theorem dX6_runner_86 : decode cX6_runner 86 = .ok (.getfield 139, 3) := by decide +kernel
theorem dX6_runner_89 : decode cX6_runner 89 = .ok (.iload_n 1, 1) := by decide +kernel
theorem dX6_runner_90 : decode cX6_runner 90 = .ok (.iaload, 1) := by decide +kernel
theorem dX6_runner_91 : decode cX6_runner 91 = .ok (.ireturn, 1) := by decide +kernel
theorem dX6_runner_92 : decode cX6_runner 92 = .ok (.aload_n 3, 1) := by decide +kernel
theorem dX6_runner_93 : decode cX6_runner 93 = .ok (.getfield 142, 3) := by decide +kernel
theorem dX6_runner_96 : decode cX6_runner 96 = .ok (.iload_n 1, 1) := by decide +kernel
theorem dX6_runner_97 : decode cX6_runner 97 = .ok (.iaload, 1) := by decide +kernel
theorem dX6_runner_98 : decode cX6_runner 98 = .ok (.ireturn, 1) := by decide +kernel
theorem dX6_runner_99 : decode cX6_runner 99 = .ok (.aload_n 3, 1) := by decide +kernel
theorem dX6_runner_100 : decode cX6_runner 100 = .ok (.getfield 145, 3) := by decide +kernel
theorem dX6_runner_103 : decode cX6_runner 103 = .ok (.iload_n 1, 1) := by decide +kernel
theorem dX6_runner_104 : decode cX6_runner 104 = .ok (.iaload, 1) := by decide +kernel
theorem dX6_runner_105 : decode cX6_runner 105 = .ok (.ireturn, 1) := by decide +kernel
theorem dX6_runner_106 : decode cX6_runner 106 = .ok (.aload_n 3, 1) := by decide +kernel
theorem dX6_runner_107 : decode cX6_runner 107 = .ok (.getfield 148, 3) := by decide +kernel
theorem dX6_runner_110 : decode cX6_runner 110 = .ok (.iload_n 1, 1) := by decide +kernel
theorem dX6_runner_111 : decode cX6_runner 111 = .ok (.iaload, 1) := by decide +kernel
theorem dX6_runner_112 : decode cX6_runner 112 = .ok (.ireturn, 1) := by decide +kernel
theorem dX6_runner_113 : decode cX6_runner 113 = .ok (.aload_n 0, 1) := by decide +kernel
theorem dX6_runner_114 : decode cX6_runner 114 = .ok (.iload_n 1, 1) := by decide +kernel
theorem dX6_runner_115 : decode cX6_runner 115 = .ok (.invokevirtual 151, 3) := by decide +kernel
theorem dX6_runner_118 : decode cX6_runner 118 = .ok (.ireturn, 1) := by decide +kernel
theorem dX6_runner_119 : decode cX6_runner 119 = .ok (.bipush (-2), 2) := by decide +kernel
theorem dX6_runner_121 : decode cX6_runner 121 = .ok (.ireturn, 1) := by decide +kernel
theorem dX6_lamp_0 : decode cX6_lamp 0 = .ok (.aload_n 0, 1) := by decide +kernel
theorem dX6_lamp_1 : decode cX6_lamp 1 = .ok (.getfield 12, 3) := by decide +kernel
theorem dX6_lamp_4 : decode cX6_lamp 4 = .ok (.getfield 75, 3) := by decide +kernel
theorem dX6_lamp_7 : decode cX6_lamp 7 = .ok (.astore_n 3, 1) := by decide +kernel
theorem dX6_lamp_8 : decode cX6_lamp 8 = .ok (.iload_n 1, 1) := by decide +kernel
theorem dX6_lamp_9 : decode cX6_lamp 9 = .ok (.invokestatic 154, 3) := by decide +kernel
theorem dX6_lamp_12 : decode cX6_lamp 12 = .ok (.ifCond .ne 5, 3) := by decide +kernel
theorem dX6_lamp_15 : decode cX6_lamp 15 = .ok (.iconst (-1), 1) := by decide +kernel
theorem dX6_lamp_16 : decode cX6_lamp 16 = .ok (.ireturn, 1) := by decide +kernel
theorem dX6_lamp_17 : decode cX6_lamp 17 = .ok (.iload_n 2, 1) := by decide +kernel
theorem dX6_lamp_18 : decode cX6_lamp 18 = .ok (.tableswitch 68 0 4 #[34, 41, 48, 55, 62], 34) := by decide +kernel
theorem dX6_lamp_52 : decode cX6_lamp 52 = .ok (.aload_n 3, 1) := by decide +kernel
theorem dX6_lamp_53 : decode cX6_lamp 53 = .ok (.getfield 157, 3) := by decide +kernel
theorem dX6_lamp_56 : decode cX6_lamp 56 = .ok (.iload_n 1, 1) := by decide +kernel
theorem dX6_lamp_57 : decode cX6_lamp 57 = .ok (.iaload, 1) := by decide +kernel
theorem dX6_lamp_58 : decode cX6_lamp 58 = .ok (.ireturn, 1) := by decide +kernel
theorem dX6_lamp_59 : decode cX6_lamp 59 = .ok (.aload_n 3, 1) := by decide +kernel
theorem dX6_lamp_60 : decode cX6_lamp 60 = .ok (.getfield 160, 3) := by decide +kernel
theorem dX6_lamp_63 : decode cX6_lamp 63 = .ok (.iload_n 1, 1) := by decide +kernel
theorem dX6_lamp_64 : decode cX6_lamp 64 = .ok (.iaload, 1) := by decide +kernel
theorem dX6_lamp_65 : decode cX6_lamp 65 = .ok (.ireturn, 1) := by decide +kernel
theorem dX6_lamp_66 : decode cX6_lamp 66 = .ok (.aload_n 3, 1) := by decide +kernel
theorem dX6_lamp_67 : decode cX6_lamp 67 = .ok (.getfield 163, 3) := by decide +kernel
theorem dX6_lamp_70 : decode cX6_lamp 70 = .ok (.iload_n 1, 1) := by decide +kernel
theorem dX6_lamp_71 : decode cX6_lamp 71 = .ok (.iaload, 1) := by decide +kernel
theorem dX6_lamp_72 : decode cX6_lamp 72 = .ok (.ireturn, 1) := by decide +kernel
theorem dX6_lamp_73 : decode cX6_lamp 73 = .ok (.aload_n 3, 1) := by decide +kernel
theorem dX6_lamp_74 : decode cX6_lamp 74 = .ok (.getfield 166, 3) := by decide +kernel
theorem dX6_lamp_77 : decode cX6_lamp 77 = .ok (.iload_n 1, 1) := by decide +kernel
theorem dX6_lamp_78 : decode cX6_lamp 78 = .ok (.iaload, 1) := by decide +kernel
theorem dX6_lamp_79 : decode cX6_lamp 79 = .ok (.ireturn, 1) := by decide +kernel
theorem dX6_lamp_80 : decode cX6_lamp 80 = .ok (.aload_n 0, 1) := by decide +kernel
theorem dX6_lamp_81 : decode cX6_lamp 81 = .ok (.iload_n 1, 1) := by decide +kernel
theorem dX6_lamp_82 : decode cX6_lamp 82 = .ok (.invokevirtual 169, 3) := by decide +kernel
theorem dX6_lamp_85 : decode cX6_lamp 85 = .ok (.ireturn, 1) := by decide +kernel
theorem dX6_lamp_86 : decode cX6_lamp 86 = .ok (.bipush (-2), 2) := by decide +kernel
theorem dX6_lamp_88 : decode cX6_lamp 88 = .ok (.ireturn, 1) := by decide +kernel
theorem dX6_shadow_0 : decode cX6_shadow 0 = .ok (.aload_n 0, 1) := by decide +kernel
theorem dX6_shadow_1 : decode cX6_shadow 1 = .ok (.getfield 12, 3) := by decide +kernel
theorem dX6_shadow_4 : decode cX6_shadow 4 = .ok (.getfield 58, 3) := by decide +kernel
theorem dX6_shadow_7 : decode cX6_shadow 7 = .ok (.iload_n 1, 1) := by decide +kernel
theorem dX6_shadow_8 : decode cX6_shadow 8 = .ok (.invokevirtual 126, 3) := by decide +kernel
theorem dX6_shadow_11 : decode cX6_shadow 11 = .ok (.ifCond .eq 10, 3) := by decide +kernel
theorem dX6_shadow_14 : decode cX6_shadow 14 = .ok (.iload_n 2, 1) := by decide +kernel
theorem dX6_shadow_15 : decode cX6_shadow 15 = .ok (.invokestatic 154, 3) := by decide +kernel
theorem dX6_shadow_18 : decode cX6_shadow 18 = .ok (.ifCond .ne 5, 3) := by decide +kernel
theorem dX6_shadow_21 : decode cX6_shadow 21 = .ok (.iconst (-1), 1) := by decide +kernel
theorem dX6_shadow_22 : decode cX6_shadow 22 = .ok (.ireturn, 1) := by decide +kernel
theorem dX6_shadow_23 : decode cX6_shadow 23 = .ok (.iload_n 3, 1) := by decide +kernel
theorem dX6_shadow_24 : decode cX6_shadow 24 = .ok (.tableswitch 68 0 2 #[28, 38, 48], 28) := by decide +kernel
theorem dX6_shadow_52 : decode cX6_shadow 52 = .ok (.aload_n 0, 1) := by decide +kernel
theorem dX6_shadow_53 : decode cX6_shadow 53 = .ok (.getfield 12, 3) := by decide +kernel
theorem dX6_shadow_56 : decode cX6_shadow 56 = .ok (.iload_n 1, 1) := by decide +kernel
theorem dX6_shadow_57 : decode cX6_shadow 57 = .ok (.iload_n 2, 1) := by decide +kernel
theorem dX6_shadow_58 : decode cX6_shadow 58 = .ok (.invokevirtual 172, 3) := by decide +kernel
theorem dX6_shadow_61 : decode cX6_shadow 61 = .ok (.ireturn, 1) := by decide +kernel
theorem dX6_shadow_62 : decode cX6_shadow 62 = .ok (.aload_n 0, 1) := by decide +kernel
theorem dX6_shadow_63 : decode cX6_shadow 63 = .ok (.getfield 12, 3) := by decide +kernel
theorem dX6_shadow_66 : decode cX6_shadow 66 = .ok (.iload_n 1, 1) := by decide +kernel
theorem dX6_shadow_67 : decode cX6_shadow 67 = .ok (.iload_n 2, 1) := by decide +kernel
theorem dX6_shadow_68 : decode cX6_shadow 68 = .ok (.invokevirtual 175, 3) := by decide +kernel
theorem dX6_shadow_71 : decode cX6_shadow 71 = .ok (.ireturn, 1) := by decide +kernel
theorem dX6_shadow_72 : decode cX6_shadow 72 = .ok (.aload_n 0, 1) := by decide +kernel
theorem dX6_shadow_73 : decode cX6_shadow 73 = .ok (.getfield 12, 3) := by decide +kernel
theorem dX6_shadow_76 : decode cX6_shadow 76 = .ok (.getfield 58, 3) := by decide +kernel
theorem dX6_shadow_79 : decode cX6_shadow 79 = .ok (.aload_n 0, 1) := by decide +kernel
theorem dX6_shadow_80 : decode cX6_shadow 80 = .ok (.getfield 12, 3) := by decide +kernel
theorem dX6_shadow_83 : decode cX6_shadow 83 = .ok (.iload_n 1, 1) := by decide +kernel
theorem dX6_shadow_84 : decode cX6_shadow 84 = .ok (.iload_n 2, 1) := by decide +kernel
theorem dX6_shadow_85 : decode cX6_shadow 85 = .ok (.invokevirtual 175, 3) := by decide +kernel
theorem dX6_shadow_88 : decode cX6_shadow 88 = .ok (.invokevirtual 178, 3) := by decide +kernel
theorem dX6_shadow_91 : decode cX6_shadow 91 = .ok (.ireturn, 1) := by decide +kernel
theorem dX6_shadow_92 : decode cX6_shadow 92 = .ok (.bipush (-2), 2) := by decide +kernel
theorem dX6_shadow_94 : decode cX6_shadow 94 = .ok (.ireturn, 1) := by decide +kernel
theorem dX6_darkness_0 : decode cX6_darkness 0 = .ok (.iload_n 1, 1) := by decide +kernel
theorem dX6_darkness_1 : decode cX6_darkness 1 = .ok (.invokestatic 181, 3) := by decide +kernel
theorem dX6_darkness_4 : decode cX6_darkness 4 = .ok (.ifCond .ne 5, 3) := by decide +kernel
theorem dX6_darkness_7 : decode cX6_darkness 7 = .ok (.iconst (-1), 1) := by decide +kernel
theorem dX6_darkness_8 : decode cX6_darkness 8 = .ok (.ireturn, 1) := by decide +kernel
theorem dX6_darkness_9 : decode cX6_darkness 9 = .ok (.iconst 0, 1) := by decide +kernel
theorem dX6_darkness_10 : decode cX6_darkness 10 = .ok (.istore_n 2, 1) := by decide +kernel
theorem dX6_darkness_11 : decode cX6_darkness 11 = .ok (.iconst 0, 1) := by decide +kernel
theorem dX6_darkness_12 : decode cX6_darkness 12 = .ok (.istore_n 3, 1) := by decide +kernel
theorem dX6_darkness_13 : decode cX6_darkness 13 = .ok (.iload_n 3, 1) := by decide +kernel
theorem dX6_darkness_14 : decode cX6_darkness 14 = .ok (.aload_n 0, 1) := by decide +kernel
theorem dX6_darkness_15 : decode cX6_darkness 15 = .ok (.getfield 12, 3) := by decide +kernel
theorem dX6_darkness_18 : decode cX6_darkness 18 = .ok (.getfield 58, 3) := by decide +kernel
theorem dX6_darkness_21 : decode cX6_darkness 21 = .ok (.getfield 123, 3) := by decide +kernel
theorem dX6_darkness_24 : decode cX6_darkness 24 = .ok (.if_icmp .ge 41, 3) := by decide +kernel
theorem dX6_darkness_27 : decode cX6_darkness 27 = .ok (.iconst 0, 1) := by decide +kernel
theorem dX6_darkness_28 : decode cX6_darkness 28 = .ok (.istore 4, 2) := by decide +kernel
theorem dX6_darkness_30 : decode cX6_darkness 30 = .ok (.iload 4, 2) := by decide +kernel
theorem dX6_darkness_32 : decode cX6_darkness 32 = .ok (.iconst 3, 1) := by decide +kernel
theorem dX6_darkness_33 : decode cX6_darkness 33 = .ok (.if_icmp .ge 26, 3) := by decide +kernel
theorem dX6_darkness_36 : decode cX6_darkness 36 = .ok (.aload_n 0, 1) := by decide +kernel
theorem dX6_darkness_37 : decode cX6_darkness 37 = .ok (.getfield 12, 3) := by decide +kernel
theorem dX6_darkness_40 : decode cX6_darkness 40 = .ok (.iload_n 1, 1) := by decide +kernel
theorem dX6_darkness_41 : decode cX6_darkness 41 = .ok (.iload_n 3, 1) := by decide +kernel
theorem dX6_darkness_42 : decode cX6_darkness 42 = .ok (.iload 4, 2) := by decide +kernel
theorem dX6_darkness_44 : decode cX6_darkness 44 = .ok (.invokevirtual 184, 3) := by decide +kernel
theorem dX6_darkness_47 : decode cX6_darkness 47 = .ok (.ifCond .eq 6, 3) := by decide +kernel
theorem dX6_darkness_50 : decode cX6_darkness 50 = .ok (.iinc 2 1, 3) := by decide +kernel
theorem dX6_darkness_53 : decode cX6_darkness 53 = .ok (.iinc 4 1, 3) := by decide +kernel
theorem dX6_darkness_56 : decode cX6_darkness 56 = .ok (.goto (-26), 3) := by decide +kernel
theorem dX6_darkness_59 : decode cX6_darkness 59 = .ok (.iinc 3 1, 3) := by decide +kernel
theorem dX6_darkness_62 : decode cX6_darkness 62 = .ok (.goto (-49), 3) := by decide +kernel
theorem dX6_darkness_65 : decode cX6_darkness 65 = .ok (.iload_n 2, 1) := by decide +kernel
theorem dX6_darkness_66 : decode cX6_darkness 66 = .ok (.ireturn, 1) := by decide +kernel
theorem dX6_looked_0 : decode cX6_looked 0 = .ok (.iload_n 1, 1) := by decide +kernel
theorem dX6_looked_1 : decode cX6_looked 1 = .ok (.invokestatic 181, 3) := by decide +kernel
theorem dX6_looked_4 : decode cX6_looked 4 = .ok (.ifCond .ne 5, 3) := by decide +kernel
theorem dX6_looked_7 : decode cX6_looked 7 = .ok (.iconst (-1), 1) := by decide +kernel
theorem dX6_looked_8 : decode cX6_looked 8 = .ok (.ireturn, 1) := by decide +kernel
theorem dX6_looked_9 : decode cX6_looked 9 = .ok (.iconst 0, 1) := by decide +kernel
theorem dX6_looked_10 : decode cX6_looked 10 = .ok (.istore_n 2, 1) := by decide +kernel
theorem dX6_looked_11 : decode cX6_looked 11 = .ok (.iconst 0, 1) := by decide +kernel
theorem dX6_looked_12 : decode cX6_looked 12 = .ok (.istore_n 3, 1) := by decide +kernel
theorem dX6_looked_13 : decode cX6_looked 13 = .ok (.iload_n 3, 1) := by decide +kernel
theorem dX6_looked_14 : decode cX6_looked 14 = .ok (.iconst 3, 1) := by decide +kernel
theorem dX6_looked_15 : decode cX6_looked 15 = .ok (.if_icmp .ge 26, 3) := by decide +kernel
theorem dX6_looked_18 : decode cX6_looked 18 = .ok (.aload_n 0, 1) := by decide +kernel
theorem dX6_looked_19 : decode cX6_looked 19 = .ok (.getfield 12, 3) := by decide +kernel
theorem dX6_looked_22 : decode cX6_looked 22 = .ok (.iload_n 1, 1) := by decide +kernel
theorem dX6_looked_23 : decode cX6_looked 23 = .ok (.iload_n 3, 1) := by decide +kernel
theorem dX6_looked_24 : decode cX6_looked 24 = .ok (.invokevirtual 188, 3) := by decide +kernel
theorem dX6_looked_27 : decode cX6_looked 27 = .ok (.bipush (-5), 2) := by decide +kernel
theorem dX6_looked_29 : decode cX6_looked 29 = .ok (.if_icmp .eq 6, 3) := by decide +kernel
theorem dX6_looked_32 : decode cX6_looked 32 = .ok (.iinc 2 1, 3) := by decide +kernel
theorem dX6_looked_35 : decode cX6_looked 35 = .ok (.iinc 3 1, 3) := by decide +kernel
theorem dX6_looked_38 : decode cX6_looked 38 = .ok (.goto (-25), 3) := by decide +kernel
theorem dX6_looked_41 : decode cX6_looked 41 = .ok (.iload_n 2, 1) := by decide +kernel
theorem dX6_looked_42 : decode cX6_looked 42 = .ok (.ireturn, 1) := by decide +kernel
theorem dX6_at_0 : decode cX6_at 0 = .ok (.iload_n 1, 1) := by decide +kernel
theorem dX6_at_1 : decode cX6_at 1 = .ok (.invokestatic 181, 3) := by decide +kernel
theorem dX6_at_4 : decode cX6_at 4 = .ok (.ifCond .eq 17, 3) := by decide +kernel
theorem dX6_at_7 : decode cX6_at 7 = .ok (.aload_n 0, 1) := by decide +kernel
theorem dX6_at_8 : decode cX6_at 8 = .ok (.getfield 12, 3) := by decide +kernel
theorem dX6_at_11 : decode cX6_at 11 = .ok (.getfield 58, 3) := by decide +kernel
theorem dX6_at_14 : decode cX6_at 14 = .ok (.iload_n 1, 1) := by decide +kernel
theorem dX6_at_15 : decode cX6_at 15 = .ok (.invokevirtual 178, 3) := by decide +kernel
theorem dX6_at_18 : decode cX6_at 18 = .ok (.goto 4, 3) := by decide +kernel
theorem dX6_at_21 : decode cX6_at 21 = .ok (.iconst (-1), 1) := by decide +kernel
theorem dX6_at_22 : decode cX6_at 22 = .ok (.ireturn, 1) := by decide +kernel
theorem dX6_reason_0 : decode cX6_reason 0 = .ok (.aload_n 0, 1) := by decide +kernel
theorem dX6_reason_1 : decode cX6_reason 1 = .ok (.getfield 12, 3) := by decide +kernel
theorem dX6_reason_4 : decode cX6_reason 4 = .ok (.getfield 58, 3) := by decide +kernel
theorem dX6_reason_7 : decode cX6_reason 7 = .ok (.astore_n 2, 1) := by decide +kernel
theorem dX6_reason_8 : decode cX6_reason 8 = .ok (.aload_n 2, 1) := by decide +kernel
theorem dX6_reason_9 : decode cX6_reason 9 = .ok (.iload_n 1, 1) := by decide +kernel
theorem dX6_reason_10 : decode cX6_reason 10 = .ok (.invokevirtual 126, 3) := by decide +kernel
theorem dX6_reason_13 : decode cX6_reason 13 = .ok (.ifCond .ne 5, 3) := by decide +kernel
theorem dX6_reason_16 : decode cX6_reason 16 = .ok (.iconst (-1), 1) := by decide +kernel
theorem dX6_reason_17 : decode cX6_reason 17 = .ok (.ireturn, 1) := by decide +kernel
theorem dX6_reason_18 : decode cX6_reason 18 = .ok (.iload_n 1, 1) := by decide +kernel
theorem dX6_reason_19 : decode cX6_reason 19 = .ok (.aload_n 2, 1) := by decide +kernel
theorem dX6_reason_20 : decode cX6_reason 20 = .ok (.getfield 191, 3) := by decide +kernel
theorem dX6_reason_23 : decode cX6_reason 23 = .ok (.if_icmp .ne 5, 3) := by decide +kernel
theorem dX6_reason_26 : decode cX6_reason 26 = .ok (.iconst 1, 1) := by decide +kernel
theorem dX6_reason_27 : decode cX6_reason 27 = .ok (.ireturn, 1) := by decide +kernel
theorem dX6_reason_28 : decode cX6_reason 28 = .ok (.aload_n 0, 1) := by decide +kernel
theorem dX6_reason_29 : decode cX6_reason 29 = .ok (.getfield 12, 3) := by decide +kernel
theorem dX6_reason_32 : decode cX6_reason 32 = .ok (.iload_n 1, 1) := by decide +kernel
theorem dX6_reason_33 : decode cX6_reason 33 = .ok (.invokevirtual 194, 3) := by decide +kernel
theorem dX6_reason_36 : decode cX6_reason 36 = .ok (.ifCond .ne 5, 3) := by decide +kernel
theorem dX6_reason_39 : decode cX6_reason 39 = .ok (.iconst 2, 1) := by decide +kernel
theorem dX6_reason_40 : decode cX6_reason 40 = .ok (.ireturn, 1) := by decide +kernel
theorem dX6_reason_41 : decode cX6_reason 41 = .ok (.aload_n 2, 1) := by decide +kernel
theorem dX6_reason_42 : decode cX6_reason 42 = .ok (.getfield 139, 3) := by decide +kernel
theorem dX6_reason_45 : decode cX6_reason 45 = .ok (.iload_n 1, 1) := by decide +kernel
theorem dX6_reason_46 : decode cX6_reason 46 = .ok (.iaload, 1) := by decide +kernel
theorem dX6_reason_47 : decode cX6_reason 47 = .ok (.ifCond .eq 5, 3) := by decide +kernel
theorem dX6_reason_50 : decode cX6_reason 50 = .ok (.iconst 3, 1) := by decide +kernel
theorem dX6_reason_51 : decode cX6_reason 51 = .ok (.ireturn, 1) := by decide +kernel
theorem dX6_reason_52 : decode cX6_reason 52 = .ok (.aload_n 0, 1) := by decide +kernel
theorem dX6_reason_53 : decode cX6_reason 53 = .ok (.getfield 12, 3) := by decide +kernel
theorem dX6_reason_56 : decode cX6_reason 56 = .ok (.iload_n 1, 1) := by decide +kernel
theorem dX6_reason_57 : decode cX6_reason 57 = .ok (.invokevirtual 197, 3) := by decide +kernel
theorem dX6_reason_60 : decode cX6_reason 60 = .ok (.ifCond .ne 5, 3) := by decide +kernel
theorem dX6_reason_63 : decode cX6_reason 63 = .ok (.iconst 4, 1) := by decide +kernel
theorem dX6_reason_64 : decode cX6_reason 64 = .ok (.ireturn, 1) := by decide +kernel
theorem dX6_reason_65 : decode cX6_reason 65 = .ok (.aload_n 0, 1) := by decide +kernel
theorem dX6_reason_66 : decode cX6_reason 66 = .ok (.getfield 12, 3) := by decide +kernel
theorem dX6_reason_69 : decode cX6_reason 69 = .ok (.invokevirtual 200, 3) := by decide +kernel
theorem dX6_reason_72 : decode cX6_reason 72 = .ok (.iload_n 1, 1) := by decide +kernel
theorem dX6_reason_73 : decode cX6_reason 73 = .ok (.if_icmp .ne 7, 3) := by decide +kernel
theorem dX6_reason_76 : decode cX6_reason 76 = .ok (.iconst 0, 1) := by decide +kernel
theorem dX6_reason_77 : decode cX6_reason 77 = .ok (.goto 4, 3) := by decide +kernel
theorem dX6_reason_80 : decode cX6_reason 80 = .ok (.iconst 5, 1) := by decide +kernel
theorem dX6_reason_81 : decode cX6_reason 81 = .ok (.ireturn, 1) := by decide +kernel
theorem dX6_stepsTo_0 : decode cX6_stepsTo 0 = .ok (.aload_n 0, 1) := by decide +kernel
theorem dX6_stepsTo_1 : decode cX6_stepsTo 1 = .ok (.getfield 12, 3) := by decide +kernel
theorem dX6_stepsTo_4 : decode cX6_stepsTo 4 = .ok (.getfield 58, 3) := by decide +kernel
theorem dX6_stepsTo_7 : decode cX6_stepsTo 7 = .ok (.astore_n 2, 1) := by decide +kernel
theorem dX6_stepsTo_8 : decode cX6_stepsTo 8 = .ok (.aload_n 2, 1) := by decide +kernel
theorem dX6_stepsTo_9 : decode cX6_stepsTo 9 = .ok (.getfield 191, 3) := by decide +kernel
theorem dX6_stepsTo_12 : decode cX6_stepsTo 12 = .ok (.istore_n 3, 1) := by decide +kernel
theorem dX6_stepsTo_13 : decode cX6_stepsTo 13 = .ok (.aload_n 2, 1) := by decide +kernel
theorem dX6_stepsTo_14 : decode cX6_stepsTo 14 = .ok (.iload_n 1, 1) := by decide +kernel
theorem dX6_stepsTo_15 : decode cX6_stepsTo 15 = .ok (.invokevirtual 126, 3) := by decide +kernel
theorem dX6_stepsTo_18 : decode cX6_stepsTo 18 = .ok (.ifCond .eq 11, 3) := by decide +kernel
theorem dX6_stepsTo_21 : decode cX6_stepsTo 21 = .ok (.aload_n 2, 1) := by decide +kernel
theorem dX6_stepsTo_22 : decode cX6_stepsTo 22 = .ok (.iload_n 3, 1) := by decide +kernel
theorem dX6_stepsTo_23 : decode cX6_stepsTo 23 = .ok (.invokevirtual 126, 3) := by decide +kernel
theorem dX6_stepsTo_26 : decode cX6_stepsTo 26 = .ok (.ifCond .ne 5, 3) := by decide +kernel
theorem dX6_stepsTo_29 : decode cX6_stepsTo 29 = .ok (.iconst (-1), 1) := by decide +kernel
theorem dX6_stepsTo_30 : decode cX6_stepsTo 30 = .ok (.ireturn, 1) := by decide +kernel
theorem dX6_stepsTo_31 : decode cX6_stepsTo 31 = .ok (.iload_n 1, 1) := by decide +kernel
theorem dX6_stepsTo_32 : decode cX6_stepsTo 32 = .ok (.iload_n 3, 1) := by decide +kernel
theorem dX6_stepsTo_33 : decode cX6_stepsTo 33 = .ok (.if_icmp .eq 23, 3) := by decide +kernel
theorem dX6_stepsTo_36 : decode cX6_stepsTo 36 = .ok (.aload_n 2, 1) := by decide +kernel
theorem dX6_stepsTo_37 : decode cX6_stepsTo 37 = .ok (.getfield 139, 3) := by decide +kernel
theorem dX6_stepsTo_40 : decode cX6_stepsTo 40 = .ok (.iload_n 1, 1) := by decide +kernel
theorem dX6_stepsTo_41 : decode cX6_stepsTo 41 = .ok (.iaload, 1) := by decide +kernel
theorem dX6_stepsTo_42 : decode cX6_stepsTo 42 = .ok (.ifCond .ne 14, 3) := by decide +kernel
theorem dX6_stepsTo_45 : decode cX6_stepsTo 45 = .ok (.aload_n 0, 1) := by decide +kernel
theorem dX6_stepsTo_46 : decode cX6_stepsTo 46 = .ok (.getfield 12, 3) := by decide +kernel
theorem dX6_stepsTo_49 : decode cX6_stepsTo 49 = .ok (.iload_n 1, 1) := by decide +kernel
theorem dX6_stepsTo_50 : decode cX6_stepsTo 50 = .ok (.invokevirtual 194, 3) := by decide +kernel
theorem dX6_stepsTo_53 : decode cX6_stepsTo 53 = .ok (.ifCond .ne 6, 3) := by decide +kernel
theorem dX6_stepsTo_56 : decode cX6_stepsTo 56 = .ok (.bipush (-4), 2) := by decide +kernel
theorem dX6_stepsTo_58 : decode cX6_stepsTo 58 = .ok (.ireturn, 1) := by decide +kernel
theorem dX6_stepsTo_59 : decode cX6_stepsTo 59 = .ok (.aload_n 0, 1) := by decide +kernel
theorem dX6_stepsTo_60 : decode cX6_stepsTo 60 = .ok (.getfield 39, 3) := by decide +kernel
theorem dX6_stepsTo_63 : decode cX6_stepsTo 63 = .ok (.invokevirtual 203, 3) := by decide +kernel
theorem dX6_stepsTo_66 : decode cX6_stepsTo 66 = .ok (.aload_n 0, 1) := by decide +kernel
theorem dX6_stepsTo_67 : decode cX6_stepsTo 67 = .ok (.getfield 12, 3) := by decide +kernel
theorem dX6_stepsTo_70 : decode cX6_stepsTo 70 = .ok (.iload_n 1, 1) := by decide +kernel
theorem dX6_stepsTo_71 : decode cX6_stepsTo 71 = .ok (.aload_n 0, 1) := by decide +kernel
theorem dX6_stepsTo_72 : decode cX6_stepsTo 72 = .ok (.getfield 39, 3) := by decide +kernel
theorem dX6_stepsTo_75 : decode cX6_stepsTo 75 = .ok (.invokevirtual 205, 3) := by decide +kernel
theorem dX6_stepsTo_78 : decode cX6_stepsTo 78 = .ok (.iconst 0, 1) := by decide +kernel
theorem dX6_stepsTo_79 : decode cX6_stepsTo 79 = .ok (.istore 4, 2) := by decide +kernel
theorem dX6_stepsTo_81 : decode cX6_stepsTo 81 = .ok (.iload 4, 2) := by decide +kernel
theorem dX6_stepsTo_83 : decode cX6_stepsTo 83 = .ok (.aload_n 2, 1) := by decide +kernel
theorem dX6_stepsTo_84 : decode cX6_stepsTo 84 = .ok (.getfield 123, 3) := by decide +kernel
theorem dX6_stepsTo_87 : decode cX6_stepsTo 87 = .ok (.if_icmp .ge 36, 3) := by decide +kernel
theorem dX6_stepsTo_90 : decode cX6_stepsTo 90 = .ok (.iload 4, 2) := by decide +kernel
theorem dX6_stepsTo_92 : decode cX6_stepsTo 92 = .ok (.bipush 6, 2) := by decide +kernel
theorem dX6_stepsTo_94 : decode cX6_stepsTo 94 = .ok (.if_icmp .ge 29, 3) := by decide +kernel
theorem dX6_stepsTo_97 : decode cX6_stepsTo 97 = .ok (.iload 4, 2) := by decide +kernel
theorem dX6_stepsTo_99 : decode cX6_stepsTo 99 = .ok (.iload_n 3, 1) := by decide +kernel
theorem dX6_stepsTo_100 : decode cX6_stepsTo 100 = .ok (.if_icmp .eq 17, 3) := by decide +kernel
theorem dX6_stepsTo_103 : decode cX6_stepsTo 103 = .ok (.aload_n 0, 1) := by decide +kernel
theorem dX6_stepsTo_104 : decode cX6_stepsTo 104 = .ok (.getfield 39, 3) := by decide +kernel
theorem dX6_stepsTo_107 : decode cX6_stepsTo 107 = .ok (.aload_n 2, 1) := by decide +kernel
theorem dX6_stepsTo_108 : decode cX6_stepsTo 108 = .ok (.getfield 130, 3) := by decide +kernel
theorem dX6_stepsTo_111 : decode cX6_stepsTo 111 = .ok (.iload 4, 2) := by decide +kernel
theorem dX6_stepsTo_113 : decode cX6_stepsTo 113 = .ok (.iaload, 1) := by decide +kernel
theorem dX6_stepsTo_114 : decode cX6_stepsTo 114 = .ok (.invokevirtual 209, 3) := by decide +kernel
theorem dX6_stepsTo_117 : decode cX6_stepsTo 117 = .ok (.iinc 4 1, 3) := by decide +kernel
theorem dX6_stepsTo_120 : decode cX6_stepsTo 120 = .ok (.goto (-39), 3) := by decide +kernel
theorem dX6_stepsTo_123 : decode cX6_stepsTo 123 = .ok (.aload_n 0, 1) := by decide +kernel
theorem dX6_stepsTo_124 : decode cX6_stepsTo 124 = .ok (.getfield 39, 3) := by decide +kernel
theorem dX6_stepsTo_127 : decode cX6_stepsTo 127 = .ok (.aload_n 2, 1) := by decide +kernel
theorem dX6_stepsTo_128 : decode cX6_stepsTo 128 = .ok (.getfield 130, 3) := by decide +kernel
theorem dX6_stepsTo_131 : decode cX6_stepsTo 131 = .ok (.iload_n 3, 1) := by decide +kernel
theorem dX6_stepsTo_132 : decode cX6_stepsTo 132 = .ok (.iaload, 1) := by decide +kernel
theorem dX6_stepsTo_133 : decode cX6_stepsTo 133 = .ok (.invokevirtual 213, 3) := by decide +kernel
theorem dX6_stepsTo_136 : decode cX6_stepsTo 136 = .ok (.ireturn, 1) := by decide +kernel
theorem dX6_safest_0 : decode cX6_safest 0 = .ok (.aload_n 0, 1) := by decide +kernel
theorem dX6_safest_1 : decode cX6_safest 1 = .ok (.getfield 12, 3) := by decide +kernel
theorem dX6_safest_4 : decode cX6_safest 4 = .ok (.getfield 58, 3) := by decide +kernel
theorem dX6_safest_7 : decode cX6_safest 7 = .ok (.astore_n 1, 1) := by decide +kernel
theorem dX6_safest_8 : decode cX6_safest 8 = .ok (.aload_n 1, 1) := by decide +kernel
theorem dX6_safest_9 : decode cX6_safest 9 = .ok (.getfield 123, 3) := by decide +kernel
theorem dX6_safest_12 : decode cX6_safest 12 = .ok (.iconst 2, 1) := by decide +kernel
theorem dX6_safest_13 : decode cX6_safest 13 = .ok (.if_icmp .ge 6, 3) := by decide +kernel
theorem dX6_safest_16 : decode cX6_safest 16 = .ok (.bipush (-5), 2) := by decide +kernel
theorem dX6_safest_18 : decode cX6_safest 18 = .ok (.ireturn, 1) := by decide +kernel
theorem dX6_safest_19 : decode cX6_safest 19 = .ok (.bipush (-5), 2) := by decide +kernel
theorem dX6_safest_21 : decode cX6_safest 21 = .ok (.istore_n 2, 1) := by decide +kernel
theorem dX6_safest_22 : decode cX6_safest 22 = .ok (.iconst (-1), 1) := by decide +kernel
theorem dX6_safest_23 : decode cX6_safest 23 = .ok (.istore_n 3, 1) := by decide +kernel
theorem dX6_safest_24 : decode cX6_safest 24 = .ok (.iconst 0, 1) := by decide +kernel
theorem dX6_safest_25 : decode cX6_safest 25 = .ok (.istore 4, 2) := by decide +kernel
theorem dX6_safest_27 : decode cX6_safest 27 = .ok (.iload 4, 2) := by decide +kernel
theorem dX6_safest_29 : decode cX6_safest 29 = .ok (.aload_n 1, 1) := by decide +kernel
theorem dX6_safest_30 : decode cX6_safest 30 = .ok (.getfield 123, 3) := by decide +kernel
theorem dX6_safest_33 : decode cX6_safest 33 = .ok (.if_icmp .ge 42, 3) := by decide +kernel
theorem dX6_safest_36 : decode cX6_safest 36 = .ok (.iload 4, 2) := by decide +kernel
theorem dX6_safest_38 : decode cX6_safest 38 = .ok (.aload_n 1, 1) := by decide +kernel
theorem dX6_safest_39 : decode cX6_safest 39 = .ok (.getfield 191, 3) := by decide +kernel
theorem dX6_safest_42 : decode cX6_safest 42 = .ok (.if_icmp .ne 7, 3) := by decide +kernel
theorem dX6_safest_45 : decode cX6_safest 45 = .ok (.iconst (-1), 1) := by decide +kernel
theorem dX6_safest_46 : decode cX6_safest 46 = .ok (.goto 9, 3) := by decide +kernel
theorem dX6_safest_49 : decode cX6_safest 49 = .ok (.aload_n 0, 1) := by decide +kernel
theorem dX6_safest_50 : decode cX6_safest 50 = .ok (.iload 4, 2) := by decide +kernel
theorem dX6_safest_52 : decode cX6_safest 52 = .ok (.invokevirtual 216, 3) := by decide +kernel
theorem dX6_safest_55 : decode cX6_safest 55 = .ok (.istore 5, 2) := by decide +kernel
theorem dX6_safest_57 : decode cX6_safest 57 = .ok (.iload 5, 2) := by decide +kernel
theorem dX6_safest_59 : decode cX6_safest 59 = .ok (.iload_n 3, 1) := by decide +kernel
theorem dX6_safest_60 : decode cX6_safest 60 = .ok (.if_icmp .le 9, 3) := by decide +kernel
theorem dX6_safest_63 : decode cX6_safest 63 = .ok (.iload 4, 2) := by decide +kernel
theorem dX6_safest_65 : decode cX6_safest 65 = .ok (.istore_n 2, 1) := by decide +kernel
theorem dX6_safest_66 : decode cX6_safest 66 = .ok (.iload 5, 2) := by decide +kernel
theorem dX6_safest_68 : decode cX6_safest 68 = .ok (.istore_n 3, 1) := by decide +kernel
theorem dX6_safest_69 : decode cX6_safest 69 = .ok (.iinc 4 1, 3) := by decide +kernel
theorem dX6_safest_72 : decode cX6_safest 72 = .ok (.goto (-45), 3) := by decide +kernel
theorem dX6_safest_75 : decode cX6_safest 75 = .ok (.iload_n 2, 1) := by decide +kernel
theorem dX6_safest_76 : decode cX6_safest 76 = .ok (.ireturn, 1) := by decide +kernel
theorem dX6_ifTurns_0 : decode cX6_ifTurns 0 = .ok (.iload_n 1, 1) := by decide +kernel
theorem dX6_ifTurns_1 : decode cX6_ifTurns 1 = .ok (.iconst 1, 1) := by decide +kernel
theorem dX6_ifTurns_2 : decode cX6_ifTurns 2 = .ok (.if_icmp .lt 18, 3) := by decide +kernel
theorem dX6_ifTurns_5 : decode cX6_ifTurns 5 = .ok (.iload_n 1, 1) := by decide +kernel
theorem dX6_ifTurns_6 : decode cX6_ifTurns 6 = .ok (.bipush 99, 2) := by decide +kernel
theorem dX6_ifTurns_8 : decode cX6_ifTurns 8 = .ok (.if_icmp .gt 12, 3) := by decide +kernel
theorem dX6_ifTurns_11 : decode cX6_ifTurns 11 = .ok (.iload_n 2, 1) := by decide +kernel
theorem dX6_ifTurns_12 : decode cX6_ifTurns 12 = .ok (.ifCond .lt 8, 3) := by decide +kernel
theorem dX6_ifTurns_15 : decode cX6_ifTurns 15 = .ok (.iload_n 2, 1) := by decide +kernel
theorem dX6_ifTurns_16 : decode cX6_ifTurns 16 = .ok (.iconst 2, 1) := by decide +kernel
theorem dX6_ifTurns_17 : decode cX6_ifTurns 17 = .ok (.if_icmp .le 6, 3) := by decide +kernel
theorem dX6_ifTurns_20 : decode cX6_ifTurns 20 = .ok (.bipush (-2), 2) := by decide +kernel
theorem dX6_ifTurns_22 : decode cX6_ifTurns 22 = .ok (.ireturn, 1) := by decide +kernel
theorem dX6_ifTurns_23 : decode cX6_ifTurns 23 = .ok (.aload_n 0, 1) := by decide +kernel
theorem dX6_ifTurns_24 : decode cX6_ifTurns 24 = .ok (.getfield 16, 3) := by decide +kernel
theorem dX6_ifTurns_27 : decode cX6_ifTurns 27 = .ok (.aload_n 0, 1) := by decide +kernel
theorem dX6_ifTurns_28 : decode cX6_ifTurns 28 = .ok (.getfield 12, 3) := by decide +kernel
theorem dX6_ifTurns_31 : decode cX6_ifTurns 31 = .ok (.invokevirtual 54, 3) := by decide +kernel
theorem dX6_ifTurns_34 : decode cX6_ifTurns 34 = .ok (.iconst 0, 1) := by decide +kernel
theorem dX6_ifTurns_35 : decode cX6_ifTurns 35 = .ok (.istore_n 3, 1) := by decide +kernel
theorem dX6_ifTurns_36 : decode cX6_ifTurns 36 = .ok (.bipush (-5), 2) := by decide +kernel
theorem dX6_ifTurns_38 : decode cX6_ifTurns 38 = .ok (.istore 4, 2) := by decide +kernel
theorem dX6_ifTurns_40 : decode cX6_ifTurns 40 = .ok (.iconst 1, 1) := by decide +kernel
theorem dX6_ifTurns_41 : decode cX6_ifTurns 41 = .ok (.istore 5, 2) := by decide +kernel
theorem dX6_ifTurns_43 : decode cX6_ifTurns 43 = .ok (.iload 5, 2) := by decide +kernel
theorem dX6_ifTurns_45 : decode cX6_ifTurns 45 = .ok (.iload_n 1, 1) := by decide +kernel
theorem dX6_ifTurns_46 : decode cX6_ifTurns 46 = .ok (.if_icmp .gt 38, 3) := by decide +kernel
theorem dX6_ifTurns_49 : decode cX6_ifTurns 49 = .ok (.aload_n 0, 1) := by decide +kernel
theorem dX6_ifTurns_50 : decode cX6_ifTurns 50 = .ok (.getfield 16, 3) := by decide +kernel
theorem dX6_ifTurns_53 : decode cX6_ifTurns 53 = .ok (.invokevirtual 219, 3) := by decide +kernel
theorem dX6_ifTurns_56 : decode cX6_ifTurns 56 = .ok (.ifCond .eq 22, 3) := by decide +kernel
theorem dX6_ifTurns_59 : decode cX6_ifTurns 59 = .ok (.iinc 3 1, 3) := by decide +kernel
theorem dX6_ifTurns_62 : decode cX6_ifTurns 62 = .ok (.iload 4, 2) := by decide +kernel
theorem dX6_ifTurns_64 : decode cX6_ifTurns 64 = .ok (.bipush (-5), 2) := by decide +kernel
theorem dX6_ifTurns_66 : decode cX6_ifTurns 66 = .ok (.if_icmp .ne 8, 3) := by decide +kernel
theorem dX6_ifTurns_69 : decode cX6_ifTurns 69 = .ok (.iload 5, 2) := by decide +kernel
theorem dX6_ifTurns_71 : decode cX6_ifTurns 71 = .ok (.goto 5, 3) := by decide +kernel
theorem dX6_ifTurns_74 : decode cX6_ifTurns 74 = .ok (.iload 4, 2) := by decide +kernel
theorem dX6_ifTurns_76 : decode cX6_ifTurns 76 = .ok (.istore 4, 2) := by decide +kernel
theorem dX6_ifTurns_78 : decode cX6_ifTurns 78 = .ok (.iinc 5 1, 3) := by decide +kernel
theorem dX6_ifTurns_81 : decode cX6_ifTurns 81 = .ok (.goto (-38), 3) := by decide +kernel
theorem dX6_ifTurns_84 : decode cX6_ifTurns 84 = .ok (.iload_n 2, 1) := by decide +kernel
theorem dX6_ifTurns_85 : decode cX6_ifTurns 85 = .ok (.lookupswitch 40 #[(0, 27), (1, 29)], 27) := by decide +kernel
theorem dX6_ifTurns_112 : decode cX6_ifTurns 112 = .ok (.iload_n 3, 1) := by decide +kernel
theorem dX6_ifTurns_113 : decode cX6_ifTurns 113 = .ok (.ireturn, 1) := by decide +kernel
theorem dX6_ifTurns_114 : decode cX6_ifTurns 114 = .ok (.aload_n 0, 1) := by decide +kernel
theorem dX6_ifTurns_115 : decode cX6_ifTurns 115 = .ok (.getfield 16, 3) := by decide +kernel
theorem dX6_ifTurns_118 : decode cX6_ifTurns 118 = .ok (.getfield 58, 3) := by decide +kernel
theorem dX6_ifTurns_121 : decode cX6_ifTurns 121 = .ok (.getfield 191, 3) := by decide +kernel
theorem dX6_ifTurns_124 : decode cX6_ifTurns 124 = .ok (.ireturn, 1) := by decide +kernel
theorem dX6_ifTurns_125 : decode cX6_ifTurns 125 = .ok (.iload 4, 2) := by decide +kernel
theorem dX6_ifTurns_127 : decode cX6_ifTurns 127 = .ok (.ireturn, 1) := by decide +kernel
theorem dX6_count_0 : decode cX6_count 0 = .ok (.iload_n 1, 1) := by decide +kernel
theorem dX6_count_1 : decode cX6_count 1 = .ok (.tableswitch 202 0 13 #[71, 79, 90, 101, 112, 117, 125, 136, 147, 158, 166, 176, 186, 194], 71) := by decide +kernel
theorem dX6_count_72 : decode cX6_count 72 = .ok (.aload_n 0, 1) := by decide +kernel
theorem dX6_count_73 : decode cX6_count 73 = .ok (.getfield 12, 3) := by decide +kernel
theorem dX6_count_76 : decode cX6_count 76 = .ok (.getfield 223, 3) := by decide +kernel
theorem dX6_count_79 : decode cX6_count 79 = .ok (.ireturn, 1) := by decide +kernel
theorem dX6_count_80 : decode cX6_count 80 = .ok (.aload_n 0, 1) := by decide +kernel
theorem dX6_count_81 : decode cX6_count 81 = .ok (.getfield 12, 3) := by decide +kernel
theorem dX6_count_84 : decode cX6_count 84 = .ok (.getfield 58, 3) := by decide +kernel
theorem dX6_count_87 : decode cX6_count 87 = .ok (.getfield 123, 3) := by decide +kernel
theorem dX6_count_90 : decode cX6_count 90 = .ok (.ireturn, 1) := by decide +kernel
theorem dX6_count_91 : decode cX6_count 91 = .ok (.aload_n 0, 1) := by decide +kernel
theorem dX6_count_92 : decode cX6_count 92 = .ok (.getfield 12, 3) := by decide +kernel
theorem dX6_count_95 : decode cX6_count 95 = .ok (.getfield 58, 3) := by decide +kernel
theorem dX6_count_98 : decode cX6_count 98 = .ok (.getfield 191, 3) := by decide +kernel
theorem dX6_count_101 : decode cX6_count 101 = .ok (.ireturn, 1) := by decide +kernel
theorem dX6_count_102 : decode cX6_count 102 = .ok (.aload_n 0, 1) := by decide +kernel
theorem dX6_count_103 : decode cX6_count 103 = .ok (.getfield 12, 3) := by decide +kernel
theorem dX6_count_106 : decode cX6_count 106 = .ok (.getfield 75, 3) := by decide +kernel
theorem dX6_count_109 : decode cX6_count 109 = .ok (.invokevirtual 226, 3) := by decide +kernel
theorem dX6_count_112 : decode cX6_count 112 = .ok (.ireturn, 1) := by decide +kernel
theorem dX6_count_113 : decode cX6_count 113 = .ok (.aload_n 0, 1) := by decide +kernel
theorem dX6_count_114 : decode cX6_count 114 = .ok (.invokevirtual 229, 3) := by decide +kernel
theorem dX6_count_117 : decode cX6_count 117 = .ok (.ireturn, 1) := by decide +kernel
theorem dX6_count_118 : decode cX6_count 118 = .ok (.aload_n 0, 1) := by decide +kernel
theorem dX6_count_119 : decode cX6_count 119 = .ok (.getfield 12, 3) := by decide +kernel
theorem dX6_count_122 : decode cX6_count 122 = .ok (.invokevirtual 232, 3) := by decide +kernel
theorem dX6_count_125 : decode cX6_count 125 = .ok (.ireturn, 1) := by decide +kernel
theorem dX6_count_126 : decode cX6_count 126 = .ok (.aload_n 0, 1) := by decide +kernel
theorem dX6_count_127 : decode cX6_count 127 = .ok (.getfield 12, 3) := by decide +kernel
theorem dX6_count_130 : decode cX6_count 130 = .ok (.getfield 58, 3) := by decide +kernel
theorem dX6_count_133 : decode cX6_count 133 = .ok (.getfield 235, 3) := by decide +kernel
theorem dX6_count_136 : decode cX6_count 136 = .ok (.ireturn, 1) := by decide +kernel
theorem dX6_count_137 : decode cX6_count 137 = .ok (.aload_n 0, 1) := by decide +kernel
theorem dX6_count_138 : decode cX6_count 138 = .ok (.getfield 12, 3) := by decide +kernel
theorem dX6_count_141 : decode cX6_count 141 = .ok (.getfield 58, 3) := by decide +kernel
theorem dX6_count_144 : decode cX6_count 144 = .ok (.getfield 238, 3) := by decide +kernel
theorem dX6_count_147 : decode cX6_count 147 = .ok (.ireturn, 1) := by decide +kernel
theorem dX6_count_148 : decode cX6_count 148 = .ok (.aload_n 0, 1) := by decide +kernel
theorem dX6_count_149 : decode cX6_count 149 = .ok (.getfield 12, 3) := by decide +kernel
theorem dX6_count_152 : decode cX6_count 152 = .ok (.getfield 58, 3) := by decide +kernel
theorem dX6_count_155 : decode cX6_count 155 = .ok (.getfield 241, 3) := by decide +kernel
theorem dX6_count_158 : decode cX6_count 158 = .ok (.ireturn, 1) := by decide +kernel
theorem dX6_count_159 : decode cX6_count 159 = .ok (.aload_n 0, 1) := by decide +kernel
theorem dX6_count_160 : decode cX6_count 160 = .ok (.getfield 12, 3) := by decide +kernel
theorem dX6_count_163 : decode cX6_count 163 = .ok (.getfield 244, 3) := by decide +kernel
theorem dX6_count_166 : decode cX6_count 166 = .ok (.ireturn, 1) := by decide +kernel
theorem dX6_count_167 : decode cX6_count 167 = .ok (.aload_n 0, 1) := by decide +kernel
theorem dX6_count_168 : decode cX6_count 168 = .ok (.getfield 12, 3) := by decide +kernel
theorem dX6_count_171 : decode cX6_count 171 = .ok (.getfield 88, 3) := by decide +kernel
theorem dX6_count_174 : decode cX6_count 174 = .ok (.iconst 0, 1) := by decide +kernel
theorem dX6_count_175 : decode cX6_count 175 = .ok (.iaload, 1) := by decide +kernel
theorem dX6_count_176 : decode cX6_count 176 = .ok (.ireturn, 1) := by decide +kernel
theorem dX6_count_177 : decode cX6_count 177 = .ok (.aload_n 0, 1) := by decide +kernel
theorem dX6_count_178 : decode cX6_count 178 = .ok (.getfield 12, 3) := by decide +kernel
theorem dX6_count_181 : decode cX6_count 181 = .ok (.getfield 88, 3) := by decide +kernel
theorem dX6_count_184 : decode cX6_count 184 = .ok (.iconst 1, 1) := by decide +kernel
theorem dX6_count_185 : decode cX6_count 185 = .ok (.iaload, 1) := by decide +kernel
theorem dX6_count_186 : decode cX6_count 186 = .ok (.ireturn, 1) := by decide +kernel
theorem dX6_count_187 : decode cX6_count 187 = .ok (.aload_n 0, 1) := by decide +kernel
theorem dX6_count_188 : decode cX6_count 188 = .ok (.getfield 25, 3) := by decide +kernel
theorem dX6_count_191 : decode cX6_count 191 = .ok (.getfield 120, 3) := by decide +kernel
theorem dX6_count_194 : decode cX6_count 194 = .ok (.ireturn, 1) := by decide +kernel
theorem dX6_count_195 : decode cX6_count 195 = .ok (.aload_n 0, 1) := by decide +kernel
theorem dX6_count_196 : decode cX6_count 196 = .ok (.getfield 32, 3) := by decide +kernel
theorem dX6_count_199 : decode cX6_count 199 = .ok (.getfield 247, 3) := by decide +kernel
theorem dX6_count_202 : decode cX6_count 202 = .ok (.ireturn, 1) := by decide +kernel
theorem dX6_count_203 : decode cX6_count 203 = .ok (.bipush (-2), 2) := by decide +kernel
theorem dX6_count_205 : decode cX6_count 205 = .ok (.ireturn, 1) := by decide +kernel
theorem dX6_takeOver_0 : decode cX6_takeOver 0 = .ok (.iload_n 1, 1) := by decide +kernel
theorem dX6_takeOver_1 : decode cX6_takeOver 1 = .ok (.ifCond .lt 25, 3) := by decide +kernel
theorem dX6_takeOver_4 : decode cX6_takeOver 4 = .ok (.aload_n 0, 1) := by decide +kernel
theorem dX6_takeOver_5 : decode cX6_takeOver 5 = .ok (.getfield 25, 3) := by decide +kernel
theorem dX6_takeOver_8 : decode cX6_takeOver 8 = .ok (.aload_n 0, 1) := by decide +kernel
theorem dX6_takeOver_9 : decode cX6_takeOver 9 = .ok (.getfield 12, 3) := by decide +kernel
theorem dX6_takeOver_12 : decode cX6_takeOver 12 = .ok (.invokevirtual 250, 3) := by decide +kernel
theorem dX6_takeOver_15 : decode cX6_takeOver 15 = .ok (.aload_n 0, 1) := by decide +kernel
theorem dX6_takeOver_16 : decode cX6_takeOver 16 = .ok (.getfield 12, 3) := by decide +kernel
theorem dX6_takeOver_19 : decode cX6_takeOver 19 = .ok (.aload_n 0, 1) := by decide +kernel
theorem dX6_takeOver_20 : decode cX6_takeOver 20 = .ok (.getfield 16, 3) := by decide +kernel
theorem dX6_takeOver_23 : decode cX6_takeOver 23 = .ok (.invokevirtual 54, 3) := by decide +kernel
theorem dX6_takeOver_26 : decode cX6_takeOver 26 = .ok (.iload_n 1, 1) := by decide +kernel
theorem dX6_takeOver_27 : decode cX6_takeOver 27 = .ok (.ireturn, 1) := by decide +kernel
theorem dX6_cellsInShadowsOf_0 : decode cX6_cellsInShadowsOf 0 = .ok (.aload_n 0, 1) := by decide +kernel
theorem dX6_cellsInShadowsOf_1 : decode cX6_cellsInShadowsOf 1 = .ok (.getfield 39, 3) := by decide +kernel
theorem dX6_cellsInShadowsOf_4 : decode cX6_cellsInShadowsOf 4 = .ok (.invokevirtual 203, 3) := by decide +kernel
theorem dX6_cellsInShadowsOf_7 : decode cX6_cellsInShadowsOf 7 = .ok (.aload_n 0, 1) := by decide +kernel
theorem dX6_cellsInShadowsOf_8 : decode cX6_cellsInShadowsOf 8 = .ok (.getfield 12, 3) := by decide +kernel
theorem dX6_cellsInShadowsOf_11 : decode cX6_cellsInShadowsOf 11 = .ok (.iload_n 1, 1) := by decide +kernel
theorem dX6_cellsInShadowsOf_12 : decode cX6_cellsInShadowsOf 12 = .ok (.aload_n 0, 1) := by decide +kernel
theorem dX6_cellsInShadowsOf_13 : decode cX6_cellsInShadowsOf 13 = .ok (.getfield 39, 3) := by decide +kernel
theorem dX6_cellsInShadowsOf_16 : decode cX6_cellsInShadowsOf 16 = .ok (.invokevirtual 205, 3) := by decide +kernel
theorem dX6_cellsInShadowsOf_19 : decode cX6_cellsInShadowsOf 19 = .ok (.aload_n 0, 1) := by decide +kernel
theorem dX6_cellsInShadowsOf_20 : decode cX6_cellsInShadowsOf 20 = .ok (.getfield 39, 3) := by decide +kernel
theorem dX6_cellsInShadowsOf_23 : decode cX6_cellsInShadowsOf 23 = .ok (.invokevirtual 262, 3) := by decide +kernel
theorem dX6_cellsInShadowsOf_26 : decode cX6_cellsInShadowsOf 26 = .ok (.ireturn, 1) := by decide +kernel
theorem dX6_cellsInShadowsBy_0 : decode cX6_cellsInShadowsBy 0 = .ok (.aload_n 0, 1) := by decide +kernel
theorem dX6_cellsInShadowsBy_1 : decode cX6_cellsInShadowsBy 1 = .ok (.getfield 39, 3) := by decide +kernel
theorem dX6_cellsInShadowsBy_4 : decode cX6_cellsInShadowsBy 4 = .ok (.invokevirtual 203, 3) := by decide +kernel
theorem dX6_cellsInShadowsBy_7 : decode cX6_cellsInShadowsBy 7 = .ok (.iconst 0, 1) := by decide +kernel
theorem dX6_cellsInShadowsBy_8 : decode cX6_cellsInShadowsBy 8 = .ok (.istore_n 2, 1) := by decide +kernel
theorem dX6_cellsInShadowsBy_9 : decode cX6_cellsInShadowsBy 9 = .ok (.iload_n 2, 1) := by decide +kernel
theorem dX6_cellsInShadowsBy_10 : decode cX6_cellsInShadowsBy 10 = .ok (.aload_n 0, 1) := by decide +kernel
theorem dX6_cellsInShadowsBy_11 : decode cX6_cellsInShadowsBy 11 = .ok (.getfield 12, 3) := by decide +kernel
theorem dX6_cellsInShadowsBy_14 : decode cX6_cellsInShadowsBy 14 = .ok (.getfield 58, 3) := by decide +kernel
theorem dX6_cellsInShadowsBy_17 : decode cX6_cellsInShadowsBy 17 = .ok (.getfield 123, 3) := by decide +kernel
theorem dX6_cellsInShadowsBy_20 : decode cX6_cellsInShadowsBy 20 = .ok (.if_icmp .ge 22, 3) := by decide +kernel
theorem dX6_cellsInShadowsBy_23 : decode cX6_cellsInShadowsBy 23 = .ok (.aload_n 0, 1) := by decide +kernel
theorem dX6_cellsInShadowsBy_24 : decode cX6_cellsInShadowsBy 24 = .ok (.getfield 12, 3) := by decide +kernel
theorem dX6_cellsInShadowsBy_27 : decode cX6_cellsInShadowsBy 27 = .ok (.iload_n 2, 1) := by decide +kernel
theorem dX6_cellsInShadowsBy_28 : decode cX6_cellsInShadowsBy 28 = .ok (.iload_n 1, 1) := by decide +kernel
theorem dX6_cellsInShadowsBy_29 : decode cX6_cellsInShadowsBy 29 = .ok (.aload_n 0, 1) := by decide +kernel
theorem dX6_cellsInShadowsBy_30 : decode cX6_cellsInShadowsBy 30 = .ok (.getfield 39, 3) := by decide +kernel
theorem dX6_cellsInShadowsBy_33 : decode cX6_cellsInShadowsBy 33 = .ok (.invokevirtual 265, 3) := by decide +kernel
theorem dX6_cellsInShadowsBy_36 : decode cX6_cellsInShadowsBy 36 = .ok (.iinc 2 1, 3) := by decide +kernel
theorem dX6_cellsInShadowsBy_39 : decode cX6_cellsInShadowsBy 39 = .ok (.goto (-30), 3) := by decide +kernel
theorem dX6_cellsInShadowsBy_42 : decode cX6_cellsInShadowsBy 42 = .ok (.aload_n 0, 1) := by decide +kernel
theorem dX6_cellsInShadowsBy_43 : decode cX6_cellsInShadowsBy 43 = .ok (.getfield 39, 3) := by decide +kernel
theorem dX6_cellsInShadowsBy_46 : decode cX6_cellsInShadowsBy 46 = .ok (.invokevirtual 262, 3) := by decide +kernel
theorem dX6_cellsInShadowsBy_49 : decode cX6_cellsInShadowsBy 49 = .ok (.ireturn, 1) := by decide +kernel
theorem dX6_cellsInAnyShadow_0 : decode cX6_cellsInAnyShadow 0 = .ok (.aload_n 0, 1) := by decide +kernel
theorem dX6_cellsInAnyShadow_1 : decode cX6_cellsInAnyShadow 1 = .ok (.getfield 39, 3) := by decide +kernel
theorem dX6_cellsInAnyShadow_4 : decode cX6_cellsInAnyShadow 4 = .ok (.invokevirtual 203, 3) := by decide +kernel
theorem dX6_cellsInAnyShadow_7 : decode cX6_cellsInAnyShadow 7 = .ok (.iconst 0, 1) := by decide +kernel
theorem dX6_cellsInAnyShadow_8 : decode cX6_cellsInAnyShadow 8 = .ok (.istore_n 1, 1) := by decide +kernel
theorem dX6_cellsInAnyShadow_9 : decode cX6_cellsInAnyShadow 9 = .ok (.iload_n 1, 1) := by decide +kernel
theorem dX6_cellsInAnyShadow_10 : decode cX6_cellsInAnyShadow 10 = .ok (.aload_n 0, 1) := by decide +kernel
theorem dX6_cellsInAnyShadow_11 : decode cX6_cellsInAnyShadow 11 = .ok (.getfield 12, 3) := by decide +kernel
theorem dX6_cellsInAnyShadow_14 : decode cX6_cellsInAnyShadow 14 = .ok (.getfield 58, 3) := by decide +kernel
theorem dX6_cellsInAnyShadow_17 : decode cX6_cellsInAnyShadow 17 = .ok (.getfield 123, 3) := by decide +kernel
theorem dX6_cellsInAnyShadow_20 : decode cX6_cellsInAnyShadow 20 = .ok (.if_icmp .ge 21, 3) := by decide +kernel
theorem dX6_cellsInAnyShadow_23 : decode cX6_cellsInAnyShadow 23 = .ok (.aload_n 0, 1) := by decide +kernel
theorem dX6_cellsInAnyShadow_24 : decode cX6_cellsInAnyShadow 24 = .ok (.getfield 12, 3) := by decide +kernel
theorem dX6_cellsInAnyShadow_27 : decode cX6_cellsInAnyShadow 27 = .ok (.iload_n 1, 1) := by decide +kernel
theorem dX6_cellsInAnyShadow_28 : decode cX6_cellsInAnyShadow 28 = .ok (.aload_n 0, 1) := by decide +kernel
theorem dX6_cellsInAnyShadow_29 : decode cX6_cellsInAnyShadow 29 = .ok (.getfield 39, 3) := by decide +kernel
theorem dX6_cellsInAnyShadow_32 : decode cX6_cellsInAnyShadow 32 = .ok (.invokevirtual 205, 3) := by decide +kernel
theorem dX6_cellsInAnyShadow_35 : decode cX6_cellsInAnyShadow 35 = .ok (.iinc 1 1, 3) := by decide +kernel
theorem dX6_cellsInAnyShadow_38 : decode cX6_cellsInAnyShadow 38 = .ok (.goto (-29), 3) := by decide +kernel
theorem dX6_cellsInAnyShadow_41 : decode cX6_cellsInAnyShadow 41 = .ok (.aload_n 0, 1) := by decide +kernel
theorem dX6_cellsInAnyShadow_42 : decode cX6_cellsInAnyShadow 42 = .ok (.getfield 39, 3) := by decide +kernel
theorem dX6_cellsInAnyShadow_45 : decode cX6_cellsInAnyShadow 45 = .ok (.invokevirtual 262, 3) := by decide +kernel
theorem dX6_cellsInAnyShadow_48 : decode cX6_cellsInAnyShadow 48 = .ok (.ireturn, 1) := by decide +kernel
theorem dX6_stepsOrFarthest_0 : decode cX6_stepsOrFarthest 0 = .ok (.aload_n 0, 1) := by decide +kernel
theorem dX6_stepsOrFarthest_1 : decode cX6_stepsOrFarthest 1 = .ok (.iload_n 1, 1) := by decide +kernel
theorem dX6_stepsOrFarthest_2 : decode cX6_stepsOrFarthest 2 = .ok (.invokevirtual 269, 3) := by decide +kernel
theorem dX6_stepsOrFarthest_5 : decode cX6_stepsOrFarthest 5 = .ok (.istore_n 2, 1) := by decide +kernel
theorem dX6_stepsOrFarthest_6 : decode cX6_stepsOrFarthest 6 = .ok (.iload_n 2, 1) := by decide +kernel
theorem dX6_stepsOrFarthest_7 : decode cX6_stepsOrFarthest 7 = .ok (.ifCond .ge 8, 3) := by decide +kernel
theorem dX6_stepsOrFarthest_10 : decode cX6_stepsOrFarthest 10 = .ok (.bipush 100, 2) := by decide +kernel
theorem dX6_stepsOrFarthest_12 : decode cX6_stepsOrFarthest 12 = .ok (.goto 4, 3) := by decide +kernel
theorem dX6_stepsOrFarthest_15 : decode cX6_stepsOrFarthest 15 = .ok (.iload_n 2, 1) := by decide +kernel
theorem dX6_stepsOrFarthest_16 : decode cX6_stepsOrFarthest 16 = .ok (.ireturn, 1) := by decide +kernel
theorem dX6_isCell_0 : decode cX6_isCell 0 = .ok (.iload_n 0, 1) := by decide +kernel
theorem dX6_isCell_1 : decode cX6_isCell 1 = .ok (.ifCond .lt 13, 3) := by decide +kernel
theorem dX6_isCell_4 : decode cX6_isCell 4 = .ok (.iload_n 0, 1) := by decide +kernel
theorem dX6_isCell_5 : decode cX6_isCell 5 = .ok (.bipush 100, 2) := by decide +kernel
theorem dX6_isCell_7 : decode cX6_isCell 7 = .ok (.if_icmp .ge 7, 3) := by decide +kernel
theorem dX6_isCell_10 : decode cX6_isCell 10 = .ok (.iconst 1, 1) := by decide +kernel
theorem dX6_isCell_11 : decode cX6_isCell 11 = .ok (.goto 4, 3) := by decide +kernel
theorem dX6_isCell_14 : decode cX6_isCell 14 = .ok (.iconst 0, 1) := by decide +kernel
theorem dX6_isCell_15 : decode cX6_isCell 15 = .ok (.ireturn, 1) := by decide +kernel
theorem dX6_isLamp_0 : decode cX6_isLamp 0 = .ok (.iload_n 0, 1) := by decide +kernel
theorem dX6_isLamp_1 : decode cX6_isLamp 1 = .ok (.ifCond .lt 12, 3) := by decide +kernel
theorem dX6_isLamp_4 : decode cX6_isLamp 4 = .ok (.iload_n 0, 1) := by decide +kernel
theorem dX6_isLamp_5 : decode cX6_isLamp 5 = .ok (.iconst 3, 1) := by decide +kernel
theorem dX6_isLamp_6 : decode cX6_isLamp 6 = .ok (.if_icmp .ge 7, 3) := by decide +kernel
theorem dX6_isLamp_9 : decode cX6_isLamp 9 = .ok (.iconst 1, 1) := by decide +kernel
theorem dX6_isLamp_10 : decode cX6_isLamp 10 = .ok (.goto 4, 3) := by decide +kernel
theorem dX6_isLamp_13 : decode cX6_isLamp 13 = .ok (.iconst 0, 1) := by decide +kernel
theorem dX6_isLamp_14 : decode cX6_isLamp 14 = .ok (.ireturn, 1) := by decide +kernel
theorem dX6_replace_0 : decode cX6_replace 0 = .ok (.iload_n 1, 1) := by decide +kernel
theorem dX6_replace_1 : decode cX6_replace 1 = .ok (.ifCond .lt 9, 3) := by decide +kernel
theorem dX6_replace_4 : decode cX6_replace 4 = .ok (.iload_n 1, 1) := by decide +kernel
theorem dX6_replace_5 : decode cX6_replace 5 = .ok (.aload_n 0, 1) := by decide +kernel
theorem dX6_replace_6 : decode cX6_replace 6 = .ok (.arraylength, 1) := by decide +kernel
theorem dX6_replace_7 : decode cX6_replace 7 = .ok (.if_icmp .lt 5, 3) := by decide +kernel
theorem dX6_replace_10 : decode cX6_replace 10 = .ok (.iconst (-1), 1) := by decide +kernel
theorem dX6_replace_11 : decode cX6_replace 11 = .ok (.ireturn, 1) := by decide +kernel
theorem dX6_replace_12 : decode cX6_replace 12 = .ok (.iload_n 2, 1) := by decide +kernel
theorem dX6_replace_13 : decode cX6_replace 13 = .ok (.iload_n 3, 1) := by decide +kernel
theorem dX6_replace_14 : decode cX6_replace 14 = .ok (.if_icmp .lt 9, 3) := by decide +kernel
theorem dX6_replace_17 : decode cX6_replace 17 = .ok (.iload_n 2, 1) := by decide +kernel
theorem dX6_replace_18 : decode cX6_replace 18 = .ok (.iload 4, 2) := by decide +kernel
theorem dX6_replace_20 : decode cX6_replace 20 = .ok (.if_icmp .le 6, 3) := by decide +kernel
theorem dX6_replace_23 : decode cX6_replace 23 = .ok (.bipush (-2), 2) := by decide +kernel
theorem dX6_replace_25 : decode cX6_replace 25 = .ok (.ireturn, 1) := by decide +kernel
theorem dX6_replace_26 : decode cX6_replace 26 = .ok (.aload_n 0, 1) := by decide +kernel
theorem dX6_replace_27 : decode cX6_replace 27 = .ok (.iload_n 1, 1) := by decide +kernel
theorem dX6_replace_28 : decode cX6_replace 28 = .ok (.iaload, 1) := by decide +kernel
theorem dX6_replace_29 : decode cX6_replace 29 = .ok (.istore 5, 2) := by decide +kernel
theorem dX6_replace_31 : decode cX6_replace 31 = .ok (.iload 5, 2) := by decide +kernel
theorem dX6_replace_33 : decode cX6_replace 33 = .ok (.iload_n 2, 1) := by decide +kernel
theorem dX6_replace_34 : decode cX6_replace 34 = .ok (.if_icmp .ne 6, 3) := by decide +kernel
theorem dX6_replace_37 : decode cX6_replace 37 = .ok (.bipush (-5), 2) := by decide +kernel
theorem dX6_replace_39 : decode cX6_replace 39 = .ok (.ireturn, 1) := by decide +kernel
theorem dX6_replace_40 : decode cX6_replace 40 = .ok (.aload_n 0, 1) := by decide +kernel
theorem dX6_replace_41 : decode cX6_replace 41 = .ok (.iload_n 1, 1) := by decide +kernel
theorem dX6_replace_42 : decode cX6_replace 42 = .ok (.iload_n 2, 1) := by decide +kernel
theorem dX6_replace_43 : decode cX6_replace 43 = .ok (.iastore, 1) := by decide +kernel
theorem dX6_replace_44 : decode cX6_replace 44 = .ok (.iload 5, 2) := by decide +kernel
theorem dX6_replace_46 : decode cX6_replace 46 = .ok (.ireturn, 1) := by decide +kernel
theorem dX6_copyRow_0 : decode cX6_copyRow 0 = .ok (.aload_n 0, 1) := by decide +kernel
theorem dX6_copyRow_1 : decode cX6_copyRow 1 = .ok (.iconst 0, 1) := by decide +kernel
theorem dX6_copyRow_2 : decode cX6_copyRow 2 = .ok (.aload_n 1, 1) := by decide +kernel
theorem dX6_copyRow_3 : decode cX6_copyRow 3 = .ok (.iconst 0, 1) := by decide +kernel
theorem dX6_copyRow_4 : decode cX6_copyRow 4 = .ok (.aload_n 0, 1) := by decide +kernel
theorem dX6_copyRow_5 : decode cX6_copyRow 5 = .ok (.arraylength, 1) := by decide +kernel
theorem dX6_copyRow_6 : decode cX6_copyRow 6 = .ok (.aload_n 1, 1) := by decide +kernel
theorem dX6_copyRow_7 : decode cX6_copyRow 7 = .ok (.arraylength, 1) := by decide +kernel
theorem dX6_copyRow_8 : decode cX6_copyRow 8 = .ok (.invokestatic 272, 3) := by decide +kernel
theorem dX6_copyRow_11 : decode cX6_copyRow 11 = .ok (.invokestatic 277, 3) := by decide +kernel
theorem dX6_copyRow_14 : decode cX6_copyRow 14 = .ok (.return_, 1) := by decide +kernel
theorem dX6_opposite_0 : decode cX6_opposite 0 = .ok (.iload_n 0, 1) := by decide +kernel
theorem dX6_opposite_1 : decode cX6_opposite 1 = .ok (.iconst 2, 1) := by decide +kernel
theorem dX6_opposite_2 : decode cX6_opposite 2 = .ok (.iadd, 1) := by decide +kernel
theorem dX6_opposite_3 : decode cX6_opposite 3 = .ok (.iconst 4, 1) := by decide +kernel
theorem dX6_opposite_4 : decode cX6_opposite 4 = .ok (.irem, 1) := by decide +kernel
theorem dX6_opposite_5 : decode cX6_opposite 5 = .ok (.ireturn, 1) := by decide +kernel
theorem dX6_cellsToEdge_0 : decode cX6_cellsToEdge 0 = .ok (.iload_n 1, 1) := by decide +kernel
theorem dX6_cellsToEdge_1 : decode cX6_cellsToEdge 1 = .ok (.tableswitch 57 0 3 #[31, 36, 44, 52], 31) := by decide +kernel
theorem dX6_cellsToEdge_32 : decode cX6_cellsToEdge 32 = .ok (.iload_n 0, 1) := by decide +kernel
theorem dX6_cellsToEdge_33 : decode cX6_cellsToEdge 33 = .ok (.bipush 10, 2) := by decide +kernel
theorem dX6_cellsToEdge_35 : decode cX6_cellsToEdge 35 = .ok (.idiv, 1) := by decide +kernel
theorem dX6_cellsToEdge_36 : decode cX6_cellsToEdge 36 = .ok (.ireturn, 1) := by decide +kernel
theorem dX6_cellsToEdge_37 : decode cX6_cellsToEdge 37 = .ok (.bipush 9, 2) := by decide +kernel
theorem dX6_cellsToEdge_39 : decode cX6_cellsToEdge 39 = .ok (.iload_n 0, 1) := by decide +kernel
theorem dX6_cellsToEdge_40 : decode cX6_cellsToEdge 40 = .ok (.bipush 10, 2) := by decide +kernel
theorem dX6_cellsToEdge_42 : decode cX6_cellsToEdge 42 = .ok (.irem, 1) := by decide +kernel
theorem dX6_cellsToEdge_43 : decode cX6_cellsToEdge 43 = .ok (.isub, 1) := by decide +kernel
theorem dX6_cellsToEdge_44 : decode cX6_cellsToEdge 44 = .ok (.ireturn, 1) := by decide +kernel
theorem dX6_cellsToEdge_45 : decode cX6_cellsToEdge 45 = .ok (.bipush 9, 2) := by decide +kernel
theorem dX6_cellsToEdge_47 : decode cX6_cellsToEdge 47 = .ok (.iload_n 0, 1) := by decide +kernel
theorem dX6_cellsToEdge_48 : decode cX6_cellsToEdge 48 = .ok (.bipush 10, 2) := by decide +kernel
theorem dX6_cellsToEdge_50 : decode cX6_cellsToEdge 50 = .ok (.idiv, 1) := by decide +kernel
theorem dX6_cellsToEdge_51 : decode cX6_cellsToEdge 51 = .ok (.isub, 1) := by decide +kernel
theorem dX6_cellsToEdge_52 : decode cX6_cellsToEdge 52 = .ok (.ireturn, 1) := by decide +kernel
theorem dX6_cellsToEdge_53 : decode cX6_cellsToEdge 53 = .ok (.iload_n 0, 1) := by decide +kernel
theorem dX6_cellsToEdge_54 : decode cX6_cellsToEdge 54 = .ok (.bipush 10, 2) := by decide +kernel
theorem dX6_cellsToEdge_56 : decode cX6_cellsToEdge 56 = .ok (.irem, 1) := by decide +kernel
theorem dX6_cellsToEdge_57 : decode cX6_cellsToEdge 57 = .ok (.ireturn, 1) := by decide +kernel
theorem dX6_cellsToEdge_58 : decode cX6_cellsToEdge 58 = .ok (.iconst 0, 1) := by decide +kernel
theorem dX6_cellsToEdge_59 : decode cX6_cellsToEdge 59 = .ok (.ireturn, 1) := by decide +kernel
theorem dX6_cellAlong_0 : decode cX6_cellAlong 0 = .ok (.iload_n 1, 1) := by decide +kernel
theorem dX6_cellAlong_1 : decode cX6_cellAlong 1 = .ok (.tableswitch 53 0 3 #[31, 38, 42, 49], 31) := by decide +kernel
theorem dX6_cellAlong_32 : decode cX6_cellAlong 32 = .ok (.iload_n 0, 1) := by decide +kernel
theorem dX6_cellAlong_33 : decode cX6_cellAlong 33 = .ok (.bipush 10, 2) := by decide +kernel
theorem dX6_cellAlong_35 : decode cX6_cellAlong 35 = .ok (.iload_n 2, 1) := by decide +kernel
theorem dX6_cellAlong_36 : decode cX6_cellAlong 36 = .ok (.imul, 1) := by decide +kernel
theorem dX6_cellAlong_37 : decode cX6_cellAlong 37 = .ok (.isub, 1) := by decide +kernel
theorem dX6_cellAlong_38 : decode cX6_cellAlong 38 = .ok (.ireturn, 1) := by decide +kernel
theorem dX6_cellAlong_39 : decode cX6_cellAlong 39 = .ok (.iload_n 0, 1) := by decide +kernel
theorem dX6_cellAlong_40 : decode cX6_cellAlong 40 = .ok (.iload_n 2, 1) := by decide +kernel
theorem dX6_cellAlong_41 : decode cX6_cellAlong 41 = .ok (.iadd, 1) := by decide +kernel
theorem dX6_cellAlong_42 : decode cX6_cellAlong 42 = .ok (.ireturn, 1) := by decide +kernel
theorem dX6_cellAlong_43 : decode cX6_cellAlong 43 = .ok (.iload_n 0, 1) := by decide +kernel
theorem dX6_cellAlong_44 : decode cX6_cellAlong 44 = .ok (.bipush 10, 2) := by decide +kernel
theorem dX6_cellAlong_46 : decode cX6_cellAlong 46 = .ok (.iload_n 2, 1) := by decide +kernel
theorem dX6_cellAlong_47 : decode cX6_cellAlong 47 = .ok (.imul, 1) := by decide +kernel
theorem dX6_cellAlong_48 : decode cX6_cellAlong 48 = .ok (.iadd, 1) := by decide +kernel
theorem dX6_cellAlong_49 : decode cX6_cellAlong 49 = .ok (.ireturn, 1) := by decide +kernel
theorem dX6_cellAlong_50 : decode cX6_cellAlong 50 = .ok (.iload_n 0, 1) := by decide +kernel
theorem dX6_cellAlong_51 : decode cX6_cellAlong 51 = .ok (.iload_n 2, 1) := by decide +kernel
theorem dX6_cellAlong_52 : decode cX6_cellAlong 52 = .ok (.isub, 1) := by decide +kernel
theorem dX6_cellAlong_53 : decode cX6_cellAlong 53 = .ok (.ireturn, 1) := by decide +kernel
theorem dX6_cellAlong_54 : decode cX6_cellAlong 54 = .ok (.iload_n 0, 1) := by decide +kernel
theorem dX6_cellAlong_55 : decode cX6_cellAlong 55 = .ok (.ireturn, 1) := by decide +kernel
theorem dX6_distanceAlong_0 : decode cX6_distanceAlong 0 = .ok (.iload_n 1, 1) := by decide +kernel
theorem dX6_distanceAlong_1 : decode cX6_distanceAlong 1 = .ok (.bipush 10, 2) := by decide +kernel
theorem dX6_distanceAlong_3 : decode cX6_distanceAlong 3 = .ok (.idiv, 1) := by decide +kernel
theorem dX6_distanceAlong_4 : decode cX6_distanceAlong 4 = .ok (.iload_n 0, 1) := by decide +kernel
theorem dX6_distanceAlong_5 : decode cX6_distanceAlong 5 = .ok (.bipush 10, 2) := by decide +kernel
theorem dX6_distanceAlong_7 : decode cX6_distanceAlong 7 = .ok (.idiv, 1) := by decide +kernel
theorem dX6_distanceAlong_8 : decode cX6_distanceAlong 8 = .ok (.isub, 1) := by decide +kernel
theorem dX6_distanceAlong_9 : decode cX6_distanceAlong 9 = .ok (.istore_n 3, 1) := by decide +kernel
theorem dX6_distanceAlong_10 : decode cX6_distanceAlong 10 = .ok (.iload_n 1, 1) := by decide +kernel
theorem dX6_distanceAlong_11 : decode cX6_distanceAlong 11 = .ok (.bipush 10, 2) := by decide +kernel
theorem dX6_distanceAlong_13 : decode cX6_distanceAlong 13 = .ok (.irem, 1) := by decide +kernel
theorem dX6_distanceAlong_14 : decode cX6_distanceAlong 14 = .ok (.iload_n 0, 1) := by decide +kernel
theorem dX6_distanceAlong_15 : decode cX6_distanceAlong 15 = .ok (.bipush 10, 2) := by decide +kernel
theorem dX6_distanceAlong_17 : decode cX6_distanceAlong 17 = .ok (.irem, 1) := by decide +kernel
theorem dX6_distanceAlong_18 : decode cX6_distanceAlong 18 = .ok (.isub, 1) := by decide +kernel
theorem dX6_distanceAlong_19 : decode cX6_distanceAlong 19 = .ok (.istore 4, 2) := by decide +kernel
theorem dX6_distanceAlong_21 : decode cX6_distanceAlong 21 = .ok (.iload_n 2, 1) := by decide +kernel
theorem dX6_distanceAlong_22 : decode cX6_distanceAlong 22 = .ok (.tableswitch 76 0 3 #[30, 42, 53, 64], 30) := by decide +kernel
theorem dX6_distanceAlong_52 : decode cX6_distanceAlong 52 = .ok (.iload 4, 2) := by decide +kernel
theorem dX6_distanceAlong_54 : decode cX6_distanceAlong 54 = .ok (.ifCond .ne 8, 3) := by decide +kernel
theorem dX6_distanceAlong_57 : decode cX6_distanceAlong 57 = .ok (.iload_n 3, 1) := by decide +kernel
theorem dX6_distanceAlong_58 : decode cX6_distanceAlong 58 = .ok (.ineg, 1) := by decide +kernel
theorem dX6_distanceAlong_59 : decode cX6_distanceAlong 59 = .ok (.goto 4, 3) := by decide +kernel
theorem dX6_distanceAlong_62 : decode cX6_distanceAlong 62 = .ok (.iconst 0, 1) := by decide +kernel
theorem dX6_distanceAlong_63 : decode cX6_distanceAlong 63 = .ok (.ireturn, 1) := by decide +kernel
theorem dX6_distanceAlong_64 : decode cX6_distanceAlong 64 = .ok (.iload_n 3, 1) := by decide +kernel
theorem dX6_distanceAlong_65 : decode cX6_distanceAlong 65 = .ok (.ifCond .ne 8, 3) := by decide +kernel
theorem dX6_distanceAlong_68 : decode cX6_distanceAlong 68 = .ok (.iload 4, 2) := by decide +kernel
theorem dX6_distanceAlong_70 : decode cX6_distanceAlong 70 = .ok (.goto 4, 3) := by decide +kernel
theorem dX6_distanceAlong_73 : decode cX6_distanceAlong 73 = .ok (.iconst 0, 1) := by decide +kernel
theorem dX6_distanceAlong_74 : decode cX6_distanceAlong 74 = .ok (.ireturn, 1) := by decide +kernel
theorem dX6_distanceAlong_75 : decode cX6_distanceAlong 75 = .ok (.iload 4, 2) := by decide +kernel
theorem dX6_distanceAlong_77 : decode cX6_distanceAlong 77 = .ok (.ifCond .ne 7, 3) := by decide +kernel
theorem dX6_distanceAlong_80 : decode cX6_distanceAlong 80 = .ok (.iload_n 3, 1) := by decide +kernel
theorem dX6_distanceAlong_81 : decode cX6_distanceAlong 81 = .ok (.goto 4, 3) := by decide +kernel
theorem dX6_distanceAlong_84 : decode cX6_distanceAlong 84 = .ok (.iconst 0, 1) := by decide +kernel
theorem dX6_distanceAlong_85 : decode cX6_distanceAlong 85 = .ok (.ireturn, 1) := by decide +kernel
theorem dX6_distanceAlong_86 : decode cX6_distanceAlong 86 = .ok (.iload_n 3, 1) := by decide +kernel
theorem dX6_distanceAlong_87 : decode cX6_distanceAlong 87 = .ok (.ifCond .ne 9, 3) := by decide +kernel
theorem dX6_distanceAlong_90 : decode cX6_distanceAlong 90 = .ok (.iload 4, 2) := by decide +kernel
theorem dX6_distanceAlong_92 : decode cX6_distanceAlong 92 = .ok (.ineg, 1) := by decide +kernel
theorem dX6_distanceAlong_93 : decode cX6_distanceAlong 93 = .ok (.goto 4, 3) := by decide +kernel
theorem dX6_distanceAlong_96 : decode cX6_distanceAlong 96 = .ok (.iconst 0, 1) := by decide +kernel
theorem dX6_distanceAlong_97 : decode cX6_distanceAlong 97 = .ok (.ireturn, 1) := by decide +kernel
theorem dX6_distanceAlong_98 : decode cX6_distanceAlong 98 = .ok (.iconst 0, 1) := by decide +kernel
theorem dX6_distanceAlong_99 : decode cX6_distanceAlong 99 = .ok (.ireturn, 1) := by decide +kernel
theorem dJ9_min_7cf53_0 : decode cJ9_min_7cf53 0 = .ok (.iload_n 0, 1) := by decide +kernel
theorem dJ9_min_7cf53_1 : decode cJ9_min_7cf53 1 = .ok (.iload_n 1, 1) := by decide +kernel
theorem dJ9_min_7cf53_2 : decode cJ9_min_7cf53 2 = .ok (.if_icmp .gt 7, 3) := by decide +kernel
theorem dJ9_min_7cf53_5 : decode cJ9_min_7cf53 5 = .ok (.iload_n 0, 1) := by decide +kernel
theorem dJ9_min_7cf53_6 : decode cJ9_min_7cf53 6 = .ok (.goto 4, 3) := by decide +kernel
theorem dJ9_min_7cf53_9 : decode cJ9_min_7cf53 9 = .ok (.iload_n 1, 1) := by decide +kernel
theorem dJ9_min_7cf53_10 : decode cJ9_min_7cf53 10 = .ok (.ireturn, 1) := by decide +kernel
theorem dL_cell_0 : decode cL_cell 0 = .ok (.iload_n 1, 1) := by decide +kernel
theorem dL_cell_1 : decode cL_cell 1 = .ok (.aload_n 0, 1) := by decide +kernel
theorem dL_cell_2 : decode cL_cell 2 = .ok (.arraylength, 1) := by decide +kernel
theorem dL_cell_3 : decode cL_cell 3 = .ok (.if_icmp .ge 9, 3) := by decide +kernel
theorem dL_cell_6 : decode cL_cell 6 = .ok (.aload_n 0, 1) := by decide +kernel
theorem dL_cell_7 : decode cL_cell 7 = .ok (.iload_n 1, 1) := by decide +kernel
theorem dL_cell_8 : decode cL_cell 8 = .ok (.iaload, 1) := by decide +kernel
theorem dL_cell_9 : decode cL_cell 9 = .ok (.goto 9, 3) := by decide +kernel
theorem dL_cell_12 : decode cL_cell 12 = .ok (.ldc 7, 2) := by decide +kernel
theorem dL_cell_14 : decode cL_cell 14 = .ok (.iload_n 1, 1) := by decide +kernel
theorem dL_cell_15 : decode cL_cell 15 = .ok (.iconst 1, 1) := by decide +kernel
theorem dL_cell_16 : decode cL_cell 16 = .ok (.iadd, 1) := by decide +kernel
theorem dL_cell_17 : decode cL_cell 17 = .ok (.imul, 1) := by decide +kernel
theorem dL_cell_18 : decode cL_cell 18 = .ok (.ireturn, 1) := by decide +kernel
theorem dL_low_0 : decode cL_low 0 = .ok (.iload_n 0, 1) := by decide +kernel
theorem dL_low_1 : decode cL_low 1 = .ok (.ldc 8, 2) := by decide +kernel
theorem dL_low_3 : decode cL_low 3 = .ok (.iand, 1) := by decide +kernel
theorem dL_low_4 : decode cL_low 4 = .ok (.iload_n 1, 1) := by decide +kernel
theorem dL_low_5 : decode cL_low 5 = .ok (.irem, 1) := by decide +kernel
theorem dL_low_6 : decode cL_low 6 = .ok (.ireturn, 1) := by decide +kernel
theorem dL_who_0 : decode cL_who 0 = .ok (.iconst 0, 1) := by decide +kernel
theorem dL_who_1 : decode cL_who 1 = .ok (.istore_n 3, 1) := by decide +kernel
theorem dL_who_2 : decode cL_who 2 = .ok (.iload_n 3, 1) := by decide +kernel
theorem dL_who_3 : decode cL_who 3 = .ok (.aload_n 1, 1) := by decide +kernel
theorem dL_who_4 : decode cL_who 4 = .ok (.bipush 8, 2) := by decide +kernel
theorem dL_who_6 : decode cL_who 6 = .ok (.iaload, 1) := by decide +kernel
theorem dL_who_7 : decode cL_who 7 = .ok (.if_icmp .ge 21, 3) := by decide +kernel
theorem dL_who_10 : decode cL_who 10 = .ok (.aload_n 0, 1) := by decide +kernel
theorem dL_who_11 : decode cL_who 11 = .ok (.bipush 7, 2) := by decide +kernel
theorem dL_who_13 : decode cL_who 13 = .ok (.iload_n 3, 1) := by decide +kernel
theorem dL_who_14 : decode cL_who 14 = .ok (.imul, 1) := by decide +kernel
theorem dL_who_15 : decode cL_who 15 = .ok (.iaload, 1) := by decide +kernel
theorem dL_who_16 : decode cL_who 16 = .ok (.iload_n 2, 1) := by decide +kernel
theorem dL_who_17 : decode cL_who 17 = .ok (.if_icmp .ne 5, 3) := by decide +kernel
theorem dL_who_20 : decode cL_who 20 = .ok (.iload_n 3, 1) := by decide +kernel
theorem dL_who_21 : decode cL_who 21 = .ok (.ireturn, 1) := by decide +kernel
theorem dL_who_22 : decode cL_who 22 = .ok (.iinc 3 1, 3) := by decide +kernel
theorem dL_who_25 : decode cL_who 25 = .ok (.goto (-23), 3) := by decide +kernel
theorem dL_who_28 : decode cL_who 28 = .ok (.bipush (-5), 2) := by decide +kernel
theorem dL_who_30 : decode cL_who 30 = .ok (.ireturn, 1) := by decide +kernel
theorem dL_straight_0 : decode cL_straight 0 = .ok (.iload_n 1, 1) := by decide +kernel
theorem dL_straight_1 : decode cL_straight 1 = .ok (.bipush 10, 2) := by decide +kernel
theorem dL_straight_3 : decode cL_straight 3 = .ok (.idiv, 1) := by decide +kernel
theorem dL_straight_4 : decode cL_straight 4 = .ok (.iload_n 0, 1) := by decide +kernel
theorem dL_straight_5 : decode cL_straight 5 = .ok (.bipush 10, 2) := by decide +kernel
theorem dL_straight_7 : decode cL_straight 7 = .ok (.idiv, 1) := by decide +kernel
theorem dL_straight_8 : decode cL_straight 8 = .ok (.isub, 1) := by decide +kernel
theorem dL_straight_9 : decode cL_straight 9 = .ok (.istore_n 3, 1) := by decide +kernel
theorem dL_straight_10 : decode cL_straight 10 = .ok (.iload_n 1, 1) := by decide +kernel
theorem dL_straight_11 : decode cL_straight 11 = .ok (.bipush 10, 2) := by decide +kernel
theorem dL_straight_13 : decode cL_straight 13 = .ok (.irem, 1) := by decide +kernel
theorem dL_straight_14 : decode cL_straight 14 = .ok (.iload_n 0, 1) := by decide +kernel
theorem dL_straight_15 : decode cL_straight 15 = .ok (.bipush 10, 2) := by decide +kernel
theorem dL_straight_17 : decode cL_straight 17 = .ok (.irem, 1) := by decide +kernel
theorem dL_straight_18 : decode cL_straight 18 = .ok (.isub, 1) := by decide +kernel
theorem dL_straight_19 : decode cL_straight 19 = .ok (.istore 4, 2) := by decide +kernel
theorem dL_straight_21 : decode cL_straight 21 = .ok (.iload_n 2, 1) := by decide +kernel
theorem dL_straight_22 : decode cL_straight 22 = .ok (.ifCond .ne 8, 3) := by decide +kernel
theorem dL_straight_25 : decode cL_straight 25 = .ok (.iload_n 3, 1) := by decide +kernel
theorem dL_straight_26 : decode cL_straight 26 = .ok (.ineg, 1) := by decide +kernel
theorem dL_straight_27 : decode cL_straight 27 = .ok (.goto 25, 3) := by decide +kernel
theorem dL_straight_30 : decode cL_straight 30 = .ok (.iload_n 2, 1) := by decide +kernel
theorem dL_straight_31 : decode cL_straight 31 = .ok (.iconst 1, 1) := by decide +kernel
theorem dL_straight_32 : decode cL_straight 32 = .ok (.if_icmp .ne 8, 3) := by decide +kernel
theorem dL_straight_35 : decode cL_straight 35 = .ok (.iload 4, 2) := by decide +kernel
theorem dL_straight_37 : decode cL_straight 37 = .ok (.goto 15, 3) := by decide +kernel
theorem dL_straight_40 : decode cL_straight 40 = .ok (.iload_n 2, 1) := by decide +kernel
theorem dL_straight_41 : decode cL_straight 41 = .ok (.iconst 2, 1) := by decide +kernel
theorem dL_straight_42 : decode cL_straight 42 = .ok (.if_icmp .ne 7, 3) := by decide +kernel
theorem dL_straight_45 : decode cL_straight 45 = .ok (.iload_n 3, 1) := by decide +kernel
theorem dL_straight_46 : decode cL_straight 46 = .ok (.goto 6, 3) := by decide +kernel
theorem dL_straight_49 : decode cL_straight 49 = .ok (.iload 4, 2) := by decide +kernel
theorem dL_straight_51 : decode cL_straight 51 = .ok (.ineg, 1) := by decide +kernel
theorem dL_straight_52 : decode cL_straight 52 = .ok (.istore 5, 2) := by decide +kernel
theorem dL_straight_54 : decode cL_straight 54 = .ok (.iload 5, 2) := by decide +kernel
theorem dL_straight_56 : decode cL_straight 56 = .ok (.ifCond .le 26, 3) := by decide +kernel
theorem dL_straight_59 : decode cL_straight 59 = .ok (.iload_n 2, 1) := by decide +kernel
theorem dL_straight_60 : decode cL_straight 60 = .ok (.iconst 2, 1) := by decide +kernel
theorem dL_straight_61 : decode cL_straight 61 = .ok (.irem, 1) := by decide +kernel
theorem dL_straight_62 : decode cL_straight 62 = .ok (.ifCond .ne 11, 3) := by decide +kernel
theorem dL_straight_65 : decode cL_straight 65 = .ok (.iload 4, 2) := by decide +kernel
theorem dL_straight_67 : decode cL_straight 67 = .ok (.ifCond .ne 15, 3) := by decide +kernel
theorem dL_straight_70 : decode cL_straight 70 = .ok (.goto 7, 3) := by decide +kernel
theorem dL_straight_73 : decode cL_straight 73 = .ok (.iload_n 3, 1) := by decide +kernel
theorem dL_straight_74 : decode cL_straight 74 = .ok (.ifCond .ne 8, 3) := by decide +kernel
theorem dL_straight_77 : decode cL_straight 77 = .ok (.iload 5, 2) := by decide +kernel
theorem dL_straight_79 : decode cL_straight 79 = .ok (.goto 4, 3) := by decide +kernel
theorem dL_straight_82 : decode cL_straight 82 = .ok (.iconst 0, 1) := by decide +kernel
theorem dL_straight_83 : decode cL_straight 83 = .ok (.ireturn, 1) := by decide +kernel
theorem dL_shades_0 : decode cL_shades 0 = .ok (.aload_n 1, 1) := by decide +kernel
theorem dL_shades_1 : decode cL_shades 1 = .ok (.iconst 4, 1) := by decide +kernel
theorem dL_shades_2 : decode cL_shades 2 = .ok (.iload 4, 2) := by decide +kernel
theorem dL_shades_4 : decode cL_shades 4 = .ok (.imul, 1) := by decide +kernel
theorem dL_shades_5 : decode cL_shades 5 = .ok (.iaload, 1) := by decide +kernel
theorem dL_shades_6 : decode cL_shades 6 = .ok (.iconst 2, 1) := by decide +kernel
theorem dL_shades_7 : decode cL_shades 7 = .ok (.iadd, 1) := by decide +kernel
theorem dL_shades_8 : decode cL_shades 8 = .ok (.iconst 4, 1) := by decide +kernel
theorem dL_shades_9 : decode cL_shades 9 = .ok (.irem, 1) := by decide +kernel
theorem dL_shades_10 : decode cL_shades 10 = .ok (.istore 6, 2) := by decide +kernel
theorem dL_shades_12 : decode cL_shades 12 = .ok (.aload_n 0, 1) := by decide +kernel
theorem dL_shades_13 : decode cL_shades 13 = .ok (.bipush 7, 2) := by decide +kernel
theorem dL_shades_15 : decode cL_shades 15 = .ok (.iload_n 3, 1) := by decide +kernel
theorem dL_shades_16 : decode cL_shades 16 = .ok (.imul, 1) := by decide +kernel
theorem dL_shades_17 : decode cL_shades 17 = .ok (.iaload, 1) := by decide +kernel
theorem dL_shades_18 : decode cL_shades 18 = .ok (.iload 5, 2) := by decide +kernel
theorem dL_shades_20 : decode cL_shades 20 = .ok (.iload 6, 2) := by decide +kernel
theorem dL_shades_22 : decode cL_shades 22 = .ok (.invokestatic 11, 3) := by decide +kernel
theorem dL_shades_25 : decode cL_shades 25 = .ok (.istore 7, 2) := by decide +kernel
theorem dL_shades_27 : decode cL_shades 27 = .ok (.aload_n 1, 1) := by decide +kernel
theorem dL_shades_28 : decode cL_shades 28 = .ok (.iconst 4, 1) := by decide +kernel
theorem dL_shades_29 : decode cL_shades 29 = .ok (.iload 4, 2) := by decide +kernel
theorem dL_shades_31 : decode cL_shades 31 = .ok (.imul, 1) := by decide +kernel
theorem dL_shades_32 : decode cL_shades 32 = .ok (.iconst 3, 1) := by decide +kernel
theorem dL_shades_33 : decode cL_shades 33 = .ok (.iadd, 1) := by decide +kernel
theorem dL_shades_34 : decode cL_shades 34 = .ok (.iaload, 1) := by decide +kernel
theorem dL_shades_35 : decode cL_shades 35 = .ok (.iconst 1, 1) := by decide +kernel
theorem dL_shades_36 : decode cL_shades 36 = .ok (.if_icmp .ne 34, 3) := by decide +kernel
theorem dL_shades_39 : decode cL_shades 39 = .ok (.iload 7, 2) := by decide +kernel
theorem dL_shades_41 : decode cL_shades 41 = .ok (.ifCond .le 29, 3) := by decide +kernel
theorem dL_shades_44 : decode cL_shades 44 = .ok (.iload 7, 2) := by decide +kernel
theorem dL_shades_46 : decode cL_shades 46 = .ok (.aload_n 0, 1) := by decide +kernel
theorem dL_shades_47 : decode cL_shades 47 = .ok (.bipush 7, 2) := by decide +kernel
theorem dL_shades_49 : decode cL_shades 49 = .ok (.iload_n 3, 1) := by decide +kernel
theorem dL_shades_50 : decode cL_shades 50 = .ok (.imul, 1) := by decide +kernel
theorem dL_shades_51 : decode cL_shades 51 = .ok (.iconst 1, 1) := by decide +kernel
theorem dL_shades_52 : decode cL_shades 52 = .ok (.iadd, 1) := by decide +kernel
theorem dL_shades_53 : decode cL_shades 53 = .ok (.iaload, 1) := by decide +kernel
theorem dL_shades_54 : decode cL_shades 54 = .ok (.aload_n 1, 1) := by decide +kernel
theorem dL_shades_55 : decode cL_shades 55 = .ok (.iconst 4, 1) := by decide +kernel
theorem dL_shades_56 : decode cL_shades 56 = .ok (.iload 4, 2) := by decide +kernel
theorem dL_shades_58 : decode cL_shades 58 = .ok (.imul, 1) := by decide +kernel
theorem dL_shades_59 : decode cL_shades 59 = .ok (.iconst 1, 1) := by decide +kernel
theorem dL_shades_60 : decode cL_shades 60 = .ok (.iadd, 1) := by decide +kernel
theorem dL_shades_61 : decode cL_shades 61 = .ok (.iaload, 1) := by decide +kernel
theorem dL_shades_62 : decode cL_shades 62 = .ok (.imul, 1) := by decide +kernel
theorem dL_shades_63 : decode cL_shades 63 = .ok (.if_icmp .gt 7, 3) := by decide +kernel
theorem dL_shades_66 : decode cL_shades 66 = .ok (.iconst 1, 1) := by decide +kernel
theorem dL_shades_67 : decode cL_shades 67 = .ok (.goto 4, 3) := by decide +kernel
theorem dL_shades_70 : decode cL_shades 70 = .ok (.iconst 0, 1) := by decide +kernel
theorem dL_shades_71 : decode cL_shades 71 = .ok (.istore 8, 2) := by decide +kernel
theorem dL_shades_73 : decode cL_shades 73 = .ok (.iconst 0, 1) := by decide +kernel
theorem dL_shades_74 : decode cL_shades 74 = .ok (.istore 9, 2) := by decide +kernel
theorem dL_shades_76 : decode cL_shades 76 = .ok (.iload 9, 2) := by decide +kernel
theorem dL_shades_78 : decode cL_shades 78 = .ok (.aload_n 2, 1) := by decide +kernel
theorem dL_shades_79 : decode cL_shades 79 = .ok (.bipush 8, 2) := by decide +kernel
theorem dL_shades_81 : decode cL_shades 81 = .ok (.iaload, 1) := by decide +kernel
theorem dL_shades_82 : decode cL_shades 82 = .ok (.if_icmp .ge 53, 3) := by decide +kernel
theorem dL_shades_85 : decode cL_shades 85 = .ok (.aload_n 0, 1) := by decide +kernel
theorem dL_shades_86 : decode cL_shades 86 = .ok (.bipush 7, 2) := by decide +kernel
theorem dL_shades_88 : decode cL_shades 88 = .ok (.iload_n 3, 1) := by decide +kernel
theorem dL_shades_89 : decode cL_shades 89 = .ok (.imul, 1) := by decide +kernel
theorem dL_shades_90 : decode cL_shades 90 = .ok (.iaload, 1) := by decide +kernel
theorem dL_shades_91 : decode cL_shades 91 = .ok (.aload_n 0, 1) := by decide +kernel
theorem dL_shades_92 : decode cL_shades 92 = .ok (.bipush 7, 2) := by decide +kernel
theorem dL_shades_94 : decode cL_shades 94 = .ok (.iload 9, 2) := by decide +kernel
theorem dL_shades_96 : decode cL_shades 96 = .ok (.imul, 1) := by decide +kernel
theorem dL_shades_97 : decode cL_shades 97 = .ok (.iaload, 1) := by decide +kernel
theorem dL_shades_98 : decode cL_shades 98 = .ok (.iload 6, 2) := by decide +kernel
theorem dL_shades_100 : decode cL_shades 100 = .ok (.invokestatic 11, 3) := by decide +kernel
theorem dL_shades_103 : decode cL_shades 103 = .ok (.istore 10, 2) := by decide +kernel
theorem dL_shades_105 : decode cL_shades 105 = .ok (.iload 8, 2) := by decide +kernel
theorem dL_shades_107 : decode cL_shades 107 = .ok (.ifCond .eq 19, 3) := by decide +kernel
theorem dL_shades_110 : decode cL_shades 110 = .ok (.iload 10, 2) := by decide +kernel
theorem dL_shades_112 : decode cL_shades 112 = .ok (.ifCond .eq 10, 3) := by decide +kernel
theorem dL_shades_115 : decode cL_shades 115 = .ok (.iload 10, 2) := by decide +kernel
theorem dL_shades_117 : decode cL_shades 117 = .ok (.iload 7, 2) := by decide +kernel
theorem dL_shades_119 : decode cL_shades 119 = .ok (.if_icmp .lt 7, 3) := by decide +kernel
theorem dL_shades_122 : decode cL_shades 122 = .ok (.iconst 1, 1) := by decide +kernel
theorem dL_shades_123 : decode cL_shades 123 = .ok (.goto 4, 3) := by decide +kernel
theorem dL_shades_126 : decode cL_shades 126 = .ok (.iconst 0, 1) := by decide +kernel
theorem dL_shades_127 : decode cL_shades 127 = .ok (.istore 8, 2) := by decide +kernel
theorem dL_shades_129 : decode cL_shades 129 = .ok (.iinc 9 1, 3) := by decide +kernel
theorem dL_shades_132 : decode cL_shades 132 = .ok (.goto (-56), 3) := by decide +kernel
theorem dL_shades_135 : decode cL_shades 135 = .ok (.iload 8, 2) := by decide +kernel
theorem dL_shades_137 : decode cL_shades 137 = .ok (.ireturn, 1) := by decide +kernel
theorem dL_shaded_0 : decode cL_shaded 0 = .ok (.aload_n 0, 1) := by decide +kernel
theorem dL_shaded_1 : decode cL_shaded 1 = .ok (.aload_n 1, 1) := by decide +kernel
theorem dL_shaded_2 : decode cL_shaded 2 = .ok (.aload_n 2, 1) := by decide +kernel
theorem dL_shaded_3 : decode cL_shaded 3 = .ok (.iload_n 3, 1) := by decide +kernel
theorem dL_shaded_4 : decode cL_shaded 4 = .ok (.iconst 0, 1) := by decide +kernel
theorem dL_shaded_5 : decode cL_shaded 5 = .ok (.iload 4, 2) := by decide +kernel
theorem dL_shaded_7 : decode cL_shaded 7 = .ok (.invokestatic 15, 3) := by decide +kernel
theorem dL_shaded_10 : decode cL_shaded 10 = .ok (.ifCond .ne 29, 3) := by decide +kernel
theorem dL_shaded_13 : decode cL_shaded 13 = .ok (.aload_n 0, 1) := by decide +kernel
theorem dL_shaded_14 : decode cL_shaded 14 = .ok (.aload_n 1, 1) := by decide +kernel
theorem dL_shaded_15 : decode cL_shaded 15 = .ok (.aload_n 2, 1) := by decide +kernel
theorem dL_shaded_16 : decode cL_shaded 16 = .ok (.iload_n 3, 1) := by decide +kernel
theorem dL_shaded_17 : decode cL_shaded 17 = .ok (.iconst 1, 1) := by decide +kernel
theorem dL_shaded_18 : decode cL_shaded 18 = .ok (.iload 4, 2) := by decide +kernel
theorem dL_shaded_20 : decode cL_shaded 20 = .ok (.invokestatic 15, 3) := by decide +kernel
theorem dL_shaded_23 : decode cL_shaded 23 = .ok (.ifCond .ne 16, 3) := by decide +kernel
theorem dL_shaded_26 : decode cL_shaded 26 = .ok (.aload_n 0, 1) := by decide +kernel
theorem dL_shaded_27 : decode cL_shaded 27 = .ok (.aload_n 1, 1) := by decide +kernel
theorem dL_shaded_28 : decode cL_shaded 28 = .ok (.aload_n 2, 1) := by decide +kernel
theorem dL_shaded_29 : decode cL_shaded 29 = .ok (.iload_n 3, 1) := by decide +kernel
theorem dL_shaded_30 : decode cL_shaded 30 = .ok (.iconst 2, 1) := by decide +kernel
theorem dL_shaded_31 : decode cL_shaded 31 = .ok (.iload 4, 2) := by decide +kernel
theorem dL_shaded_33 : decode cL_shaded 33 = .ok (.invokestatic 15, 3) := by decide +kernel
theorem dL_shaded_36 : decode cL_shaded 36 = .ok (.ifCond .eq 7, 3) := by decide +kernel
theorem dL_shaded_39 : decode cL_shaded 39 = .ok (.iconst 1, 1) := by decide +kernel
theorem dL_shaded_40 : decode cL_shaded 40 = .ok (.goto 4, 3) := by decide +kernel
theorem dL_shaded_43 : decode cL_shaded 43 = .ok (.iconst 0, 1) := by decide +kernel
theorem dL_shaded_44 : decode cL_shaded 44 = .ok (.ireturn, 1) := by decide +kernel
theorem dL_cells_0 : decode cL_cells 0 = .ok (.iconst 0, 1) := by decide +kernel
theorem dL_cells_1 : decode cL_cells 1 = .ok (.istore 4, 2) := by decide +kernel
theorem dL_cells_3 : decode cL_cells 3 = .ok (.iconst 0, 1) := by decide +kernel
theorem dL_cells_4 : decode cL_cells 4 = .ok (.istore 5, 2) := by decide +kernel
theorem dL_cells_6 : decode cL_cells 6 = .ok (.iload 5, 2) := by decide +kernel
theorem dL_cells_8 : decode cL_cells 8 = .ok (.bipush 100, 2) := by decide +kernel
theorem dL_cells_10 : decode cL_cells 10 = .ok (.if_icmp .ge 31, 3) := by decide +kernel
theorem dL_cells_13 : decode cL_cells 13 = .ok (.iload 4, 2) := by decide +kernel
theorem dL_cells_15 : decode cL_cells 15 = .ok (.aload_n 0, 1) := by decide +kernel
theorem dL_cells_16 : decode cL_cells 16 = .ok (.aload_n 1, 1) := by decide +kernel
theorem dL_cells_17 : decode cL_cells 17 = .ok (.aload_n 2, 1) := by decide +kernel
theorem dL_cells_18 : decode cL_cells 18 = .ok (.iload_n 3, 1) := by decide +kernel
theorem dL_cells_19 : decode cL_cells 19 = .ok (.iload 5, 2) := by decide +kernel
theorem dL_cells_21 : decode cL_cells 21 = .ok (.invokestatic 19, 3) := by decide +kernel
theorem dL_cells_24 : decode cL_cells 24 = .ok (.ifCond .eq 7, 3) := by decide +kernel
theorem dL_cells_27 : decode cL_cells 27 = .ok (.iconst 1, 1) := by decide +kernel
theorem dL_cells_28 : decode cL_cells 28 = .ok (.goto 4, 3) := by decide +kernel
theorem dL_cells_31 : decode cL_cells 31 = .ok (.iconst 0, 1) := by decide +kernel
theorem dL_cells_32 : decode cL_cells 32 = .ok (.iadd, 1) := by decide +kernel
theorem dL_cells_33 : decode cL_cells 33 = .ok (.istore 4, 2) := by decide +kernel
theorem dL_cells_35 : decode cL_cells 35 = .ok (.iinc 5 1, 3) := by decide +kernel
theorem dL_cells_38 : decode cL_cells 38 = .ok (.goto (-32), 3) := by decide +kernel
theorem dL_cells_41 : decode cL_cells 41 = .ok (.iload 4, 2) := by decide +kernel
theorem dL_cells_43 : decode cL_cells 43 = .ok (.ireturn, 1) := by decide +kernel
theorem dL_beside_0 : decode cL_beside 0 = .ok (.iload_n 0, 1) := by decide +kernel
theorem dL_beside_1 : decode cL_beside 1 = .ok (.bipush 10, 2) := by decide +kernel
theorem dL_beside_3 : decode cL_beside 3 = .ok (.idiv, 1) := by decide +kernel
theorem dL_beside_4 : decode cL_beside 4 = .ok (.iload_n 1, 1) := by decide +kernel
theorem dL_beside_5 : decode cL_beside 5 = .ok (.iconst 2, 1) := by decide +kernel
theorem dL_beside_6 : decode cL_beside 6 = .ok (.if_icmp .ne 7, 3) := by decide +kernel
theorem dL_beside_9 : decode cL_beside 9 = .ok (.iconst 1, 1) := by decide +kernel
theorem dL_beside_10 : decode cL_beside 10 = .ok (.goto 12, 3) := by decide +kernel
theorem dL_beside_13 : decode cL_beside 13 = .ok (.iload_n 1, 1) := by decide +kernel
theorem dL_beside_14 : decode cL_beside 14 = .ok (.ifCond .ne 7, 3) := by decide +kernel
theorem dL_beside_17 : decode cL_beside 17 = .ok (.iconst (-1), 1) := by decide +kernel
theorem dL_beside_18 : decode cL_beside 18 = .ok (.goto 4, 3) := by decide +kernel
theorem dL_beside_21 : decode cL_beside 21 = .ok (.iconst 0, 1) := by decide +kernel
theorem dL_beside_22 : decode cL_beside 22 = .ok (.iadd, 1) := by decide +kernel
theorem dL_beside_23 : decode cL_beside 23 = .ok (.istore_n 2, 1) := by decide +kernel
theorem dL_beside_24 : decode cL_beside 24 = .ok (.iload_n 0, 1) := by decide +kernel
theorem dL_beside_25 : decode cL_beside 25 = .ok (.bipush 10, 2) := by decide +kernel
theorem dL_beside_27 : decode cL_beside 27 = .ok (.irem, 1) := by decide +kernel
theorem dL_beside_28 : decode cL_beside 28 = .ok (.iload_n 1, 1) := by decide +kernel
theorem dL_beside_29 : decode cL_beside 29 = .ok (.iconst 1, 1) := by decide +kernel
theorem dL_beside_30 : decode cL_beside 30 = .ok (.if_icmp .ne 7, 3) := by decide +kernel
theorem dL_beside_33 : decode cL_beside 33 = .ok (.iconst 1, 1) := by decide +kernel
theorem dL_beside_34 : decode cL_beside 34 = .ok (.goto 13, 3) := by decide +kernel
theorem dL_beside_37 : decode cL_beside 37 = .ok (.iload_n 1, 1) := by decide +kernel
theorem dL_beside_38 : decode cL_beside 38 = .ok (.iconst 3, 1) := by decide +kernel
theorem dL_beside_39 : decode cL_beside 39 = .ok (.if_icmp .ne 7, 3) := by decide +kernel
theorem dL_beside_42 : decode cL_beside 42 = .ok (.iconst (-1), 1) := by decide +kernel
theorem dL_beside_43 : decode cL_beside 43 = .ok (.goto 4, 3) := by decide +kernel
theorem dL_beside_46 : decode cL_beside 46 = .ok (.iconst 0, 1) := by decide +kernel
theorem dL_beside_47 : decode cL_beside 47 = .ok (.iadd, 1) := by decide +kernel
theorem dL_beside_48 : decode cL_beside 48 = .ok (.istore_n 3, 1) := by decide +kernel
theorem dL_beside_49 : decode cL_beside 49 = .ok (.iload_n 2, 1) := by decide +kernel
theorem dL_beside_50 : decode cL_beside 50 = .ok (.ifCond .lt 19, 3) := by decide +kernel
theorem dL_beside_53 : decode cL_beside 53 = .ok (.iload_n 2, 1) := by decide +kernel
theorem dL_beside_54 : decode cL_beside 54 = .ok (.bipush 9, 2) := by decide +kernel
theorem dL_beside_56 : decode cL_beside 56 = .ok (.if_icmp .gt 13, 3) := by decide +kernel
theorem dL_beside_59 : decode cL_beside 59 = .ok (.iload_n 3, 1) := by decide +kernel
theorem dL_beside_60 : decode cL_beside 60 = .ok (.ifCond .lt 9, 3) := by decide +kernel
theorem dL_beside_63 : decode cL_beside 63 = .ok (.iload_n 3, 1) := by decide +kernel
theorem dL_beside_64 : decode cL_beside 64 = .ok (.bipush 9, 2) := by decide +kernel
theorem dL_beside_66 : decode cL_beside 66 = .ok (.if_icmp .le 8, 3) := by decide +kernel
theorem dL_beside_69 : decode cL_beside 69 = .ok (.bipush (-5), 2) := by decide +kernel
theorem dL_beside_71 : decode cL_beside 71 = .ok (.goto 9, 3) := by decide +kernel
theorem dL_beside_74 : decode cL_beside 74 = .ok (.bipush 10, 2) := by decide +kernel
theorem dL_beside_76 : decode cL_beside 76 = .ok (.iload_n 2, 1) := by decide +kernel
theorem dL_beside_77 : decode cL_beside 77 = .ok (.imul, 1) := by decide +kernel
theorem dL_beside_78 : decode cL_beside 78 = .ok (.iload_n 3, 1) := by decide +kernel
theorem dL_beside_79 : decode cL_beside 79 = .ok (.iadd, 1) := by decide +kernel
theorem dL_beside_80 : decode cL_beside 80 = .ok (.ireturn, 1) := by decide +kernel
theorem dL_tagged_0 : decode cL_tagged 0 = .ok (.iconst 0, 1) := by decide +kernel
theorem dL_tagged_1 : decode cL_tagged 1 = .ok (.istore_n 3, 1) := by decide +kernel
theorem dL_tagged_2 : decode cL_tagged 2 = .ok (.iload_n 3, 1) := by decide +kernel
theorem dL_tagged_3 : decode cL_tagged 3 = .ok (.aload_n 2, 1) := by decide +kernel
theorem dL_tagged_4 : decode cL_tagged 4 = .ok (.bipush 8, 2) := by decide +kernel
theorem dL_tagged_6 : decode cL_tagged 6 = .ok (.iaload, 1) := by decide +kernel
theorem dL_tagged_7 : decode cL_tagged 7 = .ok (.if_icmp .ge 47, 3) := by decide +kernel
theorem dL_tagged_10 : decode cL_tagged 10 = .ok (.iload_n 3, 1) := by decide +kernel
theorem dL_tagged_11 : decode cL_tagged 11 = .ok (.aload_n 2, 1) := by decide +kernel
theorem dL_tagged_12 : decode cL_tagged 12 = .ok (.iconst 1, 1) := by decide +kernel
theorem dL_tagged_13 : decode cL_tagged 13 = .ok (.iaload, 1) := by decide +kernel
theorem dL_tagged_14 : decode cL_tagged 14 = .ok (.if_icmp .eq 34, 3) := by decide +kernel
theorem dL_tagged_17 : decode cL_tagged 17 = .ok (.aload_n 0, 1) := by decide +kernel
theorem dL_tagged_18 : decode cL_tagged 18 = .ok (.bipush 7, 2) := by decide +kernel
theorem dL_tagged_20 : decode cL_tagged 20 = .ok (.iload_n 3, 1) := by decide +kernel
theorem dL_tagged_21 : decode cL_tagged 21 = .ok (.imul, 1) := by decide +kernel
theorem dL_tagged_22 : decode cL_tagged 22 = .ok (.iconst 3, 1) := by decide +kernel
theorem dL_tagged_23 : decode cL_tagged 23 = .ok (.iadd, 1) := by decide +kernel
theorem dL_tagged_24 : decode cL_tagged 24 = .ok (.iaload, 1) := by decide +kernel
theorem dL_tagged_25 : decode cL_tagged 25 = .ok (.ifCond .ne 23, 3) := by decide +kernel
theorem dL_tagged_28 : decode cL_tagged 28 = .ok (.aload_n 0, 1) := by decide +kernel
theorem dL_tagged_29 : decode cL_tagged 29 = .ok (.aload_n 1, 1) := by decide +kernel
theorem dL_tagged_30 : decode cL_tagged 30 = .ok (.aload_n 2, 1) := by decide +kernel
theorem dL_tagged_31 : decode cL_tagged 31 = .ok (.iload_n 3, 1) := by decide +kernel
theorem dL_tagged_32 : decode cL_tagged 32 = .ok (.aload_n 0, 1) := by decide +kernel
theorem dL_tagged_33 : decode cL_tagged 33 = .ok (.bipush 7, 2) := by decide +kernel
theorem dL_tagged_35 : decode cL_tagged 35 = .ok (.aload_n 2, 1) := by decide +kernel
theorem dL_tagged_36 : decode cL_tagged 36 = .ok (.iconst 1, 1) := by decide +kernel
theorem dL_tagged_37 : decode cL_tagged 37 = .ok (.iaload, 1) := by decide +kernel
theorem dL_tagged_38 : decode cL_tagged 38 = .ok (.imul, 1) := by decide +kernel
theorem dL_tagged_39 : decode cL_tagged 39 = .ok (.iaload, 1) := by decide +kernel
theorem dL_tagged_40 : decode cL_tagged 40 = .ok (.invokestatic 19, 3) := by decide +kernel
theorem dL_tagged_43 : decode cL_tagged 43 = .ok (.ifCond .eq 5, 3) := by decide +kernel
theorem dL_tagged_46 : decode cL_tagged 46 = .ok (.iload_n 3, 1) := by decide +kernel
theorem dL_tagged_47 : decode cL_tagged 47 = .ok (.ireturn, 1) := by decide +kernel
theorem dL_tagged_48 : decode cL_tagged 48 = .ok (.iinc 3 1, 3) := by decide +kernel
theorem dL_tagged_51 : decode cL_tagged 51 = .ok (.goto (-49), 3) := by decide +kernel
theorem dL_tagged_54 : decode cL_tagged 54 = .ok (.bipush (-5), 2) := by decide +kernel
theorem dL_tagged_56 : decode cL_tagged 56 = .ok (.ireturn, 1) := by decide +kernel
theorem dL_turns_0 : decode cL_turns 0 = .ok (.iconst 0, 1) := by decide +kernel
theorem dL_turns_1 : decode cL_turns 1 = .ok (.istore_n 3, 1) := by decide +kernel
theorem dL_turns_2 : decode cL_turns 2 = .ok (.iload_n 3, 1) := by decide +kernel
theorem dL_turns_3 : decode cL_turns 3 = .ok (.aload_n 2, 1) := by decide +kernel
theorem dL_turns_4 : decode cL_turns 4 = .ok (.bipush 8, 2) := by decide +kernel
theorem dL_turns_6 : decode cL_turns 6 = .ok (.iaload, 1) := by decide +kernel
theorem dL_turns_7 : decode cL_turns 7 = .ok (.if_icmp .ge 135, 3) := by decide +kernel
theorem dL_turns_10 : decode cL_turns 10 = .ok (.aload_n 0, 1) := by decide +kernel
theorem dL_turns_11 : decode cL_turns 11 = .ok (.bipush 7, 2) := by decide +kernel
theorem dL_turns_13 : decode cL_turns 13 = .ok (.iload_n 3, 1) := by decide +kernel
theorem dL_turns_14 : decode cL_turns 14 = .ok (.imul, 1) := by decide +kernel
theorem dL_turns_15 : decode cL_turns 15 = .ok (.iconst 2, 1) := by decide +kernel
theorem dL_turns_16 : decode cL_turns 16 = .ok (.iadd, 1) := by decide +kernel
theorem dL_turns_17 : decode cL_turns 17 = .ok (.iaload, 1) := by decide +kernel
theorem dL_turns_18 : decode cL_turns 18 = .ok (.iconst 4, 1) := by decide +kernel
theorem dL_turns_19 : decode cL_turns 19 = .ok (.if_icmp .ne 8, 3) := by decide +kernel
theorem dL_turns_22 : decode cL_turns 22 = .ok (.bipush (-5), 2) := by decide +kernel
theorem dL_turns_24 : decode cL_turns 24 = .ok (.goto 20, 3) := by decide +kernel
theorem dL_turns_27 : decode cL_turns 27 = .ok (.aload_n 0, 1) := by decide +kernel
theorem dL_turns_28 : decode cL_turns 28 = .ok (.bipush 7, 2) := by decide +kernel
theorem dL_turns_30 : decode cL_turns 30 = .ok (.iload_n 3, 1) := by decide +kernel
theorem dL_turns_31 : decode cL_turns 31 = .ok (.imul, 1) := by decide +kernel
theorem dL_turns_32 : decode cL_turns 32 = .ok (.iaload, 1) := by decide +kernel
theorem dL_turns_33 : decode cL_turns 33 = .ok (.aload_n 0, 1) := by decide +kernel
theorem dL_turns_34 : decode cL_turns 34 = .ok (.bipush 7, 2) := by decide +kernel
theorem dL_turns_36 : decode cL_turns 36 = .ok (.iload_n 3, 1) := by decide +kernel
theorem dL_turns_37 : decode cL_turns 37 = .ok (.imul, 1) := by decide +kernel
theorem dL_turns_38 : decode cL_turns 38 = .ok (.iconst 2, 1) := by decide +kernel
theorem dL_turns_39 : decode cL_turns 39 = .ok (.iadd, 1) := by decide +kernel
theorem dL_turns_40 : decode cL_turns 40 = .ok (.iaload, 1) := by decide +kernel
theorem dL_turns_41 : decode cL_turns 41 = .ok (.invokestatic 23, 3) := by decide +kernel
theorem dL_turns_44 : decode cL_turns 44 = .ok (.istore 4, 2) := by decide +kernel
theorem dL_turns_46 : decode cL_turns 46 = .ok (.iload 4, 2) := by decide +kernel
theorem dL_turns_48 : decode cL_turns 48 = .ok (.ifCond .lt 19, 3) := by decide +kernel
theorem dL_turns_51 : decode cL_turns 51 = .ok (.aload_n 0, 1) := by decide +kernel
theorem dL_turns_52 : decode cL_turns 52 = .ok (.aload_n 2, 1) := by decide +kernel
theorem dL_turns_53 : decode cL_turns 53 = .ok (.iload 4, 2) := by decide +kernel
theorem dL_turns_55 : decode cL_turns 55 = .ok (.invokestatic 27, 3) := by decide +kernel
theorem dL_turns_58 : decode cL_turns 58 = .ok (.bipush (-5), 2) := by decide +kernel
theorem dL_turns_60 : decode cL_turns 60 = .ok (.if_icmp .ne 7, 3) := by decide +kernel
theorem dL_turns_63 : decode cL_turns 63 = .ok (.iconst 1, 1) := by decide +kernel
theorem dL_turns_64 : decode cL_turns 64 = .ok (.goto 4, 3) := by decide +kernel
theorem dL_turns_67 : decode cL_turns 67 = .ok (.iconst 0, 1) := by decide +kernel
theorem dL_turns_68 : decode cL_turns 68 = .ok (.istore 5, 2) := by decide +kernel
theorem dL_turns_70 : decode cL_turns 70 = .ok (.aload_n 2, 1) := by decide +kernel
theorem dL_turns_71 : decode cL_turns 71 = .ok (.iconst 3, 1) := by decide +kernel
theorem dL_turns_72 : decode cL_turns 72 = .ok (.dup2, 1) := by decide +kernel
theorem dL_turns_73 : decode cL_turns 73 = .ok (.iaload, 1) := by decide +kernel
theorem dL_turns_74 : decode cL_turns 74 = .ok (.iload 5, 2) := by decide +kernel
theorem dL_turns_76 : decode cL_turns 76 = .ok (.ifCond .eq 7, 3) := by decide +kernel
theorem dL_turns_79 : decode cL_turns 79 = .ok (.iconst 1, 1) := by decide +kernel
theorem dL_turns_80 : decode cL_turns 80 = .ok (.goto 4, 3) := by decide +kernel
theorem dL_turns_83 : decode cL_turns 83 = .ok (.iconst 0, 1) := by decide +kernel
theorem dL_turns_84 : decode cL_turns 84 = .ok (.iadd, 1) := by decide +kernel
theorem dL_turns_85 : decode cL_turns 85 = .ok (.iastore, 1) := by decide +kernel
theorem dL_turns_86 : decode cL_turns 86 = .ok (.aload_n 2, 1) := by decide +kernel
theorem dL_turns_87 : decode cL_turns 87 = .ok (.iconst 4, 1) := by decide +kernel
theorem dL_turns_88 : decode cL_turns 88 = .ok (.dup2, 1) := by decide +kernel
theorem dL_turns_89 : decode cL_turns 89 = .ok (.iaload, 1) := by decide +kernel
theorem dL_turns_90 : decode cL_turns 90 = .ok (.iload 5, 2) := by decide +kernel
theorem dL_turns_92 : decode cL_turns 92 = .ok (.ifCond .ne 15, 3) := by decide +kernel
theorem dL_turns_95 : decode cL_turns 95 = .ok (.aload_n 0, 1) := by decide +kernel
theorem dL_turns_96 : decode cL_turns 96 = .ok (.bipush 7, 2) := by decide +kernel
theorem dL_turns_98 : decode cL_turns 98 = .ok (.iload_n 3, 1) := by decide +kernel
theorem dL_turns_99 : decode cL_turns 99 = .ok (.imul, 1) := by decide +kernel
theorem dL_turns_100 : decode cL_turns 100 = .ok (.iconst 2, 1) := by decide +kernel
theorem dL_turns_101 : decode cL_turns 101 = .ok (.iadd, 1) := by decide +kernel
theorem dL_turns_102 : decode cL_turns 102 = .ok (.iaload, 1) := by decide +kernel
theorem dL_turns_103 : decode cL_turns 103 = .ok (.iconst 4, 1) := by decide +kernel
theorem dL_turns_104 : decode cL_turns 104 = .ok (.if_icmp .ne 7, 3) := by decide +kernel
theorem dL_turns_107 : decode cL_turns 107 = .ok (.iconst 0, 1) := by decide +kernel
theorem dL_turns_108 : decode cL_turns 108 = .ok (.goto 4, 3) := by decide +kernel
theorem dL_turns_111 : decode cL_turns 111 = .ok (.iconst 1, 1) := by decide +kernel
theorem dL_turns_112 : decode cL_turns 112 = .ok (.iadd, 1) := by decide +kernel
theorem dL_turns_113 : decode cL_turns 113 = .ok (.iastore, 1) := by decide +kernel
theorem dL_turns_114 : decode cL_turns 114 = .ok (.aload_n 0, 1) := by decide +kernel
theorem dL_turns_115 : decode cL_turns 115 = .ok (.bipush 7, 2) := by decide +kernel
theorem dL_turns_117 : decode cL_turns 117 = .ok (.iload_n 3, 1) := by decide +kernel
theorem dL_turns_118 : decode cL_turns 118 = .ok (.imul, 1) := by decide +kernel
theorem dL_turns_119 : decode cL_turns 119 = .ok (.iload 5, 2) := by decide +kernel
theorem dL_turns_121 : decode cL_turns 121 = .ok (.ifCond .eq 8, 3) := by decide +kernel
theorem dL_turns_124 : decode cL_turns 124 = .ok (.iload 4, 2) := by decide +kernel
theorem dL_turns_126 : decode cL_turns 126 = .ok (.goto 9, 3) := by decide +kernel
theorem dL_turns_129 : decode cL_turns 129 = .ok (.aload_n 0, 1) := by decide +kernel
theorem dL_turns_130 : decode cL_turns 130 = .ok (.bipush 7, 2) := by decide +kernel
theorem dL_turns_132 : decode cL_turns 132 = .ok (.iload_n 3, 1) := by decide +kernel
theorem dL_turns_133 : decode cL_turns 133 = .ok (.imul, 1) := by decide +kernel
theorem dL_turns_134 : decode cL_turns 134 = .ok (.iaload, 1) := by decide +kernel
theorem dL_turns_135 : decode cL_turns 135 = .ok (.iastore, 1) := by decide +kernel
theorem dL_turns_136 : decode cL_turns 136 = .ok (.iinc 3 1, 3) := by decide +kernel
theorem dL_turns_139 : decode cL_turns 139 = .ok (.goto (-137), 3) := by decide +kernel
theorem dL_turns_142 : decode cL_turns 142 = .ok (.aload_n 0, 1) := by decide +kernel
theorem dL_turns_143 : decode cL_turns 143 = .ok (.aload_n 1, 1) := by decide +kernel
theorem dL_turns_144 : decode cL_turns 144 = .ok (.aload_n 2, 1) := by decide +kernel
theorem dL_turns_145 : decode cL_turns 145 = .ok (.invokestatic 31, 3) := by decide +kernel
theorem dL_turns_148 : decode cL_turns 148 = .ok (.istore_n 3, 1) := by decide +kernel
theorem dL_turns_149 : decode cL_turns 149 = .ok (.iload_n 3, 1) := by decide +kernel
theorem dL_turns_150 : decode cL_turns 150 = .ok (.ifCond .lt 56, 3) := by decide +kernel
theorem dL_turns_153 : decode cL_turns 153 = .ok (.aload_n 0, 1) := by decide +kernel
theorem dL_turns_154 : decode cL_turns 154 = .ok (.bipush 7, 2) := by decide +kernel
theorem dL_turns_156 : decode cL_turns 156 = .ok (.iload_n 3, 1) := by decide +kernel
theorem dL_turns_157 : decode cL_turns 157 = .ok (.imul, 1) := by decide +kernel
theorem dL_turns_158 : decode cL_turns 158 = .ok (.iconst 4, 1) := by decide +kernel
theorem dL_turns_159 : decode cL_turns 159 = .ok (.iadd, 1) := by decide +kernel
theorem dL_turns_160 : decode cL_turns 160 = .ok (.dup2, 1) := by decide +kernel
theorem dL_turns_161 : decode cL_turns 161 = .ok (.iaload, 1) := by decide +kernel
theorem dL_turns_162 : decode cL_turns 162 = .ok (.iconst 1, 1) := by decide +kernel
theorem dL_turns_163 : decode cL_turns 163 = .ok (.iadd, 1) := by decide +kernel
theorem dL_turns_164 : decode cL_turns 164 = .ok (.iastore, 1) := by decide +kernel
theorem dL_turns_165 : decode cL_turns 165 = .ok (.aload_n 0, 1) := by decide +kernel
theorem dL_turns_166 : decode cL_turns 166 = .ok (.bipush 7, 2) := by decide +kernel
theorem dL_turns_168 : decode cL_turns 168 = .ok (.aload_n 2, 1) := by decide +kernel
theorem dL_turns_169 : decode cL_turns 169 = .ok (.iconst 1, 1) := by decide +kernel
theorem dL_turns_170 : decode cL_turns 170 = .ok (.iaload, 1) := by decide +kernel
theorem dL_turns_171 : decode cL_turns 171 = .ok (.imul, 1) := by decide +kernel
theorem dL_turns_172 : decode cL_turns 172 = .ok (.iconst 5, 1) := by decide +kernel
theorem dL_turns_173 : decode cL_turns 173 = .ok (.iadd, 1) := by decide +kernel
theorem dL_turns_174 : decode cL_turns 174 = .ok (.dup2, 1) := by decide +kernel
theorem dL_turns_175 : decode cL_turns 175 = .ok (.iaload, 1) := by decide +kernel
theorem dL_turns_176 : decode cL_turns 176 = .ok (.iconst 1, 1) := by decide +kernel
theorem dL_turns_177 : decode cL_turns 177 = .ok (.iadd, 1) := by decide +kernel
theorem dL_turns_178 : decode cL_turns 178 = .ok (.iastore, 1) := by decide +kernel
theorem dL_turns_179 : decode cL_turns 179 = .ok (.aload_n 0, 1) := by decide +kernel
theorem dL_turns_180 : decode cL_turns 180 = .ok (.bipush 7, 2) := by decide +kernel
theorem dL_turns_182 : decode cL_turns 182 = .ok (.aload_n 2, 1) := by decide +kernel
theorem dL_turns_183 : decode cL_turns 183 = .ok (.iconst 1, 1) := by decide +kernel
theorem dL_turns_184 : decode cL_turns 184 = .ok (.iaload, 1) := by decide +kernel
theorem dL_turns_185 : decode cL_turns 185 = .ok (.imul, 1) := by decide +kernel
theorem dL_turns_186 : decode cL_turns 186 = .ok (.iconst 3, 1) := by decide +kernel
theorem dL_turns_187 : decode cL_turns 187 = .ok (.iadd, 1) := by decide +kernel
theorem dL_turns_188 : decode cL_turns 188 = .ok (.aload_n 2, 1) := by decide +kernel
theorem dL_turns_189 : decode cL_turns 189 = .ok (.bipush 6, 2) := by decide +kernel
theorem dL_turns_191 : decode cL_turns 191 = .ok (.iaload, 1) := by decide +kernel
theorem dL_turns_192 : decode cL_turns 192 = .ok (.iconst 1, 1) := by decide +kernel
theorem dL_turns_193 : decode cL_turns 193 = .ok (.iadd, 1) := by decide +kernel
theorem dL_turns_194 : decode cL_turns 194 = .ok (.iastore, 1) := by decide +kernel
theorem dL_turns_195 : decode cL_turns 195 = .ok (.aload_n 2, 1) := by decide +kernel
theorem dL_turns_196 : decode cL_turns 196 = .ok (.iconst 1, 1) := by decide +kernel
theorem dL_turns_197 : decode cL_turns 197 = .ok (.iload_n 3, 1) := by decide +kernel
theorem dL_turns_198 : decode cL_turns 198 = .ok (.iastore, 1) := by decide +kernel
theorem dL_turns_199 : decode cL_turns 199 = .ok (.aload_n 2, 1) := by decide +kernel
theorem dL_turns_200 : decode cL_turns 200 = .ok (.iconst 2, 1) := by decide +kernel
theorem dL_turns_201 : decode cL_turns 201 = .ok (.dup2, 1) := by decide +kernel
theorem dL_turns_202 : decode cL_turns 202 = .ok (.iaload, 1) := by decide +kernel
theorem dL_turns_203 : decode cL_turns 203 = .ok (.iconst 1, 1) := by decide +kernel
theorem dL_turns_204 : decode cL_turns 204 = .ok (.iadd, 1) := by decide +kernel
theorem dL_turns_205 : decode cL_turns 205 = .ok (.iastore, 1) := by decide +kernel
theorem dL_turns_206 : decode cL_turns 206 = .ok (.aload_n 2, 1) := by decide +kernel
theorem dL_turns_207 : decode cL_turns 207 = .ok (.iconst 0, 1) := by decide +kernel
theorem dL_turns_208 : decode cL_turns 208 = .ok (.dup2, 1) := by decide +kernel
theorem dL_turns_209 : decode cL_turns 209 = .ok (.iaload, 1) := by decide +kernel
theorem dL_turns_210 : decode cL_turns 210 = .ok (.iconst 1, 1) := by decide +kernel
theorem dL_turns_211 : decode cL_turns 211 = .ok (.iadd, 1) := by decide +kernel
theorem dL_turns_212 : decode cL_turns 212 = .ok (.iastore, 1) := by decide +kernel
theorem dL_turns_213 : decode cL_turns 213 = .ok (.iconst 0, 1) := by decide +kernel
theorem dL_turns_214 : decode cL_turns 214 = .ok (.istore 4, 2) := by decide +kernel
theorem dL_turns_216 : decode cL_turns 216 = .ok (.iload 4, 2) := by decide +kernel
theorem dL_turns_218 : decode cL_turns 218 = .ok (.aload_n 2, 1) := by decide +kernel
theorem dL_turns_219 : decode cL_turns 219 = .ok (.bipush 8, 2) := by decide +kernel
theorem dL_turns_221 : decode cL_turns 221 = .ok (.iaload, 1) := by decide +kernel
theorem dL_turns_222 : decode cL_turns 222 = .ok (.if_icmp .ge 64, 3) := by decide +kernel
theorem dL_turns_225 : decode cL_turns 225 = .ok (.aload_n 0, 1) := by decide +kernel
theorem dL_turns_226 : decode cL_turns 226 = .ok (.bipush 7, 2) := by decide +kernel
theorem dL_turns_228 : decode cL_turns 228 = .ok (.iload 4, 2) := by decide +kernel
theorem dL_turns_230 : decode cL_turns 230 = .ok (.imul, 1) := by decide +kernel
theorem dL_turns_231 : decode cL_turns 231 = .ok (.iconst 3, 1) := by decide +kernel
theorem dL_turns_232 : decode cL_turns 232 = .ok (.iadd, 1) := by decide +kernel
theorem dL_turns_233 : decode cL_turns 233 = .ok (.dup2, 1) := by decide +kernel
theorem dL_turns_234 : decode cL_turns 234 = .ok (.iaload, 1) := by decide +kernel
theorem dL_turns_235 : decode cL_turns 235 = .ok (.aload_n 0, 1) := by decide +kernel
theorem dL_turns_236 : decode cL_turns 236 = .ok (.bipush 7, 2) := by decide +kernel
theorem dL_turns_238 : decode cL_turns 238 = .ok (.iload 4, 2) := by decide +kernel
theorem dL_turns_240 : decode cL_turns 240 = .ok (.imul, 1) := by decide +kernel
theorem dL_turns_241 : decode cL_turns 241 = .ok (.iconst 3, 1) := by decide +kernel
theorem dL_turns_242 : decode cL_turns 242 = .ok (.iadd, 1) := by decide +kernel
theorem dL_turns_243 : decode cL_turns 243 = .ok (.iaload, 1) := by decide +kernel
theorem dL_turns_244 : decode cL_turns 244 = .ok (.ifCond .le 7, 3) := by decide +kernel
theorem dL_turns_247 : decode cL_turns 247 = .ok (.iconst 1, 1) := by decide +kernel
theorem dL_turns_248 : decode cL_turns 248 = .ok (.goto 4, 3) := by decide +kernel
theorem dL_turns_251 : decode cL_turns 251 = .ok (.iconst 0, 1) := by decide +kernel
theorem dL_turns_252 : decode cL_turns 252 = .ok (.isub, 1) := by decide +kernel
theorem dL_turns_253 : decode cL_turns 253 = .ok (.iastore, 1) := by decide +kernel
theorem dL_turns_254 : decode cL_turns 254 = .ok (.aload_n 0, 1) := by decide +kernel
theorem dL_turns_255 : decode cL_turns 255 = .ok (.bipush 7, 2) := by decide +kernel
theorem dL_turns_257 : decode cL_turns 257 = .ok (.iload 4, 2) := by decide +kernel
theorem dL_turns_259 : decode cL_turns 259 = .ok (.imul, 1) := by decide +kernel
theorem dL_turns_260 : decode cL_turns 260 = .ok (.bipush 6, 2) := by decide +kernel
theorem dL_turns_262 : decode cL_turns 262 = .ok (.iadd, 1) := by decide +kernel
theorem dL_turns_263 : decode cL_turns 263 = .ok (.dup2, 1) := by decide +kernel
theorem dL_turns_264 : decode cL_turns 264 = .ok (.iaload, 1) := by decide +kernel
theorem dL_turns_265 : decode cL_turns 265 = .ok (.iload 4, 2) := by decide +kernel
theorem dL_turns_267 : decode cL_turns 267 = .ok (.aload_n 2, 1) := by decide +kernel
theorem dL_turns_268 : decode cL_turns 268 = .ok (.iconst 1, 1) := by decide +kernel
theorem dL_turns_269 : decode cL_turns 269 = .ok (.iaload, 1) := by decide +kernel
theorem dL_turns_270 : decode cL_turns 270 = .ok (.if_icmp .ne 7, 3) := by decide +kernel
theorem dL_turns_273 : decode cL_turns 273 = .ok (.iconst 0, 1) := by decide +kernel
theorem dL_turns_274 : decode cL_turns 274 = .ok (.goto 4, 3) := by decide +kernel
theorem dL_turns_277 : decode cL_turns 277 = .ok (.iconst 1, 1) := by decide +kernel
theorem dL_turns_278 : decode cL_turns 278 = .ok (.iadd, 1) := by decide +kernel
theorem dL_turns_279 : decode cL_turns 279 = .ok (.iastore, 1) := by decide +kernel
theorem dL_turns_280 : decode cL_turns 280 = .ok (.iinc 4 1, 3) := by decide +kernel
theorem dL_turns_283 : decode cL_turns 283 = .ok (.goto (-67), 3) := by decide +kernel
theorem dL_turns_286 : decode cL_turns 286 = .ok (.iconst 0, 1) := by decide +kernel
theorem dL_turns_287 : decode cL_turns 287 = .ok (.istore 4, 2) := by decide +kernel
theorem dL_turns_289 : decode cL_turns 289 = .ok (.iload 4, 2) := by decide +kernel
theorem dL_turns_291 : decode cL_turns 291 = .ok (.bipush 12, 2) := by decide +kernel
theorem dL_turns_293 : decode cL_turns 293 = .ok (.if_icmp .ge 50, 3) := by decide +kernel
theorem dL_turns_296 : decode cL_turns 296 = .ok (.aload_n 1, 1) := by decide +kernel
theorem dL_turns_297 : decode cL_turns 297 = .ok (.iload 4, 2) := by decide +kernel
theorem dL_turns_299 : decode cL_turns 299 = .ok (.aload_n 1, 1) := by decide +kernel
theorem dL_turns_300 : decode cL_turns 300 = .ok (.iload 4, 2) := by decide +kernel
theorem dL_turns_302 : decode cL_turns 302 = .ok (.iconst 2, 1) := by decide +kernel
theorem dL_turns_303 : decode cL_turns 303 = .ok (.iadd, 1) := by decide +kernel
theorem dL_turns_304 : decode cL_turns 304 = .ok (.iaload, 1) := by decide +kernel
theorem dL_turns_305 : decode cL_turns 305 = .ok (.ifCond .le 27, 3) := by decide +kernel
theorem dL_turns_308 : decode cL_turns 308 = .ok (.aload_n 2, 1) := by decide +kernel
theorem dL_turns_309 : decode cL_turns 309 = .ok (.iconst 0, 1) := by decide +kernel
theorem dL_turns_310 : decode cL_turns 310 = .ok (.iaload, 1) := by decide +kernel
theorem dL_turns_311 : decode cL_turns 311 = .ok (.aload_n 1, 1) := by decide +kernel
theorem dL_turns_312 : decode cL_turns 312 = .ok (.iload 4, 2) := by decide +kernel
theorem dL_turns_314 : decode cL_turns 314 = .ok (.iconst 2, 1) := by decide +kernel
theorem dL_turns_315 : decode cL_turns 315 = .ok (.iadd, 1) := by decide +kernel
theorem dL_turns_316 : decode cL_turns 316 = .ok (.iaload, 1) := by decide +kernel
theorem dL_turns_317 : decode cL_turns 317 = .ok (.irem, 1) := by decide +kernel
theorem dL_turns_318 : decode cL_turns 318 = .ok (.ifCond .ne 14, 3) := by decide +kernel
theorem dL_turns_321 : decode cL_turns 321 = .ok (.aload_n 1, 1) := by decide +kernel
theorem dL_turns_322 : decode cL_turns 322 = .ok (.iload 4, 2) := by decide +kernel
theorem dL_turns_324 : decode cL_turns 324 = .ok (.iaload, 1) := by decide +kernel
theorem dL_turns_325 : decode cL_turns 325 = .ok (.iconst 1, 1) := by decide +kernel
theorem dL_turns_326 : decode cL_turns 326 = .ok (.iadd, 1) := by decide +kernel
theorem dL_turns_327 : decode cL_turns 327 = .ok (.iconst 4, 1) := by decide +kernel
theorem dL_turns_328 : decode cL_turns 328 = .ok (.irem, 1) := by decide +kernel
theorem dL_turns_329 : decode cL_turns 329 = .ok (.goto 7, 3) := by decide +kernel
theorem dL_turns_332 : decode cL_turns 332 = .ok (.aload_n 1, 1) := by decide +kernel
theorem dL_turns_333 : decode cL_turns 333 = .ok (.iload 4, 2) := by decide +kernel
theorem dL_turns_335 : decode cL_turns 335 = .ok (.iaload, 1) := by decide +kernel
theorem dL_turns_336 : decode cL_turns 336 = .ok (.iastore, 1) := by decide +kernel
theorem dL_turns_337 : decode cL_turns 337 = .ok (.iinc 4 4, 3) := by decide +kernel
theorem dL_turns_340 : decode cL_turns 340 = .ok (.goto (-51), 3) := by decide +kernel
theorem dL_turns_343 : decode cL_turns 343 = .ok (.aload_n 2, 1) := by decide +kernel
theorem dL_turns_344 : decode cL_turns 344 = .ok (.bipush 7, 2) := by decide +kernel
theorem dL_turns_346 : decode cL_turns 346 = .ok (.iaload, 1) := by decide +kernel
theorem dL_turns_347 : decode cL_turns 347 = .ok (.ifCond .le 112, 3) := by decide +kernel
theorem dL_turns_350 : decode cL_turns 350 = .ok (.aload_n 2, 1) := by decide +kernel
theorem dL_turns_351 : decode cL_turns 351 = .ok (.iconst 0, 1) := by decide +kernel
theorem dL_turns_352 : decode cL_turns 352 = .ok (.iaload, 1) := by decide +kernel
theorem dL_turns_353 : decode cL_turns 353 = .ok (.aload_n 2, 1) := by decide +kernel
theorem dL_turns_354 : decode cL_turns 354 = .ok (.bipush 7, 2) := by decide +kernel
theorem dL_turns_356 : decode cL_turns 356 = .ok (.iaload, 1) := by decide +kernel
theorem dL_turns_357 : decode cL_turns 357 = .ok (.irem, 1) := by decide +kernel
theorem dL_turns_358 : decode cL_turns 358 = .ok (.ifCond .ne 101, 3) := by decide +kernel
theorem dL_turns_361 : decode cL_turns 361 = .ok (.iconst 0, 1) := by decide +kernel
theorem dL_turns_362 : decode cL_turns 362 = .ok (.istore 4, 2) := by decide +kernel
theorem dL_turns_364 : decode cL_turns 364 = .ok (.iload 4, 2) := by decide +kernel
theorem dL_turns_366 : decode cL_turns 366 = .ok (.aload_n 2, 1) := by decide +kernel
theorem dL_turns_367 : decode cL_turns 367 = .ok (.bipush 8, 2) := by decide +kernel
theorem dL_turns_369 : decode cL_turns 369 = .ok (.iaload, 1) := by decide +kernel
theorem dL_turns_370 : decode cL_turns 370 = .ok (.if_icmp .ge 82, 3) := by decide +kernel
theorem dL_turns_373 : decode cL_turns 373 = .ok (.aload_n 0, 1) := by decide +kernel
theorem dL_turns_374 : decode cL_turns 374 = .ok (.bipush 7, 2) := by decide +kernel
theorem dL_turns_376 : decode cL_turns 376 = .ok (.iload 4, 2) := by decide +kernel
theorem dL_turns_378 : decode cL_turns 378 = .ok (.imul, 1) := by decide +kernel
theorem dL_turns_379 : decode cL_turns 379 = .ok (.bipush 10, 2) := by decide +kernel
theorem dL_turns_381 : decode cL_turns 381 = .ok (.aload_n 0, 1) := by decide +kernel
theorem dL_turns_382 : decode cL_turns 382 = .ok (.bipush 7, 2) := by decide +kernel
theorem dL_turns_384 : decode cL_turns 384 = .ok (.iload 4, 2) := by decide +kernel
theorem dL_turns_386 : decode cL_turns 386 = .ok (.imul, 1) := by decide +kernel
theorem dL_turns_387 : decode cL_turns 387 = .ok (.iaload, 1) := by decide +kernel
theorem dL_turns_388 : decode cL_turns 388 = .ok (.bipush 10, 2) := by decide +kernel
theorem dL_turns_390 : decode cL_turns 390 = .ok (.irem, 1) := by decide +kernel
theorem dL_turns_391 : decode cL_turns 391 = .ok (.imul, 1) := by decide +kernel
theorem dL_turns_392 : decode cL_turns 392 = .ok (.bipush 9, 2) := by decide +kernel
theorem dL_turns_394 : decode cL_turns 394 = .ok (.iadd, 1) := by decide +kernel
theorem dL_turns_395 : decode cL_turns 395 = .ok (.aload_n 0, 1) := by decide +kernel
theorem dL_turns_396 : decode cL_turns 396 = .ok (.bipush 7, 2) := by decide +kernel
theorem dL_turns_398 : decode cL_turns 398 = .ok (.iload 4, 2) := by decide +kernel
theorem dL_turns_400 : decode cL_turns 400 = .ok (.imul, 1) := by decide +kernel
theorem dL_turns_401 : decode cL_turns 401 = .ok (.iaload, 1) := by decide +kernel
theorem dL_turns_402 : decode cL_turns 402 = .ok (.bipush 10, 2) := by decide +kernel
theorem dL_turns_404 : decode cL_turns 404 = .ok (.idiv, 1) := by decide +kernel
theorem dL_turns_405 : decode cL_turns 405 = .ok (.isub, 1) := by decide +kernel
theorem dL_turns_406 : decode cL_turns 406 = .ok (.iastore, 1) := by decide +kernel
theorem dL_turns_407 : decode cL_turns 407 = .ok (.aload_n 0, 1) := by decide +kernel
theorem dL_turns_408 : decode cL_turns 408 = .ok (.bipush 7, 2) := by decide +kernel
theorem dL_turns_410 : decode cL_turns 410 = .ok (.iload 4, 2) := by decide +kernel
theorem dL_turns_412 : decode cL_turns 412 = .ok (.imul, 1) := by decide +kernel
theorem dL_turns_413 : decode cL_turns 413 = .ok (.iconst 2, 1) := by decide +kernel
theorem dL_turns_414 : decode cL_turns 414 = .ok (.iadd, 1) := by decide +kernel
theorem dL_turns_415 : decode cL_turns 415 = .ok (.aload_n 0, 1) := by decide +kernel
theorem dL_turns_416 : decode cL_turns 416 = .ok (.bipush 7, 2) := by decide +kernel
theorem dL_turns_418 : decode cL_turns 418 = .ok (.iload 4, 2) := by decide +kernel
theorem dL_turns_420 : decode cL_turns 420 = .ok (.imul, 1) := by decide +kernel
theorem dL_turns_421 : decode cL_turns 421 = .ok (.iconst 2, 1) := by decide +kernel
theorem dL_turns_422 : decode cL_turns 422 = .ok (.iadd, 1) := by decide +kernel
theorem dL_turns_423 : decode cL_turns 423 = .ok (.iaload, 1) := by decide +kernel
theorem dL_turns_424 : decode cL_turns 424 = .ok (.iconst 4, 1) := by decide +kernel
theorem dL_turns_425 : decode cL_turns 425 = .ok (.if_icmp .ne 7, 3) := by decide +kernel
theorem dL_turns_428 : decode cL_turns 428 = .ok (.iconst 4, 1) := by decide +kernel
theorem dL_turns_429 : decode cL_turns 429 = .ok (.goto 16, 3) := by decide +kernel
theorem dL_turns_432 : decode cL_turns 432 = .ok (.aload_n 0, 1) := by decide +kernel
theorem dL_turns_433 : decode cL_turns 433 = .ok (.bipush 7, 2) := by decide +kernel
theorem dL_turns_435 : decode cL_turns 435 = .ok (.iload 4, 2) := by decide +kernel
theorem dL_turns_437 : decode cL_turns 437 = .ok (.imul, 1) := by decide +kernel
theorem dL_turns_438 : decode cL_turns 438 = .ok (.iconst 2, 1) := by decide +kernel
theorem dL_turns_439 : decode cL_turns 439 = .ok (.iadd, 1) := by decide +kernel
theorem dL_turns_440 : decode cL_turns 440 = .ok (.iaload, 1) := by decide +kernel
theorem dL_turns_441 : decode cL_turns 441 = .ok (.iconst 1, 1) := by decide +kernel
theorem dL_turns_442 : decode cL_turns 442 = .ok (.iadd, 1) := by decide +kernel
theorem dL_turns_443 : decode cL_turns 443 = .ok (.iconst 4, 1) := by decide +kernel
theorem dL_turns_444 : decode cL_turns 444 = .ok (.irem, 1) := by decide +kernel
theorem dL_turns_445 : decode cL_turns 445 = .ok (.iastore, 1) := by decide +kernel
theorem dL_turns_446 : decode cL_turns 446 = .ok (.iinc 4 1, 3) := by decide +kernel
theorem dL_turns_449 : decode cL_turns 449 = .ok (.goto (-85), 3) := by decide +kernel
theorem dL_turns_452 : decode cL_turns 452 = .ok (.aload_n 2, 1) := by decide +kernel
theorem dL_turns_453 : decode cL_turns 453 = .ok (.iconst 5, 1) := by decide +kernel
theorem dL_turns_454 : decode cL_turns 454 = .ok (.dup2, 1) := by decide +kernel
theorem dL_turns_455 : decode cL_turns 455 = .ok (.iaload, 1) := by decide +kernel
theorem dL_turns_456 : decode cL_turns 456 = .ok (.iconst 1, 1) := by decide +kernel
theorem dL_turns_457 : decode cL_turns 457 = .ok (.iadd, 1) := by decide +kernel
theorem dL_turns_458 : decode cL_turns 458 = .ok (.iastore, 1) := by decide +kernel
theorem dL_turns_459 : decode cL_turns 459 = .ok (.return_, 1) := by decide +kernel
theorem dL_areRunners_0 : decode cL_areRunners 0 = .ok (.aload_n 0, 1) := by decide +kernel
theorem dL_areRunners_1 : decode cL_areRunners 1 = .ok (.aload_n 3, 1) := by decide +kernel
theorem dL_areRunners_2 : decode cL_areRunners 2 = .ok (.bipush 8, 2) := by decide +kernel
theorem dL_areRunners_4 : decode cL_areRunners 4 = .ok (.iaload, 1) := by decide +kernel
theorem dL_areRunners_5 : decode cL_areRunners 5 = .ok (.iconst 0, 1) := by decide +kernel
theorem dL_areRunners_6 : decode cL_areRunners 6 = .ok (.invokevirtual 35, 3) := by decide +kernel
theorem dL_areRunners_9 : decode cL_areRunners 9 = .ok (.iconst (-1), 1) := by decide +kernel
theorem dL_areRunners_10 : decode cL_areRunners 10 = .ok (.if_icmp .ne 42, 3) := by decide +kernel
theorem dL_areRunners_13 : decode cL_areRunners 13 = .ok (.aload_n 0, 1) := by decide +kernel
theorem dL_areRunners_14 : decode cL_areRunners 14 = .ok (.iconst 1, 1) := by decide +kernel
theorem dL_areRunners_15 : decode cL_areRunners 15 = .ok (.invokevirtual 40, 3) := by decide +kernel
theorem dL_areRunners_18 : decode cL_areRunners 18 = .ok (.aload_n 3, 1) := by decide +kernel
theorem dL_areRunners_19 : decode cL_areRunners 19 = .ok (.bipush 8, 2) := by decide +kernel
theorem dL_areRunners_21 : decode cL_areRunners 21 = .ok (.iaload, 1) := by decide +kernel
theorem dL_areRunners_22 : decode cL_areRunners 22 = .ok (.if_icmp .ne 30, 3) := by decide +kernel
theorem dL_areRunners_25 : decode cL_areRunners 25 = .ok (.aload_n 0, 1) := by decide +kernel
theorem dL_areRunners_26 : decode cL_areRunners 26 = .ok (.iconst 2, 1) := by decide +kernel
theorem dL_areRunners_27 : decode cL_areRunners 27 = .ok (.invokevirtual 40, 3) := by decide +kernel
theorem dL_areRunners_30 : decode cL_areRunners 30 = .ok (.aload_n 3, 1) := by decide +kernel
theorem dL_areRunners_31 : decode cL_areRunners 31 = .ok (.bipush 8, 2) := by decide +kernel
theorem dL_areRunners_33 : decode cL_areRunners 33 = .ok (.iaload, 1) := by decide +kernel
theorem dL_areRunners_34 : decode cL_areRunners 34 = .ok (.ifCond .ne 8, 3) := by decide +kernel
theorem dL_areRunners_37 : decode cL_areRunners 37 = .ok (.bipush (-5), 2) := by decide +kernel
theorem dL_areRunners_39 : decode cL_areRunners 39 = .ok (.goto 6, 3) := by decide +kernel
theorem dL_areRunners_42 : decode cL_areRunners 42 = .ok (.aload_n 3, 1) := by decide +kernel
theorem dL_areRunners_43 : decode cL_areRunners 43 = .ok (.iconst 1, 1) := by decide +kernel
theorem dL_areRunners_44 : decode cL_areRunners 44 = .ok (.iaload, 1) := by decide +kernel
theorem dL_areRunners_45 : decode cL_areRunners 45 = .ok (.if_icmp .ne 7, 3) := by decide +kernel
theorem dL_areRunners_48 : decode cL_areRunners 48 = .ok (.iconst 1, 1) := by decide +kernel
theorem dL_areRunners_49 : decode cL_areRunners 49 = .ok (.goto 4, 3) := by decide +kernel
theorem dL_areRunners_52 : decode cL_areRunners 52 = .ok (.iconst 0, 1) := by decide +kernel
theorem dL_areRunners_53 : decode cL_areRunners 53 = .ok (.istore 4, 2) := by decide +kernel
theorem dL_areRunners_55 : decode cL_areRunners 55 = .ok (.iconst 0, 1) := by decide +kernel
theorem dL_areRunners_56 : decode cL_areRunners 56 = .ok (.istore 5, 2) := by decide +kernel
theorem dL_areRunners_58 : decode cL_areRunners 58 = .ok (.iconst 0, 1) := by decide +kernel
theorem dL_areRunners_59 : decode cL_areRunners 59 = .ok (.istore 6, 2) := by decide +kernel
theorem dL_areRunners_61 : decode cL_areRunners 61 = .ok (.iconst 0, 1) := by decide +kernel
theorem dL_areRunners_62 : decode cL_areRunners 62 = .ok (.istore 7, 2) := by decide +kernel
theorem dL_areRunners_64 : decode cL_areRunners 64 = .ok (.iconst 0, 1) := by decide +kernel
theorem dL_areRunners_65 : decode cL_areRunners 65 = .ok (.istore 8, 2) := by decide +kernel
theorem dL_areRunners_67 : decode cL_areRunners 67 = .ok (.iload 8, 2) := by decide +kernel
theorem dL_areRunners_69 : decode cL_areRunners 69 = .ok (.aload_n 3, 1) := by decide +kernel
theorem dL_areRunners_70 : decode cL_areRunners 70 = .ok (.bipush 8, 2) := by decide +kernel
theorem dL_areRunners_72 : decode cL_areRunners 72 = .ok (.iaload, 1) := by decide +kernel
theorem dL_areRunners_73 : decode cL_areRunners 73 = .ok (.if_icmp .ge 282, 3) := by decide +kernel
theorem dL_areRunners_76 : decode cL_areRunners 76 = .ok (.iload 4, 2) := by decide +kernel
theorem dL_areRunners_78 : decode cL_areRunners 78 = .ok (.ifCond .eq 277, 3) := by decide +kernel
theorem dL_areRunners_81 : decode cL_areRunners 81 = .ok (.iconst 0, 1) := by decide +kernel
theorem dL_areRunners_82 : decode cL_areRunners 82 = .ok (.istore 9, 2) := by decide +kernel
theorem dL_areRunners_84 : decode cL_areRunners 84 = .ok (.iload 9, 2) := by decide +kernel
theorem dL_areRunners_86 : decode cL_areRunners 86 = .ok (.bipush 7, 2) := by decide +kernel
theorem dL_areRunners_88 : decode cL_areRunners 88 = .ok (.if_icmp .ge 42, 3) := by decide +kernel
theorem dL_areRunners_91 : decode cL_areRunners 91 = .ok (.iload 4, 2) := by decide +kernel
theorem dL_areRunners_93 : decode cL_areRunners 93 = .ok (.ifCond .eq 28, 3) := by decide +kernel
theorem dL_areRunners_96 : decode cL_areRunners 96 = .ok (.aload_n 0, 1) := by decide +kernel
theorem dL_areRunners_97 : decode cL_areRunners 97 = .ok (.iload 8, 2) := by decide +kernel
theorem dL_areRunners_99 : decode cL_areRunners 99 = .ok (.iload 9, 2) := by decide +kernel
theorem dL_areRunners_101 : decode cL_areRunners 101 = .ok (.invokevirtual 35, 3) := by decide +kernel
theorem dL_areRunners_104 : decode cL_areRunners 104 = .ok (.aload_n 1, 1) := by decide +kernel
theorem dL_areRunners_105 : decode cL_areRunners 105 = .ok (.bipush 7, 2) := by decide +kernel
theorem dL_areRunners_107 : decode cL_areRunners 107 = .ok (.iload 8, 2) := by decide +kernel
theorem dL_areRunners_109 : decode cL_areRunners 109 = .ok (.imul, 1) := by decide +kernel
theorem dL_areRunners_110 : decode cL_areRunners 110 = .ok (.iload 9, 2) := by decide +kernel
theorem dL_areRunners_112 : decode cL_areRunners 112 = .ok (.iadd, 1) := by decide +kernel
theorem dL_areRunners_113 : decode cL_areRunners 113 = .ok (.iaload, 1) := by decide +kernel
theorem dL_areRunners_114 : decode cL_areRunners 114 = .ok (.if_icmp .ne 7, 3) := by decide +kernel
theorem dL_areRunners_117 : decode cL_areRunners 117 = .ok (.iconst 1, 1) := by decide +kernel
theorem dL_areRunners_118 : decode cL_areRunners 118 = .ok (.goto 4, 3) := by decide +kernel
theorem dL_areRunners_121 : decode cL_areRunners 121 = .ok (.iconst 0, 1) := by decide +kernel
theorem dL_areRunners_122 : decode cL_areRunners 122 = .ok (.istore 4, 2) := by decide +kernel
theorem dL_areRunners_124 : decode cL_areRunners 124 = .ok (.iinc 9 1, 3) := by decide +kernel
theorem dL_areRunners_127 : decode cL_areRunners 127 = .ok (.goto (-43), 3) := by decide +kernel
theorem dL_areRunners_130 : decode cL_areRunners 130 = .ok (.aload_n 1, 1) := by decide +kernel
theorem dL_areRunners_131 : decode cL_areRunners 131 = .ok (.aload_n 2, 1) := by decide +kernel
theorem dL_areRunners_132 : decode cL_areRunners 132 = .ok (.aload_n 3, 1) := by decide +kernel
theorem dL_areRunners_133 : decode cL_areRunners 133 = .ok (.iload 8, 2) := by decide +kernel
theorem dL_areRunners_135 : decode cL_areRunners 135 = .ok (.invokestatic 44, 3) := by decide +kernel
theorem dL_areRunners_138 : decode cL_areRunners 138 = .ok (.istore 9, 2) := by decide +kernel
theorem dL_areRunners_140 : decode cL_areRunners 140 = .ok (.iload 4, 2) := by decide +kernel
theorem dL_areRunners_142 : decode cL_areRunners 142 = .ok (.ifCond .eq 49, 3) := by decide +kernel
theorem dL_areRunners_145 : decode cL_areRunners 145 = .ok (.aload_n 0, 1) := by decide +kernel
theorem dL_areRunners_146 : decode cL_areRunners 146 = .ok (.iload 8, 2) := by decide +kernel
theorem dL_areRunners_148 : decode cL_areRunners 148 = .ok (.bipush 7, 2) := by decide +kernel
theorem dL_areRunners_150 : decode cL_areRunners 150 = .ok (.invokevirtual 35, 3) := by decide +kernel
theorem dL_areRunners_153 : decode cL_areRunners 153 = .ok (.iload 9, 2) := by decide +kernel
theorem dL_areRunners_155 : decode cL_areRunners 155 = .ok (.if_icmp .ne 36, 3) := by decide +kernel
theorem dL_areRunners_158 : decode cL_areRunners 158 = .ok (.aload_n 0, 1) := by decide +kernel
theorem dL_areRunners_159 : decode cL_areRunners 159 = .ok (.iload 8, 2) := by decide +kernel
theorem dL_areRunners_161 : decode cL_areRunners 161 = .ok (.bipush 8, 2) := by decide +kernel
theorem dL_areRunners_163 : decode cL_areRunners 163 = .ok (.invokevirtual 35, 3) := by decide +kernel
theorem dL_areRunners_166 : decode cL_areRunners 166 = .ok (.bipush (-2), 2) := by decide +kernel
theorem dL_areRunners_168 : decode cL_areRunners 168 = .ok (.if_icmp .ne 23, 3) := by decide +kernel
theorem dL_areRunners_171 : decode cL_areRunners 171 = .ok (.aload_n 0, 1) := by decide +kernel
theorem dL_areRunners_172 : decode cL_areRunners 172 = .ok (.aload_n 1, 1) := by decide +kernel
theorem dL_areRunners_173 : decode cL_areRunners 173 = .ok (.bipush 7, 2) := by decide +kernel
theorem dL_areRunners_175 : decode cL_areRunners 175 = .ok (.iload 8, 2) := by decide +kernel
theorem dL_areRunners_177 : decode cL_areRunners 177 = .ok (.imul, 1) := by decide +kernel
theorem dL_areRunners_178 : decode cL_areRunners 178 = .ok (.iaload, 1) := by decide +kernel
theorem dL_areRunners_179 : decode cL_areRunners 179 = .ok (.invokevirtual 48, 3) := by decide +kernel
theorem dL_areRunners_182 : decode cL_areRunners 182 = .ok (.iload 8, 2) := by decide +kernel
theorem dL_areRunners_184 : decode cL_areRunners 184 = .ok (.if_icmp .ne 7, 3) := by decide +kernel
theorem dL_areRunners_187 : decode cL_areRunners 187 = .ok (.iconst 1, 1) := by decide +kernel
theorem dL_areRunners_188 : decode cL_areRunners 188 = .ok (.goto 4, 3) := by decide +kernel
theorem dL_areRunners_191 : decode cL_areRunners 191 = .ok (.iconst 0, 1) := by decide +kernel
theorem dL_areRunners_192 : decode cL_areRunners 192 = .ok (.istore 4, 2) := by decide +kernel
theorem dL_areRunners_194 : decode cL_areRunners 194 = .ok (.iload 5, 2) := by decide +kernel
theorem dL_areRunners_196 : decode cL_areRunners 196 = .ok (.iload 9, 2) := by decide +kernel
theorem dL_areRunners_198 : decode cL_areRunners 198 = .ok (.ifCond .ne 7, 3) := by decide +kernel
theorem dL_areRunners_201 : decode cL_areRunners 201 = .ok (.iconst 1, 1) := by decide +kernel
theorem dL_areRunners_202 : decode cL_areRunners 202 = .ok (.goto 4, 3) := by decide +kernel
theorem dL_areRunners_205 : decode cL_areRunners 205 = .ok (.iconst 0, 1) := by decide +kernel
theorem dL_areRunners_206 : decode cL_areRunners 206 = .ok (.iadd, 1) := by decide +kernel
theorem dL_areRunners_207 : decode cL_areRunners 207 = .ok (.istore 5, 2) := by decide +kernel
theorem dL_areRunners_209 : decode cL_areRunners 209 = .ok (.iload 6, 2) := by decide +kernel
theorem dL_areRunners_211 : decode cL_areRunners 211 = .ok (.aload_n 1, 1) := by decide +kernel
theorem dL_areRunners_212 : decode cL_areRunners 212 = .ok (.bipush 7, 2) := by decide +kernel
theorem dL_areRunners_214 : decode cL_areRunners 214 = .ok (.iload 8, 2) := by decide +kernel
theorem dL_areRunners_216 : decode cL_areRunners 216 = .ok (.imul, 1) := by decide +kernel
theorem dL_areRunners_217 : decode cL_areRunners 217 = .ok (.bipush 6, 2) := by decide +kernel
theorem dL_areRunners_219 : decode cL_areRunners 219 = .ok (.iadd, 1) := by decide +kernel
theorem dL_areRunners_220 : decode cL_areRunners 220 = .ok (.iaload, 1) := by decide +kernel
theorem dL_areRunners_221 : decode cL_areRunners 221 = .ok (.iadd, 1) := by decide +kernel
theorem dL_areRunners_222 : decode cL_areRunners 222 = .ok (.istore 6, 2) := by decide +kernel
theorem dL_areRunners_224 : decode cL_areRunners 224 = .ok (.iload 7, 2) := by decide +kernel
theorem dL_areRunners_226 : decode cL_areRunners 226 = .ok (.aload_n 1, 1) := by decide +kernel
theorem dL_areRunners_227 : decode cL_areRunners 227 = .ok (.bipush 7, 2) := by decide +kernel
theorem dL_areRunners_229 : decode cL_areRunners 229 = .ok (.iload 8, 2) := by decide +kernel
theorem dL_areRunners_231 : decode cL_areRunners 231 = .ok (.imul, 1) := by decide +kernel
theorem dL_areRunners_232 : decode cL_areRunners 232 = .ok (.iconst 4, 1) := by decide +kernel
theorem dL_areRunners_233 : decode cL_areRunners 233 = .ok (.iadd, 1) := by decide +kernel
theorem dL_areRunners_234 : decode cL_areRunners 234 = .ok (.iaload, 1) := by decide +kernel
theorem dL_areRunners_235 : decode cL_areRunners 235 = .ok (.aload_n 1, 1) := by decide +kernel
theorem dL_areRunners_236 : decode cL_areRunners 236 = .ok (.bipush 7, 2) := by decide +kernel
theorem dL_areRunners_238 : decode cL_areRunners 238 = .ok (.iload 8, 2) := by decide +kernel
theorem dL_areRunners_240 : decode cL_areRunners 240 = .ok (.imul, 1) := by decide +kernel
theorem dL_areRunners_241 : decode cL_areRunners 241 = .ok (.iconst 5, 1) := by decide +kernel
theorem dL_areRunners_242 : decode cL_areRunners 242 = .ok (.iadd, 1) := by decide +kernel
theorem dL_areRunners_243 : decode cL_areRunners 243 = .ok (.iaload, 1) := by decide +kernel
theorem dL_areRunners_244 : decode cL_areRunners 244 = .ok (.isub, 1) := by decide +kernel
theorem dL_areRunners_245 : decode cL_areRunners 245 = .ok (.iadd, 1) := by decide +kernel
theorem dL_areRunners_246 : decode cL_areRunners 246 = .ok (.istore 7, 2) := by decide +kernel
theorem dL_areRunners_248 : decode cL_areRunners 248 = .ok (.iload 8, 2) := by decide +kernel
theorem dL_areRunners_250 : decode cL_areRunners 250 = .ok (.aload_n 3, 1) := by decide +kernel
theorem dL_areRunners_251 : decode cL_areRunners 251 = .ok (.iconst 1, 1) := by decide +kernel
theorem dL_areRunners_252 : decode cL_areRunners 252 = .ok (.iaload, 1) := by decide +kernel
theorem dL_areRunners_253 : decode cL_areRunners 253 = .ok (.if_icmp .ne 7, 3) := by decide +kernel
theorem dL_areRunners_256 : decode cL_areRunners 256 = .ok (.iconst 1, 1) := by decide +kernel
theorem dL_areRunners_257 : decode cL_areRunners 257 = .ok (.goto 67, 3) := by decide +kernel
theorem dL_areRunners_260 : decode cL_areRunners 260 = .ok (.iload 9, 2) := by decide +kernel
theorem dL_areRunners_262 : decode cL_areRunners 262 = .ok (.ifCond .ne 7, 3) := by decide +kernel
theorem dL_areRunners_265 : decode cL_areRunners 265 = .ok (.iconst 2, 1) := by decide +kernel
theorem dL_areRunners_266 : decode cL_areRunners 266 = .ok (.goto 58, 3) := by decide +kernel
theorem dL_areRunners_269 : decode cL_areRunners 269 = .ok (.aload_n 1, 1) := by decide +kernel
theorem dL_areRunners_270 : decode cL_areRunners 270 = .ok (.bipush 7, 2) := by decide +kernel
theorem dL_areRunners_272 : decode cL_areRunners 272 = .ok (.iload 8, 2) := by decide +kernel
theorem dL_areRunners_274 : decode cL_areRunners 274 = .ok (.imul, 1) := by decide +kernel
theorem dL_areRunners_275 : decode cL_areRunners 275 = .ok (.iconst 3, 1) := by decide +kernel
theorem dL_areRunners_276 : decode cL_areRunners 276 = .ok (.iadd, 1) := by decide +kernel
theorem dL_areRunners_277 : decode cL_areRunners 277 = .ok (.iaload, 1) := by decide +kernel
theorem dL_areRunners_278 : decode cL_areRunners 278 = .ok (.ifCond .le 7, 3) := by decide +kernel
theorem dL_areRunners_281 : decode cL_areRunners 281 = .ok (.iconst 3, 1) := by decide +kernel
theorem dL_areRunners_282 : decode cL_areRunners 282 = .ok (.goto 42, 3) := by decide +kernel
theorem dL_areRunners_285 : decode cL_areRunners 285 = .ok (.aload_n 1, 1) := by decide +kernel
theorem dL_areRunners_286 : decode cL_areRunners 286 = .ok (.aload_n 2, 1) := by decide +kernel
theorem dL_areRunners_287 : decode cL_areRunners 287 = .ok (.aload_n 3, 1) := by decide +kernel
theorem dL_areRunners_288 : decode cL_areRunners 288 = .ok (.iload 8, 2) := by decide +kernel
theorem dL_areRunners_290 : decode cL_areRunners 290 = .ok (.aload_n 1, 1) := by decide +kernel
theorem dL_areRunners_291 : decode cL_areRunners 291 = .ok (.bipush 7, 2) := by decide +kernel
theorem dL_areRunners_293 : decode cL_areRunners 293 = .ok (.aload_n 3, 1) := by decide +kernel
theorem dL_areRunners_294 : decode cL_areRunners 294 = .ok (.iconst 1, 1) := by decide +kernel
theorem dL_areRunners_295 : decode cL_areRunners 295 = .ok (.iaload, 1) := by decide +kernel
theorem dL_areRunners_296 : decode cL_areRunners 296 = .ok (.imul, 1) := by decide +kernel
theorem dL_areRunners_297 : decode cL_areRunners 297 = .ok (.iaload, 1) := by decide +kernel
theorem dL_areRunners_298 : decode cL_areRunners 298 = .ok (.invokestatic 19, 3) := by decide +kernel
theorem dL_areRunners_301 : decode cL_areRunners 301 = .ok (.ifCond .ne 7, 3) := by decide +kernel
theorem dL_areRunners_304 : decode cL_areRunners 304 = .ok (.iconst 4, 1) := by decide +kernel
theorem dL_areRunners_305 : decode cL_areRunners 305 = .ok (.goto 19, 3) := by decide +kernel
theorem dL_areRunners_308 : decode cL_areRunners 308 = .ok (.aload_n 1, 1) := by decide +kernel
theorem dL_areRunners_309 : decode cL_areRunners 309 = .ok (.aload_n 2, 1) := by decide +kernel
theorem dL_areRunners_310 : decode cL_areRunners 310 = .ok (.aload_n 3, 1) := by decide +kernel
theorem dL_areRunners_311 : decode cL_areRunners 311 = .ok (.invokestatic 31, 3) := by decide +kernel
theorem dL_areRunners_314 : decode cL_areRunners 314 = .ok (.iload 8, 2) := by decide +kernel
theorem dL_areRunners_316 : decode cL_areRunners 316 = .ok (.if_icmp .ne 7, 3) := by decide +kernel
theorem dL_areRunners_319 : decode cL_areRunners 319 = .ok (.iconst 0, 1) := by decide +kernel
theorem dL_areRunners_320 : decode cL_areRunners 320 = .ok (.goto 4, 3) := by decide +kernel
theorem dL_areRunners_323 : decode cL_areRunners 323 = .ok (.iconst 5, 1) := by decide +kernel
theorem dL_areRunners_324 : decode cL_areRunners 324 = .ok (.istore 10, 2) := by decide +kernel
theorem dL_areRunners_326 : decode cL_areRunners 326 = .ok (.iload 4, 2) := by decide +kernel
theorem dL_areRunners_328 : decode cL_areRunners 328 = .ok (.ifCond .eq 18, 3) := by decide +kernel
theorem dL_areRunners_331 : decode cL_areRunners 331 = .ok (.aload_n 0, 1) := by decide +kernel
theorem dL_areRunners_332 : decode cL_areRunners 332 = .ok (.iload 8, 2) := by decide +kernel
theorem dL_areRunners_334 : decode cL_areRunners 334 = .ok (.invokevirtual 51, 3) := by decide +kernel
theorem dL_areRunners_337 : decode cL_areRunners 337 = .ok (.iload 10, 2) := by decide +kernel
theorem dL_areRunners_339 : decode cL_areRunners 339 = .ok (.if_icmp .ne 7, 3) := by decide +kernel
theorem dL_areRunners_342 : decode cL_areRunners 342 = .ok (.iconst 1, 1) := by decide +kernel
theorem dL_areRunners_343 : decode cL_areRunners 343 = .ok (.goto 4, 3) := by decide +kernel
theorem dL_areRunners_346 : decode cL_areRunners 346 = .ok (.iconst 0, 1) := by decide +kernel
theorem dL_areRunners_347 : decode cL_areRunners 347 = .ok (.istore 4, 2) := by decide +kernel
theorem dL_areRunners_349 : decode cL_areRunners 349 = .ok (.iinc 8 1, 3) := by decide +kernel
theorem dL_areRunners_352 : decode cL_areRunners 352 = .ok (.goto (-285), 3) := by decide +kernel
theorem dL_areRunners_355 : decode cL_areRunners 355 = .ok (.iload 4, 2) := by decide +kernel
theorem dL_areRunners_357 : decode cL_areRunners 357 = .ok (.ifCond .eq 123, 3) := by decide +kernel
theorem dL_areRunners_360 : decode cL_areRunners 360 = .ok (.iload 7, 2) := by decide +kernel
theorem dL_areRunners_362 : decode cL_areRunners 362 = .ok (.ifCond .ne 118, 3) := by decide +kernel
theorem dL_areRunners_365 : decode cL_areRunners 365 = .ok (.iload 6, 2) := by decide +kernel
theorem dL_areRunners_367 : decode cL_areRunners 367 = .ok (.ifCond .lt 113, 3) := by decide +kernel
theorem dL_areRunners_370 : decode cL_areRunners 370 = .ok (.aload_n 0, 1) := by decide +kernel
theorem dL_areRunners_371 : decode cL_areRunners 371 = .ok (.iconst 0, 1) := by decide +kernel
theorem dL_areRunners_372 : decode cL_areRunners 372 = .ok (.invokevirtual 40, 3) := by decide +kernel
theorem dL_areRunners_375 : decode cL_areRunners 375 = .ok (.aload_n 3, 1) := by decide +kernel
theorem dL_areRunners_376 : decode cL_areRunners 376 = .ok (.iconst 0, 1) := by decide +kernel
theorem dL_areRunners_377 : decode cL_areRunners 377 = .ok (.iaload, 1) := by decide +kernel
theorem dL_areRunners_378 : decode cL_areRunners 378 = .ok (.if_icmp .ne 102, 3) := by decide +kernel
theorem dL_areRunners_381 : decode cL_areRunners 381 = .ok (.aload_n 0, 1) := by decide +kernel
theorem dL_areRunners_382 : decode cL_areRunners 382 = .ok (.iconst 5, 1) := by decide +kernel
theorem dL_areRunners_383 : decode cL_areRunners 383 = .ok (.invokevirtual 40, 3) := by decide +kernel
theorem dL_areRunners_386 : decode cL_areRunners 386 = .ok (.iload 5, 2) := by decide +kernel
theorem dL_areRunners_388 : decode cL_areRunners 388 = .ok (.if_icmp .ne 92, 3) := by decide +kernel
theorem dL_areRunners_391 : decode cL_areRunners 391 = .ok (.aload_n 0, 1) := by decide +kernel
theorem dL_areRunners_392 : decode cL_areRunners 392 = .ok (.bipush 6, 2) := by decide +kernel
theorem dL_areRunners_394 : decode cL_areRunners 394 = .ok (.invokevirtual 40, 3) := by decide +kernel
theorem dL_areRunners_397 : decode cL_areRunners 397 = .ok (.aload_n 3, 1) := by decide +kernel
theorem dL_areRunners_398 : decode cL_areRunners 398 = .ok (.iconst 2, 1) := by decide +kernel
theorem dL_areRunners_399 : decode cL_areRunners 399 = .ok (.iaload, 1) := by decide +kernel
theorem dL_areRunners_400 : decode cL_areRunners 400 = .ok (.if_icmp .ne 80, 3) := by decide +kernel
theorem dL_areRunners_403 : decode cL_areRunners 403 = .ok (.aload_n 0, 1) := by decide +kernel
theorem dL_areRunners_404 : decode cL_areRunners 404 = .ok (.bipush 7, 2) := by decide +kernel
theorem dL_areRunners_406 : decode cL_areRunners 406 = .ok (.invokevirtual 40, 3) := by decide +kernel
theorem dL_areRunners_409 : decode cL_areRunners 409 = .ok (.aload_n 3, 1) := by decide +kernel
theorem dL_areRunners_410 : decode cL_areRunners 410 = .ok (.iconst 3, 1) := by decide +kernel
theorem dL_areRunners_411 : decode cL_areRunners 411 = .ok (.iaload, 1) := by decide +kernel
theorem dL_areRunners_412 : decode cL_areRunners 412 = .ok (.if_icmp .ne 68, 3) := by decide +kernel
theorem dL_areRunners_415 : decode cL_areRunners 415 = .ok (.aload_n 0, 1) := by decide +kernel
theorem dL_areRunners_416 : decode cL_areRunners 416 = .ok (.bipush 8, 2) := by decide +kernel
theorem dL_areRunners_418 : decode cL_areRunners 418 = .ok (.invokevirtual 40, 3) := by decide +kernel
theorem dL_areRunners_421 : decode cL_areRunners 421 = .ok (.aload_n 3, 1) := by decide +kernel
theorem dL_areRunners_422 : decode cL_areRunners 422 = .ok (.iconst 4, 1) := by decide +kernel
theorem dL_areRunners_423 : decode cL_areRunners 423 = .ok (.iaload, 1) := by decide +kernel
theorem dL_areRunners_424 : decode cL_areRunners 424 = .ok (.if_icmp .ne 56, 3) := by decide +kernel
theorem dL_areRunners_427 : decode cL_areRunners 427 = .ok (.aload_n 0, 1) := by decide +kernel
theorem dL_areRunners_428 : decode cL_areRunners 428 = .ok (.bipush 9, 2) := by decide +kernel
theorem dL_areRunners_430 : decode cL_areRunners 430 = .ok (.invokevirtual 40, 3) := by decide +kernel
theorem dL_areRunners_433 : decode cL_areRunners 433 = .ok (.aload_n 3, 1) := by decide +kernel
theorem dL_areRunners_434 : decode cL_areRunners 434 = .ok (.iconst 5, 1) := by decide +kernel
theorem dL_areRunners_435 : decode cL_areRunners 435 = .ok (.iaload, 1) := by decide +kernel
theorem dL_areRunners_436 : decode cL_areRunners 436 = .ok (.if_icmp .ne 44, 3) := by decide +kernel
theorem dL_areRunners_439 : decode cL_areRunners 439 = .ok (.aload_n 0, 1) := by decide +kernel
theorem dL_areRunners_440 : decode cL_areRunners 440 = .ok (.bipush 10, 2) := by decide +kernel
theorem dL_areRunners_442 : decode cL_areRunners 442 = .ok (.invokevirtual 40, 3) := by decide +kernel
theorem dL_areRunners_445 : decode cL_areRunners 445 = .ok (.aload_n 3, 1) := by decide +kernel
theorem dL_areRunners_446 : decode cL_areRunners 446 = .ok (.bipush 6, 2) := by decide +kernel
theorem dL_areRunners_448 : decode cL_areRunners 448 = .ok (.iaload, 1) := by decide +kernel
theorem dL_areRunners_449 : decode cL_areRunners 449 = .ok (.if_icmp .ne 31, 3) := by decide +kernel
theorem dL_areRunners_452 : decode cL_areRunners 452 = .ok (.aload_n 0, 1) := by decide +kernel
theorem dL_areRunners_453 : decode cL_areRunners 453 = .ok (.bipush 11, 2) := by decide +kernel
theorem dL_areRunners_455 : decode cL_areRunners 455 = .ok (.invokevirtual 40, 3) := by decide +kernel
theorem dL_areRunners_458 : decode cL_areRunners 458 = .ok (.aload_n 3, 1) := by decide +kernel
theorem dL_areRunners_459 : decode cL_areRunners 459 = .ok (.bipush 7, 2) := by decide +kernel
theorem dL_areRunners_461 : decode cL_areRunners 461 = .ok (.iaload, 1) := by decide +kernel
theorem dL_areRunners_462 : decode cL_areRunners 462 = .ok (.if_icmp .ne 18, 3) := by decide +kernel
theorem dL_areRunners_465 : decode cL_areRunners 465 = .ok (.aload_n 0, 1) := by decide +kernel
theorem dL_areRunners_466 : decode cL_areRunners 466 = .ok (.bipush 14, 2) := by decide +kernel
theorem dL_areRunners_468 : decode cL_areRunners 468 = .ok (.invokevirtual 40, 3) := by decide +kernel
theorem dL_areRunners_471 : decode cL_areRunners 471 = .ok (.bipush (-2), 2) := by decide +kernel
theorem dL_areRunners_473 : decode cL_areRunners 473 = .ok (.if_icmp .ne 7, 3) := by decide +kernel
theorem dL_areRunners_476 : decode cL_areRunners 476 = .ok (.iconst 1, 1) := by decide +kernel
theorem dL_areRunners_477 : decode cL_areRunners 477 = .ok (.goto 4, 3) := by decide +kernel
theorem dL_areRunners_480 : decode cL_areRunners 480 = .ok (.iconst 0, 1) := by decide +kernel
theorem dL_areRunners_481 : decode cL_areRunners 481 = .ok (.ireturn, 1) := by decide +kernel
theorem dL_areShadows_0 : decode cL_areShadows 0 = .ok (.iconst 0, 1) := by decide +kernel
theorem dL_areShadows_1 : decode cL_areShadows 1 = .ok (.istore 4, 2) := by decide +kernel
theorem dL_areShadows_3 : decode cL_areShadows 3 = .ok (.iconst 3, 1) := by decide +kernel
theorem dL_areShadows_4 : decode cL_areShadows 4 = .ok (.newarray .int, 2) := by decide +kernel
theorem dL_areShadows_6 : decode cL_areShadows 6 = .ok (.astore 5, 2) := by decide +kernel
theorem dL_areShadows_8 : decode cL_areShadows 8 = .ok (.aload_n 0, 1) := by decide +kernel
theorem dL_areShadows_9 : decode cL_areShadows 9 = .ok (.iconst 3, 1) := by decide +kernel
theorem dL_areShadows_10 : decode cL_areShadows 10 = .ok (.invokevirtual 40, 3) := by decide +kernel
theorem dL_areShadows_13 : decode cL_areShadows 13 = .ok (.aload_n 2, 1) := by decide +kernel
theorem dL_areShadows_14 : decode cL_areShadows 14 = .ok (.iconst 3, 1) := by decide +kernel
theorem dL_areShadows_15 : decode cL_areShadows 15 = .ok (.iaload, 1) := by decide +kernel
theorem dL_areShadows_16 : decode cL_areShadows 16 = .ok (.aload_n 2, 1) := by decide +kernel
theorem dL_areShadows_17 : decode cL_areShadows 17 = .ok (.bipush 7, 2) := by decide +kernel
theorem dL_areShadows_19 : decode cL_areShadows 19 = .ok (.iaload, 1) := by decide +kernel
theorem dL_areShadows_20 : decode cL_areShadows 20 = .ok (.iadd, 1) := by decide +kernel
theorem dL_areShadows_21 : decode cL_areShadows 21 = .ok (.aload_n 2, 1) := by decide +kernel
theorem dL_areShadows_22 : decode cL_areShadows 22 = .ok (.bipush 11, 2) := by decide +kernel
theorem dL_areShadows_24 : decode cL_areShadows 24 = .ok (.iaload, 1) := by decide +kernel
theorem dL_areShadows_25 : decode cL_areShadows 25 = .ok (.iadd, 1) := by decide +kernel
theorem dL_areShadows_26 : decode cL_areShadows 26 = .ok (.if_icmp .ne 7, 3) := by decide +kernel
theorem dL_areShadows_29 : decode cL_areShadows 29 = .ok (.iconst 1, 1) := by decide +kernel
theorem dL_areShadows_30 : decode cL_areShadows 30 = .ok (.goto 4, 3) := by decide +kernel
theorem dL_areShadows_33 : decode cL_areShadows 33 = .ok (.iconst 0, 1) := by decide +kernel
theorem dL_areShadows_34 : decode cL_areShadows 34 = .ok (.istore 6, 2) := by decide +kernel
theorem dL_areShadows_36 : decode cL_areShadows 36 = .ok (.iconst 0, 1) := by decide +kernel
theorem dL_areShadows_37 : decode cL_areShadows 37 = .ok (.istore 7, 2) := by decide +kernel
theorem dL_areShadows_39 : decode cL_areShadows 39 = .ok (.iload 7, 2) := by decide +kernel
theorem dL_areShadows_41 : decode cL_areShadows 41 = .ok (.bipush 100, 2) := by decide +kernel
theorem dL_areShadows_43 : decode cL_areShadows 43 = .ok (.if_icmp .ge 163, 3) := by decide +kernel
theorem dL_areShadows_46 : decode cL_areShadows 46 = .ok (.iload 6, 2) := by decide +kernel
theorem dL_areShadows_48 : decode cL_areShadows 48 = .ok (.ifCond .eq 158, 3) := by decide +kernel
theorem dL_areShadows_51 : decode cL_areShadows 51 = .ok (.iconst 0, 1) := by decide +kernel
theorem dL_areShadows_52 : decode cL_areShadows 52 = .ok (.istore 8, 2) := by decide +kernel
theorem dL_areShadows_54 : decode cL_areShadows 54 = .ok (.iconst 0, 1) := by decide +kernel
theorem dL_areShadows_55 : decode cL_areShadows 55 = .ok (.istore 9, 2) := by decide +kernel
theorem dL_areShadows_57 : decode cL_areShadows 57 = .ok (.iload 9, 2) := by decide +kernel
theorem dL_areShadows_59 : decode cL_areShadows 59 = .ok (.iconst 3, 1) := by decide +kernel
theorem dL_areShadows_60 : decode cL_areShadows 60 = .ok (.if_icmp .ge 80, 3) := by decide +kernel
theorem dL_areShadows_63 : decode cL_areShadows 63 = .ok (.iconst 0, 1) := by decide +kernel
theorem dL_areShadows_64 : decode cL_areShadows 64 = .ok (.istore 10, 2) := by decide +kernel
theorem dL_areShadows_66 : decode cL_areShadows 66 = .ok (.iconst 0, 1) := by decide +kernel
theorem dL_areShadows_67 : decode cL_areShadows 67 = .ok (.istore 11, 2) := by decide +kernel
theorem dL_areShadows_69 : decode cL_areShadows 69 = .ok (.iload 11, 2) := by decide +kernel
theorem dL_areShadows_71 : decode cL_areShadows 71 = .ok (.aload_n 3, 1) := by decide +kernel
theorem dL_areShadows_72 : decode cL_areShadows 72 = .ok (.bipush 8, 2) := by decide +kernel
theorem dL_areShadows_74 : decode cL_areShadows 74 = .ok (.iaload, 1) := by decide +kernel
theorem dL_areShadows_75 : decode cL_areShadows 75 = .ok (.if_icmp .ge 34, 3) := by decide +kernel
theorem dL_areShadows_78 : decode cL_areShadows 78 = .ok (.iload 10, 2) := by decide +kernel
theorem dL_areShadows_80 : decode cL_areShadows 80 = .ok (.aload_n 1, 1) := by decide +kernel
theorem dL_areShadows_81 : decode cL_areShadows 81 = .ok (.aload_n 2, 1) := by decide +kernel
theorem dL_areShadows_82 : decode cL_areShadows 82 = .ok (.aload_n 3, 1) := by decide +kernel
theorem dL_areShadows_83 : decode cL_areShadows 83 = .ok (.iload 11, 2) := by decide +kernel
theorem dL_areShadows_85 : decode cL_areShadows 85 = .ok (.iload 9, 2) := by decide +kernel
theorem dL_areShadows_87 : decode cL_areShadows 87 = .ok (.iload 7, 2) := by decide +kernel
theorem dL_areShadows_89 : decode cL_areShadows 89 = .ok (.invokestatic 15, 3) := by decide +kernel
theorem dL_areShadows_92 : decode cL_areShadows 92 = .ok (.ifCond .eq 7, 3) := by decide +kernel
theorem dL_areShadows_95 : decode cL_areShadows 95 = .ok (.iconst 1, 1) := by decide +kernel
theorem dL_areShadows_96 : decode cL_areShadows 96 = .ok (.goto 4, 3) := by decide +kernel
theorem dL_areShadows_99 : decode cL_areShadows 99 = .ok (.iconst 0, 1) := by decide +kernel
theorem dL_areShadows_100 : decode cL_areShadows 100 = .ok (.iadd, 1) := by decide +kernel
theorem dL_areShadows_101 : decode cL_areShadows 101 = .ok (.istore 10, 2) := by decide +kernel
theorem dL_areShadows_103 : decode cL_areShadows 103 = .ok (.iinc 11 1, 3) := by decide +kernel
theorem dL_areShadows_106 : decode cL_areShadows 106 = .ok (.goto (-37), 3) := by decide +kernel
theorem dL_areShadows_109 : decode cL_areShadows 109 = .ok (.iload 8, 2) := by decide +kernel
theorem dL_areShadows_111 : decode cL_areShadows 111 = .ok (.iload 10, 2) := by decide +kernel
theorem dL_areShadows_113 : decode cL_areShadows 113 = .ok (.iadd, 1) := by decide +kernel
theorem dL_areShadows_114 : decode cL_areShadows 114 = .ok (.istore 8, 2) := by decide +kernel
theorem dL_areShadows_116 : decode cL_areShadows 116 = .ok (.aload 5, 2) := by decide +kernel
theorem dL_areShadows_118 : decode cL_areShadows 118 = .ok (.iload 9, 2) := by decide +kernel
theorem dL_areShadows_120 : decode cL_areShadows 120 = .ok (.dup2, 1) := by decide +kernel
theorem dL_areShadows_121 : decode cL_areShadows 121 = .ok (.iaload, 1) := by decide +kernel
theorem dL_areShadows_122 : decode cL_areShadows 122 = .ok (.iload 10, 2) := by decide +kernel
theorem dL_areShadows_124 : decode cL_areShadows 124 = .ok (.ifCond .le 7, 3) := by decide +kernel
theorem dL_areShadows_127 : decode cL_areShadows 127 = .ok (.iconst 1, 1) := by decide +kernel
theorem dL_areShadows_128 : decode cL_areShadows 128 = .ok (.goto 4, 3) := by decide +kernel
theorem dL_areShadows_131 : decode cL_areShadows 131 = .ok (.iconst 0, 1) := by decide +kernel
theorem dL_areShadows_132 : decode cL_areShadows 132 = .ok (.iadd, 1) := by decide +kernel
theorem dL_areShadows_133 : decode cL_areShadows 133 = .ok (.iastore, 1) := by decide +kernel
theorem dL_areShadows_134 : decode cL_areShadows 134 = .ok (.iinc 9 1, 3) := by decide +kernel
theorem dL_areShadows_137 : decode cL_areShadows 137 = .ok (.goto (-80), 3) := by decide +kernel
theorem dL_areShadows_140 : decode cL_areShadows 140 = .ok (.iload 4, 2) := by decide +kernel
theorem dL_areShadows_142 : decode cL_areShadows 142 = .ok (.iload 8, 2) := by decide +kernel
theorem dL_areShadows_144 : decode cL_areShadows 144 = .ok (.ifCond .le 7, 3) := by decide +kernel
theorem dL_areShadows_147 : decode cL_areShadows 147 = .ok (.iconst 1, 1) := by decide +kernel
theorem dL_areShadows_148 : decode cL_areShadows 148 = .ok (.goto 4, 3) := by decide +kernel
theorem dL_areShadows_151 : decode cL_areShadows 151 = .ok (.iconst 0, 1) := by decide +kernel
theorem dL_areShadows_152 : decode cL_areShadows 152 = .ok (.iadd, 1) := by decide +kernel
theorem dL_areShadows_153 : decode cL_areShadows 153 = .ok (.istore 4, 2) := by decide +kernel
theorem dL_areShadows_155 : decode cL_areShadows 155 = .ok (.aload_n 0, 1) := by decide +kernel
theorem dL_areShadows_156 : decode cL_areShadows 156 = .ok (.iload 7, 2) := by decide +kernel
theorem dL_areShadows_158 : decode cL_areShadows 158 = .ok (.invokevirtual 54, 3) := by decide +kernel
theorem dL_areShadows_161 : decode cL_areShadows 161 = .ok (.iload 8, 2) := by decide +kernel
theorem dL_areShadows_163 : decode cL_areShadows 163 = .ok (.if_icmp .ne 34, 3) := by decide +kernel
theorem dL_areShadows_166 : decode cL_areShadows 166 = .ok (.aload_n 0, 1) := by decide +kernel
theorem dL_areShadows_167 : decode cL_areShadows 167 = .ok (.iload 7, 2) := by decide +kernel
theorem dL_areShadows_169 : decode cL_areShadows 169 = .ok (.invokevirtual 57, 3) := by decide +kernel
theorem dL_areShadows_172 : decode cL_areShadows 172 = .ok (.iload 8, 2) := by decide +kernel
theorem dL_areShadows_174 : decode cL_areShadows 174 = .ok (.if_icmp .ne 23, 3) := by decide +kernel
theorem dL_areShadows_177 : decode cL_areShadows 177 = .ok (.aload_n 0, 1) := by decide +kernel
theorem dL_areShadows_178 : decode cL_areShadows 178 = .ok (.iload 7, 2) := by decide +kernel
theorem dL_areShadows_180 : decode cL_areShadows 180 = .ok (.invokevirtual 48, 3) := by decide +kernel
theorem dL_areShadows_183 : decode cL_areShadows 183 = .ok (.aload_n 1, 1) := by decide +kernel
theorem dL_areShadows_184 : decode cL_areShadows 184 = .ok (.aload_n 3, 1) := by decide +kernel
theorem dL_areShadows_185 : decode cL_areShadows 185 = .ok (.iload 7, 2) := by decide +kernel
theorem dL_areShadows_187 : decode cL_areShadows 187 = .ok (.invokestatic 27, 3) := by decide +kernel
theorem dL_areShadows_190 : decode cL_areShadows 190 = .ok (.if_icmp .ne 7, 3) := by decide +kernel
theorem dL_areShadows_193 : decode cL_areShadows 193 = .ok (.iconst 1, 1) := by decide +kernel
theorem dL_areShadows_194 : decode cL_areShadows 194 = .ok (.goto 4, 3) := by decide +kernel
theorem dL_areShadows_197 : decode cL_areShadows 197 = .ok (.iconst 0, 1) := by decide +kernel
theorem dL_areShadows_198 : decode cL_areShadows 198 = .ok (.istore 6, 2) := by decide +kernel
theorem dL_areShadows_200 : decode cL_areShadows 200 = .ok (.iinc 7 1, 3) := by decide +kernel
theorem dL_areShadows_203 : decode cL_areShadows 203 = .ok (.goto (-164), 3) := by decide +kernel
theorem dL_areShadows_206 : decode cL_areShadows 206 = .ok (.iconst 0, 1) := by decide +kernel
theorem dL_areShadows_207 : decode cL_areShadows 207 = .ok (.istore 7, 2) := by decide +kernel
theorem dL_areShadows_209 : decode cL_areShadows 209 = .ok (.iload 7, 2) := by decide +kernel
theorem dL_areShadows_211 : decode cL_areShadows 211 = .ok (.iconst 3, 1) := by decide +kernel
theorem dL_areShadows_212 : decode cL_areShadows 212 = .ok (.if_icmp .ge 118, 3) := by decide +kernel
theorem dL_areShadows_215 : decode cL_areShadows 215 = .ok (.iload 6, 2) := by decide +kernel
theorem dL_areShadows_217 : decode cL_areShadows 217 = .ok (.ifCond .eq 104, 3) := by decide +kernel
theorem dL_areShadows_220 : decode cL_areShadows 220 = .ok (.aload_n 0, 1) := by decide +kernel
theorem dL_areShadows_221 : decode cL_areShadows 221 = .ok (.iload 7, 2) := by decide +kernel
theorem dL_areShadows_223 : decode cL_areShadows 223 = .ok (.iconst 0, 1) := by decide +kernel
theorem dL_areShadows_224 : decode cL_areShadows 224 = .ok (.invokevirtual 60, 3) := by decide +kernel
theorem dL_areShadows_227 : decode cL_areShadows 227 = .ok (.aload_n 2, 1) := by decide +kernel
theorem dL_areShadows_228 : decode cL_areShadows 228 = .ok (.iconst 4, 1) := by decide +kernel
theorem dL_areShadows_229 : decode cL_areShadows 229 = .ok (.iload 7, 2) := by decide +kernel
theorem dL_areShadows_231 : decode cL_areShadows 231 = .ok (.imul, 1) := by decide +kernel
theorem dL_areShadows_232 : decode cL_areShadows 232 = .ok (.iaload, 1) := by decide +kernel
theorem dL_areShadows_233 : decode cL_areShadows 233 = .ok (.if_icmp .ne 88, 3) := by decide +kernel
theorem dL_areShadows_236 : decode cL_areShadows 236 = .ok (.aload_n 0, 1) := by decide +kernel
theorem dL_areShadows_237 : decode cL_areShadows 237 = .ok (.iload 7, 2) := by decide +kernel
theorem dL_areShadows_239 : decode cL_areShadows 239 = .ok (.iconst 1, 1) := by decide +kernel
theorem dL_areShadows_240 : decode cL_areShadows 240 = .ok (.invokevirtual 60, 3) := by decide +kernel
theorem dL_areShadows_243 : decode cL_areShadows 243 = .ok (.aload_n 2, 1) := by decide +kernel
theorem dL_areShadows_244 : decode cL_areShadows 244 = .ok (.iconst 4, 1) := by decide +kernel
theorem dL_areShadows_245 : decode cL_areShadows 245 = .ok (.iload 7, 2) := by decide +kernel
theorem dL_areShadows_247 : decode cL_areShadows 247 = .ok (.imul, 1) := by decide +kernel
theorem dL_areShadows_248 : decode cL_areShadows 248 = .ok (.iconst 1, 1) := by decide +kernel
theorem dL_areShadows_249 : decode cL_areShadows 249 = .ok (.iadd, 1) := by decide +kernel
theorem dL_areShadows_250 : decode cL_areShadows 250 = .ok (.iaload, 1) := by decide +kernel
theorem dL_areShadows_251 : decode cL_areShadows 251 = .ok (.if_icmp .ne 70, 3) := by decide +kernel
theorem dL_areShadows_254 : decode cL_areShadows 254 = .ok (.aload_n 0, 1) := by decide +kernel
theorem dL_areShadows_255 : decode cL_areShadows 255 = .ok (.iload 7, 2) := by decide +kernel
theorem dL_areShadows_257 : decode cL_areShadows 257 = .ok (.iconst 2, 1) := by decide +kernel
theorem dL_areShadows_258 : decode cL_areShadows 258 = .ok (.invokevirtual 60, 3) := by decide +kernel
theorem dL_areShadows_261 : decode cL_areShadows 261 = .ok (.aload_n 2, 1) := by decide +kernel
theorem dL_areShadows_262 : decode cL_areShadows 262 = .ok (.iconst 4, 1) := by decide +kernel
theorem dL_areShadows_263 : decode cL_areShadows 263 = .ok (.iload 7, 2) := by decide +kernel
theorem dL_areShadows_265 : decode cL_areShadows 265 = .ok (.imul, 1) := by decide +kernel
theorem dL_areShadows_266 : decode cL_areShadows 266 = .ok (.iconst 2, 1) := by decide +kernel
theorem dL_areShadows_267 : decode cL_areShadows 267 = .ok (.iadd, 1) := by decide +kernel
theorem dL_areShadows_268 : decode cL_areShadows 268 = .ok (.iaload, 1) := by decide +kernel
theorem dL_areShadows_269 : decode cL_areShadows 269 = .ok (.if_icmp .ne 52, 3) := by decide +kernel
theorem dL_areShadows_272 : decode cL_areShadows 272 = .ok (.aload_n 0, 1) := by decide +kernel
theorem dL_areShadows_273 : decode cL_areShadows 273 = .ok (.iload 7, 2) := by decide +kernel
theorem dL_areShadows_275 : decode cL_areShadows 275 = .ok (.iconst 3, 1) := by decide +kernel
theorem dL_areShadows_276 : decode cL_areShadows 276 = .ok (.invokevirtual 60, 3) := by decide +kernel
theorem dL_areShadows_279 : decode cL_areShadows 279 = .ok (.aload_n 2, 1) := by decide +kernel
theorem dL_areShadows_280 : decode cL_areShadows 280 = .ok (.iconst 4, 1) := by decide +kernel
theorem dL_areShadows_281 : decode cL_areShadows 281 = .ok (.iload 7, 2) := by decide +kernel
theorem dL_areShadows_283 : decode cL_areShadows 283 = .ok (.imul, 1) := by decide +kernel
theorem dL_areShadows_284 : decode cL_areShadows 284 = .ok (.iconst 3, 1) := by decide +kernel
theorem dL_areShadows_285 : decode cL_areShadows 285 = .ok (.iadd, 1) := by decide +kernel
theorem dL_areShadows_286 : decode cL_areShadows 286 = .ok (.iaload, 1) := by decide +kernel
theorem dL_areShadows_287 : decode cL_areShadows 287 = .ok (.if_icmp .ne 34, 3) := by decide +kernel
theorem dL_areShadows_290 : decode cL_areShadows 290 = .ok (.aload_n 0, 1) := by decide +kernel
theorem dL_areShadows_291 : decode cL_areShadows 291 = .ok (.iload 7, 2) := by decide +kernel
theorem dL_areShadows_293 : decode cL_areShadows 293 = .ok (.iconst 4, 1) := by decide +kernel
theorem dL_areShadows_294 : decode cL_areShadows 294 = .ok (.invokevirtual 60, 3) := by decide +kernel
theorem dL_areShadows_297 : decode cL_areShadows 297 = .ok (.aload 5, 2) := by decide +kernel
theorem dL_areShadows_299 : decode cL_areShadows 299 = .ok (.iload 7, 2) := by decide +kernel
theorem dL_areShadows_301 : decode cL_areShadows 301 = .ok (.iaload, 1) := by decide +kernel
theorem dL_areShadows_302 : decode cL_areShadows 302 = .ok (.if_icmp .ne 19, 3) := by decide +kernel
theorem dL_areShadows_305 : decode cL_areShadows 305 = .ok (.aload_n 0, 1) := by decide +kernel
theorem dL_areShadows_306 : decode cL_areShadows 306 = .ok (.iload 7, 2) := by decide +kernel
theorem dL_areShadows_308 : decode cL_areShadows 308 = .ok (.iconst 5, 1) := by decide +kernel
theorem dL_areShadows_309 : decode cL_areShadows 309 = .ok (.invokevirtual 60, 3) := by decide +kernel
theorem dL_areShadows_312 : decode cL_areShadows 312 = .ok (.bipush (-2), 2) := by decide +kernel
theorem dL_areShadows_314 : decode cL_areShadows 314 = .ok (.if_icmp .ne 7, 3) := by decide +kernel
theorem dL_areShadows_317 : decode cL_areShadows 317 = .ok (.iconst 1, 1) := by decide +kernel
theorem dL_areShadows_318 : decode cL_areShadows 318 = .ok (.goto 4, 3) := by decide +kernel
theorem dL_areShadows_321 : decode cL_areShadows 321 = .ok (.iconst 0, 1) := by decide +kernel
theorem dL_areShadows_322 : decode cL_areShadows 322 = .ok (.istore 6, 2) := by decide +kernel
theorem dL_areShadows_324 : decode cL_areShadows 324 = .ok (.iinc 7 1, 3) := by decide +kernel
theorem dL_areShadows_327 : decode cL_areShadows 327 = .ok (.goto (-118), 3) := by decide +kernel
theorem dL_areShadows_330 : decode cL_areShadows 330 = .ok (.iload 6, 2) := by decide +kernel
theorem dL_areShadows_332 : decode cL_areShadows 332 = .ok (.ifCond .eq 17, 3) := by decide +kernel
theorem dL_areShadows_335 : decode cL_areShadows 335 = .ok (.aload_n 0, 1) := by decide +kernel
theorem dL_areShadows_336 : decode cL_areShadows 336 = .ok (.iconst 4, 1) := by decide +kernel
theorem dL_areShadows_337 : decode cL_areShadows 337 = .ok (.invokevirtual 40, 3) := by decide +kernel
theorem dL_areShadows_340 : decode cL_areShadows 340 = .ok (.iload 4, 2) := by decide +kernel
theorem dL_areShadows_342 : decode cL_areShadows 342 = .ok (.if_icmp .ne 7, 3) := by decide +kernel
theorem dL_areShadows_345 : decode cL_areShadows 345 = .ok (.iconst 1, 1) := by decide +kernel
theorem dL_areShadows_346 : decode cL_areShadows 346 = .ok (.goto 4, 3) := by decide +kernel
theorem dL_areShadows_349 : decode cL_areShadows 349 = .ok (.iconst 0, 1) := by decide +kernel
theorem dL_areShadows_350 : decode cL_areShadows 350 = .ok (.ireturn, 1) := by decide +kernel
theorem dL_isShadow_0 : decode cL_isShadow 0 = .ok (.iconst 0, 1) := by decide +kernel
theorem dL_isShadow_1 : decode cL_isShadow 1 = .ok (.istore 6, 2) := by decide +kernel
theorem dL_isShadow_3 : decode cL_isShadow 3 = .ok (.bipush (-5), 2) := by decide +kernel
theorem dL_isShadow_5 : decode cL_isShadow 5 = .ok (.istore 7, 2) := by decide +kernel
theorem dL_isShadow_7 : decode cL_isShadow 7 = .ok (.iconst 0, 1) := by decide +kernel
theorem dL_isShadow_8 : decode cL_isShadow 8 = .ok (.istore 8, 2) := by decide +kernel
theorem dL_isShadow_10 : decode cL_isShadow 10 = .ok (.iload 8, 2) := by decide +kernel
theorem dL_isShadow_12 : decode cL_isShadow 12 = .ok (.bipush 100, 2) := by decide +kernel
theorem dL_isShadow_14 : decode cL_isShadow 14 = .ok (.if_icmp .ge 104, 3) := by decide +kernel
theorem dL_isShadow_17 : decode cL_isShadow 17 = .ok (.aload_n 1, 1) := by decide +kernel
theorem dL_isShadow_18 : decode cL_isShadow 18 = .ok (.aload_n 2, 1) := by decide +kernel
theorem dL_isShadow_19 : decode cL_isShadow 19 = .ok (.aload_n 3, 1) := by decide +kernel
theorem dL_isShadow_20 : decode cL_isShadow 20 = .ok (.iload 4, 2) := by decide +kernel
theorem dL_isShadow_22 : decode cL_isShadow 22 = .ok (.iload 5, 2) := by decide +kernel
theorem dL_isShadow_24 : decode cL_isShadow 24 = .ok (.iload 8, 2) := by decide +kernel
theorem dL_isShadow_26 : decode cL_isShadow 26 = .ok (.invokestatic 15, 3) := by decide +kernel
theorem dL_isShadow_29 : decode cL_isShadow 29 = .ok (.istore 9, 2) := by decide +kernel
theorem dL_isShadow_31 : decode cL_isShadow 31 = .ok (.iload 6, 2) := by decide +kernel
theorem dL_isShadow_33 : decode cL_isShadow 33 = .ok (.iload 9, 2) := by decide +kernel
theorem dL_isShadow_35 : decode cL_isShadow 35 = .ok (.ifCond .eq 7, 3) := by decide +kernel
theorem dL_isShadow_38 : decode cL_isShadow 38 = .ok (.iconst 1, 1) := by decide +kernel
theorem dL_isShadow_39 : decode cL_isShadow 39 = .ok (.goto 4, 3) := by decide +kernel
theorem dL_isShadow_42 : decode cL_isShadow 42 = .ok (.iconst 0, 1) := by decide +kernel
theorem dL_isShadow_43 : decode cL_isShadow 43 = .ok (.iadd, 1) := by decide +kernel
theorem dL_isShadow_44 : decode cL_isShadow 44 = .ok (.istore 6, 2) := by decide +kernel
theorem dL_isShadow_46 : decode cL_isShadow 46 = .ok (.iload 9, 2) := by decide +kernel
theorem dL_isShadow_48 : decode cL_isShadow 48 = .ok (.ifCond .eq 60, 3) := by decide +kernel
theorem dL_isShadow_51 : decode cL_isShadow 51 = .ok (.iload 7, 2) := by decide +kernel
theorem dL_isShadow_53 : decode cL_isShadow 53 = .ok (.ifCond .lt 50, 3) := by decide +kernel
theorem dL_isShadow_56 : decode cL_isShadow 56 = .ok (.aload_n 1, 1) := by decide +kernel
theorem dL_isShadow_57 : decode cL_isShadow 57 = .ok (.bipush 7, 2) := by decide +kernel
theorem dL_isShadow_59 : decode cL_isShadow 59 = .ok (.iload 4, 2) := by decide +kernel
theorem dL_isShadow_61 : decode cL_isShadow 61 = .ok (.imul, 1) := by decide +kernel
theorem dL_isShadow_62 : decode cL_isShadow 62 = .ok (.iaload, 1) := by decide +kernel
theorem dL_isShadow_63 : decode cL_isShadow 63 = .ok (.iload 8, 2) := by decide +kernel
theorem dL_isShadow_65 : decode cL_isShadow 65 = .ok (.aload_n 2, 1) := by decide +kernel
theorem dL_isShadow_66 : decode cL_isShadow 66 = .ok (.iconst 4, 1) := by decide +kernel
theorem dL_isShadow_67 : decode cL_isShadow 67 = .ok (.iload 5, 2) := by decide +kernel
theorem dL_isShadow_69 : decode cL_isShadow 69 = .ok (.imul, 1) := by decide +kernel
theorem dL_isShadow_70 : decode cL_isShadow 70 = .ok (.iaload, 1) := by decide +kernel
theorem dL_isShadow_71 : decode cL_isShadow 71 = .ok (.iconst 2, 1) := by decide +kernel
theorem dL_isShadow_72 : decode cL_isShadow 72 = .ok (.iadd, 1) := by decide +kernel
theorem dL_isShadow_73 : decode cL_isShadow 73 = .ok (.iconst 4, 1) := by decide +kernel
theorem dL_isShadow_74 : decode cL_isShadow 74 = .ok (.irem, 1) := by decide +kernel
theorem dL_isShadow_75 : decode cL_isShadow 75 = .ok (.invokestatic 11, 3) := by decide +kernel
theorem dL_isShadow_78 : decode cL_isShadow 78 = .ok (.aload_n 1, 1) := by decide +kernel
theorem dL_isShadow_79 : decode cL_isShadow 79 = .ok (.bipush 7, 2) := by decide +kernel
theorem dL_isShadow_81 : decode cL_isShadow 81 = .ok (.iload 4, 2) := by decide +kernel
theorem dL_isShadow_83 : decode cL_isShadow 83 = .ok (.imul, 1) := by decide +kernel
theorem dL_isShadow_84 : decode cL_isShadow 84 = .ok (.iaload, 1) := by decide +kernel
theorem dL_isShadow_85 : decode cL_isShadow 85 = .ok (.iload 7, 2) := by decide +kernel
theorem dL_isShadow_87 : decode cL_isShadow 87 = .ok (.aload_n 2, 1) := by decide +kernel
theorem dL_isShadow_88 : decode cL_isShadow 88 = .ok (.iconst 4, 1) := by decide +kernel
theorem dL_isShadow_89 : decode cL_isShadow 89 = .ok (.iload 5, 2) := by decide +kernel
theorem dL_isShadow_91 : decode cL_isShadow 91 = .ok (.imul, 1) := by decide +kernel
theorem dL_isShadow_92 : decode cL_isShadow 92 = .ok (.iaload, 1) := by decide +kernel
theorem dL_isShadow_93 : decode cL_isShadow 93 = .ok (.iconst 2, 1) := by decide +kernel
theorem dL_isShadow_94 : decode cL_isShadow 94 = .ok (.iadd, 1) := by decide +kernel
theorem dL_isShadow_95 : decode cL_isShadow 95 = .ok (.iconst 4, 1) := by decide +kernel
theorem dL_isShadow_96 : decode cL_isShadow 96 = .ok (.irem, 1) := by decide +kernel
theorem dL_isShadow_97 : decode cL_isShadow 97 = .ok (.invokestatic 11, 3) := by decide +kernel
theorem dL_isShadow_100 : decode cL_isShadow 100 = .ok (.if_icmp .le 8, 3) := by decide +kernel
theorem dL_isShadow_103 : decode cL_isShadow 103 = .ok (.iload 8, 2) := by decide +kernel
theorem dL_isShadow_105 : decode cL_isShadow 105 = .ok (.goto 5, 3) := by decide +kernel
theorem dL_isShadow_108 : decode cL_isShadow 108 = .ok (.iload 7, 2) := by decide +kernel
theorem dL_isShadow_110 : decode cL_isShadow 110 = .ok (.istore 7, 2) := by decide +kernel
theorem dL_isShadow_112 : decode cL_isShadow 112 = .ok (.iinc 8 1, 3) := by decide +kernel
theorem dL_isShadow_115 : decode cL_isShadow 115 = .ok (.goto (-105), 3) := by decide +kernel
theorem dL_isShadow_118 : decode cL_isShadow 118 = .ok (.aload_n 0, 1) := by decide +kernel
theorem dL_isShadow_119 : decode cL_isShadow 119 = .ok (.iload 4, 2) := by decide +kernel
theorem dL_isShadow_121 : decode cL_isShadow 121 = .ok (.iload 5, 2) := by decide +kernel
theorem dL_isShadow_123 : decode cL_isShadow 123 = .ok (.iconst 0, 1) := by decide +kernel
theorem dL_isShadow_124 : decode cL_isShadow 124 = .ok (.invokevirtual 63, 3) := by decide +kernel
theorem dL_isShadow_127 : decode cL_isShadow 127 = .ok (.iload 6, 2) := by decide +kernel
theorem dL_isShadow_129 : decode cL_isShadow 129 = .ok (.if_icmp .ne 76, 3) := by decide +kernel
theorem dL_isShadow_132 : decode cL_isShadow 132 = .ok (.aload_n 0, 1) := by decide +kernel
theorem dL_isShadow_133 : decode cL_isShadow 133 = .ok (.iload 4, 2) := by decide +kernel
theorem dL_isShadow_135 : decode cL_isShadow 135 = .ok (.iload 5, 2) := by decide +kernel
theorem dL_isShadow_137 : decode cL_isShadow 137 = .ok (.iconst 1, 1) := by decide +kernel
theorem dL_isShadow_138 : decode cL_isShadow 138 = .ok (.invokevirtual 63, 3) := by decide +kernel
theorem dL_isShadow_141 : decode cL_isShadow 141 = .ok (.iload 7, 2) := by decide +kernel
theorem dL_isShadow_143 : decode cL_isShadow 143 = .ok (.if_icmp .ne 62, 3) := by decide +kernel
theorem dL_isShadow_146 : decode cL_isShadow 146 = .ok (.aload_n 0, 1) := by decide +kernel
theorem dL_isShadow_147 : decode cL_isShadow 147 = .ok (.iload 4, 2) := by decide +kernel
theorem dL_isShadow_149 : decode cL_isShadow 149 = .ok (.iload 5, 2) := by decide +kernel
theorem dL_isShadow_151 : decode cL_isShadow 151 = .ok (.iconst 2, 1) := by decide +kernel
theorem dL_isShadow_152 : decode cL_isShadow 152 = .ok (.invokevirtual 63, 3) := by decide +kernel
theorem dL_isShadow_155 : decode cL_isShadow 155 = .ok (.iload 7, 2) := by decide +kernel
theorem dL_isShadow_157 : decode cL_isShadow 157 = .ok (.ifCond .ge 8, 3) := by decide +kernel
theorem dL_isShadow_160 : decode cL_isShadow 160 = .ok (.bipush (-5), 2) := by decide +kernel
theorem dL_isShadow_162 : decode cL_isShadow 162 = .ok (.goto 10, 3) := by decide +kernel
theorem dL_isShadow_165 : decode cL_isShadow 165 = .ok (.aload_n 1, 1) := by decide +kernel
theorem dL_isShadow_166 : decode cL_isShadow 166 = .ok (.aload_n 3, 1) := by decide +kernel
theorem dL_isShadow_167 : decode cL_isShadow 167 = .ok (.iload 7, 2) := by decide +kernel
theorem dL_isShadow_169 : decode cL_isShadow 169 = .ok (.invokestatic 27, 3) := by decide +kernel
theorem dL_isShadow_172 : decode cL_isShadow 172 = .ok (.if_icmp .ne 33, 3) := by decide +kernel
theorem dL_isShadow_175 : decode cL_isShadow 175 = .ok (.aload_n 0, 1) := by decide +kernel
theorem dL_isShadow_176 : decode cL_isShadow 176 = .ok (.iload 4, 2) := by decide +kernel
theorem dL_isShadow_178 : decode cL_isShadow 178 = .ok (.iload 5, 2) := by decide +kernel
theorem dL_isShadow_180 : decode cL_isShadow 180 = .ok (.iconst 3, 1) := by decide +kernel
theorem dL_isShadow_181 : decode cL_isShadow 181 = .ok (.invokevirtual 63, 3) := by decide +kernel
theorem dL_isShadow_184 : decode cL_isShadow 184 = .ok (.bipush (-2), 2) := by decide +kernel
theorem dL_isShadow_186 : decode cL_isShadow 186 = .ok (.if_icmp .ne 19, 3) := by decide +kernel
theorem dL_isShadow_189 : decode cL_isShadow 189 = .ok (.aload_n 0, 1) := by decide +kernel
theorem dL_isShadow_190 : decode cL_isShadow 190 = .ok (.iload 4, 2) := by decide +kernel
theorem dL_isShadow_192 : decode cL_isShadow 192 = .ok (.iconst 3, 1) := by decide +kernel
theorem dL_isShadow_193 : decode cL_isShadow 193 = .ok (.iconst 0, 1) := by decide +kernel
theorem dL_isShadow_194 : decode cL_isShadow 194 = .ok (.invokevirtual 63, 3) := by decide +kernel
theorem dL_isShadow_197 : decode cL_isShadow 197 = .ok (.iconst (-1), 1) := by decide +kernel
theorem dL_isShadow_198 : decode cL_isShadow 198 = .ok (.if_icmp .ne 7, 3) := by decide +kernel
theorem dL_isShadow_201 : decode cL_isShadow 201 = .ok (.iconst 1, 1) := by decide +kernel
theorem dL_isShadow_202 : decode cL_isShadow 202 = .ok (.goto 4, 3) := by decide +kernel
theorem dL_isShadow_205 : decode cL_isShadow 205 = .ok (.iconst 0, 1) := by decide +kernel
theorem dL_isShadow_206 : decode cL_isShadow 206 = .ok (.ireturn, 1) := by decide +kernel
theorem dL_steps_0 : decode cL_steps 0 = .ok (.bipush 50, 2) := by decide +kernel
theorem dL_steps_2 : decode cL_steps 2 = .ok (.newarray .int, 2) := by decide +kernel
theorem dL_steps_4 : decode cL_steps 4 = .ok (.astore 4, 2) := by decide +kernel
theorem dL_steps_6 : decode cL_steps 6 = .ok (.bipush 50, 2) := by decide +kernel
theorem dL_steps_8 : decode cL_steps 8 = .ok (.newarray .int, 2) := by decide +kernel
theorem dL_steps_10 : decode cL_steps 10 = .ok (.astore 5, 2) := by decide +kernel
theorem dL_steps_12 : decode cL_steps 12 = .ok (.aload_n 0, 1) := by decide +kernel
theorem dL_steps_13 : decode cL_steps 13 = .ok (.bipush 7, 2) := by decide +kernel
theorem dL_steps_15 : decode cL_steps 15 = .ok (.aload_n 2, 1) := by decide +kernel
theorem dL_steps_16 : decode cL_steps 16 = .ok (.iconst 1, 1) := by decide +kernel
theorem dL_steps_17 : decode cL_steps 17 = .ok (.iaload, 1) := by decide +kernel
theorem dL_steps_18 : decode cL_steps 18 = .ok (.imul, 1) := by decide +kernel
theorem dL_steps_19 : decode cL_steps 19 = .ok (.iaload, 1) := by decide +kernel
theorem dL_steps_20 : decode cL_steps 20 = .ok (.istore 6, 2) := by decide +kernel
theorem dL_steps_22 : decode cL_steps 22 = .ok (.aload 4, 2) := by decide +kernel
theorem dL_steps_24 : decode cL_steps 24 = .ok (.iload 6, 2) := by decide +kernel
theorem dL_steps_26 : decode cL_steps 26 = .ok (.bipush 50, 2) := by decide +kernel
theorem dL_steps_28 : decode cL_steps 28 = .ok (.irem, 1) := by decide +kernel
theorem dL_steps_29 : decode cL_steps 29 = .ok (.iload 6, 2) := by decide +kernel
theorem dL_steps_31 : decode cL_steps 31 = .ok (.bipush 50, 2) := by decide +kernel
theorem dL_steps_33 : decode cL_steps 33 = .ok (.if_icmp .ge 7, 3) := by decide +kernel
theorem dL_steps_36 : decode cL_steps 36 = .ok (.iconst 1, 1) := by decide +kernel
theorem dL_steps_37 : decode cL_steps 37 = .ok (.goto 4, 3) := by decide +kernel
theorem dL_steps_40 : decode cL_steps 40 = .ok (.iconst 0, 1) := by decide +kernel
theorem dL_steps_41 : decode cL_steps 41 = .ok (.iastore, 1) := by decide +kernel
theorem dL_steps_42 : decode cL_steps 42 = .ok (.aload 5, 2) := by decide +kernel
theorem dL_steps_44 : decode cL_steps 44 = .ok (.iload 6, 2) := by decide +kernel
theorem dL_steps_46 : decode cL_steps 46 = .ok (.bipush 50, 2) := by decide +kernel
theorem dL_steps_48 : decode cL_steps 48 = .ok (.irem, 1) := by decide +kernel
theorem dL_steps_49 : decode cL_steps 49 = .ok (.iload 6, 2) := by decide +kernel
theorem dL_steps_51 : decode cL_steps 51 = .ok (.bipush 50, 2) := by decide +kernel
theorem dL_steps_53 : decode cL_steps 53 = .ok (.if_icmp .ge 7, 3) := by decide +kernel
theorem dL_steps_56 : decode cL_steps 56 = .ok (.iconst 0, 1) := by decide +kernel
theorem dL_steps_57 : decode cL_steps 57 = .ok (.goto 4, 3) := by decide +kernel
theorem dL_steps_60 : decode cL_steps 60 = .ok (.iconst 1, 1) := by decide +kernel
theorem dL_steps_61 : decode cL_steps 61 = .ok (.iastore, 1) := by decide +kernel
theorem dL_steps_62 : decode cL_steps 62 = .ok (.iconst 0, 1) := by decide +kernel
theorem dL_steps_63 : decode cL_steps 63 = .ok (.istore 7, 2) := by decide +kernel
theorem dL_steps_65 : decode cL_steps 65 = .ok (.iload 7, 2) := by decide +kernel
theorem dL_steps_67 : decode cL_steps 67 = .ok (.bipush 100, 2) := by decide +kernel
theorem dL_steps_69 : decode cL_steps 69 = .ok (.if_icmp .ge 193, 3) := by decide +kernel
theorem dL_steps_72 : decode cL_steps 72 = .ok (.iconst 0, 1) := by decide +kernel
theorem dL_steps_73 : decode cL_steps 73 = .ok (.istore 8, 2) := by decide +kernel
theorem dL_steps_75 : decode cL_steps 75 = .ok (.iload 8, 2) := by decide +kernel
theorem dL_steps_77 : decode cL_steps 77 = .ok (.bipush 100, 2) := by decide +kernel
theorem dL_steps_79 : decode cL_steps 79 = .ok (.if_icmp .ge 177, 3) := by decide +kernel
theorem dL_steps_82 : decode cL_steps 82 = .ok (.iload 8, 2) := by decide +kernel
theorem dL_steps_84 : decode cL_steps 84 = .ok (.bipush 50, 2) := by decide +kernel
theorem dL_steps_86 : decode cL_steps 86 = .ok (.if_icmp .ge 11, 3) := by decide +kernel
theorem dL_steps_89 : decode cL_steps 89 = .ok (.aload 4, 2) := by decide +kernel
theorem dL_steps_91 : decode cL_steps 91 = .ok (.iload 8, 2) := by decide +kernel
theorem dL_steps_93 : decode cL_steps 93 = .ok (.iaload, 1) := by decide +kernel
theorem dL_steps_94 : decode cL_steps 94 = .ok (.goto 11, 3) := by decide +kernel
theorem dL_steps_97 : decode cL_steps 97 = .ok (.aload 5, 2) := by decide +kernel
theorem dL_steps_99 : decode cL_steps 99 = .ok (.iload 8, 2) := by decide +kernel
theorem dL_steps_101 : decode cL_steps 101 = .ok (.bipush 50, 2) := by decide +kernel
theorem dL_steps_103 : decode cL_steps 103 = .ok (.isub, 1) := by decide +kernel
theorem dL_steps_104 : decode cL_steps 104 = .ok (.iaload, 1) := by decide +kernel
theorem dL_steps_105 : decode cL_steps 105 = .ok (.iload 7, 2) := by decide +kernel
theorem dL_steps_107 : decode cL_steps 107 = .ok (.iconst 1, 1) := by decide +kernel
theorem dL_steps_108 : decode cL_steps 108 = .ok (.iadd, 1) := by decide +kernel
theorem dL_steps_109 : decode cL_steps 109 = .ok (.if_icmp .ne 141, 3) := by decide +kernel
theorem dL_steps_112 : decode cL_steps 112 = .ok (.aload_n 0, 1) := by decide +kernel
theorem dL_steps_113 : decode cL_steps 113 = .ok (.aload_n 1, 1) := by decide +kernel
theorem dL_steps_114 : decode cL_steps 114 = .ok (.aload_n 2, 1) := by decide +kernel
theorem dL_steps_115 : decode cL_steps 115 = .ok (.iload_n 3, 1) := by decide +kernel
theorem dL_steps_116 : decode cL_steps 116 = .ok (.iload 8, 2) := by decide +kernel
theorem dL_steps_118 : decode cL_steps 118 = .ok (.invokestatic 19, 3) := by decide +kernel
theorem dL_steps_121 : decode cL_steps 121 = .ok (.ifCond .eq 6, 3) := by decide +kernel
theorem dL_steps_124 : decode cL_steps 124 = .ok (.iload 7, 2) := by decide +kernel
theorem dL_steps_126 : decode cL_steps 126 = .ok (.ireturn, 1) := by decide +kernel
theorem dL_steps_127 : decode cL_steps 127 = .ok (.iconst 0, 1) := by decide +kernel
theorem dL_steps_128 : decode cL_steps 128 = .ok (.istore 9, 2) := by decide +kernel
theorem dL_steps_130 : decode cL_steps 130 = .ok (.iload 9, 2) := by decide +kernel
theorem dL_steps_132 : decode cL_steps 132 = .ok (.iconst 4, 1) := by decide +kernel
theorem dL_steps_133 : decode cL_steps 133 = .ok (.if_icmp .ge 117, 3) := by decide +kernel
theorem dL_steps_136 : decode cL_steps 136 = .ok (.iload 8, 2) := by decide +kernel
theorem dL_steps_138 : decode cL_steps 138 = .ok (.iload 9, 2) := by decide +kernel
theorem dL_steps_140 : decode cL_steps 140 = .ok (.invokestatic 23, 3) := by decide +kernel
theorem dL_steps_143 : decode cL_steps 143 = .ok (.istore 10, 2) := by decide +kernel
theorem dL_steps_145 : decode cL_steps 145 = .ok (.iload 10, 2) := by decide +kernel
theorem dL_steps_147 : decode cL_steps 147 = .ok (.ifCond .lt 97, 3) := by decide +kernel
theorem dL_steps_150 : decode cL_steps 150 = .ok (.aload_n 0, 1) := by decide +kernel
theorem dL_steps_151 : decode cL_steps 151 = .ok (.aload_n 2, 1) := by decide +kernel
theorem dL_steps_152 : decode cL_steps 152 = .ok (.iload 10, 2) := by decide +kernel
theorem dL_steps_154 : decode cL_steps 154 = .ok (.invokestatic 27, 3) := by decide +kernel
theorem dL_steps_157 : decode cL_steps 157 = .ok (.bipush (-5), 2) := by decide +kernel
theorem dL_steps_159 : decode cL_steps 159 = .ok (.if_icmp .ne 85, 3) := by decide +kernel
theorem dL_steps_162 : decode cL_steps 162 = .ok (.aload 4, 2) := by decide +kernel
theorem dL_steps_164 : decode cL_steps 164 = .ok (.iload 10, 2) := by decide +kernel
theorem dL_steps_166 : decode cL_steps 166 = .ok (.bipush 50, 2) := by decide +kernel
theorem dL_steps_168 : decode cL_steps 168 = .ok (.irem, 1) := by decide +kernel
theorem dL_steps_169 : decode cL_steps 169 = .ok (.iload 10, 2) := by decide +kernel
theorem dL_steps_171 : decode cL_steps 171 = .ok (.bipush 50, 2) := by decide +kernel
theorem dL_steps_173 : decode cL_steps 173 = .ok (.if_icmp .ge 21, 3) := by decide +kernel
theorem dL_steps_176 : decode cL_steps 176 = .ok (.aload 4, 2) := by decide +kernel
theorem dL_steps_178 : decode cL_steps 178 = .ok (.iload 10, 2) := by decide +kernel
theorem dL_steps_180 : decode cL_steps 180 = .ok (.bipush 50, 2) := by decide +kernel
theorem dL_steps_182 : decode cL_steps 182 = .ok (.irem, 1) := by decide +kernel
theorem dL_steps_183 : decode cL_steps 183 = .ok (.iaload, 1) := by decide +kernel
theorem dL_steps_184 : decode cL_steps 184 = .ok (.ifCond .ne 10, 3) := by decide +kernel
theorem dL_steps_187 : decode cL_steps 187 = .ok (.iload 7, 2) := by decide +kernel
theorem dL_steps_189 : decode cL_steps 189 = .ok (.iconst 2, 1) := by decide +kernel
theorem dL_steps_190 : decode cL_steps 190 = .ok (.iadd, 1) := by decide +kernel
theorem dL_steps_191 : decode cL_steps 191 = .ok (.goto 11, 3) := by decide +kernel
theorem dL_steps_194 : decode cL_steps 194 = .ok (.aload 4, 2) := by decide +kernel
theorem dL_steps_196 : decode cL_steps 196 = .ok (.iload 10, 2) := by decide +kernel
theorem dL_steps_198 : decode cL_steps 198 = .ok (.bipush 50, 2) := by decide +kernel
theorem dL_steps_200 : decode cL_steps 200 = .ok (.irem, 1) := by decide +kernel
theorem dL_steps_201 : decode cL_steps 201 = .ok (.iaload, 1) := by decide +kernel
theorem dL_steps_202 : decode cL_steps 202 = .ok (.iastore, 1) := by decide +kernel
theorem dL_steps_203 : decode cL_steps 203 = .ok (.aload 5, 2) := by decide +kernel
theorem dL_steps_205 : decode cL_steps 205 = .ok (.iload 10, 2) := by decide +kernel
theorem dL_steps_207 : decode cL_steps 207 = .ok (.bipush 50, 2) := by decide +kernel
theorem dL_steps_209 : decode cL_steps 209 = .ok (.irem, 1) := by decide +kernel
theorem dL_steps_210 : decode cL_steps 210 = .ok (.iload 10, 2) := by decide +kernel
theorem dL_steps_212 : decode cL_steps 212 = .ok (.bipush 49, 2) := by decide +kernel
theorem dL_steps_214 : decode cL_steps 214 = .ok (.if_icmp .le 21, 3) := by decide +kernel
theorem dL_steps_217 : decode cL_steps 217 = .ok (.aload 5, 2) := by decide +kernel
theorem dL_steps_219 : decode cL_steps 219 = .ok (.iload 10, 2) := by decide +kernel
theorem dL_steps_221 : decode cL_steps 221 = .ok (.bipush 50, 2) := by decide +kernel
theorem dL_steps_223 : decode cL_steps 223 = .ok (.irem, 1) := by decide +kernel
theorem dL_steps_224 : decode cL_steps 224 = .ok (.iaload, 1) := by decide +kernel
theorem dL_steps_225 : decode cL_steps 225 = .ok (.ifCond .ne 10, 3) := by decide +kernel
theorem dL_steps_228 : decode cL_steps 228 = .ok (.iload 7, 2) := by decide +kernel
theorem dL_steps_230 : decode cL_steps 230 = .ok (.iconst 2, 1) := by decide +kernel
theorem dL_steps_231 : decode cL_steps 231 = .ok (.iadd, 1) := by decide +kernel
theorem dL_steps_232 : decode cL_steps 232 = .ok (.goto 11, 3) := by decide +kernel
theorem dL_steps_235 : decode cL_steps 235 = .ok (.aload 5, 2) := by decide +kernel
theorem dL_steps_237 : decode cL_steps 237 = .ok (.iload 10, 2) := by decide +kernel
theorem dL_steps_239 : decode cL_steps 239 = .ok (.bipush 50, 2) := by decide +kernel
theorem dL_steps_241 : decode cL_steps 241 = .ok (.irem, 1) := by decide +kernel
theorem dL_steps_242 : decode cL_steps 242 = .ok (.iaload, 1) := by decide +kernel
theorem dL_steps_243 : decode cL_steps 243 = .ok (.iastore, 1) := by decide +kernel
theorem dL_steps_244 : decode cL_steps 244 = .ok (.iinc 9 1, 3) := by decide +kernel
theorem dL_steps_247 : decode cL_steps 247 = .ok (.goto (-117), 3) := by decide +kernel
theorem dL_steps_250 : decode cL_steps 250 = .ok (.iinc 8 1, 3) := by decide +kernel
theorem dL_steps_253 : decode cL_steps 253 = .ok (.goto (-178), 3) := by decide +kernel
theorem dL_steps_256 : decode cL_steps 256 = .ok (.iinc 7 1, 3) := by decide +kernel
theorem dL_steps_259 : decode cL_steps 259 = .ok (.goto (-194), 3) := by decide +kernel
theorem dL_steps_262 : decode cL_steps 262 = .ok (.bipush (-5), 2) := by decide +kernel
theorem dL_steps_264 : decode cL_steps 264 = .ok (.ireturn, 1) := by decide +kernel
theorem dL_areSteps_0 : decode cL_areSteps 0 = .ok (.bipush (-5), 2) := by decide +kernel
theorem dL_areSteps_2 : decode cL_areSteps 2 = .ok (.istore 4, 2) := by decide +kernel
theorem dL_areSteps_4 : decode cL_areSteps 4 = .ok (.iconst (-1), 1) := by decide +kernel
theorem dL_areSteps_5 : decode cL_areSteps 5 = .ok (.istore 5, 2) := by decide +kernel
theorem dL_areSteps_7 : decode cL_areSteps 7 = .ok (.aload_n 0, 1) := by decide +kernel
theorem dL_areSteps_8 : decode cL_areSteps 8 = .ok (.aload_n 3, 1) := by decide +kernel
theorem dL_areSteps_9 : decode cL_areSteps 9 = .ok (.bipush 8, 2) := by decide +kernel
theorem dL_areSteps_11 : decode cL_areSteps 11 = .ok (.iaload, 1) := by decide +kernel
theorem dL_areSteps_12 : decode cL_areSteps 12 = .ok (.invokevirtual 66, 3) := by decide +kernel
theorem dL_areSteps_15 : decode cL_areSteps 15 = .ok (.iconst (-1), 1) := by decide +kernel
theorem dL_areSteps_16 : decode cL_areSteps 16 = .ok (.if_icmp .ne 7, 3) := by decide +kernel
theorem dL_areSteps_19 : decode cL_areSteps 19 = .ok (.iconst 1, 1) := by decide +kernel
theorem dL_areSteps_20 : decode cL_areSteps 20 = .ok (.goto 4, 3) := by decide +kernel
theorem dL_areSteps_23 : decode cL_areSteps 23 = .ok (.iconst 0, 1) := by decide +kernel
theorem dL_areSteps_24 : decode cL_areSteps 24 = .ok (.istore 6, 2) := by decide +kernel
theorem dL_areSteps_26 : decode cL_areSteps 26 = .ok (.iconst 0, 1) := by decide +kernel
theorem dL_areSteps_27 : decode cL_areSteps 27 = .ok (.istore 7, 2) := by decide +kernel
theorem dL_areSteps_29 : decode cL_areSteps 29 = .ok (.iload 7, 2) := by decide +kernel
theorem dL_areSteps_31 : decode cL_areSteps 31 = .ok (.aload_n 3, 1) := by decide +kernel
theorem dL_areSteps_32 : decode cL_areSteps 32 = .ok (.bipush 8, 2) := by decide +kernel
theorem dL_areSteps_34 : decode cL_areSteps 34 = .ok (.iaload, 1) := by decide +kernel
theorem dL_areSteps_35 : decode cL_areSteps 35 = .ok (.if_icmp .ge 145, 3) := by decide +kernel
theorem dL_areSteps_38 : decode cL_areSteps 38 = .ok (.iload 7, 2) := by decide +kernel
theorem dL_areSteps_40 : decode cL_areSteps 40 = .ok (.aload_n 3, 1) := by decide +kernel
theorem dL_areSteps_41 : decode cL_areSteps 41 = .ok (.iconst 1, 1) := by decide +kernel
theorem dL_areSteps_42 : decode cL_areSteps 42 = .ok (.iaload, 1) := by decide +kernel
theorem dL_areSteps_43 : decode cL_areSteps 43 = .ok (.if_icmp .eq 30, 3) := by decide +kernel
theorem dL_areSteps_46 : decode cL_areSteps 46 = .ok (.aload_n 1, 1) := by decide +kernel
theorem dL_areSteps_47 : decode cL_areSteps 47 = .ok (.bipush 7, 2) := by decide +kernel
theorem dL_areSteps_49 : decode cL_areSteps 49 = .ok (.iload 7, 2) := by decide +kernel
theorem dL_areSteps_51 : decode cL_areSteps 51 = .ok (.imul, 1) := by decide +kernel
theorem dL_areSteps_52 : decode cL_areSteps 52 = .ok (.iconst 3, 1) := by decide +kernel
theorem dL_areSteps_53 : decode cL_areSteps 53 = .ok (.iadd, 1) := by decide +kernel
theorem dL_areSteps_54 : decode cL_areSteps 54 = .ok (.iaload, 1) := by decide +kernel
theorem dL_areSteps_55 : decode cL_areSteps 55 = .ok (.ifCond .ne 18, 3) := by decide +kernel
theorem dL_areSteps_58 : decode cL_areSteps 58 = .ok (.aload_n 1, 1) := by decide +kernel
theorem dL_areSteps_59 : decode cL_areSteps 59 = .ok (.aload_n 2, 1) := by decide +kernel
theorem dL_areSteps_60 : decode cL_areSteps 60 = .ok (.aload_n 3, 1) := by decide +kernel
theorem dL_areSteps_61 : decode cL_areSteps 61 = .ok (.iload 7, 2) := by decide +kernel
theorem dL_areSteps_63 : decode cL_areSteps 63 = .ok (.invokestatic 44, 3) := by decide +kernel
theorem dL_areSteps_66 : decode cL_areSteps 66 = .ok (.ifCond .le 7, 3) := by decide +kernel
theorem dL_areSteps_69 : decode cL_areSteps 69 = .ok (.iconst 1, 1) := by decide +kernel
theorem dL_areSteps_70 : decode cL_areSteps 70 = .ok (.goto 4, 3) := by decide +kernel
theorem dL_areSteps_73 : decode cL_areSteps 73 = .ok (.iconst 0, 1) := by decide +kernel
theorem dL_areSteps_74 : decode cL_areSteps 74 = .ok (.istore 8, 2) := by decide +kernel
theorem dL_areSteps_76 : decode cL_areSteps 76 = .ok (.iload 8, 2) := by decide +kernel
theorem dL_areSteps_78 : decode cL_areSteps 78 = .ok (.ifCond .eq 14, 3) := by decide +kernel
theorem dL_areSteps_81 : decode cL_areSteps 81 = .ok (.aload_n 1, 1) := by decide +kernel
theorem dL_areSteps_82 : decode cL_areSteps 82 = .ok (.aload_n 2, 1) := by decide +kernel
theorem dL_areSteps_83 : decode cL_areSteps 83 = .ok (.aload_n 3, 1) := by decide +kernel
theorem dL_areSteps_84 : decode cL_areSteps 84 = .ok (.iload 7, 2) := by decide +kernel
theorem dL_areSteps_86 : decode cL_areSteps 86 = .ok (.invokestatic 69, 3) := by decide +kernel
theorem dL_areSteps_89 : decode cL_areSteps 89 = .ok (.goto 5, 3) := by decide +kernel
theorem dL_areSteps_92 : decode cL_areSteps 92 = .ok (.bipush (-4), 2) := by decide +kernel
theorem dL_areSteps_94 : decode cL_areSteps 94 = .ok (.istore 9, 2) := by decide +kernel
theorem dL_areSteps_96 : decode cL_areSteps 96 = .ok (.iload 6, 2) := by decide +kernel
theorem dL_areSteps_98 : decode cL_areSteps 98 = .ok (.ifCond .eq 18, 3) := by decide +kernel
theorem dL_areSteps_101 : decode cL_areSteps 101 = .ok (.aload_n 0, 1) := by decide +kernel
theorem dL_areSteps_102 : decode cL_areSteps 102 = .ok (.iload 7, 2) := by decide +kernel
theorem dL_areSteps_104 : decode cL_areSteps 104 = .ok (.invokevirtual 66, 3) := by decide +kernel
theorem dL_areSteps_107 : decode cL_areSteps 107 = .ok (.iload 9, 2) := by decide +kernel
theorem dL_areSteps_109 : decode cL_areSteps 109 = .ok (.if_icmp .ne 7, 3) := by decide +kernel
theorem dL_areSteps_112 : decode cL_areSteps 112 = .ok (.iconst 1, 1) := by decide +kernel
theorem dL_areSteps_113 : decode cL_areSteps 113 = .ok (.goto 4, 3) := by decide +kernel
theorem dL_areSteps_116 : decode cL_areSteps 116 = .ok (.iconst 0, 1) := by decide +kernel
theorem dL_areSteps_117 : decode cL_areSteps 117 = .ok (.istore 6, 2) := by decide +kernel
theorem dL_areSteps_119 : decode cL_areSteps 119 = .ok (.iload 9, 2) := by decide +kernel
theorem dL_areSteps_121 : decode cL_areSteps 121 = .ok (.ifCond .ge 9, 3) := by decide +kernel
theorem dL_areSteps_124 : decode cL_areSteps 124 = .ok (.sipush 500, 3) := by decide +kernel
theorem dL_areSteps_127 : decode cL_areSteps 127 = .ok (.goto 5, 3) := by decide +kernel
theorem dL_areSteps_130 : decode cL_areSteps 130 = .ok (.iload 9, 2) := by decide +kernel
theorem dL_areSteps_132 : decode cL_areSteps 132 = .ok (.istore 10, 2) := by decide +kernel
theorem dL_areSteps_134 : decode cL_areSteps 134 = .ok (.iload 7, 2) := by decide +kernel
theorem dL_areSteps_136 : decode cL_areSteps 136 = .ok (.aload_n 3, 1) := by decide +kernel
theorem dL_areSteps_137 : decode cL_areSteps 137 = .ok (.iconst 1, 1) := by decide +kernel
theorem dL_areSteps_138 : decode cL_areSteps 138 = .ok (.iaload, 1) := by decide +kernel
theorem dL_areSteps_139 : decode cL_areSteps 139 = .ok (.if_icmp .eq 15, 3) := by decide +kernel
theorem dL_areSteps_142 : decode cL_areSteps 142 = .ok (.iload 10, 2) := by decide +kernel
theorem dL_areSteps_144 : decode cL_areSteps 144 = .ok (.iload 5, 2) := by decide +kernel
theorem dL_areSteps_146 : decode cL_areSteps 146 = .ok (.if_icmp .le 8, 3) := by decide +kernel
theorem dL_areSteps_149 : decode cL_areSteps 149 = .ok (.iload 7, 2) := by decide +kernel
theorem dL_areSteps_151 : decode cL_areSteps 151 = .ok (.goto 5, 3) := by decide +kernel
theorem dL_areSteps_154 : decode cL_areSteps 154 = .ok (.iload 4, 2) := by decide +kernel
theorem dL_areSteps_156 : decode cL_areSteps 156 = .ok (.istore 4, 2) := by decide +kernel
theorem dL_areSteps_158 : decode cL_areSteps 158 = .ok (.iload 4, 2) := by decide +kernel
theorem dL_areSteps_160 : decode cL_areSteps 160 = .ok (.iload 7, 2) := by decide +kernel
theorem dL_areSteps_162 : decode cL_areSteps 162 = .ok (.if_icmp .ne 8, 3) := by decide +kernel
theorem dL_areSteps_165 : decode cL_areSteps 165 = .ok (.iload 10, 2) := by decide +kernel
theorem dL_areSteps_167 : decode cL_areSteps 167 = .ok (.goto 5, 3) := by decide +kernel
theorem dL_areSteps_170 : decode cL_areSteps 170 = .ok (.iload 5, 2) := by decide +kernel
theorem dL_areSteps_172 : decode cL_areSteps 172 = .ok (.istore 5, 2) := by decide +kernel
theorem dL_areSteps_174 : decode cL_areSteps 174 = .ok (.iinc 7 1, 3) := by decide +kernel
theorem dL_areSteps_177 : decode cL_areSteps 177 = .ok (.goto (-148), 3) := by decide +kernel
theorem dL_areSteps_180 : decode cL_areSteps 180 = .ok (.iload 6, 2) := by decide +kernel
theorem dL_areSteps_182 : decode cL_areSteps 182 = .ok (.ifCond .eq 16, 3) := by decide +kernel
theorem dL_areSteps_185 : decode cL_areSteps 185 = .ok (.aload_n 0, 1) := by decide +kernel
theorem dL_areSteps_186 : decode cL_areSteps 186 = .ok (.invokevirtual 72, 3) := by decide +kernel
theorem dL_areSteps_189 : decode cL_areSteps 189 = .ok (.iload 4, 2) := by decide +kernel
theorem dL_areSteps_191 : decode cL_areSteps 191 = .ok (.if_icmp .ne 7, 3) := by decide +kernel
theorem dL_areSteps_194 : decode cL_areSteps 194 = .ok (.iconst 1, 1) := by decide +kernel
theorem dL_areSteps_195 : decode cL_areSteps 195 = .ok (.goto 4, 3) := by decide +kernel
theorem dL_areSteps_198 : decode cL_areSteps 198 = .ok (.iconst 0, 1) := by decide +kernel
theorem dL_areSteps_199 : decode cL_areSteps 199 = .ok (.ireturn, 1) := by decide +kernel
theorem dL_copy_0 : decode cL_copy 0 = .ok (.iconst 0, 1) := by decide +kernel
theorem dL_copy_1 : decode cL_copy 1 = .ok (.istore_n 2, 1) := by decide +kernel
theorem dL_copy_2 : decode cL_copy 2 = .ok (.iload_n 2, 1) := by decide +kernel
theorem dL_copy_3 : decode cL_copy 3 = .ok (.aload_n 0, 1) := by decide +kernel
theorem dL_copy_4 : decode cL_copy 4 = .ok (.arraylength, 1) := by decide +kernel
theorem dL_copy_5 : decode cL_copy 5 = .ok (.if_icmp .ge 15, 3) := by decide +kernel
theorem dL_copy_8 : decode cL_copy 8 = .ok (.aload_n 1, 1) := by decide +kernel
theorem dL_copy_9 : decode cL_copy 9 = .ok (.iload_n 2, 1) := by decide +kernel
theorem dL_copy_10 : decode cL_copy 10 = .ok (.aload_n 0, 1) := by decide +kernel
theorem dL_copy_11 : decode cL_copy 11 = .ok (.iload_n 2, 1) := by decide +kernel
theorem dL_copy_12 : decode cL_copy 12 = .ok (.iaload, 1) := by decide +kernel
theorem dL_copy_13 : decode cL_copy 13 = .ok (.iastore, 1) := by decide +kernel
theorem dL_copy_14 : decode cL_copy 14 = .ok (.iinc 2 1, 3) := by decide +kernel
theorem dL_copy_17 : decode cL_copy 17 = .ok (.goto (-15), 3) := by decide +kernel
theorem dL_copy_20 : decode cL_copy 20 = .ok (.return_, 1) := by decide +kernel
theorem dL_would_0 : decode cL_would 0 = .ok (.bipush 42, 2) := by decide +kernel
theorem dL_would_2 : decode cL_would 2 = .ok (.newarray .int, 2) := by decide +kernel
theorem dL_would_4 : decode cL_would 4 = .ok (.astore 5, 2) := by decide +kernel
theorem dL_would_6 : decode cL_would 6 = .ok (.bipush 12, 2) := by decide +kernel
theorem dL_would_8 : decode cL_would 8 = .ok (.newarray .int, 2) := by decide +kernel
theorem dL_would_10 : decode cL_would 10 = .ok (.astore 6, 2) := by decide +kernel
theorem dL_would_12 : decode cL_would 12 = .ok (.bipush 9, 2) := by decide +kernel
theorem dL_would_14 : decode cL_would 14 = .ok (.newarray .int, 2) := by decide +kernel
theorem dL_would_16 : decode cL_would 16 = .ok (.astore 7, 2) := by decide +kernel
theorem dL_would_18 : decode cL_would 18 = .ok (.aload_n 1, 1) := by decide +kernel
theorem dL_would_19 : decode cL_would 19 = .ok (.aload 5, 2) := by decide +kernel
theorem dL_would_21 : decode cL_would 21 = .ok (.invokestatic 76, 3) := by decide +kernel
theorem dL_would_24 : decode cL_would 24 = .ok (.aload_n 2, 1) := by decide +kernel
theorem dL_would_25 : decode cL_would 25 = .ok (.aload 6, 2) := by decide +kernel
theorem dL_would_27 : decode cL_would 27 = .ok (.invokestatic 76, 3) := by decide +kernel
theorem dL_would_30 : decode cL_would 30 = .ok (.aload_n 3, 1) := by decide +kernel
theorem dL_would_31 : decode cL_would 31 = .ok (.aload 7, 2) := by decide +kernel
theorem dL_would_33 : decode cL_would 33 = .ok (.invokestatic 76, 3) := by decide +kernel
theorem dL_would_36 : decode cL_would 36 = .ok (.bipush (-5), 2) := by decide +kernel
theorem dL_would_38 : decode cL_would 38 = .ok (.istore 8, 2) := by decide +kernel
theorem dL_would_40 : decode cL_would 40 = .ok (.iconst 1, 1) := by decide +kernel
theorem dL_would_41 : decode cL_would 41 = .ok (.istore 9, 2) := by decide +kernel
theorem dL_would_43 : decode cL_would 43 = .ok (.iload 9, 2) := by decide +kernel
theorem dL_would_45 : decode cL_would 45 = .ok (.iload 4, 2) := by decide +kernel
theorem dL_would_47 : decode cL_would 47 = .ok (.if_icmp .gt 42, 3) := by decide +kernel
theorem dL_would_50 : decode cL_would 50 = .ok (.aload 5, 2) := by decide +kernel
theorem dL_would_52 : decode cL_would 52 = .ok (.aload 6, 2) := by decide +kernel
theorem dL_would_54 : decode cL_would 54 = .ok (.aload 7, 2) := by decide +kernel
theorem dL_would_56 : decode cL_would 56 = .ok (.invokestatic 80, 3) := by decide +kernel
theorem dL_would_59 : decode cL_would 59 = .ok (.iload 8, 2) := by decide +kernel
theorem dL_would_61 : decode cL_would 61 = .ok (.ifCond .ge 18, 3) := by decide +kernel
theorem dL_would_64 : decode cL_would 64 = .ok (.aload 7, 2) := by decide +kernel
theorem dL_would_66 : decode cL_would 66 = .ok (.iconst 2, 1) := by decide +kernel
theorem dL_would_67 : decode cL_would 67 = .ok (.iaload, 1) := by decide +kernel
theorem dL_would_68 : decode cL_would 68 = .ok (.aload_n 3, 1) := by decide +kernel
theorem dL_would_69 : decode cL_would 69 = .ok (.iconst 2, 1) := by decide +kernel
theorem dL_would_70 : decode cL_would 70 = .ok (.iaload, 1) := by decide +kernel
theorem dL_would_71 : decode cL_would 71 = .ok (.if_icmp .le 8, 3) := by decide +kernel
theorem dL_would_74 : decode cL_would 74 = .ok (.iload 9, 2) := by decide +kernel
theorem dL_would_76 : decode cL_would 76 = .ok (.goto 5, 3) := by decide +kernel
theorem dL_would_79 : decode cL_would 79 = .ok (.iload 8, 2) := by decide +kernel
theorem dL_would_81 : decode cL_would 81 = .ok (.istore 8, 2) := by decide +kernel
theorem dL_would_83 : decode cL_would 83 = .ok (.iinc 9 1, 3) := by decide +kernel
theorem dL_would_86 : decode cL_would 86 = .ok (.goto (-43), 3) := by decide +kernel
theorem dL_would_89 : decode cL_would 89 = .ok (.aload_n 0, 1) := by decide +kernel
theorem dL_would_90 : decode cL_would 90 = .ok (.iload 4, 2) := by decide +kernel
theorem dL_would_92 : decode cL_would 92 = .ok (.iconst 0, 1) := by decide +kernel
theorem dL_would_93 : decode cL_would 93 = .ok (.invokevirtual 84, 3) := by decide +kernel
theorem dL_would_96 : decode cL_would 96 = .ok (.aload 7, 2) := by decide +kernel
theorem dL_would_98 : decode cL_would 98 = .ok (.iconst 2, 1) := by decide +kernel
theorem dL_would_99 : decode cL_would 99 = .ok (.iaload, 1) := by decide +kernel
theorem dL_would_100 : decode cL_would 100 = .ok (.aload_n 3, 1) := by decide +kernel
theorem dL_would_101 : decode cL_would 101 = .ok (.iconst 2, 1) := by decide +kernel
theorem dL_would_102 : decode cL_would 102 = .ok (.iaload, 1) := by decide +kernel
theorem dL_would_103 : decode cL_would 103 = .ok (.isub, 1) := by decide +kernel
theorem dL_would_104 : decode cL_would 104 = .ok (.if_icmp .ne 45, 3) := by decide +kernel
theorem dL_would_107 : decode cL_would 107 = .ok (.aload_n 0, 1) := by decide +kernel
theorem dL_would_108 : decode cL_would 108 = .ok (.iload 4, 2) := by decide +kernel
theorem dL_would_110 : decode cL_would 110 = .ok (.iconst 1, 1) := by decide +kernel
theorem dL_would_111 : decode cL_would 111 = .ok (.invokevirtual 84, 3) := by decide +kernel
theorem dL_would_114 : decode cL_would 114 = .ok (.aload_n 3, 1) := by decide +kernel
theorem dL_would_115 : decode cL_would 115 = .ok (.bipush 8, 2) := by decide +kernel
theorem dL_would_117 : decode cL_would 117 = .ok (.iaload, 1) := by decide +kernel
theorem dL_would_118 : decode cL_would 118 = .ok (.ifCond .ne 8, 3) := by decide +kernel
theorem dL_would_121 : decode cL_would 121 = .ok (.bipush (-5), 2) := by decide +kernel
theorem dL_would_123 : decode cL_would 123 = .ok (.goto 7, 3) := by decide +kernel
theorem dL_would_126 : decode cL_would 126 = .ok (.aload 7, 2) := by decide +kernel
theorem dL_would_128 : decode cL_would 128 = .ok (.iconst 1, 1) := by decide +kernel
theorem dL_would_129 : decode cL_would 129 = .ok (.iaload, 1) := by decide +kernel
theorem dL_would_130 : decode cL_would 130 = .ok (.if_icmp .ne 19, 3) := by decide +kernel
theorem dL_would_133 : decode cL_would 133 = .ok (.aload_n 0, 1) := by decide +kernel
theorem dL_would_134 : decode cL_would 134 = .ok (.iload 4, 2) := by decide +kernel
theorem dL_would_136 : decode cL_would 136 = .ok (.iconst 2, 1) := by decide +kernel
theorem dL_would_137 : decode cL_would 137 = .ok (.invokevirtual 84, 3) := by decide +kernel
theorem dL_would_140 : decode cL_would 140 = .ok (.iload 8, 2) := by decide +kernel
theorem dL_would_142 : decode cL_would 142 = .ok (.if_icmp .ne 7, 3) := by decide +kernel
theorem dL_would_145 : decode cL_would 145 = .ok (.iconst 1, 1) := by decide +kernel
theorem dL_would_146 : decode cL_would 146 = .ok (.goto 4, 3) := by decide +kernel
theorem dL_would_149 : decode cL_would 149 = .ok (.iconst 0, 1) := by decide +kernel
theorem dL_would_150 : decode cL_would 150 = .ok (.ireturn, 1) := by decide +kernel
theorem dL_comes_0 : decode cL_comes 0 = .ok (.iload_n 3, 1) := by decide +kernel
theorem dL_comes_1 : decode cL_comes 1 = .ok (.bipush 100, 2) := by decide +kernel
theorem dL_comes_3 : decode cL_comes 3 = .ok (.invokestatic 87, 3) := by decide +kernel
theorem dL_comes_6 : decode cL_comes 6 = .ok (.istore 4, 2) := by decide +kernel
theorem dL_comes_8 : decode cL_comes 8 = .ok (.iconst 1, 1) := by decide +kernel
theorem dL_comes_9 : decode cL_comes 9 = .ok (.iload_n 3, 1) := by decide +kernel
theorem dL_comes_10 : decode cL_comes 10 = .ok (.bipush 7, 2) := by decide +kernel
theorem dL_comes_12 : decode cL_comes 12 = .ok (.ishr, 1) := by decide +kernel
theorem dL_comes_13 : decode cL_comes 13 = .ok (.iconst 5, 1) := by decide +kernel
theorem dL_comes_14 : decode cL_comes 14 = .ok (.invokestatic 87, 3) := by decide +kernel
theorem dL_comes_17 : decode cL_comes 17 = .ok (.iadd, 1) := by decide +kernel
theorem dL_comes_18 : decode cL_comes 18 = .ok (.istore 5, 2) := by decide +kernel
theorem dL_comes_20 : decode cL_comes 20 = .ok (.aload_n 1, 1) := by decide +kernel
theorem dL_comes_21 : decode cL_comes 21 = .ok (.aload_n 2, 1) := by decide +kernel
theorem dL_comes_22 : decode cL_comes 22 = .ok (.iload 4, 2) := by decide +kernel
theorem dL_comes_24 : decode cL_comes 24 = .ok (.invokestatic 27, 3) := by decide +kernel
theorem dL_comes_27 : decode cL_comes 27 = .ok (.ifCond .ge 12, 3) := by decide +kernel
theorem dL_comes_30 : decode cL_comes 30 = .ok (.aload_n 2, 1) := by decide +kernel
theorem dL_comes_31 : decode cL_comes 31 = .ok (.bipush 8, 2) := by decide +kernel
theorem dL_comes_33 : decode cL_comes 33 = .ok (.iaload, 1) := by decide +kernel
theorem dL_comes_34 : decode cL_comes 34 = .ok (.bipush 6, 2) := by decide +kernel
theorem dL_comes_36 : decode cL_comes 36 = .ok (.if_icmp .ne 37, 3) := by decide +kernel
theorem dL_comes_39 : decode cL_comes 39 = .ok (.aload_n 0, 1) := by decide +kernel
theorem dL_comes_40 : decode cL_comes 40 = .ok (.iload 4, 2) := by decide +kernel
theorem dL_comes_42 : decode cL_comes 42 = .ok (.iload 5, 2) := by decide +kernel
theorem dL_comes_44 : decode cL_comes 44 = .ok (.invokevirtual 90, 3) := by decide +kernel
theorem dL_comes_47 : decode cL_comes 47 = .ok (.aload_n 1, 1) := by decide +kernel
theorem dL_comes_48 : decode cL_comes 48 = .ok (.aload_n 2, 1) := by decide +kernel
theorem dL_comes_49 : decode cL_comes 49 = .ok (.iload 4, 2) := by decide +kernel
theorem dL_comes_51 : decode cL_comes 51 = .ok (.invokestatic 27, 3) := by decide +kernel
theorem dL_comes_54 : decode cL_comes 54 = .ok (.ifCond .lt 8, 3) := by decide +kernel
theorem dL_comes_57 : decode cL_comes 57 = .ok (.bipush (-4), 2) := by decide +kernel
theorem dL_comes_59 : decode cL_comes 59 = .ok (.goto 5, 3) := by decide +kernel
theorem dL_comes_62 : decode cL_comes 62 = .ok (.bipush (-3), 2) := by decide +kernel
theorem dL_comes_64 : decode cL_comes 64 = .ok (.if_icmp .ne 7, 3) := by decide +kernel
theorem dL_comes_67 : decode cL_comes 67 = .ok (.iconst 1, 1) := by decide +kernel
theorem dL_comes_68 : decode cL_comes 68 = .ok (.goto 4, 3) := by decide +kernel
theorem dL_comes_71 : decode cL_comes 71 = .ok (.iconst 0, 1) := by decide +kernel
theorem dL_comes_72 : decode cL_comes 72 = .ok (.ireturn, 1) := by decide +kernel
theorem dL_comes_73 : decode cL_comes 73 = .ok (.iconst 0, 1) := by decide +kernel
theorem dL_comes_74 : decode cL_comes 74 = .ok (.istore 6, 2) := by decide +kernel
theorem dL_comes_76 : decode cL_comes 76 = .ok (.iload 6, 2) := by decide +kernel
theorem dL_comes_78 : decode cL_comes 78 = .ok (.bipush 7, 2) := by decide +kernel
theorem dL_comes_80 : decode cL_comes 80 = .ok (.if_icmp .ge 53, 3) := by decide +kernel
theorem dL_comes_83 : decode cL_comes 83 = .ok (.aload_n 1, 1) := by decide +kernel
theorem dL_comes_84 : decode cL_comes 84 = .ok (.bipush 7, 2) := by decide +kernel
theorem dL_comes_86 : decode cL_comes 86 = .ok (.aload_n 2, 1) := by decide +kernel
theorem dL_comes_87 : decode cL_comes 87 = .ok (.bipush 8, 2) := by decide +kernel
theorem dL_comes_89 : decode cL_comes 89 = .ok (.iaload, 1) := by decide +kernel
theorem dL_comes_90 : decode cL_comes 90 = .ok (.imul, 1) := by decide +kernel
theorem dL_comes_91 : decode cL_comes 91 = .ok (.iload 6, 2) := by decide +kernel
theorem dL_comes_93 : decode cL_comes 93 = .ok (.iadd, 1) := by decide +kernel
theorem dL_comes_94 : decode cL_comes 94 = .ok (.iload 6, 2) := by decide +kernel
theorem dL_comes_96 : decode cL_comes 96 = .ok (.ifCond .ne 8, 3) := by decide +kernel
theorem dL_comes_99 : decode cL_comes 99 = .ok (.iload 4, 2) := by decide +kernel
theorem dL_comes_101 : decode cL_comes 101 = .ok (.goto 25, 3) := by decide +kernel
theorem dL_comes_104 : decode cL_comes 104 = .ok (.iload 6, 2) := by decide +kernel
theorem dL_comes_106 : decode cL_comes 106 = .ok (.iconst 1, 1) := by decide +kernel
theorem dL_comes_107 : decode cL_comes 107 = .ok (.if_icmp .ne 8, 3) := by decide +kernel
theorem dL_comes_110 : decode cL_comes 110 = .ok (.iload 5, 2) := by decide +kernel
theorem dL_comes_112 : decode cL_comes 112 = .ok (.goto 14, 3) := by decide +kernel
theorem dL_comes_115 : decode cL_comes 115 = .ok (.iload 6, 2) := by decide +kernel
theorem dL_comes_117 : decode cL_comes 117 = .ok (.iconst 2, 1) := by decide +kernel
theorem dL_comes_118 : decode cL_comes 118 = .ok (.if_icmp .ne 7, 3) := by decide +kernel
theorem dL_comes_121 : decode cL_comes 121 = .ok (.iconst 4, 1) := by decide +kernel
theorem dL_comes_122 : decode cL_comes 122 = .ok (.goto 4, 3) := by decide +kernel
theorem dL_comes_125 : decode cL_comes 125 = .ok (.iconst 0, 1) := by decide +kernel
theorem dL_comes_126 : decode cL_comes 126 = .ok (.iastore, 1) := by decide +kernel
theorem dL_comes_127 : decode cL_comes 127 = .ok (.iinc 6 1, 3) := by decide +kernel
theorem dL_comes_130 : decode cL_comes 130 = .ok (.goto (-54), 3) := by decide +kernel
theorem dL_comes_133 : decode cL_comes 133 = .ok (.aload_n 2, 1) := by decide +kernel
theorem dL_comes_134 : decode cL_comes 134 = .ok (.bipush 8, 2) := by decide +kernel
theorem dL_comes_136 : decode cL_comes 136 = .ok (.dup2, 1) := by decide +kernel
theorem dL_comes_137 : decode cL_comes 137 = .ok (.iaload, 1) := by decide +kernel
theorem dL_comes_138 : decode cL_comes 138 = .ok (.iconst 1, 1) := by decide +kernel
theorem dL_comes_139 : decode cL_comes 139 = .ok (.iadd, 1) := by decide +kernel
theorem dL_comes_140 : decode cL_comes 140 = .ok (.iastore, 1) := by decide +kernel
theorem dL_comes_141 : decode cL_comes 141 = .ok (.aload_n 0, 1) := by decide +kernel
theorem dL_comes_142 : decode cL_comes 142 = .ok (.iload 4, 2) := by decide +kernel
theorem dL_comes_144 : decode cL_comes 144 = .ok (.iload 5, 2) := by decide +kernel
theorem dL_comes_146 : decode cL_comes 146 = .ok (.invokevirtual 90, 3) := by decide +kernel
theorem dL_comes_149 : decode cL_comes 149 = .ok (.aload_n 2, 1) := by decide +kernel
theorem dL_comes_150 : decode cL_comes 150 = .ok (.bipush 8, 2) := by decide +kernel
theorem dL_comes_152 : decode cL_comes 152 = .ok (.iaload, 1) := by decide +kernel
theorem dL_comes_153 : decode cL_comes 153 = .ok (.iconst 1, 1) := by decide +kernel
theorem dL_comes_154 : decode cL_comes 154 = .ok (.isub, 1) := by decide +kernel
theorem dL_comes_155 : decode cL_comes 155 = .ok (.if_icmp .ne 7, 3) := by decide +kernel
theorem dL_comes_158 : decode cL_comes 158 = .ok (.iconst 1, 1) := by decide +kernel
theorem dL_comes_159 : decode cL_comes 159 = .ok (.goto 4, 3) := by decide +kernel
theorem dL_comes_162 : decode cL_comes 162 = .ok (.iconst 0, 1) := by decide +kernel
theorem dL_comes_163 : decode cL_comes 163 = .ok (.ireturn, 1) := by decide +kernel
theorem dL_acts_0 : decode cL_acts 0 = .ok (.iload 5, 2) := by decide +kernel
theorem dL_acts_2 : decode cL_acts 2 = .ok (.iconst 3, 1) := by decide +kernel
theorem dL_acts_3 : decode cL_acts 3 = .ok (.invokestatic 87, 3) := by decide +kernel
theorem dL_acts_6 : decode cL_acts 6 = .ok (.istore 6, 2) := by decide +kernel
theorem dL_acts_8 : decode cL_acts 8 = .ok (.iload 4, 2) := by decide +kernel
theorem dL_acts_10 : decode cL_acts 10 = .ok (.tableswitch 471 0 7 #[46, 55, 55, 55, 185, 282, 282, 403], 46) := by decide +kernel
theorem dL_acts_56 : decode cL_acts 56 = .ok (.aload_n 0, 1) := by decide +kernel
theorem dL_acts_57 : decode cL_acts 57 = .ok (.aload_n 1, 1) := by decide +kernel
theorem dL_acts_58 : decode cL_acts 58 = .ok (.aload_n 3, 1) := by decide +kernel
theorem dL_acts_59 : decode cL_acts 59 = .ok (.iload 5, 2) := by decide +kernel
theorem dL_acts_61 : decode cL_acts 61 = .ok (.invokestatic 93, 3) := by decide +kernel
theorem dL_acts_64 : decode cL_acts 64 = .ok (.ireturn, 1) := by decide +kernel
theorem dL_acts_65 : decode cL_acts 65 = .ok (.aload_n 3, 1) := by decide +kernel
theorem dL_acts_66 : decode cL_acts 66 = .ok (.bipush 8, 2) := by decide +kernel
theorem dL_acts_68 : decode cL_acts 68 = .ok (.iaload, 1) := by decide +kernel
theorem dL_acts_69 : decode cL_acts 69 = .ok (.ifCond .ne 19, 3) := by decide +kernel
theorem dL_acts_72 : decode cL_acts 72 = .ok (.aload_n 0, 1) := by decide +kernel
theorem dL_acts_73 : decode cL_acts 73 = .ok (.iconst 0, 1) := by decide +kernel
theorem dL_acts_74 : decode cL_acts 74 = .ok (.iconst 0, 1) := by decide +kernel
theorem dL_acts_75 : decode cL_acts 75 = .ok (.invokevirtual 97, 3) := by decide +kernel
theorem dL_acts_78 : decode cL_acts 78 = .ok (.iconst (-1), 1) := by decide +kernel
theorem dL_acts_79 : decode cL_acts 79 = .ok (.if_icmp .ne 7, 3) := by decide +kernel
theorem dL_acts_82 : decode cL_acts 82 = .ok (.iconst 1, 1) := by decide +kernel
theorem dL_acts_83 : decode cL_acts 83 = .ok (.goto 4, 3) := by decide +kernel
theorem dL_acts_86 : decode cL_acts 86 = .ok (.iconst 0, 1) := by decide +kernel
theorem dL_acts_87 : decode cL_acts 87 = .ok (.ireturn, 1) := by decide +kernel
theorem dL_acts_88 : decode cL_acts 88 = .ok (.iload 5, 2) := by decide +kernel
theorem dL_acts_90 : decode cL_acts 90 = .ok (.aload_n 3, 1) := by decide +kernel
theorem dL_acts_91 : decode cL_acts 91 = .ok (.bipush 8, 2) := by decide +kernel
theorem dL_acts_93 : decode cL_acts 93 = .ok (.iaload, 1) := by decide +kernel
theorem dL_acts_94 : decode cL_acts 94 = .ok (.invokestatic 87, 3) := by decide +kernel
theorem dL_acts_97 : decode cL_acts 97 = .ok (.istore 7, 2) := by decide +kernel
theorem dL_acts_99 : decode cL_acts 99 = .ok (.iload 5, 2) := by decide +kernel
theorem dL_acts_101 : decode cL_acts 101 = .ok (.iconst 4, 1) := by decide +kernel
theorem dL_acts_102 : decode cL_acts 102 = .ok (.ishr, 1) := by decide +kernel
theorem dL_acts_103 : decode cL_acts 103 = .ok (.bipush 6, 2) := by decide +kernel
theorem dL_acts_105 : decode cL_acts 105 = .ok (.invokestatic 87, 3) := by decide +kernel
theorem dL_acts_108 : decode cL_acts 108 = .ok (.iconst 1, 1) := by decide +kernel
theorem dL_acts_109 : decode cL_acts 109 = .ok (.isub, 1) := by decide +kernel
theorem dL_acts_110 : decode cL_acts 110 = .ok (.istore 8, 2) := by decide +kernel
theorem dL_acts_112 : decode cL_acts 112 = .ok (.iload 8, 2) := by decide +kernel
theorem dL_acts_114 : decode cL_acts 114 = .ok (.iconst 3, 1) := by decide +kernel
theorem dL_acts_115 : decode cL_acts 115 = .ok (.if_icmp .le 7, 3) := by decide +kernel
theorem dL_acts_118 : decode cL_acts 118 = .ok (.iconst 2, 1) := by decide +kernel
theorem dL_acts_119 : decode cL_acts 119 = .ok (.goto 5, 3) := by decide +kernel
theorem dL_acts_122 : decode cL_acts 122 = .ok (.iload 8, 2) := by decide +kernel
theorem dL_acts_124 : decode cL_acts 124 = .ok (.istore 8, 2) := by decide +kernel
theorem dL_acts_126 : decode cL_acts 126 = .ok (.aload_n 1, 1) := by decide +kernel
theorem dL_acts_127 : decode cL_acts 127 = .ok (.bipush 7, 2) := by decide +kernel
theorem dL_acts_129 : decode cL_acts 129 = .ok (.iload 7, 2) := by decide +kernel
theorem dL_acts_131 : decode cL_acts 131 = .ok (.imul, 1) := by decide +kernel
theorem dL_acts_132 : decode cL_acts 132 = .ok (.iconst 2, 1) := by decide +kernel
theorem dL_acts_133 : decode cL_acts 133 = .ok (.iadd, 1) := by decide +kernel
theorem dL_acts_134 : decode cL_acts 134 = .ok (.iaload, 1) := by decide +kernel
theorem dL_acts_135 : decode cL_acts 135 = .ok (.istore 9, 2) := by decide +kernel
theorem dL_acts_137 : decode cL_acts 137 = .ok (.aload_n 1, 1) := by decide +kernel
theorem dL_acts_138 : decode cL_acts 138 = .ok (.bipush 7, 2) := by decide +kernel
theorem dL_acts_140 : decode cL_acts 140 = .ok (.iload 7, 2) := by decide +kernel
theorem dL_acts_142 : decode cL_acts 142 = .ok (.imul, 1) := by decide +kernel
theorem dL_acts_143 : decode cL_acts 143 = .ok (.iconst 2, 1) := by decide +kernel
theorem dL_acts_144 : decode cL_acts 144 = .ok (.iadd, 1) := by decide +kernel
theorem dL_acts_145 : decode cL_acts 145 = .ok (.iload 8, 2) := by decide +kernel
theorem dL_acts_147 : decode cL_acts 147 = .ok (.ifCond .ge 7, 3) := by decide +kernel
theorem dL_acts_150 : decode cL_acts 150 = .ok (.iconst 4, 1) := by decide +kernel
theorem dL_acts_151 : decode cL_acts 151 = .ok (.goto 5, 3) := by decide +kernel
theorem dL_acts_154 : decode cL_acts 154 = .ok (.iload 8, 2) := by decide +kernel
theorem dL_acts_156 : decode cL_acts 156 = .ok (.iastore, 1) := by decide +kernel
theorem dL_acts_157 : decode cL_acts 157 = .ok (.aload_n 0, 1) := by decide +kernel
theorem dL_acts_158 : decode cL_acts 158 = .ok (.iload 7, 2) := by decide +kernel
theorem dL_acts_160 : decode cL_acts 160 = .ok (.iload 8, 2) := by decide +kernel
theorem dL_acts_162 : decode cL_acts 162 = .ok (.invokevirtual 97, 3) := by decide +kernel
theorem dL_acts_165 : decode cL_acts 165 = .ok (.iload 9, 2) := by decide +kernel
theorem dL_acts_167 : decode cL_acts 167 = .ok (.aload_n 1, 1) := by decide +kernel
theorem dL_acts_168 : decode cL_acts 168 = .ok (.bipush 7, 2) := by decide +kernel
theorem dL_acts_170 : decode cL_acts 170 = .ok (.iload 7, 2) := by decide +kernel
theorem dL_acts_172 : decode cL_acts 172 = .ok (.imul, 1) := by decide +kernel
theorem dL_acts_173 : decode cL_acts 173 = .ok (.iconst 2, 1) := by decide +kernel
theorem dL_acts_174 : decode cL_acts 174 = .ok (.iadd, 1) := by decide +kernel
theorem dL_acts_175 : decode cL_acts 175 = .ok (.iaload, 1) := by decide +kernel
theorem dL_acts_176 : decode cL_acts 176 = .ok (.if_icmp .ne 8, 3) := by decide +kernel
theorem dL_acts_179 : decode cL_acts 179 = .ok (.bipush (-5), 2) := by decide +kernel
theorem dL_acts_181 : decode cL_acts 181 = .ok (.goto 5, 3) := by decide +kernel
theorem dL_acts_184 : decode cL_acts 184 = .ok (.iload 9, 2) := by decide +kernel
theorem dL_acts_186 : decode cL_acts 186 = .ok (.if_icmp .ne 7, 3) := by decide +kernel
theorem dL_acts_189 : decode cL_acts 189 = .ok (.iconst 1, 1) := by decide +kernel
theorem dL_acts_190 : decode cL_acts 190 = .ok (.goto 4, 3) := by decide +kernel
theorem dL_acts_193 : decode cL_acts 193 = .ok (.iconst 0, 1) := by decide +kernel
theorem dL_acts_194 : decode cL_acts 194 = .ok (.ireturn, 1) := by decide +kernel
theorem dL_acts_195 : decode cL_acts 195 = .ok (.aload_n 2, 1) := by decide +kernel
theorem dL_acts_196 : decode cL_acts 196 = .ok (.iconst 4, 1) := by decide +kernel
theorem dL_acts_197 : decode cL_acts 197 = .ok (.iload 6, 2) := by decide +kernel
theorem dL_acts_199 : decode cL_acts 199 = .ok (.imul, 1) := by decide +kernel
theorem dL_acts_200 : decode cL_acts 200 = .ok (.iconst 3, 1) := by decide +kernel
theorem dL_acts_201 : decode cL_acts 201 = .ok (.iadd, 1) := by decide +kernel
theorem dL_acts_202 : decode cL_acts 202 = .ok (.iaload, 1) := by decide +kernel
theorem dL_acts_203 : decode cL_acts 203 = .ok (.istore 10, 2) := by decide +kernel
theorem dL_acts_205 : decode cL_acts 205 = .ok (.aload_n 2, 1) := by decide +kernel
theorem dL_acts_206 : decode cL_acts 206 = .ok (.iconst 4, 1) := by decide +kernel
theorem dL_acts_207 : decode cL_acts 207 = .ok (.iload 6, 2) := by decide +kernel
theorem dL_acts_209 : decode cL_acts 209 = .ok (.imul, 1) := by decide +kernel
theorem dL_acts_210 : decode cL_acts 210 = .ok (.iconst 3, 1) := by decide +kernel
theorem dL_acts_211 : decode cL_acts 211 = .ok (.iadd, 1) := by decide +kernel
theorem dL_acts_212 : decode cL_acts 212 = .ok (.iload 5, 2) := by decide +kernel
theorem dL_acts_214 : decode cL_acts 214 = .ok (.iconst 2, 1) := by decide +kernel
theorem dL_acts_215 : decode cL_acts 215 = .ok (.ishr, 1) := by decide +kernel
theorem dL_acts_216 : decode cL_acts 216 = .ok (.iconst 3, 1) := by decide +kernel
theorem dL_acts_217 : decode cL_acts 217 = .ok (.invokestatic 87, 3) := by decide +kernel
theorem dL_acts_220 : decode cL_acts 220 = .ok (.ifCond .le 7, 3) := by decide +kernel
theorem dL_acts_223 : decode cL_acts 223 = .ok (.iconst 1, 1) := by decide +kernel
theorem dL_acts_224 : decode cL_acts 224 = .ok (.goto 4, 3) := by decide +kernel
theorem dL_acts_227 : decode cL_acts 227 = .ok (.iconst 0, 1) := by decide +kernel
theorem dL_acts_228 : decode cL_acts 228 = .ok (.iastore, 1) := by decide +kernel
theorem dL_acts_229 : decode cL_acts 229 = .ok (.aload_n 0, 1) := by decide +kernel
theorem dL_acts_230 : decode cL_acts 230 = .ok (.iload 6, 2) := by decide +kernel
theorem dL_acts_232 : decode cL_acts 232 = .ok (.aload_n 2, 1) := by decide +kernel
theorem dL_acts_233 : decode cL_acts 233 = .ok (.iconst 4, 1) := by decide +kernel
theorem dL_acts_234 : decode cL_acts 234 = .ok (.iload 6, 2) := by decide +kernel
theorem dL_acts_236 : decode cL_acts 236 = .ok (.imul, 1) := by decide +kernel
theorem dL_acts_237 : decode cL_acts 237 = .ok (.iconst 3, 1) := by decide +kernel
theorem dL_acts_238 : decode cL_acts 238 = .ok (.iadd, 1) := by decide +kernel
theorem dL_acts_239 : decode cL_acts 239 = .ok (.iaload, 1) := by decide +kernel
theorem dL_acts_240 : decode cL_acts 240 = .ok (.iconst 1, 1) := by decide +kernel
theorem dL_acts_241 : decode cL_acts 241 = .ok (.if_icmp .ne 7, 3) := by decide +kernel
theorem dL_acts_244 : decode cL_acts 244 = .ok (.iconst 1, 1) := by decide +kernel
theorem dL_acts_245 : decode cL_acts 245 = .ok (.goto 4, 3) := by decide +kernel
theorem dL_acts_248 : decode cL_acts 248 = .ok (.iconst 0, 1) := by decide +kernel
theorem dL_acts_249 : decode cL_acts 249 = .ok (.invokevirtual 100, 3) := by decide +kernel
theorem dL_acts_252 : decode cL_acts 252 = .ok (.iload 10, 2) := by decide +kernel
theorem dL_acts_254 : decode cL_acts 254 = .ok (.aload_n 2, 1) := by decide +kernel
theorem dL_acts_255 : decode cL_acts 255 = .ok (.iconst 4, 1) := by decide +kernel
theorem dL_acts_256 : decode cL_acts 256 = .ok (.iload 6, 2) := by decide +kernel
theorem dL_acts_258 : decode cL_acts 258 = .ok (.imul, 1) := by decide +kernel
theorem dL_acts_259 : decode cL_acts 259 = .ok (.iconst 3, 1) := by decide +kernel
theorem dL_acts_260 : decode cL_acts 260 = .ok (.iadd, 1) := by decide +kernel
theorem dL_acts_261 : decode cL_acts 261 = .ok (.iaload, 1) := by decide +kernel
theorem dL_acts_262 : decode cL_acts 262 = .ok (.if_icmp .ne 8, 3) := by decide +kernel
theorem dL_acts_265 : decode cL_acts 265 = .ok (.bipush (-5), 2) := by decide +kernel
theorem dL_acts_267 : decode cL_acts 267 = .ok (.goto 16, 3) := by decide +kernel
theorem dL_acts_270 : decode cL_acts 270 = .ok (.aload_n 2, 1) := by decide +kernel
theorem dL_acts_271 : decode cL_acts 271 = .ok (.iconst 3, 1) := by decide +kernel
theorem dL_acts_272 : decode cL_acts 272 = .ok (.iaload, 1) := by decide +kernel
theorem dL_acts_273 : decode cL_acts 273 = .ok (.aload_n 2, 1) := by decide +kernel
theorem dL_acts_274 : decode cL_acts 274 = .ok (.bipush 7, 2) := by decide +kernel
theorem dL_acts_276 : decode cL_acts 276 = .ok (.iaload, 1) := by decide +kernel
theorem dL_acts_277 : decode cL_acts 277 = .ok (.iadd, 1) := by decide +kernel
theorem dL_acts_278 : decode cL_acts 278 = .ok (.aload_n 2, 1) := by decide +kernel
theorem dL_acts_279 : decode cL_acts 279 = .ok (.bipush 11, 2) := by decide +kernel
theorem dL_acts_281 : decode cL_acts 281 = .ok (.iaload, 1) := by decide +kernel
theorem dL_acts_282 : decode cL_acts 282 = .ok (.iadd, 1) := by decide +kernel
theorem dL_acts_283 : decode cL_acts 283 = .ok (.if_icmp .ne 7, 3) := by decide +kernel
theorem dL_acts_286 : decode cL_acts 286 = .ok (.iconst 1, 1) := by decide +kernel
theorem dL_acts_287 : decode cL_acts 287 = .ok (.goto 4, 3) := by decide +kernel
theorem dL_acts_290 : decode cL_acts 290 = .ok (.iconst 0, 1) := by decide +kernel
theorem dL_acts_291 : decode cL_acts 291 = .ok (.ireturn, 1) := by decide +kernel
theorem dL_acts_292 : decode cL_acts 292 = .ok (.iload 5, 2) := by decide +kernel
theorem dL_acts_294 : decode cL_acts 294 = .ok (.iconst 2, 1) := by decide +kernel
theorem dL_acts_295 : decode cL_acts 295 = .ok (.ishr, 1) := by decide +kernel
theorem dL_acts_296 : decode cL_acts 296 = .ok (.iconst 3, 1) := by decide +kernel
theorem dL_acts_297 : decode cL_acts 297 = .ok (.invokestatic 87, 3) := by decide +kernel
theorem dL_acts_300 : decode cL_acts 300 = .ok (.istore 11, 2) := by decide +kernel
theorem dL_acts_302 : decode cL_acts 302 = .ok (.aload_n 2, 1) := by decide +kernel
theorem dL_acts_303 : decode cL_acts 303 = .ok (.iconst 4, 1) := by decide +kernel
theorem dL_acts_304 : decode cL_acts 304 = .ok (.iload 6, 2) := by decide +kernel
theorem dL_acts_306 : decode cL_acts 306 = .ok (.imul, 1) := by decide +kernel
theorem dL_acts_307 : decode cL_acts 307 = .ok (.iload 11, 2) := by decide +kernel
theorem dL_acts_309 : decode cL_acts 309 = .ok (.iadd, 1) := by decide +kernel
theorem dL_acts_310 : decode cL_acts 310 = .ok (.iaload, 1) := by decide +kernel
theorem dL_acts_311 : decode cL_acts 311 = .ok (.istore 12, 2) := by decide +kernel
theorem dL_acts_313 : decode cL_acts 313 = .ok (.aload_n 2, 1) := by decide +kernel
theorem dL_acts_314 : decode cL_acts 314 = .ok (.iconst 4, 1) := by decide +kernel
theorem dL_acts_315 : decode cL_acts 315 = .ok (.iload 6, 2) := by decide +kernel
theorem dL_acts_317 : decode cL_acts 317 = .ok (.imul, 1) := by decide +kernel
theorem dL_acts_318 : decode cL_acts 318 = .ok (.iload 11, 2) := by decide +kernel
theorem dL_acts_320 : decode cL_acts 320 = .ok (.iadd, 1) := by decide +kernel
theorem dL_acts_321 : decode cL_acts 321 = .ok (.iload 11, 2) := by decide +kernel
theorem dL_acts_323 : decode cL_acts 323 = .ok (.ifCond .ne 14, 3) := by decide +kernel
theorem dL_acts_326 : decode cL_acts 326 = .ok (.iload 5, 2) := by decide +kernel
theorem dL_acts_328 : decode cL_acts 328 = .ok (.iconst 4, 1) := by decide +kernel
theorem dL_acts_329 : decode cL_acts 329 = .ok (.ishr, 1) := by decide +kernel
theorem dL_acts_330 : decode cL_acts 330 = .ok (.iconst 4, 1) := by decide +kernel
theorem dL_acts_331 : decode cL_acts 331 = .ok (.invokestatic 87, 3) := by decide +kernel
theorem dL_acts_334 : decode cL_acts 334 = .ok (.goto 31, 3) := by decide +kernel
theorem dL_acts_337 : decode cL_acts 337 = .ok (.iload 11, 2) := by decide +kernel
theorem dL_acts_339 : decode cL_acts 339 = .ok (.iconst 1, 1) := by decide +kernel
theorem dL_acts_340 : decode cL_acts 340 = .ok (.if_icmp .ne 16, 3) := by decide +kernel
theorem dL_acts_343 : decode cL_acts 343 = .ok (.iconst 1, 1) := by decide +kernel
theorem dL_acts_344 : decode cL_acts 344 = .ok (.iload 5, 2) := by decide +kernel
theorem dL_acts_346 : decode cL_acts 346 = .ok (.iconst 4, 1) := by decide +kernel
theorem dL_acts_347 : decode cL_acts 347 = .ok (.ishr, 1) := by decide +kernel
theorem dL_acts_348 : decode cL_acts 348 = .ok (.iconst 4, 1) := by decide +kernel
theorem dL_acts_349 : decode cL_acts 349 = .ok (.invokestatic 87, 3) := by decide +kernel
theorem dL_acts_352 : decode cL_acts 352 = .ok (.iadd, 1) := by decide +kernel
theorem dL_acts_353 : decode cL_acts 353 = .ok (.goto 12, 3) := by decide +kernel
theorem dL_acts_356 : decode cL_acts 356 = .ok (.iload 5, 2) := by decide +kernel
theorem dL_acts_358 : decode cL_acts 358 = .ok (.iconst 4, 1) := by decide +kernel
theorem dL_acts_359 : decode cL_acts 359 = .ok (.ishr, 1) := by decide +kernel
theorem dL_acts_360 : decode cL_acts 360 = .ok (.bipush 10, 2) := by decide +kernel
theorem dL_acts_362 : decode cL_acts 362 = .ok (.invokestatic 87, 3) := by decide +kernel
theorem dL_acts_365 : decode cL_acts 365 = .ok (.iastore, 1) := by decide +kernel
theorem dL_acts_366 : decode cL_acts 366 = .ok (.aload_n 0, 1) := by decide +kernel
theorem dL_acts_367 : decode cL_acts 367 = .ok (.iload 6, 2) := by decide +kernel
theorem dL_acts_369 : decode cL_acts 369 = .ok (.iload 11, 2) := by decide +kernel
theorem dL_acts_371 : decode cL_acts 371 = .ok (.aload_n 2, 1) := by decide +kernel
theorem dL_acts_372 : decode cL_acts 372 = .ok (.iconst 4, 1) := by decide +kernel
theorem dL_acts_373 : decode cL_acts 373 = .ok (.iload 6, 2) := by decide +kernel
theorem dL_acts_375 : decode cL_acts 375 = .ok (.imul, 1) := by decide +kernel
theorem dL_acts_376 : decode cL_acts 376 = .ok (.iload 11, 2) := by decide +kernel
theorem dL_acts_378 : decode cL_acts 378 = .ok (.iadd, 1) := by decide +kernel
theorem dL_acts_379 : decode cL_acts 379 = .ok (.iaload, 1) := by decide +kernel
theorem dL_acts_380 : decode cL_acts 380 = .ok (.invokevirtual 104, 3) := by decide +kernel
theorem dL_acts_383 : decode cL_acts 383 = .ok (.iload 12, 2) := by decide +kernel
theorem dL_acts_385 : decode cL_acts 385 = .ok (.aload_n 2, 1) := by decide +kernel
theorem dL_acts_386 : decode cL_acts 386 = .ok (.iconst 4, 1) := by decide +kernel
theorem dL_acts_387 : decode cL_acts 387 = .ok (.iload 6, 2) := by decide +kernel
theorem dL_acts_389 : decode cL_acts 389 = .ok (.imul, 1) := by decide +kernel
theorem dL_acts_390 : decode cL_acts 390 = .ok (.iload 11, 2) := by decide +kernel
theorem dL_acts_392 : decode cL_acts 392 = .ok (.iadd, 1) := by decide +kernel
theorem dL_acts_393 : decode cL_acts 393 = .ok (.iaload, 1) := by decide +kernel
theorem dL_acts_394 : decode cL_acts 394 = .ok (.if_icmp .ne 8, 3) := by decide +kernel
theorem dL_acts_397 : decode cL_acts 397 = .ok (.bipush (-5), 2) := by decide +kernel
theorem dL_acts_399 : decode cL_acts 399 = .ok (.goto 5, 3) := by decide +kernel
theorem dL_acts_402 : decode cL_acts 402 = .ok (.iload 12, 2) := by decide +kernel
theorem dL_acts_404 : decode cL_acts 404 = .ok (.if_icmp .ne 7, 3) := by decide +kernel
theorem dL_acts_407 : decode cL_acts 407 = .ok (.iconst 1, 1) := by decide +kernel
theorem dL_acts_408 : decode cL_acts 408 = .ok (.goto 4, 3) := by decide +kernel
theorem dL_acts_411 : decode cL_acts 411 = .ok (.iconst 0, 1) := by decide +kernel
theorem dL_acts_412 : decode cL_acts 412 = .ok (.ireturn, 1) := by decide +kernel
theorem dL_acts_413 : decode cL_acts 413 = .ok (.bipush 6, 2) := by decide +kernel
theorem dL_acts_415 : decode cL_acts 415 = .ok (.iload 5, 2) := by decide +kernel
theorem dL_acts_417 : decode cL_acts 417 = .ok (.iconst 2, 1) := by decide +kernel
theorem dL_acts_418 : decode cL_acts 418 = .ok (.invokestatic 87, 3) := by decide +kernel
theorem dL_acts_421 : decode cL_acts 421 = .ok (.iadd, 1) := by decide +kernel
theorem dL_acts_422 : decode cL_acts 422 = .ok (.istore 13, 2) := by decide +kernel
theorem dL_acts_424 : decode cL_acts 424 = .ok (.aload_n 3, 1) := by decide +kernel
theorem dL_acts_425 : decode cL_acts 425 = .ok (.iload 13, 2) := by decide +kernel
theorem dL_acts_427 : decode cL_acts 427 = .ok (.iaload, 1) := by decide +kernel
theorem dL_acts_428 : decode cL_acts 428 = .ok (.istore 14, 2) := by decide +kernel
theorem dL_acts_430 : decode cL_acts 430 = .ok (.aload_n 3, 1) := by decide +kernel
theorem dL_acts_431 : decode cL_acts 431 = .ok (.iload 13, 2) := by decide +kernel
theorem dL_acts_433 : decode cL_acts 433 = .ok (.iload 5, 2) := by decide +kernel
theorem dL_acts_435 : decode cL_acts 435 = .ok (.iconst 1, 1) := by decide +kernel
theorem dL_acts_436 : decode cL_acts 436 = .ok (.ishr, 1) := by decide +kernel
theorem dL_acts_437 : decode cL_acts 437 = .ok (.bipush 10, 2) := by decide +kernel
theorem dL_acts_439 : decode cL_acts 439 = .ok (.invokestatic 87, 3) := by decide +kernel
theorem dL_acts_442 : decode cL_acts 442 = .ok (.iastore, 1) := by decide +kernel
theorem dL_acts_443 : decode cL_acts 443 = .ok (.aload_n 0, 1) := by decide +kernel
theorem dL_acts_444 : decode cL_acts 444 = .ok (.iload 13, 2) := by decide +kernel
theorem dL_acts_446 : decode cL_acts 446 = .ok (.bipush 6, 2) := by decide +kernel
theorem dL_acts_448 : decode cL_acts 448 = .ok (.isub, 1) := by decide +kernel
theorem dL_acts_449 : decode cL_acts 449 = .ok (.aload_n 3, 1) := by decide +kernel
theorem dL_acts_450 : decode cL_acts 450 = .ok (.iload 13, 2) := by decide +kernel
theorem dL_acts_452 : decode cL_acts 452 = .ok (.iaload, 1) := by decide +kernel
theorem dL_acts_453 : decode cL_acts 453 = .ok (.invokevirtual 107, 3) := by decide +kernel
theorem dL_acts_456 : decode cL_acts 456 = .ok (.iload 14, 2) := by decide +kernel
theorem dL_acts_458 : decode cL_acts 458 = .ok (.aload_n 3, 1) := by decide +kernel
theorem dL_acts_459 : decode cL_acts 459 = .ok (.iload 13, 2) := by decide +kernel
theorem dL_acts_461 : decode cL_acts 461 = .ok (.iaload, 1) := by decide +kernel
theorem dL_acts_462 : decode cL_acts 462 = .ok (.if_icmp .ne 8, 3) := by decide +kernel
theorem dL_acts_465 : decode cL_acts 465 = .ok (.bipush (-5), 2) := by decide +kernel
theorem dL_acts_467 : decode cL_acts 467 = .ok (.goto 5, 3) := by decide +kernel
theorem dL_acts_470 : decode cL_acts 470 = .ok (.iload 14, 2) := by decide +kernel
theorem dL_acts_472 : decode cL_acts 472 = .ok (.if_icmp .ne 7, 3) := by decide +kernel
theorem dL_acts_475 : decode cL_acts 475 = .ok (.iconst 1, 1) := by decide +kernel
theorem dL_acts_476 : decode cL_acts 476 = .ok (.goto 4, 3) := by decide +kernel
theorem dL_acts_479 : decode cL_acts 479 = .ok (.iconst 0, 1) := by decide +kernel
theorem dL_acts_480 : decode cL_acts 480 = .ok (.ireturn, 1) := by decide +kernel
theorem dL_acts_481 : decode cL_acts 481 = .ok (.iconst 1, 1) := by decide +kernel
theorem dL_acts_482 : decode cL_acts 482 = .ok (.iload 5, 2) := by decide +kernel
theorem dL_acts_484 : decode cL_acts 484 = .ok (.iload 5, 2) := by decide +kernel
theorem dL_acts_486 : decode cL_acts 486 = .ok (.bipush 7, 2) := by decide +kernel
theorem dL_acts_488 : decode cL_acts 488 = .ok (.ishr, 1) := by decide +kernel
theorem dL_acts_489 : decode cL_acts 489 = .ok (.iconst 4, 1) := by decide +kernel
theorem dL_acts_490 : decode cL_acts 490 = .ok (.invokestatic 87, 3) := by decide +kernel
theorem dL_acts_493 : decode cL_acts 493 = .ok (.ifCond .ne 8, 3) := by decide +kernel
theorem dL_acts_496 : decode cL_acts 496 = .ok (.bipush 40, 2) := by decide +kernel
theorem dL_acts_498 : decode cL_acts 498 = .ok (.goto 4, 3) := by decide +kernel
theorem dL_acts_501 : decode cL_acts 501 = .ok (.iconst 4, 1) := by decide +kernel
theorem dL_acts_502 : decode cL_acts 502 = .ok (.invokestatic 87, 3) := by decide +kernel
theorem dL_acts_505 : decode cL_acts 505 = .ok (.iadd, 1) := by decide +kernel
theorem dL_acts_506 : decode cL_acts 506 = .ok (.istore 15, 2) := by decide +kernel
theorem dL_acts_508 : decode cL_acts 508 = .ok (.aload_n 3, 1) := by decide +kernel
theorem dL_acts_509 : decode cL_acts 509 = .ok (.iconst 2, 1) := by decide +kernel
theorem dL_acts_510 : decode cL_acts 510 = .ok (.iaload, 1) := by decide +kernel
theorem dL_acts_511 : decode cL_acts 511 = .ok (.istore 16, 2) := by decide +kernel
theorem dL_acts_513 : decode cL_acts 513 = .ok (.iconst 0, 1) := by decide +kernel
theorem dL_acts_514 : decode cL_acts 514 = .ok (.istore 17, 2) := by decide +kernel
theorem dL_acts_516 : decode cL_acts 516 = .ok (.iload 17, 2) := by decide +kernel
theorem dL_acts_518 : decode cL_acts 518 = .ok (.iload 15, 2) := by decide +kernel
theorem dL_acts_520 : decode cL_acts 520 = .ok (.if_icmp .ge 15, 3) := by decide +kernel
theorem dL_acts_523 : decode cL_acts 523 = .ok (.aload_n 1, 1) := by decide +kernel
theorem dL_acts_524 : decode cL_acts 524 = .ok (.aload_n 2, 1) := by decide +kernel
theorem dL_acts_525 : decode cL_acts 525 = .ok (.aload_n 3, 1) := by decide +kernel
theorem dL_acts_526 : decode cL_acts 526 = .ok (.invokestatic 80, 3) := by decide +kernel
theorem dL_acts_529 : decode cL_acts 529 = .ok (.iinc 17 1, 3) := by decide +kernel
theorem dL_acts_532 : decode cL_acts 532 = .ok (.goto (-16), 3) := by decide +kernel
theorem dL_acts_535 : decode cL_acts 535 = .ok (.aload_n 0, 1) := by decide +kernel
theorem dL_acts_536 : decode cL_acts 536 = .ok (.iload 15, 2) := by decide +kernel
theorem dL_acts_538 : decode cL_acts 538 = .ok (.invokevirtual 110, 3) := by decide +kernel
theorem dL_acts_541 : decode cL_acts 541 = .ok (.aload_n 3, 1) := by decide +kernel
theorem dL_acts_542 : decode cL_acts 542 = .ok (.iconst 2, 1) := by decide +kernel
theorem dL_acts_543 : decode cL_acts 543 = .ok (.iaload, 1) := by decide +kernel
theorem dL_acts_544 : decode cL_acts 544 = .ok (.iload 16, 2) := by decide +kernel
theorem dL_acts_546 : decode cL_acts 546 = .ok (.isub, 1) := by decide +kernel
theorem dL_acts_547 : decode cL_acts 547 = .ok (.if_icmp .ne 7, 3) := by decide +kernel
theorem dL_acts_550 : decode cL_acts 550 = .ok (.iconst 1, 1) := by decide +kernel
theorem dL_acts_551 : decode cL_acts 551 = .ok (.goto 4, 3) := by decide +kernel
theorem dL_acts_554 : decode cL_acts 554 = .ok (.iconst 0, 1) := by decide +kernel
theorem dL_acts_555 : decode cL_acts 555 = .ok (.ireturn, 1) := by decide +kernel
theorem dL_law_0 : decode cL_law 0 = .ok (.new 36, 3) := by decide +kernel
theorem dL_law_3 : decode cL_law 3 = .ok (.dup, 1) := by decide +kernel
theorem dL_law_4 : decode cL_law 4 = .ok (.invokespecial 113, 3) := by decide +kernel
theorem dL_law_7 : decode cL_law 7 = .ok (.astore_n 1, 1) := by decide +kernel
theorem dL_law_8 : decode cL_law 8 = .ok (.bipush 42, 2) := by decide +kernel
theorem dL_law_10 : decode cL_law 10 = .ok (.newarray .int, 2) := by decide +kernel
theorem dL_law_12 : decode cL_law 12 = .ok (.astore_n 2, 1) := by decide +kernel
theorem dL_law_13 : decode cL_law 13 = .ok (.bipush 12, 2) := by decide +kernel
theorem dL_law_15 : decode cL_law 15 = .ok (.newarray .int, 2) := by decide +kernel
theorem dL_law_17 : decode cL_law 17 = .ok (.astore_n 3, 1) := by decide +kernel
theorem dL_law_18 : decode cL_law 18 = .ok (.bipush 9, 2) := by decide +kernel
theorem dL_law_20 : decode cL_law 20 = .ok (.newarray .int, 2) := by decide +kernel
theorem dL_law_22 : decode cL_law 22 = .ok (.astore 4, 2) := by decide +kernel
theorem dL_law_24 : decode cL_law 24 = .ok (.aload 4, 2) := by decide +kernel
theorem dL_law_26 : decode cL_law 26 = .ok (.bipush 6, 2) := by decide +kernel
theorem dL_law_28 : decode cL_law 28 = .ok (.iconst 3, 1) := by decide +kernel
theorem dL_law_29 : decode cL_law 29 = .ok (.iastore, 1) := by decide +kernel
theorem dL_law_30 : decode cL_law 30 = .ok (.iconst 0, 1) := by decide +kernel
theorem dL_law_31 : decode cL_law 31 = .ok (.istore 5, 2) := by decide +kernel
theorem dL_law_33 : decode cL_law 33 = .ok (.iload 5, 2) := by decide +kernel
theorem dL_law_35 : decode cL_law 35 = .ok (.iconst 3, 1) := by decide +kernel
theorem dL_law_36 : decode cL_law 36 = .ok (.if_icmp .ge 35, 3) := by decide +kernel
theorem dL_law_39 : decode cL_law 39 = .ok (.aload_n 3, 1) := by decide +kernel
theorem dL_law_40 : decode cL_law 40 = .ok (.iconst 4, 1) := by decide +kernel
theorem dL_law_41 : decode cL_law 41 = .ok (.iload 5, 2) := by decide +kernel
theorem dL_law_43 : decode cL_law 43 = .ok (.imul, 1) := by decide +kernel
theorem dL_law_44 : decode cL_law 44 = .ok (.iload 5, 2) := by decide +kernel
theorem dL_law_46 : decode cL_law 46 = .ok (.iastore, 1) := by decide +kernel
theorem dL_law_47 : decode cL_law 47 = .ok (.aload_n 3, 1) := by decide +kernel
theorem dL_law_48 : decode cL_law 48 = .ok (.iconst 4, 1) := by decide +kernel
theorem dL_law_49 : decode cL_law 49 = .ok (.iload 5, 2) := by decide +kernel
theorem dL_law_51 : decode cL_law 51 = .ok (.imul, 1) := by decide +kernel
theorem dL_law_52 : decode cL_law 52 = .ok (.iconst 1, 1) := by decide +kernel
theorem dL_law_53 : decode cL_law 53 = .ok (.iadd, 1) := by decide +kernel
theorem dL_law_54 : decode cL_law 54 = .ok (.iconst 1, 1) := by decide +kernel
theorem dL_law_55 : decode cL_law 55 = .ok (.iastore, 1) := by decide +kernel
theorem dL_law_56 : decode cL_law 56 = .ok (.aload_n 3, 1) := by decide +kernel
theorem dL_law_57 : decode cL_law 57 = .ok (.iconst 4, 1) := by decide +kernel
theorem dL_law_58 : decode cL_law 58 = .ok (.iload 5, 2) := by decide +kernel
theorem dL_law_60 : decode cL_law 60 = .ok (.imul, 1) := by decide +kernel
theorem dL_law_61 : decode cL_law 61 = .ok (.iconst 3, 1) := by decide +kernel
theorem dL_law_62 : decode cL_law 62 = .ok (.iadd, 1) := by decide +kernel
theorem dL_law_63 : decode cL_law 63 = .ok (.iconst 1, 1) := by decide +kernel
theorem dL_law_64 : decode cL_law 64 = .ok (.iastore, 1) := by decide +kernel
theorem dL_law_65 : decode cL_law 65 = .ok (.iinc 5 1, 3) := by decide +kernel
theorem dL_law_68 : decode cL_law 68 = .ok (.goto (-35), 3) := by decide +kernel
theorem dL_law_71 : decode cL_law 71 = .ok (.aload_n 1, 1) := by decide +kernel
theorem dL_law_72 : decode cL_law 72 = .ok (.aload_n 2, 1) := by decide +kernel
theorem dL_law_73 : decode cL_law 73 = .ok (.aload_n 3, 1) := by decide +kernel
theorem dL_law_74 : decode cL_law 74 = .ok (.aload 4, 2) := by decide +kernel
theorem dL_law_76 : decode cL_law 76 = .ok (.invokestatic 114, 3) := by decide +kernel
theorem dL_law_79 : decode cL_law 79 = .ok (.ifCond .eq 38, 3) := by decide +kernel
theorem dL_law_82 : decode cL_law 82 = .ok (.aload_n 1, 1) := by decide +kernel
theorem dL_law_83 : decode cL_law 83 = .ok (.aload_n 2, 1) := by decide +kernel
theorem dL_law_84 : decode cL_law 84 = .ok (.aload_n 3, 1) := by decide +kernel
theorem dL_law_85 : decode cL_law 85 = .ok (.aload 4, 2) := by decide +kernel
theorem dL_law_87 : decode cL_law 87 = .ok (.invokestatic 118, 3) := by decide +kernel
theorem dL_law_90 : decode cL_law 90 = .ok (.ifCond .eq 27, 3) := by decide +kernel
theorem dL_law_93 : decode cL_law 93 = .ok (.aload_n 1, 1) := by decide +kernel
theorem dL_law_94 : decode cL_law 94 = .ok (.invokevirtual 72, 3) := by decide +kernel
theorem dL_law_97 : decode cL_law 97 = .ok (.bipush (-5), 2) := by decide +kernel
theorem dL_law_99 : decode cL_law 99 = .ok (.if_icmp .ne 18, 3) := by decide +kernel
theorem dL_law_102 : decode cL_law 102 = .ok (.aload_n 1, 1) := by decide +kernel
theorem dL_law_103 : decode cL_law 103 = .ok (.iconst 1, 1) := by decide +kernel
theorem dL_law_104 : decode cL_law 104 = .ok (.iconst 1, 1) := by decide +kernel
theorem dL_law_105 : decode cL_law 105 = .ok (.invokevirtual 84, 3) := by decide +kernel
theorem dL_law_108 : decode cL_law 108 = .ok (.bipush (-5), 2) := by decide +kernel
theorem dL_law_110 : decode cL_law 110 = .ok (.if_icmp .ne 7, 3) := by decide +kernel
theorem dL_law_113 : decode cL_law 113 = .ok (.iconst 1, 1) := by decide +kernel
theorem dL_law_114 : decode cL_law 114 = .ok (.goto 4, 3) := by decide +kernel
theorem dL_law_117 : decode cL_law 117 = .ok (.iconst 0, 1) := by decide +kernel
theorem dL_law_118 : decode cL_law 118 = .ok (.istore 5, 2) := by decide +kernel
theorem dL_law_120 : decode cL_law 120 = .ok (.iconst 0, 1) := by decide +kernel
theorem dL_law_121 : decode cL_law 121 = .ok (.istore 6, 2) := by decide +kernel
theorem dL_law_123 : decode cL_law 123 = .ok (.iload 6, 2) := by decide +kernel
theorem dL_law_125 : decode cL_law 125 = .ok (.bipush 36, 2) := by decide +kernel
theorem dL_law_127 : decode cL_law 127 = .ok (.if_icmp .ge 158, 3) := by decide +kernel
theorem dL_law_130 : decode cL_law 130 = .ok (.iload 5, 2) := by decide +kernel
theorem dL_law_132 : decode cL_law 132 = .ok (.ifCond .eq 153, 3) := by decide +kernel
theorem dL_law_135 : decode cL_law 135 = .ok (.aload_n 0, 1) := by decide +kernel
theorem dL_law_136 : decode cL_law 136 = .ok (.iload 6, 2) := by decide +kernel
theorem dL_law_138 : decode cL_law 138 = .ok (.invokestatic 121, 3) := by decide +kernel
theorem dL_law_141 : decode cL_law 141 = .ok (.istore 7, 2) := by decide +kernel
theorem dL_law_143 : decode cL_law 143 = .ok (.aload_n 1, 1) := by decide +kernel
theorem dL_law_144 : decode cL_law 144 = .ok (.aload_n 2, 1) := by decide +kernel
theorem dL_law_145 : decode cL_law 145 = .ok (.aload_n 3, 1) := by decide +kernel
theorem dL_law_146 : decode cL_law 146 = .ok (.aload 4, 2) := by decide +kernel
theorem dL_law_148 : decode cL_law 148 = .ok (.iload 6, 2) := by decide +kernel
theorem dL_law_150 : decode cL_law 150 = .ok (.iconst 4, 1) := by decide +kernel
theorem dL_law_151 : decode cL_law 151 = .ok (.if_icmp .ge 7, 3) := by decide +kernel
theorem dL_law_154 : decode cL_law 154 = .ok (.iconst 0, 1) := by decide +kernel
theorem dL_law_155 : decode cL_law 155 = .ok (.goto 13, 3) := by decide +kernel
theorem dL_law_158 : decode cL_law 158 = .ok (.iload 7, 2) := by decide +kernel
theorem dL_law_160 : decode cL_law 160 = .ok (.bipush 18, 2) := by decide +kernel
theorem dL_law_162 : decode cL_law 162 = .ok (.ishr, 1) := by decide +kernel
theorem dL_law_163 : decode cL_law 163 = .ok (.bipush 14, 2) := by decide +kernel
theorem dL_law_165 : decode cL_law 165 = .ok (.invokestatic 87, 3) := by decide +kernel
theorem dL_law_168 : decode cL_law 168 = .ok (.iload 7, 2) := by decide +kernel
theorem dL_law_170 : decode cL_law 170 = .ok (.invokestatic 125, 3) := by decide +kernel
theorem dL_law_173 : decode cL_law 173 = .ok (.ifCond .eq 103, 3) := by decide +kernel
theorem dL_law_176 : decode cL_law 176 = .ok (.aload_n 1, 1) := by decide +kernel
theorem dL_law_177 : decode cL_law 177 = .ok (.aload_n 2, 1) := by decide +kernel
theorem dL_law_178 : decode cL_law 178 = .ok (.aload_n 3, 1) := by decide +kernel
theorem dL_law_179 : decode cL_law 179 = .ok (.aload 4, 2) := by decide +kernel
theorem dL_law_181 : decode cL_law 181 = .ok (.invokestatic 114, 3) := by decide +kernel
theorem dL_law_184 : decode cL_law 184 = .ok (.ifCond .eq 92, 3) := by decide +kernel
theorem dL_law_187 : decode cL_law 187 = .ok (.aload_n 1, 1) := by decide +kernel
theorem dL_law_188 : decode cL_law 188 = .ok (.aload_n 2, 1) := by decide +kernel
theorem dL_law_189 : decode cL_law 189 = .ok (.aload_n 3, 1) := by decide +kernel
theorem dL_law_190 : decode cL_law 190 = .ok (.aload 4, 2) := by decide +kernel
theorem dL_law_192 : decode cL_law 192 = .ok (.invokestatic 118, 3) := by decide +kernel
theorem dL_law_195 : decode cL_law 195 = .ok (.ifCond .eq 81, 3) := by decide +kernel
theorem dL_law_198 : decode cL_law 198 = .ok (.aload_n 1, 1) := by decide +kernel
theorem dL_law_199 : decode cL_law 199 = .ok (.aload_n 2, 1) := by decide +kernel
theorem dL_law_200 : decode cL_law 200 = .ok (.aload_n 3, 1) := by decide +kernel
theorem dL_law_201 : decode cL_law 201 = .ok (.aload 4, 2) := by decide +kernel
theorem dL_law_203 : decode cL_law 203 = .ok (.iload 7, 2) := by decide +kernel
theorem dL_law_205 : decode cL_law 205 = .ok (.iconst 5, 1) := by decide +kernel
theorem dL_law_206 : decode cL_law 206 = .ok (.ishr, 1) := by decide +kernel
theorem dL_law_207 : decode cL_law 207 = .ok (.aload 4, 2) := by decide +kernel
theorem dL_law_209 : decode cL_law 209 = .ok (.bipush 8, 2) := by decide +kernel
theorem dL_law_211 : decode cL_law 211 = .ok (.iaload, 1) := by decide +kernel
theorem dL_law_212 : decode cL_law 212 = .ok (.invokestatic 87, 3) := by decide +kernel
theorem dL_law_215 : decode cL_law 215 = .ok (.iload 7, 2) := by decide +kernel
theorem dL_law_217 : decode cL_law 217 = .ok (.bipush 8, 2) := by decide +kernel
theorem dL_law_219 : decode cL_law 219 = .ok (.ishr, 1) := by decide +kernel
theorem dL_law_220 : decode cL_law 220 = .ok (.iconst 3, 1) := by decide +kernel
theorem dL_law_221 : decode cL_law 221 = .ok (.invokestatic 87, 3) := by decide +kernel
theorem dL_law_224 : decode cL_law 224 = .ok (.invokestatic 129, 3) := by decide +kernel
theorem dL_law_227 : decode cL_law 227 = .ok (.ifCond .eq 49, 3) := by decide +kernel
theorem dL_law_230 : decode cL_law 230 = .ok (.iload 6, 2) := by decide +kernel
theorem dL_law_232 : decode cL_law 232 = .ok (.iconst 3, 1) := by decide +kernel
theorem dL_law_233 : decode cL_law 233 = .ok (.irem, 1) := by decide +kernel
theorem dL_law_234 : decode cL_law 234 = .ok (.iconst 2, 1) := by decide +kernel
theorem dL_law_235 : decode cL_law 235 = .ok (.if_icmp .ne 37, 3) := by decide +kernel
theorem dL_law_238 : decode cL_law 238 = .ok (.aload_n 1, 1) := by decide +kernel
theorem dL_law_239 : decode cL_law 239 = .ok (.aload_n 2, 1) := by decide +kernel
theorem dL_law_240 : decode cL_law 240 = .ok (.aload_n 3, 1) := by decide +kernel
theorem dL_law_241 : decode cL_law 241 = .ok (.aload 4, 2) := by decide +kernel
theorem dL_law_243 : decode cL_law 243 = .ok (.invokestatic 132, 3) := by decide +kernel
theorem dL_law_246 : decode cL_law 246 = .ok (.ifCond .eq 30, 3) := by decide +kernel
theorem dL_law_249 : decode cL_law 249 = .ok (.aload_n 1, 1) := by decide +kernel
theorem dL_law_250 : decode cL_law 250 = .ok (.aload_n 2, 1) := by decide +kernel
theorem dL_law_251 : decode cL_law 251 = .ok (.aload_n 3, 1) := by decide +kernel
theorem dL_law_252 : decode cL_law 252 = .ok (.aload 4, 2) := by decide +kernel
theorem dL_law_254 : decode cL_law 254 = .ok (.iconst 1, 1) := by decide +kernel
theorem dL_law_255 : decode cL_law 255 = .ok (.iload 7, 2) := by decide +kernel
theorem dL_law_257 : decode cL_law 257 = .ok (.bipush 6, 2) := by decide +kernel
theorem dL_law_259 : decode cL_law 259 = .ok (.ishr, 1) := by decide +kernel
theorem dL_law_260 : decode cL_law 260 = .ok (.bipush 99, 2) := by decide +kernel
theorem dL_law_262 : decode cL_law 262 = .ok (.invokestatic 87, 3) := by decide +kernel
theorem dL_law_265 : decode cL_law 265 = .ok (.iadd, 1) := by decide +kernel
theorem dL_law_266 : decode cL_law 266 = .ok (.invokestatic 135, 3) := by decide +kernel
theorem dL_law_269 : decode cL_law 269 = .ok (.ifCond .eq 7, 3) := by decide +kernel
theorem dL_law_272 : decode cL_law 272 = .ok (.iconst 1, 1) := by decide +kernel
theorem dL_law_273 : decode cL_law 273 = .ok (.goto 4, 3) := by decide +kernel
theorem dL_law_276 : decode cL_law 276 = .ok (.iconst 0, 1) := by decide +kernel
theorem dL_law_277 : decode cL_law 277 = .ok (.istore 5, 2) := by decide +kernel
theorem dL_law_279 : decode cL_law 279 = .ok (.iinc 6 1, 3) := by decide +kernel
theorem dL_law_282 : decode cL_law 282 = .ok (.goto (-159), 3) := by decide +kernel
theorem dL_law_285 : decode cL_law 285 = .ok (.iload 5, 2) := by decide +kernel
theorem dL_law_287 : decode cL_law 287 = .ok (.ireturn, 1) := by decide +kernel
