theorem dX0_init_0 : decode cX0_init 0 = .ok (.aload_n 0, 1) := by decide +kernel
theorem dX0_init_1 : decode cX0_init 1 = .ok (.invokespecial 3, 3) := by decide +kernel
theorem dX0_init_4 : decode cX0_init 4 = .ok (.aload_n 0, 1) := by decide +kernel
theorem dX0_init_5 : decode cX0_init 5 = .ok (.bipush 100, 2) := by decide +kernel
theorem dX0_init_7 : decode cX0_init 7 = .ok (.newarray .boolean, 2) := by decide +kernel
theorem dX0_init_9 : decode cX0_init 9 = .ok (.putfield 9, 3) := by decide +kernel
theorem dX0_init_12 : decode cX0_init 12 = .ok (.aload_n 0, 1) := by decide +kernel
theorem dX0_init_13 : decode cX0_init 13 = .ok (.bipush 100, 2) := by decide +kernel
theorem dX0_init_15 : decode cX0_init 15 = .ok (.newarray .boolean, 2) := by decide +kernel
theorem dX0_init_17 : decode cX0_init 17 = .ok (.putfield 15, 3) := by decide +kernel
theorem dX0_init_20 : decode cX0_init 20 = .ok (.aload_n 0, 1) := by decide +kernel
theorem dX0_init_21 : decode cX0_init 21 = .ok (.bipush 100, 2) := by decide +kernel
theorem dX0_init_23 : decode cX0_init 23 = .ok (.newarray .int, 2) := by decide +kernel
theorem dX0_init_25 : decode cX0_init 25 = .ok (.putfield 18, 3) := by decide +kernel
theorem dX0_init_28 : decode cX0_init 28 = .ok (.aload_n 0, 1) := by decide +kernel
theorem dX0_init_29 : decode cX0_init 29 = .ok (.bipush 100, 2) := by decide +kernel
theorem dX0_init_31 : decode cX0_init 31 = .ok (.newarray .int, 2) := by decide +kernel
theorem dX0_init_33 : decode cX0_init 33 = .ok (.putfield 22, 3) := by decide +kernel
theorem dX0_init_36 : decode cX0_init 36 = .ok (.aload_n 0, 1) := by decide +kernel
theorem dX0_init_37 : decode cX0_init 37 = .ok (.iconst 0, 1) := by decide +kernel
theorem dX0_init_38 : decode cX0_init 38 = .ok (.putfield 25, 3) := by decide +kernel
theorem dX0_init_41 : decode cX0_init 41 = .ok (.return_, 1) := by decide +kernel
theorem dX0_clear_0 : decode cX0_clear 0 = .ok (.aload_n 0, 1) := by decide +kernel
theorem dX0_clear_1 : decode cX0_clear 1 = .ok (.iconst 0, 1) := by decide +kernel
theorem dX0_clear_2 : decode cX0_clear 2 = .ok (.putfield 25, 3) := by decide +kernel
theorem dX0_clear_5 : decode cX0_clear 5 = .ok (.iconst 0, 1) := by decide +kernel
theorem dX0_clear_6 : decode cX0_clear 6 = .ok (.istore_n 1, 1) := by decide +kernel
theorem dX0_clear_7 : decode cX0_clear 7 = .ok (.iload_n 1, 1) := by decide +kernel
theorem dX0_clear_8 : decode cX0_clear 8 = .ok (.bipush 100, 2) := by decide +kernel
theorem dX0_clear_10 : decode cX0_clear 10 = .ok (.if_icmp .ge 23, 3) := by decide +kernel
theorem dX0_clear_13 : decode cX0_clear 13 = .ok (.aload_n 0, 1) := by decide +kernel
theorem dX0_clear_14 : decode cX0_clear 14 = .ok (.getfield 9, 3) := by decide +kernel
theorem dX0_clear_17 : decode cX0_clear 17 = .ok (.iload_n 1, 1) := by decide +kernel
theorem dX0_clear_18 : decode cX0_clear 18 = .ok (.iconst 0, 1) := by decide +kernel
theorem dX0_clear_19 : decode cX0_clear 19 = .ok (.bastore, 1) := by decide +kernel
theorem dX0_clear_20 : decode cX0_clear 20 = .ok (.aload_n 0, 1) := by decide +kernel
theorem dX0_clear_21 : decode cX0_clear 21 = .ok (.getfield 15, 3) := by decide +kernel
theorem dX0_clear_24 : decode cX0_clear 24 = .ok (.iload_n 1, 1) := by decide +kernel
theorem dX0_clear_25 : decode cX0_clear 25 = .ok (.iconst 0, 1) := by decide +kernel
theorem dX0_clear_26 : decode cX0_clear 26 = .ok (.bastore, 1) := by decide +kernel
theorem dX0_clear_27 : decode cX0_clear 27 = .ok (.iinc 1 1, 3) := by decide +kernel
theorem dX0_clear_30 : decode cX0_clear 30 = .ok (.goto (-23), 3) := by decide +kernel
theorem dX0_clear_33 : decode cX0_clear 33 = .ok (.return_, 1) := by decide +kernel
theorem dX0_darken_0 : decode cX0_darken 0 = .ok (.iload_n 1, 1) := by decide +kernel
theorem dX0_darken_1 : decode cX0_darken 1 = .ok (.invokestatic 29, 3) := by decide +kernel
theorem dX0_darken_4 : decode cX0_darken 4 = .ok (.ifCond .eq 10, 3) := by decide +kernel
theorem dX0_darken_7 : decode cX0_darken 7 = .ok (.aload_n 0, 1) := by decide +kernel
theorem dX0_darken_8 : decode cX0_darken 8 = .ok (.getfield 9, 3) := by decide +kernel
theorem dX0_darken_11 : decode cX0_darken 11 = .ok (.iload_n 1, 1) := by decide +kernel
theorem dX0_darken_12 : decode cX0_darken 12 = .ok (.iconst 1, 1) := by decide +kernel
theorem dX0_darken_13 : decode cX0_darken 13 = .ok (.bastore, 1) := by decide +kernel
theorem dX0_darken_14 : decode cX0_darken 14 = .ok (.return_, 1) := by decide +kernel
theorem dX0_block_0 : decode cX0_block 0 = .ok (.iload_n 1, 1) := by decide +kernel
theorem dX0_block_1 : decode cX0_block 1 = .ok (.invokestatic 29, 3) := by decide +kernel
theorem dX0_block_4 : decode cX0_block 4 = .ok (.ifCond .eq 10, 3) := by decide +kernel
theorem dX0_block_7 : decode cX0_block 7 = .ok (.aload_n 0, 1) := by decide +kernel
theorem dX0_block_8 : decode cX0_block 8 = .ok (.getfield 15, 3) := by decide +kernel
theorem dX0_block_11 : decode cX0_block 11 = .ok (.iload_n 1, 1) := by decide +kernel
theorem dX0_block_12 : decode cX0_block 12 = .ok (.iconst 1, 1) := by decide +kernel
theorem dX0_block_13 : decode cX0_block 13 = .ok (.bastore, 1) := by decide +kernel
theorem dX0_block_14 : decode cX0_block 14 = .ok (.return_, 1) := by decide +kernel
theorem dX0_darkCells_0 : decode cX0_darkCells 0 = .ok (.iconst 0, 1) := by decide +kernel
theorem dX0_darkCells_1 : decode cX0_darkCells 1 = .ok (.istore_n 1, 1) := by decide +kernel
theorem dX0_darkCells_2 : decode cX0_darkCells 2 = .ok (.iconst 0, 1) := by decide +kernel
theorem dX0_darkCells_3 : decode cX0_darkCells 3 = .ok (.istore_n 2, 1) := by decide +kernel
theorem dX0_darkCells_4 : decode cX0_darkCells 4 = .ok (.iload_n 2, 1) := by decide +kernel
theorem dX0_darkCells_5 : decode cX0_darkCells 5 = .ok (.bipush 100, 2) := by decide +kernel
theorem dX0_darkCells_7 : decode cX0_darkCells 7 = .ok (.if_icmp .ge 21, 3) := by decide +kernel
theorem dX0_darkCells_10 : decode cX0_darkCells 10 = .ok (.aload_n 0, 1) := by decide +kernel
theorem dX0_darkCells_11 : decode cX0_darkCells 11 = .ok (.getfield 9, 3) := by decide +kernel
theorem dX0_darkCells_14 : decode cX0_darkCells 14 = .ok (.iload_n 2, 1) := by decide +kernel
theorem dX0_darkCells_15 : decode cX0_darkCells 15 = .ok (.baload, 1) := by decide +kernel
theorem dX0_darkCells_16 : decode cX0_darkCells 16 = .ok (.ifCond .eq 6, 3) := by decide +kernel
theorem dX0_darkCells_19 : decode cX0_darkCells 19 = .ok (.iinc 1 1, 3) := by decide +kernel
theorem dX0_darkCells_22 : decode cX0_darkCells 22 = .ok (.iinc 2 1, 3) := by decide +kernel
theorem dX0_darkCells_25 : decode cX0_darkCells 25 = .ok (.goto (-21), 3) := by decide +kernel
theorem dX0_darkCells_28 : decode cX0_darkCells 28 = .ok (.iload_n 1, 1) := by decide +kernel
theorem dX0_darkCells_29 : decode cX0_darkCells 29 = .ok (.ireturn, 1) := by decide +kernel
theorem dX0_stepsIntoTheDark_0 : decode cX0_stepsIntoTheDark 0 = .ok (.aload_n 0, 1) := by decide +kernel
theorem dX0_stepsIntoTheDark_1 : decode cX0_stepsIntoTheDark 1 = .ok (.iload_n 1, 1) := by decide +kernel
theorem dX0_stepsIntoTheDark_2 : decode cX0_stepsIntoTheDark 2 = .ok (.iconst 0, 1) := by decide +kernel
theorem dX0_stepsIntoTheDark_3 : decode cX0_stepsIntoTheDark 3 = .ok (.invokevirtual 33, 3) := by decide +kernel
theorem dX0_stepsIntoTheDark_6 : decode cX0_stepsIntoTheDark 6 = .ok (.iconst 0, 1) := by decide +kernel
theorem dX0_stepsIntoTheDark_7 : decode cX0_stepsIntoTheDark 7 = .ok (.istore_n 2, 1) := by decide +kernel
theorem dX0_stepsIntoTheDark_8 : decode cX0_stepsIntoTheDark 8 = .ok (.iload_n 2, 1) := by decide +kernel
theorem dX0_stepsIntoTheDark_9 : decode cX0_stepsIntoTheDark 9 = .ok (.aload_n 0, 1) := by decide +kernel
theorem dX0_stepsIntoTheDark_10 : decode cX0_stepsIntoTheDark 10 = .ok (.getfield 25, 3) := by decide +kernel
theorem dX0_stepsIntoTheDark_13 : decode cX0_stepsIntoTheDark 13 = .ok (.if_icmp .ge 91, 3) := by decide +kernel
theorem dX0_stepsIntoTheDark_16 : decode cX0_stepsIntoTheDark 16 = .ok (.iload_n 2, 1) := by decide +kernel
theorem dX0_stepsIntoTheDark_17 : decode cX0_stepsIntoTheDark 17 = .ok (.bipush 100, 2) := by decide +kernel
theorem dX0_stepsIntoTheDark_19 : decode cX0_stepsIntoTheDark 19 = .ok (.if_icmp .ge 85, 3) := by decide +kernel
theorem dX0_stepsIntoTheDark_22 : decode cX0_stepsIntoTheDark 22 = .ok (.aload_n 0, 1) := by decide +kernel
theorem dX0_stepsIntoTheDark_23 : decode cX0_stepsIntoTheDark 23 = .ok (.getfield 22, 3) := by decide +kernel
theorem dX0_stepsIntoTheDark_26 : decode cX0_stepsIntoTheDark 26 = .ok (.iload_n 2, 1) := by decide +kernel
theorem dX0_stepsIntoTheDark_27 : decode cX0_stepsIntoTheDark 27 = .ok (.iaload, 1) := by decide +kernel
theorem dX0_stepsIntoTheDark_28 : decode cX0_stepsIntoTheDark 28 = .ok (.istore_n 3, 1) := by decide +kernel
theorem dX0_stepsIntoTheDark_29 : decode cX0_stepsIntoTheDark 29 = .ok (.iload_n 3, 1) := by decide +kernel
theorem dX0_stepsIntoTheDark_30 : decode cX0_stepsIntoTheDark 30 = .ok (.invokestatic 29, 3) := by decide +kernel
theorem dX0_stepsIntoTheDark_33 : decode cX0_stepsIntoTheDark 33 = .ok (.ifCond .ne 6, 3) := by decide +kernel
theorem dX0_stepsIntoTheDark_36 : decode cX0_stepsIntoTheDark 36 = .ok (.bipush (-5), 2) := by decide +kernel
theorem dX0_stepsIntoTheDark_38 : decode cX0_stepsIntoTheDark 38 = .ok (.ireturn, 1) := by decide +kernel
theorem dX0_stepsIntoTheDark_39 : decode cX0_stepsIntoTheDark 39 = .ok (.aload_n 0, 1) := by decide +kernel
theorem dX0_stepsIntoTheDark_40 : decode cX0_stepsIntoTheDark 40 = .ok (.getfield 9, 3) := by decide +kernel
theorem dX0_stepsIntoTheDark_43 : decode cX0_stepsIntoTheDark 43 = .ok (.iload_n 3, 1) := by decide +kernel
theorem dX0_stepsIntoTheDark_44 : decode cX0_stepsIntoTheDark 44 = .ok (.baload, 1) := by decide +kernel
theorem dX0_stepsIntoTheDark_45 : decode cX0_stepsIntoTheDark 45 = .ok (.ifCond .eq 10, 3) := by decide +kernel
theorem dX0_stepsIntoTheDark_48 : decode cX0_stepsIntoTheDark 48 = .ok (.aload_n 0, 1) := by decide +kernel
theorem dX0_stepsIntoTheDark_49 : decode cX0_stepsIntoTheDark 49 = .ok (.getfield 18, 3) := by decide +kernel
theorem dX0_stepsIntoTheDark_52 : decode cX0_stepsIntoTheDark 52 = .ok (.iload_n 3, 1) := by decide +kernel
theorem dX0_stepsIntoTheDark_53 : decode cX0_stepsIntoTheDark 53 = .ok (.iaload, 1) := by decide +kernel
theorem dX0_stepsIntoTheDark_54 : decode cX0_stepsIntoTheDark 54 = .ok (.ireturn, 1) := by decide +kernel
theorem dX0_stepsIntoTheDark_55 : decode cX0_stepsIntoTheDark 55 = .ok (.iconst 0, 1) := by decide +kernel
theorem dX0_stepsIntoTheDark_56 : decode cX0_stepsIntoTheDark 56 = .ok (.istore 4, 2) := by decide +kernel
theorem dX0_stepsIntoTheDark_58 : decode cX0_stepsIntoTheDark 58 = .ok (.iload 4, 2) := by decide +kernel
theorem dX0_stepsIntoTheDark_60 : decode cX0_stepsIntoTheDark 60 = .ok (.iconst 4, 1) := by decide +kernel
theorem dX0_stepsIntoTheDark_61 : decode cX0_stepsIntoTheDark 61 = .ok (.if_icmp .ge 37, 3) := by decide +kernel
theorem dX0_stepsIntoTheDark_64 : decode cX0_stepsIntoTheDark 64 = .ok (.iload_n 3, 1) := by decide +kernel
theorem dX0_stepsIntoTheDark_65 : decode cX0_stepsIntoTheDark 65 = .ok (.iload 4, 2) := by decide +kernel
theorem dX0_stepsIntoTheDark_67 : decode cX0_stepsIntoTheDark 67 = .ok (.invokestatic 37, 3) := by decide +kernel
theorem dX0_stepsIntoTheDark_70 : decode cX0_stepsIntoTheDark 70 = .ok (.ifCond .le 22, 3) := by decide +kernel
theorem dX0_stepsIntoTheDark_73 : decode cX0_stepsIntoTheDark 73 = .ok (.aload_n 0, 1) := by decide +kernel
theorem dX0_stepsIntoTheDark_74 : decode cX0_stepsIntoTheDark 74 = .ok (.iload_n 3, 1) := by decide +kernel
theorem dX0_stepsIntoTheDark_75 : decode cX0_stepsIntoTheDark 75 = .ok (.iload 4, 2) := by decide +kernel
theorem dX0_stepsIntoTheDark_77 : decode cX0_stepsIntoTheDark 77 = .ok (.iconst 1, 1) := by decide +kernel
theorem dX0_stepsIntoTheDark_78 : decode cX0_stepsIntoTheDark 78 = .ok (.invokestatic 41, 3) := by decide +kernel
theorem dX0_stepsIntoTheDark_81 : decode cX0_stepsIntoTheDark 81 = .ok (.aload_n 0, 1) := by decide +kernel
theorem dX0_stepsIntoTheDark_82 : decode cX0_stepsIntoTheDark 82 = .ok (.getfield 18, 3) := by decide +kernel
theorem dX0_stepsIntoTheDark_85 : decode cX0_stepsIntoTheDark 85 = .ok (.iload_n 3, 1) := by decide +kernel
theorem dX0_stepsIntoTheDark_86 : decode cX0_stepsIntoTheDark 86 = .ok (.iaload, 1) := by decide +kernel
theorem dX0_stepsIntoTheDark_87 : decode cX0_stepsIntoTheDark 87 = .ok (.iconst 1, 1) := by decide +kernel
theorem dX0_stepsIntoTheDark_88 : decode cX0_stepsIntoTheDark 88 = .ok (.iadd, 1) := by decide +kernel
theorem dX0_stepsIntoTheDark_89 : decode cX0_stepsIntoTheDark 89 = .ok (.invokevirtual 33, 3) := by decide +kernel
theorem dX0_stepsIntoTheDark_92 : decode cX0_stepsIntoTheDark 92 = .ok (.iinc 4 1, 3) := by decide +kernel
theorem dX0_stepsIntoTheDark_95 : decode cX0_stepsIntoTheDark 95 = .ok (.goto (-37), 3) := by decide +kernel
theorem dX0_stepsIntoTheDark_98 : decode cX0_stepsIntoTheDark 98 = .ok (.iinc 2 1, 3) := by decide +kernel
theorem dX0_stepsIntoTheDark_101 : decode cX0_stepsIntoTheDark 101 = .ok (.goto (-93), 3) := by decide +kernel
theorem dX0_stepsIntoTheDark_104 : decode cX0_stepsIntoTheDark 104 = .ok (.bipush (-5), 2) := by decide +kernel
theorem dX0_stepsIntoTheDark_106 : decode cX0_stepsIntoTheDark 106 = .ok (.ireturn, 1) := by decide +kernel
theorem dX0_enter_0 : decode cX0_enter 0 = .ok (.iload_n 1, 1) := by decide +kernel
theorem dX0_enter_1 : decode cX0_enter 1 = .ok (.invokestatic 29, 3) := by decide +kernel
theorem dX0_enter_4 : decode cX0_enter 4 = .ok (.ifCond .eq 55, 3) := by decide +kernel
theorem dX0_enter_7 : decode cX0_enter 7 = .ok (.aload_n 0, 1) := by decide +kernel
theorem dX0_enter_8 : decode cX0_enter 8 = .ok (.getfield 15, 3) := by decide +kernel
theorem dX0_enter_11 : decode cX0_enter 11 = .ok (.iload_n 1, 1) := by decide +kernel
theorem dX0_enter_12 : decode cX0_enter 12 = .ok (.baload, 1) := by decide +kernel
theorem dX0_enter_13 : decode cX0_enter 13 = .ok (.ifCond .ne 46, 3) := by decide +kernel
theorem dX0_enter_16 : decode cX0_enter 16 = .ok (.aload_n 0, 1) := by decide +kernel
theorem dX0_enter_17 : decode cX0_enter 17 = .ok (.getfield 25, 3) := by decide +kernel
theorem dX0_enter_20 : decode cX0_enter 20 = .ok (.bipush 100, 2) := by decide +kernel
theorem dX0_enter_22 : decode cX0_enter 22 = .ok (.if_icmp .ge 37, 3) := by decide +kernel
theorem dX0_enter_25 : decode cX0_enter 25 = .ok (.aload_n 0, 1) := by decide +kernel
theorem dX0_enter_26 : decode cX0_enter 26 = .ok (.getfield 15, 3) := by decide +kernel
theorem dX0_enter_29 : decode cX0_enter 29 = .ok (.iload_n 1, 1) := by decide +kernel
theorem dX0_enter_30 : decode cX0_enter 30 = .ok (.iconst 1, 1) := by decide +kernel
theorem dX0_enter_31 : decode cX0_enter 31 = .ok (.bastore, 1) := by decide +kernel
theorem dX0_enter_32 : decode cX0_enter 32 = .ok (.aload_n 0, 1) := by decide +kernel
theorem dX0_enter_33 : decode cX0_enter 33 = .ok (.getfield 18, 3) := by decide +kernel
theorem dX0_enter_36 : decode cX0_enter 36 = .ok (.iload_n 1, 1) := by decide +kernel
theorem dX0_enter_37 : decode cX0_enter 37 = .ok (.iload_n 2, 1) := by decide +kernel
theorem dX0_enter_38 : decode cX0_enter 38 = .ok (.iastore, 1) := by decide +kernel
theorem dX0_enter_39 : decode cX0_enter 39 = .ok (.aload_n 0, 1) := by decide +kernel
theorem dX0_enter_40 : decode cX0_enter 40 = .ok (.getfield 22, 3) := by decide +kernel
theorem dX0_enter_43 : decode cX0_enter 43 = .ok (.aload_n 0, 1) := by decide +kernel
theorem dX0_enter_44 : decode cX0_enter 44 = .ok (.getfield 25, 3) := by decide +kernel
theorem dX0_enter_47 : decode cX0_enter 47 = .ok (.iload_n 1, 1) := by decide +kernel
theorem dX0_enter_48 : decode cX0_enter 48 = .ok (.iastore, 1) := by decide +kernel
theorem dX0_enter_49 : decode cX0_enter 49 = .ok (.aload_n 0, 1) := by decide +kernel
theorem dX0_enter_50 : decode cX0_enter 50 = .ok (.dup, 1) := by decide +kernel
theorem dX0_enter_51 : decode cX0_enter 51 = .ok (.getfield 25, 3) := by decide +kernel
theorem dX0_enter_54 : decode cX0_enter 54 = .ok (.iconst 1, 1) := by decide +kernel
theorem dX0_enter_55 : decode cX0_enter 55 = .ok (.iadd, 1) := by decide +kernel
theorem dX0_enter_56 : decode cX0_enter 56 = .ok (.putfield 25, 3) := by decide +kernel
theorem dX0_enter_59 : decode cX0_enter 59 = .ok (.return_, 1) := by decide +kernel
theorem dX1_init_0 : decode cX1_init 0 = .ok (.aload_n 0, 1) := by decide +kernel
theorem dX1_init_1 : decode cX1_init 1 = .ok (.invokespecial 3, 3) := by decide +kernel
theorem dX1_init_4 : decode cX1_init 4 = .ok (.aload_n 0, 1) := by decide +kernel
theorem dX1_init_5 : decode cX1_init 5 = .ok (.bipush 60, 2) := by decide +kernel
theorem dX1_init_7 : decode cX1_init 7 = .ok (.newarray .char, 2) := by decide +kernel
theorem dX1_init_9 : decode cX1_init 9 = .ok (.putfield 9, 3) := by decide +kernel
theorem dX1_init_12 : decode cX1_init 12 = .ok (.aload_n 0, 1) := by decide +kernel
theorem dX1_init_13 : decode cX1_init 13 = .ok (.iconst 0, 1) := by decide +kernel
theorem dX1_init_14 : decode cX1_init 14 = .ok (.putfield 15, 3) := by decide +kernel
theorem dX1_init_17 : decode cX1_init 17 = .ok (.aload_n 0, 1) := by decide +kernel
theorem dX1_init_18 : decode cX1_init 18 = .ok (.iconst 0, 1) := by decide +kernel
theorem dX1_init_19 : decode cX1_init 19 = .ok (.putfield 19, 3) := by decide +kernel
theorem dX1_init_22 : decode cX1_init 22 = .ok (.aload_n 0, 1) := by decide +kernel
theorem dX1_init_23 : decode cX1_init 23 = .ok (.bipush 20, 2) := by decide +kernel
theorem dX1_init_25 : decode cX1_init 25 = .ok (.newarray .int, 2) := by decide +kernel
theorem dX1_init_27 : decode cX1_init 27 = .ok (.putfield 22, 3) := by decide +kernel
theorem dX1_init_30 : decode cX1_init 30 = .ok (.aload_n 0, 1) := by decide +kernel
theorem dX1_init_31 : decode cX1_init 31 = .ok (.bipush 20, 2) := by decide +kernel
theorem dX1_init_33 : decode cX1_init 33 = .ok (.newarray .int, 2) := by decide +kernel
theorem dX1_init_35 : decode cX1_init 35 = .ok (.putfield 26, 3) := by decide +kernel
theorem dX1_init_38 : decode cX1_init 38 = .ok (.aload_n 0, 1) := by decide +kernel
theorem dX1_init_39 : decode cX1_init 39 = .ok (.bipush 20, 2) := by decide +kernel
theorem dX1_init_41 : decode cX1_init 41 = .ok (.newarray .int, 2) := by decide +kernel
theorem dX1_init_43 : decode cX1_init 43 = .ok (.putfield 29, 3) := by decide +kernel
theorem dX1_init_46 : decode cX1_init 46 = .ok (.aload_n 0, 1) := by decide +kernel
theorem dX1_init_47 : decode cX1_init 47 = .ok (.iconst 0, 1) := by decide +kernel
theorem dX1_init_48 : decode cX1_init 48 = .ok (.putfield 32, 3) := by decide +kernel
theorem dX1_init_51 : decode cX1_init 51 = .ok (.return_, 1) := by decide +kernel
theorem dX1_append_0 : decode cX1_append 0 = .ok (.aload_n 0, 1) := by decide +kernel
theorem dX1_append_1 : decode cX1_append 1 = .ok (.getfield 15, 3) := by decide +kernel
theorem dX1_append_4 : decode cX1_append 4 = .ok (.ifCond .lt 12, 3) := by decide +kernel
theorem dX1_append_7 : decode cX1_append 7 = .ok (.aload_n 0, 1) := by decide +kernel
theorem dX1_append_8 : decode cX1_append 8 = .ok (.getfield 15, 3) := by decide +kernel
theorem dX1_append_11 : decode cX1_append 11 = .ok (.bipush 60, 2) := by decide +kernel
theorem dX1_append_13 : decode cX1_append 13 = .ok (.if_icmp .lt 6, 3) := by decide +kernel
theorem dX1_append_16 : decode cX1_append 16 = .ok (.bipush (-3), 2) := by decide +kernel
theorem dX1_append_18 : decode cX1_append 18 = .ok (.ireturn, 1) := by decide +kernel
theorem dX1_append_19 : decode cX1_append 19 = .ok (.aload_n 0, 1) := by decide +kernel
theorem dX1_append_20 : decode cX1_append 20 = .ok (.getfield 9, 3) := by decide +kernel
theorem dX1_append_23 : decode cX1_append 23 = .ok (.aload_n 0, 1) := by decide +kernel
theorem dX1_append_24 : decode cX1_append 24 = .ok (.getfield 15, 3) := by decide +kernel
theorem dX1_append_27 : decode cX1_append 27 = .ok (.iload_n 1, 1) := by decide +kernel
theorem dX1_append_28 : decode cX1_append 28 = .ok (.castore, 1) := by decide +kernel
theorem dX1_append_29 : decode cX1_append 29 = .ok (.aload_n 0, 1) := by decide +kernel
theorem dX1_append_30 : decode cX1_append 30 = .ok (.dup, 1) := by decide +kernel
theorem dX1_append_31 : decode cX1_append 31 = .ok (.getfield 15, 3) := by decide +kernel
theorem dX1_append_34 : decode cX1_append 34 = .ok (.iconst 1, 1) := by decide +kernel
theorem dX1_append_35 : decode cX1_append 35 = .ok (.iadd, 1) := by decide +kernel
theorem dX1_append_36 : decode cX1_append 36 = .ok (.putfield 15, 3) := by decide +kernel
theorem dX1_append_39 : decode cX1_append 39 = .ok (.aload_n 0, 1) := by decide +kernel
theorem dX1_append_40 : decode cX1_append 40 = .ok (.getfield 15, 3) := by decide +kernel
theorem dX1_append_43 : decode cX1_append 43 = .ok (.ireturn, 1) := by decide +kernel
theorem dX1_clear_0 : decode cX1_clear 0 = .ok (.aload_n 0, 1) := by decide +kernel
theorem dX1_clear_1 : decode cX1_clear 1 = .ok (.getfield 15, 3) := by decide +kernel
theorem dX1_clear_4 : decode cX1_clear 4 = .ok (.istore_n 1, 1) := by decide +kernel
theorem dX1_clear_5 : decode cX1_clear 5 = .ok (.aload_n 0, 1) := by decide +kernel
theorem dX1_clear_6 : decode cX1_clear 6 = .ok (.iconst 0, 1) := by decide +kernel
theorem dX1_clear_7 : decode cX1_clear 7 = .ok (.putfield 15, 3) := by decide +kernel
theorem dX1_clear_10 : decode cX1_clear 10 = .ok (.iload_n 1, 1) := by decide +kernel
theorem dX1_clear_11 : decode cX1_clear 11 = .ok (.ireturn, 1) := by decide +kernel
theorem dX1_read_0 : decode cX1_read 0 = .ok (.aload_n 0, 1) := by decide +kernel
theorem dX1_read_1 : decode cX1_read 1 = .ok (.iconst 0, 1) := by decide +kernel
theorem dX1_read_2 : decode cX1_read 2 = .ok (.putfield 19, 3) := by decide +kernel
theorem dX1_read_5 : decode cX1_read 5 = .ok (.aload_n 0, 1) := by decide +kernel
theorem dX1_read_6 : decode cX1_read 6 = .ok (.iconst 0, 1) := by decide +kernel
theorem dX1_read_7 : decode cX1_read 7 = .ok (.putfield 32, 3) := by decide +kernel
theorem dX1_read_10 : decode cX1_read 10 = .ok (.iconst 0, 1) := by decide +kernel
theorem dX1_read_11 : decode cX1_read 11 = .ok (.istore_n 1, 1) := by decide +kernel
theorem dX1_read_12 : decode cX1_read 12 = .ok (.iload_n 1, 1) := by decide +kernel
theorem dX1_read_13 : decode cX1_read 13 = .ok (.bipush 20, 2) := by decide +kernel
theorem dX1_read_15 : decode cX1_read 15 = .ok (.if_icmp .ge 56, 3) := by decide +kernel
theorem dX1_read_18 : decode cX1_read 18 = .ok (.aload_n 0, 1) := by decide +kernel
theorem dX1_read_19 : decode cX1_read 19 = .ok (.iload_n 1, 1) := by decide +kernel
theorem dX1_read_20 : decode cX1_read 20 = .ok (.invokevirtual 35, 3) := by decide +kernel
theorem dX1_read_23 : decode cX1_read 23 = .ok (.ifCond .ne 8, 3) := by decide +kernel
theorem dX1_read_26 : decode cX1_read 26 = .ok (.aload_n 0, 1) := by decide +kernel
theorem dX1_read_27 : decode cX1_read 27 = .ok (.getfield 19, 3) := by decide +kernel
theorem dX1_read_30 : decode cX1_read 30 = .ok (.ireturn, 1) := by decide +kernel
theorem dX1_read_31 : decode cX1_read 31 = .ok (.aload_n 0, 1) := by decide +kernel
theorem dX1_read_32 : decode cX1_read 32 = .ok (.iload_n 1, 1) := by decide +kernel
theorem dX1_read_33 : decode cX1_read 33 = .ok (.iconst 1, 1) := by decide +kernel
theorem dX1_read_34 : decode cX1_read 34 = .ok (.iadd, 1) := by decide +kernel
theorem dX1_read_35 : decode cX1_read 35 = .ok (.putfield 32, 3) := by decide +kernel
theorem dX1_read_38 : decode cX1_read 38 = .ok (.aload_n 0, 1) := by decide +kernel
theorem dX1_read_39 : decode cX1_read 39 = .ok (.getfield 19, 3) := by decide +kernel
theorem dX1_read_42 : decode cX1_read 42 = .ok (.aload_n 0, 1) := by decide +kernel
theorem dX1_read_43 : decode cX1_read 43 = .ok (.getfield 15, 3) := by decide +kernel
theorem dX1_read_46 : decode cX1_read 46 = .ok (.if_icmp .lt 5, 3) := by decide +kernel
theorem dX1_read_49 : decode cX1_read 49 = .ok (.iconst (-1), 1) := by decide +kernel
theorem dX1_read_50 : decode cX1_read 50 = .ok (.ireturn, 1) := by decide +kernel
theorem dX1_read_51 : decode cX1_read 51 = .ok (.aload_n 0, 1) := by decide +kernel
theorem dX1_read_52 : decode cX1_read 52 = .ok (.bipush 59, 2) := by decide +kernel
theorem dX1_read_54 : decode cX1_read 54 = .ok (.invokevirtual 39, 3) := by decide +kernel
theorem dX1_read_57 : decode cX1_read 57 = .ok (.ifCond .ne 8, 3) := by decide +kernel
theorem dX1_read_60 : decode cX1_read 60 = .ok (.aload_n 0, 1) := by decide +kernel
theorem dX1_read_61 : decode cX1_read 61 = .ok (.getfield 19, 3) := by decide +kernel
theorem dX1_read_64 : decode cX1_read 64 = .ok (.ireturn, 1) := by decide +kernel
theorem dX1_read_65 : decode cX1_read 65 = .ok (.iinc 1 1, 3) := by decide +kernel
theorem dX1_read_68 : decode cX1_read 68 = .ok (.goto (-56), 3) := by decide +kernel
theorem dX1_read_71 : decode cX1_read 71 = .ok (.aload_n 0, 1) := by decide +kernel
theorem dX1_read_72 : decode cX1_read 72 = .ok (.getfield 19, 3) := by decide +kernel
theorem dX1_read_75 : decode cX1_read 75 = .ok (.ireturn, 1) := by decide +kernel
theorem dX1_readThing_0 : decode cX1_readThing 0 = .ok (.aload_n 0, 1) := by decide +kernel
theorem dX1_readThing_1 : decode cX1_readThing 1 = .ok (.invokevirtual 42, 3) := by decide +kernel
theorem dX1_readThing_4 : decode cX1_readThing 4 = .ok (.istore_n 2, 1) := by decide +kernel
theorem dX1_readThing_5 : decode cX1_readThing 5 = .ok (.iload_n 2, 1) := by decide +kernel
theorem dX1_readThing_6 : decode cX1_readThing 6 = .ok (.lookupswitch 215 #[(46, 181), (100, 99), (108, 140), (114, 42)], 42) := by decide +kernel
theorem dX1_readThing_48 : decode cX1_readThing 48 = .ok (.aload_n 0, 1) := by decide +kernel
theorem dX1_readThing_49 : decode cX1_readThing 49 = .ok (.iload_n 2, 1) := by decide +kernel
theorem dX1_readThing_50 : decode cX1_readThing 50 = .ok (.aload_n 0, 1) := by decide +kernel
theorem dX1_readThing_51 : decode cX1_readThing 51 = .ok (.getfield 22, 3) := by decide +kernel
theorem dX1_readThing_54 : decode cX1_readThing 54 = .ok (.iload_n 1, 1) := by decide +kernel
theorem dX1_readThing_55 : decode cX1_readThing 55 = .ok (.invokevirtual 46, 3) := by decide +kernel
theorem dX1_readThing_58 : decode cX1_readThing 58 = .ok (.ifCond .eq 45, 3) := by decide +kernel
theorem dX1_readThing_61 : decode cX1_readThing 61 = .ok (.aload_n 0, 1) := by decide +kernel
theorem dX1_readThing_62 : decode cX1_readThing 62 = .ok (.aload_n 0, 1) := by decide +kernel
theorem dX1_readThing_63 : decode cX1_readThing 63 = .ok (.getfield 26, 3) := by decide +kernel
theorem dX1_readThing_66 : decode cX1_readThing 66 = .ok (.iload_n 1, 1) := by decide +kernel
theorem dX1_readThing_67 : decode cX1_readThing 67 = .ok (.iconst 0, 1) := by decide +kernel
theorem dX1_readThing_68 : decode cX1_readThing 68 = .ok (.bipush 99, 2) := by decide +kernel
theorem dX1_readThing_70 : decode cX1_readThing 70 = .ok (.invokevirtual 50, 3) := by decide +kernel
theorem dX1_readThing_73 : decode cX1_readThing 73 = .ok (.ifCond .eq 30, 3) := by decide +kernel
theorem dX1_readThing_76 : decode cX1_readThing 76 = .ok (.aload_n 0, 1) := by decide +kernel
theorem dX1_readThing_77 : decode cX1_readThing 77 = .ok (.bipush 104, 2) := by decide +kernel
theorem dX1_readThing_79 : decode cX1_readThing 79 = .ok (.invokevirtual 39, 3) := by decide +kernel
theorem dX1_readThing_82 : decode cX1_readThing 82 = .ok (.ifCond .eq 21, 3) := by decide +kernel
theorem dX1_readThing_85 : decode cX1_readThing 85 = .ok (.aload_n 0, 1) := by decide +kernel
theorem dX1_readThing_86 : decode cX1_readThing 86 = .ok (.aload_n 0, 1) := by decide +kernel
theorem dX1_readThing_87 : decode cX1_readThing 87 = .ok (.getfield 29, 3) := by decide +kernel
theorem dX1_readThing_90 : decode cX1_readThing 90 = .ok (.iload_n 1, 1) := by decide +kernel
theorem dX1_readThing_91 : decode cX1_readThing 91 = .ok (.iconst 1, 1) := by decide +kernel
theorem dX1_readThing_92 : decode cX1_readThing 92 = .ok (.iconst 5, 1) := by decide +kernel
theorem dX1_readThing_93 : decode cX1_readThing 93 = .ok (.invokevirtual 50, 3) := by decide +kernel
theorem dX1_readThing_96 : decode cX1_readThing 96 = .ok (.ifCond .eq 7, 3) := by decide +kernel
theorem dX1_readThing_99 : decode cX1_readThing 99 = .ok (.iconst 1, 1) := by decide +kernel
theorem dX1_readThing_100 : decode cX1_readThing 100 = .ok (.goto 4, 3) := by decide +kernel
theorem dX1_readThing_103 : decode cX1_readThing 103 = .ok (.iconst 0, 1) := by decide +kernel
theorem dX1_readThing_104 : decode cX1_readThing 104 = .ok (.ireturn, 1) := by decide +kernel
theorem dX1_readThing_105 : decode cX1_readThing 105 = .ok (.aload_n 0, 1) := by decide +kernel
theorem dX1_readThing_106 : decode cX1_readThing 106 = .ok (.iload_n 2, 1) := by decide +kernel
theorem dX1_readThing_107 : decode cX1_readThing 107 = .ok (.aload_n 0, 1) := by decide +kernel
theorem dX1_readThing_108 : decode cX1_readThing 108 = .ok (.getfield 22, 3) := by decide +kernel
theorem dX1_readThing_111 : decode cX1_readThing 111 = .ok (.iload_n 1, 1) := by decide +kernel
theorem dX1_readThing_112 : decode cX1_readThing 112 = .ok (.invokevirtual 46, 3) := by decide +kernel
theorem dX1_readThing_115 : decode cX1_readThing 115 = .ok (.ifCond .eq 29, 3) := by decide +kernel
theorem dX1_readThing_118 : decode cX1_readThing 118 = .ok (.aload_n 0, 1) := by decide +kernel
theorem dX1_readThing_119 : decode cX1_readThing 119 = .ok (.aload_n 0, 1) := by decide +kernel
theorem dX1_readThing_120 : decode cX1_readThing 120 = .ok (.getfield 26, 3) := by decide +kernel
theorem dX1_readThing_123 : decode cX1_readThing 123 = .ok (.iload_n 1, 1) := by decide +kernel
theorem dX1_readThing_124 : decode cX1_readThing 124 = .ok (.iconst 0, 1) := by decide +kernel
theorem dX1_readThing_125 : decode cX1_readThing 125 = .ok (.iconst 5, 1) := by decide +kernel
theorem dX1_readThing_126 : decode cX1_readThing 126 = .ok (.invokevirtual 50, 3) := by decide +kernel
theorem dX1_readThing_129 : decode cX1_readThing 129 = .ok (.ifCond .eq 15, 3) := by decide +kernel
theorem dX1_readThing_132 : decode cX1_readThing 132 = .ok (.aload_n 0, 1) := by decide +kernel
theorem dX1_readThing_133 : decode cX1_readThing 133 = .ok (.iload_n 1, 1) := by decide +kernel
theorem dX1_readThing_134 : decode cX1_readThing 134 = .ok (.invokevirtual 54, 3) := by decide +kernel
theorem dX1_readThing_137 : decode cX1_readThing 137 = .ok (.ifCond .eq 7, 3) := by decide +kernel
theorem dX1_readThing_140 : decode cX1_readThing 140 = .ok (.iconst 1, 1) := by decide +kernel
theorem dX1_readThing_141 : decode cX1_readThing 141 = .ok (.goto 4, 3) := by decide +kernel
theorem dX1_readThing_144 : decode cX1_readThing 144 = .ok (.iconst 0, 1) := by decide +kernel
theorem dX1_readThing_145 : decode cX1_readThing 145 = .ok (.ireturn, 1) := by decide +kernel
theorem dX1_readThing_146 : decode cX1_readThing 146 = .ok (.aload_n 0, 1) := by decide +kernel
theorem dX1_readThing_147 : decode cX1_readThing 147 = .ok (.iload_n 2, 1) := by decide +kernel
theorem dX1_readThing_148 : decode cX1_readThing 148 = .ok (.aload_n 0, 1) := by decide +kernel
theorem dX1_readThing_149 : decode cX1_readThing 149 = .ok (.getfield 22, 3) := by decide +kernel
theorem dX1_readThing_152 : decode cX1_readThing 152 = .ok (.iload_n 1, 1) := by decide +kernel
theorem dX1_readThing_153 : decode cX1_readThing 153 = .ok (.invokevirtual 46, 3) := by decide +kernel
theorem dX1_readThing_156 : decode cX1_readThing 156 = .ok (.ifCond .eq 29, 3) := by decide +kernel
theorem dX1_readThing_159 : decode cX1_readThing 159 = .ok (.aload_n 0, 1) := by decide +kernel
theorem dX1_readThing_160 : decode cX1_readThing 160 = .ok (.aload_n 0, 1) := by decide +kernel
theorem dX1_readThing_161 : decode cX1_readThing 161 = .ok (.getfield 26, 3) := by decide +kernel
theorem dX1_readThing_164 : decode cX1_readThing 164 = .ok (.iload_n 1, 1) := by decide +kernel
theorem dX1_readThing_165 : decode cX1_readThing 165 = .ok (.iconst 0, 1) := by decide +kernel
theorem dX1_readThing_166 : decode cX1_readThing 166 = .ok (.iconst 2, 1) := by decide +kernel
theorem dX1_readThing_167 : decode cX1_readThing 167 = .ok (.invokevirtual 50, 3) := by decide +kernel
theorem dX1_readThing_170 : decode cX1_readThing 170 = .ok (.ifCond .eq 15, 3) := by decide +kernel
theorem dX1_readThing_173 : decode cX1_readThing 173 = .ok (.aload_n 0, 1) := by decide +kernel
theorem dX1_readThing_174 : decode cX1_readThing 174 = .ok (.iload_n 1, 1) := by decide +kernel
theorem dX1_readThing_175 : decode cX1_readThing 175 = .ok (.invokevirtual 57, 3) := by decide +kernel
theorem dX1_readThing_178 : decode cX1_readThing 178 = .ok (.ifCond .eq 7, 3) := by decide +kernel
theorem dX1_readThing_181 : decode cX1_readThing 181 = .ok (.iconst 1, 1) := by decide +kernel
theorem dX1_readThing_182 : decode cX1_readThing 182 = .ok (.goto 4, 3) := by decide +kernel
theorem dX1_readThing_185 : decode cX1_readThing 185 = .ok (.iconst 0, 1) := by decide +kernel
theorem dX1_readThing_186 : decode cX1_readThing 186 = .ok (.ireturn, 1) := by decide +kernel
theorem dX1_readThing_187 : decode cX1_readThing 187 = .ok (.aload_n 0, 1) := by decide +kernel
theorem dX1_readThing_188 : decode cX1_readThing 188 = .ok (.iload_n 2, 1) := by decide +kernel
theorem dX1_readThing_189 : decode cX1_readThing 189 = .ok (.aload_n 0, 1) := by decide +kernel
theorem dX1_readThing_190 : decode cX1_readThing 190 = .ok (.getfield 22, 3) := by decide +kernel
theorem dX1_readThing_193 : decode cX1_readThing 193 = .ok (.iload_n 1, 1) := by decide +kernel
theorem dX1_readThing_194 : decode cX1_readThing 194 = .ok (.invokevirtual 46, 3) := by decide +kernel
theorem dX1_readThing_197 : decode cX1_readThing 197 = .ok (.ifCond .eq 22, 3) := by decide +kernel
theorem dX1_readThing_200 : decode cX1_readThing 200 = .ok (.aload_n 0, 1) := by decide +kernel
theorem dX1_readThing_201 : decode cX1_readThing 201 = .ok (.aload_n 0, 1) := by decide +kernel
theorem dX1_readThing_202 : decode cX1_readThing 202 = .ok (.getfield 26, 3) := by decide +kernel
theorem dX1_readThing_205 : decode cX1_readThing 205 = .ok (.iload_n 1, 1) := by decide +kernel
theorem dX1_readThing_206 : decode cX1_readThing 206 = .ok (.iconst 1, 1) := by decide +kernel
theorem dX1_readThing_207 : decode cX1_readThing 207 = .ok (.bipush 99, 2) := by decide +kernel
theorem dX1_readThing_209 : decode cX1_readThing 209 = .ok (.invokevirtual 50, 3) := by decide +kernel
theorem dX1_readThing_212 : decode cX1_readThing 212 = .ok (.ifCond .eq 7, 3) := by decide +kernel
theorem dX1_readThing_215 : decode cX1_readThing 215 = .ok (.iconst 1, 1) := by decide +kernel
theorem dX1_readThing_216 : decode cX1_readThing 216 = .ok (.goto 4, 3) := by decide +kernel
theorem dX1_readThing_219 : decode cX1_readThing 219 = .ok (.iconst 0, 1) := by decide +kernel
theorem dX1_readThing_220 : decode cX1_readThing 220 = .ok (.ireturn, 1) := by decide +kernel
theorem dX1_readThing_221 : decode cX1_readThing 221 = .ok (.iconst 0, 1) := by decide +kernel
theorem dX1_readThing_222 : decode cX1_readThing 222 = .ok (.ireturn, 1) := by decide +kernel
theorem dX1_readNumber_0 : decode cX1_readNumber 0 = .ok (.aload_n 0, 1) := by decide +kernel
theorem dX1_readNumber_1 : decode cX1_readNumber 1 = .ok (.invokevirtual 60, 3) := by decide +kernel
theorem dX1_readNumber_4 : decode cX1_readNumber 4 = .ok (.istore 5, 2) := by decide +kernel
theorem dX1_readNumber_6 : decode cX1_readNumber 6 = .ok (.iload 5, 2) := by decide +kernel
theorem dX1_readNumber_8 : decode cX1_readNumber 8 = .ok (.iload_n 3, 1) := by decide +kernel
theorem dX1_readNumber_9 : decode cX1_readNumber 9 = .ok (.if_icmp .lt 21, 3) := by decide +kernel
theorem dX1_readNumber_12 : decode cX1_readNumber 12 = .ok (.iload 5, 2) := by decide +kernel
theorem dX1_readNumber_14 : decode cX1_readNumber 14 = .ok (.iload 4, 2) := by decide +kernel
theorem dX1_readNumber_16 : decode cX1_readNumber 16 = .ok (.if_icmp .gt 14, 3) := by decide +kernel
theorem dX1_readNumber_19 : decode cX1_readNumber 19 = .ok (.aload_n 0, 1) := by decide +kernel
theorem dX1_readNumber_20 : decode cX1_readNumber 20 = .ok (.iload 5, 2) := by decide +kernel
theorem dX1_readNumber_22 : decode cX1_readNumber 22 = .ok (.aload_n 1, 1) := by decide +kernel
theorem dX1_readNumber_23 : decode cX1_readNumber 23 = .ok (.iload_n 2, 1) := by decide +kernel
theorem dX1_readNumber_24 : decode cX1_readNumber 24 = .ok (.invokevirtual 46, 3) := by decide +kernel
theorem dX1_readNumber_27 : decode cX1_readNumber 27 = .ok (.ifCond .ne 5, 3) := by decide +kernel
theorem dX1_readNumber_30 : decode cX1_readNumber 30 = .ok (.iconst 0, 1) := by decide +kernel
theorem dX1_readNumber_31 : decode cX1_readNumber 31 = .ok (.ireturn, 1) := by decide +kernel
theorem dX1_readNumber_32 : decode cX1_readNumber 32 = .ok (.aload_n 0, 1) := by decide +kernel
theorem dX1_readNumber_33 : decode cX1_readNumber 33 = .ok (.invokevirtual 60, 3) := by decide +kernel
theorem dX1_readNumber_36 : decode cX1_readNumber 36 = .ok (.istore 6, 2) := by decide +kernel
theorem dX1_readNumber_38 : decode cX1_readNumber 38 = .ok (.iload 5, 2) := by decide +kernel
theorem dX1_readNumber_40 : decode cX1_readNumber 40 = .ok (.ifCond .le 37, 3) := by decide +kernel
theorem dX1_readNumber_43 : decode cX1_readNumber 43 = .ok (.iload 6, 2) := by decide +kernel
theorem dX1_readNumber_45 : decode cX1_readNumber 45 = .ok (.iconst (-1), 1) := by decide +kernel
theorem dX1_readNumber_46 : decode cX1_readNumber 46 = .ok (.if_icmp .eq 31, 3) := by decide +kernel
theorem dX1_readNumber_49 : decode cX1_readNumber 49 = .ok (.iload 5, 2) := by decide +kernel
theorem dX1_readNumber_51 : decode cX1_readNumber 51 = .ok (.bipush 10, 2) := by decide +kernel
theorem dX1_readNumber_53 : decode cX1_readNumber 53 = .ok (.imul, 1) := by decide +kernel
theorem dX1_readNumber_54 : decode cX1_readNumber 54 = .ok (.iload 6, 2) := by decide +kernel
theorem dX1_readNumber_56 : decode cX1_readNumber 56 = .ok (.iadd, 1) := by decide +kernel
theorem dX1_readNumber_57 : decode cX1_readNumber 57 = .ok (.iload 4, 2) := by decide +kernel
theorem dX1_readNumber_59 : decode cX1_readNumber 59 = .ok (.if_icmp .gt 18, 3) := by decide +kernel
theorem dX1_readNumber_62 : decode cX1_readNumber 62 = .ok (.aload_n 0, 1) := by decide +kernel
theorem dX1_readNumber_63 : decode cX1_readNumber 63 = .ok (.iload 5, 2) := by decide +kernel
theorem dX1_readNumber_65 : decode cX1_readNumber 65 = .ok (.bipush 10, 2) := by decide +kernel
theorem dX1_readNumber_67 : decode cX1_readNumber 67 = .ok (.imul, 1) := by decide +kernel
theorem dX1_readNumber_68 : decode cX1_readNumber 68 = .ok (.iload 6, 2) := by decide +kernel
theorem dX1_readNumber_70 : decode cX1_readNumber 70 = .ok (.iadd, 1) := by decide +kernel
theorem dX1_readNumber_71 : decode cX1_readNumber 71 = .ok (.aload_n 1, 1) := by decide +kernel
theorem dX1_readNumber_72 : decode cX1_readNumber 72 = .ok (.iload_n 2, 1) := by decide +kernel
theorem dX1_readNumber_73 : decode cX1_readNumber 73 = .ok (.invokevirtual 46, 3) := by decide +kernel
theorem dX1_readNumber_76 : decode cX1_readNumber 76 = .ok (.ireturn, 1) := by decide +kernel
theorem dX1_readNumber_77 : decode cX1_readNumber 77 = .ok (.iconst 1, 1) := by decide +kernel
theorem dX1_readNumber_78 : decode cX1_readNumber 78 = .ok (.ireturn, 1) := by decide +kernel
theorem dX1_readDirection_0 : decode cX1_readDirection 0 = .ok (.aload_n 0, 1) := by decide +kernel
theorem dX1_readDirection_1 : decode cX1_readDirection 1 = .ok (.invokevirtual 42, 3) := by decide +kernel
theorem dX1_readDirection_4 : decode cX1_readDirection 4 = .ok (.lookupswitch 107 #[(45, 96), (101, 63), (110, 52), (115, 74), (119, 85)], 52) := by decide +kernel
theorem dX1_readDirection_56 : decode cX1_readDirection 56 = .ok (.aload_n 0, 1) := by decide +kernel
theorem dX1_readDirection_57 : decode cX1_readDirection 57 = .ok (.iconst 0, 1) := by decide +kernel
theorem dX1_readDirection_58 : decode cX1_readDirection 58 = .ok (.aload_n 0, 1) := by decide +kernel
theorem dX1_readDirection_59 : decode cX1_readDirection 59 = .ok (.getfield 29, 3) := by decide +kernel
theorem dX1_readDirection_62 : decode cX1_readDirection 62 = .ok (.iload_n 1, 1) := by decide +kernel
theorem dX1_readDirection_63 : decode cX1_readDirection 63 = .ok (.invokevirtual 46, 3) := by decide +kernel
theorem dX1_readDirection_66 : decode cX1_readDirection 66 = .ok (.ireturn, 1) := by decide +kernel
theorem dX1_readDirection_67 : decode cX1_readDirection 67 = .ok (.aload_n 0, 1) := by decide +kernel
theorem dX1_readDirection_68 : decode cX1_readDirection 68 = .ok (.iconst 1, 1) := by decide +kernel
theorem dX1_readDirection_69 : decode cX1_readDirection 69 = .ok (.aload_n 0, 1) := by decide +kernel
theorem dX1_readDirection_70 : decode cX1_readDirection 70 = .ok (.getfield 29, 3) := by decide +kernel
theorem dX1_readDirection_73 : decode cX1_readDirection 73 = .ok (.iload_n 1, 1) := by decide +kernel
theorem dX1_readDirection_74 : decode cX1_readDirection 74 = .ok (.invokevirtual 46, 3) := by decide +kernel
theorem dX1_readDirection_77 : decode cX1_readDirection 77 = .ok (.ireturn, 1) := by decide +kernel
theorem dX1_readDirection_78 : decode cX1_readDirection 78 = .ok (.aload_n 0, 1) := by decide +kernel
theorem dX1_readDirection_79 : decode cX1_readDirection 79 = .ok (.iconst 2, 1) := by decide +kernel
theorem dX1_readDirection_80 : decode cX1_readDirection 80 = .ok (.aload_n 0, 1) := by decide +kernel
theorem dX1_readDirection_81 : decode cX1_readDirection 81 = .ok (.getfield 29, 3) := by decide +kernel
theorem dX1_readDirection_84 : decode cX1_readDirection 84 = .ok (.iload_n 1, 1) := by decide +kernel
theorem dX1_readDirection_85 : decode cX1_readDirection 85 = .ok (.invokevirtual 46, 3) := by decide +kernel
theorem dX1_readDirection_88 : decode cX1_readDirection 88 = .ok (.ireturn, 1) := by decide +kernel
theorem dX1_readDirection_89 : decode cX1_readDirection 89 = .ok (.aload_n 0, 1) := by decide +kernel
theorem dX1_readDirection_90 : decode cX1_readDirection 90 = .ok (.iconst 3, 1) := by decide +kernel
theorem dX1_readDirection_91 : decode cX1_readDirection 91 = .ok (.aload_n 0, 1) := by decide +kernel
theorem dX1_readDirection_92 : decode cX1_readDirection 92 = .ok (.getfield 29, 3) := by decide +kernel
theorem dX1_readDirection_95 : decode cX1_readDirection 95 = .ok (.iload_n 1, 1) := by decide +kernel
theorem dX1_readDirection_96 : decode cX1_readDirection 96 = .ok (.invokevirtual 46, 3) := by decide +kernel
theorem dX1_readDirection_99 : decode cX1_readDirection 99 = .ok (.ireturn, 1) := by decide +kernel
theorem dX1_readDirection_100 : decode cX1_readDirection 100 = .ok (.aload_n 0, 1) := by decide +kernel
theorem dX1_readDirection_101 : decode cX1_readDirection 101 = .ok (.iconst (-1), 1) := by decide +kernel
theorem dX1_readDirection_102 : decode cX1_readDirection 102 = .ok (.aload_n 0, 1) := by decide +kernel
theorem dX1_readDirection_103 : decode cX1_readDirection 103 = .ok (.getfield 29, 3) := by decide +kernel
theorem dX1_readDirection_106 : decode cX1_readDirection 106 = .ok (.iload_n 1, 1) := by decide +kernel
theorem dX1_readDirection_107 : decode cX1_readDirection 107 = .ok (.invokevirtual 46, 3) := by decide +kernel
theorem dX1_readDirection_110 : decode cX1_readDirection 110 = .ok (.ireturn, 1) := by decide +kernel
theorem dX1_readDirection_111 : decode cX1_readDirection 111 = .ok (.iconst 0, 1) := by decide +kernel
theorem dX1_readDirection_112 : decode cX1_readDirection 112 = .ok (.ireturn, 1) := by decide +kernel
theorem dX1_readOnOrOff_0 : decode cX1_readOnOrOff 0 = .ok (.aload_n 0, 1) := by decide +kernel
theorem dX1_readOnOrOff_1 : decode cX1_readOnOrOff 1 = .ok (.invokevirtual 42, 3) := by decide +kernel
theorem dX1_readOnOrOff_4 : decode cX1_readOnOrOff 4 = .ok (.lookupswitch 50 #[(43, 28), (45, 39)], 28) := by decide +kernel
theorem dX1_readOnOrOff_32 : decode cX1_readOnOrOff 32 = .ok (.aload_n 0, 1) := by decide +kernel
theorem dX1_readOnOrOff_33 : decode cX1_readOnOrOff 33 = .ok (.iconst 1, 1) := by decide +kernel
theorem dX1_readOnOrOff_34 : decode cX1_readOnOrOff 34 = .ok (.aload_n 0, 1) := by decide +kernel
theorem dX1_readOnOrOff_35 : decode cX1_readOnOrOff 35 = .ok (.getfield 29, 3) := by decide +kernel
theorem dX1_readOnOrOff_38 : decode cX1_readOnOrOff 38 = .ok (.iload_n 1, 1) := by decide +kernel
theorem dX1_readOnOrOff_39 : decode cX1_readOnOrOff 39 = .ok (.invokevirtual 46, 3) := by decide +kernel
theorem dX1_readOnOrOff_42 : decode cX1_readOnOrOff 42 = .ok (.ireturn, 1) := by decide +kernel
theorem dX1_readOnOrOff_43 : decode cX1_readOnOrOff 43 = .ok (.aload_n 0, 1) := by decide +kernel
theorem dX1_readOnOrOff_44 : decode cX1_readOnOrOff 44 = .ok (.iconst 0, 1) := by decide +kernel
theorem dX1_readOnOrOff_45 : decode cX1_readOnOrOff 45 = .ok (.aload_n 0, 1) := by decide +kernel
theorem dX1_readOnOrOff_46 : decode cX1_readOnOrOff 46 = .ok (.getfield 29, 3) := by decide +kernel
theorem dX1_readOnOrOff_49 : decode cX1_readOnOrOff 49 = .ok (.iload_n 1, 1) := by decide +kernel
theorem dX1_readOnOrOff_50 : decode cX1_readOnOrOff 50 = .ok (.invokevirtual 46, 3) := by decide +kernel
theorem dX1_readOnOrOff_53 : decode cX1_readOnOrOff 53 = .ok (.ireturn, 1) := by decide +kernel
theorem dX1_readOnOrOff_54 : decode cX1_readOnOrOff 54 = .ok (.iconst 0, 1) := by decide +kernel
theorem dX1_readOnOrOff_55 : decode cX1_readOnOrOff 55 = .ok (.ireturn, 1) := by decide +kernel
theorem dX1_readAs_0 : decode cX1_readAs 0 = .ok (.iload_n 3, 1) := by decide +kernel
theorem dX1_readAs_1 : decode cX1_readAs 1 = .ok (.ifCond .lt 9, 3) := by decide +kernel
theorem dX1_readAs_4 : decode cX1_readAs 4 = .ok (.iload_n 3, 1) := by decide +kernel
theorem dX1_readAs_5 : decode cX1_readAs 5 = .ok (.aload_n 2, 1) := by decide +kernel
theorem dX1_readAs_6 : decode cX1_readAs 6 = .ok (.arraylength, 1) := by decide +kernel
theorem dX1_readAs_7 : decode cX1_readAs 7 = .ok (.if_icmp .lt 5, 3) := by decide +kernel
theorem dX1_readAs_10 : decode cX1_readAs 10 = .ok (.iconst 0, 1) := by decide +kernel
theorem dX1_readAs_11 : decode cX1_readAs 11 = .ok (.ireturn, 1) := by decide +kernel
theorem dX1_readAs_12 : decode cX1_readAs 12 = .ok (.aload_n 2, 1) := by decide +kernel
theorem dX1_readAs_13 : decode cX1_readAs 13 = .ok (.iload_n 3, 1) := by decide +kernel
theorem dX1_readAs_14 : decode cX1_readAs 14 = .ok (.iload_n 1, 1) := by decide +kernel
theorem dX1_readAs_15 : decode cX1_readAs 15 = .ok (.iastore, 1) := by decide +kernel
theorem dX1_readAs_16 : decode cX1_readAs 16 = .ok (.aload_n 0, 1) := by decide +kernel
theorem dX1_readAs_17 : decode cX1_readAs 17 = .ok (.dup, 1) := by decide +kernel
theorem dX1_readAs_18 : decode cX1_readAs 18 = .ok (.getfield 19, 3) := by decide +kernel
theorem dX1_readAs_21 : decode cX1_readAs 21 = .ok (.iconst 1, 1) := by decide +kernel
theorem dX1_readAs_22 : decode cX1_readAs 22 = .ok (.iadd, 1) := by decide +kernel
theorem dX1_readAs_23 : decode cX1_readAs 23 = .ok (.putfield 19, 3) := by decide +kernel
theorem dX1_readAs_26 : decode cX1_readAs 26 = .ok (.iconst 1, 1) := by decide +kernel
theorem dX1_readAs_27 : decode cX1_readAs 27 = .ok (.ireturn, 1) := by decide +kernel
theorem dX1_readSign_0 : decode cX1_readSign 0 = .ok (.aload_n 0, 1) := by decide +kernel
theorem dX1_readSign_1 : decode cX1_readSign 1 = .ok (.invokevirtual 42, 3) := by decide +kernel
theorem dX1_readSign_4 : decode cX1_readSign 4 = .ok (.iload_n 1, 1) := by decide +kernel
theorem dX1_readSign_5 : decode cX1_readSign 5 = .ok (.if_icmp .eq 5, 3) := by decide +kernel
theorem dX1_readSign_8 : decode cX1_readSign 8 = .ok (.iconst 0, 1) := by decide +kernel
theorem dX1_readSign_9 : decode cX1_readSign 9 = .ok (.ireturn, 1) := by decide +kernel
theorem dX1_readSign_10 : decode cX1_readSign 10 = .ok (.aload_n 0, 1) := by decide +kernel
theorem dX1_readSign_11 : decode cX1_readSign 11 = .ok (.dup, 1) := by decide +kernel
theorem dX1_readSign_12 : decode cX1_readSign 12 = .ok (.getfield 19, 3) := by decide +kernel
theorem dX1_readSign_15 : decode cX1_readSign 15 = .ok (.iconst 1, 1) := by decide +kernel
theorem dX1_readSign_16 : decode cX1_readSign 16 = .ok (.iadd, 1) := by decide +kernel
theorem dX1_readSign_17 : decode cX1_readSign 17 = .ok (.putfield 19, 3) := by decide +kernel
theorem dX1_readSign_20 : decode cX1_readSign 20 = .ok (.iconst 1, 1) := by decide +kernel
theorem dX1_readSign_21 : decode cX1_readSign 21 = .ok (.ireturn, 1) := by decide +kernel
theorem dX1_nextDigit_0 : decode cX1_nextDigit 0 = .ok (.aload_n 0, 1) := by decide +kernel
theorem dX1_nextDigit_1 : decode cX1_nextDigit 1 = .ok (.invokevirtual 42, 3) := by decide +kernel
theorem dX1_nextDigit_4 : decode cX1_nextDigit 4 = .ok (.istore_n 1, 1) := by decide +kernel
theorem dX1_nextDigit_5 : decode cX1_nextDigit 5 = .ok (.iload_n 1, 1) := by decide +kernel
theorem dX1_nextDigit_6 : decode cX1_nextDigit 6 = .ok (.bipush 48, 2) := by decide +kernel
theorem dX1_nextDigit_8 : decode cX1_nextDigit 8 = .ok (.if_icmp .lt 16, 3) := by decide +kernel
theorem dX1_nextDigit_11 : decode cX1_nextDigit 11 = .ok (.iload_n 1, 1) := by decide +kernel
theorem dX1_nextDigit_12 : decode cX1_nextDigit 12 = .ok (.bipush 57, 2) := by decide +kernel
theorem dX1_nextDigit_14 : decode cX1_nextDigit 14 = .ok (.if_icmp .gt 10, 3) := by decide +kernel
theorem dX1_nextDigit_17 : decode cX1_nextDigit 17 = .ok (.iload_n 1, 1) := by decide +kernel
theorem dX1_nextDigit_18 : decode cX1_nextDigit 18 = .ok (.bipush 48, 2) := by decide +kernel
theorem dX1_nextDigit_20 : decode cX1_nextDigit 20 = .ok (.isub, 1) := by decide +kernel
theorem dX1_nextDigit_21 : decode cX1_nextDigit 21 = .ok (.goto 4, 3) := by decide +kernel
theorem dX1_nextDigit_24 : decode cX1_nextDigit 24 = .ok (.iconst (-1), 1) := by decide +kernel
theorem dX1_nextDigit_25 : decode cX1_nextDigit 25 = .ok (.ireturn, 1) := by decide +kernel
theorem dX1_nextSign_0 : decode cX1_nextSign 0 = .ok (.aload_n 0, 1) := by decide +kernel
theorem dX1_nextSign_1 : decode cX1_nextSign 1 = .ok (.getfield 19, 3) := by decide +kernel
theorem dX1_nextSign_4 : decode cX1_nextSign 4 = .ok (.ifCond .lt 35, 3) := by decide +kernel
theorem dX1_nextSign_7 : decode cX1_nextSign 7 = .ok (.aload_n 0, 1) := by decide +kernel
theorem dX1_nextSign_8 : decode cX1_nextSign 8 = .ok (.getfield 19, 3) := by decide +kernel
theorem dX1_nextSign_11 : decode cX1_nextSign 11 = .ok (.aload_n 0, 1) := by decide +kernel
theorem dX1_nextSign_12 : decode cX1_nextSign 12 = .ok (.getfield 15, 3) := by decide +kernel
theorem dX1_nextSign_15 : decode cX1_nextSign 15 = .ok (.if_icmp .ge 24, 3) := by decide +kernel
theorem dX1_nextSign_18 : decode cX1_nextSign 18 = .ok (.aload_n 0, 1) := by decide +kernel
theorem dX1_nextSign_19 : decode cX1_nextSign 19 = .ok (.getfield 19, 3) := by decide +kernel
theorem dX1_nextSign_22 : decode cX1_nextSign 22 = .ok (.bipush 60, 2) := by decide +kernel
theorem dX1_nextSign_24 : decode cX1_nextSign 24 = .ok (.if_icmp .ge 15, 3) := by decide +kernel
theorem dX1_nextSign_27 : decode cX1_nextSign 27 = .ok (.aload_n 0, 1) := by decide +kernel
theorem dX1_nextSign_28 : decode cX1_nextSign 28 = .ok (.getfield 9, 3) := by decide +kernel
theorem dX1_nextSign_31 : decode cX1_nextSign 31 = .ok (.aload_n 0, 1) := by decide +kernel
theorem dX1_nextSign_32 : decode cX1_nextSign 32 = .ok (.getfield 19, 3) := by decide +kernel
theorem dX1_nextSign_35 : decode cX1_nextSign 35 = .ok (.caload, 1) := by decide +kernel
theorem dX1_nextSign_36 : decode cX1_nextSign 36 = .ok (.goto 4, 3) := by decide +kernel
theorem dX1_nextSign_39 : decode cX1_nextSign 39 = .ok (.iconst (-1), 1) := by decide +kernel
theorem dX1_nextSign_40 : decode cX1_nextSign 40 = .ok (.ireturn, 1) := by decide +kernel
theorem dX2_init_0 : decode cX2_init 0 = .ok (.aload_n 0, 1) := by decide +kernel
theorem dX2_init_1 : decode cX2_init 1 = .ok (.invokespecial 3, 3) := by decide +kernel
theorem dX2_init_4 : decode cX2_init 4 = .ok (.aload_n 0, 1) := by decide +kernel
theorem dX2_init_5 : decode cX2_init 5 = .ok (.iconst 4, 1) := by decide +kernel
theorem dX2_init_6 : decode cX2_init 6 = .ok (.anewarray 9, 3) := by decide +kernel
theorem dX2_init_9 : decode cX2_init 9 = .ok (.putfield 11, 3) := by decide +kernel
theorem dX2_init_12 : decode cX2_init 12 = .ok (.aload_n 0, 1) := by decide +kernel
theorem dX2_init_13 : decode cX2_init 13 = .ok (.iconst 0, 1) := by decide +kernel
theorem dX2_init_14 : decode cX2_init 14 = .ok (.putfield 17, 3) := by decide +kernel
theorem dX2_init_17 : decode cX2_init 17 = .ok (.aload_n 0, 1) := by decide +kernel
theorem dX2_init_18 : decode cX2_init 18 = .ok (.iconst 0, 1) := by decide +kernel
theorem dX2_init_19 : decode cX2_init 19 = .ok (.putfield 21, 3) := by decide +kernel
theorem dX2_init_22 : decode cX2_init 22 = .ok (.iconst 0, 1) := by decide +kernel
theorem dX2_init_23 : decode cX2_init 23 = .ok (.istore_n 1, 1) := by decide +kernel
theorem dX2_init_24 : decode cX2_init 24 = .ok (.iload_n 1, 1) := by decide +kernel
theorem dX2_init_25 : decode cX2_init 25 = .ok (.iconst 4, 1) := by decide +kernel
theorem dX2_init_26 : decode cX2_init 26 = .ok (.if_icmp .ge 22, 3) := by decide +kernel
theorem dX2_init_29 : decode cX2_init 29 = .ok (.aload_n 0, 1) := by decide +kernel
theorem dX2_init_30 : decode cX2_init 30 = .ok (.getfield 11, 3) := by decide +kernel
theorem dX2_init_33 : decode cX2_init 33 = .ok (.iload_n 1, 1) := by decide +kernel
theorem dX2_init_34 : decode cX2_init 34 = .ok (.new 9, 3) := by decide +kernel
theorem dX2_init_37 : decode cX2_init 37 = .ok (.dup, 1) := by decide +kernel
theorem dX2_init_38 : decode cX2_init 38 = .ok (.invokespecial 24, 3) := by decide +kernel
theorem dX2_init_41 : decode cX2_init 41 = .ok (.aastore, 1) := by decide +kernel
theorem dX2_init_42 : decode cX2_init 42 = .ok (.iinc 1 1, 3) := by decide +kernel
theorem dX2_init_45 : decode cX2_init 45 = .ok (.goto (-21), 3) := by decide +kernel
theorem dX2_init_48 : decode cX2_init 48 = .ok (.return_, 1) := by decide +kernel
theorem dX2_record_0 : decode cX2_record 0 = .ok (.aload_n 0, 1) := by decide +kernel
theorem dX2_record_1 : decode cX2_record 1 = .ok (.aload_n 0, 1) := by decide +kernel
theorem dX2_record_2 : decode cX2_record 2 = .ok (.getfield 17, 3) := by decide +kernel
theorem dX2_record_5 : decode cX2_record 5 = .ok (.aload_n 0, 1) := by decide +kernel
theorem dX2_record_6 : decode cX2_record 6 = .ok (.getfield 21, 3) := by decide +kernel
theorem dX2_record_9 : decode cX2_record 9 = .ok (.iadd, 1) := by decide +kernel
theorem dX2_record_10 : decode cX2_record 10 = .ok (.invokevirtual 25, 3) := by decide +kernel
theorem dX2_record_13 : decode cX2_record 13 = .ok (.astore_n 2, 1) := by decide +kernel
theorem dX2_record_14 : decode cX2_record 14 = .ok (.aload_n 2, 1) := by decide +kernel
theorem dX2_record_15 : decode cX2_record 15 = .ok (.ifnonnull 4, 3) := by decide +kernel
theorem dX2_record_18 : decode cX2_record 18 = .ok (.return_, 1) := by decide +kernel
theorem dX2_record_19 : decode cX2_record 19 = .ok (.aload_n 2, 1) := by decide +kernel
theorem dX2_record_20 : decode cX2_record 20 = .ok (.aload_n 1, 1) := by decide +kernel
theorem dX2_record_21 : decode cX2_record 21 = .ok (.invokevirtual 29, 3) := by decide +kernel
theorem dX2_record_24 : decode cX2_record 24 = .ok (.aload_n 0, 1) := by decide +kernel
theorem dX2_record_25 : decode cX2_record 25 = .ok (.getfield 21, 3) := by decide +kernel
theorem dX2_record_28 : decode cX2_record 28 = .ok (.iconst 4, 1) := by decide +kernel
theorem dX2_record_29 : decode cX2_record 29 = .ok (.if_icmp .ge 16, 3) := by decide +kernel
theorem dX2_record_32 : decode cX2_record 32 = .ok (.aload_n 0, 1) := by decide +kernel
theorem dX2_record_33 : decode cX2_record 33 = .ok (.dup, 1) := by decide +kernel
theorem dX2_record_34 : decode cX2_record 34 = .ok (.getfield 21, 3) := by decide +kernel
theorem dX2_record_37 : decode cX2_record 37 = .ok (.iconst 1, 1) := by decide +kernel
theorem dX2_record_38 : decode cX2_record 38 = .ok (.iadd, 1) := by decide +kernel
theorem dX2_record_39 : decode cX2_record 39 = .ok (.putfield 21, 3) := by decide +kernel
theorem dX2_record_42 : decode cX2_record 42 = .ok (.goto 15, 3) := by decide +kernel
theorem dX2_record_45 : decode cX2_record 45 = .ok (.aload_n 0, 1) := by decide +kernel
theorem dX2_record_46 : decode cX2_record 46 = .ok (.aload_n 0, 1) := by decide +kernel
theorem dX2_record_47 : decode cX2_record 47 = .ok (.getfield 17, 3) := by decide +kernel
theorem dX2_record_50 : decode cX2_record 50 = .ok (.iconst 1, 1) := by decide +kernel
theorem dX2_record_51 : decode cX2_record 51 = .ok (.iadd, 1) := by decide +kernel
theorem dX2_record_52 : decode cX2_record 52 = .ok (.iconst 4, 1) := by decide +kernel
theorem dX2_record_53 : decode cX2_record 53 = .ok (.irem, 1) := by decide +kernel
theorem dX2_record_54 : decode cX2_record 54 = .ok (.putfield 17, 3) := by decide +kernel
theorem dX2_record_57 : decode cX2_record 57 = .ok (.return_, 1) := by decide +kernel
theorem dX2_ringPlace_0 : decode cX2_ringPlace 0 = .ok (.iload_n 1, 1) := by decide +kernel
theorem dX2_ringPlace_1 : decode cX2_ringPlace 1 = .ok (.ifCond .ge 7, 3) := by decide +kernel
theorem dX2_ringPlace_4 : decode cX2_ringPlace 4 = .ok (.aconst_null, 1) := by decide +kernel
theorem dX2_ringPlace_5 : decode cX2_ringPlace 5 = .ok (.goto 11, 3) := by decide +kernel
theorem dX2_ringPlace_8 : decode cX2_ringPlace 8 = .ok (.aload_n 0, 1) := by decide +kernel
theorem dX2_ringPlace_9 : decode cX2_ringPlace 9 = .ok (.getfield 11, 3) := by decide +kernel
theorem dX2_ringPlace_12 : decode cX2_ringPlace 12 = .ok (.iload_n 1, 1) := by decide +kernel
theorem dX2_ringPlace_13 : decode cX2_ringPlace 13 = .ok (.iconst 4, 1) := by decide +kernel
theorem dX2_ringPlace_14 : decode cX2_ringPlace 14 = .ok (.irem, 1) := by decide +kernel
theorem dX2_ringPlace_15 : decode cX2_ringPlace 15 = .ok (.aaload, 1) := by decide +kernel
theorem dX2_ringPlace_16 : decode cX2_ringPlace 16 = .ok (.areturn, 1) := by decide +kernel
theorem dX2_takeBack_0 : decode cX2_takeBack 0 = .ok (.aload_n 0, 1) := by decide +kernel
theorem dX2_takeBack_1 : decode cX2_takeBack 1 = .ok (.getfield 21, 3) := by decide +kernel
theorem dX2_takeBack_4 : decode cX2_takeBack 4 = .ok (.ifCond .ne 5, 3) := by decide +kernel
theorem dX2_takeBack_7 : decode cX2_takeBack 7 = .ok (.iconst 0, 1) := by decide +kernel
theorem dX2_takeBack_8 : decode cX2_takeBack 8 = .ok (.ireturn, 1) := by decide +kernel
theorem dX2_takeBack_9 : decode cX2_takeBack 9 = .ok (.aload_n 0, 1) := by decide +kernel
theorem dX2_takeBack_10 : decode cX2_takeBack 10 = .ok (.aload_n 0, 1) := by decide +kernel
theorem dX2_takeBack_11 : decode cX2_takeBack 11 = .ok (.getfield 17, 3) := by decide +kernel
theorem dX2_takeBack_14 : decode cX2_takeBack 14 = .ok (.aload_n 0, 1) := by decide +kernel
theorem dX2_takeBack_15 : decode cX2_takeBack 15 = .ok (.getfield 21, 3) := by decide +kernel
theorem dX2_takeBack_18 : decode cX2_takeBack 18 = .ok (.iadd, 1) := by decide +kernel
theorem dX2_takeBack_19 : decode cX2_takeBack 19 = .ok (.iconst 1, 1) := by decide +kernel
theorem dX2_takeBack_20 : decode cX2_takeBack 20 = .ok (.isub, 1) := by decide +kernel
theorem dX2_takeBack_21 : decode cX2_takeBack 21 = .ok (.invokevirtual 25, 3) := by decide +kernel
theorem dX2_takeBack_24 : decode cX2_takeBack 24 = .ok (.astore_n 2, 1) := by decide +kernel
theorem dX2_takeBack_25 : decode cX2_takeBack 25 = .ok (.aload_n 2, 1) := by decide +kernel
theorem dX2_takeBack_26 : decode cX2_takeBack 26 = .ok (.ifnonnull 5, 3) := by decide +kernel
theorem dX2_takeBack_29 : decode cX2_takeBack 29 = .ok (.iconst 0, 1) := by decide +kernel
theorem dX2_takeBack_30 : decode cX2_takeBack 30 = .ok (.ireturn, 1) := by decide +kernel
theorem dX2_takeBack_31 : decode cX2_takeBack 31 = .ok (.aload_n 0, 1) := by decide +kernel
theorem dX2_takeBack_32 : decode cX2_takeBack 32 = .ok (.dup, 1) := by decide +kernel
theorem dX2_takeBack_33 : decode cX2_takeBack 33 = .ok (.getfield 21, 3) := by decide +kernel
theorem dX2_takeBack_36 : decode cX2_takeBack 36 = .ok (.iconst 1, 1) := by decide +kernel
theorem dX2_takeBack_37 : decode cX2_takeBack 37 = .ok (.isub, 1) := by decide +kernel
theorem dX2_takeBack_38 : decode cX2_takeBack 38 = .ok (.putfield 21, 3) := by decide +kernel
theorem dX2_takeBack_41 : decode cX2_takeBack 41 = .ok (.aload_n 1, 1) := by decide +kernel
theorem dX2_takeBack_42 : decode cX2_takeBack 42 = .ok (.aload_n 2, 1) := by decide +kernel
theorem dX2_takeBack_43 : decode cX2_takeBack 43 = .ok (.invokevirtual 29, 3) := by decide +kernel
theorem dX2_takeBack_46 : decode cX2_takeBack 46 = .ok (.iconst 1, 1) := by decide +kernel
theorem dX2_takeBack_47 : decode cX2_takeBack 47 = .ok (.ireturn, 1) := by decide +kernel
theorem dX3_init_0 : decode cX3_init 0 = .ok (.aload_n 0, 1) := by decide +kernel
theorem dX3_init_1 : decode cX3_init 1 = .ok (.invokespecial 3, 3) := by decide +kernel
theorem dX3_init_4 : decode cX3_init 4 = .ok (.aload_n 0, 1) := by decide +kernel
theorem dX3_init_5 : decode cX3_init 5 = .ok (.iconst 3, 1) := by decide +kernel
theorem dX3_init_6 : decode cX3_init 6 = .ok (.newarray .int, 2) := by decide +kernel
theorem dX3_init_8 : decode cX3_init 8 = .ok (.dup, 1) := by decide +kernel
theorem dX3_init_9 : decode cX3_init 9 = .ok (.iconst 0, 1) := by decide +kernel
theorem dX3_init_10 : decode cX3_init 10 = .ok (.iconst 0, 1) := by decide +kernel
theorem dX3_init_11 : decode cX3_init 11 = .ok (.iastore, 1) := by decide +kernel
theorem dX3_init_12 : decode cX3_init 12 = .ok (.dup, 1) := by decide +kernel
theorem dX3_init_13 : decode cX3_init 13 = .ok (.iconst 1, 1) := by decide +kernel
theorem dX3_init_14 : decode cX3_init 14 = .ok (.iconst 1, 1) := by decide +kernel
theorem dX3_init_15 : decode cX3_init 15 = .ok (.iastore, 1) := by decide +kernel
theorem dX3_init_16 : decode cX3_init 16 = .ok (.dup, 1) := by decide +kernel
theorem dX3_init_17 : decode cX3_init 17 = .ok (.iconst 2, 1) := by decide +kernel
theorem dX3_init_18 : decode cX3_init 18 = .ok (.iconst 2, 1) := by decide +kernel
theorem dX3_init_19 : decode cX3_init 19 = .ok (.iastore, 1) := by decide +kernel
theorem dX3_init_20 : decode cX3_init 20 = .ok (.putfield 9, 3) := by decide +kernel
theorem dX3_init_23 : decode cX3_init 23 = .ok (.aload_n 0, 1) := by decide +kernel
theorem dX3_init_24 : decode cX3_init 24 = .ok (.iconst 3, 1) := by decide +kernel
theorem dX3_init_25 : decode cX3_init 25 = .ok (.newarray .int, 2) := by decide +kernel
theorem dX3_init_27 : decode cX3_init 27 = .ok (.dup, 1) := by decide +kernel
theorem dX3_init_28 : decode cX3_init 28 = .ok (.iconst 0, 1) := by decide +kernel
theorem dX3_init_29 : decode cX3_init 29 = .ok (.iconst 1, 1) := by decide +kernel
theorem dX3_init_30 : decode cX3_init 30 = .ok (.iastore, 1) := by decide +kernel
theorem dX3_init_31 : decode cX3_init 31 = .ok (.dup, 1) := by decide +kernel
theorem dX3_init_32 : decode cX3_init 32 = .ok (.iconst 1, 1) := by decide +kernel
theorem dX3_init_33 : decode cX3_init 33 = .ok (.iconst 1, 1) := by decide +kernel
theorem dX3_init_34 : decode cX3_init 34 = .ok (.iastore, 1) := by decide +kernel
theorem dX3_init_35 : decode cX3_init 35 = .ok (.dup, 1) := by decide +kernel
theorem dX3_init_36 : decode cX3_init 36 = .ok (.iconst 2, 1) := by decide +kernel
theorem dX3_init_37 : decode cX3_init 37 = .ok (.iconst 1, 1) := by decide +kernel
theorem dX3_init_38 : decode cX3_init 38 = .ok (.iastore, 1) := by decide +kernel
theorem dX3_init_39 : decode cX3_init 39 = .ok (.putfield 15, 3) := by decide +kernel
theorem dX3_init_42 : decode cX3_init 42 = .ok (.aload_n 0, 1) := by decide +kernel
theorem dX3_init_43 : decode cX3_init 43 = .ok (.iconst 3, 1) := by decide +kernel
theorem dX3_init_44 : decode cX3_init 44 = .ok (.newarray .int, 2) := by decide +kernel
theorem dX3_init_46 : decode cX3_init 46 = .ok (.dup, 1) := by decide +kernel
theorem dX3_init_47 : decode cX3_init 47 = .ok (.iconst 0, 1) := by decide +kernel
theorem dX3_init_48 : decode cX3_init 48 = .ok (.iconst 0, 1) := by decide +kernel
theorem dX3_init_49 : decode cX3_init 49 = .ok (.iastore, 1) := by decide +kernel
theorem dX3_init_50 : decode cX3_init 50 = .ok (.dup, 1) := by decide +kernel
theorem dX3_init_51 : decode cX3_init 51 = .ok (.iconst 1, 1) := by decide +kernel
theorem dX3_init_52 : decode cX3_init 52 = .ok (.iconst 0, 1) := by decide +kernel
theorem dX3_init_53 : decode cX3_init 53 = .ok (.iastore, 1) := by decide +kernel
theorem dX3_init_54 : decode cX3_init 54 = .ok (.dup, 1) := by decide +kernel
theorem dX3_init_55 : decode cX3_init 55 = .ok (.iconst 2, 1) := by decide +kernel
theorem dX3_init_56 : decode cX3_init 56 = .ok (.iconst 0, 1) := by decide +kernel
theorem dX3_init_57 : decode cX3_init 57 = .ok (.iastore, 1) := by decide +kernel
theorem dX3_init_58 : decode cX3_init 58 = .ok (.putfield 18, 3) := by decide +kernel
theorem dX3_init_61 : decode cX3_init 61 = .ok (.aload_n 0, 1) := by decide +kernel
theorem dX3_init_62 : decode cX3_init 62 = .ok (.iconst 3, 1) := by decide +kernel
theorem dX3_init_63 : decode cX3_init 63 = .ok (.newarray .int, 2) := by decide +kernel
theorem dX3_init_65 : decode cX3_init 65 = .ok (.dup, 1) := by decide +kernel
theorem dX3_init_66 : decode cX3_init 66 = .ok (.iconst 0, 1) := by decide +kernel
theorem dX3_init_67 : decode cX3_init 67 = .ok (.iconst 1, 1) := by decide +kernel
theorem dX3_init_68 : decode cX3_init 68 = .ok (.iastore, 1) := by decide +kernel
theorem dX3_init_69 : decode cX3_init 69 = .ok (.dup, 1) := by decide +kernel
theorem dX3_init_70 : decode cX3_init 70 = .ok (.iconst 1, 1) := by decide +kernel
theorem dX3_init_71 : decode cX3_init 71 = .ok (.iconst 1, 1) := by decide +kernel
theorem dX3_init_72 : decode cX3_init 72 = .ok (.iastore, 1) := by decide +kernel
theorem dX3_init_73 : decode cX3_init 73 = .ok (.dup, 1) := by decide +kernel
theorem dX3_init_74 : decode cX3_init 74 = .ok (.iconst 2, 1) := by decide +kernel
theorem dX3_init_75 : decode cX3_init 75 = .ok (.iconst 1, 1) := by decide +kernel
theorem dX3_init_76 : decode cX3_init 76 = .ok (.iastore, 1) := by decide +kernel
theorem dX3_init_77 : decode cX3_init 77 = .ok (.putfield 21, 3) := by decide +kernel
theorem dX3_init_80 : decode cX3_init 80 = .ok (.return_, 1) := by decide +kernel
theorem dX3_copyFrom_0 : decode cX3_copyFrom 0 = .ok (.aload_n 1, 1) := by decide +kernel
theorem dX3_copyFrom_1 : decode cX3_copyFrom 1 = .ok (.getfield 9, 3) := by decide +kernel
theorem dX3_copyFrom_4 : decode cX3_copyFrom 4 = .ok (.aload_n 0, 1) := by decide +kernel
theorem dX3_copyFrom_5 : decode cX3_copyFrom 5 = .ok (.getfield 9, 3) := by decide +kernel
theorem dX3_copyFrom_8 : decode cX3_copyFrom 8 = .ok (.invokestatic 24, 3) := by decide +kernel
theorem dX3_copyFrom_11 : decode cX3_copyFrom 11 = .ok (.aload_n 1, 1) := by decide +kernel
theorem dX3_copyFrom_12 : decode cX3_copyFrom 12 = .ok (.getfield 15, 3) := by decide +kernel
theorem dX3_copyFrom_15 : decode cX3_copyFrom 15 = .ok (.aload_n 0, 1) := by decide +kernel
theorem dX3_copyFrom_16 : decode cX3_copyFrom 16 = .ok (.getfield 15, 3) := by decide +kernel
theorem dX3_copyFrom_19 : decode cX3_copyFrom 19 = .ok (.invokestatic 24, 3) := by decide +kernel
theorem dX3_copyFrom_22 : decode cX3_copyFrom 22 = .ok (.aload_n 1, 1) := by decide +kernel
theorem dX3_copyFrom_23 : decode cX3_copyFrom 23 = .ok (.getfield 18, 3) := by decide +kernel
theorem dX3_copyFrom_26 : decode cX3_copyFrom 26 = .ok (.aload_n 0, 1) := by decide +kernel
theorem dX3_copyFrom_27 : decode cX3_copyFrom 27 = .ok (.getfield 18, 3) := by decide +kernel
theorem dX3_copyFrom_30 : decode cX3_copyFrom 30 = .ok (.invokestatic 24, 3) := by decide +kernel
theorem dX3_copyFrom_33 : decode cX3_copyFrom 33 = .ok (.aload_n 1, 1) := by decide +kernel
theorem dX3_copyFrom_34 : decode cX3_copyFrom 34 = .ok (.getfield 21, 3) := by decide +kernel
theorem dX3_copyFrom_37 : decode cX3_copyFrom 37 = .ok (.aload_n 0, 1) := by decide +kernel
theorem dX3_copyFrom_38 : decode cX3_copyFrom 38 = .ok (.getfield 21, 3) := by decide +kernel
theorem dX3_copyFrom_41 : decode cX3_copyFrom 41 = .ok (.invokestatic 24, 3) := by decide +kernel
theorem dX3_copyFrom_44 : decode cX3_copyFrom 44 = .ok (.return_, 1) := by decide +kernel
theorem dX3_burning_0 : decode cX3_burning 0 = .ok (.iconst 0, 1) := by decide +kernel
theorem dX3_burning_1 : decode cX3_burning 1 = .ok (.istore_n 1, 1) := by decide +kernel
theorem dX3_burning_2 : decode cX3_burning 2 = .ok (.iconst 0, 1) := by decide +kernel
theorem dX3_burning_3 : decode cX3_burning 3 = .ok (.istore_n 2, 1) := by decide +kernel
theorem dX3_burning_4 : decode cX3_burning 4 = .ok (.iload_n 2, 1) := by decide +kernel
theorem dX3_burning_5 : decode cX3_burning 5 = .ok (.iconst 3, 1) := by decide +kernel
theorem dX3_burning_6 : decode cX3_burning 6 = .ok (.if_icmp .ge 18, 3) := by decide +kernel
theorem dX3_burning_9 : decode cX3_burning 9 = .ok (.iload_n 1, 1) := by decide +kernel
theorem dX3_burning_10 : decode cX3_burning 10 = .ok (.aload_n 0, 1) := by decide +kernel
theorem dX3_burning_11 : decode cX3_burning 11 = .ok (.getfield 21, 3) := by decide +kernel
theorem dX3_burning_14 : decode cX3_burning 14 = .ok (.iload_n 2, 1) := by decide +kernel
theorem dX3_burning_15 : decode cX3_burning 15 = .ok (.iaload, 1) := by decide +kernel
theorem dX3_burning_16 : decode cX3_burning 16 = .ok (.iadd, 1) := by decide +kernel
theorem dX3_burning_17 : decode cX3_burning 17 = .ok (.istore_n 1, 1) := by decide +kernel
theorem dX3_burning_18 : decode cX3_burning 18 = .ok (.iinc 2 1, 3) := by decide +kernel
theorem dX3_burning_21 : decode cX3_burning 21 = .ok (.goto (-17), 3) := by decide +kernel
theorem dX3_burning_24 : decode cX3_burning 24 = .ok (.iload_n 1, 1) := by decide +kernel
theorem dX3_burning_25 : decode cX3_burning 25 = .ok (.ireturn, 1) := by decide +kernel
theorem dX3_switchTo_0 : decode cX3_switchTo 0 = .ok (.aload_n 0, 1) := by decide +kernel
theorem dX3_switchTo_1 : decode cX3_switchTo 1 = .ok (.getfield 21, 3) := by decide +kernel
theorem dX3_switchTo_4 : decode cX3_switchTo 4 = .ok (.iload_n 1, 1) := by decide +kernel
theorem dX3_switchTo_5 : decode cX3_switchTo 5 = .ok (.iload_n 2, 1) := by decide +kernel
theorem dX3_switchTo_6 : decode cX3_switchTo 6 = .ok (.iconst 0, 1) := by decide +kernel
theorem dX3_switchTo_7 : decode cX3_switchTo 7 = .ok (.iconst 1, 1) := by decide +kernel
theorem dX3_switchTo_8 : decode cX3_switchTo 8 = .ok (.invokestatic 28, 3) := by decide +kernel
theorem dX3_switchTo_11 : decode cX3_switchTo 11 = .ok (.istore_n 3, 1) := by decide +kernel
theorem dX3_switchTo_12 : decode cX3_switchTo 12 = .ok (.iload_n 3, 1) := by decide +kernel
theorem dX3_switchTo_13 : decode cX3_switchTo 13 = .ok (.ifCond .ge 7, 3) := by decide +kernel
theorem dX3_switchTo_16 : decode cX3_switchTo 16 = .ok (.iload_n 3, 1) := by decide +kernel
theorem dX3_switchTo_17 : decode cX3_switchTo 17 = .ok (.goto 7, 3) := by decide +kernel
theorem dX3_switchTo_20 : decode cX3_switchTo 20 = .ok (.aload_n 0, 1) := by decide +kernel
theorem dX3_switchTo_21 : decode cX3_switchTo 21 = .ok (.invokevirtual 32, 3) := by decide +kernel
theorem dX3_switchTo_24 : decode cX3_switchTo 24 = .ok (.ireturn, 1) := by decide +kernel
theorem dX3_adjust_0 : decode cX3_adjust 0 = .ok (.iload_n 1, 1) := by decide +kernel
theorem dX3_adjust_1 : decode cX3_adjust 1 = .ok (.invokestatic 36, 3) := by decide +kernel
theorem dX3_adjust_4 : decode cX3_adjust 4 = .ok (.ifCond .ne 5, 3) := by decide +kernel
theorem dX3_adjust_7 : decode cX3_adjust 7 = .ok (.iconst (-1), 1) := by decide +kernel
theorem dX3_adjust_8 : decode cX3_adjust 8 = .ok (.ireturn, 1) := by decide +kernel
theorem dX3_adjust_9 : decode cX3_adjust 9 = .ok (.iload_n 2, 1) := by decide +kernel
theorem dX3_adjust_10 : decode cX3_adjust 10 = .ok (.tableswitch 63 0 2 #[26, 38, 50], 26) := by decide +kernel
theorem dX3_adjust_36 : decode cX3_adjust 36 = .ok (.aload_n 0, 1) := by decide +kernel
theorem dX3_adjust_37 : decode cX3_adjust 37 = .ok (.getfield 9, 3) := by decide +kernel
theorem dX3_adjust_40 : decode cX3_adjust 40 = .ok (.iload_n 1, 1) := by decide +kernel
theorem dX3_adjust_41 : decode cX3_adjust 41 = .ok (.iload_n 3, 1) := by decide +kernel
theorem dX3_adjust_42 : decode cX3_adjust 42 = .ok (.iconst 0, 1) := by decide +kernel
theorem dX3_adjust_43 : decode cX3_adjust 43 = .ok (.iconst 3, 1) := by decide +kernel
theorem dX3_adjust_44 : decode cX3_adjust 44 = .ok (.invokestatic 28, 3) := by decide +kernel
theorem dX3_adjust_47 : decode cX3_adjust 47 = .ok (.ireturn, 1) := by decide +kernel
theorem dX3_adjust_48 : decode cX3_adjust 48 = .ok (.aload_n 0, 1) := by decide +kernel
theorem dX3_adjust_49 : decode cX3_adjust 49 = .ok (.getfield 15, 3) := by decide +kernel
theorem dX3_adjust_52 : decode cX3_adjust 52 = .ok (.iload_n 1, 1) := by decide +kernel
theorem dX3_adjust_53 : decode cX3_adjust 53 = .ok (.iload_n 3, 1) := by decide +kernel
theorem dX3_adjust_54 : decode cX3_adjust 54 = .ok (.iconst 1, 1) := by decide +kernel
theorem dX3_adjust_55 : decode cX3_adjust 55 = .ok (.iconst 4, 1) := by decide +kernel
theorem dX3_adjust_56 : decode cX3_adjust 56 = .ok (.invokestatic 28, 3) := by decide +kernel
theorem dX3_adjust_59 : decode cX3_adjust 59 = .ok (.ireturn, 1) := by decide +kernel
theorem dX3_adjust_60 : decode cX3_adjust 60 = .ok (.aload_n 0, 1) := by decide +kernel
theorem dX3_adjust_61 : decode cX3_adjust 61 = .ok (.getfield 18, 3) := by decide +kernel
theorem dX3_adjust_64 : decode cX3_adjust 64 = .ok (.iload_n 1, 1) := by decide +kernel
theorem dX3_adjust_65 : decode cX3_adjust 65 = .ok (.iload_n 3, 1) := by decide +kernel
theorem dX3_adjust_66 : decode cX3_adjust 66 = .ok (.iconst 0, 1) := by decide +kernel
theorem dX3_adjust_67 : decode cX3_adjust 67 = .ok (.bipush 9, 2) := by decide +kernel
theorem dX3_adjust_69 : decode cX3_adjust 69 = .ok (.invokestatic 28, 3) := by decide +kernel
theorem dX3_adjust_72 : decode cX3_adjust 72 = .ok (.ireturn, 1) := by decide +kernel
theorem dX3_adjust_73 : decode cX3_adjust 73 = .ok (.bipush (-2), 2) := by decide +kernel
theorem dX3_adjust_75 : decode cX3_adjust 75 = .ok (.ireturn, 1) := by decide +kernel
theorem dX3_swingAtTurn_0 : decode cX3_swingAtTurn 0 = .ok (.iconst 0, 1) := by decide +kernel
theorem dX3_swingAtTurn_1 : decode cX3_swingAtTurn 1 = .ok (.istore_n 2, 1) := by decide +kernel
theorem dX3_swingAtTurn_2 : decode cX3_swingAtTurn 2 = .ok (.iload_n 2, 1) := by decide +kernel
theorem dX3_swingAtTurn_3 : decode cX3_swingAtTurn 3 = .ok (.iconst 3, 1) := by decide +kernel
theorem dX3_swingAtTurn_4 : decode cX3_swingAtTurn 4 = .ok (.if_icmp .ge 45, 3) := by decide +kernel
theorem dX3_swingAtTurn_7 : decode cX3_swingAtTurn 7 = .ok (.aload_n 0, 1) := by decide +kernel
theorem dX3_swingAtTurn_8 : decode cX3_swingAtTurn 8 = .ok (.getfield 18, 3) := by decide +kernel
theorem dX3_swingAtTurn_11 : decode cX3_swingAtTurn 11 = .ok (.iload_n 2, 1) := by decide +kernel
theorem dX3_swingAtTurn_12 : decode cX3_swingAtTurn 12 = .ok (.iaload, 1) := by decide +kernel
theorem dX3_swingAtTurn_13 : decode cX3_swingAtTurn 13 = .ok (.ifCond .eq 30, 3) := by decide +kernel
theorem dX3_swingAtTurn_16 : decode cX3_swingAtTurn 16 = .ok (.iload_n 1, 1) := by decide +kernel
theorem dX3_swingAtTurn_17 : decode cX3_swingAtTurn 17 = .ok (.aload_n 0, 1) := by decide +kernel
theorem dX3_swingAtTurn_18 : decode cX3_swingAtTurn 18 = .ok (.getfield 18, 3) := by decide +kernel
theorem dX3_swingAtTurn_21 : decode cX3_swingAtTurn 21 = .ok (.iload_n 2, 1) := by decide +kernel
theorem dX3_swingAtTurn_22 : decode cX3_swingAtTurn 22 = .ok (.iaload, 1) := by decide +kernel
theorem dX3_swingAtTurn_23 : decode cX3_swingAtTurn 23 = .ok (.irem, 1) := by decide +kernel
theorem dX3_swingAtTurn_24 : decode cX3_swingAtTurn 24 = .ok (.ifCond .ne 19, 3) := by decide +kernel
theorem dX3_swingAtTurn_27 : decode cX3_swingAtTurn 27 = .ok (.aload_n 0, 1) := by decide +kernel
theorem dX3_swingAtTurn_28 : decode cX3_swingAtTurn 28 = .ok (.getfield 9, 3) := by decide +kernel
theorem dX3_swingAtTurn_31 : decode cX3_swingAtTurn 31 = .ok (.iload_n 2, 1) := by decide +kernel
theorem dX3_swingAtTurn_32 : decode cX3_swingAtTurn 32 = .ok (.aload_n 0, 1) := by decide +kernel
theorem dX3_swingAtTurn_33 : decode cX3_swingAtTurn 33 = .ok (.getfield 9, 3) := by decide +kernel
theorem dX3_swingAtTurn_36 : decode cX3_swingAtTurn 36 = .ok (.iload_n 2, 1) := by decide +kernel
theorem dX3_swingAtTurn_37 : decode cX3_swingAtTurn 37 = .ok (.iaload, 1) := by decide +kernel
theorem dX3_swingAtTurn_38 : decode cX3_swingAtTurn 38 = .ok (.iconst 1, 1) := by decide +kernel
theorem dX3_swingAtTurn_39 : decode cX3_swingAtTurn 39 = .ok (.iadd, 1) := by decide +kernel
theorem dX3_swingAtTurn_40 : decode cX3_swingAtTurn 40 = .ok (.iconst 4, 1) := by decide +kernel
theorem dX3_swingAtTurn_41 : decode cX3_swingAtTurn 41 = .ok (.irem, 1) := by decide +kernel
theorem dX3_swingAtTurn_42 : decode cX3_swingAtTurn 42 = .ok (.iastore, 1) := by decide +kernel
theorem dX3_swingAtTurn_43 : decode cX3_swingAtTurn 43 = .ok (.iinc 2 1, 3) := by decide +kernel
theorem dX3_swingAtTurn_46 : decode cX3_swingAtTurn 46 = .ok (.goto (-44), 3) := by decide +kernel
theorem dX3_swingAtTurn_49 : decode cX3_swingAtTurn 49 = .ok (.return_, 1) := by decide +kernel
theorem dX4_init_0 : decode cX4_init 0 = .ok (.aload_n 0, 1) := by decide +kernel
theorem dX4_init_1 : decode cX4_init 1 = .ok (.invokespecial 3, 3) := by decide +kernel
theorem dX4_init_4 : decode cX4_init 4 = .ok (.aload_n 0, 1) := by decide +kernel
theorem dX4_init_5 : decode cX4_init 5 = .ok (.new 9, 3) := by decide +kernel
theorem dX4_init_8 : decode cX4_init 8 = .ok (.dup, 1) := by decide +kernel
theorem dX4_init_9 : decode cX4_init 9 = .ok (.invokespecial 11, 3) := by decide +kernel
theorem dX4_init_12 : decode cX4_init 12 = .ok (.putfield 12, 3) := by decide +kernel
theorem dX4_init_15 : decode cX4_init 15 = .ok (.aload_n 0, 1) := by decide +kernel
theorem dX4_init_16 : decode cX4_init 16 = .ok (.new 18, 3) := by decide +kernel
theorem dX4_init_19 : decode cX4_init 19 = .ok (.dup, 1) := by decide +kernel
theorem dX4_init_20 : decode cX4_init 20 = .ok (.invokespecial 20, 3) := by decide +kernel
theorem dX4_init_23 : decode cX4_init 23 = .ok (.putfield 21, 3) := by decide +kernel
theorem dX4_init_26 : decode cX4_init 26 = .ok (.aload_n 0, 1) := by decide +kernel
theorem dX4_init_27 : decode cX4_init 27 = .ok (.iconst 2, 1) := by decide +kernel
theorem dX4_init_28 : decode cX4_init 28 = .ok (.newarray .int, 2) := by decide +kernel
theorem dX4_init_30 : decode cX4_init 30 = .ok (.dup, 1) := by decide +kernel
theorem dX4_init_31 : decode cX4_init 31 = .ok (.iconst 0, 1) := by decide +kernel
theorem dX4_init_32 : decode cX4_init 32 = .ok (.iconst 3, 1) := by decide +kernel
theorem dX4_init_33 : decode cX4_init 33 = .ok (.iastore, 1) := by decide +kernel
theorem dX4_init_34 : decode cX4_init 34 = .ok (.dup, 1) := by decide +kernel
theorem dX4_init_35 : decode cX4_init 35 = .ok (.iconst 1, 1) := by decide +kernel
theorem dX4_init_36 : decode cX4_init 36 = .ok (.iconst 0, 1) := by decide +kernel
theorem dX4_init_37 : decode cX4_init 37 = .ok (.iastore, 1) := by decide +kernel
theorem dX4_init_38 : decode cX4_init 38 = .ok (.putfield 25, 3) := by decide +kernel
theorem dX4_init_41 : decode cX4_init 41 = .ok (.aload_n 0, 1) := by decide +kernel
theorem dX4_init_42 : decode cX4_init 42 = .ok (.iconst 0, 1) := by decide +kernel
theorem dX4_init_43 : decode cX4_init 43 = .ok (.putfield 29, 3) := by decide +kernel
theorem dX4_init_46 : decode cX4_init 46 = .ok (.aload_n 0, 1) := by decide +kernel
theorem dX4_init_47 : decode cX4_init 47 = .ok (.iconst 0, 1) := by decide +kernel
theorem dX4_init_48 : decode cX4_init 48 = .ok (.putfield 33, 3) := by decide +kernel
theorem dX4_init_51 : decode cX4_init 51 = .ok (.return_, 1) := by decide +kernel
theorem dX4_copyFrom_0 : decode cX4_copyFrom 0 = .ok (.aload_n 0, 1) := by decide +kernel
theorem dX4_copyFrom_1 : decode cX4_copyFrom 1 = .ok (.getfield 12, 3) := by decide +kernel
theorem dX4_copyFrom_4 : decode cX4_copyFrom 4 = .ok (.aload_n 1, 1) := by decide +kernel
theorem dX4_copyFrom_5 : decode cX4_copyFrom 5 = .ok (.getfield 12, 3) := by decide +kernel
theorem dX4_copyFrom_8 : decode cX4_copyFrom 8 = .ok (.invokevirtual 36, 3) := by decide +kernel
theorem dX4_copyFrom_11 : decode cX4_copyFrom 11 = .ok (.aload_n 0, 1) := by decide +kernel
theorem dX4_copyFrom_12 : decode cX4_copyFrom 12 = .ok (.getfield 21, 3) := by decide +kernel
theorem dX4_copyFrom_15 : decode cX4_copyFrom 15 = .ok (.aload_n 1, 1) := by decide +kernel
theorem dX4_copyFrom_16 : decode cX4_copyFrom 16 = .ok (.getfield 21, 3) := by decide +kernel
theorem dX4_copyFrom_19 : decode cX4_copyFrom 19 = .ok (.invokevirtual 40, 3) := by decide +kernel
theorem dX4_copyFrom_22 : decode cX4_copyFrom 22 = .ok (.aload_n 1, 1) := by decide +kernel
theorem dX4_copyFrom_23 : decode cX4_copyFrom 23 = .ok (.getfield 25, 3) := by decide +kernel
theorem dX4_copyFrom_26 : decode cX4_copyFrom 26 = .ok (.aload_n 0, 1) := by decide +kernel
theorem dX4_copyFrom_27 : decode cX4_copyFrom 27 = .ok (.getfield 25, 3) := by decide +kernel
theorem dX4_copyFrom_30 : decode cX4_copyFrom 30 = .ok (.invokestatic 43, 3) := by decide +kernel
theorem dX4_copyFrom_33 : decode cX4_copyFrom 33 = .ok (.aload_n 0, 1) := by decide +kernel
theorem dX4_copyFrom_34 : decode cX4_copyFrom 34 = .ok (.aload_n 1, 1) := by decide +kernel
theorem dX4_copyFrom_35 : decode cX4_copyFrom 35 = .ok (.getfield 29, 3) := by decide +kernel
theorem dX4_copyFrom_38 : decode cX4_copyFrom 38 = .ok (.putfield 29, 3) := by decide +kernel
theorem dX4_copyFrom_41 : decode cX4_copyFrom 41 = .ok (.aload_n 0, 1) := by decide +kernel
theorem dX4_copyFrom_42 : decode cX4_copyFrom 42 = .ok (.aload_n 1, 1) := by decide +kernel
theorem dX4_copyFrom_43 : decode cX4_copyFrom 43 = .ok (.getfield 33, 3) := by decide +kernel
theorem dX4_copyFrom_46 : decode cX4_copyFrom 46 = .ok (.putfield 33, 3) := by decide +kernel
theorem dX4_copyFrom_49 : decode cX4_copyFrom 49 = .ok (.return_, 1) := by decide +kernel
theorem dX4_takeTurns_0 : decode cX4_takeTurns 0 = .ok (.iload_n 1, 1) := by decide +kernel
theorem dX4_takeTurns_1 : decode cX4_takeTurns 1 = .ok (.iconst 1, 1) := by decide +kernel
theorem dX4_takeTurns_2 : decode cX4_takeTurns 2 = .ok (.if_icmp .lt 9, 3) := by decide +kernel
theorem dX4_takeTurns_5 : decode cX4_takeTurns 5 = .ok (.iload_n 1, 1) := by decide +kernel
theorem dX4_takeTurns_6 : decode cX4_takeTurns 6 = .ok (.bipush 99, 2) := by decide +kernel
theorem dX4_takeTurns_8 : decode cX4_takeTurns 8 = .ok (.if_icmp .le 6, 3) := by decide +kernel
theorem dX4_takeTurns_11 : decode cX4_takeTurns 11 = .ok (.bipush (-2), 2) := by decide +kernel
theorem dX4_takeTurns_13 : decode cX4_takeTurns 13 = .ok (.ireturn, 1) := by decide +kernel
theorem dX4_takeTurns_14 : decode cX4_takeTurns 14 = .ok (.aload_n 0, 1) := by decide +kernel
theorem dX4_takeTurns_15 : decode cX4_takeTurns 15 = .ok (.getfield 29, 3) := by decide +kernel
theorem dX4_takeTurns_18 : decode cX4_takeTurns 18 = .ok (.iload_n 1, 1) := by decide +kernel
theorem dX4_takeTurns_19 : decode cX4_takeTurns 19 = .ok (.iadd, 1) := by decide +kernel
theorem dX4_takeTurns_20 : decode cX4_takeTurns 20 = .ok (.ldc 47, 2) := by decide +kernel
theorem dX4_takeTurns_22 : decode cX4_takeTurns 22 = .ok (.if_icmp .le 6, 3) := by decide +kernel
theorem dX4_takeTurns_25 : decode cX4_takeTurns 25 = .ok (.bipush (-3), 2) := by decide +kernel
theorem dX4_takeTurns_27 : decode cX4_takeTurns 27 = .ok (.ireturn, 1) := by decide +kernel
theorem dX4_takeTurns_28 : decode cX4_takeTurns 28 = .ok (.aload_n 0, 1) := by decide +kernel
theorem dX4_takeTurns_29 : decode cX4_takeTurns 29 = .ok (.getfield 12, 3) := by decide +kernel
theorem dX4_takeTurns_32 : decode cX4_takeTurns 32 = .ok (.getfield 48, 3) := by decide +kernel
theorem dX4_takeTurns_35 : decode cX4_takeTurns 35 = .ok (.istore_n 2, 1) := by decide +kernel
theorem dX4_takeTurns_36 : decode cX4_takeTurns 36 = .ok (.iconst 0, 1) := by decide +kernel
theorem dX4_takeTurns_37 : decode cX4_takeTurns 37 = .ok (.istore_n 3, 1) := by decide +kernel
theorem dX4_takeTurns_38 : decode cX4_takeTurns 38 = .ok (.iload_n 3, 1) := by decide +kernel
theorem dX4_takeTurns_39 : decode cX4_takeTurns 39 = .ok (.iload_n 1, 1) := by decide +kernel
theorem dX4_takeTurns_40 : decode cX4_takeTurns 40 = .ok (.if_icmp .ge 14, 3) := by decide +kernel
theorem dX4_takeTurns_43 : decode cX4_takeTurns 43 = .ok (.aload_n 0, 1) := by decide +kernel
theorem dX4_takeTurns_44 : decode cX4_takeTurns 44 = .ok (.invokevirtual 51, 3) := by decide +kernel
theorem dX4_takeTurns_47 : decode cX4_takeTurns 47 = .ok (.pop, 1) := by decide +kernel
theorem dX4_takeTurns_48 : decode cX4_takeTurns 48 = .ok (.iinc 3 1, 3) := by decide +kernel
theorem dX4_takeTurns_51 : decode cX4_takeTurns 51 = .ok (.goto (-13), 3) := by decide +kernel
theorem dX4_takeTurns_54 : decode cX4_takeTurns 54 = .ok (.aload_n 0, 1) := by decide +kernel
theorem dX4_takeTurns_55 : decode cX4_takeTurns 55 = .ok (.getfield 12, 3) := by decide +kernel
theorem dX4_takeTurns_58 : decode cX4_takeTurns 58 = .ok (.getfield 48, 3) := by decide +kernel
theorem dX4_takeTurns_61 : decode cX4_takeTurns 61 = .ok (.iload_n 2, 1) := by decide +kernel
theorem dX4_takeTurns_62 : decode cX4_takeTurns 62 = .ok (.isub, 1) := by decide +kernel
theorem dX4_takeTurns_63 : decode cX4_takeTurns 63 = .ok (.ireturn, 1) := by decide +kernel
theorem dX4_takeTurn_0 : decode cX4_takeTurn 0 = .ok (.aload_n 0, 1) := by decide +kernel
theorem dX4_takeTurn_1 : decode cX4_takeTurn 1 = .ok (.getfield 12, 3) := by decide +kernel
theorem dX4_takeTurn_4 : decode cX4_takeTurn 4 = .ok (.invokevirtual 55, 3) := by decide +kernel
theorem dX4_takeTurn_7 : decode cX4_takeTurn 7 = .ok (.aload_n 0, 1) := by decide +kernel
theorem dX4_takeTurn_8 : decode cX4_takeTurn 8 = .ok (.invokevirtual 58, 3) := by decide +kernel
theorem dX4_takeTurn_11 : decode cX4_takeTurn 11 = .ok (.istore_n 1, 1) := by decide +kernel
theorem dX4_takeTurn_12 : decode cX4_takeTurn 12 = .ok (.iload_n 1, 1) := by decide +kernel
theorem dX4_takeTurn_13 : decode cX4_takeTurn 13 = .ok (.bipush (-5), 2) := by decide +kernel
theorem dX4_takeTurn_15 : decode cX4_takeTurn 15 = .ok (.if_icmp .eq 19, 3) := by decide +kernel
theorem dX4_takeTurn_18 : decode cX4_takeTurn 18 = .ok (.aload_n 0, 1) := by decide +kernel
theorem dX4_takeTurn_19 : decode cX4_takeTurn 19 = .ok (.getfield 12, 3) := by decide +kernel
theorem dX4_takeTurn_22 : decode cX4_takeTurn 22 = .ok (.iload_n 1, 1) := by decide +kernel
theorem dX4_takeTurn_23 : decode cX4_takeTurn 23 = .ok (.aload_n 0, 1) := by decide +kernel
theorem dX4_takeTurn_24 : decode cX4_takeTurn 24 = .ok (.getfield 25, 3) := by decide +kernel
theorem dX4_takeTurn_27 : decode cX4_takeTurn 27 = .ok (.iconst 0, 1) := by decide +kernel
theorem dX4_takeTurn_28 : decode cX4_takeTurn 28 = .ok (.iaload, 1) := by decide +kernel
theorem dX4_takeTurn_29 : decode cX4_takeTurn 29 = .ok (.iconst 1, 1) := by decide +kernel
theorem dX4_takeTurn_30 : decode cX4_takeTurn 30 = .ok (.iadd, 1) := by decide +kernel
theorem dX4_takeTurn_31 : decode cX4_takeTurn 31 = .ok (.invokevirtual 62, 3) := by decide +kernel
theorem dX4_takeTurn_34 : decode cX4_takeTurn 34 = .ok (.aload_n 0, 1) := by decide +kernel
theorem dX4_takeTurn_35 : decode cX4_takeTurn 35 = .ok (.getfield 12, 3) := by decide +kernel
theorem dX4_takeTurn_38 : decode cX4_takeTurn 38 = .ok (.invokevirtual 66, 3) := by decide +kernel
theorem dX4_takeTurn_41 : decode cX4_takeTurn 41 = .ok (.aload_n 0, 1) := by decide +kernel
theorem dX4_takeTurn_42 : decode cX4_takeTurn 42 = .ok (.getfield 12, 3) := by decide +kernel
theorem dX4_takeTurn_45 : decode cX4_takeTurn 45 = .ok (.invokevirtual 69, 3) := by decide +kernel
theorem dX4_takeTurn_48 : decode cX4_takeTurn 48 = .ok (.aload_n 0, 1) := by decide +kernel
theorem dX4_takeTurn_49 : decode cX4_takeTurn 49 = .ok (.dup, 1) := by decide +kernel
theorem dX4_takeTurn_50 : decode cX4_takeTurn 50 = .ok (.getfield 29, 3) := by decide +kernel
theorem dX4_takeTurn_53 : decode cX4_takeTurn 53 = .ok (.iconst 1, 1) := by decide +kernel
theorem dX4_takeTurn_54 : decode cX4_takeTurn 54 = .ok (.iadd, 1) := by decide +kernel
theorem dX4_takeTurn_55 : decode cX4_takeTurn 55 = .ok (.putfield 29, 3) := by decide +kernel
theorem dX4_takeTurn_58 : decode cX4_takeTurn 58 = .ok (.aload_n 0, 1) := by decide +kernel
theorem dX4_takeTurn_59 : decode cX4_takeTurn 59 = .ok (.getfield 21, 3) := by decide +kernel
theorem dX4_takeTurn_62 : decode cX4_takeTurn 62 = .ok (.aload_n 0, 1) := by decide +kernel
theorem dX4_takeTurn_63 : decode cX4_takeTurn 63 = .ok (.getfield 29, 3) := by decide +kernel
theorem dX4_takeTurn_66 : decode cX4_takeTurn 66 = .ok (.invokevirtual 72, 3) := by decide +kernel
theorem dX4_takeTurn_69 : decode cX4_takeTurn 69 = .ok (.aload_n 0, 1) := by decide +kernel
theorem dX4_takeTurn_70 : decode cX4_takeTurn 70 = .ok (.getfield 25, 3) := by decide +kernel
theorem dX4_takeTurn_73 : decode cX4_takeTurn 73 = .ok (.iconst 1, 1) := by decide +kernel
theorem dX4_takeTurn_74 : decode cX4_takeTurn 74 = .ok (.iaload, 1) := by decide +kernel
theorem dX4_takeTurn_75 : decode cX4_takeTurn 75 = .ok (.ifCond .eq 34, 3) := by decide +kernel
theorem dX4_takeTurn_78 : decode cX4_takeTurn 78 = .ok (.aload_n 0, 1) := by decide +kernel
theorem dX4_takeTurn_79 : decode cX4_takeTurn 79 = .ok (.getfield 29, 3) := by decide +kernel
theorem dX4_takeTurn_82 : decode cX4_takeTurn 82 = .ok (.aload_n 0, 1) := by decide +kernel
theorem dX4_takeTurn_83 : decode cX4_takeTurn 83 = .ok (.getfield 25, 3) := by decide +kernel
theorem dX4_takeTurn_86 : decode cX4_takeTurn 86 = .ok (.iconst 1, 1) := by decide +kernel
theorem dX4_takeTurn_87 : decode cX4_takeTurn 87 = .ok (.iaload, 1) := by decide +kernel
theorem dX4_takeTurn_88 : decode cX4_takeTurn 88 = .ok (.irem, 1) := by decide +kernel
theorem dX4_takeTurn_89 : decode cX4_takeTurn 89 = .ok (.ifCond .ne 20, 3) := by decide +kernel
theorem dX4_takeTurn_92 : decode cX4_takeTurn 92 = .ok (.aload_n 0, 1) := by decide +kernel
theorem dX4_takeTurn_93 : decode cX4_takeTurn 93 = .ok (.getfield 12, 3) := by decide +kernel
theorem dX4_takeTurn_96 : decode cX4_takeTurn 96 = .ok (.invokevirtual 76, 3) := by decide +kernel
theorem dX4_takeTurn_99 : decode cX4_takeTurn 99 = .ok (.aload_n 0, 1) := by decide +kernel
theorem dX4_takeTurn_100 : decode cX4_takeTurn 100 = .ok (.dup, 1) := by decide +kernel
theorem dX4_takeTurn_101 : decode cX4_takeTurn 101 = .ok (.getfield 33, 3) := by decide +kernel
theorem dX4_takeTurn_104 : decode cX4_takeTurn 104 = .ok (.iconst 1, 1) := by decide +kernel
theorem dX4_takeTurn_105 : decode cX4_takeTurn 105 = .ok (.iadd, 1) := by decide +kernel
theorem dX4_takeTurn_106 : decode cX4_takeTurn 106 = .ok (.putfield 33, 3) := by decide +kernel
theorem dX4_takeTurn_109 : decode cX4_takeTurn 109 = .ok (.iload_n 1, 1) := by decide +kernel
theorem dX4_takeTurn_110 : decode cX4_takeTurn 110 = .ok (.bipush (-5), 2) := by decide +kernel
theorem dX4_takeTurn_112 : decode cX4_takeTurn 112 = .ok (.if_icmp .eq 7, 3) := by decide +kernel
theorem dX4_takeTurn_115 : decode cX4_takeTurn 115 = .ok (.iconst 1, 1) := by decide +kernel
theorem dX4_takeTurn_116 : decode cX4_takeTurn 116 = .ok (.goto 4, 3) := by decide +kernel
theorem dX4_takeTurn_119 : decode cX4_takeTurn 119 = .ok (.iconst 0, 1) := by decide +kernel
theorem dX4_takeTurn_120 : decode cX4_takeTurn 120 = .ok (.ireturn, 1) := by decide +kernel
theorem dX4_firstCaught_0 : decode cX4_firstCaught 0 = .ok (.aload_n 0, 1) := by decide +kernel
theorem dX4_firstCaught_1 : decode cX4_firstCaught 1 = .ok (.getfield 12, 3) := by decide +kernel
theorem dX4_firstCaught_4 : decode cX4_firstCaught 4 = .ok (.aload_n 0, 1) := by decide +kernel
theorem dX4_firstCaught_5 : decode cX4_firstCaught 5 = .ok (.getfield 12, 3) := by decide +kernel
theorem dX4_firstCaught_8 : decode cX4_firstCaught 8 = .ok (.getfield 79, 3) := by decide +kernel
theorem dX4_firstCaught_11 : decode cX4_firstCaught 11 = .ok (.invokevirtual 82, 3) := by decide +kernel
theorem dX4_firstCaught_14 : decode cX4_firstCaught 14 = .ok (.ifCond .ne 6, 3) := by decide +kernel
theorem dX4_firstCaught_17 : decode cX4_firstCaught 17 = .ok (.bipush (-5), 2) := by decide +kernel
theorem dX4_firstCaught_19 : decode cX4_firstCaught 19 = .ok (.ireturn, 1) := by decide +kernel
theorem dX4_firstCaught_20 : decode cX4_firstCaught 20 = .ok (.aload_n 0, 1) := by decide +kernel
theorem dX4_firstCaught_21 : decode cX4_firstCaught 21 = .ok (.getfield 12, 3) := by decide +kernel
theorem dX4_firstCaught_24 : decode cX4_firstCaught 24 = .ok (.getfield 86, 3) := by decide +kernel
theorem dX4_firstCaught_27 : decode cX4_firstCaught 27 = .ok (.aload_n 0, 1) := by decide +kernel
theorem dX4_firstCaught_28 : decode cX4_firstCaught 28 = .ok (.getfield 12, 3) := by decide +kernel
theorem dX4_firstCaught_31 : decode cX4_firstCaught 31 = .ok (.getfield 79, 3) := by decide +kernel
theorem dX4_firstCaught_34 : decode cX4_firstCaught 34 = .ok (.iaload, 1) := by decide +kernel
theorem dX4_firstCaught_35 : decode cX4_firstCaught 35 = .ok (.istore_n 1, 1) := by decide +kernel
theorem dX4_firstCaught_36 : decode cX4_firstCaught 36 = .ok (.bipush (-5), 2) := by decide +kernel
theorem dX4_firstCaught_38 : decode cX4_firstCaught 38 = .ok (.istore_n 2, 1) := by decide +kernel
theorem dX4_firstCaught_39 : decode cX4_firstCaught 39 = .ok (.iconst 0, 1) := by decide +kernel
theorem dX4_firstCaught_40 : decode cX4_firstCaught 40 = .ok (.istore_n 3, 1) := by decide +kernel
theorem dX4_firstCaught_41 : decode cX4_firstCaught 41 = .ok (.iload_n 3, 1) := by decide +kernel
theorem dX4_firstCaught_42 : decode cX4_firstCaught 42 = .ok (.iconst 3, 1) := by decide +kernel
theorem dX4_firstCaught_43 : decode cX4_firstCaught 43 = .ok (.if_icmp .ge 57, 3) := by decide +kernel
theorem dX4_firstCaught_46 : decode cX4_firstCaught 46 = .ok (.aload_n 0, 1) := by decide +kernel
theorem dX4_firstCaught_47 : decode cX4_firstCaught 47 = .ok (.iload_n 1, 1) := by decide +kernel
theorem dX4_firstCaught_48 : decode cX4_firstCaught 48 = .ok (.iload_n 3, 1) := by decide +kernel
theorem dX4_firstCaught_49 : decode cX4_firstCaught 49 = .ok (.invokevirtual 89, 3) := by decide +kernel
theorem dX4_firstCaught_52 : decode cX4_firstCaught 52 = .ok (.istore 4, 2) := by decide +kernel
theorem dX4_firstCaught_54 : decode cX4_firstCaught 54 = .ok (.aload_n 0, 1) := by decide +kernel
theorem dX4_firstCaught_55 : decode cX4_firstCaught 55 = .ok (.getfield 12, 3) := by decide +kernel
theorem dX4_firstCaught_58 : decode cX4_firstCaught 58 = .ok (.iload 4, 2) := by decide +kernel
theorem dX4_firstCaught_60 : decode cX4_firstCaught 60 = .ok (.invokevirtual 82, 3) := by decide +kernel
theorem dX4_firstCaught_63 : decode cX4_firstCaught 63 = .ok (.ifCond .eq 31, 3) := by decide +kernel
theorem dX4_firstCaught_66 : decode cX4_firstCaught 66 = .ok (.aload_n 0, 1) := by decide +kernel
theorem dX4_firstCaught_67 : decode cX4_firstCaught 67 = .ok (.getfield 12, 3) := by decide +kernel
theorem dX4_firstCaught_70 : decode cX4_firstCaught 70 = .ok (.getfield 93, 3) := by decide +kernel
theorem dX4_firstCaught_73 : decode cX4_firstCaught 73 = .ok (.iload 4, 2) := by decide +kernel
theorem dX4_firstCaught_75 : decode cX4_firstCaught 75 = .ok (.iaload, 1) := by decide +kernel
theorem dX4_firstCaught_76 : decode cX4_firstCaught 76 = .ok (.ifCond .ne 18, 3) := by decide +kernel
theorem dX4_firstCaught_79 : decode cX4_firstCaught 79 = .ok (.iload_n 2, 1) := by decide +kernel
theorem dX4_firstCaught_80 : decode cX4_firstCaught 80 = .ok (.bipush (-5), 2) := by decide +kernel
theorem dX4_firstCaught_82 : decode cX4_firstCaught 82 = .ok (.if_icmp .eq 9, 3) := by decide +kernel
theorem dX4_firstCaught_85 : decode cX4_firstCaught 85 = .ok (.iload 4, 2) := by decide +kernel
theorem dX4_firstCaught_87 : decode cX4_firstCaught 87 = .ok (.iload_n 2, 1) := by decide +kernel
theorem dX4_firstCaught_88 : decode cX4_firstCaught 88 = .ok (.if_icmp .ge 6, 3) := by decide +kernel
theorem dX4_firstCaught_91 : decode cX4_firstCaught 91 = .ok (.iload 4, 2) := by decide +kernel
theorem dX4_firstCaught_93 : decode cX4_firstCaught 93 = .ok (.istore_n 2, 1) := by decide +kernel
theorem dX4_firstCaught_94 : decode cX4_firstCaught 94 = .ok (.iinc 3 1, 3) := by decide +kernel
theorem dX4_firstCaught_97 : decode cX4_firstCaught 97 = .ok (.goto (-56), 3) := by decide +kernel
theorem dX4_firstCaught_100 : decode cX4_firstCaught 100 = .ok (.iload_n 2, 1) := by decide +kernel
theorem dX4_firstCaught_101 : decode cX4_firstCaught 101 = .ok (.ireturn, 1) := by decide +kernel
theorem dX4_catcherStandsInShadowOf_0 : decode cX4_catcherStandsInShadowOf 0 = .ok (.aload_n 0, 1) := by decide +kernel
theorem dX4_catcherStandsInShadowOf_1 : decode cX4_catcherStandsInShadowOf 1 = .ok (.getfield 12, 3) := by decide +kernel
theorem dX4_catcherStandsInShadowOf_4 : decode cX4_catcherStandsInShadowOf 4 = .ok (.aload_n 0, 1) := by decide +kernel
theorem dX4_catcherStandsInShadowOf_5 : decode cX4_catcherStandsInShadowOf 5 = .ok (.getfield 12, 3) := by decide +kernel
theorem dX4_catcherStandsInShadowOf_8 : decode cX4_catcherStandsInShadowOf 8 = .ok (.getfield 79, 3) := by decide +kernel
theorem dX4_catcherStandsInShadowOf_11 : decode cX4_catcherStandsInShadowOf 11 = .ok (.invokevirtual 82, 3) := by decide +kernel
theorem dX4_catcherStandsInShadowOf_14 : decode cX4_catcherStandsInShadowOf 14 = .ok (.ifCond .ne 5, 3) := by decide +kernel
theorem dX4_catcherStandsInShadowOf_17 : decode cX4_catcherStandsInShadowOf 17 = .ok (.iconst 0, 1) := by decide +kernel
theorem dX4_catcherStandsInShadowOf_18 : decode cX4_catcherStandsInShadowOf 18 = .ok (.ireturn, 1) := by decide +kernel
theorem dX4_catcherStandsInShadowOf_19 : decode cX4_catcherStandsInShadowOf 19 = .ok (.aload_n 0, 1) := by decide +kernel
theorem dX4_catcherStandsInShadowOf_20 : decode cX4_catcherStandsInShadowOf 20 = .ok (.getfield 12, 3) := by decide +kernel
theorem dX4_catcherStandsInShadowOf_23 : decode cX4_catcherStandsInShadowOf 23 = .ok (.getfield 86, 3) := by decide +kernel
theorem dX4_catcherStandsInShadowOf_26 : decode cX4_catcherStandsInShadowOf 26 = .ok (.aload_n 0, 1) := by decide +kernel
theorem dX4_catcherStandsInShadowOf_27 : decode cX4_catcherStandsInShadowOf 27 = .ok (.getfield 12, 3) := by decide +kernel
theorem dX4_catcherStandsInShadowOf_30 : decode cX4_catcherStandsInShadowOf 30 = .ok (.getfield 79, 3) := by decide +kernel
theorem dX4_catcherStandsInShadowOf_33 : decode cX4_catcherStandsInShadowOf 33 = .ok (.iaload, 1) := by decide +kernel
theorem dX4_catcherStandsInShadowOf_34 : decode cX4_catcherStandsInShadowOf 34 = .ok (.istore_n 2, 1) := by decide +kernel
theorem dX4_catcherStandsInShadowOf_35 : decode cX4_catcherStandsInShadowOf 35 = .ok (.iconst 0, 1) := by decide +kernel
theorem dX4_catcherStandsInShadowOf_36 : decode cX4_catcherStandsInShadowOf 36 = .ok (.istore_n 3, 1) := by decide +kernel
theorem dX4_catcherStandsInShadowOf_37 : decode cX4_catcherStandsInShadowOf 37 = .ok (.iload_n 3, 1) := by decide +kernel
theorem dX4_catcherStandsInShadowOf_38 : decode cX4_catcherStandsInShadowOf 38 = .ok (.iconst 3, 1) := by decide +kernel
theorem dX4_catcherStandsInShadowOf_39 : decode cX4_catcherStandsInShadowOf 39 = .ok (.if_icmp .ge 21, 3) := by decide +kernel
theorem dX4_catcherStandsInShadowOf_42 : decode cX4_catcherStandsInShadowOf 42 = .ok (.aload_n 0, 1) := by decide +kernel
theorem dX4_catcherStandsInShadowOf_43 : decode cX4_catcherStandsInShadowOf 43 = .ok (.iload_n 2, 1) := by decide +kernel
theorem dX4_catcherStandsInShadowOf_44 : decode cX4_catcherStandsInShadowOf 44 = .ok (.iload_n 1, 1) := by decide +kernel
theorem dX4_catcherStandsInShadowOf_45 : decode cX4_catcherStandsInShadowOf 45 = .ok (.iload_n 3, 1) := by decide +kernel
theorem dX4_catcherStandsInShadowOf_46 : decode cX4_catcherStandsInShadowOf 46 = .ok (.invokevirtual 96, 3) := by decide +kernel
theorem dX4_catcherStandsInShadowOf_49 : decode cX4_catcherStandsInShadowOf 49 = .ok (.ifCond .eq 5, 3) := by decide +kernel
theorem dX4_catcherStandsInShadowOf_52 : decode cX4_catcherStandsInShadowOf 52 = .ok (.iconst 1, 1) := by decide +kernel
theorem dX4_catcherStandsInShadowOf_53 : decode cX4_catcherStandsInShadowOf 53 = .ok (.ireturn, 1) := by decide +kernel
theorem dX4_catcherStandsInShadowOf_54 : decode cX4_catcherStandsInShadowOf 54 = .ok (.iinc 3 1, 3) := by decide +kernel
theorem dX4_catcherStandsInShadowOf_57 : decode cX4_catcherStandsInShadowOf 57 = .ok (.goto (-20), 3) := by decide +kernel
theorem dX4_catcherStandsInShadowOf_60 : decode cX4_catcherStandsInShadowOf 60 = .ok (.iconst 0, 1) := by decide +kernel
theorem dX4_catcherStandsInShadowOf_61 : decode cX4_catcherStandsInShadowOf 61 = .ok (.ireturn, 1) := by decide +kernel
theorem dX4_isInShadow_0 : decode cX4_isInShadow 0 = .ok (.aload_n 0, 1) := by decide +kernel
theorem dX4_isInShadow_1 : decode cX4_isInShadow 1 = .ok (.getfield 12, 3) := by decide +kernel
theorem dX4_isInShadow_4 : decode cX4_isInShadow 4 = .ok (.iload_n 2, 1) := by decide +kernel
theorem dX4_isInShadow_5 : decode cX4_isInShadow 5 = .ok (.invokevirtual 82, 3) := by decide +kernel
theorem dX4_isInShadow_8 : decode cX4_isInShadow 8 = .ok (.ifCond .eq 10, 3) := by decide +kernel
theorem dX4_isInShadow_11 : decode cX4_isInShadow 11 = .ok (.iload_n 3, 1) := by decide +kernel
theorem dX4_isInShadow_12 : decode cX4_isInShadow 12 = .ok (.invokestatic 100, 3) := by decide +kernel
theorem dX4_isInShadow_15 : decode cX4_isInShadow 15 = .ok (.ifCond .ne 5, 3) := by decide +kernel
theorem dX4_isInShadow_18 : decode cX4_isInShadow 18 = .ok (.iconst 0, 1) := by decide +kernel
theorem dX4_isInShadow_19 : decode cX4_isInShadow 19 = .ok (.ireturn, 1) := by decide +kernel
theorem dX4_isInShadow_20 : decode cX4_isInShadow 20 = .ok (.aload_n 0, 1) := by decide +kernel
theorem dX4_isInShadow_21 : decode cX4_isInShadow 21 = .ok (.getfield 12, 3) := by decide +kernel
theorem dX4_isInShadow_24 : decode cX4_isInShadow 24 = .ok (.getfield 86, 3) := by decide +kernel
theorem dX4_isInShadow_27 : decode cX4_isInShadow 27 = .ok (.iload_n 2, 1) := by decide +kernel
theorem dX4_isInShadow_28 : decode cX4_isInShadow 28 = .ok (.iaload, 1) := by decide +kernel
theorem dX4_isInShadow_29 : decode cX4_isInShadow 29 = .ok (.iload_n 1, 1) := by decide +kernel
theorem dX4_isInShadow_30 : decode cX4_isInShadow 30 = .ok (.aload_n 0, 1) := by decide +kernel
theorem dX4_isInShadow_31 : decode cX4_isInShadow 31 = .ok (.getfield 21, 3) := by decide +kernel
theorem dX4_isInShadow_34 : decode cX4_isInShadow 34 = .ok (.getfield 103, 3) := by decide +kernel
theorem dX4_isInShadow_37 : decode cX4_isInShadow 37 = .ok (.iload_n 3, 1) := by decide +kernel
theorem dX4_isInShadow_38 : decode cX4_isInShadow 38 = .ok (.iaload, 1) := by decide +kernel
theorem dX4_isInShadow_39 : decode cX4_isInShadow 39 = .ok (.invokestatic 106, 3) := by decide +kernel
theorem dX4_isInShadow_42 : decode cX4_isInShadow 42 = .ok (.invokestatic 110, 3) := by decide +kernel
theorem dX4_isInShadow_45 : decode cX4_isInShadow 45 = .ok (.istore 4, 2) := by decide +kernel
theorem dX4_isInShadow_47 : decode cX4_isInShadow 47 = .ok (.iload 4, 2) := by decide +kernel
theorem dX4_isInShadow_49 : decode cX4_isInShadow 49 = .ok (.ifCond .le 18, 3) := by decide +kernel
theorem dX4_isInShadow_52 : decode cX4_isInShadow 52 = .ok (.iload 4, 2) := by decide +kernel
theorem dX4_isInShadow_54 : decode cX4_isInShadow 54 = .ok (.aload_n 0, 1) := by decide +kernel
theorem dX4_isInShadow_55 : decode cX4_isInShadow 55 = .ok (.iload_n 2, 1) := by decide +kernel
theorem dX4_isInShadow_56 : decode cX4_isInShadow 56 = .ok (.iload_n 3, 1) := by decide +kernel
theorem dX4_isInShadow_57 : decode cX4_isInShadow 57 = .ok (.invokevirtual 114, 3) := by decide +kernel
theorem dX4_isInShadow_60 : decode cX4_isInShadow 60 = .ok (.if_icmp .gt 7, 3) := by decide +kernel
theorem dX4_isInShadow_63 : decode cX4_isInShadow 63 = .ok (.iconst 1, 1) := by decide +kernel
theorem dX4_isInShadow_64 : decode cX4_isInShadow 64 = .ok (.goto 4, 3) := by decide +kernel
theorem dX4_isInShadow_67 : decode cX4_isInShadow 67 = .ok (.iconst 0, 1) := by decide +kernel
theorem dX4_isInShadow_68 : decode cX4_isInShadow 68 = .ok (.ireturn, 1) := by decide +kernel
theorem dX4_shadowLength_0 : decode cX4_shadowLength 0 = .ok (.aload_n 0, 1) := by decide +kernel
theorem dX4_shadowLength_1 : decode cX4_shadowLength 1 = .ok (.getfield 12, 3) := by decide +kernel
theorem dX4_shadowLength_4 : decode cX4_shadowLength 4 = .ok (.iload_n 1, 1) := by decide +kernel
theorem dX4_shadowLength_5 : decode cX4_shadowLength 5 = .ok (.invokevirtual 82, 3) := by decide +kernel
theorem dX4_shadowLength_8 : decode cX4_shadowLength 8 = .ok (.ifCond .eq 22, 3) := by decide +kernel
theorem dX4_shadowLength_11 : decode cX4_shadowLength 11 = .ok (.iload_n 2, 1) := by decide +kernel
theorem dX4_shadowLength_12 : decode cX4_shadowLength 12 = .ok (.invokestatic 100, 3) := by decide +kernel
theorem dX4_shadowLength_15 : decode cX4_shadowLength 15 = .ok (.ifCond .eq 15, 3) := by decide +kernel
theorem dX4_shadowLength_18 : decode cX4_shadowLength 18 = .ok (.aload_n 0, 1) := by decide +kernel
theorem dX4_shadowLength_19 : decode cX4_shadowLength 19 = .ok (.getfield 21, 3) := by decide +kernel
theorem dX4_shadowLength_22 : decode cX4_shadowLength 22 = .ok (.getfield 117, 3) := by decide +kernel
theorem dX4_shadowLength_25 : decode cX4_shadowLength 25 = .ok (.iload_n 2, 1) := by decide +kernel
theorem dX4_shadowLength_26 : decode cX4_shadowLength 26 = .ok (.iaload, 1) := by decide +kernel
theorem dX4_shadowLength_27 : decode cX4_shadowLength 27 = .ok (.ifCond .ne 5, 3) := by decide +kernel
theorem dX4_shadowLength_30 : decode cX4_shadowLength 30 = .ok (.iconst 0, 1) := by decide +kernel
theorem dX4_shadowLength_31 : decode cX4_shadowLength 31 = .ok (.ireturn, 1) := by decide +kernel
theorem dX4_shadowLength_32 : decode cX4_shadowLength 32 = .ok (.aload_n 0, 1) := by decide +kernel
theorem dX4_shadowLength_33 : decode cX4_shadowLength 33 = .ok (.getfield 12, 3) := by decide +kernel
theorem dX4_shadowLength_36 : decode cX4_shadowLength 36 = .ok (.getfield 86, 3) := by decide +kernel
theorem dX4_shadowLength_39 : decode cX4_shadowLength 39 = .ok (.iload_n 1, 1) := by decide +kernel
theorem dX4_shadowLength_40 : decode cX4_shadowLength 40 = .ok (.iaload, 1) := by decide +kernel
theorem dX4_shadowLength_41 : decode cX4_shadowLength 41 = .ok (.istore_n 3, 1) := by decide +kernel
theorem dX4_shadowLength_42 : decode cX4_shadowLength 42 = .ok (.aload_n 0, 1) := by decide +kernel
theorem dX4_shadowLength_43 : decode cX4_shadowLength 43 = .ok (.getfield 21, 3) := by decide +kernel
theorem dX4_shadowLength_46 : decode cX4_shadowLength 46 = .ok (.getfield 103, 3) := by decide +kernel
theorem dX4_shadowLength_49 : decode cX4_shadowLength 49 = .ok (.iload_n 2, 1) := by decide +kernel
theorem dX4_shadowLength_50 : decode cX4_shadowLength 50 = .ok (.iaload, 1) := by decide +kernel
theorem dX4_shadowLength_51 : decode cX4_shadowLength 51 = .ok (.invokestatic 106, 3) := by decide +kernel
theorem dX4_shadowLength_54 : decode cX4_shadowLength 54 = .ok (.istore 4, 2) := by decide +kernel
theorem dX4_shadowLength_56 : decode cX4_shadowLength 56 = .ok (.aload_n 0, 1) := by decide +kernel
theorem dX4_shadowLength_57 : decode cX4_shadowLength 57 = .ok (.getfield 12, 3) := by decide +kernel
theorem dX4_shadowLength_60 : decode cX4_shadowLength 60 = .ok (.getfield 120, 3) := by decide +kernel
theorem dX4_shadowLength_63 : decode cX4_shadowLength 63 = .ok (.iload_n 1, 1) := by decide +kernel
theorem dX4_shadowLength_64 : decode cX4_shadowLength 64 = .ok (.iaload, 1) := by decide +kernel
theorem dX4_shadowLength_65 : decode cX4_shadowLength 65 = .ok (.aload_n 0, 1) := by decide +kernel
theorem dX4_shadowLength_66 : decode cX4_shadowLength 66 = .ok (.getfield 21, 3) := by decide +kernel
theorem dX4_shadowLength_69 : decode cX4_shadowLength 69 = .ok (.getfield 123, 3) := by decide +kernel
theorem dX4_shadowLength_72 : decode cX4_shadowLength 72 = .ok (.iload_n 2, 1) := by decide +kernel
theorem dX4_shadowLength_73 : decode cX4_shadowLength 73 = .ok (.iaload, 1) := by decide +kernel
theorem dX4_shadowLength_74 : decode cX4_shadowLength 74 = .ok (.imul, 1) := by decide +kernel
theorem dX4_shadowLength_75 : decode cX4_shadowLength 75 = .ok (.iload_n 3, 1) := by decide +kernel
theorem dX4_shadowLength_76 : decode cX4_shadowLength 76 = .ok (.iload 4, 2) := by decide +kernel
theorem dX4_shadowLength_78 : decode cX4_shadowLength 78 = .ok (.invokestatic 126, 3) := by decide +kernel
theorem dX4_shadowLength_81 : decode cX4_shadowLength 81 = .ok (.invokestatic 129, 3) := by decide +kernel
theorem dX4_shadowLength_84 : decode cX4_shadowLength 84 = .ok (.istore 5, 2) := by decide +kernel
theorem dX4_shadowLength_86 : decode cX4_shadowLength 86 = .ok (.iconst 0, 1) := by decide +kernel
theorem dX4_shadowLength_87 : decode cX4_shadowLength 87 = .ok (.istore 6, 2) := by decide +kernel
theorem dX4_shadowLength_89 : decode cX4_shadowLength 89 = .ok (.iload 6, 2) := by decide +kernel
theorem dX4_shadowLength_91 : decode cX4_shadowLength 91 = .ok (.aload_n 0, 1) := by decide +kernel
theorem dX4_shadowLength_92 : decode cX4_shadowLength 92 = .ok (.getfield 12, 3) := by decide +kernel
theorem dX4_shadowLength_95 : decode cX4_shadowLength 95 = .ok (.getfield 134, 3) := by decide +kernel
theorem dX4_shadowLength_98 : decode cX4_shadowLength 98 = .ok (.if_icmp .ge 50, 3) := by decide +kernel
theorem dX4_shadowLength_101 : decode cX4_shadowLength 101 = .ok (.iload 6, 2) := by decide +kernel
theorem dX4_shadowLength_103 : decode cX4_shadowLength 103 = .ok (.bipush 6, 2) := by decide +kernel
theorem dX4_shadowLength_105 : decode cX4_shadowLength 105 = .ok (.if_icmp .ge 43, 3) := by decide +kernel
theorem dX4_shadowLength_108 : decode cX4_shadowLength 108 = .ok (.iload_n 3, 1) := by decide +kernel
theorem dX4_shadowLength_109 : decode cX4_shadowLength 109 = .ok (.aload_n 0, 1) := by decide +kernel
theorem dX4_shadowLength_110 : decode cX4_shadowLength 110 = .ok (.getfield 12, 3) := by decide +kernel
theorem dX4_shadowLength_113 : decode cX4_shadowLength 113 = .ok (.getfield 86, 3) := by decide +kernel
theorem dX4_shadowLength_116 : decode cX4_shadowLength 116 = .ok (.iload 6, 2) := by decide +kernel
theorem dX4_shadowLength_118 : decode cX4_shadowLength 118 = .ok (.iaload, 1) := by decide +kernel
theorem dX4_shadowLength_119 : decode cX4_shadowLength 119 = .ok (.iload 4, 2) := by decide +kernel
theorem dX4_shadowLength_121 : decode cX4_shadowLength 121 = .ok (.invokestatic 110, 3) := by decide +kernel
theorem dX4_shadowLength_124 : decode cX4_shadowLength 124 = .ok (.istore 7, 2) := by decide +kernel
theorem dX4_shadowLength_126 : decode cX4_shadowLength 126 = .ok (.iload 7, 2) := by decide +kernel
theorem dX4_shadowLength_128 : decode cX4_shadowLength 128 = .ok (.ifCond .le 14, 3) := by decide +kernel
theorem dX4_shadowLength_131 : decode cX4_shadowLength 131 = .ok (.iload 7, 2) := by decide +kernel
theorem dX4_shadowLength_133 : decode cX4_shadowLength 133 = .ok (.iload 5, 2) := by decide +kernel
theorem dX4_shadowLength_135 : decode cX4_shadowLength 135 = .ok (.if_icmp .ge 7, 3) := by decide +kernel
theorem dX4_shadowLength_138 : decode cX4_shadowLength 138 = .ok (.iload 7, 2) := by decide +kernel
theorem dX4_shadowLength_140 : decode cX4_shadowLength 140 = .ok (.istore 5, 2) := by decide +kernel
theorem dX4_shadowLength_142 : decode cX4_shadowLength 142 = .ok (.iinc 6 1, 3) := by decide +kernel
theorem dX4_shadowLength_145 : decode cX4_shadowLength 145 = .ok (.goto (-56), 3) := by decide +kernel
theorem dX4_shadowLength_148 : decode cX4_shadowLength 148 = .ok (.iload 5, 2) := by decide +kernel
theorem dX4_shadowLength_150 : decode cX4_shadowLength 150 = .ok (.ireturn, 1) := by decide +kernel
theorem dX4_shadowEnd_0 : decode cX4_shadowEnd 0 = .ok (.aload_n 0, 1) := by decide +kernel
theorem dX4_shadowEnd_1 : decode cX4_shadowEnd 1 = .ok (.iload_n 1, 1) := by decide +kernel
theorem dX4_shadowEnd_2 : decode cX4_shadowEnd 2 = .ok (.iload_n 2, 1) := by decide +kernel
theorem dX4_shadowEnd_3 : decode cX4_shadowEnd 3 = .ok (.invokevirtual 114, 3) := by decide +kernel
theorem dX4_shadowEnd_6 : decode cX4_shadowEnd 6 = .ok (.istore_n 3, 1) := by decide +kernel
theorem dX4_shadowEnd_7 : decode cX4_shadowEnd 7 = .ok (.iload_n 3, 1) := by decide +kernel
theorem dX4_shadowEnd_8 : decode cX4_shadowEnd 8 = .ok (.ifCond .eq 21, 3) := by decide +kernel
theorem dX4_shadowEnd_11 : decode cX4_shadowEnd 11 = .ok (.aload_n 0, 1) := by decide +kernel
theorem dX4_shadowEnd_12 : decode cX4_shadowEnd 12 = .ok (.getfield 12, 3) := by decide +kernel
theorem dX4_shadowEnd_15 : decode cX4_shadowEnd 15 = .ok (.iload_n 1, 1) := by decide +kernel
theorem dX4_shadowEnd_16 : decode cX4_shadowEnd 16 = .ok (.invokevirtual 82, 3) := by decide +kernel
theorem dX4_shadowEnd_19 : decode cX4_shadowEnd 19 = .ok (.ifCond .eq 10, 3) := by decide +kernel
theorem dX4_shadowEnd_22 : decode cX4_shadowEnd 22 = .ok (.iload_n 2, 1) := by decide +kernel
theorem dX4_shadowEnd_23 : decode cX4_shadowEnd 23 = .ok (.invokestatic 100, 3) := by decide +kernel
theorem dX4_shadowEnd_26 : decode cX4_shadowEnd 26 = .ok (.ifCond .ne 6, 3) := by decide +kernel
theorem dX4_shadowEnd_29 : decode cX4_shadowEnd 29 = .ok (.bipush (-5), 2) := by decide +kernel
theorem dX4_shadowEnd_31 : decode cX4_shadowEnd 31 = .ok (.ireturn, 1) := by decide +kernel
theorem dX4_shadowEnd_32 : decode cX4_shadowEnd 32 = .ok (.aload_n 0, 1) := by decide +kernel
theorem dX4_shadowEnd_33 : decode cX4_shadowEnd 33 = .ok (.getfield 12, 3) := by decide +kernel
theorem dX4_shadowEnd_36 : decode cX4_shadowEnd 36 = .ok (.getfield 86, 3) := by decide +kernel
theorem dX4_shadowEnd_39 : decode cX4_shadowEnd 39 = .ok (.iload_n 1, 1) := by decide +kernel
theorem dX4_shadowEnd_40 : decode cX4_shadowEnd 40 = .ok (.iaload, 1) := by decide +kernel
theorem dX4_shadowEnd_41 : decode cX4_shadowEnd 41 = .ok (.aload_n 0, 1) := by decide +kernel
theorem dX4_shadowEnd_42 : decode cX4_shadowEnd 42 = .ok (.getfield 21, 3) := by decide +kernel
theorem dX4_shadowEnd_45 : decode cX4_shadowEnd 45 = .ok (.getfield 103, 3) := by decide +kernel
theorem dX4_shadowEnd_48 : decode cX4_shadowEnd 48 = .ok (.iload_n 2, 1) := by decide +kernel
theorem dX4_shadowEnd_49 : decode cX4_shadowEnd 49 = .ok (.iaload, 1) := by decide +kernel
theorem dX4_shadowEnd_50 : decode cX4_shadowEnd 50 = .ok (.invokestatic 106, 3) := by decide +kernel
theorem dX4_shadowEnd_53 : decode cX4_shadowEnd 53 = .ok (.iload_n 3, 1) := by decide +kernel
theorem dX4_shadowEnd_54 : decode cX4_shadowEnd 54 = .ok (.invokestatic 137, 3) := by decide +kernel
theorem dX4_shadowEnd_57 : decode cX4_shadowEnd 57 = .ok (.ireturn, 1) := by decide +kernel
theorem dX4_hasShadow_0 : decode cX4_hasShadow 0 = .ok (.iconst 0, 1) := by decide +kernel
theorem dX4_hasShadow_1 : decode cX4_hasShadow 1 = .ok (.istore_n 2, 1) := by decide +kernel
theorem dX4_hasShadow_2 : decode cX4_hasShadow 2 = .ok (.iload_n 2, 1) := by decide +kernel
theorem dX4_hasShadow_3 : decode cX4_hasShadow 3 = .ok (.iconst 3, 1) := by decide +kernel
theorem dX4_hasShadow_4 : decode cX4_hasShadow 4 = .ok (.if_icmp .ge 20, 3) := by decide +kernel
theorem dX4_hasShadow_7 : decode cX4_hasShadow 7 = .ok (.aload_n 0, 1) := by decide +kernel
theorem dX4_hasShadow_8 : decode cX4_hasShadow 8 = .ok (.iload_n 1, 1) := by decide +kernel
theorem dX4_hasShadow_9 : decode cX4_hasShadow 9 = .ok (.iload_n 2, 1) := by decide +kernel
theorem dX4_hasShadow_10 : decode cX4_hasShadow 10 = .ok (.invokevirtual 114, 3) := by decide +kernel
theorem dX4_hasShadow_13 : decode cX4_hasShadow 13 = .ok (.ifCond .le 5, 3) := by decide +kernel
theorem dX4_hasShadow_16 : decode cX4_hasShadow 16 = .ok (.iconst 1, 1) := by decide +kernel
theorem dX4_hasShadow_17 : decode cX4_hasShadow 17 = .ok (.ireturn, 1) := by decide +kernel
theorem dX4_hasShadow_18 : decode cX4_hasShadow 18 = .ok (.iinc 2 1, 3) := by decide +kernel
theorem dX4_hasShadow_21 : decode cX4_hasShadow 21 = .ok (.goto (-19), 3) := by decide +kernel
theorem dX4_hasShadow_24 : decode cX4_hasShadow 24 = .ok (.iconst 0, 1) := by decide +kernel
theorem dX4_hasShadow_25 : decode cX4_hasShadow 25 = .ok (.ireturn, 1) := by decide +kernel
theorem dX4_runnersWithoutShadow_0 : decode cX4_runnersWithoutShadow 0 = .ok (.iconst 0, 1) := by decide +kernel
theorem dX4_runnersWithoutShadow_1 : decode cX4_runnersWithoutShadow 1 = .ok (.istore_n 1, 1) := by decide +kernel
theorem dX4_runnersWithoutShadow_2 : decode cX4_runnersWithoutShadow 2 = .ok (.iconst 0, 1) := by decide +kernel
theorem dX4_runnersWithoutShadow_3 : decode cX4_runnersWithoutShadow 3 = .ok (.istore_n 2, 1) := by decide +kernel
theorem dX4_runnersWithoutShadow_4 : decode cX4_runnersWithoutShadow 4 = .ok (.iload_n 2, 1) := by decide +kernel
theorem dX4_runnersWithoutShadow_5 : decode cX4_runnersWithoutShadow 5 = .ok (.aload_n 0, 1) := by decide +kernel
theorem dX4_runnersWithoutShadow_6 : decode cX4_runnersWithoutShadow 6 = .ok (.getfield 12, 3) := by decide +kernel
theorem dX4_runnersWithoutShadow_9 : decode cX4_runnersWithoutShadow 9 = .ok (.getfield 134, 3) := by decide +kernel
theorem dX4_runnersWithoutShadow_12 : decode cX4_runnersWithoutShadow 12 = .ok (.if_icmp .ge 20, 3) := by decide +kernel
theorem dX4_runnersWithoutShadow_15 : decode cX4_runnersWithoutShadow 15 = .ok (.aload_n 0, 1) := by decide +kernel
theorem dX4_runnersWithoutShadow_16 : decode cX4_runnersWithoutShadow 16 = .ok (.iload_n 2, 1) := by decide +kernel
theorem dX4_runnersWithoutShadow_17 : decode cX4_runnersWithoutShadow 17 = .ok (.invokevirtual 140, 3) := by decide +kernel
theorem dX4_runnersWithoutShadow_20 : decode cX4_runnersWithoutShadow 20 = .ok (.ifCond .ne 6, 3) := by decide +kernel
theorem dX4_runnersWithoutShadow_23 : decode cX4_runnersWithoutShadow 23 = .ok (.iinc 1 1, 3) := by decide +kernel
theorem dX4_runnersWithoutShadow_26 : decode cX4_runnersWithoutShadow 26 = .ok (.iinc 2 1, 3) := by decide +kernel
theorem dX4_runnersWithoutShadow_29 : decode cX4_runnersWithoutShadow 29 = .ok (.goto (-25), 3) := by decide +kernel
theorem dX4_runnersWithoutShadow_32 : decode cX4_runnersWithoutShadow 32 = .ok (.iload_n 1, 1) := by decide +kernel
theorem dX4_runnersWithoutShadow_33 : decode cX4_runnersWithoutShadow 33 = .ok (.ireturn, 1) := by decide +kernel
theorem dX4_shadowerOf_0 : decode cX4_shadowerOf 0 = .ok (.iload_n 1, 1) := by decide +kernel
theorem dX4_shadowerOf_1 : decode cX4_shadowerOf 1 = .ok (.invokestatic 143, 3) := by decide +kernel
theorem dX4_shadowerOf_4 : decode cX4_shadowerOf 4 = .ok (.ifCond .eq 22, 3) := by decide +kernel
theorem dX4_shadowerOf_7 : decode cX4_shadowerOf 7 = .ok (.iload_n 2, 1) := by decide +kernel
theorem dX4_shadowerOf_8 : decode cX4_shadowerOf 8 = .ok (.invokestatic 100, 3) := by decide +kernel
theorem dX4_shadowerOf_11 : decode cX4_shadowerOf 11 = .ok (.ifCond .eq 15, 3) := by decide +kernel
theorem dX4_shadowerOf_14 : decode cX4_shadowerOf 14 = .ok (.aload_n 0, 1) := by decide +kernel
theorem dX4_shadowerOf_15 : decode cX4_shadowerOf 15 = .ok (.getfield 21, 3) := by decide +kernel
theorem dX4_shadowerOf_18 : decode cX4_shadowerOf 18 = .ok (.getfield 117, 3) := by decide +kernel
theorem dX4_shadowerOf_21 : decode cX4_shadowerOf 21 = .ok (.iload_n 2, 1) := by decide +kernel
theorem dX4_shadowerOf_22 : decode cX4_shadowerOf 22 = .ok (.iaload, 1) := by decide +kernel
theorem dX4_shadowerOf_23 : decode cX4_shadowerOf 23 = .ok (.ifCond .ne 6, 3) := by decide +kernel
theorem dX4_shadowerOf_26 : decode cX4_shadowerOf 26 = .ok (.bipush (-5), 2) := by decide +kernel
theorem dX4_shadowerOf_28 : decode cX4_shadowerOf 28 = .ok (.ireturn, 1) := by decide +kernel
theorem dX4_shadowerOf_29 : decode cX4_shadowerOf 29 = .ok (.aload_n 0, 1) := by decide +kernel
theorem dX4_shadowerOf_30 : decode cX4_shadowerOf 30 = .ok (.getfield 21, 3) := by decide +kernel
theorem dX4_shadowerOf_33 : decode cX4_shadowerOf 33 = .ok (.getfield 103, 3) := by decide +kernel
theorem dX4_shadowerOf_36 : decode cX4_shadowerOf 36 = .ok (.iload_n 2, 1) := by decide +kernel
theorem dX4_shadowerOf_37 : decode cX4_shadowerOf 37 = .ok (.iaload, 1) := by decide +kernel
theorem dX4_shadowerOf_38 : decode cX4_shadowerOf 38 = .ok (.istore_n 3, 1) := by decide +kernel
theorem dX4_shadowerOf_39 : decode cX4_shadowerOf 39 = .ok (.iload_n 1, 1) := by decide +kernel
theorem dX4_shadowerOf_40 : decode cX4_shadowerOf 40 = .ok (.iload_n 3, 1) := by decide +kernel
theorem dX4_shadowerOf_41 : decode cX4_shadowerOf 41 = .ok (.invokestatic 126, 3) := by decide +kernel
theorem dX4_shadowerOf_44 : decode cX4_shadowerOf 44 = .ok (.istore 4, 2) := by decide +kernel
theorem dX4_shadowerOf_46 : decode cX4_shadowerOf 46 = .ok (.iconst 1, 1) := by decide +kernel
theorem dX4_shadowerOf_47 : decode cX4_shadowerOf 47 = .ok (.istore 5, 2) := by decide +kernel
theorem dX4_shadowerOf_49 : decode cX4_shadowerOf 49 = .ok (.iload 5, 2) := by decide +kernel
theorem dX4_shadowerOf_51 : decode cX4_shadowerOf 51 = .ok (.iload 4, 2) := by decide +kernel
theorem dX4_shadowerOf_53 : decode cX4_shadowerOf 53 = .ok (.if_icmp .gt 70, 3) := by decide +kernel
theorem dX4_shadowerOf_56 : decode cX4_shadowerOf 56 = .ok (.aload_n 0, 1) := by decide +kernel
theorem dX4_shadowerOf_57 : decode cX4_shadowerOf 57 = .ok (.getfield 12, 3) := by decide +kernel
theorem dX4_shadowerOf_60 : decode cX4_shadowerOf 60 = .ok (.iload_n 1, 1) := by decide +kernel
theorem dX4_shadowerOf_61 : decode cX4_shadowerOf 61 = .ok (.iload_n 3, 1) := by decide +kernel
theorem dX4_shadowerOf_62 : decode cX4_shadowerOf 62 = .ok (.iload 5, 2) := by decide +kernel
theorem dX4_shadowerOf_64 : decode cX4_shadowerOf 64 = .ok (.invokestatic 137, 3) := by decide +kernel
theorem dX4_shadowerOf_67 : decode cX4_shadowerOf 67 = .ok (.invokevirtual 146, 3) := by decide +kernel
theorem dX4_shadowerOf_70 : decode cX4_shadowerOf 70 = .ok (.istore 6, 2) := by decide +kernel
theorem dX4_shadowerOf_72 : decode cX4_shadowerOf 72 = .ok (.aload_n 0, 1) := by decide +kernel
theorem dX4_shadowerOf_73 : decode cX4_shadowerOf 73 = .ok (.getfield 12, 3) := by decide +kernel
theorem dX4_shadowerOf_76 : decode cX4_shadowerOf 76 = .ok (.iload 6, 2) := by decide +kernel
theorem dX4_shadowerOf_78 : decode cX4_shadowerOf 78 = .ok (.invokevirtual 82, 3) := by decide +kernel
theorem dX4_shadowerOf_81 : decode cX4_shadowerOf 81 = .ok (.ifCond .eq 36, 3) := by decide +kernel
theorem dX4_shadowerOf_84 : decode cX4_shadowerOf 84 = .ok (.iload 5, 2) := by decide +kernel
theorem dX4_shadowerOf_86 : decode cX4_shadowerOf 86 = .ok (.aload_n 0, 1) := by decide +kernel
theorem dX4_shadowerOf_87 : decode cX4_shadowerOf 87 = .ok (.getfield 12, 3) := by decide +kernel
theorem dX4_shadowerOf_90 : decode cX4_shadowerOf 90 = .ok (.getfield 120, 3) := by decide +kernel
theorem dX4_shadowerOf_93 : decode cX4_shadowerOf 93 = .ok (.iload 6, 2) := by decide +kernel
theorem dX4_shadowerOf_95 : decode cX4_shadowerOf 95 = .ok (.iaload, 1) := by decide +kernel
theorem dX4_shadowerOf_96 : decode cX4_shadowerOf 96 = .ok (.aload_n 0, 1) := by decide +kernel
theorem dX4_shadowerOf_97 : decode cX4_shadowerOf 97 = .ok (.getfield 21, 3) := by decide +kernel
theorem dX4_shadowerOf_100 : decode cX4_shadowerOf 100 = .ok (.getfield 123, 3) := by decide +kernel
theorem dX4_shadowerOf_103 : decode cX4_shadowerOf 103 = .ok (.iload_n 2, 1) := by decide +kernel
theorem dX4_shadowerOf_104 : decode cX4_shadowerOf 104 = .ok (.iaload, 1) := by decide +kernel
theorem dX4_shadowerOf_105 : decode cX4_shadowerOf 105 = .ok (.imul, 1) := by decide +kernel
theorem dX4_shadowerOf_106 : decode cX4_shadowerOf 106 = .ok (.if_icmp .gt 8, 3) := by decide +kernel
theorem dX4_shadowerOf_109 : decode cX4_shadowerOf 109 = .ok (.iload 6, 2) := by decide +kernel
theorem dX4_shadowerOf_111 : decode cX4_shadowerOf 111 = .ok (.goto 5, 3) := by decide +kernel
theorem dX4_shadowerOf_114 : decode cX4_shadowerOf 114 = .ok (.bipush (-5), 2) := by decide +kernel
theorem dX4_shadowerOf_116 : decode cX4_shadowerOf 116 = .ok (.ireturn, 1) := by decide +kernel
theorem dX4_shadowerOf_117 : decode cX4_shadowerOf 117 = .ok (.iinc 5 1, 3) := by decide +kernel
theorem dX4_shadowerOf_120 : decode cX4_shadowerOf 120 = .ok (.goto (-71), 3) := by decide +kernel
theorem dX4_shadowerOf_123 : decode cX4_shadowerOf 123 = .ok (.bipush (-5), 2) := by decide +kernel
theorem dX4_shadowerOf_125 : decode cX4_shadowerOf 125 = .ok (.ireturn, 1) := by decide +kernel
theorem dX4_darkenShadowsOf_0 : decode cX4_darkenShadowsOf 0 = .ok (.iconst 0, 1) := by decide +kernel
theorem dX4_darkenShadowsOf_1 : decode cX4_darkenShadowsOf 1 = .ok (.istore_n 3, 1) := by decide +kernel
theorem dX4_darkenShadowsOf_2 : decode cX4_darkenShadowsOf 2 = .ok (.iload_n 3, 1) := by decide +kernel
theorem dX4_darkenShadowsOf_3 : decode cX4_darkenShadowsOf 3 = .ok (.iconst 3, 1) := by decide +kernel
theorem dX4_darkenShadowsOf_4 : decode cX4_darkenShadowsOf 4 = .ok (.if_icmp .ge 16, 3) := by decide +kernel
theorem dX4_darkenShadowsOf_7 : decode cX4_darkenShadowsOf 7 = .ok (.aload_n 0, 1) := by decide +kernel
theorem dX4_darkenShadowsOf_8 : decode cX4_darkenShadowsOf 8 = .ok (.iload_n 1, 1) := by decide +kernel
theorem dX4_darkenShadowsOf_9 : decode cX4_darkenShadowsOf 9 = .ok (.iload_n 3, 1) := by decide +kernel
theorem dX4_darkenShadowsOf_10 : decode cX4_darkenShadowsOf 10 = .ok (.aload_n 2, 1) := by decide +kernel
theorem dX4_darkenShadowsOf_11 : decode cX4_darkenShadowsOf 11 = .ok (.invokevirtual 149, 3) := by decide +kernel
theorem dX4_darkenShadowsOf_14 : decode cX4_darkenShadowsOf 14 = .ok (.iinc 3 1, 3) := by decide +kernel
theorem dX4_darkenShadowsOf_17 : decode cX4_darkenShadowsOf 17 = .ok (.goto (-15), 3) := by decide +kernel
theorem dX4_darkenShadowsOf_20 : decode cX4_darkenShadowsOf 20 = .ok (.return_, 1) := by decide +kernel
theorem dX4_darkenShadow_0 : decode cX4_darkenShadow 0 = .ok (.aload_n 0, 1) := by decide +kernel
theorem dX4_darkenShadow_1 : decode cX4_darkenShadow 1 = .ok (.iload_n 1, 1) := by decide +kernel
theorem dX4_darkenShadow_2 : decode cX4_darkenShadow 2 = .ok (.iload_n 2, 1) := by decide +kernel
theorem dX4_darkenShadow_3 : decode cX4_darkenShadow 3 = .ok (.invokevirtual 114, 3) := by decide +kernel
theorem dX4_darkenShadow_6 : decode cX4_darkenShadow 6 = .ok (.istore 4, 2) := by decide +kernel
theorem dX4_darkenShadow_8 : decode cX4_darkenShadow 8 = .ok (.iload 4, 2) := by decide +kernel
theorem dX4_darkenShadow_10 : decode cX4_darkenShadow 10 = .ok (.ifCond .eq 21, 3) := by decide +kernel
theorem dX4_darkenShadow_13 : decode cX4_darkenShadow 13 = .ok (.aload_n 0, 1) := by decide +kernel
theorem dX4_darkenShadow_14 : decode cX4_darkenShadow 14 = .ok (.getfield 12, 3) := by decide +kernel
theorem dX4_darkenShadow_17 : decode cX4_darkenShadow 17 = .ok (.iload_n 1, 1) := by decide +kernel
theorem dX4_darkenShadow_18 : decode cX4_darkenShadow 18 = .ok (.invokevirtual 82, 3) := by decide +kernel
theorem dX4_darkenShadow_21 : decode cX4_darkenShadow 21 = .ok (.ifCond .eq 10, 3) := by decide +kernel
theorem dX4_darkenShadow_24 : decode cX4_darkenShadow 24 = .ok (.iload_n 2, 1) := by decide +kernel
theorem dX4_darkenShadow_25 : decode cX4_darkenShadow 25 = .ok (.invokestatic 100, 3) := by decide +kernel
theorem dX4_darkenShadow_28 : decode cX4_darkenShadow 28 = .ok (.ifCond .ne 4, 3) := by decide +kernel
theorem dX4_darkenShadow_31 : decode cX4_darkenShadow 31 = .ok (.return_, 1) := by decide +kernel
theorem dX4_darkenShadow_32 : decode cX4_darkenShadow 32 = .ok (.aload_n 0, 1) := by decide +kernel
theorem dX4_darkenShadow_33 : decode cX4_darkenShadow 33 = .ok (.getfield 12, 3) := by decide +kernel
theorem dX4_darkenShadow_36 : decode cX4_darkenShadow 36 = .ok (.getfield 86, 3) := by decide +kernel
theorem dX4_darkenShadow_39 : decode cX4_darkenShadow 39 = .ok (.iload_n 1, 1) := by decide +kernel
theorem dX4_darkenShadow_40 : decode cX4_darkenShadow 40 = .ok (.iaload, 1) := by decide +kernel
theorem dX4_darkenShadow_41 : decode cX4_darkenShadow 41 = .ok (.istore 5, 2) := by decide +kernel
theorem dX4_darkenShadow_43 : decode cX4_darkenShadow 43 = .ok (.aload_n 0, 1) := by decide +kernel
theorem dX4_darkenShadow_44 : decode cX4_darkenShadow 44 = .ok (.getfield 21, 3) := by decide +kernel
theorem dX4_darkenShadow_47 : decode cX4_darkenShadow 47 = .ok (.getfield 103, 3) := by decide +kernel
theorem dX4_darkenShadow_50 : decode cX4_darkenShadow 50 = .ok (.iload_n 2, 1) := by decide +kernel
theorem dX4_darkenShadow_51 : decode cX4_darkenShadow 51 = .ok (.iaload, 1) := by decide +kernel
theorem dX4_darkenShadow_52 : decode cX4_darkenShadow 52 = .ok (.invokestatic 106, 3) := by decide +kernel
theorem dX4_darkenShadow_55 : decode cX4_darkenShadow 55 = .ok (.istore 6, 2) := by decide +kernel
theorem dX4_darkenShadow_57 : decode cX4_darkenShadow 57 = .ok (.iconst 1, 1) := by decide +kernel
theorem dX4_darkenShadow_58 : decode cX4_darkenShadow 58 = .ok (.istore 7, 2) := by decide +kernel
theorem dX4_darkenShadow_60 : decode cX4_darkenShadow 60 = .ok (.iload 7, 2) := by decide +kernel
theorem dX4_darkenShadow_62 : decode cX4_darkenShadow 62 = .ok (.iload 4, 2) := by decide +kernel
theorem dX4_darkenShadow_64 : decode cX4_darkenShadow 64 = .ok (.if_icmp .gt 22, 3) := by decide +kernel
theorem dX4_darkenShadow_67 : decode cX4_darkenShadow 67 = .ok (.aload_n 3, 1) := by decide +kernel
theorem dX4_darkenShadow_68 : decode cX4_darkenShadow 68 = .ok (.iload 5, 2) := by decide +kernel
theorem dX4_darkenShadow_70 : decode cX4_darkenShadow 70 = .ok (.iload 6, 2) := by decide +kernel
theorem dX4_darkenShadow_72 : decode cX4_darkenShadow 72 = .ok (.iload 7, 2) := by decide +kernel
theorem dX4_darkenShadow_74 : decode cX4_darkenShadow 74 = .ok (.invokestatic 137, 3) := by decide +kernel
theorem dX4_darkenShadow_77 : decode cX4_darkenShadow 77 = .ok (.invokevirtual 153, 3) := by decide +kernel
theorem dX4_darkenShadow_80 : decode cX4_darkenShadow 80 = .ok (.iinc 7 1, 3) := by decide +kernel
theorem dX4_darkenShadow_83 : decode cX4_darkenShadow 83 = .ok (.goto (-23), 3) := by decide +kernel
theorem dX4_darkenShadow_86 : decode cX4_darkenShadow 86 = .ok (.return_, 1) := by decide +kernel
theorem dX5_init_0 : decode cX5_init 0 = .ok (.aload_n 0, 1) := by decide +kernel
theorem dX5_init_1 : decode cX5_init 1 = .ok (.invokespecial 3, 3) := by decide +kernel
theorem dX5_init_4 : decode cX5_init 4 = .ok (.aload_n 0, 1) := by decide +kernel
theorem dX5_init_5 : decode cX5_init 5 = .ok (.bipush 6, 2) := by decide +kernel
theorem dX5_init_7 : decode cX5_init 7 = .ok (.newarray .int, 2) := by decide +kernel
theorem dX5_init_9 : decode cX5_init 9 = .ok (.putfield 9, 3) := by decide +kernel
theorem dX5_init_12 : decode cX5_init 12 = .ok (.aload_n 0, 1) := by decide +kernel
theorem dX5_init_13 : decode cX5_init 13 = .ok (.bipush 6, 2) := by decide +kernel
theorem dX5_init_15 : decode cX5_init 15 = .ok (.newarray .int, 2) := by decide +kernel
theorem dX5_init_17 : decode cX5_init 17 = .ok (.putfield 15, 3) := by decide +kernel
theorem dX5_init_20 : decode cX5_init 20 = .ok (.aload_n 0, 1) := by decide +kernel
theorem dX5_init_21 : decode cX5_init 21 = .ok (.bipush 6, 2) := by decide +kernel
theorem dX5_init_23 : decode cX5_init 23 = .ok (.newarray .int, 2) := by decide +kernel
theorem dX5_init_25 : decode cX5_init 25 = .ok (.putfield 18, 3) := by decide +kernel
theorem dX5_init_28 : decode cX5_init 28 = .ok (.aload_n 0, 1) := by decide +kernel
theorem dX5_init_29 : decode cX5_init 29 = .ok (.bipush 6, 2) := by decide +kernel
theorem dX5_init_31 : decode cX5_init 31 = .ok (.newarray .int, 2) := by decide +kernel
theorem dX5_init_33 : decode cX5_init 33 = .ok (.putfield 21, 3) := by decide +kernel
theorem dX5_init_36 : decode cX5_init 36 = .ok (.aload_n 0, 1) := by decide +kernel
theorem dX5_init_37 : decode cX5_init 37 = .ok (.bipush 6, 2) := by decide +kernel
theorem dX5_init_39 : decode cX5_init 39 = .ok (.newarray .int, 2) := by decide +kernel
theorem dX5_init_41 : decode cX5_init 41 = .ok (.putfield 24, 3) := by decide +kernel
theorem dX5_init_44 : decode cX5_init 44 = .ok (.aload_n 0, 1) := by decide +kernel
theorem dX5_init_45 : decode cX5_init 45 = .ok (.bipush 6, 2) := by decide +kernel
theorem dX5_init_47 : decode cX5_init 47 = .ok (.newarray .int, 2) := by decide +kernel
theorem dX5_init_49 : decode cX5_init 49 = .ok (.putfield 27, 3) := by decide +kernel
theorem dX5_init_52 : decode cX5_init 52 = .ok (.aload_n 0, 1) := by decide +kernel
theorem dX5_init_53 : decode cX5_init 53 = .ok (.bipush 6, 2) := by decide +kernel
theorem dX5_init_55 : decode cX5_init 55 = .ok (.newarray .int, 2) := by decide +kernel
theorem dX5_init_57 : decode cX5_init 57 = .ok (.putfield 30, 3) := by decide +kernel
theorem dX5_init_60 : decode cX5_init 60 = .ok (.aload_n 0, 1) := by decide +kernel
theorem dX5_init_61 : decode cX5_init 61 = .ok (.iconst 0, 1) := by decide +kernel
theorem dX5_init_62 : decode cX5_init 62 = .ok (.putfield 33, 3) := by decide +kernel
theorem dX5_init_65 : decode cX5_init 65 = .ok (.aload_n 0, 1) := by decide +kernel
theorem dX5_init_66 : decode cX5_init 66 = .ok (.bipush (-5), 2) := by decide +kernel
theorem dX5_init_68 : decode cX5_init 68 = .ok (.putfield 37, 3) := by decide +kernel
theorem dX5_init_71 : decode cX5_init 71 = .ok (.aload_n 0, 1) := by decide +kernel
theorem dX5_init_72 : decode cX5_init 72 = .ok (.iconst 0, 1) := by decide +kernel
theorem dX5_init_73 : decode cX5_init 73 = .ok (.putfield 40, 3) := by decide +kernel
theorem dX5_init_76 : decode cX5_init 76 = .ok (.aload_n 0, 1) := by decide +kernel
theorem dX5_init_77 : decode cX5_init 77 = .ok (.iconst 0, 1) := by decide +kernel
theorem dX5_init_78 : decode cX5_init 78 = .ok (.putfield 43, 3) := by decide +kernel
theorem dX5_init_81 : decode cX5_init 81 = .ok (.aload_n 0, 1) := by decide +kernel
theorem dX5_init_82 : decode cX5_init 82 = .ok (.iconst 0, 1) := by decide +kernel
theorem dX5_init_83 : decode cX5_init 83 = .ok (.putfield 46, 3) := by decide +kernel
theorem dX5_init_86 : decode cX5_init 86 = .ok (.return_, 1) := by decide +kernel
theorem dX5_copyFrom_0 : decode cX5_copyFrom 0 = .ok (.aload_n 1, 1) := by decide +kernel
theorem dX5_copyFrom_1 : decode cX5_copyFrom 1 = .ok (.getfield 9, 3) := by decide +kernel
theorem dX5_copyFrom_4 : decode cX5_copyFrom 4 = .ok (.aload_n 0, 1) := by decide +kernel
theorem dX5_copyFrom_5 : decode cX5_copyFrom 5 = .ok (.getfield 9, 3) := by decide +kernel
theorem dX5_copyFrom_8 : decode cX5_copyFrom 8 = .ok (.invokestatic 49, 3) := by decide +kernel
theorem dX5_copyFrom_11 : decode cX5_copyFrom 11 = .ok (.aload_n 1, 1) := by decide +kernel
theorem dX5_copyFrom_12 : decode cX5_copyFrom 12 = .ok (.getfield 15, 3) := by decide +kernel
theorem dX5_copyFrom_15 : decode cX5_copyFrom 15 = .ok (.aload_n 0, 1) := by decide +kernel
theorem dX5_copyFrom_16 : decode cX5_copyFrom 16 = .ok (.getfield 15, 3) := by decide +kernel
theorem dX5_copyFrom_19 : decode cX5_copyFrom 19 = .ok (.invokestatic 49, 3) := by decide +kernel
theorem dX5_copyFrom_22 : decode cX5_copyFrom 22 = .ok (.aload_n 1, 1) := by decide +kernel
theorem dX5_copyFrom_23 : decode cX5_copyFrom 23 = .ok (.getfield 18, 3) := by decide +kernel
theorem dX5_copyFrom_26 : decode cX5_copyFrom 26 = .ok (.aload_n 0, 1) := by decide +kernel
theorem dX5_copyFrom_27 : decode cX5_copyFrom 27 = .ok (.getfield 18, 3) := by decide +kernel
theorem dX5_copyFrom_30 : decode cX5_copyFrom 30 = .ok (.invokestatic 49, 3) := by decide +kernel
theorem dX5_copyFrom_33 : decode cX5_copyFrom 33 = .ok (.aload_n 1, 1) := by decide +kernel
theorem dX5_copyFrom_34 : decode cX5_copyFrom 34 = .ok (.getfield 21, 3) := by decide +kernel
theorem dX5_copyFrom_37 : decode cX5_copyFrom 37 = .ok (.aload_n 0, 1) := by decide +kernel
theorem dX5_copyFrom_38 : decode cX5_copyFrom 38 = .ok (.getfield 21, 3) := by decide +kernel
theorem dX5_copyFrom_41 : decode cX5_copyFrom 41 = .ok (.invokestatic 49, 3) := by decide +kernel
theorem dX5_copyFrom_44 : decode cX5_copyFrom 44 = .ok (.aload_n 1, 1) := by decide +kernel
theorem dX5_copyFrom_45 : decode cX5_copyFrom 45 = .ok (.getfield 24, 3) := by decide +kernel
theorem dX5_copyFrom_48 : decode cX5_copyFrom 48 = .ok (.aload_n 0, 1) := by decide +kernel
theorem dX5_copyFrom_49 : decode cX5_copyFrom 49 = .ok (.getfield 24, 3) := by decide +kernel
theorem dX5_copyFrom_52 : decode cX5_copyFrom 52 = .ok (.invokestatic 49, 3) := by decide +kernel
theorem dX5_copyFrom_55 : decode cX5_copyFrom 55 = .ok (.aload_n 1, 1) := by decide +kernel
theorem dX5_copyFrom_56 : decode cX5_copyFrom 56 = .ok (.getfield 27, 3) := by decide +kernel
theorem dX5_copyFrom_59 : decode cX5_copyFrom 59 = .ok (.aload_n 0, 1) := by decide +kernel
theorem dX5_copyFrom_60 : decode cX5_copyFrom 60 = .ok (.getfield 27, 3) := by decide +kernel
theorem dX5_copyFrom_63 : decode cX5_copyFrom 63 = .ok (.invokestatic 49, 3) := by decide +kernel
theorem dX5_copyFrom_66 : decode cX5_copyFrom 66 = .ok (.aload_n 1, 1) := by decide +kernel
theorem dX5_copyFrom_67 : decode cX5_copyFrom 67 = .ok (.getfield 30, 3) := by decide +kernel
theorem dX5_copyFrom_70 : decode cX5_copyFrom 70 = .ok (.aload_n 0, 1) := by decide +kernel
theorem dX5_copyFrom_71 : decode cX5_copyFrom 71 = .ok (.getfield 30, 3) := by decide +kernel
theorem dX5_copyFrom_74 : decode cX5_copyFrom 74 = .ok (.invokestatic 49, 3) := by decide +kernel
theorem dX5_copyFrom_77 : decode cX5_copyFrom 77 = .ok (.aload_n 0, 1) := by decide +kernel
theorem dX5_copyFrom_78 : decode cX5_copyFrom 78 = .ok (.aload_n 1, 1) := by decide +kernel
theorem dX5_copyFrom_79 : decode cX5_copyFrom 79 = .ok (.getfield 33, 3) := by decide +kernel
theorem dX5_copyFrom_82 : decode cX5_copyFrom 82 = .ok (.putfield 33, 3) := by decide +kernel
theorem dX5_copyFrom_85 : decode cX5_copyFrom 85 = .ok (.aload_n 0, 1) := by decide +kernel
theorem dX5_copyFrom_86 : decode cX5_copyFrom 86 = .ok (.aload_n 1, 1) := by decide +kernel
theorem dX5_copyFrom_87 : decode cX5_copyFrom 87 = .ok (.getfield 37, 3) := by decide +kernel
theorem dX5_copyFrom_90 : decode cX5_copyFrom 90 = .ok (.putfield 37, 3) := by decide +kernel
theorem dX5_copyFrom_93 : decode cX5_copyFrom 93 = .ok (.aload_n 0, 1) := by decide +kernel
theorem dX5_copyFrom_94 : decode cX5_copyFrom 94 = .ok (.aload_n 1, 1) := by decide +kernel
theorem dX5_copyFrom_95 : decode cX5_copyFrom 95 = .ok (.getfield 40, 3) := by decide +kernel
theorem dX5_copyFrom_98 : decode cX5_copyFrom 98 = .ok (.putfield 40, 3) := by decide +kernel
theorem dX5_copyFrom_101 : decode cX5_copyFrom 101 = .ok (.aload_n 0, 1) := by decide +kernel
theorem dX5_copyFrom_102 : decode cX5_copyFrom 102 = .ok (.aload_n 1, 1) := by decide +kernel
theorem dX5_copyFrom_103 : decode cX5_copyFrom 103 = .ok (.getfield 43, 3) := by decide +kernel
theorem dX5_copyFrom_106 : decode cX5_copyFrom 106 = .ok (.putfield 43, 3) := by decide +kernel
theorem dX5_copyFrom_109 : decode cX5_copyFrom 109 = .ok (.aload_n 0, 1) := by decide +kernel
theorem dX5_copyFrom_110 : decode cX5_copyFrom 110 = .ok (.aload_n 1, 1) := by decide +kernel
theorem dX5_copyFrom_111 : decode cX5_copyFrom 111 = .ok (.getfield 46, 3) := by decide +kernel
theorem dX5_copyFrom_114 : decode cX5_copyFrom 114 = .ok (.putfield 46, 3) := by decide +kernel
theorem dX5_copyFrom_117 : decode cX5_copyFrom 117 = .ok (.return_, 1) := by decide +kernel
theorem dX5_has_0 : decode cX5_has 0 = .ok (.iload_n 1, 1) := by decide +kernel
theorem dX5_has_1 : decode cX5_has 1 = .ok (.ifCond .lt 21, 3) := by decide +kernel
theorem dX5_has_4 : decode cX5_has 4 = .ok (.iload_n 1, 1) := by decide +kernel
theorem dX5_has_5 : decode cX5_has 5 = .ok (.aload_n 0, 1) := by decide +kernel
theorem dX5_has_6 : decode cX5_has 6 = .ok (.getfield 33, 3) := by decide +kernel
theorem dX5_has_9 : decode cX5_has 9 = .ok (.if_icmp .ge 13, 3) := by decide +kernel
theorem dX5_has_12 : decode cX5_has 12 = .ok (.iload_n 1, 1) := by decide +kernel
theorem dX5_has_13 : decode cX5_has 13 = .ok (.bipush 6, 2) := by decide +kernel
theorem dX5_has_15 : decode cX5_has 15 = .ok (.if_icmp .ge 7, 3) := by decide +kernel
theorem dX5_has_18 : decode cX5_has 18 = .ok (.iconst 1, 1) := by decide +kernel
theorem dX5_has_19 : decode cX5_has 19 = .ok (.goto 4, 3) := by decide +kernel
theorem dX5_has_22 : decode cX5_has 22 = .ok (.iconst 0, 1) := by decide +kernel
theorem dX5_has_23 : decode cX5_has 23 = .ok (.ireturn, 1) := by decide +kernel
theorem dX5_standingOn_0 : decode cX5_standingOn 0 = .ok (.iconst 0, 1) := by decide +kernel
theorem dX5_standingOn_1 : decode cX5_standingOn 1 = .ok (.istore_n 2, 1) := by decide +kernel
theorem dX5_standingOn_2 : decode cX5_standingOn 2 = .ok (.iload_n 2, 1) := by decide +kernel
theorem dX5_standingOn_3 : decode cX5_standingOn 3 = .ok (.aload_n 0, 1) := by decide +kernel
theorem dX5_standingOn_4 : decode cX5_standingOn 4 = .ok (.getfield 33, 3) := by decide +kernel
theorem dX5_standingOn_7 : decode cX5_standingOn 7 = .ok (.if_icmp .ge 27, 3) := by decide +kernel
theorem dX5_standingOn_10 : decode cX5_standingOn 10 = .ok (.iload_n 2, 1) := by decide +kernel
theorem dX5_standingOn_11 : decode cX5_standingOn 11 = .ok (.bipush 6, 2) := by decide +kernel
theorem dX5_standingOn_13 : decode cX5_standingOn 13 = .ok (.if_icmp .ge 21, 3) := by decide +kernel
theorem dX5_standingOn_16 : decode cX5_standingOn 16 = .ok (.aload_n 0, 1) := by decide +kernel
theorem dX5_standingOn_17 : decode cX5_standingOn 17 = .ok (.getfield 9, 3) := by decide +kernel
theorem dX5_standingOn_20 : decode cX5_standingOn 20 = .ok (.iload_n 2, 1) := by decide +kernel
theorem dX5_standingOn_21 : decode cX5_standingOn 21 = .ok (.iaload, 1) := by decide +kernel
theorem dX5_standingOn_22 : decode cX5_standingOn 22 = .ok (.iload_n 1, 1) := by decide +kernel
theorem dX5_standingOn_23 : decode cX5_standingOn 23 = .ok (.if_icmp .ne 5, 3) := by decide +kernel
theorem dX5_standingOn_26 : decode cX5_standingOn 26 = .ok (.iload_n 2, 1) := by decide +kernel
theorem dX5_standingOn_27 : decode cX5_standingOn 27 = .ok (.ireturn, 1) := by decide +kernel
theorem dX5_standingOn_28 : decode cX5_standingOn 28 = .ok (.iinc 2 1, 3) := by decide +kernel
theorem dX5_standingOn_31 : decode cX5_standingOn 31 = .ok (.goto (-29), 3) := by decide +kernel
theorem dX5_standingOn_34 : decode cX5_standingOn 34 = .ok (.bipush (-5), 2) := by decide +kernel
theorem dX5_standingOn_36 : decode cX5_standingOn 36 = .ok (.ireturn, 1) := by decide +kernel
theorem dX5_welcome_0 : decode cX5_welcome 0 = .ok (.iload_n 1, 1) := by decide +kernel
theorem dX5_welcome_1 : decode cX5_welcome 1 = .ok (.invokestatic 53, 3) := by decide +kernel
theorem dX5_welcome_4 : decode cX5_welcome 4 = .ok (.ifCond .ne 5, 3) := by decide +kernel
theorem dX5_welcome_7 : decode cX5_welcome 7 = .ok (.iconst (-1), 1) := by decide +kernel
theorem dX5_welcome_8 : decode cX5_welcome 8 = .ok (.ireturn, 1) := by decide +kernel
theorem dX5_welcome_9 : decode cX5_welcome 9 = .ok (.iload_n 2, 1) := by decide +kernel
theorem dX5_welcome_10 : decode cX5_welcome 10 = .ok (.iconst 1, 1) := by decide +kernel
theorem dX5_welcome_11 : decode cX5_welcome 11 = .ok (.if_icmp .lt 8, 3) := by decide +kernel
theorem dX5_welcome_14 : decode cX5_welcome 14 = .ok (.iload_n 2, 1) := by decide +kernel
theorem dX5_welcome_15 : decode cX5_welcome 15 = .ok (.iconst 5, 1) := by decide +kernel
theorem dX5_welcome_16 : decode cX5_welcome 16 = .ok (.if_icmp .le 6, 3) := by decide +kernel
theorem dX5_welcome_19 : decode cX5_welcome 19 = .ok (.bipush (-2), 2) := by decide +kernel
theorem dX5_welcome_21 : decode cX5_welcome 21 = .ok (.ireturn, 1) := by decide +kernel
theorem dX5_welcome_22 : decode cX5_welcome 22 = .ok (.aload_n 0, 1) := by decide +kernel
theorem dX5_welcome_23 : decode cX5_welcome 23 = .ok (.iload_n 1, 1) := by decide +kernel
theorem dX5_welcome_24 : decode cX5_welcome 24 = .ok (.invokevirtual 57, 3) := by decide +kernel
theorem dX5_welcome_27 : decode cX5_welcome 27 = .ok (.bipush (-5), 2) := by decide +kernel
theorem dX5_welcome_29 : decode cX5_welcome 29 = .ok (.if_icmp .eq 6, 3) := by decide +kernel
theorem dX5_welcome_32 : decode cX5_welcome 32 = .ok (.bipush (-4), 2) := by decide +kernel
theorem dX5_welcome_34 : decode cX5_welcome 34 = .ok (.ireturn, 1) := by decide +kernel
theorem dX5_welcome_35 : decode cX5_welcome 35 = .ok (.aload_n 0, 1) := by decide +kernel
theorem dX5_welcome_36 : decode cX5_welcome 36 = .ok (.getfield 33, 3) := by decide +kernel
theorem dX5_welcome_39 : decode cX5_welcome 39 = .ok (.ifCond .lt 12, 3) := by decide +kernel
theorem dX5_welcome_42 : decode cX5_welcome 42 = .ok (.aload_n 0, 1) := by decide +kernel
theorem dX5_welcome_43 : decode cX5_welcome 43 = .ok (.getfield 33, 3) := by decide +kernel
theorem dX5_welcome_46 : decode cX5_welcome 46 = .ok (.bipush 6, 2) := by decide +kernel
theorem dX5_welcome_48 : decode cX5_welcome 48 = .ok (.if_icmp .lt 6, 3) := by decide +kernel
theorem dX5_welcome_51 : decode cX5_welcome 51 = .ok (.bipush (-3), 2) := by decide +kernel
theorem dX5_welcome_53 : decode cX5_welcome 53 = .ok (.ireturn, 1) := by decide +kernel
theorem dX5_welcome_54 : decode cX5_welcome 54 = .ok (.aload_n 0, 1) := by decide +kernel
theorem dX5_welcome_55 : decode cX5_welcome 55 = .ok (.getfield 33, 3) := by decide +kernel
theorem dX5_welcome_58 : decode cX5_welcome 58 = .ok (.istore_n 3, 1) := by decide +kernel
theorem dX5_welcome_59 : decode cX5_welcome 59 = .ok (.aload_n 0, 1) := by decide +kernel
theorem dX5_welcome_60 : decode cX5_welcome 60 = .ok (.getfield 9, 3) := by decide +kernel
theorem dX5_welcome_63 : decode cX5_welcome 63 = .ok (.iload_n 3, 1) := by decide +kernel
theorem dX5_welcome_64 : decode cX5_welcome 64 = .ok (.iload_n 1, 1) := by decide +kernel
theorem dX5_welcome_65 : decode cX5_welcome 65 = .ok (.iastore, 1) := by decide +kernel
theorem dX5_welcome_66 : decode cX5_welcome 66 = .ok (.aload_n 0, 1) := by decide +kernel
theorem dX5_welcome_67 : decode cX5_welcome 67 = .ok (.getfield 15, 3) := by decide +kernel
theorem dX5_welcome_70 : decode cX5_welcome 70 = .ok (.iload_n 3, 1) := by decide +kernel
theorem dX5_welcome_71 : decode cX5_welcome 71 = .ok (.iload_n 2, 1) := by decide +kernel
theorem dX5_welcome_72 : decode cX5_welcome 72 = .ok (.iastore, 1) := by decide +kernel
theorem dX5_welcome_73 : decode cX5_welcome 73 = .ok (.aload_n 0, 1) := by decide +kernel
theorem dX5_welcome_74 : decode cX5_welcome 74 = .ok (.getfield 18, 3) := by decide +kernel
theorem dX5_welcome_77 : decode cX5_welcome 77 = .ok (.iload_n 3, 1) := by decide +kernel
theorem dX5_welcome_78 : decode cX5_welcome 78 = .ok (.iconst 4, 1) := by decide +kernel
theorem dX5_welcome_79 : decode cX5_welcome 79 = .ok (.iastore, 1) := by decide +kernel
theorem dX5_welcome_80 : decode cX5_welcome 80 = .ok (.aload_n 0, 1) := by decide +kernel
theorem dX5_welcome_81 : decode cX5_welcome 81 = .ok (.getfield 21, 3) := by decide +kernel
theorem dX5_welcome_84 : decode cX5_welcome 84 = .ok (.iload_n 3, 1) := by decide +kernel
theorem dX5_welcome_85 : decode cX5_welcome 85 = .ok (.iconst 0, 1) := by decide +kernel
theorem dX5_welcome_86 : decode cX5_welcome 86 = .ok (.iastore, 1) := by decide +kernel
theorem dX5_welcome_87 : decode cX5_welcome 87 = .ok (.aload_n 0, 1) := by decide +kernel
theorem dX5_welcome_88 : decode cX5_welcome 88 = .ok (.getfield 24, 3) := by decide +kernel
theorem dX5_welcome_91 : decode cX5_welcome 91 = .ok (.iload_n 3, 1) := by decide +kernel
theorem dX5_welcome_92 : decode cX5_welcome 92 = .ok (.iconst 0, 1) := by decide +kernel
theorem dX5_welcome_93 : decode cX5_welcome 93 = .ok (.iastore, 1) := by decide +kernel
theorem dX5_welcome_94 : decode cX5_welcome 94 = .ok (.aload_n 0, 1) := by decide +kernel
theorem dX5_welcome_95 : decode cX5_welcome 95 = .ok (.getfield 27, 3) := by decide +kernel
theorem dX5_welcome_98 : decode cX5_welcome 98 = .ok (.iload_n 3, 1) := by decide +kernel
theorem dX5_welcome_99 : decode cX5_welcome 99 = .ok (.iconst 0, 1) := by decide +kernel
theorem dX5_welcome_100 : decode cX5_welcome 100 = .ok (.iastore, 1) := by decide +kernel
theorem dX5_welcome_101 : decode cX5_welcome 101 = .ok (.aload_n 0, 1) := by decide +kernel
theorem dX5_welcome_102 : decode cX5_welcome 102 = .ok (.getfield 30, 3) := by decide +kernel
theorem dX5_welcome_105 : decode cX5_welcome 105 = .ok (.iload_n 3, 1) := by decide +kernel
theorem dX5_welcome_106 : decode cX5_welcome 106 = .ok (.iconst 0, 1) := by decide +kernel
theorem dX5_welcome_107 : decode cX5_welcome 107 = .ok (.iastore, 1) := by decide +kernel
theorem dX5_welcome_108 : decode cX5_welcome 108 = .ok (.aload_n 0, 1) := by decide +kernel
theorem dX5_welcome_109 : decode cX5_welcome 109 = .ok (.dup, 1) := by decide +kernel
theorem dX5_welcome_110 : decode cX5_welcome 110 = .ok (.getfield 33, 3) := by decide +kernel
theorem dX5_welcome_113 : decode cX5_welcome 113 = .ok (.iconst 1, 1) := by decide +kernel
theorem dX5_welcome_114 : decode cX5_welcome 114 = .ok (.iadd, 1) := by decide +kernel
theorem dX5_welcome_115 : decode cX5_welcome 115 = .ok (.putfield 33, 3) := by decide +kernel
theorem dX5_welcome_118 : decode cX5_welcome 118 = .ok (.aload_n 0, 1) := by decide +kernel
theorem dX5_welcome_119 : decode cX5_welcome 119 = .ok (.aload_n 0, 1) := by decide +kernel
theorem dX5_welcome_120 : decode cX5_welcome 120 = .ok (.getfield 37, 3) := by decide +kernel
theorem dX5_welcome_123 : decode cX5_welcome 123 = .ok (.bipush (-5), 2) := by decide +kernel
theorem dX5_welcome_125 : decode cX5_welcome 125 = .ok (.if_icmp .ne 7, 3) := by decide +kernel
theorem dX5_welcome_128 : decode cX5_welcome 128 = .ok (.iload_n 3, 1) := by decide +kernel
theorem dX5_welcome_129 : decode cX5_welcome 129 = .ok (.goto 7, 3) := by decide +kernel
theorem dX5_welcome_132 : decode cX5_welcome 132 = .ok (.aload_n 0, 1) := by decide +kernel
theorem dX5_welcome_133 : decode cX5_welcome 133 = .ok (.getfield 37, 3) := by decide +kernel
theorem dX5_welcome_136 : decode cX5_welcome 136 = .ok (.putfield 37, 3) := by decide +kernel
theorem dX5_welcome_139 : decode cX5_welcome 139 = .ok (.iload_n 3, 1) := by decide +kernel
theorem dX5_welcome_140 : decode cX5_welcome 140 = .ok (.ireturn, 1) := by decide +kernel
theorem dX5_steer_0 : decode cX5_steer 0 = .ok (.aload_n 0, 1) := by decide +kernel
theorem dX5_steer_1 : decode cX5_steer 1 = .ok (.iload_n 1, 1) := by decide +kernel
theorem dX5_steer_2 : decode cX5_steer 2 = .ok (.invokevirtual 61, 3) := by decide +kernel
theorem dX5_steer_5 : decode cX5_steer 5 = .ok (.ifCond .ne 5, 3) := by decide +kernel
theorem dX5_steer_8 : decode cX5_steer 8 = .ok (.iconst (-1), 1) := by decide +kernel
theorem dX5_steer_9 : decode cX5_steer 9 = .ok (.ireturn, 1) := by decide +kernel
theorem dX5_steer_10 : decode cX5_steer 10 = .ok (.iload_n 2, 1) := by decide +kernel
theorem dX5_steer_11 : decode cX5_steer 11 = .ok (.iconst (-1), 1) := by decide +kernel
theorem dX5_steer_12 : decode cX5_steer 12 = .ok (.if_icmp .lt 8, 3) := by decide +kernel
theorem dX5_steer_15 : decode cX5_steer 15 = .ok (.iload_n 2, 1) := by decide +kernel
theorem dX5_steer_16 : decode cX5_steer 16 = .ok (.iconst 4, 1) := by decide +kernel
theorem dX5_steer_17 : decode cX5_steer 17 = .ok (.if_icmp .lt 6, 3) := by decide +kernel
theorem dX5_steer_20 : decode cX5_steer 20 = .ok (.bipush (-2), 2) := by decide +kernel
theorem dX5_steer_22 : decode cX5_steer 22 = .ok (.ireturn, 1) := by decide +kernel
theorem dX5_steer_23 : decode cX5_steer 23 = .ok (.aload_n 0, 1) := by decide +kernel
theorem dX5_steer_24 : decode cX5_steer 24 = .ok (.getfield 18, 3) := by decide +kernel
theorem dX5_steer_27 : decode cX5_steer 27 = .ok (.iload_n 1, 1) := by decide +kernel
theorem dX5_steer_28 : decode cX5_steer 28 = .ok (.iload_n 2, 1) := by decide +kernel
theorem dX5_steer_29 : decode cX5_steer 29 = .ok (.iconst (-1), 1) := by decide +kernel
theorem dX5_steer_30 : decode cX5_steer 30 = .ok (.if_icmp .ne 7, 3) := by decide +kernel
theorem dX5_steer_33 : decode cX5_steer 33 = .ok (.iconst 4, 1) := by decide +kernel
theorem dX5_steer_34 : decode cX5_steer 34 = .ok (.goto 4, 3) := by decide +kernel
theorem dX5_steer_37 : decode cX5_steer 37 = .ok (.iload_n 2, 1) := by decide +kernel
theorem dX5_steer_38 : decode cX5_steer 38 = .ok (.iconst 0, 1) := by decide +kernel
theorem dX5_steer_39 : decode cX5_steer 39 = .ok (.iconst 4, 1) := by decide +kernel
theorem dX5_steer_40 : decode cX5_steer 40 = .ok (.invokestatic 64, 3) := by decide +kernel
theorem dX5_steer_43 : decode cX5_steer 43 = .ok (.ireturn, 1) := by decide +kernel
theorem dX5_stepAll_0 : decode cX5_stepAll 0 = .ok (.iconst 0, 1) := by decide +kernel
theorem dX5_stepAll_1 : decode cX5_stepAll 1 = .ok (.istore_n 1, 1) := by decide +kernel
theorem dX5_stepAll_2 : decode cX5_stepAll 2 = .ok (.iload_n 1, 1) := by decide +kernel
theorem dX5_stepAll_3 : decode cX5_stepAll 3 = .ok (.aload_n 0, 1) := by decide +kernel
theorem dX5_stepAll_4 : decode cX5_stepAll 4 = .ok (.getfield 33, 3) := by decide +kernel
theorem dX5_stepAll_7 : decode cX5_stepAll 7 = .ok (.if_icmp .ge 14, 3) := by decide +kernel
theorem dX5_stepAll_10 : decode cX5_stepAll 10 = .ok (.aload_n 0, 1) := by decide +kernel
theorem dX5_stepAll_11 : decode cX5_stepAll 11 = .ok (.iload_n 1, 1) := by decide +kernel
theorem dX5_stepAll_12 : decode cX5_stepAll 12 = .ok (.invokevirtual 68, 3) := by decide +kernel
theorem dX5_stepAll_15 : decode cX5_stepAll 15 = .ok (.iinc 1 1, 3) := by decide +kernel
theorem dX5_stepAll_18 : decode cX5_stepAll 18 = .ok (.goto (-16), 3) := by decide +kernel
theorem dX5_stepAll_21 : decode cX5_stepAll 21 = .ok (.return_, 1) := by decide +kernel
theorem dX5_step_0 : decode cX5_step 0 = .ok (.aload_n 0, 1) := by decide +kernel
theorem dX5_step_1 : decode cX5_step 1 = .ok (.iload_n 1, 1) := by decide +kernel
theorem dX5_step_2 : decode cX5_step 2 = .ok (.invokevirtual 61, 3) := by decide +kernel
theorem dX5_step_5 : decode cX5_step 5 = .ok (.ifCond .eq 13, 3) := by decide +kernel
theorem dX5_step_8 : decode cX5_step 8 = .ok (.aload_n 0, 1) := by decide +kernel
theorem dX5_step_9 : decode cX5_step 9 = .ok (.getfield 18, 3) := by decide +kernel
theorem dX5_step_12 : decode cX5_step 12 = .ok (.iload_n 1, 1) := by decide +kernel
theorem dX5_step_13 : decode cX5_step 13 = .ok (.iaload, 1) := by decide +kernel
theorem dX5_step_14 : decode cX5_step 14 = .ok (.iconst 4, 1) := by decide +kernel
theorem dX5_step_15 : decode cX5_step 15 = .ok (.if_icmp .ne 4, 3) := by decide +kernel
theorem dX5_step_18 : decode cX5_step 18 = .ok (.return_, 1) := by decide +kernel
theorem dX5_step_19 : decode cX5_step 19 = .ok (.aload_n 0, 1) := by decide +kernel
theorem dX5_step_20 : decode cX5_step 20 = .ok (.getfield 9, 3) := by decide +kernel
theorem dX5_step_23 : decode cX5_step 23 = .ok (.iload_n 1, 1) := by decide +kernel
theorem dX5_step_24 : decode cX5_step 24 = .ok (.iaload, 1) := by decide +kernel
theorem dX5_step_25 : decode cX5_step 25 = .ok (.istore_n 2, 1) := by decide +kernel
theorem dX5_step_26 : decode cX5_step 26 = .ok (.aload_n 0, 1) := by decide +kernel
theorem dX5_step_27 : decode cX5_step 27 = .ok (.getfield 18, 3) := by decide +kernel
theorem dX5_step_30 : decode cX5_step 30 = .ok (.iload_n 1, 1) := by decide +kernel
theorem dX5_step_31 : decode cX5_step 31 = .ok (.iaload, 1) := by decide +kernel
theorem dX5_step_32 : decode cX5_step 32 = .ok (.istore_n 3, 1) := by decide +kernel
theorem dX5_step_33 : decode cX5_step 33 = .ok (.iload_n 2, 1) := by decide +kernel
theorem dX5_step_34 : decode cX5_step 34 = .ok (.iload_n 3, 1) := by decide +kernel
theorem dX5_step_35 : decode cX5_step 35 = .ok (.iconst 1, 1) := by decide +kernel
theorem dX5_step_36 : decode cX5_step 36 = .ok (.invokestatic 72, 3) := by decide +kernel
theorem dX5_step_39 : decode cX5_step 39 = .ok (.istore 4, 2) := by decide +kernel
theorem dX5_step_41 : decode cX5_step 41 = .ok (.iload_n 2, 1) := by decide +kernel
theorem dX5_step_42 : decode cX5_step 42 = .ok (.iload_n 3, 1) := by decide +kernel
theorem dX5_step_43 : decode cX5_step 43 = .ok (.invokestatic 76, 3) := by decide +kernel
theorem dX5_step_46 : decode cX5_step 46 = .ok (.ifCond .eq 14, 3) := by decide +kernel
theorem dX5_step_49 : decode cX5_step 49 = .ok (.aload_n 0, 1) := by decide +kernel
theorem dX5_step_50 : decode cX5_step 50 = .ok (.iload 4, 2) := by decide +kernel
theorem dX5_step_52 : decode cX5_step 52 = .ok (.invokevirtual 57, 3) := by decide +kernel
theorem dX5_step_55 : decode cX5_step 55 = .ok (.bipush (-5), 2) := by decide +kernel
theorem dX5_step_57 : decode cX5_step 57 = .ok (.if_icmp .eq 16, 3) := by decide +kernel
theorem dX5_step_60 : decode cX5_step 60 = .ok (.aload_n 0, 1) := by decide +kernel
theorem dX5_step_61 : decode cX5_step 61 = .ok (.dup, 1) := by decide +kernel
theorem dX5_step_62 : decode cX5_step 62 = .ok (.getfield 46, 3) := by decide +kernel
theorem dX5_step_65 : decode cX5_step 65 = .ok (.iconst 1, 1) := by decide +kernel
theorem dX5_step_66 : decode cX5_step 66 = .ok (.iadd, 1) := by decide +kernel
theorem dX5_step_67 : decode cX5_step 67 = .ok (.putfield 46, 3) := by decide +kernel
theorem dX5_step_70 : decode cX5_step 70 = .ok (.goto 21, 3) := by decide +kernel
theorem dX5_step_73 : decode cX5_step 73 = .ok (.aload_n 0, 1) := by decide +kernel
theorem dX5_step_74 : decode cX5_step 74 = .ok (.getfield 9, 3) := by decide +kernel
theorem dX5_step_77 : decode cX5_step 77 = .ok (.iload_n 1, 1) := by decide +kernel
theorem dX5_step_78 : decode cX5_step 78 = .ok (.iload 4, 2) := by decide +kernel
theorem dX5_step_80 : decode cX5_step 80 = .ok (.iastore, 1) := by decide +kernel
theorem dX5_step_81 : decode cX5_step 81 = .ok (.aload_n 0, 1) := by decide +kernel
theorem dX5_step_82 : decode cX5_step 82 = .ok (.dup, 1) := by decide +kernel
theorem dX5_step_83 : decode cX5_step 83 = .ok (.getfield 43, 3) := by decide +kernel
theorem dX5_step_86 : decode cX5_step 86 = .ok (.iconst 1, 1) := by decide +kernel
theorem dX5_step_87 : decode cX5_step 87 = .ok (.iadd, 1) := by decide +kernel
theorem dX5_step_88 : decode cX5_step 88 = .ok (.putfield 43, 3) := by decide +kernel
theorem dX5_step_91 : decode cX5_step 91 = .ok (.return_, 1) := by decide +kernel
theorem dX5_handOver_0 : decode cX5_handOver 0 = .ok (.aload_n 0, 1) := by decide +kernel
theorem dX5_handOver_1 : decode cX5_handOver 1 = .ok (.iload_n 1, 1) := by decide +kernel
theorem dX5_handOver_2 : decode cX5_handOver 2 = .ok (.invokevirtual 61, 3) := by decide +kernel
theorem dX5_handOver_5 : decode cX5_handOver 5 = .ok (.ifCond .eq 14, 3) := by decide +kernel
theorem dX5_handOver_8 : decode cX5_handOver 8 = .ok (.aload_n 0, 1) := by decide +kernel
theorem dX5_handOver_9 : decode cX5_handOver 9 = .ok (.aload_n 0, 1) := by decide +kernel
theorem dX5_handOver_10 : decode cX5_handOver 10 = .ok (.getfield 37, 3) := by decide +kernel
theorem dX5_handOver_13 : decode cX5_handOver 13 = .ok (.invokevirtual 61, 3) := by decide +kernel
theorem dX5_handOver_16 : decode cX5_handOver 16 = .ok (.ifCond .ne 4, 3) := by decide +kernel
theorem dX5_handOver_19 : decode cX5_handOver 19 = .ok (.return_, 1) := by decide +kernel
theorem dX5_handOver_20 : decode cX5_handOver 20 = .ok (.aload_n 0, 1) := by decide +kernel
theorem dX5_handOver_21 : decode cX5_handOver 21 = .ok (.getfield 24, 3) := by decide +kernel
theorem dX5_handOver_24 : decode cX5_handOver 24 = .ok (.iload_n 1, 1) := by decide +kernel
theorem dX5_handOver_25 : decode cX5_handOver 25 = .ok (.dup2, 1) := by decide +kernel
theorem dX5_handOver_26 : decode cX5_handOver 26 = .ok (.iaload, 1) := by decide +kernel
theorem dX5_handOver_27 : decode cX5_handOver 27 = .ok (.iconst 1, 1) := by decide +kernel
theorem dX5_handOver_28 : decode cX5_handOver 28 = .ok (.iadd, 1) := by decide +kernel
theorem dX5_handOver_29 : decode cX5_handOver 29 = .ok (.iastore, 1) := by decide +kernel
theorem dX5_handOver_30 : decode cX5_handOver 30 = .ok (.aload_n 0, 1) := by decide +kernel
theorem dX5_handOver_31 : decode cX5_handOver 31 = .ok (.getfield 27, 3) := by decide +kernel
theorem dX5_handOver_34 : decode cX5_handOver 34 = .ok (.aload_n 0, 1) := by decide +kernel
theorem dX5_handOver_35 : decode cX5_handOver 35 = .ok (.getfield 37, 3) := by decide +kernel
theorem dX5_handOver_38 : decode cX5_handOver 38 = .ok (.dup2, 1) := by decide +kernel
theorem dX5_handOver_39 : decode cX5_handOver 39 = .ok (.iaload, 1) := by decide +kernel
theorem dX5_handOver_40 : decode cX5_handOver 40 = .ok (.iconst 1, 1) := by decide +kernel
theorem dX5_handOver_41 : decode cX5_handOver 41 = .ok (.iadd, 1) := by decide +kernel
theorem dX5_handOver_42 : decode cX5_handOver 42 = .ok (.iastore, 1) := by decide +kernel
theorem dX5_handOver_43 : decode cX5_handOver 43 = .ok (.aload_n 0, 1) := by decide +kernel
theorem dX5_handOver_44 : decode cX5_handOver 44 = .ok (.getfield 21, 3) := by decide +kernel
theorem dX5_handOver_47 : decode cX5_handOver 47 = .ok (.aload_n 0, 1) := by decide +kernel
theorem dX5_handOver_48 : decode cX5_handOver 48 = .ok (.getfield 37, 3) := by decide +kernel
theorem dX5_handOver_51 : decode cX5_handOver 51 = .ok (.iload_n 2, 1) := by decide +kernel
theorem dX5_handOver_52 : decode cX5_handOver 52 = .ok (.iastore, 1) := by decide +kernel
theorem dX5_handOver_53 : decode cX5_handOver 53 = .ok (.aload_n 0, 1) := by decide +kernel
theorem dX5_handOver_54 : decode cX5_handOver 54 = .ok (.iload_n 1, 1) := by decide +kernel
theorem dX5_handOver_55 : decode cX5_handOver 55 = .ok (.putfield 37, 3) := by decide +kernel
theorem dX5_handOver_58 : decode cX5_handOver 58 = .ok (.aload_n 0, 1) := by decide +kernel
theorem dX5_handOver_59 : decode cX5_handOver 59 = .ok (.dup, 1) := by decide +kernel
theorem dX5_handOver_60 : decode cX5_handOver 60 = .ok (.getfield 40, 3) := by decide +kernel
theorem dX5_handOver_63 : decode cX5_handOver 63 = .ok (.iconst 1, 1) := by decide +kernel
theorem dX5_handOver_64 : decode cX5_handOver 64 = .ok (.iadd, 1) := by decide +kernel
theorem dX5_handOver_65 : decode cX5_handOver 65 = .ok (.putfield 40, 3) := by decide +kernel
theorem dX5_handOver_68 : decode cX5_handOver 68 = .ok (.return_, 1) := by decide +kernel
theorem dX5_shortenRespites_0 : decode cX5_shortenRespites 0 = .ok (.iconst 0, 1) := by decide +kernel
theorem dX5_shortenRespites_1 : decode cX5_shortenRespites 1 = .ok (.istore_n 1, 1) := by decide +kernel
theorem dX5_shortenRespites_2 : decode cX5_shortenRespites 2 = .ok (.iload_n 1, 1) := by decide +kernel
theorem dX5_shortenRespites_3 : decode cX5_shortenRespites 3 = .ok (.aload_n 0, 1) := by decide +kernel
theorem dX5_shortenRespites_4 : decode cX5_shortenRespites 4 = .ok (.getfield 33, 3) := by decide +kernel
theorem dX5_shortenRespites_7 : decode cX5_shortenRespites 7 = .ok (.if_icmp .ge 34, 3) := by decide +kernel
theorem dX5_shortenRespites_10 : decode cX5_shortenRespites 10 = .ok (.iload_n 1, 1) := by decide +kernel
theorem dX5_shortenRespites_11 : decode cX5_shortenRespites 11 = .ok (.bipush 6, 2) := by decide +kernel
theorem dX5_shortenRespites_13 : decode cX5_shortenRespites 13 = .ok (.if_icmp .ge 28, 3) := by decide +kernel
theorem dX5_shortenRespites_16 : decode cX5_shortenRespites 16 = .ok (.aload_n 0, 1) := by decide +kernel
theorem dX5_shortenRespites_17 : decode cX5_shortenRespites 17 = .ok (.getfield 21, 3) := by decide +kernel
theorem dX5_shortenRespites_20 : decode cX5_shortenRespites 20 = .ok (.iload_n 1, 1) := by decide +kernel
theorem dX5_shortenRespites_21 : decode cX5_shortenRespites 21 = .ok (.iaload, 1) := by decide +kernel
theorem dX5_shortenRespites_22 : decode cX5_shortenRespites 22 = .ok (.ifCond .le 13, 3) := by decide +kernel
theorem dX5_shortenRespites_25 : decode cX5_shortenRespites 25 = .ok (.aload_n 0, 1) := by decide +kernel
theorem dX5_shortenRespites_26 : decode cX5_shortenRespites 26 = .ok (.getfield 21, 3) := by decide +kernel
theorem dX5_shortenRespites_29 : decode cX5_shortenRespites 29 = .ok (.iload_n 1, 1) := by decide +kernel
theorem dX5_shortenRespites_30 : decode cX5_shortenRespites 30 = .ok (.dup2, 1) := by decide +kernel
theorem dX5_shortenRespites_31 : decode cX5_shortenRespites 31 = .ok (.iaload, 1) := by decide +kernel
theorem dX5_shortenRespites_32 : decode cX5_shortenRespites 32 = .ok (.iconst 1, 1) := by decide +kernel
theorem dX5_shortenRespites_33 : decode cX5_shortenRespites 33 = .ok (.isub, 1) := by decide +kernel
theorem dX5_shortenRespites_34 : decode cX5_shortenRespites 34 = .ok (.iastore, 1) := by decide +kernel
theorem dX5_shortenRespites_35 : decode cX5_shortenRespites 35 = .ok (.iinc 1 1, 3) := by decide +kernel
theorem dX5_shortenRespites_38 : decode cX5_shortenRespites 38 = .ok (.goto (-36), 3) := by decide +kernel
theorem dX5_shortenRespites_41 : decode cX5_shortenRespites 41 = .ok (.return_, 1) := by decide +kernel
theorem dX5_addToAccounts_0 : decode cX5_addToAccounts 0 = .ok (.iconst 0, 1) := by decide +kernel
theorem dX5_addToAccounts_1 : decode cX5_addToAccounts 1 = .ok (.istore_n 1, 1) := by decide +kernel
theorem dX5_addToAccounts_2 : decode cX5_addToAccounts 2 = .ok (.iload_n 1, 1) := by decide +kernel
theorem dX5_addToAccounts_3 : decode cX5_addToAccounts 3 = .ok (.aload_n 0, 1) := by decide +kernel
theorem dX5_addToAccounts_4 : decode cX5_addToAccounts 4 = .ok (.getfield 33, 3) := by decide +kernel
theorem dX5_addToAccounts_7 : decode cX5_addToAccounts 7 = .ok (.if_icmp .ge 33, 3) := by decide +kernel
theorem dX5_addToAccounts_10 : decode cX5_addToAccounts 10 = .ok (.iload_n 1, 1) := by decide +kernel
theorem dX5_addToAccounts_11 : decode cX5_addToAccounts 11 = .ok (.bipush 6, 2) := by decide +kernel
theorem dX5_addToAccounts_13 : decode cX5_addToAccounts 13 = .ok (.if_icmp .ge 27, 3) := by decide +kernel
theorem dX5_addToAccounts_16 : decode cX5_addToAccounts 16 = .ok (.iload_n 1, 1) := by decide +kernel
theorem dX5_addToAccounts_17 : decode cX5_addToAccounts 17 = .ok (.aload_n 0, 1) := by decide +kernel
theorem dX5_addToAccounts_18 : decode cX5_addToAccounts 18 = .ok (.getfield 37, 3) := by decide +kernel
theorem dX5_addToAccounts_21 : decode cX5_addToAccounts 21 = .ok (.if_icmp .eq 13, 3) := by decide +kernel
theorem dX5_addToAccounts_24 : decode cX5_addToAccounts 24 = .ok (.aload_n 0, 1) := by decide +kernel
theorem dX5_addToAccounts_25 : decode cX5_addToAccounts 25 = .ok (.getfield 30, 3) := by decide +kernel
theorem dX5_addToAccounts_28 : decode cX5_addToAccounts 28 = .ok (.iload_n 1, 1) := by decide +kernel
theorem dX5_addToAccounts_29 : decode cX5_addToAccounts 29 = .ok (.dup2, 1) := by decide +kernel
theorem dX5_addToAccounts_30 : decode cX5_addToAccounts 30 = .ok (.iaload, 1) := by decide +kernel
theorem dX5_addToAccounts_31 : decode cX5_addToAccounts 31 = .ok (.iconst 1, 1) := by decide +kernel
theorem dX5_addToAccounts_32 : decode cX5_addToAccounts 32 = .ok (.iadd, 1) := by decide +kernel
theorem dX5_addToAccounts_33 : decode cX5_addToAccounts 33 = .ok (.iastore, 1) := by decide +kernel
theorem dX5_addToAccounts_34 : decode cX5_addToAccounts 34 = .ok (.iinc 1 1, 3) := by decide +kernel
theorem dX5_addToAccounts_37 : decode cX5_addToAccounts 37 = .ok (.goto (-35), 3) := by decide +kernel
theorem dX5_addToAccounts_40 : decode cX5_addToAccounts 40 = .ok (.return_, 1) := by decide +kernel
theorem dX5_spin_0 : decode cX5_spin 0 = .ok (.iconst 0, 1) := by decide +kernel
theorem dX5_spin_1 : decode cX5_spin 1 = .ok (.istore_n 1, 1) := by decide +kernel
theorem dX5_spin_2 : decode cX5_spin 2 = .ok (.iload_n 1, 1) := by decide +kernel
theorem dX5_spin_3 : decode cX5_spin 3 = .ok (.aload_n 0, 1) := by decide +kernel
theorem dX5_spin_4 : decode cX5_spin 4 = .ok (.getfield 33, 3) := by decide +kernel
theorem dX5_spin_7 : decode cX5_spin 7 = .ok (.if_icmp .ge 78, 3) := by decide +kernel
theorem dX5_spin_10 : decode cX5_spin 10 = .ok (.iload_n 1, 1) := by decide +kernel
theorem dX5_spin_11 : decode cX5_spin 11 = .ok (.bipush 6, 2) := by decide +kernel
theorem dX5_spin_13 : decode cX5_spin 13 = .ok (.if_icmp .ge 72, 3) := by decide +kernel
theorem dX5_spin_16 : decode cX5_spin 16 = .ok (.aload_n 0, 1) := by decide +kernel
theorem dX5_spin_17 : decode cX5_spin 17 = .ok (.getfield 9, 3) := by decide +kernel
theorem dX5_spin_20 : decode cX5_spin 20 = .ok (.iload_n 1, 1) := by decide +kernel
theorem dX5_spin_21 : decode cX5_spin 21 = .ok (.iaload, 1) := by decide +kernel
theorem dX5_spin_22 : decode cX5_spin 22 = .ok (.bipush 10, 2) := by decide +kernel
theorem dX5_spin_24 : decode cX5_spin 24 = .ok (.idiv, 1) := by decide +kernel
theorem dX5_spin_25 : decode cX5_spin 25 = .ok (.istore_n 2, 1) := by decide +kernel
theorem dX5_spin_26 : decode cX5_spin 26 = .ok (.aload_n 0, 1) := by decide +kernel
theorem dX5_spin_27 : decode cX5_spin 27 = .ok (.getfield 9, 3) := by decide +kernel
theorem dX5_spin_30 : decode cX5_spin 30 = .ok (.iload_n 1, 1) := by decide +kernel
theorem dX5_spin_31 : decode cX5_spin 31 = .ok (.iaload, 1) := by decide +kernel
theorem dX5_spin_32 : decode cX5_spin 32 = .ok (.bipush 10, 2) := by decide +kernel
theorem dX5_spin_34 : decode cX5_spin 34 = .ok (.irem, 1) := by decide +kernel
theorem dX5_spin_35 : decode cX5_spin 35 = .ok (.istore_n 3, 1) := by decide +kernel
theorem dX5_spin_36 : decode cX5_spin 36 = .ok (.aload_n 0, 1) := by decide +kernel
theorem dX5_spin_37 : decode cX5_spin 37 = .ok (.getfield 9, 3) := by decide +kernel
theorem dX5_spin_40 : decode cX5_spin 40 = .ok (.iload_n 1, 1) := by decide +kernel
theorem dX5_spin_41 : decode cX5_spin 41 = .ok (.iload_n 3, 1) := by decide +kernel
theorem dX5_spin_42 : decode cX5_spin 42 = .ok (.bipush 10, 2) := by decide +kernel
theorem dX5_spin_44 : decode cX5_spin 44 = .ok (.imul, 1) := by decide +kernel
theorem dX5_spin_45 : decode cX5_spin 45 = .ok (.bipush 10, 2) := by decide +kernel
theorem dX5_spin_47 : decode cX5_spin 47 = .ok (.iadd, 1) := by decide +kernel
theorem dX5_spin_48 : decode cX5_spin 48 = .ok (.iconst 1, 1) := by decide +kernel
theorem dX5_spin_49 : decode cX5_spin 49 = .ok (.isub, 1) := by decide +kernel
theorem dX5_spin_50 : decode cX5_spin 50 = .ok (.iload_n 2, 1) := by decide +kernel
theorem dX5_spin_51 : decode cX5_spin 51 = .ok (.isub, 1) := by decide +kernel
theorem dX5_spin_52 : decode cX5_spin 52 = .ok (.iastore, 1) := by decide +kernel
theorem dX5_spin_53 : decode cX5_spin 53 = .ok (.aload_n 0, 1) := by decide +kernel
theorem dX5_spin_54 : decode cX5_spin 54 = .ok (.getfield 18, 3) := by decide +kernel
theorem dX5_spin_57 : decode cX5_spin 57 = .ok (.iload_n 1, 1) := by decide +kernel
theorem dX5_spin_58 : decode cX5_spin 58 = .ok (.iaload, 1) := by decide +kernel
theorem dX5_spin_59 : decode cX5_spin 59 = .ok (.iconst 4, 1) := by decide +kernel
theorem dX5_spin_60 : decode cX5_spin 60 = .ok (.if_icmp .eq 19, 3) := by decide +kernel
theorem dX5_spin_63 : decode cX5_spin 63 = .ok (.aload_n 0, 1) := by decide +kernel
theorem dX5_spin_64 : decode cX5_spin 64 = .ok (.getfield 18, 3) := by decide +kernel
theorem dX5_spin_67 : decode cX5_spin 67 = .ok (.iload_n 1, 1) := by decide +kernel
theorem dX5_spin_68 : decode cX5_spin 68 = .ok (.aload_n 0, 1) := by decide +kernel
theorem dX5_spin_69 : decode cX5_spin 69 = .ok (.getfield 18, 3) := by decide +kernel
theorem dX5_spin_72 : decode cX5_spin 72 = .ok (.iload_n 1, 1) := by decide +kernel
theorem dX5_spin_73 : decode cX5_spin 73 = .ok (.iaload, 1) := by decide +kernel
theorem dX5_spin_74 : decode cX5_spin 74 = .ok (.iconst 1, 1) := by decide +kernel
theorem dX5_spin_75 : decode cX5_spin 75 = .ok (.iadd, 1) := by decide +kernel
theorem dX5_spin_76 : decode cX5_spin 76 = .ok (.iconst 4, 1) := by decide +kernel
theorem dX5_spin_77 : decode cX5_spin 77 = .ok (.irem, 1) := by decide +kernel
theorem dX5_spin_78 : decode cX5_spin 78 = .ok (.iastore, 1) := by decide +kernel
theorem dX5_spin_79 : decode cX5_spin 79 = .ok (.iinc 1 1, 3) := by decide +kernel
theorem dX5_spin_82 : decode cX5_spin 82 = .ok (.goto (-80), 3) := by decide +kernel
theorem dX5_spin_85 : decode cX5_spin 85 = .ok (.return_, 1) := by decide +kernel
theorem dX6_init_0 : decode cX6_init 0 = .ok (.aload_n 0, 1) := by decide +kernel
theorem dX6_init_1 : decode cX6_init 1 = .ok (.invokespecial 3, 3) := by decide +kernel
theorem dX6_init_4 : decode cX6_init 4 = .ok (.aload_n 0, 1) := by decide +kernel
theorem dX6_init_5 : decode cX6_init 5 = .ok (.new 9, 3) := by decide +kernel
theorem dX6_init_8 : decode cX6_init 8 = .ok (.dup, 1) := by decide +kernel
theorem dX6_init_9 : decode cX6_init 9 = .ok (.invokespecial 11, 3) := by decide +kernel
theorem dX6_init_12 : decode cX6_init 12 = .ok (.putfield 12, 3) := by decide +kernel
theorem dX6_init_15 : decode cX6_init 15 = .ok (.aload_n 0, 1) := by decide +kernel
theorem dX6_init_16 : decode cX6_init 16 = .ok (.new 9, 3) := by decide +kernel
theorem dX6_init_19 : decode cX6_init 19 = .ok (.dup, 1) := by decide +kernel
theorem dX6_init_20 : decode cX6_init 20 = .ok (.invokespecial 11, 3) := by decide +kernel
theorem dX6_init_23 : decode cX6_init 23 = .ok (.putfield 16, 3) := by decide +kernel
theorem dX6_init_26 : decode cX6_init 26 = .ok (.aload_n 0, 1) := by decide +kernel
theorem dX6_init_27 : decode cX6_init 27 = .ok (.new 9, 3) := by decide +kernel
theorem dX6_init_30 : decode cX6_init 30 = .ok (.dup, 1) := by decide +kernel
theorem dX6_init_31 : decode cX6_init 31 = .ok (.invokespecial 11, 3) := by decide +kernel
theorem dX6_init_34 : decode cX6_init 34 = .ok (.putfield 19, 3) := by decide +kernel
theorem dX6_init_37 : decode cX6_init 37 = .ok (.aload_n 0, 1) := by decide +kernel
theorem dX6_init_38 : decode cX6_init 38 = .ok (.new 22, 3) := by decide +kernel
theorem dX6_init_41 : decode cX6_init 41 = .ok (.dup, 1) := by decide +kernel
theorem dX6_init_42 : decode cX6_init 42 = .ok (.invokespecial 24, 3) := by decide +kernel
theorem dX6_init_45 : decode cX6_init 45 = .ok (.putfield 25, 3) := by decide +kernel
theorem dX6_init_48 : decode cX6_init 48 = .ok (.aload_n 0, 1) := by decide +kernel
theorem dX6_init_49 : decode cX6_init 49 = .ok (.new 29, 3) := by decide +kernel
theorem dX6_init_52 : decode cX6_init 52 = .ok (.dup, 1) := by decide +kernel
theorem dX6_init_53 : decode cX6_init 53 = .ok (.invokespecial 31, 3) := by decide +kernel
theorem dX6_init_56 : decode cX6_init 56 = .ok (.putfield 32, 3) := by decide +kernel
theorem dX6_init_59 : decode cX6_init 59 = .ok (.aload_n 0, 1) := by decide +kernel
theorem dX6_init_60 : decode cX6_init 60 = .ok (.new 36, 3) := by decide +kernel
theorem dX6_init_63 : decode cX6_init 63 = .ok (.dup, 1) := by decide +kernel
theorem dX6_init_64 : decode cX6_init 64 = .ok (.invokespecial 38, 3) := by decide +kernel
theorem dX6_init_67 : decode cX6_init 67 = .ok (.putfield 39, 3) := by decide +kernel
theorem dX6_init_70 : decode cX6_init 70 = .ok (.aload_n 0, 1) := by decide +kernel
theorem dX6_init_71 : decode cX6_init 71 = .ok (.iconst 0, 1) := by decide +kernel
theorem dX6_init_72 : decode cX6_init 72 = .ok (.putfield 43, 3) := by decide +kernel
theorem dX6_init_75 : decode cX6_init 75 = .ok (.aload_n 0, 1) := by decide +kernel
theorem dX6_init_76 : decode cX6_init 76 = .ok (.bipush (-5), 2) := by decide +kernel
theorem dX6_init_78 : decode cX6_init 78 = .ok (.putfield 47, 3) := by decide +kernel
theorem dX6_init_81 : decode cX6_init 81 = .ok (.aload_n 0, 1) := by decide +kernel
theorem dX6_init_82 : decode cX6_init 82 = .ok (.bipush (-5), 2) := by decide +kernel
theorem dX6_init_84 : decode cX6_init 84 = .ok (.putfield 51, 3) := by decide +kernel
theorem dX6_init_87 : decode cX6_init 87 = .ok (.return_, 1) := by decide +kernel
theorem dX6_come_0 : decode cX6_come 0 = .ok (.aload_n 0, 1) := by decide +kernel
theorem dX6_come_1 : decode cX6_come 1 = .ok (.getfield 16, 3) := by decide +kernel
theorem dX6_come_4 : decode cX6_come 4 = .ok (.aload_n 0, 1) := by decide +kernel
theorem dX6_come_5 : decode cX6_come 5 = .ok (.getfield 12, 3) := by decide +kernel
theorem dX6_come_8 : decode cX6_come 8 = .ok (.invokevirtual 54, 3) := by decide +kernel
theorem dX6_come_11 : decode cX6_come 11 = .ok (.aload_n 0, 1) := by decide +kernel
theorem dX6_come_12 : decode cX6_come 12 = .ok (.aload_n 0, 1) := by decide +kernel
theorem dX6_come_13 : decode cX6_come 13 = .ok (.getfield 16, 3) := by decide +kernel
theorem dX6_come_16 : decode cX6_come 16 = .ok (.getfield 58, 3) := by decide +kernel
theorem dX6_come_19 : decode cX6_come 19 = .ok (.iload_n 1, 1) := by decide +kernel
theorem dX6_come_20 : decode cX6_come 20 = .ok (.iload_n 2, 1) := by decide +kernel
theorem dX6_come_21 : decode cX6_come 21 = .ok (.invokevirtual 62, 3) := by decide +kernel
theorem dX6_come_24 : decode cX6_come 24 = .ok (.invokevirtual 68, 3) := by decide +kernel
theorem dX6_come_27 : decode cX6_come 27 = .ok (.ireturn, 1) := by decide +kernel
theorem dX6_head_0 : decode cX6_head 0 = .ok (.aload_n 0, 1) := by decide +kernel
theorem dX6_head_1 : decode cX6_head 1 = .ok (.getfield 16, 3) := by decide +kernel
theorem dX6_head_4 : decode cX6_head 4 = .ok (.aload_n 0, 1) := by decide +kernel
theorem dX6_head_5 : decode cX6_head 5 = .ok (.getfield 12, 3) := by decide +kernel
theorem dX6_head_8 : decode cX6_head 8 = .ok (.invokevirtual 54, 3) := by decide +kernel
theorem dX6_head_11 : decode cX6_head 11 = .ok (.aload_n 0, 1) := by decide +kernel
theorem dX6_head_12 : decode cX6_head 12 = .ok (.aload_n 0, 1) := by decide +kernel
theorem dX6_head_13 : decode cX6_head 13 = .ok (.getfield 16, 3) := by decide +kernel
theorem dX6_head_16 : decode cX6_head 16 = .ok (.getfield 58, 3) := by decide +kernel
theorem dX6_head_19 : decode cX6_head 19 = .ok (.iload_n 1, 1) := by decide +kernel
theorem dX6_head_20 : decode cX6_head 20 = .ok (.iload_n 2, 1) := by decide +kernel
theorem dX6_head_21 : decode cX6_head 21 = .ok (.invokevirtual 72, 3) := by decide +kernel
theorem dX6_head_24 : decode cX6_head 24 = .ok (.invokevirtual 68, 3) := by decide +kernel
theorem dX6_head_27 : decode cX6_head 27 = .ok (.ireturn, 1) := by decide +kernel
theorem dX6_light_0 : decode cX6_light 0 = .ok (.aload_n 0, 1) := by decide +kernel
theorem dX6_light_1 : decode cX6_light 1 = .ok (.getfield 16, 3) := by decide +kernel
theorem dX6_light_4 : decode cX6_light 4 = .ok (.aload_n 0, 1) := by decide +kernel
theorem dX6_light_5 : decode cX6_light 5 = .ok (.getfield 12, 3) := by decide +kernel
theorem dX6_light_8 : decode cX6_light 8 = .ok (.invokevirtual 54, 3) := by decide +kernel
theorem dX6_light_11 : decode cX6_light 11 = .ok (.aload_n 0, 1) := by decide +kernel
theorem dX6_light_12 : decode cX6_light 12 = .ok (.aload_n 0, 1) := by decide +kernel
theorem dX6_light_13 : decode cX6_light 13 = .ok (.getfield 16, 3) := by decide +kernel
theorem dX6_light_16 : decode cX6_light 16 = .ok (.getfield 75, 3) := by decide +kernel
theorem dX6_light_19 : decode cX6_light 19 = .ok (.iload_n 1, 1) := by decide +kernel
theorem dX6_light_20 : decode cX6_light 20 = .ok (.iload_n 2, 1) := by decide +kernel
theorem dX6_light_21 : decode cX6_light 21 = .ok (.ifCond .eq 7, 3) := by decide +kernel
theorem dX6_light_24 : decode cX6_light 24 = .ok (.iconst 1, 1) := by decide +kernel
theorem dX6_light_25 : decode cX6_light 25 = .ok (.goto 4, 3) := by decide +kernel
theorem dX6_light_28 : decode cX6_light 28 = .ok (.iconst 0, 1) := by decide +kernel
theorem dX6_light_29 : decode cX6_light 29 = .ok (.invokevirtual 79, 3) := by decide +kernel
theorem dX6_light_32 : decode cX6_light 32 = .ok (.invokevirtual 68, 3) := by decide +kernel
theorem dX6_light_35 : decode cX6_light 35 = .ok (.ireturn, 1) := by decide +kernel
theorem dX6_setLamp_0 : decode cX6_setLamp 0 = .ok (.aload_n 0, 1) := by decide +kernel
theorem dX6_setLamp_1 : decode cX6_setLamp 1 = .ok (.getfield 16, 3) := by decide +kernel
theorem dX6_setLamp_4 : decode cX6_setLamp 4 = .ok (.aload_n 0, 1) := by decide +kernel
theorem dX6_setLamp_5 : decode cX6_setLamp 5 = .ok (.getfield 12, 3) := by decide +kernel
theorem dX6_setLamp_8 : decode cX6_setLamp 8 = .ok (.invokevirtual 54, 3) := by decide +kernel
theorem dX6_setLamp_11 : decode cX6_setLamp 11 = .ok (.aload_n 0, 1) := by decide +kernel
theorem dX6_setLamp_12 : decode cX6_setLamp 12 = .ok (.aload_n 0, 1) := by decide +kernel
theorem dX6_setLamp_13 : decode cX6_setLamp 13 = .ok (.getfield 16, 3) := by decide +kernel
theorem dX6_setLamp_16 : decode cX6_setLamp 16 = .ok (.getfield 75, 3) := by decide +kernel
theorem dX6_setLamp_19 : decode cX6_setLamp 19 = .ok (.iload_n 1, 1) := by decide +kernel
theorem dX6_setLamp_20 : decode cX6_setLamp 20 = .ok (.iload_n 2, 1) := by decide +kernel
theorem dX6_setLamp_21 : decode cX6_setLamp 21 = .ok (.iload_n 3, 1) := by decide +kernel
theorem dX6_setLamp_22 : decode cX6_setLamp 22 = .ok (.invokevirtual 84, 3) := by decide +kernel
theorem dX6_setLamp_25 : decode cX6_setLamp 25 = .ok (.invokevirtual 68, 3) := by decide +kernel
theorem dX6_setLamp_28 : decode cX6_setLamp 28 = .ok (.ireturn, 1) := by decide +kernel
theorem dX6_set_0 : decode cX6_set 0 = .ok (.aload_n 0, 1) := by decide +kernel
theorem dX6_set_1 : decode cX6_set 1 = .ok (.getfield 16, 3) := by decide +kernel
theorem dX6_set_4 : decode cX6_set 4 = .ok (.aload_n 0, 1) := by decide +kernel
theorem dX6_set_5 : decode cX6_set 5 = .ok (.getfield 12, 3) := by decide +kernel
theorem dX6_set_8 : decode cX6_set 8 = .ok (.invokevirtual 54, 3) := by decide +kernel
theorem dX6_set_11 : decode cX6_set 11 = .ok (.aload_n 0, 1) := by decide +kernel
theorem dX6_set_12 : decode cX6_set 12 = .ok (.aload_n 0, 1) := by decide +kernel
theorem dX6_set_13 : decode cX6_set 13 = .ok (.getfield 16, 3) := by decide +kernel
theorem dX6_set_16 : decode cX6_set 16 = .ok (.getfield 88, 3) := by decide +kernel
theorem dX6_set_19 : decode cX6_set 19 = .ok (.iload_n 1, 1) := by decide +kernel
theorem dX6_set_20 : decode cX6_set 20 = .ok (.iload_n 2, 1) := by decide +kernel
theorem dX6_set_21 : decode cX6_set 21 = .ok (.iconst 0, 1) := by decide +kernel
theorem dX6_set_22 : decode cX6_set 22 = .ok (.bipush 9, 2) := by decide +kernel
theorem dX6_set_24 : decode cX6_set 24 = .ok (.invokestatic 92, 3) := by decide +kernel
theorem dX6_set_27 : decode cX6_set 27 = .ok (.invokevirtual 68, 3) := by decide +kernel
theorem dX6_set_30 : decode cX6_set 30 = .ok (.ireturn, 1) := by decide +kernel
theorem dX6_pass_0 : decode cX6_pass 0 = .ok (.aload_n 0, 1) := by decide +kernel
theorem dX6_pass_1 : decode cX6_pass 1 = .ok (.getfield 16, 3) := by decide +kernel
theorem dX6_pass_4 : decode cX6_pass 4 = .ok (.aload_n 0, 1) := by decide +kernel
theorem dX6_pass_5 : decode cX6_pass 5 = .ok (.getfield 12, 3) := by decide +kernel
theorem dX6_pass_8 : decode cX6_pass 8 = .ok (.invokevirtual 54, 3) := by decide +kernel
theorem dX6_pass_11 : decode cX6_pass 11 = .ok (.aload_n 0, 1) := by decide +kernel
theorem dX6_pass_12 : decode cX6_pass 12 = .ok (.aload_n 0, 1) := by decide +kernel
theorem dX6_pass_13 : decode cX6_pass 13 = .ok (.getfield 16, 3) := by decide +kernel
theorem dX6_pass_16 : decode cX6_pass 16 = .ok (.iload_n 1, 1) := by decide +kernel
theorem dX6_pass_17 : decode cX6_pass 17 = .ok (.invokevirtual 96, 3) := by decide +kernel
theorem dX6_pass_20 : decode cX6_pass 20 = .ok (.invokevirtual 68, 3) := by decide +kernel
theorem dX6_pass_23 : decode cX6_pass 23 = .ok (.ireturn, 1) := by decide +kernel
theorem dX6_type_0 : decode cX6_type 0 = .ok (.aload_n 0, 1) := by decide +kernel
theorem dX6_type_1 : decode cX6_type 1 = .ok (.getfield 32, 3) := by decide +kernel
theorem dX6_type_4 : decode cX6_type 4 = .ok (.iload_n 1, 1) := by decide +kernel
theorem dX6_type_5 : decode cX6_type 5 = .ok (.invokevirtual 99, 3) := by decide +kernel
theorem dX6_type_8 : decode cX6_type 8 = .ok (.ireturn, 1) := by decide +kernel
theorem dX6_clearText_0 : decode cX6_clearText 0 = .ok (.aload_n 0, 1) := by decide +kernel
theorem dX6_clearText_1 : decode cX6_clearText 1 = .ok (.getfield 32, 3) := by decide +kernel
theorem dX6_clearText_4 : decode cX6_clearText 4 = .ok (.invokevirtual 103, 3) := by decide +kernel
theorem dX6_clearText_7 : decode cX6_clearText 7 = .ok (.ireturn, 1) := by decide +kernel
theorem dX6_perform_0 : decode cX6_perform 0 = .ok (.aload_n 0, 1) := by decide +kernel
theorem dX6_perform_1 : decode cX6_perform 1 = .ok (.getfield 32, 3) := by decide +kernel
theorem dX6_perform_4 : decode cX6_perform 4 = .ok (.invokevirtual 107, 3) := by decide +kernel
theorem dX6_perform_7 : decode cX6_perform 7 = .ok (.istore_n 1, 1) := by decide +kernel
theorem dX6_perform_8 : decode cX6_perform 8 = .ok (.iload_n 1, 1) := by decide +kernel
theorem dX6_perform_9 : decode cX6_perform 9 = .ok (.iconst (-1), 1) := by decide +kernel
theorem dX6_perform_10 : decode cX6_perform 10 = .ok (.if_icmp .eq 8, 3) := by decide +kernel
theorem dX6_perform_13 : decode cX6_perform 13 = .ok (.bipush (-100), 2) := by decide +kernel
theorem dX6_perform_15 : decode cX6_perform 15 = .ok (.iload_n 1, 1) := by decide +kernel
theorem dX6_perform_16 : decode cX6_perform 16 = .ok (.isub, 1) := by decide +kernel
theorem dX6_perform_17 : decode cX6_perform 17 = .ok (.ireturn, 1) := by decide +kernel
theorem dX6_perform_18 : decode cX6_perform 18 = .ok (.aload_n 0, 1) := by decide +kernel
theorem dX6_perform_19 : decode cX6_perform 19 = .ok (.getfield 16, 3) := by decide +kernel
theorem dX6_perform_22 : decode cX6_perform 22 = .ok (.aload_n 0, 1) := by decide +kernel
theorem dX6_perform_23 : decode cX6_perform 23 = .ok (.getfield 12, 3) := by decide +kernel
theorem dX6_perform_26 : decode cX6_perform 26 = .ok (.invokevirtual 54, 3) := by decide +kernel
theorem dX6_perform_29 : decode cX6_perform 29 = .ok (.iconst 0, 1) := by decide +kernel
theorem dX6_perform_30 : decode cX6_perform 30 = .ok (.istore_n 2, 1) := by decide +kernel
theorem dX6_perform_31 : decode cX6_perform 31 = .ok (.iload_n 2, 1) := by decide +kernel
theorem dX6_perform_32 : decode cX6_perform 32 = .ok (.aload_n 0, 1) := by decide +kernel
theorem dX6_perform_33 : decode cX6_perform 33 = .ok (.getfield 32, 3) := by decide +kernel
theorem dX6_perform_36 : decode cX6_perform 36 = .ok (.getfield 110, 3) := by decide +kernel
theorem dX6_perform_39 : decode cX6_perform 39 = .ok (.if_icmp .ge 38, 3) := by decide +kernel
theorem dX6_perform_42 : decode cX6_perform 42 = .ok (.aload_n 0, 1) := by decide +kernel
theorem dX6_perform_43 : decode cX6_perform 43 = .ok (.iload_n 2, 1) := by decide +kernel
theorem dX6_perform_44 : decode cX6_perform 44 = .ok (.invokevirtual 113, 3) := by decide +kernel
theorem dX6_perform_47 : decode cX6_perform 47 = .ok (.istore_n 3, 1) := by decide +kernel
theorem dX6_perform_48 : decode cX6_perform 48 = .ok (.iload_n 3, 1) := by decide +kernel
theorem dX6_perform_49 : decode cX6_perform 49 = .ok (.ifCond .ge 22, 3) := by decide +kernel
theorem dX6_perform_52 : decode cX6_perform 52 = .ok (.iload_n 3, 1) := by decide +kernel
theorem dX6_perform_53 : decode cX6_perform 53 = .ok (.bipush (-5), 2) := by decide +kernel
theorem dX6_perform_55 : decode cX6_perform 55 = .ok (.if_icmp .eq 16, 3) := by decide +kernel
theorem dX6_perform_58 : decode cX6_perform 58 = .ok (.aload_n 0, 1) := by decide +kernel
theorem dX6_perform_59 : decode cX6_perform 59 = .ok (.iload_n 2, 1) := by decide +kernel
theorem dX6_perform_60 : decode cX6_perform 60 = .ok (.putfield 47, 3) := by decide +kernel
theorem dX6_perform_63 : decode cX6_perform 63 = .ok (.aload_n 0, 1) := by decide +kernel
theorem dX6_perform_64 : decode cX6_perform 64 = .ok (.iload_n 3, 1) := by decide +kernel
theorem dX6_perform_65 : decode cX6_perform 65 = .ok (.putfield 51, 3) := by decide +kernel
theorem dX6_perform_68 : decode cX6_perform 68 = .ok (.bipush (-4), 2) := by decide +kernel
theorem dX6_perform_70 : decode cX6_perform 70 = .ok (.ireturn, 1) := by decide +kernel
theorem dX6_perform_71 : decode cX6_perform 71 = .ok (.iinc 2 1, 3) := by decide +kernel
theorem dX6_perform_74 : decode cX6_perform 74 = .ok (.goto (-43), 3) := by decide +kernel
theorem dX6_perform_77 : decode cX6_perform 77 = .ok (.aload_n 0, 1) := by decide +kernel
theorem dX6_perform_78 : decode cX6_perform 78 = .ok (.aload_n 0, 1) := by decide +kernel
theorem dX6_perform_79 : decode cX6_perform 79 = .ok (.getfield 32, 3) := by decide +kernel
theorem dX6_perform_82 : decode cX6_perform 82 = .ok (.getfield 110, 3) := by decide +kernel
theorem dX6_perform_85 : decode cX6_perform 85 = .ok (.invokevirtual 68, 3) := by decide +kernel
theorem dX6_perform_88 : decode cX6_perform 88 = .ok (.ireturn, 1) := by decide +kernel
theorem dX6_stopped_0 : decode cX6_stopped 0 = .ok (.iload_n 1, 1) := by decide +kernel
theorem dX6_stopped_1 : decode cX6_stopped 1 = .ok (.lookupswitch 37 #[(0, 27), (1, 32)], 27) := by decide +kernel
theorem dX6_stopped_28 : decode cX6_stopped 28 = .ok (.aload_n 0, 1) := by decide +kernel
theorem dX6_stopped_29 : decode cX6_stopped 29 = .ok (.getfield 47, 3) := by decide +kernel
theorem dX6_stopped_32 : decode cX6_stopped 32 = .ok (.ireturn, 1) := by decide +kernel
theorem dX6_stopped_33 : decode cX6_stopped 33 = .ok (.aload_n 0, 1) := by decide +kernel
theorem dX6_stopped_34 : decode cX6_stopped 34 = .ok (.getfield 51, 3) := by decide +kernel
theorem dX6_stopped_37 : decode cX6_stopped 37 = .ok (.ireturn, 1) := by decide +kernel
theorem dX6_stopped_38 : decode cX6_stopped 38 = .ok (.bipush (-2), 2) := by decide +kernel
theorem dX6_stopped_40 : decode cX6_stopped 40 = .ok (.ireturn, 1) := by decide +kernel
theorem dX6_undo_0 : decode cX6_undo 0 = .ok (.aload_n 0, 1) := by decide +kernel
theorem dX6_undo_1 : decode cX6_undo 1 = .ok (.getfield 25, 3) := by decide +kernel
theorem dX6_undo_4 : decode cX6_undo 4 = .ok (.aload_n 0, 1) := by decide +kernel
theorem dX6_undo_5 : decode cX6_undo 5 = .ok (.getfield 12, 3) := by decide +kernel
theorem dX6_undo_8 : decode cX6_undo 8 = .ok (.invokevirtual 116, 3) := by decide +kernel
theorem dX6_undo_11 : decode cX6_undo 11 = .ok (.ifCond .eq 13, 3) := by decide +kernel
theorem dX6_undo_14 : decode cX6_undo 14 = .ok (.aload_n 0, 1) := by decide +kernel
theorem dX6_undo_15 : decode cX6_undo 15 = .ok (.getfield 25, 3) := by decide +kernel
theorem dX6_undo_18 : decode cX6_undo 18 = .ok (.getfield 120, 3) := by decide +kernel
theorem dX6_undo_21 : decode cX6_undo 21 = .ok (.goto 5, 3) := by decide +kernel
theorem dX6_undo_24 : decode cX6_undo 24 = .ok (.bipush (-5), 2) := by decide +kernel
theorem dX6_undo_26 : decode cX6_undo 26 = .ok (.ireturn, 1) := by decide +kernel
theorem dX6_keep_0 : decode cX6_keep 0 = .ok (.aload_n 0, 1) := by decide +kernel
theorem dX6_keep_1 : decode cX6_keep 1 = .ok (.getfield 19, 3) := by decide +kernel
theorem dX6_keep_4 : decode cX6_keep 4 = .ok (.aload_n 0, 1) := by decide +kernel
theorem dX6_keep_5 : decode cX6_keep 5 = .ok (.getfield 12, 3) := by decide +kernel
theorem dX6_keep_8 : decode cX6_keep 8 = .ok (.invokevirtual 54, 3) := by decide +kernel
theorem dX6_keep_11 : decode cX6_keep 11 = .ok (.aload_n 0, 1) := by decide +kernel
theorem dX6_keep_12 : decode cX6_keep 12 = .ok (.iconst 1, 1) := by decide +kernel
theorem dX6_keep_13 : decode cX6_keep 13 = .ok (.putfield 43, 3) := by decide +kernel
theorem dX6_keep_16 : decode cX6_keep 16 = .ok (.aload_n 0, 1) := by decide +kernel
theorem dX6_keep_17 : decode cX6_keep 17 = .ok (.getfield 12, 3) := by decide +kernel
theorem dX6_keep_20 : decode cX6_keep 20 = .ok (.getfield 58, 3) := by decide +kernel
theorem dX6_keep_23 : decode cX6_keep 23 = .ok (.getfield 123, 3) := by decide +kernel
theorem dX6_keep_26 : decode cX6_keep 26 = .ok (.ireturn, 1) := by decide +kernel
theorem dX6_restore_0 : decode cX6_restore 0 = .ok (.aload_n 0, 1) := by decide +kernel
theorem dX6_restore_1 : decode cX6_restore 1 = .ok (.getfield 43, 3) := by decide +kernel
theorem dX6_restore_4 : decode cX6_restore 4 = .ok (.ifCond .ne 6, 3) := by decide +kernel
theorem dX6_restore_7 : decode cX6_restore 7 = .ok (.bipush (-5), 2) := by decide +kernel
theorem dX6_restore_9 : decode cX6_restore 9 = .ok (.ireturn, 1) := by decide +kernel
theorem dX6_restore_10 : decode cX6_restore 10 = .ok (.aload_n 0, 1) := by decide +kernel
theorem dX6_restore_11 : decode cX6_restore 11 = .ok (.getfield 16, 3) := by decide +kernel
theorem dX6_restore_14 : decode cX6_restore 14 = .ok (.aload_n 0, 1) := by decide +kernel
theorem dX6_restore_15 : decode cX6_restore 15 = .ok (.getfield 19, 3) := by decide +kernel
theorem dX6_restore_18 : decode cX6_restore 18 = .ok (.invokevirtual 54, 3) := by decide +kernel
theorem dX6_restore_21 : decode cX6_restore 21 = .ok (.aload_n 0, 1) := by decide +kernel
theorem dX6_restore_22 : decode cX6_restore 22 = .ok (.aload_n 0, 1) := by decide +kernel
theorem dX6_restore_23 : decode cX6_restore 23 = .ok (.getfield 16, 3) := by decide +kernel
theorem dX6_restore_26 : decode cX6_restore 26 = .ok (.getfield 58, 3) := by decide +kernel
theorem dX6_restore_29 : decode cX6_restore 29 = .ok (.getfield 123, 3) := by decide +kernel
theorem dX6_restore_32 : decode cX6_restore 32 = .ok (.invokevirtual 68, 3) := by decide +kernel
theorem dX6_restore_35 : decode cX6_restore 35 = .ok (.ireturn, 1) := by decide +kernel
theorem dX6_runner_0 : decode cX6_runner 0 = .ok (.aload_n 0, 1) := by decide +kernel
theorem dX6_runner_1 : decode cX6_runner 1 = .ok (.getfield 12, 3) := by decide +kernel
theorem dX6_runner_4 : decode cX6_runner 4 = .ok (.getfield 58, 3) := by decide +kernel
theorem dX6_runner_7 : decode cX6_runner 7 = .ok (.astore_n 3, 1) := by decide +kernel
theorem dX6_runner_8 : decode cX6_runner 8 = .ok (.aload_n 3, 1) := by decide +kernel
theorem dX6_runner_9 : decode cX6_runner 9 = .ok (.iload_n 1, 1) := by decide +kernel
theorem dX6_runner_10 : decode cX6_runner 10 = .ok (.invokevirtual 126, 3) := by decide +kernel
theorem dX6_runner_13 : decode cX6_runner 13 = .ok (.ifCond .ne 5, 3) := by decide +kernel
theorem dX6_runner_16 : decode cX6_runner 16 = .ok (.iconst (-1), 1) := by decide +kernel
theorem dX6_runner_17 : decode cX6_runner 17 = .ok (.ireturn, 1) := by decide +kernel
theorem dX6_runner_18 : decode cX6_runner 18 = .ok (.iload_n 2, 1) := by decide +kernel
theorem dX6_runner_19 : decode cX6_runner 19 = .ok (.tableswitch 100 0 7 #[45, 52, 59, 66, 73, 80, 87, 94], 45) := by decide +kernel
theorem dX6_runner_64 : decode cX6_runner 64 = .ok (.aload_n 3, 1) := by decide +kernel
theorem dX6_runner_65 : decode cX6_runner 65 = .ok (.getfield 130, 3) := by decide +kernel
theorem dX6_runner_68 : decode cX6_runner 68 = .ok (.iload_n 1, 1) := by decide +kernel
theorem dX6_runner_69 : decode cX6_runner 69 = .ok (.iaload, 1) := by decide +kernel
theorem dX6_runner_70 : decode cX6_runner 70 = .ok (.ireturn, 1) := by decide +kernel
theorem dX6_runner_71 : decode cX6_runner 71 = .ok (.aload_n 3, 1) := by decide +kernel
theorem dX6_runner_72 : decode cX6_runner 72 = .ok (.getfield 133, 3) := by decide +kernel
theorem dX6_runner_75 : decode cX6_runner 75 = .ok (.iload_n 1, 1) := by decide +kernel
theorem dX6_runner_76 : decode cX6_runner 76 = .ok (.iaload, 1) := by decide +kernel
theorem dX6_runner_77 : decode cX6_runner 77 = .ok (.ireturn, 1) := by decide +kernel
theorem dX6_runner_78 : decode cX6_runner 78 = .ok (.aload_n 3, 1) := by decide +kernel
theorem dX6_runner_79 : decode cX6_runner 79 = .ok (.getfield 136, 3) := by decide +kernel
theorem dX6_runner_82 : decode cX6_runner 82 = .ok (.iload_n 1, 1) := by decide +kernel
theorem dX6_runner_83 : decode cX6_runner 83 = .ok (.iaload, 1) := by decide +kernel
theorem dX6_runner_84 : decode cX6_runner 84 = .ok (.ireturn, 1) := by decide +kernel
theorem dX6_runner_85 : decode cX6_runner 85 = .ok (.aload_n 3, 1) := by decide +kernel
theorem dX6_runner_86 : decode cX6_runner 86 = .ok (.getfield 139, 3) := by decide +kernel
theorem dX6_runner_89 : decode cX6_runner 89 = .ok (.iload_n 1, 1) := by decide +kernel
theorem dX6_runner_90 : decode cX6_runner 90 = .ok (.iaload, 1) := by decide +kernel
theorem dX6_runner_91 : decode cX6_runner 91 = .ok (.ireturn, 1) := by decide +kernel
theorem dX6_runner_92 : decode cX6_runner 92 = .ok (.aload_n 3, 1) := by decide +kernel
theorem dX6_runner_93 : decode cX6_runner 93 = .ok (.getfield 142, 3) := by decide +kernel
theorem dX6_runner_96 : decode cX6_runner 96 = .ok (.iload_n 1, 1) := by decide +kernel
theorem dX6_runner_97 : decode cX6_runner 97 = .ok (.iaload, 1) := by decide +kernel
theorem dX6_runner_98 : decode cX6_runner 98 = .ok (.ireturn, 1) := by decide +kernel
theorem dX6_runner_99 : decode cX6_runner 99 = .ok (.aload_n 3, 1) := by decide +kernel
theorem dX6_runner_100 : decode cX6_runner 100 = .ok (.getfield 145, 3) := by decide +kernel
theorem dX6_runner_103 : decode cX6_runner 103 = .ok (.iload_n 1, 1) := by decide +kernel
theorem dX6_runner_104 : decode cX6_runner 104 = .ok (.iaload, 1) := by decide +kernel
theorem dX6_runner_105 : decode cX6_runner 105 = .ok (.ireturn, 1) := by decide +kernel
theorem dX6_runner_106 : decode cX6_runner 106 = .ok (.aload_n 3, 1) := by decide +kernel
theorem dX6_runner_107 : decode cX6_runner 107 = .ok (.getfield 148, 3) := by decide +kernel
theorem dX6_runner_110 : decode cX6_runner 110 = .ok (.iload_n 1, 1) := by decide +kernel
theorem dX6_runner_111 : decode cX6_runner 111 = .ok (.iaload, 1) := by decide +kernel
theorem dX6_runner_112 : decode cX6_runner 112 = .ok (.ireturn, 1) := by decide +kernel
theorem dX6_runner_113 : decode cX6_runner 113 = .ok (.aload_n 0, 1) := by decide +kernel
theorem dX6_runner_114 : decode cX6_runner 114 = .ok (.iload_n 1, 1) := by decide +kernel
theorem dX6_runner_115 : decode cX6_runner 115 = .ok (.invokevirtual 151, 3) := by decide +kernel
theorem dX6_runner_118 : decode cX6_runner 118 = .ok (.ireturn, 1) := by decide +kernel
theorem dX6_runner_119 : decode cX6_runner 119 = .ok (.bipush (-2), 2) := by decide +kernel
theorem dX6_runner_121 : decode cX6_runner 121 = .ok (.ireturn, 1) := by decide +kernel
theorem dX6_lamp_0 : decode cX6_lamp 0 = .ok (.aload_n 0, 1) := by decide +kernel
theorem dX6_lamp_1 : decode cX6_lamp 1 = .ok (.getfield 12, 3) := by decide +kernel
theorem dX6_lamp_4 : decode cX6_lamp 4 = .ok (.getfield 75, 3) := by decide +kernel
theorem dX6_lamp_7 : decode cX6_lamp 7 = .ok (.astore_n 3, 1) := by decide +kernel
theorem dX6_lamp_8 : decode cX6_lamp 8 = .ok (.iload_n 1, 1) := by decide +kernel
theorem dX6_lamp_9 : decode cX6_lamp 9 = .ok (.invokestatic 154, 3) := by decide +kernel
theorem dX6_lamp_12 : decode cX6_lamp 12 = .ok (.ifCond .ne 5, 3) := by decide +kernel
theorem dX6_lamp_15 : decode cX6_lamp 15 = .ok (.iconst (-1), 1) := by decide +kernel
theorem dX6_lamp_16 : decode cX6_lamp 16 = .ok (.ireturn, 1) := by decide +kernel
theorem dX6_lamp_17 : decode cX6_lamp 17 = .ok (.iload_n 2, 1) := by decide +kernel
theorem dX6_lamp_18 : decode cX6_lamp 18 = .ok (.tableswitch 68 0 4 #[34, 41, 48, 55, 62], 34) := by decide +kernel
theorem dX6_lamp_52 : decode cX6_lamp 52 = .ok (.aload_n 3, 1) := by decide +kernel
theorem dX6_lamp_53 : decode cX6_lamp 53 = .ok (.getfield 157, 3) := by decide +kernel
theorem dX6_lamp_56 : decode cX6_lamp 56 = .ok (.iload_n 1, 1) := by decide +kernel
theorem dX6_lamp_57 : decode cX6_lamp 57 = .ok (.iaload, 1) := by decide +kernel
theorem dX6_lamp_58 : decode cX6_lamp 58 = .ok (.ireturn, 1) := by decide +kernel
theorem dX6_lamp_59 : decode cX6_lamp 59 = .ok (.aload_n 3, 1) := by decide +kernel
theorem dX6_lamp_60 : decode cX6_lamp 60 = .ok (.getfield 160, 3) := by decide +kernel
theorem dX6_lamp_63 : decode cX6_lamp 63 = .ok (.iload_n 1, 1) := by decide +kernel
theorem dX6_lamp_64 : decode cX6_lamp 64 = .ok (.iaload, 1) := by decide +kernel
theorem dX6_lamp_65 : decode cX6_lamp 65 = .ok (.ireturn, 1) := by decide +kernel
theorem dX6_lamp_66 : decode cX6_lamp 66 = .ok (.aload_n 3, 1) := by decide +kernel
theorem dX6_lamp_67 : decode cX6_lamp 67 = .ok (.getfield 163, 3) := by decide +kernel
theorem dX6_lamp_70 : decode cX6_lamp 70 = .ok (.iload_n 1, 1) := by decide +kernel
theorem dX6_lamp_71 : decode cX6_lamp 71 = .ok (.iaload, 1) := by decide +kernel
theorem dX6_lamp_72 : decode cX6_lamp 72 = .ok (.ireturn, 1) := by decide +kernel
theorem dX6_lamp_73 : decode cX6_lamp 73 = .ok (.aload_n 3, 1) := by decide +kernel
theorem dX6_lamp_74 : decode cX6_lamp 74 = .ok (.getfield 166, 3) := by decide +kernel
theorem dX6_lamp_77 : decode cX6_lamp 77 = .ok (.iload_n 1, 1) := by decide +kernel
theorem dX6_lamp_78 : decode cX6_lamp 78 = .ok (.iaload, 1) := by decide +kernel
theorem dX6_lamp_79 : decode cX6_lamp 79 = .ok (.ireturn, 1) := by decide +kernel
theorem dX6_lamp_80 : decode cX6_lamp 80 = .ok (.aload_n 0, 1) := by decide +kernel
theorem dX6_lamp_81 : decode cX6_lamp 81 = .ok (.iload_n 1, 1) := by decide +kernel
theorem dX6_lamp_82 : decode cX6_lamp 82 = .ok (.invokevirtual 169, 3) := by decide +kernel
theorem dX6_lamp_85 : decode cX6_lamp 85 = .ok (.ireturn, 1) := by decide +kernel
theorem dX6_lamp_86 : decode cX6_lamp 86 = .ok (.bipush (-2), 2) := by decide +kernel
theorem dX6_lamp_88 : decode cX6_lamp 88 = .ok (.ireturn, 1) := by decide +kernel
theorem dX6_shadow_0 : decode cX6_shadow 0 = .ok (.aload_n 0, 1) := by decide +kernel
theorem dX6_shadow_1 : decode cX6_shadow 1 = .ok (.getfield 12, 3) := by decide +kernel
theorem dX6_shadow_4 : decode cX6_shadow 4 = .ok (.getfield 58, 3) := by decide +kernel
theorem dX6_shadow_7 : decode cX6_shadow 7 = .ok (.iload_n 1, 1) := by decide +kernel
theorem dX6_shadow_8 : decode cX6_shadow 8 = .ok (.invokevirtual 126, 3) := by decide +kernel
theorem dX6_shadow_11 : decode cX6_shadow 11 = .ok (.ifCond .eq 10, 3) := by decide +kernel
theorem dX6_shadow_14 : decode cX6_shadow 14 = .ok (.iload_n 2, 1) := by decide +kernel
theorem dX6_shadow_15 : decode cX6_shadow 15 = .ok (.invokestatic 154, 3) := by decide +kernel
theorem dX6_shadow_18 : decode cX6_shadow 18 = .ok (.ifCond .ne 5, 3) := by decide +kernel
theorem dX6_shadow_21 : decode cX6_shadow 21 = .ok (.iconst (-1), 1) := by decide +kernel
theorem dX6_shadow_22 : decode cX6_shadow 22 = .ok (.ireturn, 1) := by decide +kernel
theorem dX6_shadow_23 : decode cX6_shadow 23 = .ok (.iload_n 3, 1) := by decide +kernel
theorem dX6_shadow_24 : decode cX6_shadow 24 = .ok (.tableswitch 68 0 2 #[28, 38, 48], 28) := by decide +kernel
theorem dX6_shadow_52 : decode cX6_shadow 52 = .ok (.aload_n 0, 1) := by decide +kernel
theorem dX6_shadow_53 : decode cX6_shadow 53 = .ok (.getfield 12, 3) := by decide +kernel
theorem dX6_shadow_56 : decode cX6_shadow 56 = .ok (.iload_n 1, 1) := by decide +kernel
theorem dX6_shadow_57 : decode cX6_shadow 57 = .ok (.iload_n 2, 1) := by decide +kernel
theorem dX6_shadow_58 : decode cX6_shadow 58 = .ok (.invokevirtual 172, 3) := by decide +kernel
theorem dX6_shadow_61 : decode cX6_shadow 61 = .ok (.ireturn, 1) := by decide +kernel
theorem dX6_shadow_62 : decode cX6_shadow 62 = .ok (.aload_n 0, 1) := by decide +kernel
theorem dX6_shadow_63 : decode cX6_shadow 63 = .ok (.getfield 12, 3) := by decide +kernel
theorem dX6_shadow_66 : decode cX6_shadow 66 = .ok (.iload_n 1, 1) := by decide +kernel
theorem dX6_shadow_67 : decode cX6_shadow 67 = .ok (.iload_n 2, 1) := by decide +kernel
theorem dX6_shadow_68 : decode cX6_shadow 68 = .ok (.invokevirtual 175, 3) := by decide +kernel
theorem dX6_shadow_71 : decode cX6_shadow 71 = .ok (.ireturn, 1) := by decide +kernel
theorem dX6_shadow_72 : decode cX6_shadow 72 = .ok (.aload_n 0, 1) := by decide +kernel
theorem dX6_shadow_73 : decode cX6_shadow 73 = .ok (.getfield 12, 3) := by decide +kernel
theorem dX6_shadow_76 : decode cX6_shadow 76 = .ok (.getfield 58, 3) := by decide +kernel
theorem dX6_shadow_79 : decode cX6_shadow 79 = .ok (.aload_n 0, 1) := by decide +kernel
theorem dX6_shadow_80 : decode cX6_shadow 80 = .ok (.getfield 12, 3) := by decide +kernel
theorem dX6_shadow_83 : decode cX6_shadow 83 = .ok (.iload_n 1, 1) := by decide +kernel
theorem dX6_shadow_84 : decode cX6_shadow 84 = .ok (.iload_n 2, 1) := by decide +kernel
theorem dX6_shadow_85 : decode cX6_shadow 85 = .ok (.invokevirtual 175, 3) := by decide +kernel
theorem dX6_shadow_88 : decode cX6_shadow 88 = .ok (.invokevirtual 178, 3) := by decide +kernel
theorem dX6_shadow_91 : decode cX6_shadow 91 = .ok (.ireturn, 1) := by decide +kernel
theorem dX6_shadow_92 : decode cX6_shadow 92 = .ok (.bipush (-2), 2) := by decide +kernel
theorem dX6_shadow_94 : decode cX6_shadow 94 = .ok (.ireturn, 1) := by decide +kernel
theorem dX6_darkness_0 : decode cX6_darkness 0 = .ok (.iload_n 1, 1) := by decide +kernel
theorem dX6_darkness_1 : decode cX6_darkness 1 = .ok (.invokestatic 181, 3) := by decide +kernel
theorem dX6_darkness_4 : decode cX6_darkness 4 = .ok (.ifCond .ne 5, 3) := by decide +kernel
theorem dX6_darkness_7 : decode cX6_darkness 7 = .ok (.iconst (-1), 1) := by decide +kernel
theorem dX6_darkness_8 : decode cX6_darkness 8 = .ok (.ireturn, 1) := by decide +kernel
theorem dX6_darkness_9 : decode cX6_darkness 9 = .ok (.iconst 0, 1) := by decide +kernel
theorem dX6_darkness_10 : decode cX6_darkness 10 = .ok (.istore_n 2, 1) := by decide +kernel
theorem dX6_darkness_11 : decode cX6_darkness 11 = .ok (.iconst 0, 1) := by decide +kernel
theorem dX6_darkness_12 : decode cX6_darkness 12 = .ok (.istore_n 3, 1) := by decide +kernel
theorem dX6_darkness_13 : decode cX6_darkness 13 = .ok (.iload_n 3, 1) := by decide +kernel
theorem dX6_darkness_14 : decode cX6_darkness 14 = .ok (.aload_n 0, 1) := by decide +kernel
theorem dX6_darkness_15 : decode cX6_darkness 15 = .ok (.getfield 12, 3) := by decide +kernel
theorem dX6_darkness_18 : decode cX6_darkness 18 = .ok (.getfield 58, 3) := by decide +kernel
theorem dX6_darkness_21 : decode cX6_darkness 21 = .ok (.getfield 123, 3) := by decide +kernel
theorem dX6_darkness_24 : decode cX6_darkness 24 = .ok (.if_icmp .ge 41, 3) := by decide +kernel
theorem dX6_darkness_27 : decode cX6_darkness 27 = .ok (.iconst 0, 1) := by decide +kernel
theorem dX6_darkness_28 : decode cX6_darkness 28 = .ok (.istore 4, 2) := by decide +kernel
theorem dX6_darkness_30 : decode cX6_darkness 30 = .ok (.iload 4, 2) := by decide +kernel
theorem dX6_darkness_32 : decode cX6_darkness 32 = .ok (.iconst 3, 1) := by decide +kernel
theorem dX6_darkness_33 : decode cX6_darkness 33 = .ok (.if_icmp .ge 26, 3) := by decide +kernel
theorem dX6_darkness_36 : decode cX6_darkness 36 = .ok (.aload_n 0, 1) := by decide +kernel
theorem dX6_darkness_37 : decode cX6_darkness 37 = .ok (.getfield 12, 3) := by decide +kernel
theorem dX6_darkness_40 : decode cX6_darkness 40 = .ok (.iload_n 1, 1) := by decide +kernel
theorem dX6_darkness_41 : decode cX6_darkness 41 = .ok (.iload_n 3, 1) := by decide +kernel
theorem dX6_darkness_42 : decode cX6_darkness 42 = .ok (.iload 4, 2) := by decide +kernel
theorem dX6_darkness_44 : decode cX6_darkness 44 = .ok (.invokevirtual 184, 3) := by decide +kernel
theorem dX6_darkness_47 : decode cX6_darkness 47 = .ok (.ifCond .eq 6, 3) := by decide +kernel
theorem dX6_darkness_50 : decode cX6_darkness 50 = .ok (.iinc 2 1, 3) := by decide +kernel
theorem dX6_darkness_53 : decode cX6_darkness 53 = .ok (.iinc 4 1, 3) := by decide +kernel
theorem dX6_darkness_56 : decode cX6_darkness 56 = .ok (.goto (-26), 3) := by decide +kernel
theorem dX6_darkness_59 : decode cX6_darkness 59 = .ok (.iinc 3 1, 3) := by decide +kernel
theorem dX6_darkness_62 : decode cX6_darkness 62 = .ok (.goto (-49), 3) := by decide +kernel
theorem dX6_darkness_65 : decode cX6_darkness 65 = .ok (.iload_n 2, 1) := by decide +kernel
theorem dX6_darkness_66 : decode cX6_darkness 66 = .ok (.ireturn, 1) := by decide +kernel
theorem dX6_looked_0 : decode cX6_looked 0 = .ok (.iload_n 1, 1) := by decide +kernel
theorem dX6_looked_1 : decode cX6_looked 1 = .ok (.invokestatic 181, 3) := by decide +kernel
theorem dX6_looked_4 : decode cX6_looked 4 = .ok (.ifCond .ne 5, 3) := by decide +kernel
theorem dX6_looked_7 : decode cX6_looked 7 = .ok (.iconst (-1), 1) := by decide +kernel
theorem dX6_looked_8 : decode cX6_looked 8 = .ok (.ireturn, 1) := by decide +kernel
theorem dX6_looked_9 : decode cX6_looked 9 = .ok (.iconst 0, 1) := by decide +kernel
theorem dX6_looked_10 : decode cX6_looked 10 = .ok (.istore_n 2, 1) := by decide +kernel
theorem dX6_looked_11 : decode cX6_looked 11 = .ok (.iconst 0, 1) := by decide +kernel
theorem dX6_looked_12 : decode cX6_looked 12 = .ok (.istore_n 3, 1) := by decide +kernel
theorem dX6_looked_13 : decode cX6_looked 13 = .ok (.iload_n 3, 1) := by decide +kernel
theorem dX6_looked_14 : decode cX6_looked 14 = .ok (.iconst 3, 1) := by decide +kernel
theorem dX6_looked_15 : decode cX6_looked 15 = .ok (.if_icmp .ge 26, 3) := by decide +kernel
theorem dX6_looked_18 : decode cX6_looked 18 = .ok (.aload_n 0, 1) := by decide +kernel
theorem dX6_looked_19 : decode cX6_looked 19 = .ok (.getfield 12, 3) := by decide +kernel
theorem dX6_looked_22 : decode cX6_looked 22 = .ok (.iload_n 1, 1) := by decide +kernel
theorem dX6_looked_23 : decode cX6_looked 23 = .ok (.iload_n 3, 1) := by decide +kernel
theorem dX6_looked_24 : decode cX6_looked 24 = .ok (.invokevirtual 188, 3) := by decide +kernel
theorem dX6_looked_27 : decode cX6_looked 27 = .ok (.bipush (-5), 2) := by decide +kernel
theorem dX6_looked_29 : decode cX6_looked 29 = .ok (.if_icmp .eq 6, 3) := by decide +kernel
theorem dX6_looked_32 : decode cX6_looked 32 = .ok (.iinc 2 1, 3) := by decide +kernel
theorem dX6_looked_35 : decode cX6_looked 35 = .ok (.iinc 3 1, 3) := by decide +kernel
theorem dX6_looked_38 : decode cX6_looked 38 = .ok (.goto (-25), 3) := by decide +kernel
theorem dX6_looked_41 : decode cX6_looked 41 = .ok (.iload_n 2, 1) := by decide +kernel
theorem dX6_looked_42 : decode cX6_looked 42 = .ok (.ireturn, 1) := by decide +kernel
theorem dX6_at_0 : decode cX6_at 0 = .ok (.iload_n 1, 1) := by decide +kernel
theorem dX6_at_1 : decode cX6_at 1 = .ok (.invokestatic 181, 3) := by decide +kernel
theorem dX6_at_4 : decode cX6_at 4 = .ok (.ifCond .eq 17, 3) := by decide +kernel
theorem dX6_at_7 : decode cX6_at 7 = .ok (.aload_n 0, 1) := by decide +kernel
theorem dX6_at_8 : decode cX6_at 8 = .ok (.getfield 12, 3) := by decide +kernel
theorem dX6_at_11 : decode cX6_at 11 = .ok (.getfield 58, 3) := by decide +kernel
theorem dX6_at_14 : decode cX6_at 14 = .ok (.iload_n 1, 1) := by decide +kernel
theorem dX6_at_15 : decode cX6_at 15 = .ok (.invokevirtual 178, 3) := by decide +kernel
theorem dX6_at_18 : decode cX6_at 18 = .ok (.goto 4, 3) := by decide +kernel
theorem dX6_at_21 : decode cX6_at 21 = .ok (.iconst (-1), 1) := by decide +kernel
theorem dX6_at_22 : decode cX6_at 22 = .ok (.ireturn, 1) := by decide +kernel
theorem dX6_reason_0 : decode cX6_reason 0 = .ok (.aload_n 0, 1) := by decide +kernel
theorem dX6_reason_1 : decode cX6_reason 1 = .ok (.getfield 12, 3) := by decide +kernel
theorem dX6_reason_4 : decode cX6_reason 4 = .ok (.getfield 58, 3) := by decide +kernel
theorem dX6_reason_7 : decode cX6_reason 7 = .ok (.astore_n 2, 1) := by decide +kernel
theorem dX6_reason_8 : decode cX6_reason 8 = .ok (.aload_n 2, 1) := by decide +kernel
theorem dX6_reason_9 : decode cX6_reason 9 = .ok (.iload_n 1, 1) := by decide +kernel
theorem dX6_reason_10 : decode cX6_reason 10 = .ok (.invokevirtual 126, 3) := by decide +kernel
theorem dX6_reason_13 : decode cX6_reason 13 = .ok (.ifCond .ne 5, 3) := by decide +kernel
theorem dX6_reason_16 : decode cX6_reason 16 = .ok (.iconst (-1), 1) := by decide +kernel
theorem dX6_reason_17 : decode cX6_reason 17 = .ok (.ireturn, 1) := by decide +kernel
theorem dX6_reason_18 : decode cX6_reason 18 = .ok (.iload_n 1, 1) := by decide +kernel
theorem dX6_reason_19 : decode cX6_reason 19 = .ok (.aload_n 2, 1) := by decide +kernel
theorem dX6_reason_20 : decode cX6_reason 20 = .ok (.getfield 191, 3) := by decide +kernel
theorem dX6_reason_23 : decode cX6_reason 23 = .ok (.if_icmp .ne 5, 3) := by decide +kernel
theorem dX6_reason_26 : decode cX6_reason 26 = .ok (.iconst 1, 1) := by decide +kernel
theorem dX6_reason_27 : decode cX6_reason 27 = .ok (.ireturn, 1) := by decide +kernel
theorem dX6_reason_28 : decode cX6_reason 28 = .ok (.aload_n 0, 1) := by decide +kernel
theorem dX6_reason_29 : decode cX6_reason 29 = .ok (.getfield 12, 3) := by decide +kernel
theorem dX6_reason_32 : decode cX6_reason 32 = .ok (.iload_n 1, 1) := by decide +kernel
theorem dX6_reason_33 : decode cX6_reason 33 = .ok (.invokevirtual 194, 3) := by decide +kernel
theorem dX6_reason_36 : decode cX6_reason 36 = .ok (.ifCond .ne 5, 3) := by decide +kernel
theorem dX6_reason_39 : decode cX6_reason 39 = .ok (.iconst 2, 1) := by decide +kernel
theorem dX6_reason_40 : decode cX6_reason 40 = .ok (.ireturn, 1) := by decide +kernel
theorem dX6_reason_41 : decode cX6_reason 41 = .ok (.aload_n 2, 1) := by decide +kernel
theorem dX6_reason_42 : decode cX6_reason 42 = .ok (.getfield 139, 3) := by decide +kernel
theorem dX6_reason_45 : decode cX6_reason 45 = .ok (.iload_n 1, 1) := by decide +kernel
theorem dX6_reason_46 : decode cX6_reason 46 = .ok (.iaload, 1) := by decide +kernel
theorem dX6_reason_47 : decode cX6_reason 47 = .ok (.ifCond .eq 5, 3) := by decide +kernel
theorem dX6_reason_50 : decode cX6_reason 50 = .ok (.iconst 3, 1) := by decide +kernel
theorem dX6_reason_51 : decode cX6_reason 51 = .ok (.ireturn, 1) := by decide +kernel
theorem dX6_reason_52 : decode cX6_reason 52 = .ok (.aload_n 0, 1) := by decide +kernel
theorem dX6_reason_53 : decode cX6_reason 53 = .ok (.getfield 12, 3) := by decide +kernel
theorem dX6_reason_56 : decode cX6_reason 56 = .ok (.iload_n 1, 1) := by decide +kernel
theorem dX6_reason_57 : decode cX6_reason 57 = .ok (.invokevirtual 197, 3) := by decide +kernel
theorem dX6_reason_60 : decode cX6_reason 60 = .ok (.ifCond .ne 5, 3) := by decide +kernel
theorem dX6_reason_63 : decode cX6_reason 63 = .ok (.iconst 4, 1) := by decide +kernel
theorem dX6_reason_64 : decode cX6_reason 64 = .ok (.ireturn, 1) := by decide +kernel
theorem dX6_reason_65 : decode cX6_reason 65 = .ok (.aload_n 0, 1) := by decide +kernel
theorem dX6_reason_66 : decode cX6_reason 66 = .ok (.getfield 12, 3) := by decide +kernel
theorem dX6_reason_69 : decode cX6_reason 69 = .ok (.invokevirtual 200, 3) := by decide +kernel
theorem dX6_reason_72 : decode cX6_reason 72 = .ok (.iload_n 1, 1) := by decide +kernel
theorem dX6_reason_73 : decode cX6_reason 73 = .ok (.if_icmp .ne 7, 3) := by decide +kernel
theorem dX6_reason_76 : decode cX6_reason 76 = .ok (.iconst 0, 1) := by decide +kernel
theorem dX6_reason_77 : decode cX6_reason 77 = .ok (.goto 4, 3) := by decide +kernel
theorem dX6_reason_80 : decode cX6_reason 80 = .ok (.iconst 5, 1) := by decide +kernel
theorem dX6_reason_81 : decode cX6_reason 81 = .ok (.ireturn, 1) := by decide +kernel
theorem dX6_stepsTo_0 : decode cX6_stepsTo 0 = .ok (.aload_n 0, 1) := by decide +kernel
theorem dX6_stepsTo_1 : decode cX6_stepsTo 1 = .ok (.getfield 12, 3) := by decide +kernel
theorem dX6_stepsTo_4 : decode cX6_stepsTo 4 = .ok (.getfield 58, 3) := by decide +kernel
theorem dX6_stepsTo_7 : decode cX6_stepsTo 7 = .ok (.astore_n 2, 1) := by decide +kernel
theorem dX6_stepsTo_8 : decode cX6_stepsTo 8 = .ok (.aload_n 2, 1) := by decide +kernel
theorem dX6_stepsTo_9 : decode cX6_stepsTo 9 = .ok (.getfield 191, 3) := by decide +kernel
theorem dX6_stepsTo_12 : decode cX6_stepsTo 12 = .ok (.istore_n 3, 1) := by decide +kernel
theorem dX6_stepsTo_13 : decode cX6_stepsTo 13 = .ok (.aload_n 2, 1) := by decide +kernel
theorem dX6_stepsTo_14 : decode cX6_stepsTo 14 = .ok (.iload_n 1, 1) := by decide +kernel
theorem dX6_stepsTo_15 : decode cX6_stepsTo 15 = .ok (.invokevirtual 126, 3) := by decide +kernel
theorem dX6_stepsTo_18 : decode cX6_stepsTo 18 = .ok (.ifCond .eq 11, 3) := by decide +kernel
theorem dX6_stepsTo_21 : decode cX6_stepsTo 21 = .ok (.aload_n 2, 1) := by decide +kernel
theorem dX6_stepsTo_22 : decode cX6_stepsTo 22 = .ok (.iload_n 3, 1) := by decide +kernel
theorem dX6_stepsTo_23 : decode cX6_stepsTo 23 = .ok (.invokevirtual 126, 3) := by decide +kernel
theorem dX6_stepsTo_26 : decode cX6_stepsTo 26 = .ok (.ifCond .ne 5, 3) := by decide +kernel
theorem dX6_stepsTo_29 : decode cX6_stepsTo 29 = .ok (.iconst (-1), 1) := by decide +kernel
theorem dX6_stepsTo_30 : decode cX6_stepsTo 30 = .ok (.ireturn, 1) := by decide +kernel
theorem dX6_stepsTo_31 : decode cX6_stepsTo 31 = .ok (.iload_n 1, 1) := by decide +kernel
theorem dX6_stepsTo_32 : decode cX6_stepsTo 32 = .ok (.iload_n 3, 1) := by decide +kernel
theorem dX6_stepsTo_33 : decode cX6_stepsTo 33 = .ok (.if_icmp .eq 23, 3) := by decide +kernel
theorem dX6_stepsTo_36 : decode cX6_stepsTo 36 = .ok (.aload_n 2, 1) := by decide +kernel
theorem dX6_stepsTo_37 : decode cX6_stepsTo 37 = .ok (.getfield 139, 3) := by decide +kernel
theorem dX6_stepsTo_40 : decode cX6_stepsTo 40 = .ok (.iload_n 1, 1) := by decide +kernel
theorem dX6_stepsTo_41 : decode cX6_stepsTo 41 = .ok (.iaload, 1) := by decide +kernel
theorem dX6_stepsTo_42 : decode cX6_stepsTo 42 = .ok (.ifCond .ne 14, 3) := by decide +kernel
theorem dX6_stepsTo_45 : decode cX6_stepsTo 45 = .ok (.aload_n 0, 1) := by decide +kernel
theorem dX6_stepsTo_46 : decode cX6_stepsTo 46 = .ok (.getfield 12, 3) := by decide +kernel
theorem dX6_stepsTo_49 : decode cX6_stepsTo 49 = .ok (.iload_n 1, 1) := by decide +kernel
theorem dX6_stepsTo_50 : decode cX6_stepsTo 50 = .ok (.invokevirtual 194, 3) := by decide +kernel
theorem dX6_stepsTo_53 : decode cX6_stepsTo 53 = .ok (.ifCond .ne 6, 3) := by decide +kernel
theorem dX6_stepsTo_56 : decode cX6_stepsTo 56 = .ok (.bipush (-4), 2) := by decide +kernel
theorem dX6_stepsTo_58 : decode cX6_stepsTo 58 = .ok (.ireturn, 1) := by decide +kernel
theorem dX6_stepsTo_59 : decode cX6_stepsTo 59 = .ok (.aload_n 0, 1) := by decide +kernel
theorem dX6_stepsTo_60 : decode cX6_stepsTo 60 = .ok (.getfield 39, 3) := by decide +kernel
theorem dX6_stepsTo_63 : decode cX6_stepsTo 63 = .ok (.invokevirtual 203, 3) := by decide +kernel
theorem dX6_stepsTo_66 : decode cX6_stepsTo 66 = .ok (.aload_n 0, 1) := by decide +kernel
theorem dX6_stepsTo_67 : decode cX6_stepsTo 67 = .ok (.getfield 12, 3) := by decide +kernel
theorem dX6_stepsTo_70 : decode cX6_stepsTo 70 = .ok (.iload_n 1, 1) := by decide +kernel
theorem dX6_stepsTo_71 : decode cX6_stepsTo 71 = .ok (.aload_n 0, 1) := by decide +kernel
theorem dX6_stepsTo_72 : decode cX6_stepsTo 72 = .ok (.getfield 39, 3) := by decide +kernel
theorem dX6_stepsTo_75 : decode cX6_stepsTo 75 = .ok (.invokevirtual 205, 3) := by decide +kernel
theorem dX6_stepsTo_78 : decode cX6_stepsTo 78 = .ok (.iconst 0, 1) := by decide +kernel
theorem dX6_stepsTo_79 : decode cX6_stepsTo 79 = .ok (.istore 4, 2) := by decide +kernel
theorem dX6_stepsTo_81 : decode cX6_stepsTo 81 = .ok (.iload 4, 2) := by decide +kernel
theorem dX6_stepsTo_83 : decode cX6_stepsTo 83 = .ok (.aload_n 2, 1) := by decide +kernel
theorem dX6_stepsTo_84 : decode cX6_stepsTo 84 = .ok (.getfield 123, 3) := by decide +kernel
theorem dX6_stepsTo_87 : decode cX6_stepsTo 87 = .ok (.if_icmp .ge 36, 3) := by decide +kernel
theorem dX6_stepsTo_90 : decode cX6_stepsTo 90 = .ok (.iload 4, 2) := by decide +kernel
theorem dX6_stepsTo_92 : decode cX6_stepsTo 92 = .ok (.bipush 6, 2) := by decide +kernel
theorem dX6_stepsTo_94 : decode cX6_stepsTo 94 = .ok (.if_icmp .ge 29, 3) := by decide +kernel
theorem dX6_stepsTo_97 : decode cX6_stepsTo 97 = .ok (.iload 4, 2) := by decide +kernel
theorem dX6_stepsTo_99 : decode cX6_stepsTo 99 = .ok (.iload_n 3, 1) := by decide +kernel
theorem dX6_stepsTo_100 : decode cX6_stepsTo 100 = .ok (.if_icmp .eq 17, 3) := by decide +kernel
theorem dX6_stepsTo_103 : decode cX6_stepsTo 103 = .ok (.aload_n 0, 1) := by decide +kernel
theorem dX6_stepsTo_104 : decode cX6_stepsTo 104 = .ok (.getfield 39, 3) := by decide +kernel
theorem dX6_stepsTo_107 : decode cX6_stepsTo 107 = .ok (.aload_n 2, 1) := by decide +kernel
theorem dX6_stepsTo_108 : decode cX6_stepsTo 108 = .ok (.getfield 130, 3) := by decide +kernel
theorem dX6_stepsTo_111 : decode cX6_stepsTo 111 = .ok (.iload 4, 2) := by decide +kernel
theorem dX6_stepsTo_113 : decode cX6_stepsTo 113 = .ok (.iaload, 1) := by decide +kernel
theorem dX6_stepsTo_114 : decode cX6_stepsTo 114 = .ok (.invokevirtual 209, 3) := by decide +kernel
theorem dX6_stepsTo_117 : decode cX6_stepsTo 117 = .ok (.iinc 4 1, 3) := by decide +kernel
theorem dX6_stepsTo_120 : decode cX6_stepsTo 120 = .ok (.goto (-39), 3) := by decide +kernel
theorem dX6_stepsTo_123 : decode cX6_stepsTo 123 = .ok (.aload_n 0, 1) := by decide +kernel
theorem dX6_stepsTo_124 : decode cX6_stepsTo 124 = .ok (.getfield 39, 3) := by decide +kernel
theorem dX6_stepsTo_127 : decode cX6_stepsTo 127 = .ok (.aload_n 2, 1) := by decide +kernel
theorem dX6_stepsTo_128 : decode cX6_stepsTo 128 = .ok (.getfield 130, 3) := by decide +kernel
theorem dX6_stepsTo_131 : decode cX6_stepsTo 131 = .ok (.iload_n 3, 1) := by decide +kernel
theorem dX6_stepsTo_132 : decode cX6_stepsTo 132 = .ok (.iaload, 1) := by decide +kernel
theorem dX6_stepsTo_133 : decode cX6_stepsTo 133 = .ok (.invokevirtual 213, 3) := by decide +kernel
theorem dX6_stepsTo_136 : decode cX6_stepsTo 136 = .ok (.ireturn, 1) := by decide +kernel
theorem dX6_safest_0 : decode cX6_safest 0 = .ok (.aload_n 0, 1) := by decide +kernel
theorem dX6_safest_1 : decode cX6_safest 1 = .ok (.getfield 12, 3) := by decide +kernel
theorem dX6_safest_4 : decode cX6_safest 4 = .ok (.getfield 58, 3) := by decide +kernel
theorem dX6_safest_7 : decode cX6_safest 7 = .ok (.astore_n 1, 1) := by decide +kernel
theorem dX6_safest_8 : decode cX6_safest 8 = .ok (.aload_n 1, 1) := by decide +kernel
theorem dX6_safest_9 : decode cX6_safest 9 = .ok (.getfield 123, 3) := by decide +kernel
theorem dX6_safest_12 : decode cX6_safest 12 = .ok (.iconst 2, 1) := by decide +kernel
theorem dX6_safest_13 : decode cX6_safest 13 = .ok (.if_icmp .ge 6, 3) := by decide +kernel
theorem dX6_safest_16 : decode cX6_safest 16 = .ok (.bipush (-5), 2) := by decide +kernel
theorem dX6_safest_18 : decode cX6_safest 18 = .ok (.ireturn, 1) := by decide +kernel
theorem dX6_safest_19 : decode cX6_safest 19 = .ok (.bipush (-5), 2) := by decide +kernel
theorem dX6_safest_21 : decode cX6_safest 21 = .ok (.istore_n 2, 1) := by decide +kernel
theorem dX6_safest_22 : decode cX6_safest 22 = .ok (.iconst (-1), 1) := by decide +kernel
theorem dX6_safest_23 : decode cX6_safest 23 = .ok (.istore_n 3, 1) := by decide +kernel
theorem dX6_safest_24 : decode cX6_safest 24 = .ok (.iconst 0, 1) := by decide +kernel
theorem dX6_safest_25 : decode cX6_safest 25 = .ok (.istore 4, 2) := by decide +kernel
theorem dX6_safest_27 : decode cX6_safest 27 = .ok (.iload 4, 2) := by decide +kernel
theorem dX6_safest_29 : decode cX6_safest 29 = .ok (.aload_n 1, 1) := by decide +kernel
theorem dX6_safest_30 : decode cX6_safest 30 = .ok (.getfield 123, 3) := by decide +kernel
theorem dX6_safest_33 : decode cX6_safest 33 = .ok (.if_icmp .ge 42, 3) := by decide +kernel
theorem dX6_safest_36 : decode cX6_safest 36 = .ok (.iload 4, 2) := by decide +kernel
theorem dX6_safest_38 : decode cX6_safest 38 = .ok (.aload_n 1, 1) := by decide +kernel
theorem dX6_safest_39 : decode cX6_safest 39 = .ok (.getfield 191, 3) := by decide +kernel
theorem dX6_safest_42 : decode cX6_safest 42 = .ok (.if_icmp .ne 7, 3) := by decide +kernel
theorem dX6_safest_45 : decode cX6_safest 45 = .ok (.iconst (-1), 1) := by decide +kernel
theorem dX6_safest_46 : decode cX6_safest 46 = .ok (.goto 9, 3) := by decide +kernel
theorem dX6_safest_49 : decode cX6_safest 49 = .ok (.aload_n 0, 1) := by decide +kernel
theorem dX6_safest_50 : decode cX6_safest 50 = .ok (.iload 4, 2) := by decide +kernel
theorem dX6_safest_52 : decode cX6_safest 52 = .ok (.invokevirtual 216, 3) := by decide +kernel
theorem dX6_safest_55 : decode cX6_safest 55 = .ok (.istore 5, 2) := by decide +kernel
theorem dX6_safest_57 : decode cX6_safest 57 = .ok (.iload 5, 2) := by decide +kernel
theorem dX6_safest_59 : decode cX6_safest 59 = .ok (.iload_n 3, 1) := by decide +kernel
theorem dX6_safest_60 : decode cX6_safest 60 = .ok (.if_icmp .le 9, 3) := by decide +kernel
theorem dX6_safest_63 : decode cX6_safest 63 = .ok (.iload 4, 2) := by decide +kernel
theorem dX6_safest_65 : decode cX6_safest 65 = .ok (.istore_n 2, 1) := by decide +kernel
theorem dX6_safest_66 : decode cX6_safest 66 = .ok (.iload 5, 2) := by decide +kernel
theorem dX6_safest_68 : decode cX6_safest 68 = .ok (.istore_n 3, 1) := by decide +kernel
theorem dX6_safest_69 : decode cX6_safest 69 = .ok (.iinc 4 1, 3) := by decide +kernel
theorem dX6_safest_72 : decode cX6_safest 72 = .ok (.goto (-45), 3) := by decide +kernel
theorem dX6_safest_75 : decode cX6_safest 75 = .ok (.iload_n 2, 1) := by decide +kernel
theorem dX6_safest_76 : decode cX6_safest 76 = .ok (.ireturn, 1) := by decide +kernel
theorem dX6_ifTurns_0 : decode cX6_ifTurns 0 = .ok (.iload_n 1, 1) := by decide +kernel
theorem dX6_ifTurns_1 : decode cX6_ifTurns 1 = .ok (.iconst 1, 1) := by decide +kernel
theorem dX6_ifTurns_2 : decode cX6_ifTurns 2 = .ok (.if_icmp .lt 18, 3) := by decide +kernel
theorem dX6_ifTurns_5 : decode cX6_ifTurns 5 = .ok (.iload_n 1, 1) := by decide +kernel
theorem dX6_ifTurns_6 : decode cX6_ifTurns 6 = .ok (.bipush 99, 2) := by decide +kernel
theorem dX6_ifTurns_8 : decode cX6_ifTurns 8 = .ok (.if_icmp .gt 12, 3) := by decide +kernel
theorem dX6_ifTurns_11 : decode cX6_ifTurns 11 = .ok (.iload_n 2, 1) := by decide +kernel
theorem dX6_ifTurns_12 : decode cX6_ifTurns 12 = .ok (.ifCond .lt 8, 3) := by decide +kernel
theorem dX6_ifTurns_15 : decode cX6_ifTurns 15 = .ok (.iload_n 2, 1) := by decide +kernel
theorem dX6_ifTurns_16 : decode cX6_ifTurns 16 = .ok (.iconst 2, 1) := by decide +kernel
theorem dX6_ifTurns_17 : decode cX6_ifTurns 17 = .ok (.if_icmp .le 6, 3) := by decide +kernel
theorem dX6_ifTurns_20 : decode cX6_ifTurns 20 = .ok (.bipush (-2), 2) := by decide +kernel
theorem dX6_ifTurns_22 : decode cX6_ifTurns 22 = .ok (.ireturn, 1) := by decide +kernel
theorem dX6_ifTurns_23 : decode cX6_ifTurns 23 = .ok (.aload_n 0, 1) := by decide +kernel
theorem dX6_ifTurns_24 : decode cX6_ifTurns 24 = .ok (.getfield 16, 3) := by decide +kernel
theorem dX6_ifTurns_27 : decode cX6_ifTurns 27 = .ok (.aload_n 0, 1) := by decide +kernel
theorem dX6_ifTurns_28 : decode cX6_ifTurns 28 = .ok (.getfield 12, 3) := by decide +kernel
theorem dX6_ifTurns_31 : decode cX6_ifTurns 31 = .ok (.invokevirtual 54, 3) := by decide +kernel
theorem dX6_ifTurns_34 : decode cX6_ifTurns 34 = .ok (.iconst 0, 1) := by decide +kernel
theorem dX6_ifTurns_35 : decode cX6_ifTurns 35 = .ok (.istore_n 3, 1) := by decide +kernel
theorem dX6_ifTurns_36 : decode cX6_ifTurns 36 = .ok (.bipush (-5), 2) := by decide +kernel
theorem dX6_ifTurns_38 : decode cX6_ifTurns 38 = .ok (.istore 4, 2) := by decide +kernel
theorem dX6_ifTurns_40 : decode cX6_ifTurns 40 = .ok (.iconst 1, 1) := by decide +kernel
theorem dX6_ifTurns_41 : decode cX6_ifTurns 41 = .ok (.istore 5, 2) := by decide +kernel
theorem dX6_ifTurns_43 : decode cX6_ifTurns 43 = .ok (.iload 5, 2) := by decide +kernel
theorem dX6_ifTurns_45 : decode cX6_ifTurns 45 = .ok (.iload_n 1, 1) := by decide +kernel
theorem dX6_ifTurns_46 : decode cX6_ifTurns 46 = .ok (.if_icmp .gt 38, 3) := by decide +kernel
theorem dX6_ifTurns_49 : decode cX6_ifTurns 49 = .ok (.aload_n 0, 1) := by decide +kernel
theorem dX6_ifTurns_50 : decode cX6_ifTurns 50 = .ok (.getfield 16, 3) := by decide +kernel
theorem dX6_ifTurns_53 : decode cX6_ifTurns 53 = .ok (.invokevirtual 219, 3) := by decide +kernel
theorem dX6_ifTurns_56 : decode cX6_ifTurns 56 = .ok (.ifCond .eq 22, 3) := by decide +kernel
theorem dX6_ifTurns_59 : decode cX6_ifTurns 59 = .ok (.iinc 3 1, 3) := by decide +kernel
theorem dX6_ifTurns_62 : decode cX6_ifTurns 62 = .ok (.iload 4, 2) := by decide +kernel
theorem dX6_ifTurns_64 : decode cX6_ifTurns 64 = .ok (.bipush (-5), 2) := by decide +kernel
theorem dX6_ifTurns_66 : decode cX6_ifTurns 66 = .ok (.if_icmp .ne 8, 3) := by decide +kernel
theorem dX6_ifTurns_69 : decode cX6_ifTurns 69 = .ok (.iload 5, 2) := by decide +kernel
theorem dX6_ifTurns_71 : decode cX6_ifTurns 71 = .ok (.goto 5, 3) := by decide +kernel
theorem dX6_ifTurns_74 : decode cX6_ifTurns 74 = .ok (.iload 4, 2) := by decide +kernel
theorem dX6_ifTurns_76 : decode cX6_ifTurns 76 = .ok (.istore 4, 2) := by decide +kernel
theorem dX6_ifTurns_78 : decode cX6_ifTurns 78 = .ok (.iinc 5 1, 3) := by decide +kernel
theorem dX6_ifTurns_81 : decode cX6_ifTurns 81 = .ok (.goto (-38), 3) := by decide +kernel
theorem dX6_ifTurns_84 : decode cX6_ifTurns 84 = .ok (.iload_n 2, 1) := by decide +kernel
theorem dX6_ifTurns_85 : decode cX6_ifTurns 85 = .ok (.lookupswitch 40 #[(0, 27), (1, 29)], 27) := by decide +kernel
theorem dX6_ifTurns_112 : decode cX6_ifTurns 112 = .ok (.iload_n 3, 1) := by decide +kernel
theorem dX6_ifTurns_113 : decode cX6_ifTurns 113 = .ok (.ireturn, 1) := by decide +kernel
theorem dX6_ifTurns_114 : decode cX6_ifTurns 114 = .ok (.aload_n 0, 1) := by decide +kernel
theorem dX6_ifTurns_115 : decode cX6_ifTurns 115 = .ok (.getfield 16, 3) := by decide +kernel
theorem dX6_ifTurns_118 : decode cX6_ifTurns 118 = .ok (.getfield 58, 3) := by decide +kernel
theorem dX6_ifTurns_121 : decode cX6_ifTurns 121 = .ok (.getfield 191, 3) := by decide +kernel
theorem dX6_ifTurns_124 : decode cX6_ifTurns 124 = .ok (.ireturn, 1) := by decide +kernel
theorem dX6_ifTurns_125 : decode cX6_ifTurns 125 = .ok (.iload 4, 2) := by decide +kernel
theorem dX6_ifTurns_127 : decode cX6_ifTurns 127 = .ok (.ireturn, 1) := by decide +kernel
theorem dX6_count_0 : decode cX6_count 0 = .ok (.iload_n 1, 1) := by decide +kernel
theorem dX6_count_1 : decode cX6_count 1 = .ok (.tableswitch 202 0 13 #[71, 79, 90, 101, 112, 117, 125, 136, 147, 158, 166, 176, 186, 194], 71) := by decide +kernel
theorem dX6_count_72 : decode cX6_count 72 = .ok (.aload_n 0, 1) := by decide +kernel
theorem dX6_count_73 : decode cX6_count 73 = .ok (.getfield 12, 3) := by decide +kernel
theorem dX6_count_76 : decode cX6_count 76 = .ok (.getfield 223, 3) := by decide +kernel
theorem dX6_count_79 : decode cX6_count 79 = .ok (.ireturn, 1) := by decide +kernel
theorem dX6_count_80 : decode cX6_count 80 = .ok (.aload_n 0, 1) := by decide +kernel
theorem dX6_count_81 : decode cX6_count 81 = .ok (.getfield 12, 3) := by decide +kernel
theorem dX6_count_84 : decode cX6_count 84 = .ok (.getfield 58, 3) := by decide +kernel
theorem dX6_count_87 : decode cX6_count 87 = .ok (.getfield 123, 3) := by decide +kernel
theorem dX6_count_90 : decode cX6_count 90 = .ok (.ireturn, 1) := by decide +kernel
theorem dX6_count_91 : decode cX6_count 91 = .ok (.aload_n 0, 1) := by decide +kernel
theorem dX6_count_92 : decode cX6_count 92 = .ok (.getfield 12, 3) := by decide +kernel
theorem dX6_count_95 : decode cX6_count 95 = .ok (.getfield 58, 3) := by decide +kernel
theorem dX6_count_98 : decode cX6_count 98 = .ok (.getfield 191, 3) := by decide +kernel
theorem dX6_count_101 : decode cX6_count 101 = .ok (.ireturn, 1) := by decide +kernel
theorem dX6_count_102 : decode cX6_count 102 = .ok (.aload_n 0, 1) := by decide +kernel
theorem dX6_count_103 : decode cX6_count 103 = .ok (.getfield 12, 3) := by decide +kernel
theorem dX6_count_106 : decode cX6_count 106 = .ok (.getfield 75, 3) := by decide +kernel
theorem dX6_count_109 : decode cX6_count 109 = .ok (.invokevirtual 226, 3) := by decide +kernel
theorem dX6_count_112 : decode cX6_count 112 = .ok (.ireturn, 1) := by decide +kernel
theorem dX6_count_113 : decode cX6_count 113 = .ok (.aload_n 0, 1) := by decide +kernel
theorem dX6_count_114 : decode cX6_count 114 = .ok (.invokevirtual 229, 3) := by decide +kernel
theorem dX6_count_117 : decode cX6_count 117 = .ok (.ireturn, 1) := by decide +kernel
theorem dX6_count_118 : decode cX6_count 118 = .ok (.aload_n 0, 1) := by decide +kernel
theorem dX6_count_119 : decode cX6_count 119 = .ok (.getfield 12, 3) := by decide +kernel
theorem dX6_count_122 : decode cX6_count 122 = .ok (.invokevirtual 232, 3) := by decide +kernel
theorem dX6_count_125 : decode cX6_count 125 = .ok (.ireturn, 1) := by decide +kernel
theorem dX6_count_126 : decode cX6_count 126 = .ok (.aload_n 0, 1) := by decide +kernel
theorem dX6_count_127 : decode cX6_count 127 = .ok (.getfield 12, 3) := by decide +kernel
theorem dX6_count_130 : decode cX6_count 130 = .ok (.getfield 58, 3) := by decide +kernel
theorem dX6_count_133 : decode cX6_count 133 = .ok (.getfield 235, 3) := by decide +kernel
theorem dX6_count_136 : decode cX6_count 136 = .ok (.ireturn, 1) := by decide +kernel
theorem dX6_count_137 : decode cX6_count 137 = .ok (.aload_n 0, 1) := by decide +kernel
theorem dX6_count_138 : decode cX6_count 138 = .ok (.getfield 12, 3) := by decide +kernel
theorem dX6_count_141 : decode cX6_count 141 = .ok (.getfield 58, 3) := by decide +kernel
theorem dX6_count_144 : decode cX6_count 144 = .ok (.getfield 238, 3) := by decide +kernel
theorem dX6_count_147 : decode cX6_count 147 = .ok (.ireturn, 1) := by decide +kernel
theorem dX6_count_148 : decode cX6_count 148 = .ok (.aload_n 0, 1) := by decide +kernel
theorem dX6_count_149 : decode cX6_count 149 = .ok (.getfield 12, 3) := by decide +kernel
theorem dX6_count_152 : decode cX6_count 152 = .ok (.getfield 58, 3) := by decide +kernel
theorem dX6_count_155 : decode cX6_count 155 = .ok (.getfield 241, 3) := by decide +kernel
theorem dX6_count_158 : decode cX6_count 158 = .ok (.ireturn, 1) := by decide +kernel
theorem dX6_count_159 : decode cX6_count 159 = .ok (.aload_n 0, 1) := by decide +kernel
theorem dX6_count_160 : decode cX6_count 160 = .ok (.getfield 12, 3) := by decide +kernel
theorem dX6_count_163 : decode cX6_count 163 = .ok (.getfield 244, 3) := by decide +kernel
theorem dX6_count_166 : decode cX6_count 166 = .ok (.ireturn, 1) := by decide +kernel
theorem dX6_count_167 : decode cX6_count 167 = .ok (.aload_n 0, 1) := by decide +kernel
theorem dX6_count_168 : decode cX6_count 168 = .ok (.getfield 12, 3) := by decide +kernel
theorem dX6_count_171 : decode cX6_count 171 = .ok (.getfield 88, 3) := by decide +kernel
theorem dX6_count_174 : decode cX6_count 174 = .ok (.iconst 0, 1) := by decide +kernel
theorem dX6_count_175 : decode cX6_count 175 = .ok (.iaload, 1) := by decide +kernel
theorem dX6_count_176 : decode cX6_count 176 = .ok (.ireturn, 1) := by decide +kernel
theorem dX6_count_177 : decode cX6_count 177 = .ok (.aload_n 0, 1) := by decide +kernel
theorem dX6_count_178 : decode cX6_count 178 = .ok (.getfield 12, 3) := by decide +kernel
theorem dX6_count_181 : decode cX6_count 181 = .ok (.getfield 88, 3) := by decide +kernel
theorem dX6_count_184 : decode cX6_count 184 = .ok (.iconst 1, 1) := by decide +kernel
theorem dX6_count_185 : decode cX6_count 185 = .ok (.iaload, 1) := by decide +kernel
theorem dX6_count_186 : decode cX6_count 186 = .ok (.ireturn, 1) := by decide +kernel
theorem dX6_count_187 : decode cX6_count 187 = .ok (.aload_n 0, 1) := by decide +kernel
theorem dX6_count_188 : decode cX6_count 188 = .ok (.getfield 25, 3) := by decide +kernel
theorem dX6_count_191 : decode cX6_count 191 = .ok (.getfield 120, 3) := by decide +kernel
theorem dX6_count_194 : decode cX6_count 194 = .ok (.ireturn, 1) := by decide +kernel
theorem dX6_count_195 : decode cX6_count 195 = .ok (.aload_n 0, 1) := by decide +kernel
theorem dX6_count_196 : decode cX6_count 196 = .ok (.getfield 32, 3) := by decide +kernel
theorem dX6_count_199 : decode cX6_count 199 = .ok (.getfield 247, 3) := by decide +kernel
theorem dX6_count_202 : decode cX6_count 202 = .ok (.ireturn, 1) := by decide +kernel
theorem dX6_count_203 : decode cX6_count 203 = .ok (.bipush (-2), 2) := by decide +kernel
theorem dX6_count_205 : decode cX6_count 205 = .ok (.ireturn, 1) := by decide +kernel
theorem dX6_takeOver_0 : decode cX6_takeOver 0 = .ok (.iload_n 1, 1) := by decide +kernel
theorem dX6_takeOver_1 : decode cX6_takeOver 1 = .ok (.ifCond .lt 25, 3) := by decide +kernel
theorem dX6_takeOver_4 : decode cX6_takeOver 4 = .ok (.aload_n 0, 1) := by decide +kernel
theorem dX6_takeOver_5 : decode cX6_takeOver 5 = .ok (.getfield 25, 3) := by decide +kernel
theorem dX6_takeOver_8 : decode cX6_takeOver 8 = .ok (.aload_n 0, 1) := by decide +kernel
theorem dX6_takeOver_9 : decode cX6_takeOver 9 = .ok (.getfield 12, 3) := by decide +kernel
theorem dX6_takeOver_12 : decode cX6_takeOver 12 = .ok (.invokevirtual 250, 3) := by decide +kernel
theorem dX6_takeOver_15 : decode cX6_takeOver 15 = .ok (.aload_n 0, 1) := by decide +kernel
theorem dX6_takeOver_16 : decode cX6_takeOver 16 = .ok (.getfield 12, 3) := by decide +kernel
theorem dX6_takeOver_19 : decode cX6_takeOver 19 = .ok (.aload_n 0, 1) := by decide +kernel
theorem dX6_takeOver_20 : decode cX6_takeOver 20 = .ok (.getfield 16, 3) := by decide +kernel
theorem dX6_takeOver_23 : decode cX6_takeOver 23 = .ok (.invokevirtual 54, 3) := by decide +kernel
theorem dX6_takeOver_26 : decode cX6_takeOver 26 = .ok (.iload_n 1, 1) := by decide +kernel
theorem dX6_takeOver_27 : decode cX6_takeOver 27 = .ok (.ireturn, 1) := by decide +kernel
theorem dX6_tryThing_0 : decode cX6_tryThing 0 = .ok (.iload_n 1, 1) := by decide +kernel
theorem dX6_tryThing_1 : decode cX6_tryThing 1 = .ok (.ifCond .lt 9, 3) := by decide +kernel
theorem dX6_tryThing_4 : decode cX6_tryThing 4 = .ok (.iload_n 1, 1) := by decide +kernel
theorem dX6_tryThing_5 : decode cX6_tryThing 5 = .ok (.bipush 20, 2) := by decide +kernel
theorem dX6_tryThing_7 : decode cX6_tryThing 7 = .ok (.if_icmp .lt 6, 3) := by decide +kernel
theorem dX6_tryThing_10 : decode cX6_tryThing 10 = .ok (.bipush (-5), 2) := by decide +kernel
theorem dX6_tryThing_12 : decode cX6_tryThing 12 = .ok (.ireturn, 1) := by decide +kernel
theorem dX6_tryThing_13 : decode cX6_tryThing 13 = .ok (.aload_n 0, 1) := by decide +kernel
theorem dX6_tryThing_14 : decode cX6_tryThing 14 = .ok (.getfield 32, 3) := by decide +kernel
theorem dX6_tryThing_17 : decode cX6_tryThing 17 = .ok (.getfield 253, 3) := by decide +kernel
theorem dX6_tryThing_20 : decode cX6_tryThing 20 = .ok (.iload_n 1, 1) := by decide +kernel
theorem dX6_tryThing_21 : decode cX6_tryThing 21 = .ok (.iaload, 1) := by decide +kernel
theorem dX6_tryThing_22 : decode cX6_tryThing 22 = .ok (.istore_n 2, 1) := by decide +kernel
theorem dX6_tryThing_23 : decode cX6_tryThing 23 = .ok (.aload_n 0, 1) := by decide +kernel
theorem dX6_tryThing_24 : decode cX6_tryThing 24 = .ok (.getfield 32, 3) := by decide +kernel
theorem dX6_tryThing_27 : decode cX6_tryThing 27 = .ok (.getfield 256, 3) := by decide +kernel
theorem dX6_tryThing_30 : decode cX6_tryThing 30 = .ok (.iload_n 1, 1) := by decide +kernel
theorem dX6_tryThing_31 : decode cX6_tryThing 31 = .ok (.iaload, 1) := by decide +kernel
theorem dX6_tryThing_32 : decode cX6_tryThing 32 = .ok (.istore_n 3, 1) := by decide +kernel
theorem dX6_tryThing_33 : decode cX6_tryThing 33 = .ok (.aload_n 0, 1) := by decide +kernel
theorem dX6_tryThing_34 : decode cX6_tryThing 34 = .ok (.getfield 32, 3) := by decide +kernel
theorem dX6_tryThing_37 : decode cX6_tryThing 37 = .ok (.getfield 259, 3) := by decide +kernel
theorem dX6_tryThing_40 : decode cX6_tryThing 40 = .ok (.iload_n 1, 1) := by decide +kernel
theorem dX6_tryThing_41 : decode cX6_tryThing 41 = .ok (.iaload, 1) := by decide +kernel
theorem dX6_tryThing_42 : decode cX6_tryThing 42 = .ok (.lookupswitch 73 #[(100, 47), (108, 60), (114, 34)], 34) := by decide +kernel
theorem dX6_tryThing_76 : decode cX6_tryThing 76 = .ok (.aload_n 0, 1) := by decide +kernel
theorem dX6_tryThing_77 : decode cX6_tryThing 77 = .ok (.getfield 16, 3) := by decide +kernel
theorem dX6_tryThing_80 : decode cX6_tryThing 80 = .ok (.getfield 58, 3) := by decide +kernel
theorem dX6_tryThing_83 : decode cX6_tryThing 83 = .ok (.iload_n 2, 1) := by decide +kernel
theorem dX6_tryThing_84 : decode cX6_tryThing 84 = .ok (.iload_n 3, 1) := by decide +kernel
theorem dX6_tryThing_85 : decode cX6_tryThing 85 = .ok (.invokevirtual 62, 3) := by decide +kernel
theorem dX6_tryThing_88 : decode cX6_tryThing 88 = .ok (.ireturn, 1) := by decide +kernel
theorem dX6_tryThing_89 : decode cX6_tryThing 89 = .ok (.aload_n 0, 1) := by decide +kernel
theorem dX6_tryThing_90 : decode cX6_tryThing 90 = .ok (.getfield 16, 3) := by decide +kernel
theorem dX6_tryThing_93 : decode cX6_tryThing 93 = .ok (.getfield 58, 3) := by decide +kernel
theorem dX6_tryThing_96 : decode cX6_tryThing 96 = .ok (.iload_n 2, 1) := by decide +kernel
theorem dX6_tryThing_97 : decode cX6_tryThing 97 = .ok (.iload_n 3, 1) := by decide +kernel
theorem dX6_tryThing_98 : decode cX6_tryThing 98 = .ok (.invokevirtual 72, 3) := by decide +kernel
theorem dX6_tryThing_101 : decode cX6_tryThing 101 = .ok (.ireturn, 1) := by decide +kernel
theorem dX6_tryThing_102 : decode cX6_tryThing 102 = .ok (.aload_n 0, 1) := by decide +kernel
theorem dX6_tryThing_103 : decode cX6_tryThing 103 = .ok (.getfield 16, 3) := by decide +kernel
theorem dX6_tryThing_106 : decode cX6_tryThing 106 = .ok (.getfield 75, 3) := by decide +kernel
theorem dX6_tryThing_109 : decode cX6_tryThing 109 = .ok (.iload_n 2, 1) := by decide +kernel
theorem dX6_tryThing_110 : decode cX6_tryThing 110 = .ok (.iload_n 3, 1) := by decide +kernel
theorem dX6_tryThing_111 : decode cX6_tryThing 111 = .ok (.invokevirtual 79, 3) := by decide +kernel
theorem dX6_tryThing_114 : decode cX6_tryThing 114 = .ok (.ireturn, 1) := by decide +kernel
theorem dX6_tryThing_115 : decode cX6_tryThing 115 = .ok (.aload_n 0, 1) := by decide +kernel
theorem dX6_tryThing_116 : decode cX6_tryThing 116 = .ok (.getfield 16, 3) := by decide +kernel
theorem dX6_tryThing_119 : decode cX6_tryThing 119 = .ok (.iload_n 2, 1) := by decide +kernel
theorem dX6_tryThing_120 : decode cX6_tryThing 120 = .ok (.invokevirtual 96, 3) := by decide +kernel
theorem dX6_tryThing_123 : decode cX6_tryThing 123 = .ok (.ireturn, 1) := by decide +kernel
theorem dX6_cellsInShadowsOf_0 : decode cX6_cellsInShadowsOf 0 = .ok (.aload_n 0, 1) := by decide +kernel
theorem dX6_cellsInShadowsOf_1 : decode cX6_cellsInShadowsOf 1 = .ok (.getfield 39, 3) := by decide +kernel
theorem dX6_cellsInShadowsOf_4 : decode cX6_cellsInShadowsOf 4 = .ok (.invokevirtual 203, 3) := by decide +kernel
theorem dX6_cellsInShadowsOf_7 : decode cX6_cellsInShadowsOf 7 = .ok (.aload_n 0, 1) := by decide +kernel
theorem dX6_cellsInShadowsOf_8 : decode cX6_cellsInShadowsOf 8 = .ok (.getfield 12, 3) := by decide +kernel
theorem dX6_cellsInShadowsOf_11 : decode cX6_cellsInShadowsOf 11 = .ok (.iload_n 1, 1) := by decide +kernel
theorem dX6_cellsInShadowsOf_12 : decode cX6_cellsInShadowsOf 12 = .ok (.aload_n 0, 1) := by decide +kernel
theorem dX6_cellsInShadowsOf_13 : decode cX6_cellsInShadowsOf 13 = .ok (.getfield 39, 3) := by decide +kernel
theorem dX6_cellsInShadowsOf_16 : decode cX6_cellsInShadowsOf 16 = .ok (.invokevirtual 205, 3) := by decide +kernel
theorem dX6_cellsInShadowsOf_19 : decode cX6_cellsInShadowsOf 19 = .ok (.aload_n 0, 1) := by decide +kernel
theorem dX6_cellsInShadowsOf_20 : decode cX6_cellsInShadowsOf 20 = .ok (.getfield 39, 3) := by decide +kernel
theorem dX6_cellsInShadowsOf_23 : decode cX6_cellsInShadowsOf 23 = .ok (.invokevirtual 262, 3) := by decide +kernel
theorem dX6_cellsInShadowsOf_26 : decode cX6_cellsInShadowsOf 26 = .ok (.ireturn, 1) := by decide +kernel
theorem dX6_cellsInShadowsBy_0 : decode cX6_cellsInShadowsBy 0 = .ok (.aload_n 0, 1) := by decide +kernel
theorem dX6_cellsInShadowsBy_1 : decode cX6_cellsInShadowsBy 1 = .ok (.getfield 39, 3) := by decide +kernel
theorem dX6_cellsInShadowsBy_4 : decode cX6_cellsInShadowsBy 4 = .ok (.invokevirtual 203, 3) := by decide +kernel
theorem dX6_cellsInShadowsBy_7 : decode cX6_cellsInShadowsBy 7 = .ok (.iconst 0, 1) := by decide +kernel
theorem dX6_cellsInShadowsBy_8 : decode cX6_cellsInShadowsBy 8 = .ok (.istore_n 2, 1) := by decide +kernel
theorem dX6_cellsInShadowsBy_9 : decode cX6_cellsInShadowsBy 9 = .ok (.iload_n 2, 1) := by decide +kernel
theorem dX6_cellsInShadowsBy_10 : decode cX6_cellsInShadowsBy 10 = .ok (.aload_n 0, 1) := by decide +kernel
theorem dX6_cellsInShadowsBy_11 : decode cX6_cellsInShadowsBy 11 = .ok (.getfield 12, 3) := by decide +kernel
theorem dX6_cellsInShadowsBy_14 : decode cX6_cellsInShadowsBy 14 = .ok (.getfield 58, 3) := by decide +kernel
theorem dX6_cellsInShadowsBy_17 : decode cX6_cellsInShadowsBy 17 = .ok (.getfield 123, 3) := by decide +kernel
theorem dX6_cellsInShadowsBy_20 : decode cX6_cellsInShadowsBy 20 = .ok (.if_icmp .ge 22, 3) := by decide +kernel
theorem dX6_cellsInShadowsBy_23 : decode cX6_cellsInShadowsBy 23 = .ok (.aload_n 0, 1) := by decide +kernel
theorem dX6_cellsInShadowsBy_24 : decode cX6_cellsInShadowsBy 24 = .ok (.getfield 12, 3) := by decide +kernel
theorem dX6_cellsInShadowsBy_27 : decode cX6_cellsInShadowsBy 27 = .ok (.iload_n 2, 1) := by decide +kernel
theorem dX6_cellsInShadowsBy_28 : decode cX6_cellsInShadowsBy 28 = .ok (.iload_n 1, 1) := by decide +kernel
theorem dX6_cellsInShadowsBy_29 : decode cX6_cellsInShadowsBy 29 = .ok (.aload_n 0, 1) := by decide +kernel
theorem dX6_cellsInShadowsBy_30 : decode cX6_cellsInShadowsBy 30 = .ok (.getfield 39, 3) := by decide +kernel
theorem dX6_cellsInShadowsBy_33 : decode cX6_cellsInShadowsBy 33 = .ok (.invokevirtual 265, 3) := by decide +kernel
theorem dX6_cellsInShadowsBy_36 : decode cX6_cellsInShadowsBy 36 = .ok (.iinc 2 1, 3) := by decide +kernel
theorem dX6_cellsInShadowsBy_39 : decode cX6_cellsInShadowsBy 39 = .ok (.goto (-30), 3) := by decide +kernel
theorem dX6_cellsInShadowsBy_42 : decode cX6_cellsInShadowsBy 42 = .ok (.aload_n 0, 1) := by decide +kernel
theorem dX6_cellsInShadowsBy_43 : decode cX6_cellsInShadowsBy 43 = .ok (.getfield 39, 3) := by decide +kernel
theorem dX6_cellsInShadowsBy_46 : decode cX6_cellsInShadowsBy 46 = .ok (.invokevirtual 262, 3) := by decide +kernel
theorem dX6_cellsInShadowsBy_49 : decode cX6_cellsInShadowsBy 49 = .ok (.ireturn, 1) := by decide +kernel
theorem dX6_cellsInAnyShadow_0 : decode cX6_cellsInAnyShadow 0 = .ok (.aload_n 0, 1) := by decide +kernel
theorem dX6_cellsInAnyShadow_1 : decode cX6_cellsInAnyShadow 1 = .ok (.getfield 39, 3) := by decide +kernel
theorem dX6_cellsInAnyShadow_4 : decode cX6_cellsInAnyShadow 4 = .ok (.invokevirtual 203, 3) := by decide +kernel
theorem dX6_cellsInAnyShadow_7 : decode cX6_cellsInAnyShadow 7 = .ok (.iconst 0, 1) := by decide +kernel
theorem dX6_cellsInAnyShadow_8 : decode cX6_cellsInAnyShadow 8 = .ok (.istore_n 1, 1) := by decide +kernel
theorem dX6_cellsInAnyShadow_9 : decode cX6_cellsInAnyShadow 9 = .ok (.iload_n 1, 1) := by decide +kernel
theorem dX6_cellsInAnyShadow_10 : decode cX6_cellsInAnyShadow 10 = .ok (.aload_n 0, 1) := by decide +kernel
theorem dX6_cellsInAnyShadow_11 : decode cX6_cellsInAnyShadow 11 = .ok (.getfield 12, 3) := by decide +kernel
theorem dX6_cellsInAnyShadow_14 : decode cX6_cellsInAnyShadow 14 = .ok (.getfield 58, 3) := by decide +kernel
theorem dX6_cellsInAnyShadow_17 : decode cX6_cellsInAnyShadow 17 = .ok (.getfield 123, 3) := by decide +kernel
theorem dX6_cellsInAnyShadow_20 : decode cX6_cellsInAnyShadow 20 = .ok (.if_icmp .ge 21, 3) := by decide +kernel
theorem dX6_cellsInAnyShadow_23 : decode cX6_cellsInAnyShadow 23 = .ok (.aload_n 0, 1) := by decide +kernel
theorem dX6_cellsInAnyShadow_24 : decode cX6_cellsInAnyShadow 24 = .ok (.getfield 12, 3) := by decide +kernel
theorem dX6_cellsInAnyShadow_27 : decode cX6_cellsInAnyShadow 27 = .ok (.iload_n 1, 1) := by decide +kernel
theorem dX6_cellsInAnyShadow_28 : decode cX6_cellsInAnyShadow 28 = .ok (.aload_n 0, 1) := by decide +kernel
theorem dX6_cellsInAnyShadow_29 : decode cX6_cellsInAnyShadow 29 = .ok (.getfield 39, 3) := by decide +kernel
theorem dX6_cellsInAnyShadow_32 : decode cX6_cellsInAnyShadow 32 = .ok (.invokevirtual 205, 3) := by decide +kernel
theorem dX6_cellsInAnyShadow_35 : decode cX6_cellsInAnyShadow 35 = .ok (.iinc 1 1, 3) := by decide +kernel
theorem dX6_cellsInAnyShadow_38 : decode cX6_cellsInAnyShadow 38 = .ok (.goto (-29), 3) := by decide +kernel
theorem dX6_cellsInAnyShadow_41 : decode cX6_cellsInAnyShadow 41 = .ok (.aload_n 0, 1) := by decide +kernel
theorem dX6_cellsInAnyShadow_42 : decode cX6_cellsInAnyShadow 42 = .ok (.getfield 39, 3) := by decide +kernel
theorem dX6_cellsInAnyShadow_45 : decode cX6_cellsInAnyShadow 45 = .ok (.invokevirtual 262, 3) := by decide +kernel
theorem dX6_cellsInAnyShadow_48 : decode cX6_cellsInAnyShadow 48 = .ok (.ireturn, 1) := by decide +kernel
theorem dX6_stepsOrFarthest_0 : decode cX6_stepsOrFarthest 0 = .ok (.aload_n 0, 1) := by decide +kernel
theorem dX6_stepsOrFarthest_1 : decode cX6_stepsOrFarthest 1 = .ok (.iload_n 1, 1) := by decide +kernel
theorem dX6_stepsOrFarthest_2 : decode cX6_stepsOrFarthest 2 = .ok (.invokevirtual 269, 3) := by decide +kernel
theorem dX6_stepsOrFarthest_5 : decode cX6_stepsOrFarthest 5 = .ok (.istore_n 2, 1) := by decide +kernel
theorem dX6_stepsOrFarthest_6 : decode cX6_stepsOrFarthest 6 = .ok (.iload_n 2, 1) := by decide +kernel
theorem dX6_stepsOrFarthest_7 : decode cX6_stepsOrFarthest 7 = .ok (.ifCond .ge 8, 3) := by decide +kernel
theorem dX6_stepsOrFarthest_10 : decode cX6_stepsOrFarthest 10 = .ok (.bipush 100, 2) := by decide +kernel
theorem dX6_stepsOrFarthest_12 : decode cX6_stepsOrFarthest 12 = .ok (.goto 4, 3) := by decide +kernel
theorem dX6_stepsOrFarthest_15 : decode cX6_stepsOrFarthest 15 = .ok (.iload_n 2, 1) := by decide +kernel
theorem dX6_stepsOrFarthest_16 : decode cX6_stepsOrFarthest 16 = .ok (.ireturn, 1) := by decide +kernel
theorem dX6_isCell_0 : decode cX6_isCell 0 = .ok (.iload_n 0, 1) := by decide +kernel
theorem dX6_isCell_1 : decode cX6_isCell 1 = .ok (.ifCond .lt 13, 3) := by decide +kernel
theorem dX6_isCell_4 : decode cX6_isCell 4 = .ok (.iload_n 0, 1) := by decide +kernel
theorem dX6_isCell_5 : decode cX6_isCell 5 = .ok (.bipush 100, 2) := by decide +kernel
theorem dX6_isCell_7 : decode cX6_isCell 7 = .ok (.if_icmp .ge 7, 3) := by decide +kernel
theorem dX6_isCell_10 : decode cX6_isCell 10 = .ok (.iconst 1, 1) := by decide +kernel
theorem dX6_isCell_11 : decode cX6_isCell 11 = .ok (.goto 4, 3) := by decide +kernel
theorem dX6_isCell_14 : decode cX6_isCell 14 = .ok (.iconst 0, 1) := by decide +kernel
theorem dX6_isCell_15 : decode cX6_isCell 15 = .ok (.ireturn, 1) := by decide +kernel
theorem dX6_isLamp_0 : decode cX6_isLamp 0 = .ok (.iload_n 0, 1) := by decide +kernel
theorem dX6_isLamp_1 : decode cX6_isLamp 1 = .ok (.ifCond .lt 12, 3) := by decide +kernel
theorem dX6_isLamp_4 : decode cX6_isLamp 4 = .ok (.iload_n 0, 1) := by decide +kernel
theorem dX6_isLamp_5 : decode cX6_isLamp 5 = .ok (.iconst 3, 1) := by decide +kernel
theorem dX6_isLamp_6 : decode cX6_isLamp 6 = .ok (.if_icmp .ge 7, 3) := by decide +kernel
theorem dX6_isLamp_9 : decode cX6_isLamp 9 = .ok (.iconst 1, 1) := by decide +kernel
theorem dX6_isLamp_10 : decode cX6_isLamp 10 = .ok (.goto 4, 3) := by decide +kernel
theorem dX6_isLamp_13 : decode cX6_isLamp 13 = .ok (.iconst 0, 1) := by decide +kernel
theorem dX6_isLamp_14 : decode cX6_isLamp 14 = .ok (.ireturn, 1) := by decide +kernel
theorem dX6_replace_0 : decode cX6_replace 0 = .ok (.iload_n 1, 1) := by decide +kernel
theorem dX6_replace_1 : decode cX6_replace 1 = .ok (.ifCond .lt 9, 3) := by decide +kernel
theorem dX6_replace_4 : decode cX6_replace 4 = .ok (.iload_n 1, 1) := by decide +kernel
theorem dX6_replace_5 : decode cX6_replace 5 = .ok (.aload_n 0, 1) := by decide +kernel
theorem dX6_replace_6 : decode cX6_replace 6 = .ok (.arraylength, 1) := by decide +kernel
theorem dX6_replace_7 : decode cX6_replace 7 = .ok (.if_icmp .lt 5, 3) := by decide +kernel
theorem dX6_replace_10 : decode cX6_replace 10 = .ok (.iconst (-1), 1) := by decide +kernel
theorem dX6_replace_11 : decode cX6_replace 11 = .ok (.ireturn, 1) := by decide +kernel
theorem dX6_replace_12 : decode cX6_replace 12 = .ok (.iload_n 2, 1) := by decide +kernel
theorem dX6_replace_13 : decode cX6_replace 13 = .ok (.iload_n 3, 1) := by decide +kernel
theorem dX6_replace_14 : decode cX6_replace 14 = .ok (.if_icmp .lt 9, 3) := by decide +kernel
theorem dX6_replace_17 : decode cX6_replace 17 = .ok (.iload_n 2, 1) := by decide +kernel
theorem dX6_replace_18 : decode cX6_replace 18 = .ok (.iload 4, 2) := by decide +kernel
theorem dX6_replace_20 : decode cX6_replace 20 = .ok (.if_icmp .le 6, 3) := by decide +kernel
theorem dX6_replace_23 : decode cX6_replace 23 = .ok (.bipush (-2), 2) := by decide +kernel
theorem dX6_replace_25 : decode cX6_replace 25 = .ok (.ireturn, 1) := by decide +kernel
theorem dX6_replace_26 : decode cX6_replace 26 = .ok (.aload_n 0, 1) := by decide +kernel
theorem dX6_replace_27 : decode cX6_replace 27 = .ok (.iload_n 1, 1) := by decide +kernel
theorem dX6_replace_28 : decode cX6_replace 28 = .ok (.iaload, 1) := by decide +kernel
theorem dX6_replace_29 : decode cX6_replace 29 = .ok (.istore 5, 2) := by decide +kernel
theorem dX6_replace_31 : decode cX6_replace 31 = .ok (.iload 5, 2) := by decide +kernel
theorem dX6_replace_33 : decode cX6_replace 33 = .ok (.iload_n 2, 1) := by decide +kernel
theorem dX6_replace_34 : decode cX6_replace 34 = .ok (.if_icmp .ne 6, 3) := by decide +kernel
theorem dX6_replace_37 : decode cX6_replace 37 = .ok (.bipush (-5), 2) := by decide +kernel
theorem dX6_replace_39 : decode cX6_replace 39 = .ok (.ireturn, 1) := by decide +kernel
theorem dX6_replace_40 : decode cX6_replace 40 = .ok (.aload_n 0, 1) := by decide +kernel
theorem dX6_replace_41 : decode cX6_replace 41 = .ok (.iload_n 1, 1) := by decide +kernel
theorem dX6_replace_42 : decode cX6_replace 42 = .ok (.iload_n 2, 1) := by decide +kernel
theorem dX6_replace_43 : decode cX6_replace 43 = .ok (.iastore, 1) := by decide +kernel
theorem dX6_replace_44 : decode cX6_replace 44 = .ok (.iload 5, 2) := by decide +kernel
theorem dX6_replace_46 : decode cX6_replace 46 = .ok (.ireturn, 1) := by decide +kernel
theorem dX6_copyRow_0 : decode cX6_copyRow 0 = .ok (.aload_n 0, 1) := by decide +kernel
theorem dX6_copyRow_1 : decode cX6_copyRow 1 = .ok (.iconst 0, 1) := by decide +kernel
theorem dX6_copyRow_2 : decode cX6_copyRow 2 = .ok (.aload_n 1, 1) := by decide +kernel
theorem dX6_copyRow_3 : decode cX6_copyRow 3 = .ok (.iconst 0, 1) := by decide +kernel
theorem dX6_copyRow_4 : decode cX6_copyRow 4 = .ok (.aload_n 0, 1) := by decide +kernel
theorem dX6_copyRow_5 : decode cX6_copyRow 5 = .ok (.arraylength, 1) := by decide +kernel
theorem dX6_copyRow_6 : decode cX6_copyRow 6 = .ok (.aload_n 1, 1) := by decide +kernel
theorem dX6_copyRow_7 : decode cX6_copyRow 7 = .ok (.arraylength, 1) := by decide +kernel
theorem dX6_copyRow_8 : decode cX6_copyRow 8 = .ok (.invokestatic 272, 3) := by decide +kernel
theorem dX6_copyRow_11 : decode cX6_copyRow 11 = .ok (.invokestatic 277, 3) := by decide +kernel
theorem dX6_copyRow_14 : decode cX6_copyRow 14 = .ok (.return_, 1) := by decide +kernel
theorem dX6_opposite_0 : decode cX6_opposite 0 = .ok (.iload_n 0, 1) := by decide +kernel
theorem dX6_opposite_1 : decode cX6_opposite 1 = .ok (.iconst 2, 1) := by decide +kernel
theorem dX6_opposite_2 : decode cX6_opposite 2 = .ok (.iadd, 1) := by decide +kernel
theorem dX6_opposite_3 : decode cX6_opposite 3 = .ok (.iconst 4, 1) := by decide +kernel
theorem dX6_opposite_4 : decode cX6_opposite 4 = .ok (.irem, 1) := by decide +kernel
theorem dX6_opposite_5 : decode cX6_opposite 5 = .ok (.ireturn, 1) := by decide +kernel
theorem dX6_cellsToEdge_0 : decode cX6_cellsToEdge 0 = .ok (.iload_n 1, 1) := by decide +kernel
theorem dX6_cellsToEdge_1 : decode cX6_cellsToEdge 1 = .ok (.tableswitch 57 0 3 #[31, 36, 44, 52], 31) := by decide +kernel
theorem dX6_cellsToEdge_32 : decode cX6_cellsToEdge 32 = .ok (.iload_n 0, 1) := by decide +kernel
theorem dX6_cellsToEdge_33 : decode cX6_cellsToEdge 33 = .ok (.bipush 10, 2) := by decide +kernel
theorem dX6_cellsToEdge_35 : decode cX6_cellsToEdge 35 = .ok (.idiv, 1) := by decide +kernel
theorem dX6_cellsToEdge_36 : decode cX6_cellsToEdge 36 = .ok (.ireturn, 1) := by decide +kernel
theorem dX6_cellsToEdge_37 : decode cX6_cellsToEdge 37 = .ok (.bipush 9, 2) := by decide +kernel
theorem dX6_cellsToEdge_39 : decode cX6_cellsToEdge 39 = .ok (.iload_n 0, 1) := by decide +kernel
theorem dX6_cellsToEdge_40 : decode cX6_cellsToEdge 40 = .ok (.bipush 10, 2) := by decide +kernel
theorem dX6_cellsToEdge_42 : decode cX6_cellsToEdge 42 = .ok (.irem, 1) := by decide +kernel
theorem dX6_cellsToEdge_43 : decode cX6_cellsToEdge 43 = .ok (.isub, 1) := by decide +kernel
theorem dX6_cellsToEdge_44 : decode cX6_cellsToEdge 44 = .ok (.ireturn, 1) := by decide +kernel
theorem dX6_cellsToEdge_45 : decode cX6_cellsToEdge 45 = .ok (.bipush 9, 2) := by decide +kernel
theorem dX6_cellsToEdge_47 : decode cX6_cellsToEdge 47 = .ok (.iload_n 0, 1) := by decide +kernel
theorem dX6_cellsToEdge_48 : decode cX6_cellsToEdge 48 = .ok (.bipush 10, 2) := by decide +kernel
theorem dX6_cellsToEdge_50 : decode cX6_cellsToEdge 50 = .ok (.idiv, 1) := by decide +kernel
theorem dX6_cellsToEdge_51 : decode cX6_cellsToEdge 51 = .ok (.isub, 1) := by decide +kernel
theorem dX6_cellsToEdge_52 : decode cX6_cellsToEdge 52 = .ok (.ireturn, 1) := by decide +kernel
theorem dX6_cellsToEdge_53 : decode cX6_cellsToEdge 53 = .ok (.iload_n 0, 1) := by decide +kernel
theorem dX6_cellsToEdge_54 : decode cX6_cellsToEdge 54 = .ok (.bipush 10, 2) := by decide +kernel
theorem dX6_cellsToEdge_56 : decode cX6_cellsToEdge 56 = .ok (.irem, 1) := by decide +kernel
theorem dX6_cellsToEdge_57 : decode cX6_cellsToEdge 57 = .ok (.ireturn, 1) := by decide +kernel
theorem dX6_cellsToEdge_58 : decode cX6_cellsToEdge 58 = .ok (.iconst 0, 1) := by decide +kernel
theorem dX6_cellsToEdge_59 : decode cX6_cellsToEdge 59 = .ok (.ireturn, 1) := by decide +kernel
theorem dX6_cellAlong_0 : decode cX6_cellAlong 0 = .ok (.iload_n 1, 1) := by decide +kernel
theorem dX6_cellAlong_1 : decode cX6_cellAlong 1 = .ok (.tableswitch 53 0 3 #[31, 38, 42, 49], 31) := by decide +kernel
theorem dX6_cellAlong_32 : decode cX6_cellAlong 32 = .ok (.iload_n 0, 1) := by decide +kernel
theorem dX6_cellAlong_33 : decode cX6_cellAlong 33 = .ok (.bipush 10, 2) := by decide +kernel
theorem dX6_cellAlong_35 : decode cX6_cellAlong 35 = .ok (.iload_n 2, 1) := by decide +kernel
theorem dX6_cellAlong_36 : decode cX6_cellAlong 36 = .ok (.imul, 1) := by decide +kernel
theorem dX6_cellAlong_37 : decode cX6_cellAlong 37 = .ok (.isub, 1) := by decide +kernel
theorem dX6_cellAlong_38 : decode cX6_cellAlong 38 = .ok (.ireturn, 1) := by decide +kernel
theorem dX6_cellAlong_39 : decode cX6_cellAlong 39 = .ok (.iload_n 0, 1) := by decide +kernel
theorem dX6_cellAlong_40 : decode cX6_cellAlong 40 = .ok (.iload_n 2, 1) := by decide +kernel
theorem dX6_cellAlong_41 : decode cX6_cellAlong 41 = .ok (.iadd, 1) := by decide +kernel
theorem dX6_cellAlong_42 : decode cX6_cellAlong 42 = .ok (.ireturn, 1) := by decide +kernel
theorem dX6_cellAlong_43 : decode cX6_cellAlong 43 = .ok (.iload_n 0, 1) := by decide +kernel
theorem dX6_cellAlong_44 : decode cX6_cellAlong 44 = .ok (.bipush 10, 2) := by decide +kernel
theorem dX6_cellAlong_46 : decode cX6_cellAlong 46 = .ok (.iload_n 2, 1) := by decide +kernel
theorem dX6_cellAlong_47 : decode cX6_cellAlong 47 = .ok (.imul, 1) := by decide +kernel
theorem dX6_cellAlong_48 : decode cX6_cellAlong 48 = .ok (.iadd, 1) := by decide +kernel
theorem dX6_cellAlong_49 : decode cX6_cellAlong 49 = .ok (.ireturn, 1) := by decide +kernel
theorem dX6_cellAlong_50 : decode cX6_cellAlong 50 = .ok (.iload_n 0, 1) := by decide +kernel
theorem dX6_cellAlong_51 : decode cX6_cellAlong 51 = .ok (.iload_n 2, 1) := by decide +kernel
theorem dX6_cellAlong_52 : decode cX6_cellAlong 52 = .ok (.isub, 1) := by decide +kernel
theorem dX6_cellAlong_53 : decode cX6_cellAlong 53 = .ok (.ireturn, 1) := by decide +kernel
theorem dX6_cellAlong_54 : decode cX6_cellAlong 54 = .ok (.iload_n 0, 1) := by decide +kernel
theorem dX6_cellAlong_55 : decode cX6_cellAlong 55 = .ok (.ireturn, 1) := by decide +kernel
theorem dX6_distanceAlong_0 : decode cX6_distanceAlong 0 = .ok (.iload_n 1, 1) := by decide +kernel
theorem dX6_distanceAlong_1 : decode cX6_distanceAlong 1 = .ok (.bipush 10, 2) := by decide +kernel
theorem dX6_distanceAlong_3 : decode cX6_distanceAlong 3 = .ok (.idiv, 1) := by decide +kernel
theorem dX6_distanceAlong_4 : decode cX6_distanceAlong 4 = .ok (.iload_n 0, 1) := by decide +kernel
theorem dX6_distanceAlong_5 : decode cX6_distanceAlong 5 = .ok (.bipush 10, 2) := by decide +kernel
theorem dX6_distanceAlong_7 : decode cX6_distanceAlong 7 = .ok (.idiv, 1) := by decide +kernel
theorem dX6_distanceAlong_8 : decode cX6_distanceAlong 8 = .ok (.isub, 1) := by decide +kernel
theorem dX6_distanceAlong_9 : decode cX6_distanceAlong 9 = .ok (.istore_n 3, 1) := by decide +kernel
theorem dX6_distanceAlong_10 : decode cX6_distanceAlong 10 = .ok (.iload_n 1, 1) := by decide +kernel
theorem dX6_distanceAlong_11 : decode cX6_distanceAlong 11 = .ok (.bipush 10, 2) := by decide +kernel
theorem dX6_distanceAlong_13 : decode cX6_distanceAlong 13 = .ok (.irem, 1) := by decide +kernel
theorem dX6_distanceAlong_14 : decode cX6_distanceAlong 14 = .ok (.iload_n 0, 1) := by decide +kernel
theorem dX6_distanceAlong_15 : decode cX6_distanceAlong 15 = .ok (.bipush 10, 2) := by decide +kernel
theorem dX6_distanceAlong_17 : decode cX6_distanceAlong 17 = .ok (.irem, 1) := by decide +kernel
theorem dX6_distanceAlong_18 : decode cX6_distanceAlong 18 = .ok (.isub, 1) := by decide +kernel
theorem dX6_distanceAlong_19 : decode cX6_distanceAlong 19 = .ok (.istore 4, 2) := by decide +kernel
theorem dX6_distanceAlong_21 : decode cX6_distanceAlong 21 = .ok (.iload_n 2, 1) := by decide +kernel
theorem dX6_distanceAlong_22 : decode cX6_distanceAlong 22 = .ok (.tableswitch 76 0 3 #[30, 42, 53, 64], 30) := by decide +kernel
theorem dX6_distanceAlong_52 : decode cX6_distanceAlong 52 = .ok (.iload 4, 2) := by decide +kernel
theorem dX6_distanceAlong_54 : decode cX6_distanceAlong 54 = .ok (.ifCond .ne 8, 3) := by decide +kernel
theorem dX6_distanceAlong_57 : decode cX6_distanceAlong 57 = .ok (.iload_n 3, 1) := by decide +kernel
theorem dX6_distanceAlong_58 : decode cX6_distanceAlong 58 = .ok (.ineg, 1) := by decide +kernel
theorem dX6_distanceAlong_59 : decode cX6_distanceAlong 59 = .ok (.goto 4, 3) := by decide +kernel
theorem dX6_distanceAlong_62 : decode cX6_distanceAlong 62 = .ok (.iconst 0, 1) := by decide +kernel
theorem dX6_distanceAlong_63 : decode cX6_distanceAlong 63 = .ok (.ireturn, 1) := by decide +kernel
theorem dX6_distanceAlong_64 : decode cX6_distanceAlong 64 = .ok (.iload_n 3, 1) := by decide +kernel
theorem dX6_distanceAlong_65 : decode cX6_distanceAlong 65 = .ok (.ifCond .ne 8, 3) := by decide +kernel
theorem dX6_distanceAlong_68 : decode cX6_distanceAlong 68 = .ok (.iload 4, 2) := by decide +kernel
theorem dX6_distanceAlong_70 : decode cX6_distanceAlong 70 = .ok (.goto 4, 3) := by decide +kernel
theorem dX6_distanceAlong_73 : decode cX6_distanceAlong 73 = .ok (.iconst 0, 1) := by decide +kernel
theorem dX6_distanceAlong_74 : decode cX6_distanceAlong 74 = .ok (.ireturn, 1) := by decide +kernel
theorem dX6_distanceAlong_75 : decode cX6_distanceAlong 75 = .ok (.iload 4, 2) := by decide +kernel
theorem dX6_distanceAlong_77 : decode cX6_distanceAlong 77 = .ok (.ifCond .ne 7, 3) := by decide +kernel
theorem dX6_distanceAlong_80 : decode cX6_distanceAlong 80 = .ok (.iload_n 3, 1) := by decide +kernel
theorem dX6_distanceAlong_81 : decode cX6_distanceAlong 81 = .ok (.goto 4, 3) := by decide +kernel
theorem dX6_distanceAlong_84 : decode cX6_distanceAlong 84 = .ok (.iconst 0, 1) := by decide +kernel
theorem dX6_distanceAlong_85 : decode cX6_distanceAlong 85 = .ok (.ireturn, 1) := by decide +kernel
theorem dX6_distanceAlong_86 : decode cX6_distanceAlong 86 = .ok (.iload_n 3, 1) := by decide +kernel
theorem dX6_distanceAlong_87 : decode cX6_distanceAlong 87 = .ok (.ifCond .ne 9, 3) := by decide +kernel
theorem dX6_distanceAlong_90 : decode cX6_distanceAlong 90 = .ok (.iload 4, 2) := by decide +kernel
theorem dX6_distanceAlong_92 : decode cX6_distanceAlong 92 = .ok (.ineg, 1) := by decide +kernel
theorem dX6_distanceAlong_93 : decode cX6_distanceAlong 93 = .ok (.goto 4, 3) := by decide +kernel
theorem dX6_distanceAlong_96 : decode cX6_distanceAlong 96 = .ok (.iconst 0, 1) := by decide +kernel
theorem dX6_distanceAlong_97 : decode cX6_distanceAlong 97 = .ok (.ireturn, 1) := by decide +kernel
theorem dX6_distanceAlong_98 : decode cX6_distanceAlong 98 = .ok (.iconst 0, 1) := by decide +kernel
theorem dX6_distanceAlong_99 : decode cX6_distanceAlong 99 = .ok (.ireturn, 1) := by decide +kernel
theorem dX7_init_0 : decode cX7_init 0 = .ok (.aload_n 0, 1) := by decide +kernel
theorem dX7_init_1 : decode cX7_init 1 = .ok (.invokespecial 1, 3) := by decide +kernel
theorem dX7_init_4 : decode cX7_init 4 = .ok (.aload_n 0, 1) := by decide +kernel
theorem dX7_init_5 : decode cX7_init 5 = .ok (.bipush 63, 2) := by decide +kernel
theorem dX7_init_7 : decode cX7_init 7 = .ok (.newarray .int, 2) := by decide +kernel
theorem dX7_init_9 : decode cX7_init 9 = .ok (.putfield 7, 3) := by decide +kernel
theorem dX7_init_12 : decode cX7_init 12 = .ok (.aload_n 0, 1) := by decide +kernel
theorem dX7_init_13 : decode cX7_init 13 = .ok (.sipush 252, 3) := by decide +kernel
theorem dX7_init_16 : decode cX7_init 16 = .ok (.newarray .int, 2) := by decide +kernel
theorem dX7_init_18 : decode cX7_init 18 = .ok (.putfield 13, 3) := by decide +kernel
theorem dX7_init_21 : decode cX7_init 21 = .ok (.aload_n 0, 1) := by decide +kernel
theorem dX7_init_22 : decode cX7_init 22 = .ok (.bipush 63, 2) := by decide +kernel
theorem dX7_init_24 : decode cX7_init 24 = .ok (.newarray .int, 2) := by decide +kernel
theorem dX7_init_26 : decode cX7_init 26 = .ok (.putfield 16, 3) := by decide +kernel
theorem dX7_init_29 : decode cX7_init 29 = .ok (.aload_n 0, 1) := by decide +kernel
theorem dX7_init_30 : decode cX7_init 30 = .ok (.bipush 63, 2) := by decide +kernel
theorem dX7_init_32 : decode cX7_init 32 = .ok (.newarray .int, 2) := by decide +kernel
theorem dX7_init_34 : decode cX7_init 34 = .ok (.putfield 19, 3) := by decide +kernel
theorem dX7_init_37 : decode cX7_init 37 = .ok (.aload_n 0, 1) := by decide +kernel
theorem dX7_init_38 : decode cX7_init 38 = .ok (.bipush 24, 2) := by decide +kernel
theorem dX7_init_40 : decode cX7_init 40 = .ok (.newarray .int, 2) := by decide +kernel
theorem dX7_init_42 : decode cX7_init 42 = .ok (.putfield 22, 3) := by decide +kernel
theorem dX7_init_45 : decode cX7_init 45 = .ok (.aload_n 0, 1) := by decide +kernel
theorem dX7_init_46 : decode cX7_init 46 = .ok (.bipush 60, 2) := by decide +kernel
theorem dX7_init_48 : decode cX7_init 48 = .ok (.newarray .int, 2) := by decide +kernel
theorem dX7_init_50 : decode cX7_init 50 = .ok (.putfield 25, 3) := by decide +kernel
theorem dX7_init_53 : decode cX7_init 53 = .ok (.aload_n 0, 1) := by decide +kernel
theorem dX7_init_54 : decode cX7_init 54 = .ok (.bipush 32, 2) := by decide +kernel
theorem dX7_init_56 : decode cX7_init 56 = .ok (.newarray .int, 2) := by decide +kernel
theorem dX7_init_58 : decode cX7_init 58 = .ok (.putfield 28, 3) := by decide +kernel
theorem dX7_init_61 : decode cX7_init 61 = .ok (.aload_n 0, 1) := by decide +kernel
theorem dX7_init_62 : decode cX7_init 62 = .ok (.bipush 32, 2) := by decide +kernel
theorem dX7_init_64 : decode cX7_init 64 = .ok (.newarray .int, 2) := by decide +kernel
theorem dX7_init_66 : decode cX7_init 66 = .ok (.putfield 31, 3) := by decide +kernel
theorem dX7_init_69 : decode cX7_init 69 = .ok (.aload_n 0, 1) := by decide +kernel
theorem dX7_init_70 : decode cX7_init 70 = .ok (.bipush 32, 2) := by decide +kernel
theorem dX7_init_72 : decode cX7_init 72 = .ok (.newarray .int, 2) := by decide +kernel
theorem dX7_init_74 : decode cX7_init 74 = .ok (.putfield 34, 3) := by decide +kernel
theorem dX7_init_77 : decode cX7_init 77 = .ok (.aload_n 0, 1) := by decide +kernel
theorem dX7_init_78 : decode cX7_init 78 = .ok (.bipush (-5), 2) := by decide +kernel
theorem dX7_init_80 : decode cX7_init 80 = .ok (.putfield 37, 3) := by decide +kernel
theorem dX7_init_83 : decode cX7_init 83 = .ok (.aload_n 0, 1) := by decide +kernel
theorem dX7_init_84 : decode cX7_init 84 = .ok (.bipush (-5), 2) := by decide +kernel
theorem dX7_init_86 : decode cX7_init 86 = .ok (.putfield 41, 3) := by decide +kernel
theorem dX7_init_89 : decode cX7_init 89 = .ok (.aload_n 0, 1) := by decide +kernel
theorem dX7_init_90 : decode cX7_init 90 = .ok (.bipush 100, 2) := by decide +kernel
theorem dX7_init_92 : decode cX7_init 92 = .ok (.newarray .int, 2) := by decide +kernel
theorem dX7_init_94 : decode cX7_init 94 = .ok (.putfield 44, 3) := by decide +kernel
theorem dX7_init_97 : decode cX7_init 97 = .ok (.aload_n 0, 1) := by decide +kernel
theorem dX7_init_98 : decode cX7_init 98 = .ok (.getfield 7, 3) := by decide +kernel
theorem dX7_init_101 : decode cX7_init 101 = .ok (.iconst 1, 1) := by decide +kernel
theorem dX7_init_102 : decode cX7_init 102 = .ok (.bipush (-5), 2) := by decide +kernel
theorem dX7_init_104 : decode cX7_init 104 = .ok (.iastore, 1) := by decide +kernel
theorem dX7_init_105 : decode cX7_init 105 = .ok (.aload_n 0, 1) := by decide +kernel
theorem dX7_init_106 : decode cX7_init 106 = .ok (.getfield 7, 3) := by decide +kernel
theorem dX7_init_109 : decode cX7_init 109 = .ok (.bipush 6, 2) := by decide +kernel
theorem dX7_init_111 : decode cX7_init 111 = .ok (.iconst 3, 1) := by decide +kernel
theorem dX7_init_112 : decode cX7_init 112 = .ok (.iastore, 1) := by decide +kernel
theorem dX7_init_113 : decode cX7_init 113 = .ok (.iconst 0, 1) := by decide +kernel
theorem dX7_init_114 : decode cX7_init 114 = .ok (.istore_n 1, 1) := by decide +kernel
theorem dX7_init_115 : decode cX7_init 115 = .ok (.iload_n 1, 1) := by decide +kernel
theorem dX7_init_116 : decode cX7_init 116 = .ok (.iconst 3, 1) := by decide +kernel
theorem dX7_init_117 : decode cX7_init 117 = .ok (.if_icmp .ge 30, 3) := by decide +kernel
theorem dX7_init_120 : decode cX7_init 120 = .ok (.aload_n 0, 1) := by decide +kernel
theorem dX7_init_121 : decode cX7_init 121 = .ok (.iload_n 1, 1) := by decide +kernel
theorem dX7_init_122 : decode cX7_init 122 = .ok (.iconst 0, 1) := by decide +kernel
theorem dX7_init_123 : decode cX7_init 123 = .ok (.iload_n 1, 1) := by decide +kernel
theorem dX7_init_124 : decode cX7_init 124 = .ok (.invokevirtual 47, 3) := by decide +kernel
theorem dX7_init_127 : decode cX7_init 127 = .ok (.aload_n 0, 1) := by decide +kernel
theorem dX7_init_128 : decode cX7_init 128 = .ok (.iload_n 1, 1) := by decide +kernel
theorem dX7_init_129 : decode cX7_init 129 = .ok (.iconst 1, 1) := by decide +kernel
theorem dX7_init_130 : decode cX7_init 130 = .ok (.iconst 1, 1) := by decide +kernel
theorem dX7_init_131 : decode cX7_init 131 = .ok (.invokevirtual 47, 3) := by decide +kernel
theorem dX7_init_134 : decode cX7_init 134 = .ok (.aload_n 0, 1) := by decide +kernel
theorem dX7_init_135 : decode cX7_init 135 = .ok (.iload_n 1, 1) := by decide +kernel
theorem dX7_init_136 : decode cX7_init 136 = .ok (.iconst 3, 1) := by decide +kernel
theorem dX7_init_137 : decode cX7_init 137 = .ok (.iconst 1, 1) := by decide +kernel
theorem dX7_init_138 : decode cX7_init 138 = .ok (.invokevirtual 47, 3) := by decide +kernel
theorem dX7_init_141 : decode cX7_init 141 = .ok (.iinc 1 1, 3) := by decide +kernel
theorem dX7_init_144 : decode cX7_init 144 = .ok (.goto (-29), 3) := by decide +kernel
theorem dX7_init_147 : decode cX7_init 147 = .ok (.return_, 1) := by decide +kernel
theorem dX7_in_0 : decode cX7_in 0 = .ok (.iload_n 0, 1) := by decide +kernel
theorem dX7_in_1 : decode cX7_in 1 = .ok (.iload_n 1, 1) := by decide +kernel
theorem dX7_in_2 : decode cX7_in 2 = .ok (.if_icmp .lt 12, 3) := by decide +kernel
theorem dX7_in_5 : decode cX7_in 5 = .ok (.iload_n 0, 1) := by decide +kernel
theorem dX7_in_6 : decode cX7_in 6 = .ok (.iload_n 2, 1) := by decide +kernel
theorem dX7_in_7 : decode cX7_in 7 = .ok (.if_icmp .gt 7, 3) := by decide +kernel
theorem dX7_in_10 : decode cX7_in 10 = .ok (.iconst 1, 1) := by decide +kernel
theorem dX7_in_11 : decode cX7_in 11 = .ok (.goto 4, 3) := by decide +kernel
theorem dX7_in_14 : decode cX7_in 14 = .ok (.iconst 0, 1) := by decide +kernel
theorem dX7_in_15 : decode cX7_in 15 = .ok (.ireturn, 1) := by decide +kernel
theorem dX7_isCell_0 : decode cX7_isCell 0 = .ok (.iload_n 0, 1) := by decide +kernel
theorem dX7_isCell_1 : decode cX7_isCell 1 = .ok (.iconst 0, 1) := by decide +kernel
theorem dX7_isCell_2 : decode cX7_isCell 2 = .ok (.bipush 99, 2) := by decide +kernel
theorem dX7_isCell_4 : decode cX7_isCell 4 = .ok (.invokestatic 51, 3) := by decide +kernel
theorem dX7_isCell_7 : decode cX7_isCell 7 = .ok (.ireturn, 1) := by decide +kernel
theorem dX7_isRunner_0 : decode cX7_isRunner 0 = .ok (.iload_n 1, 1) := by decide +kernel
theorem dX7_isRunner_1 : decode cX7_isRunner 1 = .ok (.iconst 0, 1) := by decide +kernel
theorem dX7_isRunner_2 : decode cX7_isRunner 2 = .ok (.aload_n 0, 1) := by decide +kernel
theorem dX7_isRunner_3 : decode cX7_isRunner 3 = .ok (.getfield 7, 3) := by decide +kernel
theorem dX7_isRunner_6 : decode cX7_isRunner 6 = .ok (.bipush 20, 2) := by decide +kernel
theorem dX7_isRunner_8 : decode cX7_isRunner 8 = .ok (.iaload, 1) := by decide +kernel
theorem dX7_isRunner_9 : decode cX7_isRunner 9 = .ok (.iconst 1, 1) := by decide +kernel
theorem dX7_isRunner_10 : decode cX7_isRunner 10 = .ok (.isub, 1) := by decide +kernel
theorem dX7_isRunner_11 : decode cX7_isRunner 11 = .ok (.invokestatic 51, 3) := by decide +kernel
theorem dX7_isRunner_14 : decode cX7_isRunner 14 = .ok (.ireturn, 1) := by decide +kernel
theorem dX7_isLamp_0 : decode cX7_isLamp 0 = .ok (.iload_n 0, 1) := by decide +kernel
theorem dX7_isLamp_1 : decode cX7_isLamp 1 = .ok (.iconst 0, 1) := by decide +kernel
theorem dX7_isLamp_2 : decode cX7_isLamp 2 = .ok (.iconst 2, 1) := by decide +kernel
theorem dX7_isLamp_3 : decode cX7_isLamp 3 = .ok (.invokestatic 51, 3) := by decide +kernel
theorem dX7_isLamp_6 : decode cX7_isLamp 6 = .ok (.ireturn, 1) := by decide +kernel
theorem dX7_of_0 : decode cX7_of 0 = .ok (.aload_n 0, 1) := by decide +kernel
theorem dX7_of_1 : decode cX7_of 1 = .ok (.getfield 7, 3) := by decide +kernel
theorem dX7_of_4 : decode cX7_of 4 = .ok (.bipush 21, 2) := by decide +kernel
theorem dX7_of_6 : decode cX7_of 6 = .ok (.bipush 7, 2) := by decide +kernel
theorem dX7_of_8 : decode cX7_of 8 = .ok (.iload_n 1, 1) := by decide +kernel
theorem dX7_of_9 : decode cX7_of 9 = .ok (.imul, 1) := by decide +kernel
theorem dX7_of_10 : decode cX7_of 10 = .ok (.iadd, 1) := by decide +kernel
theorem dX7_of_11 : decode cX7_of 11 = .ok (.iload_n 2, 1) := by decide +kernel
theorem dX7_of_12 : decode cX7_of 12 = .ok (.iadd, 1) := by decide +kernel
theorem dX7_of_13 : decode cX7_of 13 = .ok (.iaload, 1) := by decide +kernel
theorem dX7_of_14 : decode cX7_of 14 = .ok (.ireturn, 1) := by decide +kernel
theorem dX7_put_0 : decode cX7_put 0 = .ok (.aload_n 0, 1) := by decide +kernel
theorem dX7_put_1 : decode cX7_put 1 = .ok (.getfield 7, 3) := by decide +kernel
theorem dX7_put_4 : decode cX7_put 4 = .ok (.bipush 21, 2) := by decide +kernel
theorem dX7_put_6 : decode cX7_put 6 = .ok (.bipush 7, 2) := by decide +kernel
theorem dX7_put_8 : decode cX7_put 8 = .ok (.iload_n 1, 1) := by decide +kernel
theorem dX7_put_9 : decode cX7_put 9 = .ok (.imul, 1) := by decide +kernel
theorem dX7_put_10 : decode cX7_put 10 = .ok (.iadd, 1) := by decide +kernel
theorem dX7_put_11 : decode cX7_put 11 = .ok (.iload_n 2, 1) := by decide +kernel
theorem dX7_put_12 : decode cX7_put 12 = .ok (.iadd, 1) := by decide +kernel
theorem dX7_put_13 : decode cX7_put 13 = .ok (.iload_n 3, 1) := by decide +kernel
theorem dX7_put_14 : decode cX7_put 14 = .ok (.iastore, 1) := by decide +kernel
theorem dX7_put_15 : decode cX7_put 15 = .ok (.return_, 1) := by decide +kernel
theorem dX7_ofLamp_0 : decode cX7_ofLamp 0 = .ok (.aload_n 0, 1) := by decide +kernel
theorem dX7_ofLamp_1 : decode cX7_ofLamp 1 = .ok (.getfield 7, 3) := by decide +kernel
theorem dX7_ofLamp_4 : decode cX7_ofLamp 4 = .ok (.bipush 8, 2) := by decide +kernel
theorem dX7_ofLamp_6 : decode cX7_ofLamp 6 = .ok (.iconst 4, 1) := by decide +kernel
theorem dX7_ofLamp_7 : decode cX7_ofLamp 7 = .ok (.iload_n 1, 1) := by decide +kernel
theorem dX7_ofLamp_8 : decode cX7_ofLamp 8 = .ok (.imul, 1) := by decide +kernel
theorem dX7_ofLamp_9 : decode cX7_ofLamp 9 = .ok (.iadd, 1) := by decide +kernel
theorem dX7_ofLamp_10 : decode cX7_ofLamp 10 = .ok (.iload_n 2, 1) := by decide +kernel
theorem dX7_ofLamp_11 : decode cX7_ofLamp 11 = .ok (.iadd, 1) := by decide +kernel
theorem dX7_ofLamp_12 : decode cX7_ofLamp 12 = .ok (.iaload, 1) := by decide +kernel
theorem dX7_ofLamp_13 : decode cX7_ofLamp 13 = .ok (.ireturn, 1) := by decide +kernel
theorem dX7_putLamp_0 : decode cX7_putLamp 0 = .ok (.aload_n 0, 1) := by decide +kernel
theorem dX7_putLamp_1 : decode cX7_putLamp 1 = .ok (.getfield 7, 3) := by decide +kernel
theorem dX7_putLamp_4 : decode cX7_putLamp 4 = .ok (.bipush 8, 2) := by decide +kernel
theorem dX7_putLamp_6 : decode cX7_putLamp 6 = .ok (.iconst 4, 1) := by decide +kernel
theorem dX7_putLamp_7 : decode cX7_putLamp 7 = .ok (.iload_n 1, 1) := by decide +kernel
theorem dX7_putLamp_8 : decode cX7_putLamp 8 = .ok (.imul, 1) := by decide +kernel
theorem dX7_putLamp_9 : decode cX7_putLamp 9 = .ok (.iadd, 1) := by decide +kernel
theorem dX7_putLamp_10 : decode cX7_putLamp 10 = .ok (.iload_n 2, 1) := by decide +kernel
theorem dX7_putLamp_11 : decode cX7_putLamp 11 = .ok (.iadd, 1) := by decide +kernel
theorem dX7_putLamp_12 : decode cX7_putLamp 12 = .ok (.iload_n 3, 1) := by decide +kernel
theorem dX7_putLamp_13 : decode cX7_putLamp 13 = .ok (.iastore, 1) := by decide +kernel
theorem dX7_putLamp_14 : decode cX7_putLamp 14 = .ok (.return_, 1) := by decide +kernel
theorem dX7_putAside_0 : decode cX7_putAside 0 = .ok (.iconst 0, 1) := by decide +kernel
theorem dX7_putAside_1 : decode cX7_putAside 1 = .ok (.istore_n 1, 1) := by decide +kernel
theorem dX7_putAside_2 : decode cX7_putAside 2 = .ok (.iload_n 1, 1) := by decide +kernel
theorem dX7_putAside_3 : decode cX7_putAside 3 = .ok (.bipush 63, 2) := by decide +kernel
theorem dX7_putAside_5 : decode cX7_putAside 5 = .ok (.if_icmp .ge 21, 3) := by decide +kernel
theorem dX7_putAside_8 : decode cX7_putAside 8 = .ok (.aload_n 0, 1) := by decide +kernel
theorem dX7_putAside_9 : decode cX7_putAside 9 = .ok (.getfield 19, 3) := by decide +kernel
theorem dX7_putAside_12 : decode cX7_putAside 12 = .ok (.iload_n 1, 1) := by decide +kernel
theorem dX7_putAside_13 : decode cX7_putAside 13 = .ok (.aload_n 0, 1) := by decide +kernel
theorem dX7_putAside_14 : decode cX7_putAside 14 = .ok (.getfield 7, 3) := by decide +kernel
theorem dX7_putAside_17 : decode cX7_putAside 17 = .ok (.iload_n 1, 1) := by decide +kernel
theorem dX7_putAside_18 : decode cX7_putAside 18 = .ok (.iaload, 1) := by decide +kernel
theorem dX7_putAside_19 : decode cX7_putAside 19 = .ok (.iastore, 1) := by decide +kernel
theorem dX7_putAside_20 : decode cX7_putAside 20 = .ok (.iinc 1 1, 3) := by decide +kernel
theorem dX7_putAside_23 : decode cX7_putAside 23 = .ok (.goto (-21), 3) := by decide +kernel
theorem dX7_putAside_26 : decode cX7_putAside 26 = .ok (.return_, 1) := by decide +kernel
theorem dX7_putBack_0 : decode cX7_putBack 0 = .ok (.iconst 0, 1) := by decide +kernel
theorem dX7_putBack_1 : decode cX7_putBack 1 = .ok (.istore_n 1, 1) := by decide +kernel
theorem dX7_putBack_2 : decode cX7_putBack 2 = .ok (.iload_n 1, 1) := by decide +kernel
theorem dX7_putBack_3 : decode cX7_putBack 3 = .ok (.bipush 63, 2) := by decide +kernel
theorem dX7_putBack_5 : decode cX7_putBack 5 = .ok (.if_icmp .ge 21, 3) := by decide +kernel
theorem dX7_putBack_8 : decode cX7_putBack 8 = .ok (.aload_n 0, 1) := by decide +kernel
theorem dX7_putBack_9 : decode cX7_putBack 9 = .ok (.getfield 7, 3) := by decide +kernel
theorem dX7_putBack_12 : decode cX7_putBack 12 = .ok (.iload_n 1, 1) := by decide +kernel
theorem dX7_putBack_13 : decode cX7_putBack 13 = .ok (.aload_n 0, 1) := by decide +kernel
theorem dX7_putBack_14 : decode cX7_putBack 14 = .ok (.getfield 19, 3) := by decide +kernel
theorem dX7_putBack_17 : decode cX7_putBack 17 = .ok (.iload_n 1, 1) := by decide +kernel
theorem dX7_putBack_18 : decode cX7_putBack 18 = .ok (.iaload, 1) := by decide +kernel
theorem dX7_putBack_19 : decode cX7_putBack 19 = .ok (.iastore, 1) := by decide +kernel
theorem dX7_putBack_20 : decode cX7_putBack 20 = .ok (.iinc 1 1, 3) := by decide +kernel
theorem dX7_putBack_23 : decode cX7_putBack 23 = .ok (.goto (-21), 3) := by decide +kernel
theorem dX7_putBack_26 : decode cX7_putBack 26 = .ok (.return_, 1) := by decide +kernel
theorem dX7_record_0 : decode cX7_record 0 = .ok (.aload_n 0, 1) := by decide +kernel
theorem dX7_record_1 : decode cX7_record 1 = .ok (.getfield 55, 3) := by decide +kernel
theorem dX7_record_4 : decode cX7_record 4 = .ok (.iconst 4, 1) := by decide +kernel
theorem dX7_record_5 : decode cX7_record 5 = .ok (.if_icmp .ne 43, 3) := by decide +kernel
theorem dX7_record_8 : decode cX7_record 8 = .ok (.iconst 0, 1) := by decide +kernel
theorem dX7_record_9 : decode cX7_record 9 = .ok (.istore_n 1, 1) := by decide +kernel
theorem dX7_record_10 : decode cX7_record 10 = .ok (.iload_n 1, 1) := by decide +kernel
theorem dX7_record_11 : decode cX7_record 11 = .ok (.sipush 189, 3) := by decide +kernel
theorem dX7_record_14 : decode cX7_record 14 = .ok (.if_icmp .ge 24, 3) := by decide +kernel
theorem dX7_record_17 : decode cX7_record 17 = .ok (.aload_n 0, 1) := by decide +kernel
theorem dX7_record_18 : decode cX7_record 18 = .ok (.getfield 13, 3) := by decide +kernel
theorem dX7_record_21 : decode cX7_record 21 = .ok (.iload_n 1, 1) := by decide +kernel
theorem dX7_record_22 : decode cX7_record 22 = .ok (.aload_n 0, 1) := by decide +kernel
theorem dX7_record_23 : decode cX7_record 23 = .ok (.getfield 13, 3) := by decide +kernel
theorem dX7_record_26 : decode cX7_record 26 = .ok (.iload_n 1, 1) := by decide +kernel
theorem dX7_record_27 : decode cX7_record 27 = .ok (.bipush 63, 2) := by decide +kernel
theorem dX7_record_29 : decode cX7_record 29 = .ok (.iadd, 1) := by decide +kernel
theorem dX7_record_30 : decode cX7_record 30 = .ok (.iaload, 1) := by decide +kernel
theorem dX7_record_31 : decode cX7_record 31 = .ok (.iastore, 1) := by decide +kernel
theorem dX7_record_32 : decode cX7_record 32 = .ok (.iinc 1 1, 3) := by decide +kernel
theorem dX7_record_35 : decode cX7_record 35 = .ok (.goto (-25), 3) := by decide +kernel
theorem dX7_record_38 : decode cX7_record 38 = .ok (.aload_n 0, 1) := by decide +kernel
theorem dX7_record_39 : decode cX7_record 39 = .ok (.dup, 1) := by decide +kernel
theorem dX7_record_40 : decode cX7_record 40 = .ok (.getfield 55, 3) := by decide +kernel
theorem dX7_record_43 : decode cX7_record 43 = .ok (.iconst 1, 1) := by decide +kernel
theorem dX7_record_44 : decode cX7_record 44 = .ok (.isub, 1) := by decide +kernel
theorem dX7_record_45 : decode cX7_record 45 = .ok (.putfield 55, 3) := by decide +kernel
theorem dX7_record_48 : decode cX7_record 48 = .ok (.iconst 0, 1) := by decide +kernel
theorem dX7_record_49 : decode cX7_record 49 = .ok (.istore_n 1, 1) := by decide +kernel
theorem dX7_record_50 : decode cX7_record 50 = .ok (.iload_n 1, 1) := by decide +kernel
theorem dX7_record_51 : decode cX7_record 51 = .ok (.bipush 63, 2) := by decide +kernel
theorem dX7_record_53 : decode cX7_record 53 = .ok (.if_icmp .ge 29, 3) := by decide +kernel
theorem dX7_record_56 : decode cX7_record 56 = .ok (.aload_n 0, 1) := by decide +kernel
theorem dX7_record_57 : decode cX7_record 57 = .ok (.getfield 13, 3) := by decide +kernel
theorem dX7_record_60 : decode cX7_record 60 = .ok (.bipush 63, 2) := by decide +kernel
theorem dX7_record_62 : decode cX7_record 62 = .ok (.aload_n 0, 1) := by decide +kernel
theorem dX7_record_63 : decode cX7_record 63 = .ok (.getfield 55, 3) := by decide +kernel
theorem dX7_record_66 : decode cX7_record 66 = .ok (.imul, 1) := by decide +kernel
theorem dX7_record_67 : decode cX7_record 67 = .ok (.iload_n 1, 1) := by decide +kernel
theorem dX7_record_68 : decode cX7_record 68 = .ok (.iadd, 1) := by decide +kernel
theorem dX7_record_69 : decode cX7_record 69 = .ok (.aload_n 0, 1) := by decide +kernel
theorem dX7_record_70 : decode cX7_record 70 = .ok (.getfield 19, 3) := by decide +kernel
theorem dX7_record_73 : decode cX7_record 73 = .ok (.iload_n 1, 1) := by decide +kernel
theorem dX7_record_74 : decode cX7_record 74 = .ok (.iaload, 1) := by decide +kernel
theorem dX7_record_75 : decode cX7_record 75 = .ok (.iastore, 1) := by decide +kernel
theorem dX7_record_76 : decode cX7_record 76 = .ok (.iinc 1 1, 3) := by decide +kernel
theorem dX7_record_79 : decode cX7_record 79 = .ok (.goto (-29), 3) := by decide +kernel
theorem dX7_record_82 : decode cX7_record 82 = .ok (.aload_n 0, 1) := by decide +kernel
theorem dX7_record_83 : decode cX7_record 83 = .ok (.dup, 1) := by decide +kernel
theorem dX7_record_84 : decode cX7_record 84 = .ok (.getfield 55, 3) := by decide +kernel
theorem dX7_record_87 : decode cX7_record 87 = .ok (.iconst 1, 1) := by decide +kernel
theorem dX7_record_88 : decode cX7_record 88 = .ok (.iadd, 1) := by decide +kernel
theorem dX7_record_89 : decode cX7_record 89 = .ok (.putfield 55, 3) := by decide +kernel
theorem dX7_record_92 : decode cX7_record 92 = .ok (.return_, 1) := by decide +kernel
theorem dX7_acted_0 : decode cX7_acted 0 = .ok (.iload_n 1, 1) := by decide +kernel
theorem dX7_acted_1 : decode cX7_acted 1 = .ok (.ifCond .lt 7, 3) := by decide +kernel
theorem dX7_acted_4 : decode cX7_acted 4 = .ok (.aload_n 0, 1) := by decide +kernel
theorem dX7_acted_5 : decode cX7_acted 5 = .ok (.invokevirtual 58, 3) := by decide +kernel
theorem dX7_acted_8 : decode cX7_acted 8 = .ok (.iload_n 1, 1) := by decide +kernel
theorem dX7_acted_9 : decode cX7_acted 9 = .ok (.ireturn, 1) := by decide +kernel
theorem dX7_undo_0 : decode cX7_undo 0 = .ok (.aload_n 0, 1) := by decide +kernel
theorem dX7_undo_1 : decode cX7_undo 1 = .ok (.getfield 55, 3) := by decide +kernel
theorem dX7_undo_4 : decode cX7_undo 4 = .ok (.ifCond .ne 6, 3) := by decide +kernel
theorem dX7_undo_7 : decode cX7_undo 7 = .ok (.bipush (-5), 2) := by decide +kernel
theorem dX7_undo_9 : decode cX7_undo 9 = .ok (.ireturn, 1) := by decide +kernel
theorem dX7_undo_10 : decode cX7_undo 10 = .ok (.aload_n 0, 1) := by decide +kernel
theorem dX7_undo_11 : decode cX7_undo 11 = .ok (.dup, 1) := by decide +kernel
theorem dX7_undo_12 : decode cX7_undo 12 = .ok (.getfield 55, 3) := by decide +kernel
theorem dX7_undo_15 : decode cX7_undo 15 = .ok (.iconst 1, 1) := by decide +kernel
theorem dX7_undo_16 : decode cX7_undo 16 = .ok (.isub, 1) := by decide +kernel
theorem dX7_undo_17 : decode cX7_undo 17 = .ok (.putfield 55, 3) := by decide +kernel
theorem dX7_undo_20 : decode cX7_undo 20 = .ok (.iconst 0, 1) := by decide +kernel
theorem dX7_undo_21 : decode cX7_undo 21 = .ok (.istore_n 1, 1) := by decide +kernel
theorem dX7_undo_22 : decode cX7_undo 22 = .ok (.iload_n 1, 1) := by decide +kernel
theorem dX7_undo_23 : decode cX7_undo 23 = .ok (.bipush 63, 2) := by decide +kernel
theorem dX7_undo_25 : decode cX7_undo 25 = .ok (.if_icmp .ge 29, 3) := by decide +kernel
theorem dX7_undo_28 : decode cX7_undo 28 = .ok (.aload_n 0, 1) := by decide +kernel
theorem dX7_undo_29 : decode cX7_undo 29 = .ok (.getfield 7, 3) := by decide +kernel
theorem dX7_undo_32 : decode cX7_undo 32 = .ok (.iload_n 1, 1) := by decide +kernel
theorem dX7_undo_33 : decode cX7_undo 33 = .ok (.aload_n 0, 1) := by decide +kernel
theorem dX7_undo_34 : decode cX7_undo 34 = .ok (.getfield 13, 3) := by decide +kernel
theorem dX7_undo_37 : decode cX7_undo 37 = .ok (.bipush 63, 2) := by decide +kernel
theorem dX7_undo_39 : decode cX7_undo 39 = .ok (.aload_n 0, 1) := by decide +kernel
theorem dX7_undo_40 : decode cX7_undo 40 = .ok (.getfield 55, 3) := by decide +kernel
theorem dX7_undo_43 : decode cX7_undo 43 = .ok (.imul, 1) := by decide +kernel
theorem dX7_undo_44 : decode cX7_undo 44 = .ok (.iload_n 1, 1) := by decide +kernel
theorem dX7_undo_45 : decode cX7_undo 45 = .ok (.iadd, 1) := by decide +kernel
theorem dX7_undo_46 : decode cX7_undo 46 = .ok (.iaload, 1) := by decide +kernel
theorem dX7_undo_47 : decode cX7_undo 47 = .ok (.iastore, 1) := by decide +kernel
theorem dX7_undo_48 : decode cX7_undo 48 = .ok (.iinc 1 1, 3) := by decide +kernel
theorem dX7_undo_51 : decode cX7_undo 51 = .ok (.goto (-29), 3) := by decide +kernel
theorem dX7_undo_54 : decode cX7_undo 54 = .ok (.aload_n 0, 1) := by decide +kernel
theorem dX7_undo_55 : decode cX7_undo 55 = .ok (.getfield 55, 3) := by decide +kernel
theorem dX7_undo_58 : decode cX7_undo 58 = .ok (.ireturn, 1) := by decide +kernel
theorem dX7_keep_0 : decode cX7_keep 0 = .ok (.iconst 0, 1) := by decide +kernel
theorem dX7_keep_1 : decode cX7_keep 1 = .ok (.istore_n 1, 1) := by decide +kernel
theorem dX7_keep_2 : decode cX7_keep 2 = .ok (.iload_n 1, 1) := by decide +kernel
theorem dX7_keep_3 : decode cX7_keep 3 = .ok (.bipush 63, 2) := by decide +kernel
theorem dX7_keep_5 : decode cX7_keep 5 = .ok (.if_icmp .ge 21, 3) := by decide +kernel
theorem dX7_keep_8 : decode cX7_keep 8 = .ok (.aload_n 0, 1) := by decide +kernel
theorem dX7_keep_9 : decode cX7_keep 9 = .ok (.getfield 16, 3) := by decide +kernel
theorem dX7_keep_12 : decode cX7_keep 12 = .ok (.iload_n 1, 1) := by decide +kernel
theorem dX7_keep_13 : decode cX7_keep 13 = .ok (.aload_n 0, 1) := by decide +kernel
theorem dX7_keep_14 : decode cX7_keep 14 = .ok (.getfield 7, 3) := by decide +kernel
theorem dX7_keep_17 : decode cX7_keep 17 = .ok (.iload_n 1, 1) := by decide +kernel
theorem dX7_keep_18 : decode cX7_keep 18 = .ok (.iaload, 1) := by decide +kernel
theorem dX7_keep_19 : decode cX7_keep 19 = .ok (.iastore, 1) := by decide +kernel
theorem dX7_keep_20 : decode cX7_keep 20 = .ok (.iinc 1 1, 3) := by decide +kernel
theorem dX7_keep_23 : decode cX7_keep 23 = .ok (.goto (-21), 3) := by decide +kernel
theorem dX7_keep_26 : decode cX7_keep 26 = .ok (.aload_n 0, 1) := by decide +kernel
theorem dX7_keep_27 : decode cX7_keep 27 = .ok (.iconst 1, 1) := by decide +kernel
theorem dX7_keep_28 : decode cX7_keep 28 = .ok (.putfield 61, 3) := by decide +kernel
theorem dX7_keep_31 : decode cX7_keep 31 = .ok (.aload_n 0, 1) := by decide +kernel
theorem dX7_keep_32 : decode cX7_keep 32 = .ok (.getfield 7, 3) := by decide +kernel
theorem dX7_keep_35 : decode cX7_keep 35 = .ok (.bipush 20, 2) := by decide +kernel
theorem dX7_keep_37 : decode cX7_keep 37 = .ok (.iaload, 1) := by decide +kernel
theorem dX7_keep_38 : decode cX7_keep 38 = .ok (.ireturn, 1) := by decide +kernel
theorem dX7_restore_0 : decode cX7_restore 0 = .ok (.aload_n 0, 1) := by decide +kernel
theorem dX7_restore_1 : decode cX7_restore 1 = .ok (.getfield 61, 3) := by decide +kernel
theorem dX7_restore_4 : decode cX7_restore 4 = .ok (.ifCond .ne 6, 3) := by decide +kernel
theorem dX7_restore_7 : decode cX7_restore 7 = .ok (.bipush (-5), 2) := by decide +kernel
theorem dX7_restore_9 : decode cX7_restore 9 = .ok (.ireturn, 1) := by decide +kernel
theorem dX7_restore_10 : decode cX7_restore 10 = .ok (.aload_n 0, 1) := by decide +kernel
theorem dX7_restore_11 : decode cX7_restore 11 = .ok (.invokevirtual 65, 3) := by decide +kernel
theorem dX7_restore_14 : decode cX7_restore 14 = .ok (.aload_n 0, 1) := by decide +kernel
theorem dX7_restore_15 : decode cX7_restore 15 = .ok (.invokevirtual 58, 3) := by decide +kernel
theorem dX7_restore_18 : decode cX7_restore 18 = .ok (.iconst 0, 1) := by decide +kernel
theorem dX7_restore_19 : decode cX7_restore 19 = .ok (.istore_n 1, 1) := by decide +kernel
theorem dX7_restore_20 : decode cX7_restore 20 = .ok (.iload_n 1, 1) := by decide +kernel
theorem dX7_restore_21 : decode cX7_restore 21 = .ok (.bipush 63, 2) := by decide +kernel
theorem dX7_restore_23 : decode cX7_restore 23 = .ok (.if_icmp .ge 21, 3) := by decide +kernel
theorem dX7_restore_26 : decode cX7_restore 26 = .ok (.aload_n 0, 1) := by decide +kernel
theorem dX7_restore_27 : decode cX7_restore 27 = .ok (.getfield 7, 3) := by decide +kernel
theorem dX7_restore_30 : decode cX7_restore 30 = .ok (.iload_n 1, 1) := by decide +kernel
theorem dX7_restore_31 : decode cX7_restore 31 = .ok (.aload_n 0, 1) := by decide +kernel
theorem dX7_restore_32 : decode cX7_restore 32 = .ok (.getfield 16, 3) := by decide +kernel
theorem dX7_restore_35 : decode cX7_restore 35 = .ok (.iload_n 1, 1) := by decide +kernel
theorem dX7_restore_36 : decode cX7_restore 36 = .ok (.iaload, 1) := by decide +kernel
theorem dX7_restore_37 : decode cX7_restore 37 = .ok (.iastore, 1) := by decide +kernel
theorem dX7_restore_38 : decode cX7_restore 38 = .ok (.iinc 1 1, 3) := by decide +kernel
theorem dX7_restore_41 : decode cX7_restore 41 = .ok (.goto (-21), 3) := by decide +kernel
theorem dX7_restore_44 : decode cX7_restore 44 = .ok (.aload_n 0, 1) := by decide +kernel
theorem dX7_restore_45 : decode cX7_restore 45 = .ok (.getfield 7, 3) := by decide +kernel
theorem dX7_restore_48 : decode cX7_restore 48 = .ok (.bipush 20, 2) := by decide +kernel
theorem dX7_restore_50 : decode cX7_restore 50 = .ok (.iaload, 1) := by decide +kernel
theorem dX7_restore_51 : decode cX7_restore 51 = .ok (.ireturn, 1) := by decide +kernel
theorem dX7_next_0 : decode cX7_next 0 = .ok (.iload_n 1, 1) := by decide +kernel
theorem dX7_next_1 : decode cX7_next 1 = .ok (.tableswitch 77 0 2 #[27, 43, 61], 27) := by decide +kernel
theorem dX7_next_28 : decode cX7_next 28 = .ok (.iload_n 0, 1) := by decide +kernel
theorem dX7_next_29 : decode cX7_next 29 = .ok (.bipush 10, 2) := by decide +kernel
theorem dX7_next_31 : decode cX7_next 31 = .ok (.if_icmp .ge 8, 3) := by decide +kernel
theorem dX7_next_34 : decode cX7_next 34 = .ok (.bipush (-5), 2) := by decide +kernel
theorem dX7_next_36 : decode cX7_next 36 = .ok (.goto 7, 3) := by decide +kernel
theorem dX7_next_39 : decode cX7_next 39 = .ok (.iload_n 0, 1) := by decide +kernel
theorem dX7_next_40 : decode cX7_next 40 = .ok (.bipush 10, 2) := by decide +kernel
theorem dX7_next_42 : decode cX7_next 42 = .ok (.isub, 1) := by decide +kernel
theorem dX7_next_43 : decode cX7_next 43 = .ok (.ireturn, 1) := by decide +kernel
theorem dX7_next_44 : decode cX7_next 44 = .ok (.iload_n 0, 1) := by decide +kernel
theorem dX7_next_45 : decode cX7_next 45 = .ok (.bipush 10, 2) := by decide +kernel
theorem dX7_next_47 : decode cX7_next 47 = .ok (.irem, 1) := by decide +kernel
theorem dX7_next_48 : decode cX7_next 48 = .ok (.bipush 9, 2) := by decide +kernel
theorem dX7_next_50 : decode cX7_next 50 = .ok (.if_icmp .ne 8, 3) := by decide +kernel
theorem dX7_next_53 : decode cX7_next 53 = .ok (.bipush (-5), 2) := by decide +kernel
theorem dX7_next_55 : decode cX7_next 55 = .ok (.goto 6, 3) := by decide +kernel
theorem dX7_next_58 : decode cX7_next 58 = .ok (.iload_n 0, 1) := by decide +kernel
theorem dX7_next_59 : decode cX7_next 59 = .ok (.iconst 1, 1) := by decide +kernel
theorem dX7_next_60 : decode cX7_next 60 = .ok (.iadd, 1) := by decide +kernel
theorem dX7_next_61 : decode cX7_next 61 = .ok (.ireturn, 1) := by decide +kernel
theorem dX7_next_62 : decode cX7_next 62 = .ok (.iload_n 0, 1) := by decide +kernel
theorem dX7_next_63 : decode cX7_next 63 = .ok (.bipush 89, 2) := by decide +kernel
theorem dX7_next_65 : decode cX7_next 65 = .ok (.if_icmp .le 8, 3) := by decide +kernel
theorem dX7_next_68 : decode cX7_next 68 = .ok (.bipush (-5), 2) := by decide +kernel
theorem dX7_next_70 : decode cX7_next 70 = .ok (.goto 7, 3) := by decide +kernel
theorem dX7_next_73 : decode cX7_next 73 = .ok (.iload_n 0, 1) := by decide +kernel
theorem dX7_next_74 : decode cX7_next 74 = .ok (.bipush 10, 2) := by decide +kernel
theorem dX7_next_76 : decode cX7_next 76 = .ok (.iadd, 1) := by decide +kernel
theorem dX7_next_77 : decode cX7_next 77 = .ok (.ireturn, 1) := by decide +kernel
theorem dX7_next_78 : decode cX7_next 78 = .ok (.iload_n 0, 1) := by decide +kernel
theorem dX7_next_79 : decode cX7_next 79 = .ok (.bipush 10, 2) := by decide +kernel
theorem dX7_next_81 : decode cX7_next 81 = .ok (.irem, 1) := by decide +kernel
theorem dX7_next_82 : decode cX7_next 82 = .ok (.ifCond .ne 8, 3) := by decide +kernel
theorem dX7_next_85 : decode cX7_next 85 = .ok (.bipush (-5), 2) := by decide +kernel
theorem dX7_next_87 : decode cX7_next 87 = .ok (.goto 6, 3) := by decide +kernel
theorem dX7_next_90 : decode cX7_next 90 = .ok (.iload_n 0, 1) := by decide +kernel
theorem dX7_next_91 : decode cX7_next 91 = .ok (.iconst 1, 1) := by decide +kernel
theorem dX7_next_92 : decode cX7_next 92 = .ok (.isub, 1) := by decide +kernel
theorem dX7_next_93 : decode cX7_next 93 = .ok (.ireturn, 1) := by decide +kernel
theorem dX7_runnerAt_0 : decode cX7_runnerAt 0 = .ok (.bipush (-5), 2) := by decide +kernel
theorem dX7_runnerAt_2 : decode cX7_runnerAt 2 = .ok (.istore_n 2, 1) := by decide +kernel
theorem dX7_runnerAt_3 : decode cX7_runnerAt 3 = .ok (.iconst 0, 1) := by decide +kernel
theorem dX7_runnerAt_4 : decode cX7_runnerAt 4 = .ok (.istore_n 3, 1) := by decide +kernel
theorem dX7_runnerAt_5 : decode cX7_runnerAt 5 = .ok (.iload_n 3, 1) := by decide +kernel
theorem dX7_runnerAt_6 : decode cX7_runnerAt 6 = .ok (.aload_n 0, 1) := by decide +kernel
theorem dX7_runnerAt_7 : decode cX7_runnerAt 7 = .ok (.getfield 7, 3) := by decide +kernel
theorem dX7_runnerAt_10 : decode cX7_runnerAt 10 = .ok (.bipush 20, 2) := by decide +kernel
theorem dX7_runnerAt_12 : decode cX7_runnerAt 12 = .ok (.iaload, 1) := by decide +kernel
theorem dX7_runnerAt_13 : decode cX7_runnerAt 13 = .ok (.if_icmp .ge 25, 3) := by decide +kernel
theorem dX7_runnerAt_16 : decode cX7_runnerAt 16 = .ok (.aload_n 0, 1) := by decide +kernel
theorem dX7_runnerAt_17 : decode cX7_runnerAt 17 = .ok (.iload_n 3, 1) := by decide +kernel
theorem dX7_runnerAt_18 : decode cX7_runnerAt 18 = .ok (.iconst 0, 1) := by decide +kernel
theorem dX7_runnerAt_19 : decode cX7_runnerAt 19 = .ok (.invokevirtual 68, 3) := by decide +kernel
theorem dX7_runnerAt_22 : decode cX7_runnerAt 22 = .ok (.iload_n 1, 1) := by decide +kernel
theorem dX7_runnerAt_23 : decode cX7_runnerAt 23 = .ok (.if_icmp .ne 7, 3) := by decide +kernel
theorem dX7_runnerAt_26 : decode cX7_runnerAt 26 = .ok (.iload_n 3, 1) := by decide +kernel
theorem dX7_runnerAt_27 : decode cX7_runnerAt 27 = .ok (.goto 4, 3) := by decide +kernel
theorem dX7_runnerAt_30 : decode cX7_runnerAt 30 = .ok (.iload_n 2, 1) := by decide +kernel
theorem dX7_runnerAt_31 : decode cX7_runnerAt 31 = .ok (.istore_n 2, 1) := by decide +kernel
theorem dX7_runnerAt_32 : decode cX7_runnerAt 32 = .ok (.iinc 3 1, 3) := by decide +kernel
theorem dX7_runnerAt_35 : decode cX7_runnerAt 35 = .ok (.goto (-30), 3) := by decide +kernel
theorem dX7_runnerAt_38 : decode cX7_runnerAt 38 = .ok (.iload_n 2, 1) := by decide +kernel
theorem dX7_runnerAt_39 : decode cX7_runnerAt 39 = .ok (.ireturn, 1) := by decide +kernel
theorem dX7_follow_0 : decode cX7_follow 0 = .ok (.aload_n 0, 1) := by decide +kernel
theorem dX7_follow_1 : decode cX7_follow 1 = .ok (.iconst 0, 1) := by decide +kernel
theorem dX7_follow_2 : decode cX7_follow 2 = .ok (.putfield 72, 3) := by decide +kernel
theorem dX7_follow_5 : decode cX7_follow 5 = .ok (.aload_n 0, 1) := by decide +kernel
theorem dX7_follow_6 : decode cX7_follow 6 = .ok (.bipush (-5), 2) := by decide +kernel
theorem dX7_follow_8 : decode cX7_follow 8 = .ok (.putfield 75, 3) := by decide +kernel
theorem dX7_follow_11 : decode cX7_follow 11 = .ok (.aload_n 0, 1) := by decide +kernel
theorem dX7_follow_12 : decode cX7_follow 12 = .ok (.iload_n 2, 1) := by decide +kernel
theorem dX7_follow_13 : decode cX7_follow 13 = .ok (.iconst 3, 1) := by decide +kernel
theorem dX7_follow_14 : decode cX7_follow 14 = .ok (.invokevirtual 78, 3) := by decide +kernel
theorem dX7_follow_17 : decode cX7_follow 17 = .ok (.iconst 1, 1) := by decide +kernel
theorem dX7_follow_18 : decode cX7_follow 18 = .ok (.if_icmp .ne 19, 3) := by decide +kernel
theorem dX7_follow_21 : decode cX7_follow 21 = .ok (.aload_n 0, 1) := by decide +kernel
theorem dX7_follow_22 : decode cX7_follow 22 = .ok (.iload_n 1, 1) := by decide +kernel
theorem dX7_follow_23 : decode cX7_follow 23 = .ok (.iconst 1, 1) := by decide +kernel
theorem dX7_follow_24 : decode cX7_follow 24 = .ok (.invokevirtual 68, 3) := by decide +kernel
theorem dX7_follow_27 : decode cX7_follow 27 = .ok (.aload_n 0, 1) := by decide +kernel
theorem dX7_follow_28 : decode cX7_follow 28 = .ok (.iload_n 2, 1) := by decide +kernel
theorem dX7_follow_29 : decode cX7_follow 29 = .ok (.iconst 1, 1) := by decide +kernel
theorem dX7_follow_30 : decode cX7_follow 30 = .ok (.invokevirtual 78, 3) := by decide +kernel
theorem dX7_follow_33 : decode cX7_follow 33 = .ok (.imul, 1) := by decide +kernel
theorem dX7_follow_34 : decode cX7_follow 34 = .ok (.goto 4, 3) := by decide +kernel
theorem dX7_follow_37 : decode cX7_follow 37 = .ok (.iconst 0, 1) := by decide +kernel
theorem dX7_follow_38 : decode cX7_follow 38 = .ok (.istore_n 3, 1) := by decide +kernel
theorem dX7_follow_39 : decode cX7_follow 39 = .ok (.aload_n 0, 1) := by decide +kernel
theorem dX7_follow_40 : decode cX7_follow 40 = .ok (.iload_n 1, 1) := by decide +kernel
theorem dX7_follow_41 : decode cX7_follow 41 = .ok (.iconst 0, 1) := by decide +kernel
theorem dX7_follow_42 : decode cX7_follow 42 = .ok (.invokevirtual 68, 3) := by decide +kernel
theorem dX7_follow_45 : decode cX7_follow 45 = .ok (.istore 4, 2) := by decide +kernel
theorem dX7_follow_47 : decode cX7_follow 47 = .ok (.aload_n 0, 1) := by decide +kernel
theorem dX7_follow_48 : decode cX7_follow 48 = .ok (.getfield 72, 3) := by decide +kernel
theorem dX7_follow_51 : decode cX7_follow 51 = .ok (.iload_n 3, 1) := by decide +kernel
theorem dX7_follow_52 : decode cX7_follow 52 = .ok (.if_icmp .ge 77, 3) := by decide +kernel
theorem dX7_follow_55 : decode cX7_follow 55 = .ok (.aload_n 0, 1) := by decide +kernel
theorem dX7_follow_56 : decode cX7_follow 56 = .ok (.getfield 75, 3) := by decide +kernel
theorem dX7_follow_59 : decode cX7_follow 59 = .ok (.bipush (-5), 2) := by decide +kernel
theorem dX7_follow_61 : decode cX7_follow 61 = .ok (.if_icmp .ne 68, 3) := by decide +kernel
theorem dX7_follow_64 : decode cX7_follow 64 = .ok (.iload 4, 2) := by decide +kernel
theorem dX7_follow_66 : decode cX7_follow 66 = .ok (.bipush (-5), 2) := by decide +kernel
theorem dX7_follow_68 : decode cX7_follow 68 = .ok (.if_icmp .eq 61, 3) := by decide +kernel
theorem dX7_follow_71 : decode cX7_follow 71 = .ok (.iload 4, 2) := by decide +kernel
theorem dX7_follow_73 : decode cX7_follow 73 = .ok (.aload_n 0, 1) := by decide +kernel
theorem dX7_follow_74 : decode cX7_follow 74 = .ok (.iload_n 2, 1) := by decide +kernel
theorem dX7_follow_75 : decode cX7_follow 75 = .ok (.iconst 0, 1) := by decide +kernel
theorem dX7_follow_76 : decode cX7_follow 76 = .ok (.invokevirtual 78, 3) := by decide +kernel
theorem dX7_follow_79 : decode cX7_follow 79 = .ok (.iconst 2, 1) := by decide +kernel
theorem dX7_follow_80 : decode cX7_follow 80 = .ok (.iadd, 1) := by decide +kernel
theorem dX7_follow_81 : decode cX7_follow 81 = .ok (.iconst 4, 1) := by decide +kernel
theorem dX7_follow_82 : decode cX7_follow 82 = .ok (.irem, 1) := by decide +kernel
theorem dX7_follow_83 : decode cX7_follow 83 = .ok (.invokestatic 81, 3) := by decide +kernel
theorem dX7_follow_86 : decode cX7_follow 86 = .ok (.istore 4, 2) := by decide +kernel
theorem dX7_follow_88 : decode cX7_follow 88 = .ok (.iload 4, 2) := by decide +kernel
theorem dX7_follow_90 : decode cX7_follow 90 = .ok (.bipush (-5), 2) := by decide +kernel
theorem dX7_follow_92 : decode cX7_follow 92 = .ok (.if_icmp .eq (-45), 3) := by decide +kernel
theorem dX7_follow_95 : decode cX7_follow 95 = .ok (.aload_n 0, 1) := by decide +kernel
theorem dX7_follow_96 : decode cX7_follow 96 = .ok (.getfield 22, 3) := by decide +kernel
theorem dX7_follow_99 : decode cX7_follow 99 = .ok (.aload_n 0, 1) := by decide +kernel
theorem dX7_follow_100 : decode cX7_follow 100 = .ok (.getfield 72, 3) := by decide +kernel
theorem dX7_follow_103 : decode cX7_follow 103 = .ok (.iload 4, 2) := by decide +kernel
theorem dX7_follow_105 : decode cX7_follow 105 = .ok (.iastore, 1) := by decide +kernel
theorem dX7_follow_106 : decode cX7_follow 106 = .ok (.aload_n 0, 1) := by decide +kernel
theorem dX7_follow_107 : decode cX7_follow 107 = .ok (.dup, 1) := by decide +kernel
theorem dX7_follow_108 : decode cX7_follow 108 = .ok (.getfield 72, 3) := by decide +kernel
theorem dX7_follow_111 : decode cX7_follow 111 = .ok (.iconst 1, 1) := by decide +kernel
theorem dX7_follow_112 : decode cX7_follow 112 = .ok (.iadd, 1) := by decide +kernel
theorem dX7_follow_113 : decode cX7_follow 113 = .ok (.putfield 72, 3) := by decide +kernel
theorem dX7_follow_116 : decode cX7_follow 116 = .ok (.aload_n 0, 1) := by decide +kernel
theorem dX7_follow_117 : decode cX7_follow 117 = .ok (.aload_n 0, 1) := by decide +kernel
theorem dX7_follow_118 : decode cX7_follow 118 = .ok (.iload 4, 2) := by decide +kernel
theorem dX7_follow_120 : decode cX7_follow 120 = .ok (.invokevirtual 84, 3) := by decide +kernel
theorem dX7_follow_123 : decode cX7_follow 123 = .ok (.putfield 75, 3) := by decide +kernel
theorem dX7_follow_126 : decode cX7_follow 126 = .ok (.goto (-79), 3) := by decide +kernel
theorem dX7_follow_129 : decode cX7_follow 129 = .ok (.return_, 1) := by decide +kernel
theorem dX7_isShaded_0 : decode cX7_isShaded 0 = .ok (.aload_n 0, 1) := by decide +kernel
theorem dX7_isShaded_1 : decode cX7_isShaded 1 = .ok (.iload_n 1, 1) := by decide +kernel
theorem dX7_isShaded_2 : decode cX7_isShaded 2 = .ok (.iload_n 2, 1) := by decide +kernel
theorem dX7_isShaded_3 : decode cX7_isShaded 3 = .ok (.invokevirtual 88, 3) := by decide +kernel
theorem dX7_isShaded_6 : decode cX7_isShaded 6 = .ok (.iconst 0, 1) := by decide +kernel
theorem dX7_isShaded_7 : decode cX7_isShaded 7 = .ok (.istore 4, 2) := by decide +kernel
theorem dX7_isShaded_9 : decode cX7_isShaded 9 = .ok (.iconst 0, 1) := by decide +kernel
theorem dX7_isShaded_10 : decode cX7_isShaded 10 = .ok (.istore 5, 2) := by decide +kernel
theorem dX7_isShaded_12 : decode cX7_isShaded 12 = .ok (.iload 5, 2) := by decide +kernel
theorem dX7_isShaded_14 : decode cX7_isShaded 14 = .ok (.aload_n 0, 1) := by decide +kernel
theorem dX7_isShaded_15 : decode cX7_isShaded 15 = .ok (.getfield 72, 3) := by decide +kernel
theorem dX7_isShaded_18 : decode cX7_isShaded 18 = .ok (.if_icmp .ge 32, 3) := by decide +kernel
theorem dX7_isShaded_21 : decode cX7_isShaded 21 = .ok (.iload 4, 2) := by decide +kernel
theorem dX7_isShaded_23 : decode cX7_isShaded 23 = .ok (.ifCond .ne 14, 3) := by decide +kernel
theorem dX7_isShaded_26 : decode cX7_isShaded 26 = .ok (.aload_n 0, 1) := by decide +kernel
theorem dX7_isShaded_27 : decode cX7_isShaded 27 = .ok (.getfield 22, 3) := by decide +kernel
theorem dX7_isShaded_30 : decode cX7_isShaded 30 = .ok (.iload 5, 2) := by decide +kernel
theorem dX7_isShaded_32 : decode cX7_isShaded 32 = .ok (.iaload, 1) := by decide +kernel
theorem dX7_isShaded_33 : decode cX7_isShaded 33 = .ok (.iload_n 3, 1) := by decide +kernel
theorem dX7_isShaded_34 : decode cX7_isShaded 34 = .ok (.if_icmp .ne 7, 3) := by decide +kernel
theorem dX7_isShaded_37 : decode cX7_isShaded 37 = .ok (.iconst 1, 1) := by decide +kernel
theorem dX7_isShaded_38 : decode cX7_isShaded 38 = .ok (.goto 4, 3) := by decide +kernel
theorem dX7_isShaded_41 : decode cX7_isShaded 41 = .ok (.iconst 0, 1) := by decide +kernel
theorem dX7_isShaded_42 : decode cX7_isShaded 42 = .ok (.istore 4, 2) := by decide +kernel
theorem dX7_isShaded_44 : decode cX7_isShaded 44 = .ok (.iinc 5 1, 3) := by decide +kernel
theorem dX7_isShaded_47 : decode cX7_isShaded 47 = .ok (.goto (-35), 3) := by decide +kernel
theorem dX7_isShaded_50 : decode cX7_isShaded 50 = .ok (.iload 4, 2) := by decide +kernel
theorem dX7_isShaded_52 : decode cX7_isShaded 52 = .ok (.ireturn, 1) := by decide +kernel
theorem dX7_isInShadowOf_0 : decode cX7_isInShadowOf 0 = .ok (.iconst 0, 1) := by decide +kernel
theorem dX7_isInShadowOf_1 : decode cX7_isInShadowOf 1 = .ok (.istore_n 3, 1) := by decide +kernel
theorem dX7_isInShadowOf_2 : decode cX7_isInShadowOf 2 = .ok (.iconst 0, 1) := by decide +kernel
theorem dX7_isInShadowOf_3 : decode cX7_isInShadowOf 3 = .ok (.istore 4, 2) := by decide +kernel
theorem dX7_isInShadowOf_5 : decode cX7_isInShadowOf 5 = .ok (.iload 4, 2) := by decide +kernel
theorem dX7_isInShadowOf_7 : decode cX7_isInShadowOf 7 = .ok (.iconst 3, 1) := by decide +kernel
theorem dX7_isInShadowOf_8 : decode cX7_isInShadowOf 8 = .ok (.if_icmp .ge 30, 3) := by decide +kernel
theorem dX7_isInShadowOf_11 : decode cX7_isInShadowOf 11 = .ok (.iload_n 3, 1) := by decide +kernel
theorem dX7_isInShadowOf_12 : decode cX7_isInShadowOf 12 = .ok (.ifCond .ne 14, 3) := by decide +kernel
theorem dX7_isInShadowOf_15 : decode cX7_isInShadowOf 15 = .ok (.aload_n 0, 1) := by decide +kernel
theorem dX7_isInShadowOf_16 : decode cX7_isInShadowOf 16 = .ok (.iload_n 1, 1) := by decide +kernel
theorem dX7_isInShadowOf_17 : decode cX7_isInShadowOf 17 = .ok (.iload 4, 2) := by decide +kernel
theorem dX7_isInShadowOf_19 : decode cX7_isInShadowOf 19 = .ok (.iload_n 2, 1) := by decide +kernel
theorem dX7_isInShadowOf_20 : decode cX7_isInShadowOf 20 = .ok (.invokevirtual 92, 3) := by decide +kernel
theorem dX7_isInShadowOf_23 : decode cX7_isInShadowOf 23 = .ok (.ifCond .eq 7, 3) := by decide +kernel
theorem dX7_isInShadowOf_26 : decode cX7_isInShadowOf 26 = .ok (.iconst 1, 1) := by decide +kernel
theorem dX7_isInShadowOf_27 : decode cX7_isInShadowOf 27 = .ok (.goto 4, 3) := by decide +kernel
theorem dX7_isInShadowOf_30 : decode cX7_isInShadowOf 30 = .ok (.iconst 0, 1) := by decide +kernel
theorem dX7_isInShadowOf_31 : decode cX7_isInShadowOf 31 = .ok (.istore_n 3, 1) := by decide +kernel
theorem dX7_isInShadowOf_32 : decode cX7_isInShadowOf 32 = .ok (.iinc 4 1, 3) := by decide +kernel
theorem dX7_isInShadowOf_35 : decode cX7_isInShadowOf 35 = .ok (.goto (-30), 3) := by decide +kernel
theorem dX7_isInShadowOf_38 : decode cX7_isInShadowOf 38 = .ok (.iload_n 3, 1) := by decide +kernel
theorem dX7_isInShadowOf_39 : decode cX7_isInShadowOf 39 = .ok (.ireturn, 1) := by decide +kernel
theorem dX7_hasShadow_0 : decode cX7_hasShadow 0 = .ok (.iconst 0, 1) := by decide +kernel
theorem dX7_hasShadow_1 : decode cX7_hasShadow 1 = .ok (.istore_n 2, 1) := by decide +kernel
theorem dX7_hasShadow_2 : decode cX7_hasShadow 2 = .ok (.iconst 0, 1) := by decide +kernel
theorem dX7_hasShadow_3 : decode cX7_hasShadow 3 = .ok (.istore_n 3, 1) := by decide +kernel
theorem dX7_hasShadow_4 : decode cX7_hasShadow 4 = .ok (.iload_n 3, 1) := by decide +kernel
theorem dX7_hasShadow_5 : decode cX7_hasShadow 5 = .ok (.iconst 3, 1) := by decide +kernel
theorem dX7_hasShadow_6 : decode cX7_hasShadow 6 = .ok (.if_icmp .ge 32, 3) := by decide +kernel
theorem dX7_hasShadow_9 : decode cX7_hasShadow 9 = .ok (.aload_n 0, 1) := by decide +kernel
theorem dX7_hasShadow_10 : decode cX7_hasShadow 10 = .ok (.iload_n 1, 1) := by decide +kernel
theorem dX7_hasShadow_11 : decode cX7_hasShadow 11 = .ok (.iload_n 3, 1) := by decide +kernel
theorem dX7_hasShadow_12 : decode cX7_hasShadow 12 = .ok (.invokevirtual 88, 3) := by decide +kernel
theorem dX7_hasShadow_15 : decode cX7_hasShadow 15 = .ok (.iload_n 2, 1) := by decide +kernel
theorem dX7_hasShadow_16 : decode cX7_hasShadow 16 = .ok (.ifCond .ne 10, 3) := by decide +kernel
theorem dX7_hasShadow_19 : decode cX7_hasShadow 19 = .ok (.aload_n 0, 1) := by decide +kernel
theorem dX7_hasShadow_20 : decode cX7_hasShadow 20 = .ok (.getfield 72, 3) := by decide +kernel
theorem dX7_hasShadow_23 : decode cX7_hasShadow 23 = .ok (.ifCond .le 7, 3) := by decide +kernel
theorem dX7_hasShadow_26 : decode cX7_hasShadow 26 = .ok (.iconst 1, 1) := by decide +kernel
theorem dX7_hasShadow_27 : decode cX7_hasShadow 27 = .ok (.goto 4, 3) := by decide +kernel
theorem dX7_hasShadow_30 : decode cX7_hasShadow 30 = .ok (.iconst 0, 1) := by decide +kernel
theorem dX7_hasShadow_31 : decode cX7_hasShadow 31 = .ok (.istore_n 2, 1) := by decide +kernel
theorem dX7_hasShadow_32 : decode cX7_hasShadow 32 = .ok (.iinc 3 1, 3) := by decide +kernel
theorem dX7_hasShadow_35 : decode cX7_hasShadow 35 = .ok (.goto (-31), 3) := by decide +kernel
theorem dX7_hasShadow_38 : decode cX7_hasShadow 38 = .ok (.iload_n 2, 1) := by decide +kernel
theorem dX7_hasShadow_39 : decode cX7_hasShadow 39 = .ok (.ireturn, 1) := by decide +kernel
theorem dX7_go_0 : decode cX7_go 0 = .ok (.aload_n 0, 1) := by decide +kernel
theorem dX7_go_1 : decode cX7_go 1 = .ok (.iload_n 1, 1) := by decide +kernel
theorem dX7_go_2 : decode cX7_go 2 = .ok (.iconst 2, 1) := by decide +kernel
theorem dX7_go_3 : decode cX7_go 3 = .ok (.invokevirtual 68, 3) := by decide +kernel
theorem dX7_go_6 : decode cX7_go 6 = .ok (.iconst 4, 1) := by decide +kernel
theorem dX7_go_7 : decode cX7_go 7 = .ok (.if_icmp .ne 4, 3) := by decide +kernel
theorem dX7_go_10 : decode cX7_go 10 = .ok (.return_, 1) := by decide +kernel
theorem dX7_go_11 : decode cX7_go 11 = .ok (.aload_n 0, 1) := by decide +kernel
theorem dX7_go_12 : decode cX7_go 12 = .ok (.iload_n 1, 1) := by decide +kernel
theorem dX7_go_13 : decode cX7_go 13 = .ok (.iconst 0, 1) := by decide +kernel
theorem dX7_go_14 : decode cX7_go 14 = .ok (.invokevirtual 68, 3) := by decide +kernel
theorem dX7_go_17 : decode cX7_go 17 = .ok (.aload_n 0, 1) := by decide +kernel
theorem dX7_go_18 : decode cX7_go 18 = .ok (.iload_n 1, 1) := by decide +kernel
theorem dX7_go_19 : decode cX7_go 19 = .ok (.iconst 2, 1) := by decide +kernel
theorem dX7_go_20 : decode cX7_go 20 = .ok (.invokevirtual 68, 3) := by decide +kernel
theorem dX7_go_23 : decode cX7_go 23 = .ok (.invokestatic 81, 3) := by decide +kernel
theorem dX7_go_26 : decode cX7_go 26 = .ok (.istore_n 2, 1) := by decide +kernel
theorem dX7_go_27 : decode cX7_go 27 = .ok (.iload_n 2, 1) := by decide +kernel
theorem dX7_go_28 : decode cX7_go 28 = .ok (.bipush (-5), 2) := by decide +kernel
theorem dX7_go_30 : decode cX7_go 30 = .ok (.if_icmp .eq 13, 3) := by decide +kernel
theorem dX7_go_33 : decode cX7_go 33 = .ok (.aload_n 0, 1) := by decide +kernel
theorem dX7_go_34 : decode cX7_go 34 = .ok (.iload_n 2, 1) := by decide +kernel
theorem dX7_go_35 : decode cX7_go 35 = .ok (.invokevirtual 84, 3) := by decide +kernel
theorem dX7_go_38 : decode cX7_go 38 = .ok (.bipush (-5), 2) := by decide +kernel
theorem dX7_go_40 : decode cX7_go 40 = .ok (.if_icmp .eq 16, 3) := by decide +kernel
theorem dX7_go_43 : decode cX7_go 43 = .ok (.aload_n 0, 1) := by decide +kernel
theorem dX7_go_44 : decode cX7_go 44 = .ok (.getfield 7, 3) := by decide +kernel
theorem dX7_go_47 : decode cX7_go 47 = .ok (.iconst 4, 1) := by decide +kernel
theorem dX7_go_48 : decode cX7_go 48 = .ok (.dup2, 1) := by decide +kernel
theorem dX7_go_49 : decode cX7_go 49 = .ok (.iaload, 1) := by decide +kernel
theorem dX7_go_50 : decode cX7_go 50 = .ok (.iconst 1, 1) := by decide +kernel
theorem dX7_go_51 : decode cX7_go 51 = .ok (.iadd, 1) := by decide +kernel
theorem dX7_go_52 : decode cX7_go 52 = .ok (.iastore, 1) := by decide +kernel
theorem dX7_go_53 : decode cX7_go 53 = .ok (.goto 20, 3) := by decide +kernel
theorem dX7_go_56 : decode cX7_go 56 = .ok (.aload_n 0, 1) := by decide +kernel
theorem dX7_go_57 : decode cX7_go 57 = .ok (.iload_n 1, 1) := by decide +kernel
theorem dX7_go_58 : decode cX7_go 58 = .ok (.iconst 0, 1) := by decide +kernel
theorem dX7_go_59 : decode cX7_go 59 = .ok (.iload_n 2, 1) := by decide +kernel
theorem dX7_go_60 : decode cX7_go 60 = .ok (.invokevirtual 95, 3) := by decide +kernel
theorem dX7_go_63 : decode cX7_go 63 = .ok (.aload_n 0, 1) := by decide +kernel
theorem dX7_go_64 : decode cX7_go 64 = .ok (.getfield 7, 3) := by decide +kernel
theorem dX7_go_67 : decode cX7_go 67 = .ok (.iconst 3, 1) := by decide +kernel
theorem dX7_go_68 : decode cX7_go 68 = .ok (.dup2, 1) := by decide +kernel
theorem dX7_go_69 : decode cX7_go 69 = .ok (.iaload, 1) := by decide +kernel
theorem dX7_go_70 : decode cX7_go 70 = .ok (.iconst 1, 1) := by decide +kernel
theorem dX7_go_71 : decode cX7_go 71 = .ok (.iadd, 1) := by decide +kernel
theorem dX7_go_72 : decode cX7_go 72 = .ok (.iastore, 1) := by decide +kernel
theorem dX7_go_73 : decode cX7_go 73 = .ok (.return_, 1) := by decide +kernel
theorem dX7_tagNow_0 : decode cX7_tagNow 0 = .ok (.bipush (-5), 2) := by decide +kernel
theorem dX7_tagNow_2 : decode cX7_tagNow 2 = .ok (.istore_n 1, 1) := by decide +kernel
theorem dX7_tagNow_3 : decode cX7_tagNow 3 = .ok (.aload_n 0, 1) := by decide +kernel
theorem dX7_tagNow_4 : decode cX7_tagNow 4 = .ok (.getfield 7, 3) := by decide +kernel
theorem dX7_tagNow_7 : decode cX7_tagNow 7 = .ok (.bipush 20, 2) := by decide +kernel
theorem dX7_tagNow_9 : decode cX7_tagNow 9 = .ok (.iaload, 1) := by decide +kernel
theorem dX7_tagNow_10 : decode cX7_tagNow 10 = .ok (.iconst 1, 1) := by decide +kernel
theorem dX7_tagNow_11 : decode cX7_tagNow 11 = .ok (.isub, 1) := by decide +kernel
theorem dX7_tagNow_12 : decode cX7_tagNow 12 = .ok (.istore_n 2, 1) := by decide +kernel
theorem dX7_tagNow_13 : decode cX7_tagNow 13 = .ok (.iload_n 2, 1) := by decide +kernel
theorem dX7_tagNow_14 : decode cX7_tagNow 14 = .ok (.ifCond .lt 63, 3) := by decide +kernel
theorem dX7_tagNow_17 : decode cX7_tagNow 17 = .ok (.iload_n 2, 1) := by decide +kernel
theorem dX7_tagNow_18 : decode cX7_tagNow 18 = .ok (.aload_n 0, 1) := by decide +kernel
theorem dX7_tagNow_19 : decode cX7_tagNow 19 = .ok (.getfield 7, 3) := by decide +kernel
theorem dX7_tagNow_22 : decode cX7_tagNow 22 = .ok (.iconst 1, 1) := by decide +kernel
theorem dX7_tagNow_23 : decode cX7_tagNow 23 = .ok (.iaload, 1) := by decide +kernel
theorem dX7_tagNow_24 : decode cX7_tagNow 24 = .ok (.if_icmp .eq 35, 3) := by decide +kernel
theorem dX7_tagNow_27 : decode cX7_tagNow 27 = .ok (.aload_n 0, 1) := by decide +kernel
theorem dX7_tagNow_28 : decode cX7_tagNow 28 = .ok (.iload_n 2, 1) := by decide +kernel
theorem dX7_tagNow_29 : decode cX7_tagNow 29 = .ok (.iconst 3, 1) := by decide +kernel
theorem dX7_tagNow_30 : decode cX7_tagNow 30 = .ok (.invokevirtual 68, 3) := by decide +kernel
theorem dX7_tagNow_33 : decode cX7_tagNow 33 = .ok (.ifCond .ne 26, 3) := by decide +kernel
theorem dX7_tagNow_36 : decode cX7_tagNow 36 = .ok (.aload_n 0, 1) := by decide +kernel
theorem dX7_tagNow_37 : decode cX7_tagNow 37 = .ok (.iload_n 2, 1) := by decide +kernel
theorem dX7_tagNow_38 : decode cX7_tagNow 38 = .ok (.aload_n 0, 1) := by decide +kernel
theorem dX7_tagNow_39 : decode cX7_tagNow 39 = .ok (.aload_n 0, 1) := by decide +kernel
theorem dX7_tagNow_40 : decode cX7_tagNow 40 = .ok (.getfield 7, 3) := by decide +kernel
theorem dX7_tagNow_43 : decode cX7_tagNow 43 = .ok (.iconst 1, 1) := by decide +kernel
theorem dX7_tagNow_44 : decode cX7_tagNow 44 = .ok (.iaload, 1) := by decide +kernel
theorem dX7_tagNow_45 : decode cX7_tagNow 45 = .ok (.iconst 0, 1) := by decide +kernel
theorem dX7_tagNow_46 : decode cX7_tagNow 46 = .ok (.invokevirtual 68, 3) := by decide +kernel
theorem dX7_tagNow_49 : decode cX7_tagNow 49 = .ok (.invokevirtual 98, 3) := by decide +kernel
theorem dX7_tagNow_52 : decode cX7_tagNow 52 = .ok (.ifCond .eq 7, 3) := by decide +kernel
theorem dX7_tagNow_55 : decode cX7_tagNow 55 = .ok (.iconst 1, 1) := by decide +kernel
theorem dX7_tagNow_56 : decode cX7_tagNow 56 = .ok (.goto 4, 3) := by decide +kernel
theorem dX7_tagNow_59 : decode cX7_tagNow 59 = .ok (.iconst 0, 1) := by decide +kernel
theorem dX7_tagNow_60 : decode cX7_tagNow 60 = .ok (.istore_n 3, 1) := by decide +kernel
theorem dX7_tagNow_61 : decode cX7_tagNow 61 = .ok (.iload_n 3, 1) := by decide +kernel
theorem dX7_tagNow_62 : decode cX7_tagNow 62 = .ok (.ifCond .eq 7, 3) := by decide +kernel
theorem dX7_tagNow_65 : decode cX7_tagNow 65 = .ok (.iload_n 2, 1) := by decide +kernel
theorem dX7_tagNow_66 : decode cX7_tagNow 66 = .ok (.goto 4, 3) := by decide +kernel
theorem dX7_tagNow_69 : decode cX7_tagNow 69 = .ok (.iload_n 1, 1) := by decide +kernel
theorem dX7_tagNow_70 : decode cX7_tagNow 70 = .ok (.istore_n 1, 1) := by decide +kernel
theorem dX7_tagNow_71 : decode cX7_tagNow 71 = .ok (.iinc 2 (-1), 3) := by decide +kernel
theorem dX7_tagNow_74 : decode cX7_tagNow 74 = .ok (.goto (-61), 3) := by decide +kernel
theorem dX7_tagNow_77 : decode cX7_tagNow 77 = .ok (.iload_n 1, 1) := by decide +kernel
theorem dX7_tagNow_78 : decode cX7_tagNow 78 = .ok (.ireturn, 1) := by decide +kernel
theorem dX7_tag_0 : decode cX7_tag 0 = .ok (.aload_n 0, 1) := by decide +kernel
theorem dX7_tag_1 : decode cX7_tag 1 = .ok (.getfield 7, 3) := by decide +kernel
theorem dX7_tag_4 : decode cX7_tag 4 = .ok (.iconst 1, 1) := by decide +kernel
theorem dX7_tag_5 : decode cX7_tag 5 = .ok (.iaload, 1) := by decide +kernel
theorem dX7_tag_6 : decode cX7_tag 6 = .ok (.istore_n 2, 1) := by decide +kernel
theorem dX7_tag_7 : decode cX7_tag 7 = .ok (.aload_n 0, 1) := by decide +kernel
theorem dX7_tag_8 : decode cX7_tag 8 = .ok (.iload_n 1, 1) := by decide +kernel
theorem dX7_tag_9 : decode cX7_tag 9 = .ok (.iconst 4, 1) := by decide +kernel
theorem dX7_tag_10 : decode cX7_tag 10 = .ok (.aload_n 0, 1) := by decide +kernel
theorem dX7_tag_11 : decode cX7_tag 11 = .ok (.iload_n 1, 1) := by decide +kernel
theorem dX7_tag_12 : decode cX7_tag 12 = .ok (.iconst 4, 1) := by decide +kernel
theorem dX7_tag_13 : decode cX7_tag 13 = .ok (.invokevirtual 68, 3) := by decide +kernel
theorem dX7_tag_16 : decode cX7_tag 16 = .ok (.iconst 1, 1) := by decide +kernel
theorem dX7_tag_17 : decode cX7_tag 17 = .ok (.iadd, 1) := by decide +kernel
theorem dX7_tag_18 : decode cX7_tag 18 = .ok (.invokevirtual 95, 3) := by decide +kernel
theorem dX7_tag_21 : decode cX7_tag 21 = .ok (.aload_n 0, 1) := by decide +kernel
theorem dX7_tag_22 : decode cX7_tag 22 = .ok (.iload_n 2, 1) := by decide +kernel
theorem dX7_tag_23 : decode cX7_tag 23 = .ok (.iconst 5, 1) := by decide +kernel
theorem dX7_tag_24 : decode cX7_tag 24 = .ok (.aload_n 0, 1) := by decide +kernel
theorem dX7_tag_25 : decode cX7_tag 25 = .ok (.iload_n 2, 1) := by decide +kernel
theorem dX7_tag_26 : decode cX7_tag 26 = .ok (.iconst 5, 1) := by decide +kernel
theorem dX7_tag_27 : decode cX7_tag 27 = .ok (.invokevirtual 68, 3) := by decide +kernel
theorem dX7_tag_30 : decode cX7_tag 30 = .ok (.iconst 1, 1) := by decide +kernel
theorem dX7_tag_31 : decode cX7_tag 31 = .ok (.iadd, 1) := by decide +kernel
theorem dX7_tag_32 : decode cX7_tag 32 = .ok (.invokevirtual 95, 3) := by decide +kernel
theorem dX7_tag_35 : decode cX7_tag 35 = .ok (.aload_n 0, 1) := by decide +kernel
theorem dX7_tag_36 : decode cX7_tag 36 = .ok (.iload_n 2, 1) := by decide +kernel
theorem dX7_tag_37 : decode cX7_tag 37 = .ok (.iconst 3, 1) := by decide +kernel
theorem dX7_tag_38 : decode cX7_tag 38 = .ok (.aload_n 0, 1) := by decide +kernel
theorem dX7_tag_39 : decode cX7_tag 39 = .ok (.getfield 7, 3) := by decide +kernel
theorem dX7_tag_42 : decode cX7_tag 42 = .ok (.bipush 6, 2) := by decide +kernel
theorem dX7_tag_44 : decode cX7_tag 44 = .ok (.iaload, 1) := by decide +kernel
theorem dX7_tag_45 : decode cX7_tag 45 = .ok (.iconst 1, 1) := by decide +kernel
theorem dX7_tag_46 : decode cX7_tag 46 = .ok (.iadd, 1) := by decide +kernel
theorem dX7_tag_47 : decode cX7_tag 47 = .ok (.invokevirtual 95, 3) := by decide +kernel
theorem dX7_tag_50 : decode cX7_tag 50 = .ok (.aload_n 0, 1) := by decide +kernel
theorem dX7_tag_51 : decode cX7_tag 51 = .ok (.getfield 7, 3) := by decide +kernel
theorem dX7_tag_54 : decode cX7_tag 54 = .ok (.iconst 1, 1) := by decide +kernel
theorem dX7_tag_55 : decode cX7_tag 55 = .ok (.iload_n 1, 1) := by decide +kernel
theorem dX7_tag_56 : decode cX7_tag 56 = .ok (.iastore, 1) := by decide +kernel
theorem dX7_tag_57 : decode cX7_tag 57 = .ok (.aload_n 0, 1) := by decide +kernel
theorem dX7_tag_58 : decode cX7_tag 58 = .ok (.getfield 7, 3) := by decide +kernel
theorem dX7_tag_61 : decode cX7_tag 61 = .ok (.iconst 2, 1) := by decide +kernel
theorem dX7_tag_62 : decode cX7_tag 62 = .ok (.dup2, 1) := by decide +kernel
theorem dX7_tag_63 : decode cX7_tag 63 = .ok (.iaload, 1) := by decide +kernel
theorem dX7_tag_64 : decode cX7_tag 64 = .ok (.iconst 1, 1) := by decide +kernel
theorem dX7_tag_65 : decode cX7_tag 65 = .ok (.iadd, 1) := by decide +kernel
theorem dX7_tag_66 : decode cX7_tag 66 = .ok (.iastore, 1) := by decide +kernel
theorem dX7_tag_67 : decode cX7_tag 67 = .ok (.return_, 1) := by decide +kernel
theorem dX7_turnPlatform_0 : decode cX7_turnPlatform 0 = .ok (.iconst 0, 1) := by decide +kernel
theorem dX7_turnPlatform_1 : decode cX7_turnPlatform 1 = .ok (.istore_n 1, 1) := by decide +kernel
theorem dX7_turnPlatform_2 : decode cX7_turnPlatform 2 = .ok (.iload_n 1, 1) := by decide +kernel
theorem dX7_turnPlatform_3 : decode cX7_turnPlatform 3 = .ok (.aload_n 0, 1) := by decide +kernel
theorem dX7_turnPlatform_4 : decode cX7_turnPlatform 4 = .ok (.getfield 7, 3) := by decide +kernel
theorem dX7_turnPlatform_7 : decode cX7_turnPlatform 7 = .ok (.bipush 20, 2) := by decide +kernel
theorem dX7_turnPlatform_9 : decode cX7_turnPlatform 9 = .ok (.iaload, 1) := by decide +kernel
theorem dX7_turnPlatform_10 : decode cX7_turnPlatform 10 = .ok (.if_icmp .ge 63, 3) := by decide +kernel
theorem dX7_turnPlatform_13 : decode cX7_turnPlatform 13 = .ok (.aload_n 0, 1) := by decide +kernel
theorem dX7_turnPlatform_14 : decode cX7_turnPlatform 14 = .ok (.iload_n 1, 1) := by decide +kernel
theorem dX7_turnPlatform_15 : decode cX7_turnPlatform 15 = .ok (.iconst 0, 1) := by decide +kernel
theorem dX7_turnPlatform_16 : decode cX7_turnPlatform 16 = .ok (.invokevirtual 68, 3) := by decide +kernel
theorem dX7_turnPlatform_19 : decode cX7_turnPlatform 19 = .ok (.istore_n 2, 1) := by decide +kernel
theorem dX7_turnPlatform_20 : decode cX7_turnPlatform 20 = .ok (.aload_n 0, 1) := by decide +kernel
theorem dX7_turnPlatform_21 : decode cX7_turnPlatform 21 = .ok (.iload_n 1, 1) := by decide +kernel
theorem dX7_turnPlatform_22 : decode cX7_turnPlatform 22 = .ok (.iconst 0, 1) := by decide +kernel
theorem dX7_turnPlatform_23 : decode cX7_turnPlatform 23 = .ok (.iload_n 2, 1) := by decide +kernel
theorem dX7_turnPlatform_24 : decode cX7_turnPlatform 24 = .ok (.bipush 10, 2) := by decide +kernel
theorem dX7_turnPlatform_26 : decode cX7_turnPlatform 26 = .ok (.irem, 1) := by decide +kernel
theorem dX7_turnPlatform_27 : decode cX7_turnPlatform 27 = .ok (.bipush 10, 2) := by decide +kernel
theorem dX7_turnPlatform_29 : decode cX7_turnPlatform 29 = .ok (.imul, 1) := by decide +kernel
theorem dX7_turnPlatform_30 : decode cX7_turnPlatform 30 = .ok (.bipush 9, 2) := by decide +kernel
theorem dX7_turnPlatform_32 : decode cX7_turnPlatform 32 = .ok (.iadd, 1) := by decide +kernel
theorem dX7_turnPlatform_33 : decode cX7_turnPlatform 33 = .ok (.iload_n 2, 1) := by decide +kernel
theorem dX7_turnPlatform_34 : decode cX7_turnPlatform 34 = .ok (.bipush 10, 2) := by decide +kernel
theorem dX7_turnPlatform_36 : decode cX7_turnPlatform 36 = .ok (.idiv, 1) := by decide +kernel
theorem dX7_turnPlatform_37 : decode cX7_turnPlatform 37 = .ok (.isub, 1) := by decide +kernel
theorem dX7_turnPlatform_38 : decode cX7_turnPlatform 38 = .ok (.invokevirtual 95, 3) := by decide +kernel
theorem dX7_turnPlatform_41 : decode cX7_turnPlatform 41 = .ok (.aload_n 0, 1) := by decide +kernel
theorem dX7_turnPlatform_42 : decode cX7_turnPlatform 42 = .ok (.iload_n 1, 1) := by decide +kernel
theorem dX7_turnPlatform_43 : decode cX7_turnPlatform 43 = .ok (.iconst 2, 1) := by decide +kernel
theorem dX7_turnPlatform_44 : decode cX7_turnPlatform 44 = .ok (.invokevirtual 68, 3) := by decide +kernel
theorem dX7_turnPlatform_47 : decode cX7_turnPlatform 47 = .ok (.iconst 4, 1) := by decide +kernel
theorem dX7_turnPlatform_48 : decode cX7_turnPlatform 48 = .ok (.if_icmp .eq 19, 3) := by decide +kernel
theorem dX7_turnPlatform_51 : decode cX7_turnPlatform 51 = .ok (.aload_n 0, 1) := by decide +kernel
theorem dX7_turnPlatform_52 : decode cX7_turnPlatform 52 = .ok (.iload_n 1, 1) := by decide +kernel
theorem dX7_turnPlatform_53 : decode cX7_turnPlatform 53 = .ok (.iconst 2, 1) := by decide +kernel
theorem dX7_turnPlatform_54 : decode cX7_turnPlatform 54 = .ok (.aload_n 0, 1) := by decide +kernel
theorem dX7_turnPlatform_55 : decode cX7_turnPlatform 55 = .ok (.iload_n 1, 1) := by decide +kernel
theorem dX7_turnPlatform_56 : decode cX7_turnPlatform 56 = .ok (.iconst 2, 1) := by decide +kernel
theorem dX7_turnPlatform_57 : decode cX7_turnPlatform 57 = .ok (.invokevirtual 68, 3) := by decide +kernel
theorem dX7_turnPlatform_60 : decode cX7_turnPlatform 60 = .ok (.iconst 1, 1) := by decide +kernel
theorem dX7_turnPlatform_61 : decode cX7_turnPlatform 61 = .ok (.iadd, 1) := by decide +kernel
theorem dX7_turnPlatform_62 : decode cX7_turnPlatform 62 = .ok (.iconst 4, 1) := by decide +kernel
theorem dX7_turnPlatform_63 : decode cX7_turnPlatform 63 = .ok (.irem, 1) := by decide +kernel
theorem dX7_turnPlatform_64 : decode cX7_turnPlatform 64 = .ok (.invokevirtual 95, 3) := by decide +kernel
theorem dX7_turnPlatform_67 : decode cX7_turnPlatform 67 = .ok (.iinc 1 1, 3) := by decide +kernel
theorem dX7_turnPlatform_70 : decode cX7_turnPlatform 70 = .ok (.goto (-68), 3) := by decide +kernel
theorem dX7_turnPlatform_73 : decode cX7_turnPlatform 73 = .ok (.aload_n 0, 1) := by decide +kernel
theorem dX7_turnPlatform_74 : decode cX7_turnPlatform 74 = .ok (.getfield 7, 3) := by decide +kernel
theorem dX7_turnPlatform_77 : decode cX7_turnPlatform 77 = .ok (.iconst 5, 1) := by decide +kernel
theorem dX7_turnPlatform_78 : decode cX7_turnPlatform 78 = .ok (.dup2, 1) := by decide +kernel
theorem dX7_turnPlatform_79 : decode cX7_turnPlatform 79 = .ok (.iaload, 1) := by decide +kernel
theorem dX7_turnPlatform_80 : decode cX7_turnPlatform 80 = .ok (.iconst 1, 1) := by decide +kernel
theorem dX7_turnPlatform_81 : decode cX7_turnPlatform 81 = .ok (.iadd, 1) := by decide +kernel
theorem dX7_turnPlatform_82 : decode cX7_turnPlatform 82 = .ok (.iastore, 1) := by decide +kernel
theorem dX7_turnPlatform_83 : decode cX7_turnPlatform 83 = .ok (.return_, 1) := by decide +kernel
theorem dX7_turn_0 : decode cX7_turn 0 = .ok (.iconst 0, 1) := by decide +kernel
theorem dX7_turn_1 : decode cX7_turn 1 = .ok (.istore_n 1, 1) := by decide +kernel
theorem dX7_turn_2 : decode cX7_turn 2 = .ok (.iload_n 1, 1) := by decide +kernel
theorem dX7_turn_3 : decode cX7_turn 3 = .ok (.aload_n 0, 1) := by decide +kernel
theorem dX7_turn_4 : decode cX7_turn 4 = .ok (.getfield 7, 3) := by decide +kernel
theorem dX7_turn_7 : decode cX7_turn 7 = .ok (.bipush 20, 2) := by decide +kernel
theorem dX7_turn_9 : decode cX7_turn 9 = .ok (.iaload, 1) := by decide +kernel
theorem dX7_turn_10 : decode cX7_turn 10 = .ok (.if_icmp .ge 14, 3) := by decide +kernel
theorem dX7_turn_13 : decode cX7_turn 13 = .ok (.aload_n 0, 1) := by decide +kernel
theorem dX7_turn_14 : decode cX7_turn 14 = .ok (.iload_n 1, 1) := by decide +kernel
theorem dX7_turn_15 : decode cX7_turn 15 = .ok (.invokevirtual 102, 3) := by decide +kernel
theorem dX7_turn_18 : decode cX7_turn 18 = .ok (.iinc 1 1, 3) := by decide +kernel
theorem dX7_turn_21 : decode cX7_turn 21 = .ok (.goto (-19), 3) := by decide +kernel
theorem dX7_turn_24 : decode cX7_turn 24 = .ok (.aload_n 0, 1) := by decide +kernel
theorem dX7_turn_25 : decode cX7_turn 25 = .ok (.invokevirtual 106, 3) := by decide +kernel
theorem dX7_turn_28 : decode cX7_turn 28 = .ok (.istore_n 1, 1) := by decide +kernel
theorem dX7_turn_29 : decode cX7_turn 29 = .ok (.iload_n 1, 1) := by decide +kernel
theorem dX7_turn_30 : decode cX7_turn 30 = .ok (.bipush (-5), 2) := by decide +kernel
theorem dX7_turn_32 : decode cX7_turn 32 = .ok (.if_icmp .eq 8, 3) := by decide +kernel
theorem dX7_turn_35 : decode cX7_turn 35 = .ok (.aload_n 0, 1) := by decide +kernel
theorem dX7_turn_36 : decode cX7_turn 36 = .ok (.iload_n 1, 1) := by decide +kernel
theorem dX7_turn_37 : decode cX7_turn 37 = .ok (.invokevirtual 110, 3) := by decide +kernel
theorem dX7_turn_40 : decode cX7_turn 40 = .ok (.iconst 0, 1) := by decide +kernel
theorem dX7_turn_41 : decode cX7_turn 41 = .ok (.istore_n 2, 1) := by decide +kernel
theorem dX7_turn_42 : decode cX7_turn 42 = .ok (.iload_n 2, 1) := by decide +kernel
theorem dX7_turn_43 : decode cX7_turn 43 = .ok (.aload_n 0, 1) := by decide +kernel
theorem dX7_turn_44 : decode cX7_turn 44 = .ok (.getfield 7, 3) := by decide +kernel
theorem dX7_turn_47 : decode cX7_turn 47 = .ok (.bipush 20, 2) := by decide +kernel
theorem dX7_turn_49 : decode cX7_turn 49 = .ok (.iaload, 1) := by decide +kernel
theorem dX7_turn_50 : decode cX7_turn 50 = .ok (.if_icmp .ge 66, 3) := by decide +kernel
theorem dX7_turn_53 : decode cX7_turn 53 = .ok (.aload_n 0, 1) := by decide +kernel
theorem dX7_turn_54 : decode cX7_turn 54 = .ok (.iload_n 2, 1) := by decide +kernel
theorem dX7_turn_55 : decode cX7_turn 55 = .ok (.iconst 3, 1) := by decide +kernel
theorem dX7_turn_56 : decode cX7_turn 56 = .ok (.aload_n 0, 1) := by decide +kernel
theorem dX7_turn_57 : decode cX7_turn 57 = .ok (.iload_n 2, 1) := by decide +kernel
theorem dX7_turn_58 : decode cX7_turn 58 = .ok (.iconst 3, 1) := by decide +kernel
theorem dX7_turn_59 : decode cX7_turn 59 = .ok (.invokevirtual 68, 3) := by decide +kernel
theorem dX7_turn_62 : decode cX7_turn 62 = .ok (.ifCond .le 14, 3) := by decide +kernel
theorem dX7_turn_65 : decode cX7_turn 65 = .ok (.aload_n 0, 1) := by decide +kernel
theorem dX7_turn_66 : decode cX7_turn 66 = .ok (.iload_n 2, 1) := by decide +kernel
theorem dX7_turn_67 : decode cX7_turn 67 = .ok (.iconst 3, 1) := by decide +kernel
theorem dX7_turn_68 : decode cX7_turn 68 = .ok (.invokevirtual 68, 3) := by decide +kernel
theorem dX7_turn_71 : decode cX7_turn 71 = .ok (.iconst 1, 1) := by decide +kernel
theorem dX7_turn_72 : decode cX7_turn 72 = .ok (.isub, 1) := by decide +kernel
theorem dX7_turn_73 : decode cX7_turn 73 = .ok (.goto 4, 3) := by decide +kernel
theorem dX7_turn_76 : decode cX7_turn 76 = .ok (.iconst 0, 1) := by decide +kernel
theorem dX7_turn_77 : decode cX7_turn 77 = .ok (.invokevirtual 95, 3) := by decide +kernel
theorem dX7_turn_80 : decode cX7_turn 80 = .ok (.aload_n 0, 1) := by decide +kernel
theorem dX7_turn_81 : decode cX7_turn 81 = .ok (.iload_n 2, 1) := by decide +kernel
theorem dX7_turn_82 : decode cX7_turn 82 = .ok (.bipush 6, 2) := by decide +kernel
theorem dX7_turn_84 : decode cX7_turn 84 = .ok (.aload_n 0, 1) := by decide +kernel
theorem dX7_turn_85 : decode cX7_turn 85 = .ok (.iload_n 2, 1) := by decide +kernel
theorem dX7_turn_86 : decode cX7_turn 86 = .ok (.bipush 6, 2) := by decide +kernel
theorem dX7_turn_88 : decode cX7_turn 88 = .ok (.invokevirtual 68, 3) := by decide +kernel
theorem dX7_turn_91 : decode cX7_turn 91 = .ok (.iload_n 2, 1) := by decide +kernel
theorem dX7_turn_92 : decode cX7_turn 92 = .ok (.aload_n 0, 1) := by decide +kernel
theorem dX7_turn_93 : decode cX7_turn 93 = .ok (.getfield 7, 3) := by decide +kernel
theorem dX7_turn_96 : decode cX7_turn 96 = .ok (.iconst 1, 1) := by decide +kernel
theorem dX7_turn_97 : decode cX7_turn 97 = .ok (.iaload, 1) := by decide +kernel
theorem dX7_turn_98 : decode cX7_turn 98 = .ok (.if_icmp .ne 7, 3) := by decide +kernel
theorem dX7_turn_101 : decode cX7_turn 101 = .ok (.iconst 0, 1) := by decide +kernel
theorem dX7_turn_102 : decode cX7_turn 102 = .ok (.goto 4, 3) := by decide +kernel
theorem dX7_turn_105 : decode cX7_turn 105 = .ok (.iconst 1, 1) := by decide +kernel
theorem dX7_turn_106 : decode cX7_turn 106 = .ok (.iadd, 1) := by decide +kernel
theorem dX7_turn_107 : decode cX7_turn 107 = .ok (.invokevirtual 95, 3) := by decide +kernel
theorem dX7_turn_110 : decode cX7_turn 110 = .ok (.iinc 2 1, 3) := by decide +kernel
theorem dX7_turn_113 : decode cX7_turn 113 = .ok (.goto (-71), 3) := by decide +kernel
theorem dX7_turn_116 : decode cX7_turn 116 = .ok (.aload_n 0, 1) := by decide +kernel
theorem dX7_turn_117 : decode cX7_turn 117 = .ok (.getfield 7, 3) := by decide +kernel
theorem dX7_turn_120 : decode cX7_turn 120 = .ok (.iconst 0, 1) := by decide +kernel
theorem dX7_turn_121 : decode cX7_turn 121 = .ok (.dup2, 1) := by decide +kernel
theorem dX7_turn_122 : decode cX7_turn 122 = .ok (.iaload, 1) := by decide +kernel
theorem dX7_turn_123 : decode cX7_turn 123 = .ok (.iconst 1, 1) := by decide +kernel
theorem dX7_turn_124 : decode cX7_turn 124 = .ok (.iadd, 1) := by decide +kernel
theorem dX7_turn_125 : decode cX7_turn 125 = .ok (.iastore, 1) := by decide +kernel
theorem dX7_turn_126 : decode cX7_turn 126 = .ok (.iconst 0, 1) := by decide +kernel
theorem dX7_turn_127 : decode cX7_turn 127 = .ok (.istore_n 2, 1) := by decide +kernel
theorem dX7_turn_128 : decode cX7_turn 128 = .ok (.iload_n 2, 1) := by decide +kernel
theorem dX7_turn_129 : decode cX7_turn 129 = .ok (.iconst 3, 1) := by decide +kernel
theorem dX7_turn_130 : decode cX7_turn 130 = .ok (.if_icmp .ge 50, 3) := by decide +kernel
theorem dX7_turn_133 : decode cX7_turn 133 = .ok (.aload_n 0, 1) := by decide +kernel
theorem dX7_turn_134 : decode cX7_turn 134 = .ok (.iload_n 2, 1) := by decide +kernel
theorem dX7_turn_135 : decode cX7_turn 135 = .ok (.iconst 2, 1) := by decide +kernel
theorem dX7_turn_136 : decode cX7_turn 136 = .ok (.invokevirtual 78, 3) := by decide +kernel
theorem dX7_turn_139 : decode cX7_turn 139 = .ok (.ifCond .le 35, 3) := by decide +kernel
theorem dX7_turn_142 : decode cX7_turn 142 = .ok (.aload_n 0, 1) := by decide +kernel
theorem dX7_turn_143 : decode cX7_turn 143 = .ok (.getfield 7, 3) := by decide +kernel
theorem dX7_turn_146 : decode cX7_turn 146 = .ok (.iconst 0, 1) := by decide +kernel
theorem dX7_turn_147 : decode cX7_turn 147 = .ok (.iaload, 1) := by decide +kernel
theorem dX7_turn_148 : decode cX7_turn 148 = .ok (.aload_n 0, 1) := by decide +kernel
theorem dX7_turn_149 : decode cX7_turn 149 = .ok (.iload_n 2, 1) := by decide +kernel
theorem dX7_turn_150 : decode cX7_turn 150 = .ok (.iconst 2, 1) := by decide +kernel
theorem dX7_turn_151 : decode cX7_turn 151 = .ok (.invokevirtual 78, 3) := by decide +kernel
theorem dX7_turn_154 : decode cX7_turn 154 = .ok (.irem, 1) := by decide +kernel
theorem dX7_turn_155 : decode cX7_turn 155 = .ok (.ifCond .ne 19, 3) := by decide +kernel
theorem dX7_turn_158 : decode cX7_turn 158 = .ok (.aload_n 0, 1) := by decide +kernel
theorem dX7_turn_159 : decode cX7_turn 159 = .ok (.iload_n 2, 1) := by decide +kernel
theorem dX7_turn_160 : decode cX7_turn 160 = .ok (.iconst 0, 1) := by decide +kernel
theorem dX7_turn_161 : decode cX7_turn 161 = .ok (.aload_n 0, 1) := by decide +kernel
theorem dX7_turn_162 : decode cX7_turn 162 = .ok (.iload_n 2, 1) := by decide +kernel
theorem dX7_turn_163 : decode cX7_turn 163 = .ok (.iconst 0, 1) := by decide +kernel
theorem dX7_turn_164 : decode cX7_turn 164 = .ok (.invokevirtual 78, 3) := by decide +kernel
theorem dX7_turn_167 : decode cX7_turn 167 = .ok (.iconst 1, 1) := by decide +kernel
theorem dX7_turn_168 : decode cX7_turn 168 = .ok (.iadd, 1) := by decide +kernel
theorem dX7_turn_169 : decode cX7_turn 169 = .ok (.iconst 4, 1) := by decide +kernel
theorem dX7_turn_170 : decode cX7_turn 170 = .ok (.irem, 1) := by decide +kernel
theorem dX7_turn_171 : decode cX7_turn 171 = .ok (.invokevirtual 47, 3) := by decide +kernel
theorem dX7_turn_174 : decode cX7_turn 174 = .ok (.iinc 2 1, 3) := by decide +kernel
theorem dX7_turn_177 : decode cX7_turn 177 = .ok (.goto (-49), 3) := by decide +kernel
theorem dX7_turn_180 : decode cX7_turn 180 = .ok (.aload_n 0, 1) := by decide +kernel
theorem dX7_turn_181 : decode cX7_turn 181 = .ok (.getfield 7, 3) := by decide +kernel
theorem dX7_turn_184 : decode cX7_turn 184 = .ok (.bipush 7, 2) := by decide +kernel
theorem dX7_turn_186 : decode cX7_turn 186 = .ok (.iaload, 1) := by decide +kernel
theorem dX7_turn_187 : decode cX7_turn 187 = .ok (.ifCond .le 24, 3) := by decide +kernel
theorem dX7_turn_190 : decode cX7_turn 190 = .ok (.aload_n 0, 1) := by decide +kernel
theorem dX7_turn_191 : decode cX7_turn 191 = .ok (.getfield 7, 3) := by decide +kernel
theorem dX7_turn_194 : decode cX7_turn 194 = .ok (.iconst 0, 1) := by decide +kernel
theorem dX7_turn_195 : decode cX7_turn 195 = .ok (.iaload, 1) := by decide +kernel
theorem dX7_turn_196 : decode cX7_turn 196 = .ok (.aload_n 0, 1) := by decide +kernel
theorem dX7_turn_197 : decode cX7_turn 197 = .ok (.getfield 7, 3) := by decide +kernel
theorem dX7_turn_200 : decode cX7_turn 200 = .ok (.bipush 7, 2) := by decide +kernel
theorem dX7_turn_202 : decode cX7_turn 202 = .ok (.iaload, 1) := by decide +kernel
theorem dX7_turn_203 : decode cX7_turn 203 = .ok (.irem, 1) := by decide +kernel
theorem dX7_turn_204 : decode cX7_turn 204 = .ok (.ifCond .ne 7, 3) := by decide +kernel
theorem dX7_turn_207 : decode cX7_turn 207 = .ok (.aload_n 0, 1) := by decide +kernel
theorem dX7_turn_208 : decode cX7_turn 208 = .ok (.invokevirtual 113, 3) := by decide +kernel
theorem dX7_turn_211 : decode cX7_turn 211 = .ok (.return_, 1) := by decide +kernel
theorem dX7_comeNow_0 : decode cX7_comeNow 0 = .ok (.iload_n 1, 1) := by decide +kernel
theorem dX7_comeNow_1 : decode cX7_comeNow 1 = .ok (.invokestatic 116, 3) := by decide +kernel
theorem dX7_comeNow_4 : decode cX7_comeNow 4 = .ok (.ifCond .ne 5, 3) := by decide +kernel
theorem dX7_comeNow_7 : decode cX7_comeNow 7 = .ok (.iconst (-1), 1) := by decide +kernel
theorem dX7_comeNow_8 : decode cX7_comeNow 8 = .ok (.ireturn, 1) := by decide +kernel
theorem dX7_comeNow_9 : decode cX7_comeNow 9 = .ok (.iload_n 2, 1) := by decide +kernel
theorem dX7_comeNow_10 : decode cX7_comeNow 10 = .ok (.iconst 1, 1) := by decide +kernel
theorem dX7_comeNow_11 : decode cX7_comeNow 11 = .ok (.iconst 5, 1) := by decide +kernel
theorem dX7_comeNow_12 : decode cX7_comeNow 12 = .ok (.invokestatic 51, 3) := by decide +kernel
theorem dX7_comeNow_15 : decode cX7_comeNow 15 = .ok (.ifCond .ne 6, 3) := by decide +kernel
theorem dX7_comeNow_18 : decode cX7_comeNow 18 = .ok (.bipush (-2), 2) := by decide +kernel
theorem dX7_comeNow_20 : decode cX7_comeNow 20 = .ok (.ireturn, 1) := by decide +kernel
theorem dX7_comeNow_21 : decode cX7_comeNow 21 = .ok (.aload_n 0, 1) := by decide +kernel
theorem dX7_comeNow_22 : decode cX7_comeNow 22 = .ok (.iload_n 1, 1) := by decide +kernel
theorem dX7_comeNow_23 : decode cX7_comeNow 23 = .ok (.invokevirtual 84, 3) := by decide +kernel
theorem dX7_comeNow_26 : decode cX7_comeNow 26 = .ok (.bipush (-5), 2) := by decide +kernel
theorem dX7_comeNow_28 : decode cX7_comeNow 28 = .ok (.if_icmp .eq 6, 3) := by decide +kernel
theorem dX7_comeNow_31 : decode cX7_comeNow 31 = .ok (.bipush (-4), 2) := by decide +kernel
theorem dX7_comeNow_33 : decode cX7_comeNow 33 = .ok (.ireturn, 1) := by decide +kernel
theorem dX7_comeNow_34 : decode cX7_comeNow 34 = .ok (.aload_n 0, 1) := by decide +kernel
theorem dX7_comeNow_35 : decode cX7_comeNow 35 = .ok (.getfield 7, 3) := by decide +kernel
theorem dX7_comeNow_38 : decode cX7_comeNow 38 = .ok (.bipush 20, 2) := by decide +kernel
theorem dX7_comeNow_40 : decode cX7_comeNow 40 = .ok (.iaload, 1) := by decide +kernel
theorem dX7_comeNow_41 : decode cX7_comeNow 41 = .ok (.bipush 6, 2) := by decide +kernel
theorem dX7_comeNow_43 : decode cX7_comeNow 43 = .ok (.if_icmp .ne 6, 3) := by decide +kernel
theorem dX7_comeNow_46 : decode cX7_comeNow 46 = .ok (.bipush (-3), 2) := by decide +kernel
theorem dX7_comeNow_48 : decode cX7_comeNow 48 = .ok (.ireturn, 1) := by decide +kernel
theorem dX7_comeNow_49 : decode cX7_comeNow 49 = .ok (.aload_n 0, 1) := by decide +kernel
theorem dX7_comeNow_50 : decode cX7_comeNow 50 = .ok (.getfield 7, 3) := by decide +kernel
theorem dX7_comeNow_53 : decode cX7_comeNow 53 = .ok (.bipush 20, 2) := by decide +kernel
theorem dX7_comeNow_55 : decode cX7_comeNow 55 = .ok (.iaload, 1) := by decide +kernel
theorem dX7_comeNow_56 : decode cX7_comeNow 56 = .ok (.istore_n 3, 1) := by decide +kernel
theorem dX7_comeNow_57 : decode cX7_comeNow 57 = .ok (.iconst 0, 1) := by decide +kernel
theorem dX7_comeNow_58 : decode cX7_comeNow 58 = .ok (.istore 4, 2) := by decide +kernel
theorem dX7_comeNow_60 : decode cX7_comeNow 60 = .ok (.iload 4, 2) := by decide +kernel
theorem dX7_comeNow_62 : decode cX7_comeNow 62 = .ok (.bipush 7, 2) := by decide +kernel
theorem dX7_comeNow_64 : decode cX7_comeNow 64 = .ok (.if_icmp .ge 17, 3) := by decide +kernel
theorem dX7_comeNow_67 : decode cX7_comeNow 67 = .ok (.aload_n 0, 1) := by decide +kernel
theorem dX7_comeNow_68 : decode cX7_comeNow 68 = .ok (.iload_n 3, 1) := by decide +kernel
theorem dX7_comeNow_69 : decode cX7_comeNow 69 = .ok (.iload 4, 2) := by decide +kernel
theorem dX7_comeNow_71 : decode cX7_comeNow 71 = .ok (.iconst 0, 1) := by decide +kernel
theorem dX7_comeNow_72 : decode cX7_comeNow 72 = .ok (.invokevirtual 95, 3) := by decide +kernel
theorem dX7_comeNow_75 : decode cX7_comeNow 75 = .ok (.iinc 4 1, 3) := by decide +kernel
theorem dX7_comeNow_78 : decode cX7_comeNow 78 = .ok (.goto (-18), 3) := by decide +kernel
theorem dX7_comeNow_81 : decode cX7_comeNow 81 = .ok (.aload_n 0, 1) := by decide +kernel
theorem dX7_comeNow_82 : decode cX7_comeNow 82 = .ok (.iload_n 3, 1) := by decide +kernel
theorem dX7_comeNow_83 : decode cX7_comeNow 83 = .ok (.iconst 0, 1) := by decide +kernel
theorem dX7_comeNow_84 : decode cX7_comeNow 84 = .ok (.iload_n 1, 1) := by decide +kernel
theorem dX7_comeNow_85 : decode cX7_comeNow 85 = .ok (.invokevirtual 95, 3) := by decide +kernel
theorem dX7_comeNow_88 : decode cX7_comeNow 88 = .ok (.aload_n 0, 1) := by decide +kernel
theorem dX7_comeNow_89 : decode cX7_comeNow 89 = .ok (.iload_n 3, 1) := by decide +kernel
theorem dX7_comeNow_90 : decode cX7_comeNow 90 = .ok (.iconst 1, 1) := by decide +kernel
theorem dX7_comeNow_91 : decode cX7_comeNow 91 = .ok (.iload_n 2, 1) := by decide +kernel
theorem dX7_comeNow_92 : decode cX7_comeNow 92 = .ok (.invokevirtual 95, 3) := by decide +kernel
theorem dX7_comeNow_95 : decode cX7_comeNow 95 = .ok (.aload_n 0, 1) := by decide +kernel
theorem dX7_comeNow_96 : decode cX7_comeNow 96 = .ok (.iload_n 3, 1) := by decide +kernel
theorem dX7_comeNow_97 : decode cX7_comeNow 97 = .ok (.iconst 2, 1) := by decide +kernel
theorem dX7_comeNow_98 : decode cX7_comeNow 98 = .ok (.iconst 4, 1) := by decide +kernel
theorem dX7_comeNow_99 : decode cX7_comeNow 99 = .ok (.invokevirtual 95, 3) := by decide +kernel
theorem dX7_comeNow_102 : decode cX7_comeNow 102 = .ok (.aload_n 0, 1) := by decide +kernel
theorem dX7_comeNow_103 : decode cX7_comeNow 103 = .ok (.getfield 7, 3) := by decide +kernel
theorem dX7_comeNow_106 : decode cX7_comeNow 106 = .ok (.bipush 20, 2) := by decide +kernel
theorem dX7_comeNow_108 : decode cX7_comeNow 108 = .ok (.dup2, 1) := by decide +kernel
theorem dX7_comeNow_109 : decode cX7_comeNow 109 = .ok (.iaload, 1) := by decide +kernel
theorem dX7_comeNow_110 : decode cX7_comeNow 110 = .ok (.iconst 1, 1) := by decide +kernel
theorem dX7_comeNow_111 : decode cX7_comeNow 111 = .ok (.iadd, 1) := by decide +kernel
theorem dX7_comeNow_112 : decode cX7_comeNow 112 = .ok (.iastore, 1) := by decide +kernel
theorem dX7_comeNow_113 : decode cX7_comeNow 113 = .ok (.aload_n 0, 1) := by decide +kernel
theorem dX7_comeNow_114 : decode cX7_comeNow 114 = .ok (.getfield 7, 3) := by decide +kernel
theorem dX7_comeNow_117 : decode cX7_comeNow 117 = .ok (.iconst 1, 1) := by decide +kernel
theorem dX7_comeNow_118 : decode cX7_comeNow 118 = .ok (.iload_n 3, 1) := by decide +kernel
theorem dX7_comeNow_119 : decode cX7_comeNow 119 = .ok (.ifCond .ne 7, 3) := by decide +kernel
theorem dX7_comeNow_122 : decode cX7_comeNow 122 = .ok (.iconst 0, 1) := by decide +kernel
theorem dX7_comeNow_123 : decode cX7_comeNow 123 = .ok (.goto 9, 3) := by decide +kernel
theorem dX7_comeNow_126 : decode cX7_comeNow 126 = .ok (.aload_n 0, 1) := by decide +kernel
theorem dX7_comeNow_127 : decode cX7_comeNow 127 = .ok (.getfield 7, 3) := by decide +kernel
theorem dX7_comeNow_130 : decode cX7_comeNow 130 = .ok (.iconst 1, 1) := by decide +kernel
theorem dX7_comeNow_131 : decode cX7_comeNow 131 = .ok (.iaload, 1) := by decide +kernel
theorem dX7_comeNow_132 : decode cX7_comeNow 132 = .ok (.iastore, 1) := by decide +kernel
theorem dX7_comeNow_133 : decode cX7_comeNow 133 = .ok (.iload_n 3, 1) := by decide +kernel
theorem dX7_comeNow_134 : decode cX7_comeNow 134 = .ok (.ireturn, 1) := by decide +kernel
theorem dX7_headNow_0 : decode cX7_headNow 0 = .ok (.aload_n 0, 1) := by decide +kernel
theorem dX7_headNow_1 : decode cX7_headNow 1 = .ok (.iload_n 1, 1) := by decide +kernel
theorem dX7_headNow_2 : decode cX7_headNow 2 = .ok (.invokevirtual 120, 3) := by decide +kernel
theorem dX7_headNow_5 : decode cX7_headNow 5 = .ok (.ifCond .ne 5, 3) := by decide +kernel
theorem dX7_headNow_8 : decode cX7_headNow 8 = .ok (.iconst (-1), 1) := by decide +kernel
theorem dX7_headNow_9 : decode cX7_headNow 9 = .ok (.ireturn, 1) := by decide +kernel
theorem dX7_headNow_10 : decode cX7_headNow 10 = .ok (.iload_n 2, 1) := by decide +kernel
theorem dX7_headNow_11 : decode cX7_headNow 11 = .ok (.iconst (-1), 1) := by decide +kernel
theorem dX7_headNow_12 : decode cX7_headNow 12 = .ok (.iconst 3, 1) := by decide +kernel
theorem dX7_headNow_13 : decode cX7_headNow 13 = .ok (.invokestatic 51, 3) := by decide +kernel
theorem dX7_headNow_16 : decode cX7_headNow 16 = .ok (.ifCond .ne 6, 3) := by decide +kernel
theorem dX7_headNow_19 : decode cX7_headNow 19 = .ok (.bipush (-2), 2) := by decide +kernel
theorem dX7_headNow_21 : decode cX7_headNow 21 = .ok (.ireturn, 1) := by decide +kernel
theorem dX7_headNow_22 : decode cX7_headNow 22 = .ok (.aload_n 0, 1) := by decide +kernel
theorem dX7_headNow_23 : decode cX7_headNow 23 = .ok (.iload_n 1, 1) := by decide +kernel
theorem dX7_headNow_24 : decode cX7_headNow 24 = .ok (.iconst 2, 1) := by decide +kernel
theorem dX7_headNow_25 : decode cX7_headNow 25 = .ok (.invokevirtual 68, 3) := by decide +kernel
theorem dX7_headNow_28 : decode cX7_headNow 28 = .ok (.istore_n 3, 1) := by decide +kernel
theorem dX7_headNow_29 : decode cX7_headNow 29 = .ok (.iload_n 2, 1) := by decide +kernel
theorem dX7_headNow_30 : decode cX7_headNow 30 = .ok (.iconst (-1), 1) := by decide +kernel
theorem dX7_headNow_31 : decode cX7_headNow 31 = .ok (.if_icmp .ne 7, 3) := by decide +kernel
theorem dX7_headNow_34 : decode cX7_headNow 34 = .ok (.iconst 4, 1) := by decide +kernel
theorem dX7_headNow_35 : decode cX7_headNow 35 = .ok (.goto 4, 3) := by decide +kernel
theorem dX7_headNow_38 : decode cX7_headNow 38 = .ok (.iload_n 2, 1) := by decide +kernel
theorem dX7_headNow_39 : decode cX7_headNow 39 = .ok (.istore 4, 2) := by decide +kernel
theorem dX7_headNow_41 : decode cX7_headNow 41 = .ok (.iload_n 3, 1) := by decide +kernel
theorem dX7_headNow_42 : decode cX7_headNow 42 = .ok (.iload 4, 2) := by decide +kernel
theorem dX7_headNow_44 : decode cX7_headNow 44 = .ok (.if_icmp .ne 6, 3) := by decide +kernel
theorem dX7_headNow_47 : decode cX7_headNow 47 = .ok (.bipush (-5), 2) := by decide +kernel
theorem dX7_headNow_49 : decode cX7_headNow 49 = .ok (.ireturn, 1) := by decide +kernel
theorem dX7_headNow_50 : decode cX7_headNow 50 = .ok (.aload_n 0, 1) := by decide +kernel
theorem dX7_headNow_51 : decode cX7_headNow 51 = .ok (.iload_n 1, 1) := by decide +kernel
theorem dX7_headNow_52 : decode cX7_headNow 52 = .ok (.iconst 2, 1) := by decide +kernel
theorem dX7_headNow_53 : decode cX7_headNow 53 = .ok (.iload 4, 2) := by decide +kernel
theorem dX7_headNow_55 : decode cX7_headNow 55 = .ok (.invokevirtual 95, 3) := by decide +kernel
theorem dX7_headNow_58 : decode cX7_headNow 58 = .ok (.iload_n 3, 1) := by decide +kernel
theorem dX7_headNow_59 : decode cX7_headNow 59 = .ok (.ireturn, 1) := by decide +kernel
theorem dX7_lampsOn_0 : decode cX7_lampsOn 0 = .ok (.aload_n 0, 1) := by decide +kernel
theorem dX7_lampsOn_1 : decode cX7_lampsOn 1 = .ok (.iconst 0, 1) := by decide +kernel
theorem dX7_lampsOn_2 : decode cX7_lampsOn 2 = .ok (.iconst 3, 1) := by decide +kernel
theorem dX7_lampsOn_3 : decode cX7_lampsOn 3 = .ok (.invokevirtual 78, 3) := by decide +kernel
theorem dX7_lampsOn_6 : decode cX7_lampsOn 6 = .ok (.aload_n 0, 1) := by decide +kernel
theorem dX7_lampsOn_7 : decode cX7_lampsOn 7 = .ok (.iconst 1, 1) := by decide +kernel
theorem dX7_lampsOn_8 : decode cX7_lampsOn 8 = .ok (.iconst 3, 1) := by decide +kernel
theorem dX7_lampsOn_9 : decode cX7_lampsOn 9 = .ok (.invokevirtual 78, 3) := by decide +kernel
theorem dX7_lampsOn_12 : decode cX7_lampsOn 12 = .ok (.iadd, 1) := by decide +kernel
theorem dX7_lampsOn_13 : decode cX7_lampsOn 13 = .ok (.aload_n 0, 1) := by decide +kernel
theorem dX7_lampsOn_14 : decode cX7_lampsOn 14 = .ok (.iconst 2, 1) := by decide +kernel
theorem dX7_lampsOn_15 : decode cX7_lampsOn 15 = .ok (.iconst 3, 1) := by decide +kernel
theorem dX7_lampsOn_16 : decode cX7_lampsOn 16 = .ok (.invokevirtual 78, 3) := by decide +kernel
theorem dX7_lampsOn_19 : decode cX7_lampsOn 19 = .ok (.iadd, 1) := by decide +kernel
theorem dX7_lampsOn_20 : decode cX7_lampsOn 20 = .ok (.ireturn, 1) := by decide +kernel
theorem dX7_lightNow_0 : decode cX7_lightNow 0 = .ok (.iload_n 1, 1) := by decide +kernel
theorem dX7_lightNow_1 : decode cX7_lightNow 1 = .ok (.invokestatic 123, 3) := by decide +kernel
theorem dX7_lightNow_4 : decode cX7_lightNow 4 = .ok (.ifCond .ne 5, 3) := by decide +kernel
theorem dX7_lightNow_7 : decode cX7_lightNow 7 = .ok (.iconst (-1), 1) := by decide +kernel
theorem dX7_lightNow_8 : decode cX7_lightNow 8 = .ok (.ireturn, 1) := by decide +kernel
theorem dX7_lightNow_9 : decode cX7_lightNow 9 = .ok (.aload_n 0, 1) := by decide +kernel
theorem dX7_lightNow_10 : decode cX7_lightNow 10 = .ok (.iload_n 1, 1) := by decide +kernel
theorem dX7_lightNow_11 : decode cX7_lightNow 11 = .ok (.iconst 3, 1) := by decide +kernel
theorem dX7_lightNow_12 : decode cX7_lightNow 12 = .ok (.invokevirtual 78, 3) := by decide +kernel
theorem dX7_lightNow_15 : decode cX7_lightNow 15 = .ok (.iload_n 2, 1) := by decide +kernel
theorem dX7_lightNow_16 : decode cX7_lightNow 16 = .ok (.if_icmp .ne 6, 3) := by decide +kernel
theorem dX7_lightNow_19 : decode cX7_lightNow 19 = .ok (.bipush (-5), 2) := by decide +kernel
theorem dX7_lightNow_21 : decode cX7_lightNow 21 = .ok (.ireturn, 1) := by decide +kernel
theorem dX7_lightNow_22 : decode cX7_lightNow 22 = .ok (.aload_n 0, 1) := by decide +kernel
theorem dX7_lightNow_23 : decode cX7_lightNow 23 = .ok (.iload_n 1, 1) := by decide +kernel
theorem dX7_lightNow_24 : decode cX7_lightNow 24 = .ok (.iconst 3, 1) := by decide +kernel
theorem dX7_lightNow_25 : decode cX7_lightNow 25 = .ok (.iload_n 2, 1) := by decide +kernel
theorem dX7_lightNow_26 : decode cX7_lightNow 26 = .ok (.invokevirtual 47, 3) := by decide +kernel
theorem dX7_lightNow_29 : decode cX7_lightNow 29 = .ok (.aload_n 0, 1) := by decide +kernel
theorem dX7_lightNow_30 : decode cX7_lightNow 30 = .ok (.invokevirtual 126, 3) := by decide +kernel
theorem dX7_lightNow_33 : decode cX7_lightNow 33 = .ok (.ireturn, 1) := by decide +kernel
theorem dX7_setLampNow_0 : decode cX7_setLampNow 0 = .ok (.iload_n 1, 1) := by decide +kernel
theorem dX7_setLampNow_1 : decode cX7_setLampNow 1 = .ok (.invokestatic 123, 3) := by decide +kernel
theorem dX7_setLampNow_4 : decode cX7_setLampNow 4 = .ok (.ifCond .ne 5, 3) := by decide +kernel
theorem dX7_setLampNow_7 : decode cX7_setLampNow 7 = .ok (.iconst (-1), 1) := by decide +kernel
theorem dX7_setLampNow_8 : decode cX7_setLampNow 8 = .ok (.ireturn, 1) := by decide +kernel
theorem dX7_setLampNow_9 : decode cX7_setLampNow 9 = .ok (.iload_n 2, 1) := by decide +kernel
theorem dX7_setLampNow_10 : decode cX7_setLampNow 10 = .ok (.ifCond .ne 12, 3) := by decide +kernel
theorem dX7_setLampNow_13 : decode cX7_setLampNow 13 = .ok (.iload_n 3, 1) := by decide +kernel
theorem dX7_setLampNow_14 : decode cX7_setLampNow 14 = .ok (.iconst 0, 1) := by decide +kernel
theorem dX7_setLampNow_15 : decode cX7_setLampNow 15 = .ok (.iconst 3, 1) := by decide +kernel
theorem dX7_setLampNow_16 : decode cX7_setLampNow 16 = .ok (.invokestatic 51, 3) := by decide +kernel
theorem dX7_setLampNow_19 : decode cX7_setLampNow 19 = .ok (.goto 37, 3) := by decide +kernel
theorem dX7_setLampNow_22 : decode cX7_setLampNow 22 = .ok (.iload_n 2, 1) := by decide +kernel
theorem dX7_setLampNow_23 : decode cX7_setLampNow 23 = .ok (.iconst 1, 1) := by decide +kernel
theorem dX7_setLampNow_24 : decode cX7_setLampNow 24 = .ok (.if_icmp .ne 12, 3) := by decide +kernel
theorem dX7_setLampNow_27 : decode cX7_setLampNow 27 = .ok (.iload_n 3, 1) := by decide +kernel
theorem dX7_setLampNow_28 : decode cX7_setLampNow 28 = .ok (.iconst 1, 1) := by decide +kernel
theorem dX7_setLampNow_29 : decode cX7_setLampNow 29 = .ok (.iconst 4, 1) := by decide +kernel
theorem dX7_setLampNow_30 : decode cX7_setLampNow 30 = .ok (.invokestatic 51, 3) := by decide +kernel
theorem dX7_setLampNow_33 : decode cX7_setLampNow 33 = .ok (.goto 23, 3) := by decide +kernel
theorem dX7_setLampNow_36 : decode cX7_setLampNow 36 = .ok (.iload_n 2, 1) := by decide +kernel
theorem dX7_setLampNow_37 : decode cX7_setLampNow 37 = .ok (.iconst 2, 1) := by decide +kernel
theorem dX7_setLampNow_38 : decode cX7_setLampNow 38 = .ok (.if_icmp .ne 17, 3) := by decide +kernel
theorem dX7_setLampNow_41 : decode cX7_setLampNow 41 = .ok (.iload_n 3, 1) := by decide +kernel
theorem dX7_setLampNow_42 : decode cX7_setLampNow 42 = .ok (.iconst 0, 1) := by decide +kernel
theorem dX7_setLampNow_43 : decode cX7_setLampNow 43 = .ok (.bipush 9, 2) := by decide +kernel
theorem dX7_setLampNow_45 : decode cX7_setLampNow 45 = .ok (.invokestatic 51, 3) := by decide +kernel
theorem dX7_setLampNow_48 : decode cX7_setLampNow 48 = .ok (.ifCond .eq 7, 3) := by decide +kernel
theorem dX7_setLampNow_51 : decode cX7_setLampNow 51 = .ok (.iconst 1, 1) := by decide +kernel
theorem dX7_setLampNow_52 : decode cX7_setLampNow 52 = .ok (.goto 4, 3) := by decide +kernel
theorem dX7_setLampNow_55 : decode cX7_setLampNow 55 = .ok (.iconst 0, 1) := by decide +kernel
theorem dX7_setLampNow_56 : decode cX7_setLampNow 56 = .ok (.istore 4, 2) := by decide +kernel
theorem dX7_setLampNow_58 : decode cX7_setLampNow 58 = .ok (.iload 4, 2) := by decide +kernel
theorem dX7_setLampNow_60 : decode cX7_setLampNow 60 = .ok (.ifCond .ne 6, 3) := by decide +kernel
theorem dX7_setLampNow_63 : decode cX7_setLampNow 63 = .ok (.bipush (-2), 2) := by decide +kernel
theorem dX7_setLampNow_65 : decode cX7_setLampNow 65 = .ok (.ireturn, 1) := by decide +kernel
theorem dX7_setLampNow_66 : decode cX7_setLampNow 66 = .ok (.aload_n 0, 1) := by decide +kernel
theorem dX7_setLampNow_67 : decode cX7_setLampNow 67 = .ok (.iload_n 1, 1) := by decide +kernel
theorem dX7_setLampNow_68 : decode cX7_setLampNow 68 = .ok (.iload_n 2, 1) := by decide +kernel
theorem dX7_setLampNow_69 : decode cX7_setLampNow 69 = .ok (.invokevirtual 78, 3) := by decide +kernel
theorem dX7_setLampNow_72 : decode cX7_setLampNow 72 = .ok (.istore 5, 2) := by decide +kernel
theorem dX7_setLampNow_74 : decode cX7_setLampNow 74 = .ok (.iload 5, 2) := by decide +kernel
theorem dX7_setLampNow_76 : decode cX7_setLampNow 76 = .ok (.iload_n 3, 1) := by decide +kernel
theorem dX7_setLampNow_77 : decode cX7_setLampNow 77 = .ok (.if_icmp .ne 6, 3) := by decide +kernel
theorem dX7_setLampNow_80 : decode cX7_setLampNow 80 = .ok (.bipush (-5), 2) := by decide +kernel
theorem dX7_setLampNow_82 : decode cX7_setLampNow 82 = .ok (.ireturn, 1) := by decide +kernel
theorem dX7_setLampNow_83 : decode cX7_setLampNow 83 = .ok (.aload_n 0, 1) := by decide +kernel
theorem dX7_setLampNow_84 : decode cX7_setLampNow 84 = .ok (.iload_n 1, 1) := by decide +kernel
theorem dX7_setLampNow_85 : decode cX7_setLampNow 85 = .ok (.iload_n 2, 1) := by decide +kernel
theorem dX7_setLampNow_86 : decode cX7_setLampNow 86 = .ok (.iload_n 3, 1) := by decide +kernel
theorem dX7_setLampNow_87 : decode cX7_setLampNow 87 = .ok (.invokevirtual 47, 3) := by decide +kernel
theorem dX7_setLampNow_90 : decode cX7_setLampNow 90 = .ok (.iload 5, 2) := by decide +kernel
theorem dX7_setLampNow_92 : decode cX7_setLampNow 92 = .ok (.ireturn, 1) := by decide +kernel
theorem dX7_setNow_0 : decode cX7_setNow 0 = .ok (.iload_n 1, 1) := by decide +kernel
theorem dX7_setNow_1 : decode cX7_setNow 1 = .ok (.iconst 0, 1) := by decide +kernel
theorem dX7_setNow_2 : decode cX7_setNow 2 = .ok (.iconst 1, 1) := by decide +kernel
theorem dX7_setNow_3 : decode cX7_setNow 3 = .ok (.invokestatic 51, 3) := by decide +kernel
theorem dX7_setNow_6 : decode cX7_setNow 6 = .ok (.ifCond .ne 5, 3) := by decide +kernel
theorem dX7_setNow_9 : decode cX7_setNow 9 = .ok (.iconst (-1), 1) := by decide +kernel
theorem dX7_setNow_10 : decode cX7_setNow 10 = .ok (.ireturn, 1) := by decide +kernel
theorem dX7_setNow_11 : decode cX7_setNow 11 = .ok (.iload_n 2, 1) := by decide +kernel
theorem dX7_setNow_12 : decode cX7_setNow 12 = .ok (.iconst 0, 1) := by decide +kernel
theorem dX7_setNow_13 : decode cX7_setNow 13 = .ok (.bipush 9, 2) := by decide +kernel
theorem dX7_setNow_15 : decode cX7_setNow 15 = .ok (.invokestatic 51, 3) := by decide +kernel
theorem dX7_setNow_18 : decode cX7_setNow 18 = .ok (.ifCond .ne 6, 3) := by decide +kernel
theorem dX7_setNow_21 : decode cX7_setNow 21 = .ok (.bipush (-2), 2) := by decide +kernel
theorem dX7_setNow_23 : decode cX7_setNow 23 = .ok (.ireturn, 1) := by decide +kernel
theorem dX7_setNow_24 : decode cX7_setNow 24 = .ok (.aload_n 0, 1) := by decide +kernel
theorem dX7_setNow_25 : decode cX7_setNow 25 = .ok (.getfield 7, 3) := by decide +kernel
theorem dX7_setNow_28 : decode cX7_setNow 28 = .ok (.bipush 6, 2) := by decide +kernel
theorem dX7_setNow_30 : decode cX7_setNow 30 = .ok (.iload_n 1, 1) := by decide +kernel
theorem dX7_setNow_31 : decode cX7_setNow 31 = .ok (.iadd, 1) := by decide +kernel
theorem dX7_setNow_32 : decode cX7_setNow 32 = .ok (.iaload, 1) := by decide +kernel
theorem dX7_setNow_33 : decode cX7_setNow 33 = .ok (.istore_n 3, 1) := by decide +kernel
theorem dX7_setNow_34 : decode cX7_setNow 34 = .ok (.iload_n 3, 1) := by decide +kernel
theorem dX7_setNow_35 : decode cX7_setNow 35 = .ok (.iload_n 2, 1) := by decide +kernel
theorem dX7_setNow_36 : decode cX7_setNow 36 = .ok (.if_icmp .ne 6, 3) := by decide +kernel
theorem dX7_setNow_39 : decode cX7_setNow 39 = .ok (.bipush (-5), 2) := by decide +kernel
theorem dX7_setNow_41 : decode cX7_setNow 41 = .ok (.ireturn, 1) := by decide +kernel
theorem dX7_setNow_42 : decode cX7_setNow 42 = .ok (.aload_n 0, 1) := by decide +kernel
theorem dX7_setNow_43 : decode cX7_setNow 43 = .ok (.getfield 7, 3) := by decide +kernel
theorem dX7_setNow_46 : decode cX7_setNow 46 = .ok (.bipush 6, 2) := by decide +kernel
theorem dX7_setNow_48 : decode cX7_setNow 48 = .ok (.iload_n 1, 1) := by decide +kernel
theorem dX7_setNow_49 : decode cX7_setNow 49 = .ok (.iadd, 1) := by decide +kernel
theorem dX7_setNow_50 : decode cX7_setNow 50 = .ok (.iload_n 2, 1) := by decide +kernel
theorem dX7_setNow_51 : decode cX7_setNow 51 = .ok (.iastore, 1) := by decide +kernel
theorem dX7_setNow_52 : decode cX7_setNow 52 = .ok (.iload_n 3, 1) := by decide +kernel
theorem dX7_setNow_53 : decode cX7_setNow 53 = .ok (.ireturn, 1) := by decide +kernel
theorem dX7_passNow_0 : decode cX7_passNow 0 = .ok (.iload_n 1, 1) := by decide +kernel
theorem dX7_passNow_1 : decode cX7_passNow 1 = .ok (.iconst 1, 1) := by decide +kernel
theorem dX7_passNow_2 : decode cX7_passNow 2 = .ok (.bipush 99, 2) := by decide +kernel
theorem dX7_passNow_4 : decode cX7_passNow 4 = .ok (.invokestatic 51, 3) := by decide +kernel
theorem dX7_passNow_7 : decode cX7_passNow 7 = .ok (.ifCond .ne 6, 3) := by decide +kernel
theorem dX7_passNow_10 : decode cX7_passNow 10 = .ok (.bipush (-2), 2) := by decide +kernel
theorem dX7_passNow_12 : decode cX7_passNow 12 = .ok (.ireturn, 1) := by decide +kernel
theorem dX7_passNow_13 : decode cX7_passNow 13 = .ok (.aload_n 0, 1) := by decide +kernel
theorem dX7_passNow_14 : decode cX7_passNow 14 = .ok (.getfield 7, 3) := by decide +kernel
theorem dX7_passNow_17 : decode cX7_passNow 17 = .ok (.iconst 0, 1) := by decide +kernel
theorem dX7_passNow_18 : decode cX7_passNow 18 = .ok (.iaload, 1) := by decide +kernel
theorem dX7_passNow_19 : decode cX7_passNow 19 = .ok (.iload_n 1, 1) := by decide +kernel
theorem dX7_passNow_20 : decode cX7_passNow 20 = .ok (.iadd, 1) := by decide +kernel
theorem dX7_passNow_21 : decode cX7_passNow 21 = .ok (.ldc 129, 2) := by decide +kernel
theorem dX7_passNow_23 : decode cX7_passNow 23 = .ok (.if_icmp .le 6, 3) := by decide +kernel
theorem dX7_passNow_26 : decode cX7_passNow 26 = .ok (.bipush (-3), 2) := by decide +kernel
theorem dX7_passNow_28 : decode cX7_passNow 28 = .ok (.ireturn, 1) := by decide +kernel
theorem dX7_passNow_29 : decode cX7_passNow 29 = .ok (.aload_n 0, 1) := by decide +kernel
theorem dX7_passNow_30 : decode cX7_passNow 30 = .ok (.getfield 7, 3) := by decide +kernel
theorem dX7_passNow_33 : decode cX7_passNow 33 = .ok (.iconst 2, 1) := by decide +kernel
theorem dX7_passNow_34 : decode cX7_passNow 34 = .ok (.iaload, 1) := by decide +kernel
theorem dX7_passNow_35 : decode cX7_passNow 35 = .ok (.istore_n 2, 1) := by decide +kernel
theorem dX7_passNow_36 : decode cX7_passNow 36 = .ok (.iconst 0, 1) := by decide +kernel
theorem dX7_passNow_37 : decode cX7_passNow 37 = .ok (.istore_n 3, 1) := by decide +kernel
theorem dX7_passNow_38 : decode cX7_passNow 38 = .ok (.iload_n 3, 1) := by decide +kernel
theorem dX7_passNow_39 : decode cX7_passNow 39 = .ok (.iload_n 1, 1) := by decide +kernel
theorem dX7_passNow_40 : decode cX7_passNow 40 = .ok (.if_icmp .ge 13, 3) := by decide +kernel
theorem dX7_passNow_43 : decode cX7_passNow 43 = .ok (.aload_n 0, 1) := by decide +kernel
theorem dX7_passNow_44 : decode cX7_passNow 44 = .ok (.invokevirtual 130, 3) := by decide +kernel
theorem dX7_passNow_47 : decode cX7_passNow 47 = .ok (.iinc 3 1, 3) := by decide +kernel
theorem dX7_passNow_50 : decode cX7_passNow 50 = .ok (.goto (-12), 3) := by decide +kernel
theorem dX7_passNow_53 : decode cX7_passNow 53 = .ok (.aload_n 0, 1) := by decide +kernel
theorem dX7_passNow_54 : decode cX7_passNow 54 = .ok (.getfield 7, 3) := by decide +kernel
theorem dX7_passNow_57 : decode cX7_passNow 57 = .ok (.iconst 2, 1) := by decide +kernel
theorem dX7_passNow_58 : decode cX7_passNow 58 = .ok (.iaload, 1) := by decide +kernel
theorem dX7_passNow_59 : decode cX7_passNow 59 = .ok (.iload_n 2, 1) := by decide +kernel
theorem dX7_passNow_60 : decode cX7_passNow 60 = .ok (.isub, 1) := by decide +kernel
theorem dX7_passNow_61 : decode cX7_passNow 61 = .ok (.ireturn, 1) := by decide +kernel
theorem dX7_come_0 : decode cX7_come 0 = .ok (.aload_n 0, 1) := by decide +kernel
theorem dX7_come_1 : decode cX7_come 1 = .ok (.invokevirtual 65, 3) := by decide +kernel
theorem dX7_come_4 : decode cX7_come 4 = .ok (.aload_n 0, 1) := by decide +kernel
theorem dX7_come_5 : decode cX7_come 5 = .ok (.aload_n 0, 1) := by decide +kernel
theorem dX7_come_6 : decode cX7_come 6 = .ok (.iload_n 1, 1) := by decide +kernel
theorem dX7_come_7 : decode cX7_come 7 = .ok (.iload_n 2, 1) := by decide +kernel
theorem dX7_come_8 : decode cX7_come 8 = .ok (.invokevirtual 133, 3) := by decide +kernel
theorem dX7_come_11 : decode cX7_come 11 = .ok (.invokevirtual 136, 3) := by decide +kernel
theorem dX7_come_14 : decode cX7_come 14 = .ok (.ireturn, 1) := by decide +kernel
theorem dX7_head_0 : decode cX7_head 0 = .ok (.aload_n 0, 1) := by decide +kernel
theorem dX7_head_1 : decode cX7_head 1 = .ok (.invokevirtual 65, 3) := by decide +kernel
theorem dX7_head_4 : decode cX7_head 4 = .ok (.aload_n 0, 1) := by decide +kernel
theorem dX7_head_5 : decode cX7_head 5 = .ok (.aload_n 0, 1) := by decide +kernel
theorem dX7_head_6 : decode cX7_head 6 = .ok (.iload_n 1, 1) := by decide +kernel
theorem dX7_head_7 : decode cX7_head 7 = .ok (.iload_n 2, 1) := by decide +kernel
theorem dX7_head_8 : decode cX7_head 8 = .ok (.invokevirtual 139, 3) := by decide +kernel
theorem dX7_head_11 : decode cX7_head 11 = .ok (.invokevirtual 136, 3) := by decide +kernel
theorem dX7_head_14 : decode cX7_head 14 = .ok (.ireturn, 1) := by decide +kernel
theorem dX7_light_0 : decode cX7_light 0 = .ok (.aload_n 0, 1) := by decide +kernel
theorem dX7_light_1 : decode cX7_light 1 = .ok (.invokevirtual 65, 3) := by decide +kernel
theorem dX7_light_4 : decode cX7_light 4 = .ok (.aload_n 0, 1) := by decide +kernel
theorem dX7_light_5 : decode cX7_light 5 = .ok (.aload_n 0, 1) := by decide +kernel
theorem dX7_light_6 : decode cX7_light 6 = .ok (.iload_n 1, 1) := by decide +kernel
theorem dX7_light_7 : decode cX7_light 7 = .ok (.iload_n 2, 1) := by decide +kernel
theorem dX7_light_8 : decode cX7_light 8 = .ok (.ifCond .eq 7, 3) := by decide +kernel
theorem dX7_light_11 : decode cX7_light 11 = .ok (.iconst 1, 1) := by decide +kernel
theorem dX7_light_12 : decode cX7_light 12 = .ok (.goto 4, 3) := by decide +kernel
theorem dX7_light_15 : decode cX7_light 15 = .ok (.iconst 0, 1) := by decide +kernel
theorem dX7_light_16 : decode cX7_light 16 = .ok (.invokevirtual 142, 3) := by decide +kernel
theorem dX7_light_19 : decode cX7_light 19 = .ok (.invokevirtual 136, 3) := by decide +kernel
theorem dX7_light_22 : decode cX7_light 22 = .ok (.ireturn, 1) := by decide +kernel
theorem dX7_setLamp_0 : decode cX7_setLamp 0 = .ok (.aload_n 0, 1) := by decide +kernel
theorem dX7_setLamp_1 : decode cX7_setLamp 1 = .ok (.invokevirtual 65, 3) := by decide +kernel
theorem dX7_setLamp_4 : decode cX7_setLamp 4 = .ok (.aload_n 0, 1) := by decide +kernel
theorem dX7_setLamp_5 : decode cX7_setLamp 5 = .ok (.aload_n 0, 1) := by decide +kernel
theorem dX7_setLamp_6 : decode cX7_setLamp 6 = .ok (.iload_n 1, 1) := by decide +kernel
theorem dX7_setLamp_7 : decode cX7_setLamp 7 = .ok (.iload_n 2, 1) := by decide +kernel
theorem dX7_setLamp_8 : decode cX7_setLamp 8 = .ok (.iload_n 3, 1) := by decide +kernel
theorem dX7_setLamp_9 : decode cX7_setLamp 9 = .ok (.invokevirtual 145, 3) := by decide +kernel
theorem dX7_setLamp_12 : decode cX7_setLamp 12 = .ok (.invokevirtual 136, 3) := by decide +kernel
theorem dX7_setLamp_15 : decode cX7_setLamp 15 = .ok (.ireturn, 1) := by decide +kernel
theorem dX7_set_0 : decode cX7_set 0 = .ok (.aload_n 0, 1) := by decide +kernel
theorem dX7_set_1 : decode cX7_set 1 = .ok (.invokevirtual 65, 3) := by decide +kernel
theorem dX7_set_4 : decode cX7_set 4 = .ok (.aload_n 0, 1) := by decide +kernel
theorem dX7_set_5 : decode cX7_set 5 = .ok (.aload_n 0, 1) := by decide +kernel
theorem dX7_set_6 : decode cX7_set 6 = .ok (.iload_n 1, 1) := by decide +kernel
theorem dX7_set_7 : decode cX7_set 7 = .ok (.iload_n 2, 1) := by decide +kernel
theorem dX7_set_8 : decode cX7_set 8 = .ok (.invokevirtual 149, 3) := by decide +kernel
theorem dX7_set_11 : decode cX7_set 11 = .ok (.invokevirtual 136, 3) := by decide +kernel
theorem dX7_set_14 : decode cX7_set 14 = .ok (.ireturn, 1) := by decide +kernel
theorem dX7_pass_0 : decode cX7_pass 0 = .ok (.aload_n 0, 1) := by decide +kernel
theorem dX7_pass_1 : decode cX7_pass 1 = .ok (.invokevirtual 65, 3) := by decide +kernel
theorem dX7_pass_4 : decode cX7_pass 4 = .ok (.aload_n 0, 1) := by decide +kernel
theorem dX7_pass_5 : decode cX7_pass 5 = .ok (.aload_n 0, 1) := by decide +kernel
theorem dX7_pass_6 : decode cX7_pass 6 = .ok (.iload_n 1, 1) := by decide +kernel
theorem dX7_pass_7 : decode cX7_pass 7 = .ok (.invokevirtual 152, 3) := by decide +kernel
theorem dX7_pass_10 : decode cX7_pass 10 = .ok (.invokevirtual 136, 3) := by decide +kernel
theorem dX7_pass_13 : decode cX7_pass 13 = .ok (.ireturn, 1) := by decide +kernel
theorem dX7_type_0 : decode cX7_type 0 = .ok (.aload_n 0, 1) := by decide +kernel
theorem dX7_type_1 : decode cX7_type 1 = .ok (.getfield 155, 3) := by decide +kernel
theorem dX7_type_4 : decode cX7_type 4 = .ok (.bipush 60, 2) := by decide +kernel
theorem dX7_type_6 : decode cX7_type 6 = .ok (.if_icmp .ne 6, 3) := by decide +kernel
theorem dX7_type_9 : decode cX7_type 9 = .ok (.bipush (-3), 2) := by decide +kernel
theorem dX7_type_11 : decode cX7_type 11 = .ok (.ireturn, 1) := by decide +kernel
theorem dX7_type_12 : decode cX7_type 12 = .ok (.aload_n 0, 1) := by decide +kernel
theorem dX7_type_13 : decode cX7_type 13 = .ok (.getfield 25, 3) := by decide +kernel
theorem dX7_type_16 : decode cX7_type 16 = .ok (.aload_n 0, 1) := by decide +kernel
theorem dX7_type_17 : decode cX7_type 17 = .ok (.getfield 155, 3) := by decide +kernel
theorem dX7_type_20 : decode cX7_type 20 = .ok (.iload_n 1, 1) := by decide +kernel
theorem dX7_type_21 : decode cX7_type 21 = .ok (.iastore, 1) := by decide +kernel
theorem dX7_type_22 : decode cX7_type 22 = .ok (.aload_n 0, 1) := by decide +kernel
theorem dX7_type_23 : decode cX7_type 23 = .ok (.dup, 1) := by decide +kernel
theorem dX7_type_24 : decode cX7_type 24 = .ok (.getfield 155, 3) := by decide +kernel
theorem dX7_type_27 : decode cX7_type 27 = .ok (.iconst 1, 1) := by decide +kernel
theorem dX7_type_28 : decode cX7_type 28 = .ok (.iadd, 1) := by decide +kernel
theorem dX7_type_29 : decode cX7_type 29 = .ok (.putfield 155, 3) := by decide +kernel
theorem dX7_type_32 : decode cX7_type 32 = .ok (.aload_n 0, 1) := by decide +kernel
theorem dX7_type_33 : decode cX7_type 33 = .ok (.getfield 155, 3) := by decide +kernel
theorem dX7_type_36 : decode cX7_type 36 = .ok (.ireturn, 1) := by decide +kernel
theorem dX7_clearText_0 : decode cX7_clearText 0 = .ok (.aload_n 0, 1) := by decide +kernel
theorem dX7_clearText_1 : decode cX7_clearText 1 = .ok (.getfield 155, 3) := by decide +kernel
theorem dX7_clearText_4 : decode cX7_clearText 4 = .ok (.istore_n 1, 1) := by decide +kernel
theorem dX7_clearText_5 : decode cX7_clearText 5 = .ok (.aload_n 0, 1) := by decide +kernel
theorem dX7_clearText_6 : decode cX7_clearText 6 = .ok (.iconst 0, 1) := by decide +kernel
theorem dX7_clearText_7 : decode cX7_clearText 7 = .ok (.putfield 155, 3) := by decide +kernel
theorem dX7_clearText_10 : decode cX7_clearText 10 = .ok (.iload_n 1, 1) := by decide +kernel
theorem dX7_clearText_11 : decode cX7_clearText 11 = .ok (.ireturn, 1) := by decide +kernel
theorem dX7_code_0 : decode cX7_code 0 = .ok (.aload_n 0, 1) := by decide +kernel
theorem dX7_code_1 : decode cX7_code 1 = .ok (.getfield 158, 3) := by decide +kernel
theorem dX7_code_4 : decode cX7_code 4 = .ok (.aload_n 0, 1) := by decide +kernel
theorem dX7_code_5 : decode cX7_code 5 = .ok (.getfield 155, 3) := by decide +kernel
theorem dX7_code_8 : decode cX7_code 8 = .ok (.if_icmp .ge 15, 3) := by decide +kernel
theorem dX7_code_11 : decode cX7_code 11 = .ok (.aload_n 0, 1) := by decide +kernel
theorem dX7_code_12 : decode cX7_code 12 = .ok (.getfield 25, 3) := by decide +kernel
theorem dX7_code_15 : decode cX7_code 15 = .ok (.aload_n 0, 1) := by decide +kernel
theorem dX7_code_16 : decode cX7_code 16 = .ok (.getfield 158, 3) := by decide +kernel
theorem dX7_code_19 : decode cX7_code 19 = .ok (.iaload, 1) := by decide +kernel
theorem dX7_code_20 : decode cX7_code 20 = .ok (.goto 4, 3) := by decide +kernel
theorem dX7_code_23 : decode cX7_code 23 = .ok (.iconst 0, 1) := by decide +kernel
theorem dX7_code_24 : decode cX7_code 24 = .ok (.ireturn, 1) := by decide +kernel
theorem dX7_takes_0 : decode cX7_takes 0 = .ok (.aload_n 0, 1) := by decide +kernel
theorem dX7_takes_1 : decode cX7_takes 1 = .ok (.getfield 158, 3) := by decide +kernel
theorem dX7_takes_4 : decode cX7_takes 4 = .ok (.aload_n 0, 1) := by decide +kernel
theorem dX7_takes_5 : decode cX7_takes 5 = .ok (.getfield 155, 3) := by decide +kernel
theorem dX7_takes_8 : decode cX7_takes 8 = .ok (.if_icmp .ge 20, 3) := by decide +kernel
theorem dX7_takes_11 : decode cX7_takes 11 = .ok (.aload_n 0, 1) := by decide +kernel
theorem dX7_takes_12 : decode cX7_takes 12 = .ok (.getfield 25, 3) := by decide +kernel
theorem dX7_takes_15 : decode cX7_takes 15 = .ok (.aload_n 0, 1) := by decide +kernel
theorem dX7_takes_16 : decode cX7_takes 16 = .ok (.getfield 158, 3) := by decide +kernel
theorem dX7_takes_19 : decode cX7_takes 19 = .ok (.iaload, 1) := by decide +kernel
theorem dX7_takes_20 : decode cX7_takes 20 = .ok (.iload_n 1, 1) := by decide +kernel
theorem dX7_takes_21 : decode cX7_takes 21 = .ok (.if_icmp .ne 7, 3) := by decide +kernel
theorem dX7_takes_24 : decode cX7_takes 24 = .ok (.iconst 1, 1) := by decide +kernel
theorem dX7_takes_25 : decode cX7_takes 25 = .ok (.goto 4, 3) := by decide +kernel
theorem dX7_takes_28 : decode cX7_takes 28 = .ok (.iconst 0, 1) := by decide +kernel
theorem dX7_takes_29 : decode cX7_takes 29 = .ok (.istore_n 2, 1) := by decide +kernel
theorem dX7_takes_30 : decode cX7_takes 30 = .ok (.aload_n 0, 1) := by decide +kernel
theorem dX7_takes_31 : decode cX7_takes 31 = .ok (.dup, 1) := by decide +kernel
theorem dX7_takes_32 : decode cX7_takes 32 = .ok (.getfield 158, 3) := by decide +kernel
theorem dX7_takes_35 : decode cX7_takes 35 = .ok (.iload_n 2, 1) := by decide +kernel
theorem dX7_takes_36 : decode cX7_takes 36 = .ok (.ifCond .eq 7, 3) := by decide +kernel
theorem dX7_takes_39 : decode cX7_takes 39 = .ok (.iconst 1, 1) := by decide +kernel
theorem dX7_takes_40 : decode cX7_takes 40 = .ok (.goto 4, 3) := by decide +kernel
theorem dX7_takes_43 : decode cX7_takes 43 = .ok (.iconst 0, 1) := by decide +kernel
theorem dX7_takes_44 : decode cX7_takes 44 = .ok (.iadd, 1) := by decide +kernel
theorem dX7_takes_45 : decode cX7_takes 45 = .ok (.putfield 158, 3) := by decide +kernel
theorem dX7_takes_48 : decode cX7_takes 48 = .ok (.iload_n 2, 1) := by decide +kernel
theorem dX7_takes_49 : decode cX7_takes 49 = .ok (.ireturn, 1) := by decide +kernel
theorem dX7_isDigit_0 : decode cX7_isDigit 0 = .ok (.aload_n 0, 1) := by decide +kernel
theorem dX7_isDigit_1 : decode cX7_isDigit 1 = .ok (.getfield 158, 3) := by decide +kernel
theorem dX7_isDigit_4 : decode cX7_isDigit 4 = .ok (.aload_n 0, 1) := by decide +kernel
theorem dX7_isDigit_5 : decode cX7_isDigit 5 = .ok (.getfield 155, 3) := by decide +kernel
theorem dX7_isDigit_8 : decode cX7_isDigit 8 = .ok (.if_icmp .ge 26, 3) := by decide +kernel
theorem dX7_isDigit_11 : decode cX7_isDigit 11 = .ok (.aload_n 0, 1) := by decide +kernel
theorem dX7_isDigit_12 : decode cX7_isDigit 12 = .ok (.getfield 25, 3) := by decide +kernel
theorem dX7_isDigit_15 : decode cX7_isDigit 15 = .ok (.aload_n 0, 1) := by decide +kernel
theorem dX7_isDigit_16 : decode cX7_isDigit 16 = .ok (.getfield 158, 3) := by decide +kernel
theorem dX7_isDigit_19 : decode cX7_isDigit 19 = .ok (.iaload, 1) := by decide +kernel
theorem dX7_isDigit_20 : decode cX7_isDigit 20 = .ok (.bipush 48, 2) := by decide +kernel
theorem dX7_isDigit_22 : decode cX7_isDigit 22 = .ok (.bipush 57, 2) := by decide +kernel
theorem dX7_isDigit_24 : decode cX7_isDigit 24 = .ok (.invokestatic 51, 3) := by decide +kernel
theorem dX7_isDigit_27 : decode cX7_isDigit 27 = .ok (.ifCond .eq 7, 3) := by decide +kernel
theorem dX7_isDigit_30 : decode cX7_isDigit 30 = .ok (.iconst 1, 1) := by decide +kernel
theorem dX7_isDigit_31 : decode cX7_isDigit 31 = .ok (.goto 4, 3) := by decide +kernel
theorem dX7_isDigit_34 : decode cX7_isDigit 34 = .ok (.iconst 0, 1) := by decide +kernel
theorem dX7_isDigit_35 : decode cX7_isDigit 35 = .ok (.ireturn, 1) := by decide +kernel
theorem dX7_reads_0 : decode cX7_reads 0 = .ok (.aload_n 0, 1) := by decide +kernel
theorem dX7_reads_1 : decode cX7_reads 1 = .ok (.invokevirtual 161, 3) := by decide +kernel
theorem dX7_reads_4 : decode cX7_reads 4 = .ok (.ifCond .eq 18, 3) := by decide +kernel
theorem dX7_reads_7 : decode cX7_reads 7 = .ok (.aload_n 0, 1) := by decide +kernel
theorem dX7_reads_8 : decode cX7_reads 8 = .ok (.invokevirtual 165, 3) := by decide +kernel
theorem dX7_reads_11 : decode cX7_reads 11 = .ok (.bipush 48, 2) := by decide +kernel
theorem dX7_reads_13 : decode cX7_reads 13 = .ok (.isub, 1) := by decide +kernel
theorem dX7_reads_14 : decode cX7_reads 14 = .ok (.iload_n 1, 1) := by decide +kernel
theorem dX7_reads_15 : decode cX7_reads 15 = .ok (.iload_n 2, 1) := by decide +kernel
theorem dX7_reads_16 : decode cX7_reads 16 = .ok (.invokestatic 51, 3) := by decide +kernel
theorem dX7_reads_19 : decode cX7_reads 19 = .ok (.ifCond .ne 5, 3) := by decide +kernel
theorem dX7_reads_22 : decode cX7_reads 22 = .ok (.iconst 0, 1) := by decide +kernel
theorem dX7_reads_23 : decode cX7_reads 23 = .ok (.ireturn, 1) := by decide +kernel
theorem dX7_reads_24 : decode cX7_reads 24 = .ok (.aload_n 0, 1) := by decide +kernel
theorem dX7_reads_25 : decode cX7_reads 25 = .ok (.aload_n 0, 1) := by decide +kernel
theorem dX7_reads_26 : decode cX7_reads 26 = .ok (.invokevirtual 165, 3) := by decide +kernel
theorem dX7_reads_29 : decode cX7_reads 29 = .ok (.bipush 48, 2) := by decide +kernel
theorem dX7_reads_31 : decode cX7_reads 31 = .ok (.isub, 1) := by decide +kernel
theorem dX7_reads_32 : decode cX7_reads 32 = .ok (.putfield 168, 3) := by decide +kernel
theorem dX7_reads_35 : decode cX7_reads 35 = .ok (.aload_n 0, 1) := by decide +kernel
theorem dX7_reads_36 : decode cX7_reads 36 = .ok (.dup, 1) := by decide +kernel
theorem dX7_reads_37 : decode cX7_reads 37 = .ok (.getfield 158, 3) := by decide +kernel
theorem dX7_reads_40 : decode cX7_reads 40 = .ok (.iconst 1, 1) := by decide +kernel
theorem dX7_reads_41 : decode cX7_reads 41 = .ok (.iadd, 1) := by decide +kernel
theorem dX7_reads_42 : decode cX7_reads 42 = .ok (.putfield 158, 3) := by decide +kernel
theorem dX7_reads_45 : decode cX7_reads 45 = .ok (.aload_n 0, 1) := by decide +kernel
theorem dX7_reads_46 : decode cX7_reads 46 = .ok (.getfield 168, 3) := by decide +kernel
theorem dX7_reads_49 : decode cX7_reads 49 = .ok (.ifCond .le 61, 3) := by decide +kernel
theorem dX7_reads_52 : decode cX7_reads 52 = .ok (.aload_n 0, 1) := by decide +kernel
theorem dX7_reads_53 : decode cX7_reads 53 = .ok (.invokevirtual 161, 3) := by decide +kernel
theorem dX7_reads_56 : decode cX7_reads 56 = .ok (.ifCond .eq 54, 3) := by decide +kernel
theorem dX7_reads_59 : decode cX7_reads 59 = .ok (.bipush 10, 2) := by decide +kernel
theorem dX7_reads_61 : decode cX7_reads 61 = .ok (.aload_n 0, 1) := by decide +kernel
theorem dX7_reads_62 : decode cX7_reads 62 = .ok (.getfield 168, 3) := by decide +kernel
theorem dX7_reads_65 : decode cX7_reads 65 = .ok (.imul, 1) := by decide +kernel
theorem dX7_reads_66 : decode cX7_reads 66 = .ok (.aload_n 0, 1) := by decide +kernel
theorem dX7_reads_67 : decode cX7_reads 67 = .ok (.invokevirtual 165, 3) := by decide +kernel
theorem dX7_reads_70 : decode cX7_reads 70 = .ok (.iadd, 1) := by decide +kernel
theorem dX7_reads_71 : decode cX7_reads 71 = .ok (.bipush 48, 2) := by decide +kernel
theorem dX7_reads_73 : decode cX7_reads 73 = .ok (.isub, 1) := by decide +kernel
theorem dX7_reads_74 : decode cX7_reads 74 = .ok (.iload_n 2, 1) := by decide +kernel
theorem dX7_reads_75 : decode cX7_reads 75 = .ok (.if_icmp .gt 35, 3) := by decide +kernel
theorem dX7_reads_78 : decode cX7_reads 78 = .ok (.aload_n 0, 1) := by decide +kernel
theorem dX7_reads_79 : decode cX7_reads 79 = .ok (.bipush 10, 2) := by decide +kernel
theorem dX7_reads_81 : decode cX7_reads 81 = .ok (.aload_n 0, 1) := by decide +kernel
theorem dX7_reads_82 : decode cX7_reads 82 = .ok (.getfield 168, 3) := by decide +kernel
theorem dX7_reads_85 : decode cX7_reads 85 = .ok (.imul, 1) := by decide +kernel
theorem dX7_reads_86 : decode cX7_reads 86 = .ok (.aload_n 0, 1) := by decide +kernel
theorem dX7_reads_87 : decode cX7_reads 87 = .ok (.invokevirtual 165, 3) := by decide +kernel
theorem dX7_reads_90 : decode cX7_reads 90 = .ok (.iadd, 1) := by decide +kernel
theorem dX7_reads_91 : decode cX7_reads 91 = .ok (.bipush 48, 2) := by decide +kernel
theorem dX7_reads_93 : decode cX7_reads 93 = .ok (.isub, 1) := by decide +kernel
theorem dX7_reads_94 : decode cX7_reads 94 = .ok (.putfield 168, 3) := by decide +kernel
theorem dX7_reads_97 : decode cX7_reads 97 = .ok (.aload_n 0, 1) := by decide +kernel
theorem dX7_reads_98 : decode cX7_reads 98 = .ok (.dup, 1) := by decide +kernel
theorem dX7_reads_99 : decode cX7_reads 99 = .ok (.getfield 158, 3) := by decide +kernel
theorem dX7_reads_102 : decode cX7_reads 102 = .ok (.iconst 1, 1) := by decide +kernel
theorem dX7_reads_103 : decode cX7_reads 103 = .ok (.iadd, 1) := by decide +kernel
theorem dX7_reads_104 : decode cX7_reads 104 = .ok (.putfield 158, 3) := by decide +kernel
theorem dX7_reads_107 : decode cX7_reads 107 = .ok (.goto (-62), 3) := by decide +kernel
theorem dX7_reads_110 : decode cX7_reads 110 = .ok (.iconst 1, 1) := by decide +kernel
theorem dX7_reads_111 : decode cX7_reads 111 = .ok (.ireturn, 1) := by decide +kernel
theorem dX7_readsDirection_0 : decode cX7_readsDirection 0 = .ok (.aload_n 0, 1) := by decide +kernel
theorem dX7_readsDirection_1 : decode cX7_readsDirection 1 = .ok (.invokevirtual 165, 3) := by decide +kernel
theorem dX7_readsDirection_4 : decode cX7_readsDirection 4 = .ok (.istore_n 1, 1) := by decide +kernel
theorem dX7_readsDirection_5 : decode cX7_readsDirection 5 = .ok (.aload_n 0, 1) := by decide +kernel
theorem dX7_readsDirection_6 : decode cX7_readsDirection 6 = .ok (.getfield 34, 3) := by decide +kernel
theorem dX7_readsDirection_9 : decode cX7_readsDirection 9 = .ok (.aload_n 0, 1) := by decide +kernel
theorem dX7_readsDirection_10 : decode cX7_readsDirection 10 = .ok (.getfield 171, 3) := by decide +kernel
theorem dX7_readsDirection_13 : decode cX7_readsDirection 13 = .ok (.iload_n 1, 1) := by decide +kernel
theorem dX7_readsDirection_14 : decode cX7_readsDirection 14 = .ok (.bipush 110, 2) := by decide +kernel
theorem dX7_readsDirection_16 : decode cX7_readsDirection 16 = .ok (.if_icmp .ne 7, 3) := by decide +kernel
theorem dX7_readsDirection_19 : decode cX7_readsDirection 19 = .ok (.iconst 0, 1) := by decide +kernel
theorem dX7_readsDirection_20 : decode cX7_readsDirection 20 = .ok (.goto 34, 3) := by decide +kernel
theorem dX7_readsDirection_23 : decode cX7_readsDirection 23 = .ok (.iload_n 1, 1) := by decide +kernel
theorem dX7_readsDirection_24 : decode cX7_readsDirection 24 = .ok (.bipush 101, 2) := by decide +kernel
theorem dX7_readsDirection_26 : decode cX7_readsDirection 26 = .ok (.if_icmp .ne 7, 3) := by decide +kernel
theorem dX7_readsDirection_29 : decode cX7_readsDirection 29 = .ok (.iconst 1, 1) := by decide +kernel
theorem dX7_readsDirection_30 : decode cX7_readsDirection 30 = .ok (.goto 24, 3) := by decide +kernel
theorem dX7_readsDirection_33 : decode cX7_readsDirection 33 = .ok (.iload_n 1, 1) := by decide +kernel
theorem dX7_readsDirection_34 : decode cX7_readsDirection 34 = .ok (.bipush 115, 2) := by decide +kernel
theorem dX7_readsDirection_36 : decode cX7_readsDirection 36 = .ok (.if_icmp .ne 7, 3) := by decide +kernel
theorem dX7_readsDirection_39 : decode cX7_readsDirection 39 = .ok (.iconst 2, 1) := by decide +kernel
theorem dX7_readsDirection_40 : decode cX7_readsDirection 40 = .ok (.goto 14, 3) := by decide +kernel
theorem dX7_readsDirection_43 : decode cX7_readsDirection 43 = .ok (.iload_n 1, 1) := by decide +kernel
theorem dX7_readsDirection_44 : decode cX7_readsDirection 44 = .ok (.bipush 119, 2) := by decide +kernel
theorem dX7_readsDirection_46 : decode cX7_readsDirection 46 = .ok (.if_icmp .ne 7, 3) := by decide +kernel
theorem dX7_readsDirection_49 : decode cX7_readsDirection 49 = .ok (.iconst 3, 1) := by decide +kernel
theorem dX7_readsDirection_50 : decode cX7_readsDirection 50 = .ok (.goto 4, 3) := by decide +kernel
theorem dX7_readsDirection_53 : decode cX7_readsDirection 53 = .ok (.iconst (-1), 1) := by decide +kernel
theorem dX7_readsDirection_54 : decode cX7_readsDirection 54 = .ok (.iastore, 1) := by decide +kernel
theorem dX7_readsDirection_55 : decode cX7_readsDirection 55 = .ok (.aload_n 0, 1) := by decide +kernel
theorem dX7_readsDirection_56 : decode cX7_readsDirection 56 = .ok (.bipush 110, 2) := by decide +kernel
theorem dX7_readsDirection_58 : decode cX7_readsDirection 58 = .ok (.invokevirtual 174, 3) := by decide +kernel
theorem dX7_readsDirection_61 : decode cX7_readsDirection 61 = .ok (.ifCond .ne 39, 3) := by decide +kernel
theorem dX7_readsDirection_64 : decode cX7_readsDirection 64 = .ok (.aload_n 0, 1) := by decide +kernel
theorem dX7_readsDirection_65 : decode cX7_readsDirection 65 = .ok (.bipush 101, 2) := by decide +kernel
theorem dX7_readsDirection_67 : decode cX7_readsDirection 67 = .ok (.invokevirtual 174, 3) := by decide +kernel
theorem dX7_readsDirection_70 : decode cX7_readsDirection 70 = .ok (.ifCond .ne 30, 3) := by decide +kernel
theorem dX7_readsDirection_73 : decode cX7_readsDirection 73 = .ok (.aload_n 0, 1) := by decide +kernel
theorem dX7_readsDirection_74 : decode cX7_readsDirection 74 = .ok (.bipush 115, 2) := by decide +kernel
theorem dX7_readsDirection_76 : decode cX7_readsDirection 76 = .ok (.invokevirtual 174, 3) := by decide +kernel
theorem dX7_readsDirection_79 : decode cX7_readsDirection 79 = .ok (.ifCond .ne 21, 3) := by decide +kernel
theorem dX7_readsDirection_82 : decode cX7_readsDirection 82 = .ok (.aload_n 0, 1) := by decide +kernel
theorem dX7_readsDirection_83 : decode cX7_readsDirection 83 = .ok (.bipush 119, 2) := by decide +kernel
theorem dX7_readsDirection_85 : decode cX7_readsDirection 85 = .ok (.invokevirtual 174, 3) := by decide +kernel
theorem dX7_readsDirection_88 : decode cX7_readsDirection 88 = .ok (.ifCond .ne 12, 3) := by decide +kernel
theorem dX7_readsDirection_91 : decode cX7_readsDirection 91 = .ok (.aload_n 0, 1) := by decide +kernel
theorem dX7_readsDirection_92 : decode cX7_readsDirection 92 = .ok (.bipush 45, 2) := by decide +kernel
theorem dX7_readsDirection_94 : decode cX7_readsDirection 94 = .ok (.invokevirtual 174, 3) := by decide +kernel
theorem dX7_readsDirection_97 : decode cX7_readsDirection 97 = .ok (.ifCond .eq 7, 3) := by decide +kernel
theorem dX7_readsDirection_100 : decode cX7_readsDirection 100 = .ok (.iconst 1, 1) := by decide +kernel
theorem dX7_readsDirection_101 : decode cX7_readsDirection 101 = .ok (.goto 4, 3) := by decide +kernel
theorem dX7_readsDirection_104 : decode cX7_readsDirection 104 = .ok (.iconst 0, 1) := by decide +kernel
theorem dX7_readsDirection_105 : decode cX7_readsDirection 105 = .ok (.ireturn, 1) := by decide +kernel
theorem dX7_readsRest_0 : decode cX7_readsRest 0 = .ok (.iload_n 1, 1) := by decide +kernel
theorem dX7_readsRest_1 : decode cX7_readsRest 1 = .ok (.bipush 114, 2) := by decide +kernel
theorem dX7_readsRest_3 : decode cX7_readsRest 3 = .ok (.if_icmp .ne 13, 3) := by decide +kernel
theorem dX7_readsRest_6 : decode cX7_readsRest 6 = .ok (.aload_n 0, 1) := by decide +kernel
theorem dX7_readsRest_7 : decode cX7_readsRest 7 = .ok (.iconst 0, 1) := by decide +kernel
theorem dX7_readsRest_8 : decode cX7_readsRest 8 = .ok (.bipush 99, 2) := by decide +kernel
theorem dX7_readsRest_10 : decode cX7_readsRest 10 = .ok (.invokevirtual 177, 3) := by decide +kernel
theorem dX7_readsRest_13 : decode cX7_readsRest 13 = .ok (.goto 40, 3) := by decide +kernel
theorem dX7_readsRest_16 : decode cX7_readsRest 16 = .ok (.iload_n 1, 1) := by decide +kernel
theorem dX7_readsRest_17 : decode cX7_readsRest 17 = .ok (.bipush 100, 2) := by decide +kernel
theorem dX7_readsRest_19 : decode cX7_readsRest 19 = .ok (.if_icmp .ne 12, 3) := by decide +kernel
theorem dX7_readsRest_22 : decode cX7_readsRest 22 = .ok (.aload_n 0, 1) := by decide +kernel
theorem dX7_readsRest_23 : decode cX7_readsRest 23 = .ok (.iconst 0, 1) := by decide +kernel
theorem dX7_readsRest_24 : decode cX7_readsRest 24 = .ok (.iconst 5, 1) := by decide +kernel
theorem dX7_readsRest_25 : decode cX7_readsRest 25 = .ok (.invokevirtual 177, 3) := by decide +kernel
theorem dX7_readsRest_28 : decode cX7_readsRest 28 = .ok (.goto 25, 3) := by decide +kernel
theorem dX7_readsRest_31 : decode cX7_readsRest 31 = .ok (.iload_n 1, 1) := by decide +kernel
theorem dX7_readsRest_32 : decode cX7_readsRest 32 = .ok (.bipush 108, 2) := by decide +kernel
theorem dX7_readsRest_34 : decode cX7_readsRest 34 = .ok (.if_icmp .ne 12, 3) := by decide +kernel
theorem dX7_readsRest_37 : decode cX7_readsRest 37 = .ok (.aload_n 0, 1) := by decide +kernel
theorem dX7_readsRest_38 : decode cX7_readsRest 38 = .ok (.iconst 0, 1) := by decide +kernel
theorem dX7_readsRest_39 : decode cX7_readsRest 39 = .ok (.iconst 2, 1) := by decide +kernel
theorem dX7_readsRest_40 : decode cX7_readsRest 40 = .ok (.invokevirtual 177, 3) := by decide +kernel
theorem dX7_readsRest_43 : decode cX7_readsRest 43 = .ok (.goto 10, 3) := by decide +kernel
theorem dX7_readsRest_46 : decode cX7_readsRest 46 = .ok (.aload_n 0, 1) := by decide +kernel
theorem dX7_readsRest_47 : decode cX7_readsRest 47 = .ok (.iconst 1, 1) := by decide +kernel
theorem dX7_readsRest_48 : decode cX7_readsRest 48 = .ok (.bipush 99, 2) := by decide +kernel
theorem dX7_readsRest_50 : decode cX7_readsRest 50 = .ok (.invokevirtual 177, 3) := by decide +kernel
theorem dX7_readsRest_53 : decode cX7_readsRest 53 = .ok (.istore_n 2, 1) := by decide +kernel
theorem dX7_readsRest_54 : decode cX7_readsRest 54 = .ok (.iload_n 2, 1) := by decide +kernel
theorem dX7_readsRest_55 : decode cX7_readsRest 55 = .ok (.ifCond .ne 5, 3) := by decide +kernel
theorem dX7_readsRest_58 : decode cX7_readsRest 58 = .ok (.iconst 0, 1) := by decide +kernel
theorem dX7_readsRest_59 : decode cX7_readsRest 59 = .ok (.ireturn, 1) := by decide +kernel
theorem dX7_readsRest_60 : decode cX7_readsRest 60 = .ok (.aload_n 0, 1) := by decide +kernel
theorem dX7_readsRest_61 : decode cX7_readsRest 61 = .ok (.getfield 31, 3) := by decide +kernel
theorem dX7_readsRest_64 : decode cX7_readsRest 64 = .ok (.aload_n 0, 1) := by decide +kernel
theorem dX7_readsRest_65 : decode cX7_readsRest 65 = .ok (.getfield 171, 3) := by decide +kernel
theorem dX7_readsRest_68 : decode cX7_readsRest 68 = .ok (.aload_n 0, 1) := by decide +kernel
theorem dX7_readsRest_69 : decode cX7_readsRest 69 = .ok (.getfield 168, 3) := by decide +kernel
theorem dX7_readsRest_72 : decode cX7_readsRest 72 = .ok (.iastore, 1) := by decide +kernel
theorem dX7_readsRest_73 : decode cX7_readsRest 73 = .ok (.iload_n 1, 1) := by decide +kernel
theorem dX7_readsRest_74 : decode cX7_readsRest 74 = .ok (.bipush 114, 2) := by decide +kernel
theorem dX7_readsRest_76 : decode cX7_readsRest 76 = .ok (.if_icmp .ne 42, 3) := by decide +kernel
theorem dX7_readsRest_79 : decode cX7_readsRest 79 = .ok (.aload_n 0, 1) := by decide +kernel
theorem dX7_readsRest_80 : decode cX7_readsRest 80 = .ok (.bipush 104, 2) := by decide +kernel
theorem dX7_readsRest_82 : decode cX7_readsRest 82 = .ok (.invokevirtual 174, 3) := by decide +kernel
theorem dX7_readsRest_85 : decode cX7_readsRest 85 = .ok (.ifCond .eq 16, 3) := by decide +kernel
theorem dX7_readsRest_88 : decode cX7_readsRest 88 = .ok (.aload_n 0, 1) := by decide +kernel
theorem dX7_readsRest_89 : decode cX7_readsRest 89 = .ok (.iconst 1, 1) := by decide +kernel
theorem dX7_readsRest_90 : decode cX7_readsRest 90 = .ok (.iconst 5, 1) := by decide +kernel
theorem dX7_readsRest_91 : decode cX7_readsRest 91 = .ok (.invokevirtual 177, 3) := by decide +kernel
theorem dX7_readsRest_94 : decode cX7_readsRest 94 = .ok (.ifCond .eq 7, 3) := by decide +kernel
theorem dX7_readsRest_97 : decode cX7_readsRest 97 = .ok (.iconst 1, 1) := by decide +kernel
theorem dX7_readsRest_98 : decode cX7_readsRest 98 = .ok (.goto 4, 3) := by decide +kernel
theorem dX7_readsRest_101 : decode cX7_readsRest 101 = .ok (.iconst 0, 1) := by decide +kernel
theorem dX7_readsRest_102 : decode cX7_readsRest 102 = .ok (.istore_n 2, 1) := by decide +kernel
theorem dX7_readsRest_103 : decode cX7_readsRest 103 = .ok (.aload_n 0, 1) := by decide +kernel
theorem dX7_readsRest_104 : decode cX7_readsRest 104 = .ok (.getfield 34, 3) := by decide +kernel
theorem dX7_readsRest_107 : decode cX7_readsRest 107 = .ok (.aload_n 0, 1) := by decide +kernel
theorem dX7_readsRest_108 : decode cX7_readsRest 108 = .ok (.getfield 171, 3) := by decide +kernel
theorem dX7_readsRest_111 : decode cX7_readsRest 111 = .ok (.aload_n 0, 1) := by decide +kernel
theorem dX7_readsRest_112 : decode cX7_readsRest 112 = .ok (.getfield 168, 3) := by decide +kernel
theorem dX7_readsRest_115 : decode cX7_readsRest 115 = .ok (.iastore, 1) := by decide +kernel
theorem dX7_readsRest_116 : decode cX7_readsRest 116 = .ok (.iload_n 2, 1) := by decide +kernel
theorem dX7_readsRest_117 : decode cX7_readsRest 117 = .ok (.ireturn, 1) := by decide +kernel
theorem dX7_readsRest_118 : decode cX7_readsRest 118 = .ok (.iload_n 1, 1) := by decide +kernel
theorem dX7_readsRest_119 : decode cX7_readsRest 119 = .ok (.bipush 100, 2) := by decide +kernel
theorem dX7_readsRest_121 : decode cX7_readsRest 121 = .ok (.if_icmp .ne 8, 3) := by decide +kernel
theorem dX7_readsRest_124 : decode cX7_readsRest 124 = .ok (.aload_n 0, 1) := by decide +kernel
theorem dX7_readsRest_125 : decode cX7_readsRest 125 = .ok (.invokevirtual 180, 3) := by decide +kernel
theorem dX7_readsRest_128 : decode cX7_readsRest 128 = .ok (.ireturn, 1) := by decide +kernel
theorem dX7_readsRest_129 : decode cX7_readsRest 129 = .ok (.aload_n 0, 1) := by decide +kernel
theorem dX7_readsRest_130 : decode cX7_readsRest 130 = .ok (.getfield 34, 3) := by decide +kernel
theorem dX7_readsRest_133 : decode cX7_readsRest 133 = .ok (.aload_n 0, 1) := by decide +kernel
theorem dX7_readsRest_134 : decode cX7_readsRest 134 = .ok (.getfield 171, 3) := by decide +kernel
theorem dX7_readsRest_137 : decode cX7_readsRest 137 = .ok (.aload_n 0, 1) := by decide +kernel
theorem dX7_readsRest_138 : decode cX7_readsRest 138 = .ok (.invokevirtual 165, 3) := by decide +kernel
theorem dX7_readsRest_141 : decode cX7_readsRest 141 = .ok (.bipush 43, 2) := by decide +kernel
theorem dX7_readsRest_143 : decode cX7_readsRest 143 = .ok (.if_icmp .ne 7, 3) := by decide +kernel
theorem dX7_readsRest_146 : decode cX7_readsRest 146 = .ok (.iconst 1, 1) := by decide +kernel
theorem dX7_readsRest_147 : decode cX7_readsRest 147 = .ok (.goto 4, 3) := by decide +kernel
theorem dX7_readsRest_150 : decode cX7_readsRest 150 = .ok (.iconst 0, 1) := by decide +kernel
theorem dX7_readsRest_151 : decode cX7_readsRest 151 = .ok (.iastore, 1) := by decide +kernel
theorem dX7_readsRest_152 : decode cX7_readsRest 152 = .ok (.iload_n 1, 1) := by decide +kernel
theorem dX7_readsRest_153 : decode cX7_readsRest 153 = .ok (.bipush 46, 2) := by decide +kernel
theorem dX7_readsRest_155 : decode cX7_readsRest 155 = .ok (.if_icmp .eq 21, 3) := by decide +kernel
theorem dX7_readsRest_158 : decode cX7_readsRest 158 = .ok (.aload_n 0, 1) := by decide +kernel
theorem dX7_readsRest_159 : decode cX7_readsRest 159 = .ok (.bipush 43, 2) := by decide +kernel
theorem dX7_readsRest_161 : decode cX7_readsRest 161 = .ok (.invokevirtual 174, 3) := by decide +kernel
theorem dX7_readsRest_164 : decode cX7_readsRest 164 = .ok (.ifCond .ne 12, 3) := by decide +kernel
theorem dX7_readsRest_167 : decode cX7_readsRest 167 = .ok (.aload_n 0, 1) := by decide +kernel
theorem dX7_readsRest_168 : decode cX7_readsRest 168 = .ok (.bipush 45, 2) := by decide +kernel
theorem dX7_readsRest_170 : decode cX7_readsRest 170 = .ok (.invokevirtual 174, 3) := by decide +kernel
theorem dX7_readsRest_173 : decode cX7_readsRest 173 = .ok (.ifCond .eq 7, 3) := by decide +kernel
theorem dX7_readsRest_176 : decode cX7_readsRest 176 = .ok (.iconst 1, 1) := by decide +kernel
theorem dX7_readsRest_177 : decode cX7_readsRest 177 = .ok (.goto 4, 3) := by decide +kernel
theorem dX7_readsRest_180 : decode cX7_readsRest 180 = .ok (.iconst 0, 1) := by decide +kernel
theorem dX7_readsRest_181 : decode cX7_readsRest 181 = .ok (.ireturn, 1) := by decide +kernel
theorem dX7_readsThing_0 : decode cX7_readsThing 0 = .ok (.aload_n 0, 1) := by decide +kernel
theorem dX7_readsThing_1 : decode cX7_readsThing 1 = .ok (.invokevirtual 165, 3) := by decide +kernel
theorem dX7_readsThing_4 : decode cX7_readsThing 4 = .ok (.istore_n 1, 1) := by decide +kernel
theorem dX7_readsThing_5 : decode cX7_readsThing 5 = .ok (.aload_n 0, 1) := by decide +kernel
theorem dX7_readsThing_6 : decode cX7_readsThing 6 = .ok (.bipush 114, 2) := by decide +kernel
theorem dX7_readsThing_8 : decode cX7_readsThing 8 = .ok (.invokevirtual 174, 3) := by decide +kernel
theorem dX7_readsThing_11 : decode cX7_readsThing 11 = .ok (.ifCond .ne 30, 3) := by decide +kernel
theorem dX7_readsThing_14 : decode cX7_readsThing 14 = .ok (.aload_n 0, 1) := by decide +kernel
theorem dX7_readsThing_15 : decode cX7_readsThing 15 = .ok (.bipush 100, 2) := by decide +kernel
theorem dX7_readsThing_17 : decode cX7_readsThing 17 = .ok (.invokevirtual 174, 3) := by decide +kernel
theorem dX7_readsThing_20 : decode cX7_readsThing 20 = .ok (.ifCond .ne 21, 3) := by decide +kernel
theorem dX7_readsThing_23 : decode cX7_readsThing 23 = .ok (.aload_n 0, 1) := by decide +kernel
theorem dX7_readsThing_24 : decode cX7_readsThing 24 = .ok (.bipush 108, 2) := by decide +kernel
theorem dX7_readsThing_26 : decode cX7_readsThing 26 = .ok (.invokevirtual 174, 3) := by decide +kernel
theorem dX7_readsThing_29 : decode cX7_readsThing 29 = .ok (.ifCond .ne 12, 3) := by decide +kernel
theorem dX7_readsThing_32 : decode cX7_readsThing 32 = .ok (.aload_n 0, 1) := by decide +kernel
theorem dX7_readsThing_33 : decode cX7_readsThing 33 = .ok (.bipush 46, 2) := by decide +kernel
theorem dX7_readsThing_35 : decode cX7_readsThing 35 = .ok (.invokevirtual 174, 3) := by decide +kernel
theorem dX7_readsThing_38 : decode cX7_readsThing 38 = .ok (.ifCond .eq 7, 3) := by decide +kernel
theorem dX7_readsThing_41 : decode cX7_readsThing 41 = .ok (.iconst 1, 1) := by decide +kernel
theorem dX7_readsThing_42 : decode cX7_readsThing 42 = .ok (.goto 4, 3) := by decide +kernel
theorem dX7_readsThing_45 : decode cX7_readsThing 45 = .ok (.iconst 0, 1) := by decide +kernel
theorem dX7_readsThing_46 : decode cX7_readsThing 46 = .ok (.istore_n 2, 1) := by decide +kernel
theorem dX7_readsThing_47 : decode cX7_readsThing 47 = .ok (.iload_n 2, 1) := by decide +kernel
theorem dX7_readsThing_48 : decode cX7_readsThing 48 = .ok (.ifCond .eq 11, 3) := by decide +kernel
theorem dX7_readsThing_51 : decode cX7_readsThing 51 = .ok (.aload_n 0, 1) := by decide +kernel
theorem dX7_readsThing_52 : decode cX7_readsThing 52 = .ok (.iload_n 1, 1) := by decide +kernel
theorem dX7_readsThing_53 : decode cX7_readsThing 53 = .ok (.invokevirtual 183, 3) := by decide +kernel
theorem dX7_readsThing_56 : decode cX7_readsThing 56 = .ok (.ifCond .ne 5, 3) := by decide +kernel
theorem dX7_readsThing_59 : decode cX7_readsThing 59 = .ok (.iconst 0, 1) := by decide +kernel
theorem dX7_readsThing_60 : decode cX7_readsThing 60 = .ok (.ireturn, 1) := by decide +kernel
theorem dX7_readsThing_61 : decode cX7_readsThing 61 = .ok (.aload_n 0, 1) := by decide +kernel
theorem dX7_readsThing_62 : decode cX7_readsThing 62 = .ok (.getfield 28, 3) := by decide +kernel
theorem dX7_readsThing_65 : decode cX7_readsThing 65 = .ok (.aload_n 0, 1) := by decide +kernel
theorem dX7_readsThing_66 : decode cX7_readsThing 66 = .ok (.getfield 171, 3) := by decide +kernel
theorem dX7_readsThing_69 : decode cX7_readsThing 69 = .ok (.iload_n 1, 1) := by decide +kernel
theorem dX7_readsThing_70 : decode cX7_readsThing 70 = .ok (.iastore, 1) := by decide +kernel
theorem dX7_readsThing_71 : decode cX7_readsThing 71 = .ok (.aload_n 0, 1) := by decide +kernel
theorem dX7_readsThing_72 : decode cX7_readsThing 72 = .ok (.dup, 1) := by decide +kernel
theorem dX7_readsThing_73 : decode cX7_readsThing 73 = .ok (.getfield 171, 3) := by decide +kernel
theorem dX7_readsThing_76 : decode cX7_readsThing 76 = .ok (.iconst 1, 1) := by decide +kernel
theorem dX7_readsThing_77 : decode cX7_readsThing 77 = .ok (.iadd, 1) := by decide +kernel
theorem dX7_readsThing_78 : decode cX7_readsThing 78 = .ok (.putfield 171, 3) := by decide +kernel
theorem dX7_readsThing_81 : decode cX7_readsThing 81 = .ok (.iconst 1, 1) := by decide +kernel
theorem dX7_readsThing_82 : decode cX7_readsThing 82 = .ok (.ireturn, 1) := by decide +kernel
theorem dX7_faultNow_0 : decode cX7_faultNow 0 = .ok (.aload_n 0, 1) := by decide +kernel
theorem dX7_faultNow_1 : decode cX7_faultNow 1 = .ok (.iconst 0, 1) := by decide +kernel
theorem dX7_faultNow_2 : decode cX7_faultNow 2 = .ok (.putfield 158, 3) := by decide +kernel
theorem dX7_faultNow_5 : decode cX7_faultNow 5 = .ok (.aload_n 0, 1) := by decide +kernel
theorem dX7_faultNow_6 : decode cX7_faultNow 6 = .ok (.iconst 0, 1) := by decide +kernel
theorem dX7_faultNow_7 : decode cX7_faultNow 7 = .ok (.putfield 171, 3) := by decide +kernel
theorem dX7_faultNow_10 : decode cX7_faultNow 10 = .ok (.aload_n 0, 1) := by decide +kernel
theorem dX7_faultNow_11 : decode cX7_faultNow 11 = .ok (.invokevirtual 186, 3) := by decide +kernel
theorem dX7_faultNow_14 : decode cX7_faultNow 14 = .ok (.istore_n 1, 1) := by decide +kernel
theorem dX7_faultNow_15 : decode cX7_faultNow 15 = .ok (.iload_n 1, 1) := by decide +kernel
theorem dX7_faultNow_16 : decode cX7_faultNow 16 = .ok (.ifCond .eq 20, 3) := by decide +kernel
theorem dX7_faultNow_19 : decode cX7_faultNow 19 = .ok (.aload_n 0, 1) := by decide +kernel
theorem dX7_faultNow_20 : decode cX7_faultNow 20 = .ok (.bipush 59, 2) := by decide +kernel
theorem dX7_faultNow_22 : decode cX7_faultNow 22 = .ok (.invokevirtual 174, 3) := by decide +kernel
theorem dX7_faultNow_25 : decode cX7_faultNow 25 = .ok (.ifCond .eq 11, 3) := by decide +kernel
theorem dX7_faultNow_28 : decode cX7_faultNow 28 = .ok (.aload_n 0, 1) := by decide +kernel
theorem dX7_faultNow_29 : decode cX7_faultNow 29 = .ok (.invokevirtual 186, 3) := by decide +kernel
theorem dX7_faultNow_32 : decode cX7_faultNow 32 = .ok (.istore_n 1, 1) := by decide +kernel
theorem dX7_faultNow_33 : decode cX7_faultNow 33 = .ok (.goto (-18), 3) := by decide +kernel
theorem dX7_faultNow_36 : decode cX7_faultNow 36 = .ok (.iload_n 1, 1) := by decide +kernel
theorem dX7_faultNow_37 : decode cX7_faultNow 37 = .ok (.ifCond .eq 19, 3) := by decide +kernel
theorem dX7_faultNow_40 : decode cX7_faultNow 40 = .ok (.aload_n 0, 1) := by decide +kernel
theorem dX7_faultNow_41 : decode cX7_faultNow 41 = .ok (.getfield 158, 3) := by decide +kernel
theorem dX7_faultNow_44 : decode cX7_faultNow 44 = .ok (.aload_n 0, 1) := by decide +kernel
theorem dX7_faultNow_45 : decode cX7_faultNow 45 = .ok (.getfield 155, 3) := by decide +kernel
theorem dX7_faultNow_48 : decode cX7_faultNow 48 = .ok (.if_icmp .ne 8, 3) := by decide +kernel
theorem dX7_faultNow_51 : decode cX7_faultNow 51 = .ok (.bipush (-5), 2) := by decide +kernel
theorem dX7_faultNow_53 : decode cX7_faultNow 53 = .ok (.goto 7, 3) := by decide +kernel
theorem dX7_faultNow_56 : decode cX7_faultNow 56 = .ok (.aload_n 0, 1) := by decide +kernel
theorem dX7_faultNow_57 : decode cX7_faultNow 57 = .ok (.getfield 158, 3) := by decide +kernel
theorem dX7_faultNow_60 : decode cX7_faultNow 60 = .ok (.ireturn, 1) := by decide +kernel
theorem dX7_doThing_0 : decode cX7_doThing 0 = .ok (.aload_n 0, 1) := by decide +kernel
theorem dX7_doThing_1 : decode cX7_doThing 1 = .ok (.getfield 28, 3) := by decide +kernel
theorem dX7_doThing_4 : decode cX7_doThing 4 = .ok (.iload_n 1, 1) := by decide +kernel
theorem dX7_doThing_5 : decode cX7_doThing 5 = .ok (.iaload, 1) := by decide +kernel
theorem dX7_doThing_6 : decode cX7_doThing 6 = .ok (.lookupswitch 85 #[(100, 51), (108, 68), (114, 34)], 34) := by decide +kernel
theorem dX7_doThing_40 : decode cX7_doThing 40 = .ok (.aload_n 0, 1) := by decide +kernel
theorem dX7_doThing_41 : decode cX7_doThing 41 = .ok (.aload_n 0, 1) := by decide +kernel
theorem dX7_doThing_42 : decode cX7_doThing 42 = .ok (.getfield 31, 3) := by decide +kernel
theorem dX7_doThing_45 : decode cX7_doThing 45 = .ok (.iload_n 1, 1) := by decide +kernel
theorem dX7_doThing_46 : decode cX7_doThing 46 = .ok (.iaload, 1) := by decide +kernel
theorem dX7_doThing_47 : decode cX7_doThing 47 = .ok (.aload_n 0, 1) := by decide +kernel
theorem dX7_doThing_48 : decode cX7_doThing 48 = .ok (.getfield 34, 3) := by decide +kernel
theorem dX7_doThing_51 : decode cX7_doThing 51 = .ok (.iload_n 1, 1) := by decide +kernel
theorem dX7_doThing_52 : decode cX7_doThing 52 = .ok (.iaload, 1) := by decide +kernel
theorem dX7_doThing_53 : decode cX7_doThing 53 = .ok (.invokevirtual 133, 3) := by decide +kernel
theorem dX7_doThing_56 : decode cX7_doThing 56 = .ok (.ireturn, 1) := by decide +kernel
theorem dX7_doThing_57 : decode cX7_doThing 57 = .ok (.aload_n 0, 1) := by decide +kernel
theorem dX7_doThing_58 : decode cX7_doThing 58 = .ok (.aload_n 0, 1) := by decide +kernel
theorem dX7_doThing_59 : decode cX7_doThing 59 = .ok (.getfield 31, 3) := by decide +kernel
theorem dX7_doThing_62 : decode cX7_doThing 62 = .ok (.iload_n 1, 1) := by decide +kernel
theorem dX7_doThing_63 : decode cX7_doThing 63 = .ok (.iaload, 1) := by decide +kernel
theorem dX7_doThing_64 : decode cX7_doThing 64 = .ok (.aload_n 0, 1) := by decide +kernel
theorem dX7_doThing_65 : decode cX7_doThing 65 = .ok (.getfield 34, 3) := by decide +kernel
theorem dX7_doThing_68 : decode cX7_doThing 68 = .ok (.iload_n 1, 1) := by decide +kernel
theorem dX7_doThing_69 : decode cX7_doThing 69 = .ok (.iaload, 1) := by decide +kernel
theorem dX7_doThing_70 : decode cX7_doThing 70 = .ok (.invokevirtual 139, 3) := by decide +kernel
theorem dX7_doThing_73 : decode cX7_doThing 73 = .ok (.ireturn, 1) := by decide +kernel
theorem dX7_doThing_74 : decode cX7_doThing 74 = .ok (.aload_n 0, 1) := by decide +kernel
theorem dX7_doThing_75 : decode cX7_doThing 75 = .ok (.aload_n 0, 1) := by decide +kernel
theorem dX7_doThing_76 : decode cX7_doThing 76 = .ok (.getfield 31, 3) := by decide +kernel
theorem dX7_doThing_79 : decode cX7_doThing 79 = .ok (.iload_n 1, 1) := by decide +kernel
theorem dX7_doThing_80 : decode cX7_doThing 80 = .ok (.iaload, 1) := by decide +kernel
theorem dX7_doThing_81 : decode cX7_doThing 81 = .ok (.aload_n 0, 1) := by decide +kernel
theorem dX7_doThing_82 : decode cX7_doThing 82 = .ok (.getfield 34, 3) := by decide +kernel
theorem dX7_doThing_85 : decode cX7_doThing 85 = .ok (.iload_n 1, 1) := by decide +kernel
theorem dX7_doThing_86 : decode cX7_doThing 86 = .ok (.iaload, 1) := by decide +kernel
theorem dX7_doThing_87 : decode cX7_doThing 87 = .ok (.invokevirtual 142, 3) := by decide +kernel
theorem dX7_doThing_90 : decode cX7_doThing 90 = .ok (.ireturn, 1) := by decide +kernel
theorem dX7_doThing_91 : decode cX7_doThing 91 = .ok (.aload_n 0, 1) := by decide +kernel
theorem dX7_doThing_92 : decode cX7_doThing 92 = .ok (.aload_n 0, 1) := by decide +kernel
theorem dX7_doThing_93 : decode cX7_doThing 93 = .ok (.getfield 31, 3) := by decide +kernel
theorem dX7_doThing_96 : decode cX7_doThing 96 = .ok (.iload_n 1, 1) := by decide +kernel
theorem dX7_doThing_97 : decode cX7_doThing 97 = .ok (.iaload, 1) := by decide +kernel
theorem dX7_doThing_98 : decode cX7_doThing 98 = .ok (.invokevirtual 152, 3) := by decide +kernel
theorem dX7_doThing_101 : decode cX7_doThing 101 = .ok (.ireturn, 1) := by decide +kernel
theorem dX7_perform_0 : decode cX7_perform 0 = .ok (.aload_n 0, 1) := by decide +kernel
theorem dX7_perform_1 : decode cX7_perform 1 = .ok (.invokevirtual 189, 3) := by decide +kernel
theorem dX7_perform_4 : decode cX7_perform 4 = .ok (.istore_n 1, 1) := by decide +kernel
theorem dX7_perform_5 : decode cX7_perform 5 = .ok (.iload_n 1, 1) := by decide +kernel
theorem dX7_perform_6 : decode cX7_perform 6 = .ok (.bipush (-5), 2) := by decide +kernel
theorem dX7_perform_8 : decode cX7_perform 8 = .ok (.if_icmp .eq 8, 3) := by decide +kernel
theorem dX7_perform_11 : decode cX7_perform 11 = .ok (.bipush (-100), 2) := by decide +kernel
theorem dX7_perform_13 : decode cX7_perform 13 = .ok (.iload_n 1, 1) := by decide +kernel
theorem dX7_perform_14 : decode cX7_perform 14 = .ok (.isub, 1) := by decide +kernel
theorem dX7_perform_15 : decode cX7_perform 15 = .ok (.ireturn, 1) := by decide +kernel
theorem dX7_perform_16 : decode cX7_perform 16 = .ok (.aload_n 0, 1) := by decide +kernel
theorem dX7_perform_17 : decode cX7_perform 17 = .ok (.invokevirtual 65, 3) := by decide +kernel
theorem dX7_perform_20 : decode cX7_perform 20 = .ok (.iconst 0, 1) := by decide +kernel
theorem dX7_perform_21 : decode cX7_perform 21 = .ok (.istore_n 2, 1) := by decide +kernel
theorem dX7_perform_22 : decode cX7_perform 22 = .ok (.iload_n 2, 1) := by decide +kernel
theorem dX7_perform_23 : decode cX7_perform 23 = .ok (.aload_n 0, 1) := by decide +kernel
theorem dX7_perform_24 : decode cX7_perform 24 = .ok (.getfield 171, 3) := by decide +kernel
theorem dX7_perform_27 : decode cX7_perform 27 = .ok (.if_icmp .ge 42, 3) := by decide +kernel
theorem dX7_perform_30 : decode cX7_perform 30 = .ok (.aload_n 0, 1) := by decide +kernel
theorem dX7_perform_31 : decode cX7_perform 31 = .ok (.iload_n 2, 1) := by decide +kernel
theorem dX7_perform_32 : decode cX7_perform 32 = .ok (.invokevirtual 192, 3) := by decide +kernel
theorem dX7_perform_35 : decode cX7_perform 35 = .ok (.istore_n 3, 1) := by decide +kernel
theorem dX7_perform_36 : decode cX7_perform 36 = .ok (.iload_n 3, 1) := by decide +kernel
theorem dX7_perform_37 : decode cX7_perform 37 = .ok (.ifCond .ge 26, 3) := by decide +kernel
theorem dX7_perform_40 : decode cX7_perform 40 = .ok (.iload_n 3, 1) := by decide +kernel
theorem dX7_perform_41 : decode cX7_perform 41 = .ok (.bipush (-5), 2) := by decide +kernel
theorem dX7_perform_43 : decode cX7_perform 43 = .ok (.if_icmp .eq 20, 3) := by decide +kernel
theorem dX7_perform_46 : decode cX7_perform 46 = .ok (.aload_n 0, 1) := by decide +kernel
theorem dX7_perform_47 : decode cX7_perform 47 = .ok (.invokevirtual 195, 3) := by decide +kernel
theorem dX7_perform_50 : decode cX7_perform 50 = .ok (.aload_n 0, 1) := by decide +kernel
theorem dX7_perform_51 : decode cX7_perform 51 = .ok (.iload_n 2, 1) := by decide +kernel
theorem dX7_perform_52 : decode cX7_perform 52 = .ok (.putfield 37, 3) := by decide +kernel
theorem dX7_perform_55 : decode cX7_perform 55 = .ok (.aload_n 0, 1) := by decide +kernel
theorem dX7_perform_56 : decode cX7_perform 56 = .ok (.iload_n 3, 1) := by decide +kernel
theorem dX7_perform_57 : decode cX7_perform 57 = .ok (.putfield 41, 3) := by decide +kernel
theorem dX7_perform_60 : decode cX7_perform 60 = .ok (.bipush (-4), 2) := by decide +kernel
theorem dX7_perform_62 : decode cX7_perform 62 = .ok (.ireturn, 1) := by decide +kernel
theorem dX7_perform_63 : decode cX7_perform 63 = .ok (.iinc 2 1, 3) := by decide +kernel
theorem dX7_perform_66 : decode cX7_perform 66 = .ok (.goto (-44), 3) := by decide +kernel
theorem dX7_perform_69 : decode cX7_perform 69 = .ok (.aload_n 0, 1) := by decide +kernel
theorem dX7_perform_70 : decode cX7_perform 70 = .ok (.invokevirtual 58, 3) := by decide +kernel
theorem dX7_perform_73 : decode cX7_perform 73 = .ok (.aload_n 0, 1) := by decide +kernel
theorem dX7_perform_74 : decode cX7_perform 74 = .ok (.getfield 171, 3) := by decide +kernel
theorem dX7_perform_77 : decode cX7_perform 77 = .ok (.ireturn, 1) := by decide +kernel
theorem dX7_stopped_0 : decode cX7_stopped 0 = .ok (.iload_n 1, 1) := by decide +kernel
theorem dX7_stopped_1 : decode cX7_stopped 1 = .ok (.ifCond .ne 10, 3) := by decide +kernel
theorem dX7_stopped_4 : decode cX7_stopped 4 = .ok (.aload_n 0, 1) := by decide +kernel
theorem dX7_stopped_5 : decode cX7_stopped 5 = .ok (.getfield 37, 3) := by decide +kernel
theorem dX7_stopped_8 : decode cX7_stopped 8 = .ok (.goto 17, 3) := by decide +kernel
theorem dX7_stopped_11 : decode cX7_stopped 11 = .ok (.iload_n 1, 1) := by decide +kernel
theorem dX7_stopped_12 : decode cX7_stopped 12 = .ok (.iconst 1, 1) := by decide +kernel
theorem dX7_stopped_13 : decode cX7_stopped 13 = .ok (.if_icmp .ne 10, 3) := by decide +kernel
theorem dX7_stopped_16 : decode cX7_stopped 16 = .ok (.aload_n 0, 1) := by decide +kernel
theorem dX7_stopped_17 : decode cX7_stopped 17 = .ok (.getfield 41, 3) := by decide +kernel
theorem dX7_stopped_20 : decode cX7_stopped 20 = .ok (.goto 5, 3) := by decide +kernel
theorem dX7_stopped_23 : decode cX7_stopped 23 = .ok (.bipush (-2), 2) := by decide +kernel
theorem dX7_stopped_25 : decode cX7_stopped 25 = .ok (.ireturn, 1) := by decide +kernel
theorem dX7_shadowsOn_0 : decode cX7_shadowsOn 0 = .ok (.iconst 0, 1) := by decide +kernel
theorem dX7_shadowsOn_1 : decode cX7_shadowsOn 1 = .ok (.istore 4, 2) := by decide +kernel
theorem dX7_shadowsOn_3 : decode cX7_shadowsOn 3 = .ok (.iconst 0, 1) := by decide +kernel
theorem dX7_shadowsOn_4 : decode cX7_shadowsOn 4 = .ok (.istore 5, 2) := by decide +kernel
theorem dX7_shadowsOn_6 : decode cX7_shadowsOn 6 = .ok (.iload 5, 2) := by decide +kernel
theorem dX7_shadowsOn_8 : decode cX7_shadowsOn 8 = .ok (.aload_n 0, 1) := by decide +kernel
theorem dX7_shadowsOn_9 : decode cX7_shadowsOn 9 = .ok (.getfield 7, 3) := by decide +kernel
theorem dX7_shadowsOn_12 : decode cX7_shadowsOn 12 = .ok (.bipush 20, 2) := by decide +kernel
theorem dX7_shadowsOn_14 : decode cX7_shadowsOn 14 = .ok (.iaload, 1) := by decide +kernel
theorem dX7_shadowsOn_15 : decode cX7_shadowsOn 15 = .ok (.iconst 3, 1) := by decide +kernel
theorem dX7_shadowsOn_16 : decode cX7_shadowsOn 16 = .ok (.imul, 1) := by decide +kernel
theorem dX7_shadowsOn_17 : decode cX7_shadowsOn 17 = .ok (.if_icmp .ge 75, 3) := by decide +kernel
theorem dX7_shadowsOn_20 : decode cX7_shadowsOn 20 = .ok (.iload_n 2, 1) := by decide +kernel
theorem dX7_shadowsOn_21 : decode cX7_shadowsOn 21 = .ok (.bipush (-5), 2) := by decide +kernel
theorem dX7_shadowsOn_23 : decode cX7_shadowsOn 23 = .ok (.if_icmp .eq 11, 3) := by decide +kernel
theorem dX7_shadowsOn_26 : decode cX7_shadowsOn 26 = .ok (.iload_n 2, 1) := by decide +kernel
theorem dX7_shadowsOn_27 : decode cX7_shadowsOn 27 = .ok (.iload 5, 2) := by decide +kernel
theorem dX7_shadowsOn_29 : decode cX7_shadowsOn 29 = .ok (.iconst 3, 1) := by decide +kernel
theorem dX7_shadowsOn_30 : decode cX7_shadowsOn 30 = .ok (.idiv, 1) := by decide +kernel
theorem dX7_shadowsOn_31 : decode cX7_shadowsOn 31 = .ok (.if_icmp .ne 21, 3) := by decide +kernel
theorem dX7_shadowsOn_34 : decode cX7_shadowsOn 34 = .ok (.iload_n 3, 1) := by decide +kernel
theorem dX7_shadowsOn_35 : decode cX7_shadowsOn 35 = .ok (.bipush (-5), 2) := by decide +kernel
theorem dX7_shadowsOn_37 : decode cX7_shadowsOn 37 = .ok (.if_icmp .eq 11, 3) := by decide +kernel
theorem dX7_shadowsOn_40 : decode cX7_shadowsOn 40 = .ok (.iload_n 3, 1) := by decide +kernel
theorem dX7_shadowsOn_41 : decode cX7_shadowsOn 41 = .ok (.iload 5, 2) := by decide +kernel
theorem dX7_shadowsOn_43 : decode cX7_shadowsOn 43 = .ok (.iconst 3, 1) := by decide +kernel
theorem dX7_shadowsOn_44 : decode cX7_shadowsOn 44 = .ok (.irem, 1) := by decide +kernel
theorem dX7_shadowsOn_45 : decode cX7_shadowsOn 45 = .ok (.if_icmp .ne 7, 3) := by decide +kernel
theorem dX7_shadowsOn_48 : decode cX7_shadowsOn 48 = .ok (.iconst 1, 1) := by decide +kernel
theorem dX7_shadowsOn_49 : decode cX7_shadowsOn 49 = .ok (.goto 4, 3) := by decide +kernel
theorem dX7_shadowsOn_52 : decode cX7_shadowsOn 52 = .ok (.iconst 0, 1) := by decide +kernel
theorem dX7_shadowsOn_53 : decode cX7_shadowsOn 53 = .ok (.istore 6, 2) := by decide +kernel
theorem dX7_shadowsOn_55 : decode cX7_shadowsOn 55 = .ok (.iload 4, 2) := by decide +kernel
theorem dX7_shadowsOn_57 : decode cX7_shadowsOn 57 = .ok (.iload 6, 2) := by decide +kernel
theorem dX7_shadowsOn_59 : decode cX7_shadowsOn 59 = .ok (.ifCond .eq 23, 3) := by decide +kernel
theorem dX7_shadowsOn_62 : decode cX7_shadowsOn 62 = .ok (.aload_n 0, 1) := by decide +kernel
theorem dX7_shadowsOn_63 : decode cX7_shadowsOn 63 = .ok (.iload 5, 2) := by decide +kernel
theorem dX7_shadowsOn_65 : decode cX7_shadowsOn 65 = .ok (.iconst 3, 1) := by decide +kernel
theorem dX7_shadowsOn_66 : decode cX7_shadowsOn 66 = .ok (.idiv, 1) := by decide +kernel
theorem dX7_shadowsOn_67 : decode cX7_shadowsOn 67 = .ok (.iload 5, 2) := by decide +kernel
theorem dX7_shadowsOn_69 : decode cX7_shadowsOn 69 = .ok (.iconst 3, 1) := by decide +kernel
theorem dX7_shadowsOn_70 : decode cX7_shadowsOn 70 = .ok (.irem, 1) := by decide +kernel
theorem dX7_shadowsOn_71 : decode cX7_shadowsOn 71 = .ok (.iload_n 1, 1) := by decide +kernel
theorem dX7_shadowsOn_72 : decode cX7_shadowsOn 72 = .ok (.invokevirtual 92, 3) := by decide +kernel
theorem dX7_shadowsOn_75 : decode cX7_shadowsOn 75 = .ok (.ifCond .eq 7, 3) := by decide +kernel
theorem dX7_shadowsOn_78 : decode cX7_shadowsOn 78 = .ok (.iconst 1, 1) := by decide +kernel
theorem dX7_shadowsOn_79 : decode cX7_shadowsOn 79 = .ok (.goto 4, 3) := by decide +kernel
theorem dX7_shadowsOn_82 : decode cX7_shadowsOn 82 = .ok (.iconst 0, 1) := by decide +kernel
theorem dX7_shadowsOn_83 : decode cX7_shadowsOn 83 = .ok (.iadd, 1) := by decide +kernel
theorem dX7_shadowsOn_84 : decode cX7_shadowsOn 84 = .ok (.istore 4, 2) := by decide +kernel
theorem dX7_shadowsOn_86 : decode cX7_shadowsOn 86 = .ok (.iinc 5 1, 3) := by decide +kernel
theorem dX7_shadowsOn_89 : decode cX7_shadowsOn 89 = .ok (.goto (-83), 3) := by decide +kernel
theorem dX7_shadowsOn_92 : decode cX7_shadowsOn 92 = .ok (.iload 4, 2) := by decide +kernel
theorem dX7_shadowsOn_94 : decode cX7_shadowsOn 94 = .ok (.ireturn, 1) := by decide +kernel
theorem dX7_dark_0 : decode cX7_dark 0 = .ok (.iconst 0, 1) := by decide +kernel
theorem dX7_dark_1 : decode cX7_dark 1 = .ok (.istore_n 3, 1) := by decide +kernel
theorem dX7_dark_2 : decode cX7_dark 2 = .ok (.iconst 0, 1) := by decide +kernel
theorem dX7_dark_3 : decode cX7_dark 3 = .ok (.istore 4, 2) := by decide +kernel
theorem dX7_dark_5 : decode cX7_dark 5 = .ok (.iload 4, 2) := by decide +kernel
theorem dX7_dark_7 : decode cX7_dark 7 = .ok (.bipush 100, 2) := by decide +kernel
theorem dX7_dark_9 : decode cX7_dark 9 = .ok (.if_icmp .ge 28, 3) := by decide +kernel
theorem dX7_dark_12 : decode cX7_dark 12 = .ok (.iload_n 3, 1) := by decide +kernel
theorem dX7_dark_13 : decode cX7_dark 13 = .ok (.aload_n 0, 1) := by decide +kernel
theorem dX7_dark_14 : decode cX7_dark 14 = .ok (.iload 4, 2) := by decide +kernel
theorem dX7_dark_16 : decode cX7_dark 16 = .ok (.iload_n 1, 1) := by decide +kernel
theorem dX7_dark_17 : decode cX7_dark 17 = .ok (.iload_n 2, 1) := by decide +kernel
theorem dX7_dark_18 : decode cX7_dark 18 = .ok (.invokevirtual 198, 3) := by decide +kernel
theorem dX7_dark_21 : decode cX7_dark 21 = .ok (.ifCond .le 7, 3) := by decide +kernel
theorem dX7_dark_24 : decode cX7_dark 24 = .ok (.iconst 1, 1) := by decide +kernel
theorem dX7_dark_25 : decode cX7_dark 25 = .ok (.goto 4, 3) := by decide +kernel
theorem dX7_dark_28 : decode cX7_dark 28 = .ok (.iconst 0, 1) := by decide +kernel
theorem dX7_dark_29 : decode cX7_dark 29 = .ok (.iadd, 1) := by decide +kernel
theorem dX7_dark_30 : decode cX7_dark 30 = .ok (.istore_n 3, 1) := by decide +kernel
theorem dX7_dark_31 : decode cX7_dark 31 = .ok (.iinc 4 1, 3) := by decide +kernel
theorem dX7_dark_34 : decode cX7_dark 34 = .ok (.goto (-29), 3) := by decide +kernel
theorem dX7_dark_37 : decode cX7_dark 37 = .ok (.iload_n 3, 1) := by decide +kernel
theorem dX7_dark_38 : decode cX7_dark 38 = .ok (.ireturn, 1) := by decide +kernel
theorem dX7_runner_0 : decode cX7_runner 0 = .ok (.aload_n 0, 1) := by decide +kernel
theorem dX7_runner_1 : decode cX7_runner 1 = .ok (.iload_n 1, 1) := by decide +kernel
theorem dX7_runner_2 : decode cX7_runner 2 = .ok (.invokevirtual 120, 3) := by decide +kernel
theorem dX7_runner_5 : decode cX7_runner 5 = .ok (.ifCond .ne 5, 3) := by decide +kernel
theorem dX7_runner_8 : decode cX7_runner 8 = .ok (.iconst (-1), 1) := by decide +kernel
theorem dX7_runner_9 : decode cX7_runner 9 = .ok (.ireturn, 1) := by decide +kernel
theorem dX7_runner_10 : decode cX7_runner 10 = .ok (.iload_n 2, 1) := by decide +kernel
theorem dX7_runner_11 : decode cX7_runner 11 = .ok (.bipush 7, 2) := by decide +kernel
theorem dX7_runner_13 : decode cX7_runner 13 = .ok (.if_icmp .ne 13, 3) := by decide +kernel
theorem dX7_runner_16 : decode cX7_runner 16 = .ok (.aload_n 0, 1) := by decide +kernel
theorem dX7_runner_17 : decode cX7_runner 17 = .ok (.iload_n 1, 1) := by decide +kernel
theorem dX7_runner_18 : decode cX7_runner 18 = .ok (.bipush (-5), 2) := by decide +kernel
theorem dX7_runner_20 : decode cX7_runner 20 = .ok (.invokevirtual 201, 3) := by decide +kernel
theorem dX7_runner_23 : decode cX7_runner 23 = .ok (.goto 24, 3) := by decide +kernel
theorem dX7_runner_26 : decode cX7_runner 26 = .ok (.iload_n 2, 1) := by decide +kernel
theorem dX7_runner_27 : decode cX7_runner 27 = .ok (.iconst 0, 1) := by decide +kernel
theorem dX7_runner_28 : decode cX7_runner 28 = .ok (.bipush 6, 2) := by decide +kernel
theorem dX7_runner_30 : decode cX7_runner 30 = .ok (.invokestatic 51, 3) := by decide +kernel
theorem dX7_runner_33 : decode cX7_runner 33 = .ok (.ifCond .eq 12, 3) := by decide +kernel
theorem dX7_runner_36 : decode cX7_runner 36 = .ok (.aload_n 0, 1) := by decide +kernel
theorem dX7_runner_37 : decode cX7_runner 37 = .ok (.iload_n 1, 1) := by decide +kernel
theorem dX7_runner_38 : decode cX7_runner 38 = .ok (.iload_n 2, 1) := by decide +kernel
theorem dX7_runner_39 : decode cX7_runner 39 = .ok (.invokevirtual 68, 3) := by decide +kernel
theorem dX7_runner_42 : decode cX7_runner 42 = .ok (.goto 5, 3) := by decide +kernel
theorem dX7_runner_45 : decode cX7_runner 45 = .ok (.bipush (-2), 2) := by decide +kernel
theorem dX7_runner_47 : decode cX7_runner 47 = .ok (.ireturn, 1) := by decide +kernel
theorem dX7_lamp_0 : decode cX7_lamp 0 = .ok (.iload_n 1, 1) := by decide +kernel
theorem dX7_lamp_1 : decode cX7_lamp 1 = .ok (.invokestatic 123, 3) := by decide +kernel
theorem dX7_lamp_4 : decode cX7_lamp 4 = .ok (.ifCond .ne 5, 3) := by decide +kernel
theorem dX7_lamp_7 : decode cX7_lamp 7 = .ok (.iconst (-1), 1) := by decide +kernel
theorem dX7_lamp_8 : decode cX7_lamp 8 = .ok (.ireturn, 1) := by decide +kernel
theorem dX7_lamp_9 : decode cX7_lamp 9 = .ok (.iload_n 2, 1) := by decide +kernel
theorem dX7_lamp_10 : decode cX7_lamp 10 = .ok (.iconst 4, 1) := by decide +kernel
theorem dX7_lamp_11 : decode cX7_lamp 11 = .ok (.if_icmp .ne 13, 3) := by decide +kernel
theorem dX7_lamp_14 : decode cX7_lamp 14 = .ok (.aload_n 0, 1) := by decide +kernel
theorem dX7_lamp_15 : decode cX7_lamp 15 = .ok (.bipush (-5), 2) := by decide +kernel
theorem dX7_lamp_17 : decode cX7_lamp 17 = .ok (.iload_n 1, 1) := by decide +kernel
theorem dX7_lamp_18 : decode cX7_lamp 18 = .ok (.invokevirtual 201, 3) := by decide +kernel
theorem dX7_lamp_21 : decode cX7_lamp 21 = .ok (.goto 23, 3) := by decide +kernel
theorem dX7_lamp_24 : decode cX7_lamp 24 = .ok (.iload_n 2, 1) := by decide +kernel
theorem dX7_lamp_25 : decode cX7_lamp 25 = .ok (.iconst 0, 1) := by decide +kernel
theorem dX7_lamp_26 : decode cX7_lamp 26 = .ok (.iconst 3, 1) := by decide +kernel
theorem dX7_lamp_27 : decode cX7_lamp 27 = .ok (.invokestatic 51, 3) := by decide +kernel
theorem dX7_lamp_30 : decode cX7_lamp 30 = .ok (.ifCond .eq 12, 3) := by decide +kernel
theorem dX7_lamp_33 : decode cX7_lamp 33 = .ok (.aload_n 0, 1) := by decide +kernel
theorem dX7_lamp_34 : decode cX7_lamp 34 = .ok (.iload_n 1, 1) := by decide +kernel
theorem dX7_lamp_35 : decode cX7_lamp 35 = .ok (.iload_n 2, 1) := by decide +kernel
theorem dX7_lamp_36 : decode cX7_lamp 36 = .ok (.invokevirtual 78, 3) := by decide +kernel
theorem dX7_lamp_39 : decode cX7_lamp 39 = .ok (.goto 5, 3) := by decide +kernel
theorem dX7_lamp_42 : decode cX7_lamp 42 = .ok (.bipush (-2), 2) := by decide +kernel
theorem dX7_lamp_44 : decode cX7_lamp 44 = .ok (.ireturn, 1) := by decide +kernel
theorem dX7_shadow_0 : decode cX7_shadow 0 = .ok (.aload_n 0, 1) := by decide +kernel
theorem dX7_shadow_1 : decode cX7_shadow 1 = .ok (.iload_n 1, 1) := by decide +kernel
theorem dX7_shadow_2 : decode cX7_shadow 2 = .ok (.invokevirtual 120, 3) := by decide +kernel
theorem dX7_shadow_5 : decode cX7_shadow 5 = .ok (.ifCond .eq 10, 3) := by decide +kernel
theorem dX7_shadow_8 : decode cX7_shadow 8 = .ok (.iload_n 2, 1) := by decide +kernel
theorem dX7_shadow_9 : decode cX7_shadow 9 = .ok (.invokestatic 123, 3) := by decide +kernel
theorem dX7_shadow_12 : decode cX7_shadow 12 = .ok (.ifCond .ne 5, 3) := by decide +kernel
theorem dX7_shadow_15 : decode cX7_shadow 15 = .ok (.iconst (-1), 1) := by decide +kernel
theorem dX7_shadow_16 : decode cX7_shadow 16 = .ok (.ireturn, 1) := by decide +kernel
theorem dX7_shadow_17 : decode cX7_shadow 17 = .ok (.aload_n 0, 1) := by decide +kernel
theorem dX7_shadow_18 : decode cX7_shadow 18 = .ok (.iload_n 1, 1) := by decide +kernel
theorem dX7_shadow_19 : decode cX7_shadow 19 = .ok (.iload_n 2, 1) := by decide +kernel
theorem dX7_shadow_20 : decode cX7_shadow 20 = .ok (.invokevirtual 88, 3) := by decide +kernel
theorem dX7_shadow_23 : decode cX7_shadow 23 = .ok (.iload_n 3, 1) := by decide +kernel
theorem dX7_shadow_24 : decode cX7_shadow 24 = .ok (.ifCond .ne 10, 3) := by decide +kernel
theorem dX7_shadow_27 : decode cX7_shadow 27 = .ok (.aload_n 0, 1) := by decide +kernel
theorem dX7_shadow_28 : decode cX7_shadow 28 = .ok (.getfield 72, 3) := by decide +kernel
theorem dX7_shadow_31 : decode cX7_shadow 31 = .ok (.goto 48, 3) := by decide +kernel
theorem dX7_shadow_34 : decode cX7_shadow 34 = .ok (.iload_n 3, 1) := by decide +kernel
theorem dX7_shadow_35 : decode cX7_shadow 35 = .ok (.iconst 1, 1) := by decide +kernel
theorem dX7_shadow_36 : decode cX7_shadow 36 = .ok (.if_icmp .ne 29, 3) := by decide +kernel
theorem dX7_shadow_39 : decode cX7_shadow 39 = .ok (.aload_n 0, 1) := by decide +kernel
theorem dX7_shadow_40 : decode cX7_shadow 40 = .ok (.getfield 72, 3) := by decide +kernel
theorem dX7_shadow_43 : decode cX7_shadow 43 = .ok (.ifCond .ne 8, 3) := by decide +kernel
theorem dX7_shadow_46 : decode cX7_shadow 46 = .ok (.bipush (-5), 2) := by decide +kernel
theorem dX7_shadow_48 : decode cX7_shadow 48 = .ok (.goto 31, 3) := by decide +kernel
theorem dX7_shadow_51 : decode cX7_shadow 51 = .ok (.aload_n 0, 1) := by decide +kernel
theorem dX7_shadow_52 : decode cX7_shadow 52 = .ok (.getfield 22, 3) := by decide +kernel
theorem dX7_shadow_55 : decode cX7_shadow 55 = .ok (.aload_n 0, 1) := by decide +kernel
theorem dX7_shadow_56 : decode cX7_shadow 56 = .ok (.getfield 72, 3) := by decide +kernel
theorem dX7_shadow_59 : decode cX7_shadow 59 = .ok (.iconst 1, 1) := by decide +kernel
theorem dX7_shadow_60 : decode cX7_shadow 60 = .ok (.isub, 1) := by decide +kernel
theorem dX7_shadow_61 : decode cX7_shadow 61 = .ok (.iaload, 1) := by decide +kernel
theorem dX7_shadow_62 : decode cX7_shadow 62 = .ok (.goto 17, 3) := by decide +kernel
theorem dX7_shadow_65 : decode cX7_shadow 65 = .ok (.iload_n 3, 1) := by decide +kernel
theorem dX7_shadow_66 : decode cX7_shadow 66 = .ok (.iconst 2, 1) := by decide +kernel
theorem dX7_shadow_67 : decode cX7_shadow 67 = .ok (.if_icmp .ne 10, 3) := by decide +kernel
theorem dX7_shadow_70 : decode cX7_shadow 70 = .ok (.aload_n 0, 1) := by decide +kernel
theorem dX7_shadow_71 : decode cX7_shadow 71 = .ok (.getfield 75, 3) := by decide +kernel
theorem dX7_shadow_74 : decode cX7_shadow 74 = .ok (.goto 5, 3) := by decide +kernel
theorem dX7_shadow_77 : decode cX7_shadow 77 = .ok (.bipush (-2), 2) := by decide +kernel
theorem dX7_shadow_79 : decode cX7_shadow 79 = .ok (.ireturn, 1) := by decide +kernel
theorem dX7_darkness_0 : decode cX7_darkness 0 = .ok (.iload_n 1, 1) := by decide +kernel
theorem dX7_darkness_1 : decode cX7_darkness 1 = .ok (.invokestatic 116, 3) := by decide +kernel
theorem dX7_darkness_4 : decode cX7_darkness 4 = .ok (.ifCond .eq 15, 3) := by decide +kernel
theorem dX7_darkness_7 : decode cX7_darkness 7 = .ok (.aload_n 0, 1) := by decide +kernel
theorem dX7_darkness_8 : decode cX7_darkness 8 = .ok (.iload_n 1, 1) := by decide +kernel
theorem dX7_darkness_9 : decode cX7_darkness 9 = .ok (.bipush (-5), 2) := by decide +kernel
theorem dX7_darkness_11 : decode cX7_darkness 11 = .ok (.bipush (-5), 2) := by decide +kernel
theorem dX7_darkness_13 : decode cX7_darkness 13 = .ok (.invokevirtual 198, 3) := by decide +kernel
theorem dX7_darkness_16 : decode cX7_darkness 16 = .ok (.goto 4, 3) := by decide +kernel
theorem dX7_darkness_19 : decode cX7_darkness 19 = .ok (.iconst (-1), 1) := by decide +kernel
theorem dX7_darkness_20 : decode cX7_darkness 20 = .ok (.ireturn, 1) := by decide +kernel
theorem dX7_looked_0 : decode cX7_looked 0 = .ok (.iload_n 1, 1) := by decide +kernel
theorem dX7_looked_1 : decode cX7_looked 1 = .ok (.invokestatic 116, 3) := by decide +kernel
theorem dX7_looked_4 : decode cX7_looked 4 = .ok (.ifCond .ne 5, 3) := by decide +kernel
theorem dX7_looked_7 : decode cX7_looked 7 = .ok (.iconst (-1), 1) := by decide +kernel
theorem dX7_looked_8 : decode cX7_looked 8 = .ok (.ireturn, 1) := by decide +kernel
theorem dX7_looked_9 : decode cX7_looked 9 = .ok (.iconst 0, 1) := by decide +kernel
theorem dX7_looked_10 : decode cX7_looked 10 = .ok (.istore_n 2, 1) := by decide +kernel
theorem dX7_looked_11 : decode cX7_looked 11 = .ok (.iconst 0, 1) := by decide +kernel
theorem dX7_looked_12 : decode cX7_looked 12 = .ok (.istore_n 3, 1) := by decide +kernel
theorem dX7_looked_13 : decode cX7_looked 13 = .ok (.iload_n 3, 1) := by decide +kernel
theorem dX7_looked_14 : decode cX7_looked 14 = .ok (.iconst 3, 1) := by decide +kernel
theorem dX7_looked_15 : decode cX7_looked 15 = .ok (.if_icmp .ge 121, 3) := by decide +kernel
theorem dX7_looked_18 : decode cX7_looked 18 = .ok (.iload_n 1, 1) := by decide +kernel
theorem dX7_looked_19 : decode cX7_looked 19 = .ok (.aload_n 0, 1) := by decide +kernel
theorem dX7_looked_20 : decode cX7_looked 20 = .ok (.iload_n 3, 1) := by decide +kernel
theorem dX7_looked_21 : decode cX7_looked 21 = .ok (.iconst 0, 1) := by decide +kernel
theorem dX7_looked_22 : decode cX7_looked 22 = .ok (.invokevirtual 78, 3) := by decide +kernel
theorem dX7_looked_25 : decode cX7_looked 25 = .ok (.invokestatic 81, 3) := by decide +kernel
theorem dX7_looked_28 : decode cX7_looked 28 = .ok (.istore 4, 2) := by decide +kernel
theorem dX7_looked_30 : decode cX7_looked 30 = .ok (.iconst 1, 1) := by decide +kernel
theorem dX7_looked_31 : decode cX7_looked 31 = .ok (.istore 5, 2) := by decide +kernel
theorem dX7_looked_33 : decode cX7_looked 33 = .ok (.iload 4, 2) := by decide +kernel
theorem dX7_looked_35 : decode cX7_looked 35 = .ok (.bipush (-5), 2) := by decide +kernel
theorem dX7_looked_37 : decode cX7_looked 37 = .ok (.if_icmp .eq 33, 3) := by decide +kernel
theorem dX7_looked_40 : decode cX7_looked 40 = .ok (.aload_n 0, 1) := by decide +kernel
theorem dX7_looked_41 : decode cX7_looked 41 = .ok (.iload 4, 2) := by decide +kernel
theorem dX7_looked_43 : decode cX7_looked 43 = .ok (.invokevirtual 84, 3) := by decide +kernel
theorem dX7_looked_46 : decode cX7_looked 46 = .ok (.bipush (-5), 2) := by decide +kernel
theorem dX7_looked_48 : decode cX7_looked 48 = .ok (.if_icmp .ne 22, 3) := by decide +kernel
theorem dX7_looked_51 : decode cX7_looked 51 = .ok (.iload 4, 2) := by decide +kernel
theorem dX7_looked_53 : decode cX7_looked 53 = .ok (.aload_n 0, 1) := by decide +kernel
theorem dX7_looked_54 : decode cX7_looked 54 = .ok (.iload_n 3, 1) := by decide +kernel
theorem dX7_looked_55 : decode cX7_looked 55 = .ok (.iconst 0, 1) := by decide +kernel
theorem dX7_looked_56 : decode cX7_looked 56 = .ok (.invokevirtual 78, 3) := by decide +kernel
theorem dX7_looked_59 : decode cX7_looked 59 = .ok (.invokestatic 81, 3) := by decide +kernel
theorem dX7_looked_62 : decode cX7_looked 62 = .ok (.istore 4, 2) := by decide +kernel
theorem dX7_looked_64 : decode cX7_looked 64 = .ok (.iinc 5 1, 3) := by decide +kernel
theorem dX7_looked_67 : decode cX7_looked 67 = .ok (.goto (-34), 3) := by decide +kernel
theorem dX7_looked_70 : decode cX7_looked 70 = .ok (.aload_n 0, 1) := by decide +kernel
theorem dX7_looked_71 : decode cX7_looked 71 = .ok (.iload_n 3, 1) := by decide +kernel
theorem dX7_looked_72 : decode cX7_looked 72 = .ok (.iconst 3, 1) := by decide +kernel
theorem dX7_looked_73 : decode cX7_looked 73 = .ok (.invokevirtual 78, 3) := by decide +kernel
theorem dX7_looked_76 : decode cX7_looked 76 = .ok (.iconst 1, 1) := by decide +kernel
theorem dX7_looked_77 : decode cX7_looked 77 = .ok (.if_icmp .ne 37, 3) := by decide +kernel
theorem dX7_looked_80 : decode cX7_looked 80 = .ok (.iload 4, 2) := by decide +kernel
theorem dX7_looked_82 : decode cX7_looked 82 = .ok (.bipush (-5), 2) := by decide +kernel
theorem dX7_looked_84 : decode cX7_looked 84 = .ok (.if_icmp .eq 30, 3) := by decide +kernel
theorem dX7_looked_87 : decode cX7_looked 87 = .ok (.aload_n 0, 1) := by decide +kernel
theorem dX7_looked_88 : decode cX7_looked 88 = .ok (.aload_n 0, 1) := by decide +kernel
theorem dX7_looked_89 : decode cX7_looked 89 = .ok (.iload 4, 2) := by decide +kernel
theorem dX7_looked_91 : decode cX7_looked 91 = .ok (.invokevirtual 84, 3) := by decide +kernel
theorem dX7_looked_94 : decode cX7_looked 94 = .ok (.iconst 1, 1) := by decide +kernel
theorem dX7_looked_95 : decode cX7_looked 95 = .ok (.invokevirtual 68, 3) := by decide +kernel
theorem dX7_looked_98 : decode cX7_looked 98 = .ok (.aload_n 0, 1) := by decide +kernel
theorem dX7_looked_99 : decode cX7_looked 99 = .ok (.iload_n 3, 1) := by decide +kernel
theorem dX7_looked_100 : decode cX7_looked 100 = .ok (.iconst 1, 1) := by decide +kernel
theorem dX7_looked_101 : decode cX7_looked 101 = .ok (.invokevirtual 78, 3) := by decide +kernel
theorem dX7_looked_104 : decode cX7_looked 104 = .ok (.imul, 1) := by decide +kernel
theorem dX7_looked_105 : decode cX7_looked 105 = .ok (.iload 5, 2) := by decide +kernel
theorem dX7_looked_107 : decode cX7_looked 107 = .ok (.if_icmp .lt 7, 3) := by decide +kernel
theorem dX7_looked_110 : decode cX7_looked 110 = .ok (.iconst 1, 1) := by decide +kernel
theorem dX7_looked_111 : decode cX7_looked 111 = .ok (.goto 4, 3) := by decide +kernel
theorem dX7_looked_114 : decode cX7_looked 114 = .ok (.iconst 0, 1) := by decide +kernel
theorem dX7_looked_115 : decode cX7_looked 115 = .ok (.istore 6, 2) := by decide +kernel
theorem dX7_looked_117 : decode cX7_looked 117 = .ok (.iload_n 2, 1) := by decide +kernel
theorem dX7_looked_118 : decode cX7_looked 118 = .ok (.iload 6, 2) := by decide +kernel
theorem dX7_looked_120 : decode cX7_looked 120 = .ok (.ifCond .eq 7, 3) := by decide +kernel
theorem dX7_looked_123 : decode cX7_looked 123 = .ok (.iconst 1, 1) := by decide +kernel
theorem dX7_looked_124 : decode cX7_looked 124 = .ok (.goto 4, 3) := by decide +kernel
theorem dX7_looked_127 : decode cX7_looked 127 = .ok (.iconst 0, 1) := by decide +kernel
theorem dX7_looked_128 : decode cX7_looked 128 = .ok (.iadd, 1) := by decide +kernel
theorem dX7_looked_129 : decode cX7_looked 129 = .ok (.istore_n 2, 1) := by decide +kernel
theorem dX7_looked_130 : decode cX7_looked 130 = .ok (.iinc 3 1, 3) := by decide +kernel
theorem dX7_looked_133 : decode cX7_looked 133 = .ok (.goto (-120), 3) := by decide +kernel
theorem dX7_looked_136 : decode cX7_looked 136 = .ok (.iload_n 2, 1) := by decide +kernel
theorem dX7_looked_137 : decode cX7_looked 137 = .ok (.ireturn, 1) := by decide +kernel
theorem dX7_at_0 : decode cX7_at 0 = .ok (.iload_n 1, 1) := by decide +kernel
theorem dX7_at_1 : decode cX7_at 1 = .ok (.invokestatic 116, 3) := by decide +kernel
theorem dX7_at_4 : decode cX7_at 4 = .ok (.ifCond .eq 11, 3) := by decide +kernel
theorem dX7_at_7 : decode cX7_at 7 = .ok (.aload_n 0, 1) := by decide +kernel
theorem dX7_at_8 : decode cX7_at 8 = .ok (.iload_n 1, 1) := by decide +kernel
theorem dX7_at_9 : decode cX7_at 9 = .ok (.invokevirtual 84, 3) := by decide +kernel
theorem dX7_at_12 : decode cX7_at 12 = .ok (.goto 4, 3) := by decide +kernel
theorem dX7_at_15 : decode cX7_at 15 = .ok (.iconst (-1), 1) := by decide +kernel
theorem dX7_at_16 : decode cX7_at 16 = .ok (.ireturn, 1) := by decide +kernel
theorem dX7_reason_0 : decode cX7_reason 0 = .ok (.aload_n 0, 1) := by decide +kernel
theorem dX7_reason_1 : decode cX7_reason 1 = .ok (.iload_n 1, 1) := by decide +kernel
theorem dX7_reason_2 : decode cX7_reason 2 = .ok (.invokevirtual 120, 3) := by decide +kernel
theorem dX7_reason_5 : decode cX7_reason 5 = .ok (.ifCond .ne 5, 3) := by decide +kernel
theorem dX7_reason_8 : decode cX7_reason 8 = .ok (.iconst (-1), 1) := by decide +kernel
theorem dX7_reason_9 : decode cX7_reason 9 = .ok (.ireturn, 1) := by decide +kernel
theorem dX7_reason_10 : decode cX7_reason 10 = .ok (.iload_n 1, 1) := by decide +kernel
theorem dX7_reason_11 : decode cX7_reason 11 = .ok (.aload_n 0, 1) := by decide +kernel
theorem dX7_reason_12 : decode cX7_reason 12 = .ok (.getfield 7, 3) := by decide +kernel
theorem dX7_reason_15 : decode cX7_reason 15 = .ok (.iconst 1, 1) := by decide +kernel
theorem dX7_reason_16 : decode cX7_reason 16 = .ok (.iaload, 1) := by decide +kernel
theorem dX7_reason_17 : decode cX7_reason 17 = .ok (.if_icmp .ne 5, 3) := by decide +kernel
theorem dX7_reason_20 : decode cX7_reason 20 = .ok (.iconst 1, 1) := by decide +kernel
theorem dX7_reason_21 : decode cX7_reason 21 = .ok (.ireturn, 1) := by decide +kernel
theorem dX7_reason_22 : decode cX7_reason 22 = .ok (.aload_n 0, 1) := by decide +kernel
theorem dX7_reason_23 : decode cX7_reason 23 = .ok (.iload_n 1, 1) := by decide +kernel
theorem dX7_reason_24 : decode cX7_reason 24 = .ok (.invokevirtual 204, 3) := by decide +kernel
theorem dX7_reason_27 : decode cX7_reason 27 = .ok (.ifCond .ne 5, 3) := by decide +kernel
theorem dX7_reason_30 : decode cX7_reason 30 = .ok (.iconst 2, 1) := by decide +kernel
theorem dX7_reason_31 : decode cX7_reason 31 = .ok (.ireturn, 1) := by decide +kernel
theorem dX7_reason_32 : decode cX7_reason 32 = .ok (.aload_n 0, 1) := by decide +kernel
theorem dX7_reason_33 : decode cX7_reason 33 = .ok (.iload_n 1, 1) := by decide +kernel
theorem dX7_reason_34 : decode cX7_reason 34 = .ok (.iconst 3, 1) := by decide +kernel
theorem dX7_reason_35 : decode cX7_reason 35 = .ok (.invokevirtual 68, 3) := by decide +kernel
theorem dX7_reason_38 : decode cX7_reason 38 = .ok (.ifCond .le 5, 3) := by decide +kernel
theorem dX7_reason_41 : decode cX7_reason 41 = .ok (.iconst 3, 1) := by decide +kernel
theorem dX7_reason_42 : decode cX7_reason 42 = .ok (.ireturn, 1) := by decide +kernel
theorem dX7_reason_43 : decode cX7_reason 43 = .ok (.aload_n 0, 1) := by decide +kernel
theorem dX7_reason_44 : decode cX7_reason 44 = .ok (.iload_n 1, 1) := by decide +kernel
theorem dX7_reason_45 : decode cX7_reason 45 = .ok (.aload_n 0, 1) := by decide +kernel
theorem dX7_reason_46 : decode cX7_reason 46 = .ok (.aload_n 0, 1) := by decide +kernel
theorem dX7_reason_47 : decode cX7_reason 47 = .ok (.getfield 7, 3) := by decide +kernel
theorem dX7_reason_50 : decode cX7_reason 50 = .ok (.iconst 1, 1) := by decide +kernel
theorem dX7_reason_51 : decode cX7_reason 51 = .ok (.iaload, 1) := by decide +kernel
theorem dX7_reason_52 : decode cX7_reason 52 = .ok (.iconst 0, 1) := by decide +kernel
theorem dX7_reason_53 : decode cX7_reason 53 = .ok (.invokevirtual 68, 3) := by decide +kernel
theorem dX7_reason_56 : decode cX7_reason 56 = .ok (.invokevirtual 98, 3) := by decide +kernel
theorem dX7_reason_59 : decode cX7_reason 59 = .ok (.ifCond .ne 7, 3) := by decide +kernel
theorem dX7_reason_62 : decode cX7_reason 62 = .ok (.iconst 4, 1) := by decide +kernel
theorem dX7_reason_63 : decode cX7_reason 63 = .ok (.goto 16, 3) := by decide +kernel
theorem dX7_reason_66 : decode cX7_reason 66 = .ok (.aload_n 0, 1) := by decide +kernel
theorem dX7_reason_67 : decode cX7_reason 67 = .ok (.invokevirtual 106, 3) := by decide +kernel
theorem dX7_reason_70 : decode cX7_reason 70 = .ok (.iload_n 1, 1) := by decide +kernel
theorem dX7_reason_71 : decode cX7_reason 71 = .ok (.if_icmp .ne 7, 3) := by decide +kernel
theorem dX7_reason_74 : decode cX7_reason 74 = .ok (.iconst 0, 1) := by decide +kernel
theorem dX7_reason_75 : decode cX7_reason 75 = .ok (.goto 4, 3) := by decide +kernel
theorem dX7_reason_78 : decode cX7_reason 78 = .ok (.iconst 5, 1) := by decide +kernel
theorem dX7_reason_79 : decode cX7_reason 79 = .ok (.ireturn, 1) := by decide +kernel
theorem dX7_way_0 : decode cX7_way 0 = .ok (.iconst 0, 1) := by decide +kernel
theorem dX7_way_1 : decode cX7_way 1 = .ok (.istore_n 2, 1) := by decide +kernel
theorem dX7_way_2 : decode cX7_way 2 = .ok (.iload_n 2, 1) := by decide +kernel
theorem dX7_way_3 : decode cX7_way 3 = .ok (.bipush 100, 2) := by decide +kernel
theorem dX7_way_5 : decode cX7_way 5 = .ok (.if_icmp .ge 17, 3) := by decide +kernel
theorem dX7_way_8 : decode cX7_way 8 = .ok (.aload_n 0, 1) := by decide +kernel
theorem dX7_way_9 : decode cX7_way 9 = .ok (.getfield 44, 3) := by decide +kernel
theorem dX7_way_12 : decode cX7_way 12 = .ok (.iload_n 2, 1) := by decide +kernel
theorem dX7_way_13 : decode cX7_way 13 = .ok (.bipush (-5), 2) := by decide +kernel
theorem dX7_way_15 : decode cX7_way 15 = .ok (.iastore, 1) := by decide +kernel
theorem dX7_way_16 : decode cX7_way 16 = .ok (.iinc 2 1, 3) := by decide +kernel
theorem dX7_way_19 : decode cX7_way 19 = .ok (.goto (-17), 3) := by decide +kernel
theorem dX7_way_22 : decode cX7_way 22 = .ok (.aload_n 0, 1) := by decide +kernel
theorem dX7_way_23 : decode cX7_way 23 = .ok (.getfield 44, 3) := by decide +kernel
theorem dX7_way_26 : decode cX7_way 26 = .ok (.aload_n 0, 1) := by decide +kernel
theorem dX7_way_27 : decode cX7_way 27 = .ok (.aload_n 0, 1) := by decide +kernel
theorem dX7_way_28 : decode cX7_way 28 = .ok (.getfield 7, 3) := by decide +kernel
theorem dX7_way_31 : decode cX7_way 31 = .ok (.iconst 1, 1) := by decide +kernel
theorem dX7_way_32 : decode cX7_way 32 = .ok (.iaload, 1) := by decide +kernel
theorem dX7_way_33 : decode cX7_way 33 = .ok (.iconst 0, 1) := by decide +kernel
theorem dX7_way_34 : decode cX7_way 34 = .ok (.invokevirtual 68, 3) := by decide +kernel
theorem dX7_way_37 : decode cX7_way 37 = .ok (.iconst 0, 1) := by decide +kernel
theorem dX7_way_38 : decode cX7_way 38 = .ok (.iastore, 1) := by decide +kernel
theorem dX7_way_39 : decode cX7_way 39 = .ok (.iconst 1, 1) := by decide +kernel
theorem dX7_way_40 : decode cX7_way 40 = .ok (.istore_n 2, 1) := by decide +kernel
theorem dX7_way_41 : decode cX7_way 41 = .ok (.iconst 0, 1) := by decide +kernel
theorem dX7_way_42 : decode cX7_way 42 = .ok (.istore_n 3, 1) := by decide +kernel
theorem dX7_way_43 : decode cX7_way 43 = .ok (.iload_n 2, 1) := by decide +kernel
theorem dX7_way_44 : decode cX7_way 44 = .ok (.ifCond .eq 125, 3) := by decide +kernel
theorem dX7_way_47 : decode cX7_way 47 = .ok (.iconst 0, 1) := by decide +kernel
theorem dX7_way_48 : decode cX7_way 48 = .ok (.istore_n 2, 1) := by decide +kernel
theorem dX7_way_49 : decode cX7_way 49 = .ok (.iconst 0, 1) := by decide +kernel
theorem dX7_way_50 : decode cX7_way 50 = .ok (.istore 4, 2) := by decide +kernel
theorem dX7_way_52 : decode cX7_way 52 = .ok (.iload 4, 2) := by decide +kernel
theorem dX7_way_54 : decode cX7_way 54 = .ok (.bipush 100, 2) := by decide +kernel
theorem dX7_way_56 : decode cX7_way 56 = .ok (.if_icmp .ge 107, 3) := by decide +kernel
theorem dX7_way_59 : decode cX7_way 59 = .ok (.iconst 0, 1) := by decide +kernel
theorem dX7_way_60 : decode cX7_way 60 = .ok (.istore 5, 2) := by decide +kernel
theorem dX7_way_62 : decode cX7_way 62 = .ok (.iload 5, 2) := by decide +kernel
theorem dX7_way_64 : decode cX7_way 64 = .ok (.iconst 4, 1) := by decide +kernel
theorem dX7_way_65 : decode cX7_way 65 = .ok (.if_icmp .ge 92, 3) := by decide +kernel
theorem dX7_way_68 : decode cX7_way 68 = .ok (.aload_n 0, 1) := by decide +kernel
theorem dX7_way_69 : decode cX7_way 69 = .ok (.getfield 44, 3) := by decide +kernel
theorem dX7_way_72 : decode cX7_way 72 = .ok (.iload 4, 2) := by decide +kernel
theorem dX7_way_74 : decode cX7_way 74 = .ok (.iaload, 1) := by decide +kernel
theorem dX7_way_75 : decode cX7_way 75 = .ok (.iload_n 3, 1) := by decide +kernel
theorem dX7_way_76 : decode cX7_way 76 = .ok (.if_icmp .ne 81, 3) := by decide +kernel
theorem dX7_way_79 : decode cX7_way 79 = .ok (.iload 4, 2) := by decide +kernel
theorem dX7_way_81 : decode cX7_way 81 = .ok (.iload 5, 2) := by decide +kernel
theorem dX7_way_83 : decode cX7_way 83 = .ok (.invokestatic 81, 3) := by decide +kernel
theorem dX7_way_86 : decode cX7_way 86 = .ok (.istore 6, 2) := by decide +kernel
theorem dX7_way_88 : decode cX7_way 88 = .ok (.iload 6, 2) := by decide +kernel
theorem dX7_way_90 : decode cX7_way 90 = .ok (.bipush (-5), 2) := by decide +kernel
theorem dX7_way_92 : decode cX7_way 92 = .ok (.if_icmp .eq 39, 3) := by decide +kernel
theorem dX7_way_95 : decode cX7_way 95 = .ok (.aload_n 0, 1) := by decide +kernel
theorem dX7_way_96 : decode cX7_way 96 = .ok (.getfield 44, 3) := by decide +kernel
theorem dX7_way_99 : decode cX7_way 99 = .ok (.iload 6, 2) := by decide +kernel
theorem dX7_way_101 : decode cX7_way 101 = .ok (.ifCond .ge 7, 3) := by decide +kernel
theorem dX7_way_104 : decode cX7_way 104 = .ok (.iconst 0, 1) := by decide +kernel
theorem dX7_way_105 : decode cX7_way 105 = .ok (.goto 5, 3) := by decide +kernel
theorem dX7_way_108 : decode cX7_way 108 = .ok (.iload 6, 2) := by decide +kernel
theorem dX7_way_110 : decode cX7_way 110 = .ok (.iaload, 1) := by decide +kernel
theorem dX7_way_111 : decode cX7_way 111 = .ok (.bipush (-5), 2) := by decide +kernel
theorem dX7_way_113 : decode cX7_way 113 = .ok (.if_icmp .ne 18, 3) := by decide +kernel
theorem dX7_way_116 : decode cX7_way 116 = .ok (.aload_n 0, 1) := by decide +kernel
theorem dX7_way_117 : decode cX7_way 117 = .ok (.iload 6, 2) := by decide +kernel
theorem dX7_way_119 : decode cX7_way 119 = .ok (.invokevirtual 84, 3) := by decide +kernel
theorem dX7_way_122 : decode cX7_way 122 = .ok (.bipush (-5), 2) := by decide +kernel
theorem dX7_way_124 : decode cX7_way 124 = .ok (.if_icmp .ne 7, 3) := by decide +kernel
theorem dX7_way_127 : decode cX7_way 127 = .ok (.iconst 1, 1) := by decide +kernel
theorem dX7_way_128 : decode cX7_way 128 = .ok (.goto 4, 3) := by decide +kernel
theorem dX7_way_131 : decode cX7_way 131 = .ok (.iconst 0, 1) := by decide +kernel
theorem dX7_way_132 : decode cX7_way 132 = .ok (.istore 7, 2) := by decide +kernel
theorem dX7_way_134 : decode cX7_way 134 = .ok (.iload 7, 2) := by decide +kernel
theorem dX7_way_136 : decode cX7_way 136 = .ok (.ifCond .eq 15, 3) := by decide +kernel
theorem dX7_way_139 : decode cX7_way 139 = .ok (.aload_n 0, 1) := by decide +kernel
theorem dX7_way_140 : decode cX7_way 140 = .ok (.getfield 44, 3) := by decide +kernel
theorem dX7_way_143 : decode cX7_way 143 = .ok (.iload 6, 2) := by decide +kernel
theorem dX7_way_145 : decode cX7_way 145 = .ok (.iload_n 3, 1) := by decide +kernel
theorem dX7_way_146 : decode cX7_way 146 = .ok (.iconst 1, 1) := by decide +kernel
theorem dX7_way_147 : decode cX7_way 147 = .ok (.iadd, 1) := by decide +kernel
theorem dX7_way_148 : decode cX7_way 148 = .ok (.iastore, 1) := by decide +kernel
theorem dX7_way_149 : decode cX7_way 149 = .ok (.iconst 1, 1) := by decide +kernel
theorem dX7_way_150 : decode cX7_way 150 = .ok (.istore_n 2, 1) := by decide +kernel
theorem dX7_way_151 : decode cX7_way 151 = .ok (.iinc 5 1, 3) := by decide +kernel
theorem dX7_way_154 : decode cX7_way 154 = .ok (.goto (-92), 3) := by decide +kernel
theorem dX7_way_157 : decode cX7_way 157 = .ok (.iinc 4 1, 3) := by decide +kernel
theorem dX7_way_160 : decode cX7_way 160 = .ok (.goto (-108), 3) := by decide +kernel
theorem dX7_way_163 : decode cX7_way 163 = .ok (.iinc 3 1, 3) := by decide +kernel
theorem dX7_way_166 : decode cX7_way 166 = .ok (.goto (-123), 3) := by decide +kernel
theorem dX7_way_169 : decode cX7_way 169 = .ok (.bipush (-5), 2) := by decide +kernel
theorem dX7_way_171 : decode cX7_way 171 = .ok (.istore_n 3, 1) := by decide +kernel
theorem dX7_way_172 : decode cX7_way 172 = .ok (.iconst 0, 1) := by decide +kernel
theorem dX7_way_173 : decode cX7_way 173 = .ok (.istore 4, 2) := by decide +kernel
theorem dX7_way_175 : decode cX7_way 175 = .ok (.iload 4, 2) := by decide +kernel
theorem dX7_way_177 : decode cX7_way 177 = .ok (.bipush 100, 2) := by decide +kernel
theorem dX7_way_179 : decode cX7_way 179 = .ok (.if_icmp .ge 72, 3) := by decide +kernel
theorem dX7_way_182 : decode cX7_way 182 = .ok (.aload_n 0, 1) := by decide +kernel
theorem dX7_way_183 : decode cX7_way 183 = .ok (.getfield 44, 3) := by decide +kernel
theorem dX7_way_186 : decode cX7_way 186 = .ok (.iload 4, 2) := by decide +kernel
theorem dX7_way_188 : decode cX7_way 188 = .ok (.iaload, 1) := by decide +kernel
theorem dX7_way_189 : decode cX7_way 189 = .ok (.bipush (-5), 2) := by decide +kernel
theorem dX7_way_191 : decode cX7_way 191 = .ok (.if_icmp .eq 17, 3) := by decide +kernel
theorem dX7_way_194 : decode cX7_way 194 = .ok (.aload_n 0, 1) := by decide +kernel
theorem dX7_way_195 : decode cX7_way 195 = .ok (.iload_n 1, 1) := by decide +kernel
theorem dX7_way_196 : decode cX7_way 196 = .ok (.iload 4, 2) := by decide +kernel
theorem dX7_way_198 : decode cX7_way 198 = .ok (.invokevirtual 98, 3) := by decide +kernel
theorem dX7_way_201 : decode cX7_way 201 = .ok (.ifCond .eq 7, 3) := by decide +kernel
theorem dX7_way_204 : decode cX7_way 204 = .ok (.iconst 1, 1) := by decide +kernel
theorem dX7_way_205 : decode cX7_way 205 = .ok (.goto 4, 3) := by decide +kernel
theorem dX7_way_208 : decode cX7_way 208 = .ok (.iconst 0, 1) := by decide +kernel
theorem dX7_way_209 : decode cX7_way 209 = .ok (.istore 5, 2) := by decide +kernel
theorem dX7_way_211 : decode cX7_way 211 = .ok (.iload 5, 2) := by decide +kernel
theorem dX7_way_213 : decode cX7_way 213 = .ok (.ifCond .eq 30, 3) := by decide +kernel
theorem dX7_way_216 : decode cX7_way 216 = .ok (.iload_n 3, 1) := by decide +kernel
theorem dX7_way_217 : decode cX7_way 217 = .ok (.bipush (-5), 2) := by decide +kernel
theorem dX7_way_219 : decode cX7_way 219 = .ok (.if_icmp .eq 14, 3) := by decide +kernel
theorem dX7_way_222 : decode cX7_way 222 = .ok (.aload_n 0, 1) := by decide +kernel
theorem dX7_way_223 : decode cX7_way 223 = .ok (.getfield 44, 3) := by decide +kernel
theorem dX7_way_226 : decode cX7_way 226 = .ok (.iload 4, 2) := by decide +kernel
theorem dX7_way_228 : decode cX7_way 228 = .ok (.iaload, 1) := by decide +kernel
theorem dX7_way_229 : decode cX7_way 229 = .ok (.iload_n 3, 1) := by decide +kernel
theorem dX7_way_230 : decode cX7_way 230 = .ok (.if_icmp .ge 13, 3) := by decide +kernel
theorem dX7_way_233 : decode cX7_way 233 = .ok (.aload_n 0, 1) := by decide +kernel
theorem dX7_way_234 : decode cX7_way 234 = .ok (.getfield 44, 3) := by decide +kernel
theorem dX7_way_237 : decode cX7_way 237 = .ok (.iload 4, 2) := by decide +kernel
theorem dX7_way_239 : decode cX7_way 239 = .ok (.iaload, 1) := by decide +kernel
theorem dX7_way_240 : decode cX7_way 240 = .ok (.goto 4, 3) := by decide +kernel
theorem dX7_way_243 : decode cX7_way 243 = .ok (.iload_n 3, 1) := by decide +kernel
theorem dX7_way_244 : decode cX7_way 244 = .ok (.istore_n 3, 1) := by decide +kernel
theorem dX7_way_245 : decode cX7_way 245 = .ok (.iinc 4 1, 3) := by decide +kernel
theorem dX7_way_248 : decode cX7_way 248 = .ok (.goto (-73), 3) := by decide +kernel
theorem dX7_way_251 : decode cX7_way 251 = .ok (.iload_n 3, 1) := by decide +kernel
theorem dX7_way_252 : decode cX7_way 252 = .ok (.ireturn, 1) := by decide +kernel
theorem dX7_isSought_0 : decode cX7_isSought 0 = .ok (.iload_n 1, 1) := by decide +kernel
theorem dX7_isSought_1 : decode cX7_isSought 1 = .ok (.aload_n 0, 1) := by decide +kernel
theorem dX7_isSought_2 : decode cX7_isSought 2 = .ok (.getfield 7, 3) := by decide +kernel
theorem dX7_isSought_5 : decode cX7_isSought 5 = .ok (.iconst 1, 1) := by decide +kernel
theorem dX7_isSought_6 : decode cX7_isSought 6 = .ok (.iaload, 1) := by decide +kernel
theorem dX7_isSought_7 : decode cX7_isSought 7 = .ok (.if_icmp .eq 24, 3) := by decide +kernel
theorem dX7_isSought_10 : decode cX7_isSought 10 = .ok (.aload_n 0, 1) := by decide +kernel
theorem dX7_isSought_11 : decode cX7_isSought 11 = .ok (.iload_n 1, 1) := by decide +kernel
theorem dX7_isSought_12 : decode cX7_isSought 12 = .ok (.iconst 3, 1) := by decide +kernel
theorem dX7_isSought_13 : decode cX7_isSought 13 = .ok (.invokevirtual 68, 3) := by decide +kernel
theorem dX7_isSought_16 : decode cX7_isSought 16 = .ok (.ifCond .ne 15, 3) := by decide +kernel
theorem dX7_isSought_19 : decode cX7_isSought 19 = .ok (.aload_n 0, 1) := by decide +kernel
theorem dX7_isSought_20 : decode cX7_isSought 20 = .ok (.iload_n 1, 1) := by decide +kernel
theorem dX7_isSought_21 : decode cX7_isSought 21 = .ok (.invokevirtual 204, 3) := by decide +kernel
theorem dX7_isSought_24 : decode cX7_isSought 24 = .ok (.ifCond .eq 7, 3) := by decide +kernel
theorem dX7_isSought_27 : decode cX7_isSought 27 = .ok (.iconst 1, 1) := by decide +kernel
theorem dX7_isSought_28 : decode cX7_isSought 28 = .ok (.goto 4, 3) := by decide +kernel
theorem dX7_isSought_31 : decode cX7_isSought 31 = .ok (.iconst 0, 1) := by decide +kernel
theorem dX7_isSought_32 : decode cX7_isSought 32 = .ok (.ireturn, 1) := by decide +kernel
theorem dX7_stepsTo_0 : decode cX7_stepsTo 0 = .ok (.aload_n 0, 1) := by decide +kernel
theorem dX7_stepsTo_1 : decode cX7_stepsTo 1 = .ok (.iload_n 1, 1) := by decide +kernel
theorem dX7_stepsTo_2 : decode cX7_stepsTo 2 = .ok (.invokevirtual 120, 3) := by decide +kernel
theorem dX7_stepsTo_5 : decode cX7_stepsTo 5 = .ok (.ifCond .ne 5, 3) := by decide +kernel
theorem dX7_stepsTo_8 : decode cX7_stepsTo 8 = .ok (.iconst (-1), 1) := by decide +kernel
theorem dX7_stepsTo_9 : decode cX7_stepsTo 9 = .ok (.ireturn, 1) := by decide +kernel
theorem dX7_stepsTo_10 : decode cX7_stepsTo 10 = .ok (.aload_n 0, 1) := by decide +kernel
theorem dX7_stepsTo_11 : decode cX7_stepsTo 11 = .ok (.iload_n 1, 1) := by decide +kernel
theorem dX7_stepsTo_12 : decode cX7_stepsTo 12 = .ok (.invokevirtual 207, 3) := by decide +kernel
theorem dX7_stepsTo_15 : decode cX7_stepsTo 15 = .ok (.ifCond .eq 11, 3) := by decide +kernel
theorem dX7_stepsTo_18 : decode cX7_stepsTo 18 = .ok (.aload_n 0, 1) := by decide +kernel
theorem dX7_stepsTo_19 : decode cX7_stepsTo 19 = .ok (.iload_n 1, 1) := by decide +kernel
theorem dX7_stepsTo_20 : decode cX7_stepsTo 20 = .ok (.invokevirtual 210, 3) := by decide +kernel
theorem dX7_stepsTo_23 : decode cX7_stepsTo 23 = .ok (.goto 5, 3) := by decide +kernel
theorem dX7_stepsTo_26 : decode cX7_stepsTo 26 = .ok (.bipush (-4), 2) := by decide +kernel
theorem dX7_stepsTo_28 : decode cX7_stepsTo 28 = .ok (.ireturn, 1) := by decide +kernel
theorem dX7_safest_0 : decode cX7_safest 0 = .ok (.bipush (-5), 2) := by decide +kernel
theorem dX7_safest_2 : decode cX7_safest 2 = .ok (.istore_n 1, 1) := by decide +kernel
theorem dX7_safest_3 : decode cX7_safest 3 = .ok (.iconst 0, 1) := by decide +kernel
theorem dX7_safest_4 : decode cX7_safest 4 = .ok (.istore_n 2, 1) := by decide +kernel
theorem dX7_safest_5 : decode cX7_safest 5 = .ok (.iconst 0, 1) := by decide +kernel
theorem dX7_safest_6 : decode cX7_safest 6 = .ok (.istore_n 3, 1) := by decide +kernel
theorem dX7_safest_7 : decode cX7_safest 7 = .ok (.iload_n 3, 1) := by decide +kernel
theorem dX7_safest_8 : decode cX7_safest 8 = .ok (.aload_n 0, 1) := by decide +kernel
theorem dX7_safest_9 : decode cX7_safest 9 = .ok (.getfield 7, 3) := by decide +kernel
theorem dX7_safest_12 : decode cX7_safest 12 = .ok (.bipush 20, 2) := by decide +kernel
theorem dX7_safest_14 : decode cX7_safest 14 = .ok (.iaload, 1) := by decide +kernel
theorem dX7_safest_15 : decode cX7_safest 15 = .ok (.if_icmp .ge 98, 3) := by decide +kernel
theorem dX7_safest_18 : decode cX7_safest 18 = .ok (.aload_n 0, 1) := by decide +kernel
theorem dX7_safest_19 : decode cX7_safest 19 = .ok (.iload_n 3, 1) := by decide +kernel
theorem dX7_safest_20 : decode cX7_safest 20 = .ok (.invokevirtual 207, 3) := by decide +kernel
theorem dX7_safest_23 : decode cX7_safest 23 = .ok (.ifCond .eq 11, 3) := by decide +kernel
theorem dX7_safest_26 : decode cX7_safest 26 = .ok (.aload_n 0, 1) := by decide +kernel
theorem dX7_safest_27 : decode cX7_safest 27 = .ok (.iload_n 3, 1) := by decide +kernel
theorem dX7_safest_28 : decode cX7_safest 28 = .ok (.invokevirtual 210, 3) := by decide +kernel
theorem dX7_safest_31 : decode cX7_safest 31 = .ok (.goto 5, 3) := by decide +kernel
theorem dX7_safest_34 : decode cX7_safest 34 = .ok (.bipush (-5), 2) := by decide +kernel
theorem dX7_safest_36 : decode cX7_safest 36 = .ok (.istore 4, 2) := by decide +kernel
theorem dX7_safest_38 : decode cX7_safest 38 = .ok (.iload 4, 2) := by decide +kernel
theorem dX7_safest_40 : decode cX7_safest 40 = .ok (.bipush (-5), 2) := by decide +kernel
theorem dX7_safest_42 : decode cX7_safest 42 = .ok (.if_icmp .ne 9, 3) := by decide +kernel
theorem dX7_safest_45 : decode cX7_safest 45 = .ok (.sipush 1000, 3) := by decide +kernel
theorem dX7_safest_48 : decode cX7_safest 48 = .ok (.goto 5, 3) := by decide +kernel
theorem dX7_safest_51 : decode cX7_safest 51 = .ok (.iload 4, 2) := by decide +kernel
theorem dX7_safest_53 : decode cX7_safest 53 = .ok (.istore 5, 2) := by decide +kernel
theorem dX7_safest_55 : decode cX7_safest 55 = .ok (.iload_n 3, 1) := by decide +kernel
theorem dX7_safest_56 : decode cX7_safest 56 = .ok (.aload_n 0, 1) := by decide +kernel
theorem dX7_safest_57 : decode cX7_safest 57 = .ok (.getfield 7, 3) := by decide +kernel
theorem dX7_safest_60 : decode cX7_safest 60 = .ok (.iconst 1, 1) := by decide +kernel
theorem dX7_safest_61 : decode cX7_safest 61 = .ok (.iaload, 1) := by decide +kernel
theorem dX7_safest_62 : decode cX7_safest 62 = .ok (.if_icmp .eq 19, 3) := by decide +kernel
theorem dX7_safest_65 : decode cX7_safest 65 = .ok (.iload_n 1, 1) := by decide +kernel
theorem dX7_safest_66 : decode cX7_safest 66 = .ok (.bipush (-5), 2) := by decide +kernel
theorem dX7_safest_68 : decode cX7_safest 68 = .ok (.if_icmp .eq 9, 3) := by decide +kernel
theorem dX7_safest_71 : decode cX7_safest 71 = .ok (.iload 5, 2) := by decide +kernel
theorem dX7_safest_73 : decode cX7_safest 73 = .ok (.iload_n 2, 1) := by decide +kernel
theorem dX7_safest_74 : decode cX7_safest 74 = .ok (.if_icmp .le 7, 3) := by decide +kernel
theorem dX7_safest_77 : decode cX7_safest 77 = .ok (.iconst 1, 1) := by decide +kernel
theorem dX7_safest_78 : decode cX7_safest 78 = .ok (.goto 4, 3) := by decide +kernel
theorem dX7_safest_81 : decode cX7_safest 81 = .ok (.iconst 0, 1) := by decide +kernel
theorem dX7_safest_82 : decode cX7_safest 82 = .ok (.istore 6, 2) := by decide +kernel
theorem dX7_safest_84 : decode cX7_safest 84 = .ok (.iload 6, 2) := by decide +kernel
theorem dX7_safest_86 : decode cX7_safest 86 = .ok (.ifCond .eq 7, 3) := by decide +kernel
theorem dX7_safest_89 : decode cX7_safest 89 = .ok (.iload_n 3, 1) := by decide +kernel
theorem dX7_safest_90 : decode cX7_safest 90 = .ok (.goto 4, 3) := by decide +kernel
theorem dX7_safest_93 : decode cX7_safest 93 = .ok (.iload_n 1, 1) := by decide +kernel
theorem dX7_safest_94 : decode cX7_safest 94 = .ok (.istore_n 1, 1) := by decide +kernel
theorem dX7_safest_95 : decode cX7_safest 95 = .ok (.iload 6, 2) := by decide +kernel
theorem dX7_safest_97 : decode cX7_safest 97 = .ok (.ifCond .eq 8, 3) := by decide +kernel
theorem dX7_safest_100 : decode cX7_safest 100 = .ok (.iload 5, 2) := by decide +kernel
theorem dX7_safest_102 : decode cX7_safest 102 = .ok (.goto 4, 3) := by decide +kernel
theorem dX7_safest_105 : decode cX7_safest 105 = .ok (.iload_n 2, 1) := by decide +kernel
theorem dX7_safest_106 : decode cX7_safest 106 = .ok (.istore_n 2, 1) := by decide +kernel
theorem dX7_safest_107 : decode cX7_safest 107 = .ok (.iinc 3 1, 3) := by decide +kernel
theorem dX7_safest_110 : decode cX7_safest 110 = .ok (.goto (-103), 3) := by decide +kernel
theorem dX7_safest_113 : decode cX7_safest 113 = .ok (.iload_n 1, 1) := by decide +kernel
theorem dX7_safest_114 : decode cX7_safest 114 = .ok (.ireturn, 1) := by decide +kernel
theorem dX7_ifTurns_0 : decode cX7_ifTurns 0 = .ok (.iload_n 1, 1) := by decide +kernel
theorem dX7_ifTurns_1 : decode cX7_ifTurns 1 = .ok (.iconst 1, 1) := by decide +kernel
theorem dX7_ifTurns_2 : decode cX7_ifTurns 2 = .ok (.bipush 99, 2) := by decide +kernel
theorem dX7_ifTurns_4 : decode cX7_ifTurns 4 = .ok (.invokestatic 51, 3) := by decide +kernel
theorem dX7_ifTurns_7 : decode cX7_ifTurns 7 = .ok (.ifCond .eq 12, 3) := by decide +kernel
theorem dX7_ifTurns_10 : decode cX7_ifTurns 10 = .ok (.iload_n 2, 1) := by decide +kernel
theorem dX7_ifTurns_11 : decode cX7_ifTurns 11 = .ok (.iconst 0, 1) := by decide +kernel
theorem dX7_ifTurns_12 : decode cX7_ifTurns 12 = .ok (.iconst 2, 1) := by decide +kernel
theorem dX7_ifTurns_13 : decode cX7_ifTurns 13 = .ok (.invokestatic 51, 3) := by decide +kernel
theorem dX7_ifTurns_16 : decode cX7_ifTurns 16 = .ok (.ifCond .ne 6, 3) := by decide +kernel
theorem dX7_ifTurns_19 : decode cX7_ifTurns 19 = .ok (.bipush (-2), 2) := by decide +kernel
theorem dX7_ifTurns_21 : decode cX7_ifTurns 21 = .ok (.ireturn, 1) := by decide +kernel
theorem dX7_ifTurns_22 : decode cX7_ifTurns 22 = .ok (.aload_n 0, 1) := by decide +kernel
theorem dX7_ifTurns_23 : decode cX7_ifTurns 23 = .ok (.invokevirtual 65, 3) := by decide +kernel
theorem dX7_ifTurns_26 : decode cX7_ifTurns 26 = .ok (.bipush (-5), 2) := by decide +kernel
theorem dX7_ifTurns_28 : decode cX7_ifTurns 28 = .ok (.istore_n 3, 1) := by decide +kernel
theorem dX7_ifTurns_29 : decode cX7_ifTurns 29 = .ok (.iconst 1, 1) := by decide +kernel
theorem dX7_ifTurns_30 : decode cX7_ifTurns 30 = .ok (.istore 4, 2) := by decide +kernel
theorem dX7_ifTurns_32 : decode cX7_ifTurns 32 = .ok (.iload 4, 2) := by decide +kernel
theorem dX7_ifTurns_34 : decode cX7_ifTurns 34 = .ok (.iload_n 1, 1) := by decide +kernel
theorem dX7_ifTurns_35 : decode cX7_ifTurns 35 = .ok (.if_icmp .gt 41, 3) := by decide +kernel
theorem dX7_ifTurns_38 : decode cX7_ifTurns 38 = .ok (.aload_n 0, 1) := by decide +kernel
theorem dX7_ifTurns_39 : decode cX7_ifTurns 39 = .ok (.invokevirtual 130, 3) := by decide +kernel
theorem dX7_ifTurns_42 : decode cX7_ifTurns 42 = .ok (.iload_n 3, 1) := by decide +kernel
theorem dX7_ifTurns_43 : decode cX7_ifTurns 43 = .ok (.bipush (-5), 2) := by decide +kernel
theorem dX7_ifTurns_45 : decode cX7_ifTurns 45 = .ok (.if_icmp .ne 23, 3) := by decide +kernel
theorem dX7_ifTurns_48 : decode cX7_ifTurns 48 = .ok (.aload_n 0, 1) := by decide +kernel
theorem dX7_ifTurns_49 : decode cX7_ifTurns 49 = .ok (.getfield 7, 3) := by decide +kernel
theorem dX7_ifTurns_52 : decode cX7_ifTurns 52 = .ok (.iconst 2, 1) := by decide +kernel
theorem dX7_ifTurns_53 : decode cX7_ifTurns 53 = .ok (.iaload, 1) := by decide +kernel
theorem dX7_ifTurns_54 : decode cX7_ifTurns 54 = .ok (.aload_n 0, 1) := by decide +kernel
theorem dX7_ifTurns_55 : decode cX7_ifTurns 55 = .ok (.getfield 19, 3) := by decide +kernel
theorem dX7_ifTurns_58 : decode cX7_ifTurns 58 = .ok (.iconst 2, 1) := by decide +kernel
theorem dX7_ifTurns_59 : decode cX7_ifTurns 59 = .ok (.iaload, 1) := by decide +kernel
theorem dX7_ifTurns_60 : decode cX7_ifTurns 60 = .ok (.if_icmp .le 8, 3) := by decide +kernel
theorem dX7_ifTurns_63 : decode cX7_ifTurns 63 = .ok (.iload 4, 2) := by decide +kernel
theorem dX7_ifTurns_65 : decode cX7_ifTurns 65 = .ok (.goto 4, 3) := by decide +kernel
theorem dX7_ifTurns_68 : decode cX7_ifTurns 68 = .ok (.iload_n 3, 1) := by decide +kernel
theorem dX7_ifTurns_69 : decode cX7_ifTurns 69 = .ok (.istore_n 3, 1) := by decide +kernel
theorem dX7_ifTurns_70 : decode cX7_ifTurns 70 = .ok (.iinc 4 1, 3) := by decide +kernel
theorem dX7_ifTurns_73 : decode cX7_ifTurns 73 = .ok (.goto (-41), 3) := by decide +kernel
theorem dX7_ifTurns_76 : decode cX7_ifTurns 76 = .ok (.iload_n 2, 1) := by decide +kernel
theorem dX7_ifTurns_77 : decode cX7_ifTurns 77 = .ok (.ifCond .ne 19, 3) := by decide +kernel
theorem dX7_ifTurns_80 : decode cX7_ifTurns 80 = .ok (.aload_n 0, 1) := by decide +kernel
theorem dX7_ifTurns_81 : decode cX7_ifTurns 81 = .ok (.getfield 7, 3) := by decide +kernel
theorem dX7_ifTurns_84 : decode cX7_ifTurns 84 = .ok (.iconst 2, 1) := by decide +kernel
theorem dX7_ifTurns_85 : decode cX7_ifTurns 85 = .ok (.iaload, 1) := by decide +kernel
theorem dX7_ifTurns_86 : decode cX7_ifTurns 86 = .ok (.aload_n 0, 1) := by decide +kernel
theorem dX7_ifTurns_87 : decode cX7_ifTurns 87 = .ok (.getfield 19, 3) := by decide +kernel
theorem dX7_ifTurns_90 : decode cX7_ifTurns 90 = .ok (.iconst 2, 1) := by decide +kernel
theorem dX7_ifTurns_91 : decode cX7_ifTurns 91 = .ok (.iaload, 1) := by decide +kernel
theorem dX7_ifTurns_92 : decode cX7_ifTurns 92 = .ok (.isub, 1) := by decide +kernel
theorem dX7_ifTurns_93 : decode cX7_ifTurns 93 = .ok (.goto 18, 3) := by decide +kernel
theorem dX7_ifTurns_96 : decode cX7_ifTurns 96 = .ok (.iload_n 2, 1) := by decide +kernel
theorem dX7_ifTurns_97 : decode cX7_ifTurns 97 = .ok (.iconst 1, 1) := by decide +kernel
theorem dX7_ifTurns_98 : decode cX7_ifTurns 98 = .ok (.if_icmp .ne 12, 3) := by decide +kernel
theorem dX7_ifTurns_101 : decode cX7_ifTurns 101 = .ok (.aload_n 0, 1) := by decide +kernel
theorem dX7_ifTurns_102 : decode cX7_ifTurns 102 = .ok (.getfield 7, 3) := by decide +kernel
theorem dX7_ifTurns_105 : decode cX7_ifTurns 105 = .ok (.iconst 1, 1) := by decide +kernel
theorem dX7_ifTurns_106 : decode cX7_ifTurns 106 = .ok (.iaload, 1) := by decide +kernel
theorem dX7_ifTurns_107 : decode cX7_ifTurns 107 = .ok (.goto 4, 3) := by decide +kernel
theorem dX7_ifTurns_110 : decode cX7_ifTurns 110 = .ok (.iload_n 3, 1) := by decide +kernel
theorem dX7_ifTurns_111 : decode cX7_ifTurns 111 = .ok (.istore 4, 2) := by decide +kernel
theorem dX7_ifTurns_113 : decode cX7_ifTurns 113 = .ok (.aload_n 0, 1) := by decide +kernel
theorem dX7_ifTurns_114 : decode cX7_ifTurns 114 = .ok (.invokevirtual 195, 3) := by decide +kernel
theorem dX7_ifTurns_117 : decode cX7_ifTurns 117 = .ok (.iload 4, 2) := by decide +kernel
theorem dX7_ifTurns_119 : decode cX7_ifTurns 119 = .ok (.ireturn, 1) := by decide +kernel
theorem dX7_withoutShadow_0 : decode cX7_withoutShadow 0 = .ok (.iconst 0, 1) := by decide +kernel
theorem dX7_withoutShadow_1 : decode cX7_withoutShadow 1 = .ok (.istore_n 1, 1) := by decide +kernel
theorem dX7_withoutShadow_2 : decode cX7_withoutShadow 2 = .ok (.iconst 0, 1) := by decide +kernel
theorem dX7_withoutShadow_3 : decode cX7_withoutShadow 3 = .ok (.istore_n 2, 1) := by decide +kernel
theorem dX7_withoutShadow_4 : decode cX7_withoutShadow 4 = .ok (.iload_n 2, 1) := by decide +kernel
theorem dX7_withoutShadow_5 : decode cX7_withoutShadow 5 = .ok (.aload_n 0, 1) := by decide +kernel
theorem dX7_withoutShadow_6 : decode cX7_withoutShadow 6 = .ok (.getfield 7, 3) := by decide +kernel
theorem dX7_withoutShadow_9 : decode cX7_withoutShadow 9 = .ok (.bipush 20, 2) := by decide +kernel
theorem dX7_withoutShadow_11 : decode cX7_withoutShadow 11 = .ok (.iaload, 1) := by decide +kernel
theorem dX7_withoutShadow_12 : decode cX7_withoutShadow 12 = .ok (.if_icmp .ge 25, 3) := by decide +kernel
theorem dX7_withoutShadow_15 : decode cX7_withoutShadow 15 = .ok (.iload_n 1, 1) := by decide +kernel
theorem dX7_withoutShadow_16 : decode cX7_withoutShadow 16 = .ok (.aload_n 0, 1) := by decide +kernel
theorem dX7_withoutShadow_17 : decode cX7_withoutShadow 17 = .ok (.iload_n 2, 1) := by decide +kernel
theorem dX7_withoutShadow_18 : decode cX7_withoutShadow 18 = .ok (.invokevirtual 204, 3) := by decide +kernel
theorem dX7_withoutShadow_21 : decode cX7_withoutShadow 21 = .ok (.ifCond .eq 7, 3) := by decide +kernel
theorem dX7_withoutShadow_24 : decode cX7_withoutShadow 24 = .ok (.iconst 0, 1) := by decide +kernel
theorem dX7_withoutShadow_25 : decode cX7_withoutShadow 25 = .ok (.goto 4, 3) := by decide +kernel
theorem dX7_withoutShadow_28 : decode cX7_withoutShadow 28 = .ok (.iconst 1, 1) := by decide +kernel
theorem dX7_withoutShadow_29 : decode cX7_withoutShadow 29 = .ok (.iadd, 1) := by decide +kernel
theorem dX7_withoutShadow_30 : decode cX7_withoutShadow 30 = .ok (.istore_n 1, 1) := by decide +kernel
theorem dX7_withoutShadow_31 : decode cX7_withoutShadow 31 = .ok (.iinc 2 1, 3) := by decide +kernel
theorem dX7_withoutShadow_34 : decode cX7_withoutShadow 34 = .ok (.goto (-30), 3) := by decide +kernel
theorem dX7_withoutShadow_37 : decode cX7_withoutShadow 37 = .ok (.iload_n 1, 1) := by decide +kernel
theorem dX7_withoutShadow_38 : decode cX7_withoutShadow 38 = .ok (.ireturn, 1) := by decide +kernel
theorem dX7_count_0 : decode cX7_count 0 = .ok (.iload_n 1, 1) := by decide +kernel
theorem dX7_count_1 : decode cX7_count 1 = .ok (.tableswitch 163 0 13 #[71, 78, 86, 93, 98, 107, 112, 119, 126, 133, 140, 140, 153, 158], 71) := by decide +kernel
theorem dX7_count_72 : decode cX7_count 72 = .ok (.aload_n 0, 1) := by decide +kernel
theorem dX7_count_73 : decode cX7_count 73 = .ok (.getfield 7, 3) := by decide +kernel
theorem dX7_count_76 : decode cX7_count 76 = .ok (.iconst 0, 1) := by decide +kernel
theorem dX7_count_77 : decode cX7_count 77 = .ok (.iaload, 1) := by decide +kernel
theorem dX7_count_78 : decode cX7_count 78 = .ok (.ireturn, 1) := by decide +kernel
theorem dX7_count_79 : decode cX7_count 79 = .ok (.aload_n 0, 1) := by decide +kernel
theorem dX7_count_80 : decode cX7_count 80 = .ok (.getfield 7, 3) := by decide +kernel
theorem dX7_count_83 : decode cX7_count 83 = .ok (.bipush 20, 2) := by decide +kernel
theorem dX7_count_85 : decode cX7_count 85 = .ok (.iaload, 1) := by decide +kernel
theorem dX7_count_86 : decode cX7_count 86 = .ok (.ireturn, 1) := by decide +kernel
theorem dX7_count_87 : decode cX7_count 87 = .ok (.aload_n 0, 1) := by decide +kernel
theorem dX7_count_88 : decode cX7_count 88 = .ok (.getfield 7, 3) := by decide +kernel
theorem dX7_count_91 : decode cX7_count 91 = .ok (.iconst 1, 1) := by decide +kernel
theorem dX7_count_92 : decode cX7_count 92 = .ok (.iaload, 1) := by decide +kernel
theorem dX7_count_93 : decode cX7_count 93 = .ok (.ireturn, 1) := by decide +kernel
theorem dX7_count_94 : decode cX7_count 94 = .ok (.aload_n 0, 1) := by decide +kernel
theorem dX7_count_95 : decode cX7_count 95 = .ok (.invokevirtual 126, 3) := by decide +kernel
theorem dX7_count_98 : decode cX7_count 98 = .ok (.ireturn, 1) := by decide +kernel
theorem dX7_count_99 : decode cX7_count 99 = .ok (.aload_n 0, 1) := by decide +kernel
theorem dX7_count_100 : decode cX7_count 100 = .ok (.bipush (-5), 2) := by decide +kernel
theorem dX7_count_102 : decode cX7_count 102 = .ok (.bipush (-5), 2) := by decide +kernel
theorem dX7_count_104 : decode cX7_count 104 = .ok (.invokevirtual 201, 3) := by decide +kernel
theorem dX7_count_107 : decode cX7_count 107 = .ok (.ireturn, 1) := by decide +kernel
theorem dX7_count_108 : decode cX7_count 108 = .ok (.aload_n 0, 1) := by decide +kernel
theorem dX7_count_109 : decode cX7_count 109 = .ok (.invokevirtual 213, 3) := by decide +kernel
theorem dX7_count_112 : decode cX7_count 112 = .ok (.ireturn, 1) := by decide +kernel
theorem dX7_count_113 : decode cX7_count 113 = .ok (.aload_n 0, 1) := by decide +kernel
theorem dX7_count_114 : decode cX7_count 114 = .ok (.getfield 7, 3) := by decide +kernel
theorem dX7_count_117 : decode cX7_count 117 = .ok (.iconst 2, 1) := by decide +kernel
theorem dX7_count_118 : decode cX7_count 118 = .ok (.iaload, 1) := by decide +kernel
theorem dX7_count_119 : decode cX7_count 119 = .ok (.ireturn, 1) := by decide +kernel
theorem dX7_count_120 : decode cX7_count 120 = .ok (.aload_n 0, 1) := by decide +kernel
theorem dX7_count_121 : decode cX7_count 121 = .ok (.getfield 7, 3) := by decide +kernel
theorem dX7_count_124 : decode cX7_count 124 = .ok (.iconst 3, 1) := by decide +kernel
theorem dX7_count_125 : decode cX7_count 125 = .ok (.iaload, 1) := by decide +kernel
theorem dX7_count_126 : decode cX7_count 126 = .ok (.ireturn, 1) := by decide +kernel
theorem dX7_count_127 : decode cX7_count 127 = .ok (.aload_n 0, 1) := by decide +kernel
theorem dX7_count_128 : decode cX7_count 128 = .ok (.getfield 7, 3) := by decide +kernel
theorem dX7_count_131 : decode cX7_count 131 = .ok (.iconst 4, 1) := by decide +kernel
theorem dX7_count_132 : decode cX7_count 132 = .ok (.iaload, 1) := by decide +kernel
theorem dX7_count_133 : decode cX7_count 133 = .ok (.ireturn, 1) := by decide +kernel
theorem dX7_count_134 : decode cX7_count 134 = .ok (.aload_n 0, 1) := by decide +kernel
theorem dX7_count_135 : decode cX7_count 135 = .ok (.getfield 7, 3) := by decide +kernel
theorem dX7_count_138 : decode cX7_count 138 = .ok (.iconst 5, 1) := by decide +kernel
theorem dX7_count_139 : decode cX7_count 139 = .ok (.iaload, 1) := by decide +kernel
theorem dX7_count_140 : decode cX7_count 140 = .ok (.ireturn, 1) := by decide +kernel
theorem dX7_count_141 : decode cX7_count 141 = .ok (.aload_n 0, 1) := by decide +kernel
theorem dX7_count_142 : decode cX7_count 142 = .ok (.getfield 7, 3) := by decide +kernel
theorem dX7_count_145 : decode cX7_count 145 = .ok (.bipush 6, 2) := by decide +kernel
theorem dX7_count_147 : decode cX7_count 147 = .ok (.iload_n 1, 1) := by decide +kernel
theorem dX7_count_148 : decode cX7_count 148 = .ok (.iadd, 1) := by decide +kernel
theorem dX7_count_149 : decode cX7_count 149 = .ok (.bipush 10, 2) := by decide +kernel
theorem dX7_count_151 : decode cX7_count 151 = .ok (.isub, 1) := by decide +kernel
theorem dX7_count_152 : decode cX7_count 152 = .ok (.iaload, 1) := by decide +kernel
theorem dX7_count_153 : decode cX7_count 153 = .ok (.ireturn, 1) := by decide +kernel
theorem dX7_count_154 : decode cX7_count 154 = .ok (.aload_n 0, 1) := by decide +kernel
theorem dX7_count_155 : decode cX7_count 155 = .ok (.getfield 55, 3) := by decide +kernel
theorem dX7_count_158 : decode cX7_count 158 = .ok (.ireturn, 1) := by decide +kernel
theorem dX7_count_159 : decode cX7_count 159 = .ok (.aload_n 0, 1) := by decide +kernel
theorem dX7_count_160 : decode cX7_count 160 = .ok (.getfield 155, 3) := by decide +kernel
theorem dX7_count_163 : decode cX7_count 163 = .ok (.ireturn, 1) := by decide +kernel
theorem dX7_count_164 : decode cX7_count 164 = .ok (.bipush (-2), 2) := by decide +kernel
theorem dX7_count_166 : decode cX7_count 166 = .ok (.ireturn, 1) := by decide +kernel
theorem dJ9_min_7cf53_0 : decode cJ9_min_7cf53 0 = .ok (.iload_n 0, 1) := by decide +kernel
theorem dJ9_min_7cf53_1 : decode cJ9_min_7cf53 1 = .ok (.iload_n 1, 1) := by decide +kernel
theorem dJ9_min_7cf53_2 : decode cJ9_min_7cf53 2 = .ok (.if_icmp .gt 7, 3) := by decide +kernel
theorem dJ9_min_7cf53_5 : decode cJ9_min_7cf53 5 = .ok (.iload_n 0, 1) := by decide +kernel
theorem dJ9_min_7cf53_6 : decode cJ9_min_7cf53 6 = .ok (.goto 4, 3) := by decide +kernel
theorem dJ9_min_7cf53_9 : decode cJ9_min_7cf53 9 = .ok (.iload_n 1, 1) := by decide +kernel
theorem dJ9_min_7cf53_10 : decode cJ9_min_7cf53 10 = .ok (.ireturn, 1) := by decide +kernel
theorem dL_law_0 : decode cL_law 0 = .ok (.new 7, 3) := by decide +kernel
theorem dL_law_3 : decode cL_law 3 = .ok (.dup, 1) := by decide +kernel
theorem dL_law_4 : decode cL_law 4 = .ok (.invokespecial 9, 3) := by decide +kernel
theorem dL_law_7 : decode cL_law 7 = .ok (.astore_n 1, 1) := by decide +kernel
theorem dL_law_8 : decode cL_law 8 = .ok (.new 10, 3) := by decide +kernel
theorem dL_law_11 : decode cL_law 11 = .ok (.dup, 1) := by decide +kernel
theorem dL_law_12 : decode cL_law 12 = .ok (.invokespecial 12, 3) := by decide +kernel
theorem dL_law_15 : decode cL_law 15 = .ok (.astore_n 2, 1) := by decide +kernel
theorem dL_law_16 : decode cL_law 16 = .ok (.iconst 0, 1) := by decide +kernel
theorem dL_law_17 : decode cL_law 17 = .ok (.istore_n 3, 1) := by decide +kernel
theorem dL_law_18 : decode cL_law 18 = .ok (.iload_n 3, 1) := by decide +kernel
theorem dL_law_19 : decode cL_law 19 = .ok (.aload_n 0, 1) := by decide +kernel
theorem dL_law_20 : decode cL_law 20 = .ok (.arraylength, 1) := by decide +kernel
theorem dL_law_21 : decode cL_law 21 = .ok (.iconst 4, 1) := by decide +kernel
theorem dL_law_22 : decode cL_law 22 = .ok (.isub, 1) := by decide +kernel
theorem dL_law_23 : decode cL_law 23 = .ok (.if_icmp .gt 747, 3) := by decide +kernel
theorem dL_law_26 : decode cL_law 26 = .ok (.aload_n 0, 1) := by decide +kernel
theorem dL_law_27 : decode cL_law 27 = .ok (.iload_n 3, 1) := by decide +kernel
theorem dL_law_28 : decode cL_law 28 = .ok (.iaload, 1) := by decide +kernel
theorem dL_law_29 : decode cL_law 29 = .ok (.bipush 31, 2) := by decide +kernel
theorem dL_law_31 : decode cL_law 31 = .ok (.iand, 1) := by decide +kernel
theorem dL_law_32 : decode cL_law 32 = .ok (.tableswitch 732 0 23 #[112, 145, 178, 227, 270, 303, 326, 351, 364, 377, 400, 413, 426, 439, 472, 505, 548, 571, 594, 617, 640, 663, 676, 709], 112) := by decide +kernel
theorem dL_law_144 : decode cL_law 144 = .ok (.aload_n 1, 1) := by decide +kernel
theorem dL_law_145 : decode cL_law 145 = .ok (.aload_n 0, 1) := by decide +kernel
theorem dL_law_146 : decode cL_law 146 = .ok (.iload_n 3, 1) := by decide +kernel
theorem dL_law_147 : decode cL_law 147 = .ok (.iconst 1, 1) := by decide +kernel
theorem dL_law_148 : decode cL_law 148 = .ok (.iadd, 1) := by decide +kernel
theorem dL_law_149 : decode cL_law 149 = .ok (.iaload, 1) := by decide +kernel
theorem dL_law_150 : decode cL_law 150 = .ok (.aload_n 0, 1) := by decide +kernel
theorem dL_law_151 : decode cL_law 151 = .ok (.iload_n 3, 1) := by decide +kernel
theorem dL_law_152 : decode cL_law 152 = .ok (.iconst 2, 1) := by decide +kernel
theorem dL_law_153 : decode cL_law 153 = .ok (.iadd, 1) := by decide +kernel
theorem dL_law_154 : decode cL_law 154 = .ok (.iaload, 1) := by decide +kernel
theorem dL_law_155 : decode cL_law 155 = .ok (.invokevirtual 13, 3) := by decide +kernel
theorem dL_law_158 : decode cL_law 158 = .ok (.aload_n 2, 1) := by decide +kernel
theorem dL_law_159 : decode cL_law 159 = .ok (.aload_n 0, 1) := by decide +kernel
theorem dL_law_160 : decode cL_law 160 = .ok (.iload_n 3, 1) := by decide +kernel
theorem dL_law_161 : decode cL_law 161 = .ok (.iconst 1, 1) := by decide +kernel
theorem dL_law_162 : decode cL_law 162 = .ok (.iadd, 1) := by decide +kernel
theorem dL_law_163 : decode cL_law 163 = .ok (.iaload, 1) := by decide +kernel
theorem dL_law_164 : decode cL_law 164 = .ok (.aload_n 0, 1) := by decide +kernel
theorem dL_law_165 : decode cL_law 165 = .ok (.iload_n 3, 1) := by decide +kernel
theorem dL_law_166 : decode cL_law 166 = .ok (.iconst 2, 1) := by decide +kernel
theorem dL_law_167 : decode cL_law 167 = .ok (.iadd, 1) := by decide +kernel
theorem dL_law_168 : decode cL_law 168 = .ok (.iaload, 1) := by decide +kernel
theorem dL_law_169 : decode cL_law 169 = .ok (.invokevirtual 17, 3) := by decide +kernel
theorem dL_law_172 : decode cL_law 172 = .ok (.if_icmp .eq 592, 3) := by decide +kernel
theorem dL_law_175 : decode cL_law 175 = .ok (.iconst 0, 1) := by decide +kernel
theorem dL_law_176 : decode cL_law 176 = .ok (.ireturn, 1) := by decide +kernel
theorem dL_law_177 : decode cL_law 177 = .ok (.aload_n 1, 1) := by decide +kernel
theorem dL_law_178 : decode cL_law 178 = .ok (.aload_n 0, 1) := by decide +kernel
theorem dL_law_179 : decode cL_law 179 = .ok (.iload_n 3, 1) := by decide +kernel
theorem dL_law_180 : decode cL_law 180 = .ok (.iconst 1, 1) := by decide +kernel
theorem dL_law_181 : decode cL_law 181 = .ok (.iadd, 1) := by decide +kernel
theorem dL_law_182 : decode cL_law 182 = .ok (.iaload, 1) := by decide +kernel
theorem dL_law_183 : decode cL_law 183 = .ok (.aload_n 0, 1) := by decide +kernel
theorem dL_law_184 : decode cL_law 184 = .ok (.iload_n 3, 1) := by decide +kernel
theorem dL_law_185 : decode cL_law 185 = .ok (.iconst 2, 1) := by decide +kernel
theorem dL_law_186 : decode cL_law 186 = .ok (.iadd, 1) := by decide +kernel
theorem dL_law_187 : decode cL_law 187 = .ok (.iaload, 1) := by decide +kernel
theorem dL_law_188 : decode cL_law 188 = .ok (.invokevirtual 18, 3) := by decide +kernel
theorem dL_law_191 : decode cL_law 191 = .ok (.aload_n 2, 1) := by decide +kernel
theorem dL_law_192 : decode cL_law 192 = .ok (.aload_n 0, 1) := by decide +kernel
theorem dL_law_193 : decode cL_law 193 = .ok (.iload_n 3, 1) := by decide +kernel
theorem dL_law_194 : decode cL_law 194 = .ok (.iconst 1, 1) := by decide +kernel
theorem dL_law_195 : decode cL_law 195 = .ok (.iadd, 1) := by decide +kernel
theorem dL_law_196 : decode cL_law 196 = .ok (.iaload, 1) := by decide +kernel
theorem dL_law_197 : decode cL_law 197 = .ok (.aload_n 0, 1) := by decide +kernel
theorem dL_law_198 : decode cL_law 198 = .ok (.iload_n 3, 1) := by decide +kernel
theorem dL_law_199 : decode cL_law 199 = .ok (.iconst 2, 1) := by decide +kernel
theorem dL_law_200 : decode cL_law 200 = .ok (.iadd, 1) := by decide +kernel
theorem dL_law_201 : decode cL_law 201 = .ok (.iaload, 1) := by decide +kernel
theorem dL_law_202 : decode cL_law 202 = .ok (.invokevirtual 21, 3) := by decide +kernel
theorem dL_law_205 : decode cL_law 205 = .ok (.if_icmp .eq 559, 3) := by decide +kernel
theorem dL_law_208 : decode cL_law 208 = .ok (.iconst 0, 1) := by decide +kernel
theorem dL_law_209 : decode cL_law 209 = .ok (.ireturn, 1) := by decide +kernel
theorem dL_law_210 : decode cL_law 210 = .ok (.aload_n 1, 1) := by decide +kernel
theorem dL_law_211 : decode cL_law 211 = .ok (.aload_n 0, 1) := by decide +kernel
theorem dL_law_212 : decode cL_law 212 = .ok (.iload_n 3, 1) := by decide +kernel
theorem dL_law_213 : decode cL_law 213 = .ok (.iconst 1, 1) := by decide +kernel
theorem dL_law_214 : decode cL_law 214 = .ok (.iadd, 1) := by decide +kernel
theorem dL_law_215 : decode cL_law 215 = .ok (.iaload, 1) := by decide +kernel
theorem dL_law_216 : decode cL_law 216 = .ok (.aload_n 0, 1) := by decide +kernel
theorem dL_law_217 : decode cL_law 217 = .ok (.iload_n 3, 1) := by decide +kernel
theorem dL_law_218 : decode cL_law 218 = .ok (.iconst 2, 1) := by decide +kernel
theorem dL_law_219 : decode cL_law 219 = .ok (.iadd, 1) := by decide +kernel
theorem dL_law_220 : decode cL_law 220 = .ok (.iaload, 1) := by decide +kernel
theorem dL_law_221 : decode cL_law 221 = .ok (.ifCond .eq 7, 3) := by decide +kernel
theorem dL_law_224 : decode cL_law 224 = .ok (.iconst 1, 1) := by decide +kernel
theorem dL_law_225 : decode cL_law 225 = .ok (.goto 4, 3) := by decide +kernel
theorem dL_law_228 : decode cL_law 228 = .ok (.iconst 0, 1) := by decide +kernel
theorem dL_law_229 : decode cL_law 229 = .ok (.invokevirtual 22, 3) := by decide +kernel
theorem dL_law_232 : decode cL_law 232 = .ok (.aload_n 2, 1) := by decide +kernel
theorem dL_law_233 : decode cL_law 233 = .ok (.aload_n 0, 1) := by decide +kernel
theorem dL_law_234 : decode cL_law 234 = .ok (.iload_n 3, 1) := by decide +kernel
theorem dL_law_235 : decode cL_law 235 = .ok (.iconst 1, 1) := by decide +kernel
theorem dL_law_236 : decode cL_law 236 = .ok (.iadd, 1) := by decide +kernel
theorem dL_law_237 : decode cL_law 237 = .ok (.iaload, 1) := by decide +kernel
theorem dL_law_238 : decode cL_law 238 = .ok (.aload_n 0, 1) := by decide +kernel
theorem dL_law_239 : decode cL_law 239 = .ok (.iload_n 3, 1) := by decide +kernel
theorem dL_law_240 : decode cL_law 240 = .ok (.iconst 2, 1) := by decide +kernel
theorem dL_law_241 : decode cL_law 241 = .ok (.iadd, 1) := by decide +kernel
theorem dL_law_242 : decode cL_law 242 = .ok (.iaload, 1) := by decide +kernel
theorem dL_law_243 : decode cL_law 243 = .ok (.ifCond .eq 7, 3) := by decide +kernel
theorem dL_law_246 : decode cL_law 246 = .ok (.iconst 1, 1) := by decide +kernel
theorem dL_law_247 : decode cL_law 247 = .ok (.goto 4, 3) := by decide +kernel
theorem dL_law_250 : decode cL_law 250 = .ok (.iconst 0, 1) := by decide +kernel
theorem dL_law_251 : decode cL_law 251 = .ok (.invokevirtual 26, 3) := by decide +kernel
theorem dL_law_254 : decode cL_law 254 = .ok (.if_icmp .eq 510, 3) := by decide +kernel
theorem dL_law_257 : decode cL_law 257 = .ok (.iconst 0, 1) := by decide +kernel
theorem dL_law_258 : decode cL_law 258 = .ok (.ireturn, 1) := by decide +kernel
theorem dL_law_259 : decode cL_law 259 = .ok (.aload_n 1, 1) := by decide +kernel
theorem dL_law_260 : decode cL_law 260 = .ok (.aload_n 0, 1) := by decide +kernel
theorem dL_law_261 : decode cL_law 261 = .ok (.iload_n 3, 1) := by decide +kernel
theorem dL_law_262 : decode cL_law 262 = .ok (.iconst 1, 1) := by decide +kernel
theorem dL_law_263 : decode cL_law 263 = .ok (.iadd, 1) := by decide +kernel
theorem dL_law_264 : decode cL_law 264 = .ok (.iaload, 1) := by decide +kernel
theorem dL_law_265 : decode cL_law 265 = .ok (.aload_n 0, 1) := by decide +kernel
theorem dL_law_266 : decode cL_law 266 = .ok (.iload_n 3, 1) := by decide +kernel
theorem dL_law_267 : decode cL_law 267 = .ok (.iconst 2, 1) := by decide +kernel
theorem dL_law_268 : decode cL_law 268 = .ok (.iadd, 1) := by decide +kernel
theorem dL_law_269 : decode cL_law 269 = .ok (.iaload, 1) := by decide +kernel
theorem dL_law_270 : decode cL_law 270 = .ok (.aload_n 0, 1) := by decide +kernel
theorem dL_law_271 : decode cL_law 271 = .ok (.iload_n 3, 1) := by decide +kernel
theorem dL_law_272 : decode cL_law 272 = .ok (.iconst 3, 1) := by decide +kernel
theorem dL_law_273 : decode cL_law 273 = .ok (.iadd, 1) := by decide +kernel
theorem dL_law_274 : decode cL_law 274 = .ok (.iaload, 1) := by decide +kernel
theorem dL_law_275 : decode cL_law 275 = .ok (.invokevirtual 27, 3) := by decide +kernel
theorem dL_law_278 : decode cL_law 278 = .ok (.aload_n 2, 1) := by decide +kernel
theorem dL_law_279 : decode cL_law 279 = .ok (.aload_n 0, 1) := by decide +kernel
theorem dL_law_280 : decode cL_law 280 = .ok (.iload_n 3, 1) := by decide +kernel
theorem dL_law_281 : decode cL_law 281 = .ok (.iconst 1, 1) := by decide +kernel
theorem dL_law_282 : decode cL_law 282 = .ok (.iadd, 1) := by decide +kernel
theorem dL_law_283 : decode cL_law 283 = .ok (.iaload, 1) := by decide +kernel
theorem dL_law_284 : decode cL_law 284 = .ok (.aload_n 0, 1) := by decide +kernel
theorem dL_law_285 : decode cL_law 285 = .ok (.iload_n 3, 1) := by decide +kernel
theorem dL_law_286 : decode cL_law 286 = .ok (.iconst 2, 1) := by decide +kernel
theorem dL_law_287 : decode cL_law 287 = .ok (.iadd, 1) := by decide +kernel
theorem dL_law_288 : decode cL_law 288 = .ok (.iaload, 1) := by decide +kernel
theorem dL_law_289 : decode cL_law 289 = .ok (.aload_n 0, 1) := by decide +kernel
theorem dL_law_290 : decode cL_law 290 = .ok (.iload_n 3, 1) := by decide +kernel
theorem dL_law_291 : decode cL_law 291 = .ok (.iconst 3, 1) := by decide +kernel
theorem dL_law_292 : decode cL_law 292 = .ok (.iadd, 1) := by decide +kernel
theorem dL_law_293 : decode cL_law 293 = .ok (.iaload, 1) := by decide +kernel
theorem dL_law_294 : decode cL_law 294 = .ok (.invokevirtual 31, 3) := by decide +kernel
theorem dL_law_297 : decode cL_law 297 = .ok (.if_icmp .eq 467, 3) := by decide +kernel
theorem dL_law_300 : decode cL_law 300 = .ok (.iconst 0, 1) := by decide +kernel
theorem dL_law_301 : decode cL_law 301 = .ok (.ireturn, 1) := by decide +kernel
theorem dL_law_302 : decode cL_law 302 = .ok (.aload_n 1, 1) := by decide +kernel
theorem dL_law_303 : decode cL_law 303 = .ok (.aload_n 0, 1) := by decide +kernel
theorem dL_law_304 : decode cL_law 304 = .ok (.iload_n 3, 1) := by decide +kernel
theorem dL_law_305 : decode cL_law 305 = .ok (.iconst 1, 1) := by decide +kernel
theorem dL_law_306 : decode cL_law 306 = .ok (.iadd, 1) := by decide +kernel
theorem dL_law_307 : decode cL_law 307 = .ok (.iaload, 1) := by decide +kernel
theorem dL_law_308 : decode cL_law 308 = .ok (.aload_n 0, 1) := by decide +kernel
theorem dL_law_309 : decode cL_law 309 = .ok (.iload_n 3, 1) := by decide +kernel
theorem dL_law_310 : decode cL_law 310 = .ok (.iconst 2, 1) := by decide +kernel
theorem dL_law_311 : decode cL_law 311 = .ok (.iadd, 1) := by decide +kernel
theorem dL_law_312 : decode cL_law 312 = .ok (.iaload, 1) := by decide +kernel
theorem dL_law_313 : decode cL_law 313 = .ok (.invokevirtual 32, 3) := by decide +kernel
theorem dL_law_316 : decode cL_law 316 = .ok (.aload_n 2, 1) := by decide +kernel
theorem dL_law_317 : decode cL_law 317 = .ok (.aload_n 0, 1) := by decide +kernel
theorem dL_law_318 : decode cL_law 318 = .ok (.iload_n 3, 1) := by decide +kernel
theorem dL_law_319 : decode cL_law 319 = .ok (.iconst 1, 1) := by decide +kernel
theorem dL_law_320 : decode cL_law 320 = .ok (.iadd, 1) := by decide +kernel
theorem dL_law_321 : decode cL_law 321 = .ok (.iaload, 1) := by decide +kernel
theorem dL_law_322 : decode cL_law 322 = .ok (.aload_n 0, 1) := by decide +kernel
theorem dL_law_323 : decode cL_law 323 = .ok (.iload_n 3, 1) := by decide +kernel
theorem dL_law_324 : decode cL_law 324 = .ok (.iconst 2, 1) := by decide +kernel
theorem dL_law_325 : decode cL_law 325 = .ok (.iadd, 1) := by decide +kernel
theorem dL_law_326 : decode cL_law 326 = .ok (.iaload, 1) := by decide +kernel
theorem dL_law_327 : decode cL_law 327 = .ok (.invokevirtual 35, 3) := by decide +kernel
theorem dL_law_330 : decode cL_law 330 = .ok (.if_icmp .eq 434, 3) := by decide +kernel
theorem dL_law_333 : decode cL_law 333 = .ok (.iconst 0, 1) := by decide +kernel
theorem dL_law_334 : decode cL_law 334 = .ok (.ireturn, 1) := by decide +kernel
theorem dL_law_335 : decode cL_law 335 = .ok (.aload_n 1, 1) := by decide +kernel
theorem dL_law_336 : decode cL_law 336 = .ok (.aload_n 0, 1) := by decide +kernel
theorem dL_law_337 : decode cL_law 337 = .ok (.iload_n 3, 1) := by decide +kernel
theorem dL_law_338 : decode cL_law 338 = .ok (.iconst 1, 1) := by decide +kernel
theorem dL_law_339 : decode cL_law 339 = .ok (.iadd, 1) := by decide +kernel
theorem dL_law_340 : decode cL_law 340 = .ok (.iaload, 1) := by decide +kernel
theorem dL_law_341 : decode cL_law 341 = .ok (.invokevirtual 36, 3) := by decide +kernel
theorem dL_law_344 : decode cL_law 344 = .ok (.aload_n 2, 1) := by decide +kernel
theorem dL_law_345 : decode cL_law 345 = .ok (.aload_n 0, 1) := by decide +kernel
theorem dL_law_346 : decode cL_law 346 = .ok (.iload_n 3, 1) := by decide +kernel
theorem dL_law_347 : decode cL_law 347 = .ok (.iconst 1, 1) := by decide +kernel
theorem dL_law_348 : decode cL_law 348 = .ok (.iadd, 1) := by decide +kernel
theorem dL_law_349 : decode cL_law 349 = .ok (.iaload, 1) := by decide +kernel
theorem dL_law_350 : decode cL_law 350 = .ok (.invokevirtual 40, 3) := by decide +kernel
theorem dL_law_353 : decode cL_law 353 = .ok (.if_icmp .eq 411, 3) := by decide +kernel
theorem dL_law_356 : decode cL_law 356 = .ok (.iconst 0, 1) := by decide +kernel
theorem dL_law_357 : decode cL_law 357 = .ok (.ireturn, 1) := by decide +kernel
theorem dL_law_358 : decode cL_law 358 = .ok (.aload_n 1, 1) := by decide +kernel
theorem dL_law_359 : decode cL_law 359 = .ok (.aload_n 0, 1) := by decide +kernel
theorem dL_law_360 : decode cL_law 360 = .ok (.iload_n 3, 1) := by decide +kernel
theorem dL_law_361 : decode cL_law 361 = .ok (.iconst 1, 1) := by decide +kernel
theorem dL_law_362 : decode cL_law 362 = .ok (.iadd, 1) := by decide +kernel
theorem dL_law_363 : decode cL_law 363 = .ok (.iaload, 1) := by decide +kernel
theorem dL_law_364 : decode cL_law 364 = .ok (.i2c, 1) := by decide +kernel
theorem dL_law_365 : decode cL_law 365 = .ok (.invokevirtual 41, 3) := by decide +kernel
theorem dL_law_368 : decode cL_law 368 = .ok (.aload_n 2, 1) := by decide +kernel
theorem dL_law_369 : decode cL_law 369 = .ok (.aload_n 0, 1) := by decide +kernel
theorem dL_law_370 : decode cL_law 370 = .ok (.iload_n 3, 1) := by decide +kernel
theorem dL_law_371 : decode cL_law 371 = .ok (.iconst 1, 1) := by decide +kernel
theorem dL_law_372 : decode cL_law 372 = .ok (.iadd, 1) := by decide +kernel
theorem dL_law_373 : decode cL_law 373 = .ok (.iaload, 1) := by decide +kernel
theorem dL_law_374 : decode cL_law 374 = .ok (.i2c, 1) := by decide +kernel
theorem dL_law_375 : decode cL_law 375 = .ok (.invokevirtual 45, 3) := by decide +kernel
theorem dL_law_378 : decode cL_law 378 = .ok (.if_icmp .eq 386, 3) := by decide +kernel
theorem dL_law_381 : decode cL_law 381 = .ok (.iconst 0, 1) := by decide +kernel
theorem dL_law_382 : decode cL_law 382 = .ok (.ireturn, 1) := by decide +kernel
theorem dL_law_383 : decode cL_law 383 = .ok (.aload_n 1, 1) := by decide +kernel
theorem dL_law_384 : decode cL_law 384 = .ok (.invokevirtual 46, 3) := by decide +kernel
theorem dL_law_387 : decode cL_law 387 = .ok (.aload_n 2, 1) := by decide +kernel
theorem dL_law_388 : decode cL_law 388 = .ok (.invokevirtual 50, 3) := by decide +kernel
theorem dL_law_391 : decode cL_law 391 = .ok (.if_icmp .eq 373, 3) := by decide +kernel
theorem dL_law_394 : decode cL_law 394 = .ok (.iconst 0, 1) := by decide +kernel
theorem dL_law_395 : decode cL_law 395 = .ok (.ireturn, 1) := by decide +kernel
theorem dL_law_396 : decode cL_law 396 = .ok (.aload_n 1, 1) := by decide +kernel
theorem dL_law_397 : decode cL_law 397 = .ok (.invokevirtual 51, 3) := by decide +kernel
theorem dL_law_400 : decode cL_law 400 = .ok (.aload_n 2, 1) := by decide +kernel
theorem dL_law_401 : decode cL_law 401 = .ok (.invokevirtual 54, 3) := by decide +kernel
theorem dL_law_404 : decode cL_law 404 = .ok (.if_icmp .eq 360, 3) := by decide +kernel
theorem dL_law_407 : decode cL_law 407 = .ok (.iconst 0, 1) := by decide +kernel
theorem dL_law_408 : decode cL_law 408 = .ok (.ireturn, 1) := by decide +kernel
theorem dL_law_409 : decode cL_law 409 = .ok (.aload_n 1, 1) := by decide +kernel
theorem dL_law_410 : decode cL_law 410 = .ok (.aload_n 0, 1) := by decide +kernel
theorem dL_law_411 : decode cL_law 411 = .ok (.iload_n 3, 1) := by decide +kernel
theorem dL_law_412 : decode cL_law 412 = .ok (.iconst 1, 1) := by decide +kernel
theorem dL_law_413 : decode cL_law 413 = .ok (.iadd, 1) := by decide +kernel
theorem dL_law_414 : decode cL_law 414 = .ok (.iaload, 1) := by decide +kernel
theorem dL_law_415 : decode cL_law 415 = .ok (.invokevirtual 55, 3) := by decide +kernel
theorem dL_law_418 : decode cL_law 418 = .ok (.aload_n 2, 1) := by decide +kernel
theorem dL_law_419 : decode cL_law 419 = .ok (.aload_n 0, 1) := by decide +kernel
theorem dL_law_420 : decode cL_law 420 = .ok (.iload_n 3, 1) := by decide +kernel
theorem dL_law_421 : decode cL_law 421 = .ok (.iconst 1, 1) := by decide +kernel
theorem dL_law_422 : decode cL_law 422 = .ok (.iadd, 1) := by decide +kernel
theorem dL_law_423 : decode cL_law 423 = .ok (.iaload, 1) := by decide +kernel
theorem dL_law_424 : decode cL_law 424 = .ok (.invokevirtual 58, 3) := by decide +kernel
theorem dL_law_427 : decode cL_law 427 = .ok (.if_icmp .eq 337, 3) := by decide +kernel
theorem dL_law_430 : decode cL_law 430 = .ok (.iconst 0, 1) := by decide +kernel
theorem dL_law_431 : decode cL_law 431 = .ok (.ireturn, 1) := by decide +kernel
theorem dL_law_432 : decode cL_law 432 = .ok (.aload_n 1, 1) := by decide +kernel
theorem dL_law_433 : decode cL_law 433 = .ok (.invokevirtual 59, 3) := by decide +kernel
theorem dL_law_436 : decode cL_law 436 = .ok (.aload_n 2, 1) := by decide +kernel
theorem dL_law_437 : decode cL_law 437 = .ok (.invokevirtual 62, 3) := by decide +kernel
theorem dL_law_440 : decode cL_law 440 = .ok (.if_icmp .eq 324, 3) := by decide +kernel
theorem dL_law_443 : decode cL_law 443 = .ok (.iconst 0, 1) := by decide +kernel
theorem dL_law_444 : decode cL_law 444 = .ok (.ireturn, 1) := by decide +kernel
theorem dL_law_445 : decode cL_law 445 = .ok (.aload_n 1, 1) := by decide +kernel
theorem dL_law_446 : decode cL_law 446 = .ok (.invokevirtual 63, 3) := by decide +kernel
theorem dL_law_449 : decode cL_law 449 = .ok (.aload_n 2, 1) := by decide +kernel
theorem dL_law_450 : decode cL_law 450 = .ok (.invokevirtual 66, 3) := by decide +kernel
theorem dL_law_453 : decode cL_law 453 = .ok (.if_icmp .eq 311, 3) := by decide +kernel
theorem dL_law_456 : decode cL_law 456 = .ok (.iconst 0, 1) := by decide +kernel
theorem dL_law_457 : decode cL_law 457 = .ok (.ireturn, 1) := by decide +kernel
theorem dL_law_458 : decode cL_law 458 = .ok (.aload_n 1, 1) := by decide +kernel
theorem dL_law_459 : decode cL_law 459 = .ok (.invokevirtual 67, 3) := by decide +kernel
theorem dL_law_462 : decode cL_law 462 = .ok (.aload_n 2, 1) := by decide +kernel
theorem dL_law_463 : decode cL_law 463 = .ok (.invokevirtual 70, 3) := by decide +kernel
theorem dL_law_466 : decode cL_law 466 = .ok (.if_icmp .eq 298, 3) := by decide +kernel
theorem dL_law_469 : decode cL_law 469 = .ok (.iconst 0, 1) := by decide +kernel
theorem dL_law_470 : decode cL_law 470 = .ok (.ireturn, 1) := by decide +kernel
theorem dL_law_471 : decode cL_law 471 = .ok (.aload_n 1, 1) := by decide +kernel
theorem dL_law_472 : decode cL_law 472 = .ok (.aload_n 0, 1) := by decide +kernel
theorem dL_law_473 : decode cL_law 473 = .ok (.iload_n 3, 1) := by decide +kernel
theorem dL_law_474 : decode cL_law 474 = .ok (.iconst 1, 1) := by decide +kernel
theorem dL_law_475 : decode cL_law 475 = .ok (.iadd, 1) := by decide +kernel
theorem dL_law_476 : decode cL_law 476 = .ok (.iaload, 1) := by decide +kernel
theorem dL_law_477 : decode cL_law 477 = .ok (.aload_n 0, 1) := by decide +kernel
theorem dL_law_478 : decode cL_law 478 = .ok (.iload_n 3, 1) := by decide +kernel
theorem dL_law_479 : decode cL_law 479 = .ok (.iconst 2, 1) := by decide +kernel
theorem dL_law_480 : decode cL_law 480 = .ok (.iadd, 1) := by decide +kernel
theorem dL_law_481 : decode cL_law 481 = .ok (.iaload, 1) := by decide +kernel
theorem dL_law_482 : decode cL_law 482 = .ok (.invokevirtual 71, 3) := by decide +kernel
theorem dL_law_485 : decode cL_law 485 = .ok (.aload_n 2, 1) := by decide +kernel
theorem dL_law_486 : decode cL_law 486 = .ok (.aload_n 0, 1) := by decide +kernel
theorem dL_law_487 : decode cL_law 487 = .ok (.iload_n 3, 1) := by decide +kernel
theorem dL_law_488 : decode cL_law 488 = .ok (.iconst 1, 1) := by decide +kernel
theorem dL_law_489 : decode cL_law 489 = .ok (.iadd, 1) := by decide +kernel
theorem dL_law_490 : decode cL_law 490 = .ok (.iaload, 1) := by decide +kernel
theorem dL_law_491 : decode cL_law 491 = .ok (.aload_n 0, 1) := by decide +kernel
theorem dL_law_492 : decode cL_law 492 = .ok (.iload_n 3, 1) := by decide +kernel
theorem dL_law_493 : decode cL_law 493 = .ok (.iconst 2, 1) := by decide +kernel
theorem dL_law_494 : decode cL_law 494 = .ok (.iadd, 1) := by decide +kernel
theorem dL_law_495 : decode cL_law 495 = .ok (.iaload, 1) := by decide +kernel
theorem dL_law_496 : decode cL_law 496 = .ok (.invokevirtual 74, 3) := by decide +kernel
theorem dL_law_499 : decode cL_law 499 = .ok (.if_icmp .eq 265, 3) := by decide +kernel
theorem dL_law_502 : decode cL_law 502 = .ok (.iconst 0, 1) := by decide +kernel
theorem dL_law_503 : decode cL_law 503 = .ok (.ireturn, 1) := by decide +kernel
theorem dL_law_504 : decode cL_law 504 = .ok (.aload_n 1, 1) := by decide +kernel
theorem dL_law_505 : decode cL_law 505 = .ok (.aload_n 0, 1) := by decide +kernel
theorem dL_law_506 : decode cL_law 506 = .ok (.iload_n 3, 1) := by decide +kernel
theorem dL_law_507 : decode cL_law 507 = .ok (.iconst 1, 1) := by decide +kernel
theorem dL_law_508 : decode cL_law 508 = .ok (.iadd, 1) := by decide +kernel
theorem dL_law_509 : decode cL_law 509 = .ok (.iaload, 1) := by decide +kernel
theorem dL_law_510 : decode cL_law 510 = .ok (.aload_n 0, 1) := by decide +kernel
theorem dL_law_511 : decode cL_law 511 = .ok (.iload_n 3, 1) := by decide +kernel
theorem dL_law_512 : decode cL_law 512 = .ok (.iconst 2, 1) := by decide +kernel
theorem dL_law_513 : decode cL_law 513 = .ok (.iadd, 1) := by decide +kernel
theorem dL_law_514 : decode cL_law 514 = .ok (.iaload, 1) := by decide +kernel
theorem dL_law_515 : decode cL_law 515 = .ok (.invokevirtual 75, 3) := by decide +kernel
theorem dL_law_518 : decode cL_law 518 = .ok (.aload_n 2, 1) := by decide +kernel
theorem dL_law_519 : decode cL_law 519 = .ok (.aload_n 0, 1) := by decide +kernel
theorem dL_law_520 : decode cL_law 520 = .ok (.iload_n 3, 1) := by decide +kernel
theorem dL_law_521 : decode cL_law 521 = .ok (.iconst 1, 1) := by decide +kernel
theorem dL_law_522 : decode cL_law 522 = .ok (.iadd, 1) := by decide +kernel
theorem dL_law_523 : decode cL_law 523 = .ok (.iaload, 1) := by decide +kernel
theorem dL_law_524 : decode cL_law 524 = .ok (.aload_n 0, 1) := by decide +kernel
theorem dL_law_525 : decode cL_law 525 = .ok (.iload_n 3, 1) := by decide +kernel
theorem dL_law_526 : decode cL_law 526 = .ok (.iconst 2, 1) := by decide +kernel
theorem dL_law_527 : decode cL_law 527 = .ok (.iadd, 1) := by decide +kernel
theorem dL_law_528 : decode cL_law 528 = .ok (.iaload, 1) := by decide +kernel
theorem dL_law_529 : decode cL_law 529 = .ok (.invokevirtual 78, 3) := by decide +kernel
theorem dL_law_532 : decode cL_law 532 = .ok (.if_icmp .eq 232, 3) := by decide +kernel
theorem dL_law_535 : decode cL_law 535 = .ok (.iconst 0, 1) := by decide +kernel
theorem dL_law_536 : decode cL_law 536 = .ok (.ireturn, 1) := by decide +kernel
theorem dL_law_537 : decode cL_law 537 = .ok (.aload_n 1, 1) := by decide +kernel
theorem dL_law_538 : decode cL_law 538 = .ok (.aload_n 0, 1) := by decide +kernel
theorem dL_law_539 : decode cL_law 539 = .ok (.iload_n 3, 1) := by decide +kernel
theorem dL_law_540 : decode cL_law 540 = .ok (.iconst 1, 1) := by decide +kernel
theorem dL_law_541 : decode cL_law 541 = .ok (.iadd, 1) := by decide +kernel
theorem dL_law_542 : decode cL_law 542 = .ok (.iaload, 1) := by decide +kernel
theorem dL_law_543 : decode cL_law 543 = .ok (.aload_n 0, 1) := by decide +kernel
theorem dL_law_544 : decode cL_law 544 = .ok (.iload_n 3, 1) := by decide +kernel
theorem dL_law_545 : decode cL_law 545 = .ok (.iconst 2, 1) := by decide +kernel
theorem dL_law_546 : decode cL_law 546 = .ok (.iadd, 1) := by decide +kernel
theorem dL_law_547 : decode cL_law 547 = .ok (.iaload, 1) := by decide +kernel
theorem dL_law_548 : decode cL_law 548 = .ok (.aload_n 0, 1) := by decide +kernel
theorem dL_law_549 : decode cL_law 549 = .ok (.iload_n 3, 1) := by decide +kernel
theorem dL_law_550 : decode cL_law 550 = .ok (.iconst 3, 1) := by decide +kernel
theorem dL_law_551 : decode cL_law 551 = .ok (.iadd, 1) := by decide +kernel
theorem dL_law_552 : decode cL_law 552 = .ok (.iaload, 1) := by decide +kernel
theorem dL_law_553 : decode cL_law 553 = .ok (.invokevirtual 79, 3) := by decide +kernel
theorem dL_law_556 : decode cL_law 556 = .ok (.aload_n 2, 1) := by decide +kernel
theorem dL_law_557 : decode cL_law 557 = .ok (.aload_n 0, 1) := by decide +kernel
theorem dL_law_558 : decode cL_law 558 = .ok (.iload_n 3, 1) := by decide +kernel
theorem dL_law_559 : decode cL_law 559 = .ok (.iconst 1, 1) := by decide +kernel
theorem dL_law_560 : decode cL_law 560 = .ok (.iadd, 1) := by decide +kernel
theorem dL_law_561 : decode cL_law 561 = .ok (.iaload, 1) := by decide +kernel
theorem dL_law_562 : decode cL_law 562 = .ok (.aload_n 0, 1) := by decide +kernel
theorem dL_law_563 : decode cL_law 563 = .ok (.iload_n 3, 1) := by decide +kernel
theorem dL_law_564 : decode cL_law 564 = .ok (.iconst 2, 1) := by decide +kernel
theorem dL_law_565 : decode cL_law 565 = .ok (.iadd, 1) := by decide +kernel
theorem dL_law_566 : decode cL_law 566 = .ok (.iaload, 1) := by decide +kernel
theorem dL_law_567 : decode cL_law 567 = .ok (.aload_n 0, 1) := by decide +kernel
theorem dL_law_568 : decode cL_law 568 = .ok (.iload_n 3, 1) := by decide +kernel
theorem dL_law_569 : decode cL_law 569 = .ok (.iconst 3, 1) := by decide +kernel
theorem dL_law_570 : decode cL_law 570 = .ok (.iadd, 1) := by decide +kernel
theorem dL_law_571 : decode cL_law 571 = .ok (.iaload, 1) := by decide +kernel
theorem dL_law_572 : decode cL_law 572 = .ok (.invokevirtual 82, 3) := by decide +kernel
theorem dL_law_575 : decode cL_law 575 = .ok (.if_icmp .eq 189, 3) := by decide +kernel
theorem dL_law_578 : decode cL_law 578 = .ok (.iconst 0, 1) := by decide +kernel
theorem dL_law_579 : decode cL_law 579 = .ok (.ireturn, 1) := by decide +kernel
theorem dL_law_580 : decode cL_law 580 = .ok (.aload_n 1, 1) := by decide +kernel
theorem dL_law_581 : decode cL_law 581 = .ok (.aload_n 0, 1) := by decide +kernel
theorem dL_law_582 : decode cL_law 582 = .ok (.iload_n 3, 1) := by decide +kernel
theorem dL_law_583 : decode cL_law 583 = .ok (.iconst 1, 1) := by decide +kernel
theorem dL_law_584 : decode cL_law 584 = .ok (.iadd, 1) := by decide +kernel
theorem dL_law_585 : decode cL_law 585 = .ok (.iaload, 1) := by decide +kernel
theorem dL_law_586 : decode cL_law 586 = .ok (.invokevirtual 83, 3) := by decide +kernel
theorem dL_law_589 : decode cL_law 589 = .ok (.aload_n 2, 1) := by decide +kernel
theorem dL_law_590 : decode cL_law 590 = .ok (.aload_n 0, 1) := by decide +kernel
theorem dL_law_591 : decode cL_law 591 = .ok (.iload_n 3, 1) := by decide +kernel
theorem dL_law_592 : decode cL_law 592 = .ok (.iconst 1, 1) := by decide +kernel
theorem dL_law_593 : decode cL_law 593 = .ok (.iadd, 1) := by decide +kernel
theorem dL_law_594 : decode cL_law 594 = .ok (.iaload, 1) := by decide +kernel
theorem dL_law_595 : decode cL_law 595 = .ok (.invokevirtual 86, 3) := by decide +kernel
theorem dL_law_598 : decode cL_law 598 = .ok (.if_icmp .eq 166, 3) := by decide +kernel
theorem dL_law_601 : decode cL_law 601 = .ok (.iconst 0, 1) := by decide +kernel
theorem dL_law_602 : decode cL_law 602 = .ok (.ireturn, 1) := by decide +kernel
theorem dL_law_603 : decode cL_law 603 = .ok (.aload_n 1, 1) := by decide +kernel
theorem dL_law_604 : decode cL_law 604 = .ok (.aload_n 0, 1) := by decide +kernel
theorem dL_law_605 : decode cL_law 605 = .ok (.iload_n 3, 1) := by decide +kernel
theorem dL_law_606 : decode cL_law 606 = .ok (.iconst 1, 1) := by decide +kernel
theorem dL_law_607 : decode cL_law 607 = .ok (.iadd, 1) := by decide +kernel
theorem dL_law_608 : decode cL_law 608 = .ok (.iaload, 1) := by decide +kernel
theorem dL_law_609 : decode cL_law 609 = .ok (.invokevirtual 87, 3) := by decide +kernel
theorem dL_law_612 : decode cL_law 612 = .ok (.aload_n 2, 1) := by decide +kernel
theorem dL_law_613 : decode cL_law 613 = .ok (.aload_n 0, 1) := by decide +kernel
theorem dL_law_614 : decode cL_law 614 = .ok (.iload_n 3, 1) := by decide +kernel
theorem dL_law_615 : decode cL_law 615 = .ok (.iconst 1, 1) := by decide +kernel
theorem dL_law_616 : decode cL_law 616 = .ok (.iadd, 1) := by decide +kernel
theorem dL_law_617 : decode cL_law 617 = .ok (.iaload, 1) := by decide +kernel
theorem dL_law_618 : decode cL_law 618 = .ok (.invokevirtual 90, 3) := by decide +kernel
theorem dL_law_621 : decode cL_law 621 = .ok (.if_icmp .eq 143, 3) := by decide +kernel
theorem dL_law_624 : decode cL_law 624 = .ok (.iconst 0, 1) := by decide +kernel
theorem dL_law_625 : decode cL_law 625 = .ok (.ireturn, 1) := by decide +kernel
theorem dL_law_626 : decode cL_law 626 = .ok (.aload_n 1, 1) := by decide +kernel
theorem dL_law_627 : decode cL_law 627 = .ok (.aload_n 0, 1) := by decide +kernel
theorem dL_law_628 : decode cL_law 628 = .ok (.iload_n 3, 1) := by decide +kernel
theorem dL_law_629 : decode cL_law 629 = .ok (.iconst 1, 1) := by decide +kernel
theorem dL_law_630 : decode cL_law 630 = .ok (.iadd, 1) := by decide +kernel
theorem dL_law_631 : decode cL_law 631 = .ok (.iaload, 1) := by decide +kernel
theorem dL_law_632 : decode cL_law 632 = .ok (.invokevirtual 91, 3) := by decide +kernel
theorem dL_law_635 : decode cL_law 635 = .ok (.aload_n 2, 1) := by decide +kernel
theorem dL_law_636 : decode cL_law 636 = .ok (.aload_n 0, 1) := by decide +kernel
theorem dL_law_637 : decode cL_law 637 = .ok (.iload_n 3, 1) := by decide +kernel
theorem dL_law_638 : decode cL_law 638 = .ok (.iconst 1, 1) := by decide +kernel
theorem dL_law_639 : decode cL_law 639 = .ok (.iadd, 1) := by decide +kernel
theorem dL_law_640 : decode cL_law 640 = .ok (.iaload, 1) := by decide +kernel
theorem dL_law_641 : decode cL_law 641 = .ok (.invokevirtual 94, 3) := by decide +kernel
theorem dL_law_644 : decode cL_law 644 = .ok (.if_icmp .eq 120, 3) := by decide +kernel
theorem dL_law_647 : decode cL_law 647 = .ok (.iconst 0, 1) := by decide +kernel
theorem dL_law_648 : decode cL_law 648 = .ok (.ireturn, 1) := by decide +kernel
theorem dL_law_649 : decode cL_law 649 = .ok (.aload_n 1, 1) := by decide +kernel
theorem dL_law_650 : decode cL_law 650 = .ok (.aload_n 0, 1) := by decide +kernel
theorem dL_law_651 : decode cL_law 651 = .ok (.iload_n 3, 1) := by decide +kernel
theorem dL_law_652 : decode cL_law 652 = .ok (.iconst 1, 1) := by decide +kernel
theorem dL_law_653 : decode cL_law 653 = .ok (.iadd, 1) := by decide +kernel
theorem dL_law_654 : decode cL_law 654 = .ok (.iaload, 1) := by decide +kernel
theorem dL_law_655 : decode cL_law 655 = .ok (.invokevirtual 95, 3) := by decide +kernel
theorem dL_law_658 : decode cL_law 658 = .ok (.aload_n 2, 1) := by decide +kernel
theorem dL_law_659 : decode cL_law 659 = .ok (.aload_n 0, 1) := by decide +kernel
theorem dL_law_660 : decode cL_law 660 = .ok (.iload_n 3, 1) := by decide +kernel
theorem dL_law_661 : decode cL_law 661 = .ok (.iconst 1, 1) := by decide +kernel
theorem dL_law_662 : decode cL_law 662 = .ok (.iadd, 1) := by decide +kernel
theorem dL_law_663 : decode cL_law 663 = .ok (.iaload, 1) := by decide +kernel
theorem dL_law_664 : decode cL_law 664 = .ok (.invokevirtual 98, 3) := by decide +kernel
theorem dL_law_667 : decode cL_law 667 = .ok (.if_icmp .eq 97, 3) := by decide +kernel
theorem dL_law_670 : decode cL_law 670 = .ok (.iconst 0, 1) := by decide +kernel
theorem dL_law_671 : decode cL_law 671 = .ok (.ireturn, 1) := by decide +kernel
theorem dL_law_672 : decode cL_law 672 = .ok (.aload_n 1, 1) := by decide +kernel
theorem dL_law_673 : decode cL_law 673 = .ok (.aload_n 0, 1) := by decide +kernel
theorem dL_law_674 : decode cL_law 674 = .ok (.iload_n 3, 1) := by decide +kernel
theorem dL_law_675 : decode cL_law 675 = .ok (.iconst 1, 1) := by decide +kernel
theorem dL_law_676 : decode cL_law 676 = .ok (.iadd, 1) := by decide +kernel
theorem dL_law_677 : decode cL_law 677 = .ok (.iaload, 1) := by decide +kernel
theorem dL_law_678 : decode cL_law 678 = .ok (.invokevirtual 99, 3) := by decide +kernel
theorem dL_law_681 : decode cL_law 681 = .ok (.aload_n 2, 1) := by decide +kernel
theorem dL_law_682 : decode cL_law 682 = .ok (.aload_n 0, 1) := by decide +kernel
theorem dL_law_683 : decode cL_law 683 = .ok (.iload_n 3, 1) := by decide +kernel
theorem dL_law_684 : decode cL_law 684 = .ok (.iconst 1, 1) := by decide +kernel
theorem dL_law_685 : decode cL_law 685 = .ok (.iadd, 1) := by decide +kernel
theorem dL_law_686 : decode cL_law 686 = .ok (.iaload, 1) := by decide +kernel
theorem dL_law_687 : decode cL_law 687 = .ok (.invokevirtual 102, 3) := by decide +kernel
theorem dL_law_690 : decode cL_law 690 = .ok (.if_icmp .eq 74, 3) := by decide +kernel
theorem dL_law_693 : decode cL_law 693 = .ok (.iconst 0, 1) := by decide +kernel
theorem dL_law_694 : decode cL_law 694 = .ok (.ireturn, 1) := by decide +kernel
theorem dL_law_695 : decode cL_law 695 = .ok (.aload_n 1, 1) := by decide +kernel
theorem dL_law_696 : decode cL_law 696 = .ok (.invokevirtual 103, 3) := by decide +kernel
theorem dL_law_699 : decode cL_law 699 = .ok (.aload_n 2, 1) := by decide +kernel
theorem dL_law_700 : decode cL_law 700 = .ok (.invokevirtual 106, 3) := by decide +kernel
theorem dL_law_703 : decode cL_law 703 = .ok (.if_icmp .eq 61, 3) := by decide +kernel
theorem dL_law_706 : decode cL_law 706 = .ok (.iconst 0, 1) := by decide +kernel
theorem dL_law_707 : decode cL_law 707 = .ok (.ireturn, 1) := by decide +kernel
theorem dL_law_708 : decode cL_law 708 = .ok (.aload_n 1, 1) := by decide +kernel
theorem dL_law_709 : decode cL_law 709 = .ok (.aload_n 0, 1) := by decide +kernel
theorem dL_law_710 : decode cL_law 710 = .ok (.iload_n 3, 1) := by decide +kernel
theorem dL_law_711 : decode cL_law 711 = .ok (.iconst 1, 1) := by decide +kernel
theorem dL_law_712 : decode cL_law 712 = .ok (.iadd, 1) := by decide +kernel
theorem dL_law_713 : decode cL_law 713 = .ok (.iaload, 1) := by decide +kernel
theorem dL_law_714 : decode cL_law 714 = .ok (.aload_n 0, 1) := by decide +kernel
theorem dL_law_715 : decode cL_law 715 = .ok (.iload_n 3, 1) := by decide +kernel
theorem dL_law_716 : decode cL_law 716 = .ok (.iconst 2, 1) := by decide +kernel
theorem dL_law_717 : decode cL_law 717 = .ok (.iadd, 1) := by decide +kernel
theorem dL_law_718 : decode cL_law 718 = .ok (.iaload, 1) := by decide +kernel
theorem dL_law_719 : decode cL_law 719 = .ok (.invokevirtual 107, 3) := by decide +kernel
theorem dL_law_722 : decode cL_law 722 = .ok (.aload_n 2, 1) := by decide +kernel
theorem dL_law_723 : decode cL_law 723 = .ok (.aload_n 0, 1) := by decide +kernel
theorem dL_law_724 : decode cL_law 724 = .ok (.iload_n 3, 1) := by decide +kernel
theorem dL_law_725 : decode cL_law 725 = .ok (.iconst 1, 1) := by decide +kernel
theorem dL_law_726 : decode cL_law 726 = .ok (.iadd, 1) := by decide +kernel
theorem dL_law_727 : decode cL_law 727 = .ok (.iaload, 1) := by decide +kernel
theorem dL_law_728 : decode cL_law 728 = .ok (.aload_n 0, 1) := by decide +kernel
theorem dL_law_729 : decode cL_law 729 = .ok (.iload_n 3, 1) := by decide +kernel
theorem dL_law_730 : decode cL_law 730 = .ok (.iconst 2, 1) := by decide +kernel
theorem dL_law_731 : decode cL_law 731 = .ok (.iadd, 1) := by decide +kernel
theorem dL_law_732 : decode cL_law 732 = .ok (.iaload, 1) := by decide +kernel
theorem dL_law_733 : decode cL_law 733 = .ok (.invokevirtual 110, 3) := by decide +kernel
theorem dL_law_736 : decode cL_law 736 = .ok (.if_icmp .eq 28, 3) := by decide +kernel
theorem dL_law_739 : decode cL_law 739 = .ok (.iconst 0, 1) := by decide +kernel
theorem dL_law_740 : decode cL_law 740 = .ok (.ireturn, 1) := by decide +kernel
theorem dL_law_741 : decode cL_law 741 = .ok (.aload_n 1, 1) := by decide +kernel
theorem dL_law_742 : decode cL_law 742 = .ok (.aload_n 0, 1) := by decide +kernel
theorem dL_law_743 : decode cL_law 743 = .ok (.iload_n 3, 1) := by decide +kernel
theorem dL_law_744 : decode cL_law 744 = .ok (.iconst 1, 1) := by decide +kernel
theorem dL_law_745 : decode cL_law 745 = .ok (.iadd, 1) := by decide +kernel
theorem dL_law_746 : decode cL_law 746 = .ok (.iaload, 1) := by decide +kernel
theorem dL_law_747 : decode cL_law 747 = .ok (.invokevirtual 111, 3) := by decide +kernel
theorem dL_law_750 : decode cL_law 750 = .ok (.aload_n 2, 1) := by decide +kernel
theorem dL_law_751 : decode cL_law 751 = .ok (.aload_n 0, 1) := by decide +kernel
theorem dL_law_752 : decode cL_law 752 = .ok (.iload_n 3, 1) := by decide +kernel
theorem dL_law_753 : decode cL_law 753 = .ok (.iconst 1, 1) := by decide +kernel
theorem dL_law_754 : decode cL_law 754 = .ok (.iadd, 1) := by decide +kernel
theorem dL_law_755 : decode cL_law 755 = .ok (.iaload, 1) := by decide +kernel
theorem dL_law_756 : decode cL_law 756 = .ok (.invokevirtual 114, 3) := by decide +kernel
theorem dL_law_759 : decode cL_law 759 = .ok (.if_icmp .eq 5, 3) := by decide +kernel
theorem dL_law_762 : decode cL_law 762 = .ok (.iconst 0, 1) := by decide +kernel
theorem dL_law_763 : decode cL_law 763 = .ok (.ireturn, 1) := by decide +kernel
theorem dL_law_764 : decode cL_law 764 = .ok (.iinc 3 4, 3) := by decide +kernel
theorem dL_law_767 : decode cL_law 767 = .ok (.goto (-749), 3) := by decide +kernel
theorem dL_law_770 : decode cL_law 770 = .ok (.iconst 1, 1) := by decide +kernel
theorem dL_law_771 : decode cL_law 771 = .ok (.ireturn, 1) := by decide +kernel
