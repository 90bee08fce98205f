theorem dX0_init_0 : decode cX0_init 0 = .ok (.aload_n 0, 1) := by decide +kernel
theorem dX0_init_1 : decode cX0_init 1 = .ok (.invokespecial 3, 3) := by decide +kernel
theorem dX0_init_4 : decode cX0_init 4 = .ok (.aload_n 0, 1) := by decide +kernel
theorem dX0_init_5 : decode cX0_init 5 = .ok (.bipush 8, 2) := by decide +kernel
theorem dX0_init_7 : decode cX0_init 7 = .ok (.newarray .int, 2) := by decide +kernel
theorem dX0_init_9 : decode cX0_init 9 = .ok (.putfield 9, 3) := by decide +kernel
theorem dX0_init_12 : decode cX0_init 12 = .ok (.aload_n 0, 1) := by decide +kernel
theorem dX0_init_13 : decode cX0_init 13 = .ok (.iconst 0, 1) := by decide +kernel
theorem dX0_init_14 : decode cX0_init 14 = .ok (.putfield 15, 3) := by decide +kernel
theorem dX0_init_17 : decode cX0_init 17 = .ok (.aload_n 0, 1) := by decide +kernel
theorem dX0_init_18 : decode cX0_init 18 = .ok (.iconst 0, 1) := by decide +kernel
theorem dX0_init_19 : decode cX0_init 19 = .ok (.putfield 19, 3) := by decide +kernel
theorem dX0_init_22 : decode cX0_init 22 = .ok (.return_, 1) := by decide +kernel
theorem dX0_clear_0 : decode cX0_clear 0 = .ok (.iconst 0, 1) := by decide +kernel
theorem dX0_clear_1 : decode cX0_clear 1 = .ok (.istore_n 1, 1) := by decide +kernel
theorem dX0_clear_2 : decode cX0_clear 2 = .ok (.iload_n 1, 1) := by decide +kernel
theorem dX0_clear_3 : decode cX0_clear 3 = .ok (.bipush 8, 2) := by decide +kernel
theorem dX0_clear_5 : decode cX0_clear 5 = .ok (.if_icmp .ge 16, 3) := by decide +kernel
theorem dX0_clear_8 : decode cX0_clear 8 = .ok (.aload_n 0, 1) := by decide +kernel
theorem dX0_clear_9 : decode cX0_clear 9 = .ok (.getfield 9, 3) := by decide +kernel
theorem dX0_clear_12 : decode cX0_clear 12 = .ok (.iload_n 1, 1) := by decide +kernel
theorem dX0_clear_13 : decode cX0_clear 13 = .ok (.iconst 0, 1) := by decide +kernel
theorem dX0_clear_14 : decode cX0_clear 14 = .ok (.iastore, 1) := by decide +kernel
theorem dX0_clear_15 : decode cX0_clear 15 = .ok (.iinc 1 1, 3) := by decide +kernel
theorem dX0_clear_18 : decode cX0_clear 18 = .ok (.goto (-16), 3) := by decide +kernel
theorem dX0_clear_21 : decode cX0_clear 21 = .ok (.aload_n 0, 1) := by decide +kernel
theorem dX0_clear_22 : decode cX0_clear 22 = .ok (.iconst 0, 1) := by decide +kernel
theorem dX0_clear_23 : decode cX0_clear 23 = .ok (.putfield 15, 3) := by decide +kernel
theorem dX0_clear_26 : decode cX0_clear 26 = .ok (.aload_n 0, 1) := by decide +kernel
theorem dX0_clear_27 : decode cX0_clear 27 = .ok (.iconst 0, 1) := by decide +kernel
theorem dX0_clear_28 : decode cX0_clear 28 = .ok (.putfield 19, 3) := by decide +kernel
theorem dX0_clear_31 : decode cX0_clear 31 = .ok (.return_, 1) := by decide +kernel
theorem dX0_copy_0 : decode cX0_copy 0 = .ok (.aload_n 1, 1) := by decide +kernel
theorem dX0_copy_1 : decode cX0_copy 1 = .ok (.getfield 9, 3) := by decide +kernel
theorem dX0_copy_4 : decode cX0_copy 4 = .ok (.iconst 0, 1) := by decide +kernel
theorem dX0_copy_5 : decode cX0_copy 5 = .ok (.aload_n 0, 1) := by decide +kernel
theorem dX0_copy_6 : decode cX0_copy 6 = .ok (.getfield 9, 3) := by decide +kernel
theorem dX0_copy_9 : decode cX0_copy 9 = .ok (.iconst 0, 1) := by decide +kernel
theorem dX0_copy_10 : decode cX0_copy 10 = .ok (.bipush 8, 2) := by decide +kernel
theorem dX0_copy_12 : decode cX0_copy 12 = .ok (.invokestatic 22, 3) := by decide +kernel
theorem dX0_copy_15 : decode cX0_copy 15 = .ok (.aload_n 0, 1) := by decide +kernel
theorem dX0_copy_16 : decode cX0_copy 16 = .ok (.aload_n 1, 1) := by decide +kernel
theorem dX0_copy_17 : decode cX0_copy 17 = .ok (.getfield 15, 3) := by decide +kernel
theorem dX0_copy_20 : decode cX0_copy 20 = .ok (.putfield 15, 3) := by decide +kernel
theorem dX0_copy_23 : decode cX0_copy 23 = .ok (.aload_n 0, 1) := by decide +kernel
theorem dX0_copy_24 : decode cX0_copy 24 = .ok (.aload_n 1, 1) := by decide +kernel
theorem dX0_copy_25 : decode cX0_copy 25 = .ok (.getfield 19, 3) := by decide +kernel
theorem dX0_copy_28 : decode cX0_copy 28 = .ok (.putfield 19, 3) := by decide +kernel
theorem dX0_copy_31 : decode cX0_copy 31 = .ok (.return_, 1) := by decide +kernel
theorem dX0_sumBy_0 : decode cX0_sumBy 0 = .ok (.iconst 0, 1) := by decide +kernel
theorem dX0_sumBy_1 : decode cX0_sumBy 1 = .ok (.istore_n 2, 1) := by decide +kernel
theorem dX0_sumBy_2 : decode cX0_sumBy 2 = .ok (.iconst 0, 1) := by decide +kernel
theorem dX0_sumBy_3 : decode cX0_sumBy 3 = .ok (.istore_n 3, 1) := by decide +kernel
theorem dX0_sumBy_4 : decode cX0_sumBy 4 = .ok (.iload_n 3, 1) := by decide +kernel
theorem dX0_sumBy_5 : decode cX0_sumBy 5 = .ok (.bipush 8, 2) := by decide +kernel
theorem dX0_sumBy_7 : decode cX0_sumBy 7 = .ok (.if_icmp .ge 22, 3) := by decide +kernel
theorem dX0_sumBy_10 : decode cX0_sumBy 10 = .ok (.iload_n 2, 1) := by decide +kernel
theorem dX0_sumBy_11 : decode cX0_sumBy 11 = .ok (.aload_n 0, 1) := by decide +kernel
theorem dX0_sumBy_12 : decode cX0_sumBy 12 = .ok (.getfield 9, 3) := by decide +kernel
theorem dX0_sumBy_15 : decode cX0_sumBy 15 = .ok (.iload_n 3, 1) := by decide +kernel
theorem dX0_sumBy_16 : decode cX0_sumBy 16 = .ok (.iaload, 1) := by decide +kernel
theorem dX0_sumBy_17 : decode cX0_sumBy 17 = .ok (.aload_n 1, 1) := by decide +kernel
theorem dX0_sumBy_18 : decode cX0_sumBy 18 = .ok (.iload_n 3, 1) := by decide +kernel
theorem dX0_sumBy_19 : decode cX0_sumBy 19 = .ok (.iaload, 1) := by decide +kernel
theorem dX0_sumBy_20 : decode cX0_sumBy 20 = .ok (.imul, 1) := by decide +kernel
theorem dX0_sumBy_21 : decode cX0_sumBy 21 = .ok (.iadd, 1) := by decide +kernel
theorem dX0_sumBy_22 : decode cX0_sumBy 22 = .ok (.istore_n 2, 1) := by decide +kernel
theorem dX0_sumBy_23 : decode cX0_sumBy 23 = .ok (.iinc 3 1, 3) := by decide +kernel
theorem dX0_sumBy_26 : decode cX0_sumBy 26 = .ok (.goto (-22), 3) := by decide +kernel
theorem dX0_sumBy_29 : decode cX0_sumBy 29 = .ok (.iload_n 2, 1) := by decide +kernel
theorem dX0_sumBy_30 : decode cX0_sumBy 30 = .ok (.ireturn, 1) := by decide +kernel
theorem dX0_add_0 : decode cX0_add 0 = .ok (.aload_n 0, 1) := by decide +kernel
theorem dX0_add_1 : decode cX0_add 1 = .ok (.iconst 0, 1) := by decide +kernel
theorem dX0_add_2 : decode cX0_add 2 = .ok (.putfield 15, 3) := by decide +kernel
theorem dX0_add_5 : decode cX0_add 5 = .ok (.iconst 0, 1) := by decide +kernel
theorem dX0_add_6 : decode cX0_add 6 = .ok (.istore_n 2, 1) := by decide +kernel
theorem dX0_add_7 : decode cX0_add 7 = .ok (.iload_n 2, 1) := by decide +kernel
theorem dX0_add_8 : decode cX0_add 8 = .ok (.bipush 8, 2) := by decide +kernel
theorem dX0_add_10 : decode cX0_add 10 = .ok (.if_icmp .ge 24, 3) := by decide +kernel
theorem dX0_add_13 : decode cX0_add 13 = .ok (.aload_n 0, 1) := by decide +kernel
theorem dX0_add_14 : decode cX0_add 14 = .ok (.dup, 1) := by decide +kernel
theorem dX0_add_15 : decode cX0_add 15 = .ok (.getfield 15, 3) := by decide +kernel
theorem dX0_add_18 : decode cX0_add 18 = .ok (.aload_n 0, 1) := by decide +kernel
theorem dX0_add_19 : decode cX0_add 19 = .ok (.getfield 9, 3) := by decide +kernel
theorem dX0_add_22 : decode cX0_add 22 = .ok (.iload_n 2, 1) := by decide +kernel
theorem dX0_add_23 : decode cX0_add 23 = .ok (.iaload, 1) := by decide +kernel
theorem dX0_add_24 : decode cX0_add 24 = .ok (.iadd, 1) := by decide +kernel
theorem dX0_add_25 : decode cX0_add 25 = .ok (.putfield 15, 3) := by decide +kernel
theorem dX0_add_28 : decode cX0_add 28 = .ok (.iinc 2 1, 3) := by decide +kernel
theorem dX0_add_31 : decode cX0_add 31 = .ok (.goto (-24), 3) := by decide +kernel
theorem dX0_add_34 : decode cX0_add 34 = .ok (.aload_n 0, 1) := by decide +kernel
theorem dX0_add_35 : decode cX0_add 35 = .ok (.aload_n 0, 1) := by decide +kernel
theorem dX0_add_36 : decode cX0_add 36 = .ok (.aload_n 1, 1) := by decide +kernel
theorem dX0_add_37 : decode cX0_add 37 = .ok (.invokevirtual 28, 3) := by decide +kernel
theorem dX0_add_40 : decode cX0_add 40 = .ok (.putfield 19, 3) := by decide +kernel
theorem dX0_add_43 : decode cX0_add 43 = .ok (.return_, 1) := by decide +kernel
theorem dX0_step_0 : decode cX0_step 0 = .ok (.bipush 7, 2) := by decide +kernel
theorem dX0_step_2 : decode cX0_step 2 = .ok (.istore 4, 2) := by decide +kernel
theorem dX0_step_4 : decode cX0_step 4 = .ok (.iload 4, 2) := by decide +kernel
theorem dX0_step_6 : decode cX0_step 6 = .ok (.ifCond .lt 112, 3) := by decide +kernel
theorem dX0_step_9 : decode cX0_step 9 = .ok (.aload_n 0, 1) := by decide +kernel
theorem dX0_step_10 : decode cX0_step 10 = .ok (.getfield 9, 3) := by decide +kernel
theorem dX0_step_13 : decode cX0_step 13 = .ok (.iload 4, 2) := by decide +kernel
theorem dX0_step_15 : decode cX0_step 15 = .ok (.iaload, 1) := by decide +kernel
theorem dX0_step_16 : decode cX0_step 16 = .ok (.aload_n 1, 1) := by decide +kernel
theorem dX0_step_17 : decode cX0_step 17 = .ok (.iload 4, 2) := by decide +kernel
theorem dX0_step_19 : decode cX0_step 19 = .ok (.iaload, 1) := by decide +kernel
theorem dX0_step_20 : decode cX0_step 20 = .ok (.if_icmp .ge 47, 3) := by decide +kernel
theorem dX0_step_23 : decode cX0_step 23 = .ok (.aload_n 0, 1) := by decide +kernel
theorem dX0_step_24 : decode cX0_step 24 = .ok (.getfield 15, 3) := by decide +kernel
theorem dX0_step_27 : decode cX0_step 27 = .ok (.iload_n 2, 1) := by decide +kernel
theorem dX0_step_28 : decode cX0_step 28 = .ok (.if_icmp .ge 39, 3) := by decide +kernel
theorem dX0_step_31 : decode cX0_step 31 = .ok (.aload_n 0, 1) := by decide +kernel
theorem dX0_step_32 : decode cX0_step 32 = .ok (.getfield 9, 3) := by decide +kernel
theorem dX0_step_35 : decode cX0_step 35 = .ok (.iload 4, 2) := by decide +kernel
theorem dX0_step_37 : decode cX0_step 37 = .ok (.dup2, 1) := by decide +kernel
theorem dX0_step_38 : decode cX0_step 38 = .ok (.iaload, 1) := by decide +kernel
theorem dX0_step_39 : decode cX0_step 39 = .ok (.iconst 1, 1) := by decide +kernel
theorem dX0_step_40 : decode cX0_step 40 = .ok (.iadd, 1) := by decide +kernel
theorem dX0_step_41 : decode cX0_step 41 = .ok (.iastore, 1) := by decide +kernel
theorem dX0_step_42 : decode cX0_step 42 = .ok (.aload_n 0, 1) := by decide +kernel
theorem dX0_step_43 : decode cX0_step 43 = .ok (.dup, 1) := by decide +kernel
theorem dX0_step_44 : decode cX0_step 44 = .ok (.getfield 15, 3) := by decide +kernel
theorem dX0_step_47 : decode cX0_step 47 = .ok (.iconst 1, 1) := by decide +kernel
theorem dX0_step_48 : decode cX0_step 48 = .ok (.iadd, 1) := by decide +kernel
theorem dX0_step_49 : decode cX0_step 49 = .ok (.putfield 15, 3) := by decide +kernel
theorem dX0_step_52 : decode cX0_step 52 = .ok (.aload_n 0, 1) := by decide +kernel
theorem dX0_step_53 : decode cX0_step 53 = .ok (.dup, 1) := by decide +kernel
theorem dX0_step_54 : decode cX0_step 54 = .ok (.getfield 19, 3) := by decide +kernel
theorem dX0_step_57 : decode cX0_step 57 = .ok (.aload_n 3, 1) := by decide +kernel
theorem dX0_step_58 : decode cX0_step 58 = .ok (.iload 4, 2) := by decide +kernel
theorem dX0_step_60 : decode cX0_step 60 = .ok (.iaload, 1) := by decide +kernel
theorem dX0_step_61 : decode cX0_step 61 = .ok (.iadd, 1) := by decide +kernel
theorem dX0_step_62 : decode cX0_step 62 = .ok (.putfield 19, 3) := by decide +kernel
theorem dX0_step_65 : decode cX0_step 65 = .ok (.iconst 1, 1) := by decide +kernel
theorem dX0_step_66 : decode cX0_step 66 = .ok (.ireturn, 1) := by decide +kernel
theorem dX0_step_67 : decode cX0_step 67 = .ok (.aload_n 0, 1) := by decide +kernel
theorem dX0_step_68 : decode cX0_step 68 = .ok (.dup, 1) := by decide +kernel
theorem dX0_step_69 : decode cX0_step 69 = .ok (.getfield 15, 3) := by decide +kernel
theorem dX0_step_72 : decode cX0_step 72 = .ok (.aload_n 0, 1) := by decide +kernel
theorem dX0_step_73 : decode cX0_step 73 = .ok (.getfield 9, 3) := by decide +kernel
theorem dX0_step_76 : decode cX0_step 76 = .ok (.iload 4, 2) := by decide +kernel
theorem dX0_step_78 : decode cX0_step 78 = .ok (.iaload, 1) := by decide +kernel
theorem dX0_step_79 : decode cX0_step 79 = .ok (.isub, 1) := by decide +kernel
theorem dX0_step_80 : decode cX0_step 80 = .ok (.putfield 15, 3) := by decide +kernel
theorem dX0_step_83 : decode cX0_step 83 = .ok (.aload_n 0, 1) := by decide +kernel
theorem dX0_step_84 : decode cX0_step 84 = .ok (.dup, 1) := by decide +kernel
theorem dX0_step_85 : decode cX0_step 85 = .ok (.getfield 19, 3) := by decide +kernel
theorem dX0_step_88 : decode cX0_step 88 = .ok (.aload_n 0, 1) := by decide +kernel
theorem dX0_step_89 : decode cX0_step 89 = .ok (.getfield 9, 3) := by decide +kernel
theorem dX0_step_92 : decode cX0_step 92 = .ok (.iload 4, 2) := by decide +kernel
theorem dX0_step_94 : decode cX0_step 94 = .ok (.iaload, 1) := by decide +kernel
theorem dX0_step_95 : decode cX0_step 95 = .ok (.aload_n 3, 1) := by decide +kernel
theorem dX0_step_96 : decode cX0_step 96 = .ok (.iload 4, 2) := by decide +kernel
theorem dX0_step_98 : decode cX0_step 98 = .ok (.iaload, 1) := by decide +kernel
theorem dX0_step_99 : decode cX0_step 99 = .ok (.imul, 1) := by decide +kernel
theorem dX0_step_100 : decode cX0_step 100 = .ok (.isub, 1) := by decide +kernel
theorem dX0_step_101 : decode cX0_step 101 = .ok (.putfield 19, 3) := by decide +kernel
theorem dX0_step_104 : decode cX0_step 104 = .ok (.aload_n 0, 1) := by decide +kernel
theorem dX0_step_105 : decode cX0_step 105 = .ok (.getfield 9, 3) := by decide +kernel
theorem dX0_step_108 : decode cX0_step 108 = .ok (.iload 4, 2) := by decide +kernel
theorem dX0_step_110 : decode cX0_step 110 = .ok (.iconst 0, 1) := by decide +kernel
theorem dX0_step_111 : decode cX0_step 111 = .ok (.iastore, 1) := by decide +kernel
theorem dX0_step_112 : decode cX0_step 112 = .ok (.iinc 4 (-1), 3) := by decide +kernel
theorem dX0_step_115 : decode cX0_step 115 = .ok (.goto (-111), 3) := by decide +kernel
theorem dX0_step_118 : decode cX0_step 118 = .ok (.iconst 0, 1) := by decide +kernel
theorem dX0_step_119 : decode cX0_step 119 = .ok (.ireturn, 1) := by decide +kernel
theorem dX0_rowAsNumber_0 : decode cX0_rowAsNumber 0 = .ok (.iconst 0, 1) := by decide +kernel
theorem dX0_rowAsNumber_1 : decode cX0_rowAsNumber 1 = .ok (.istore_n 1, 1) := by decide +kernel
theorem dX0_rowAsNumber_2 : decode cX0_rowAsNumber 2 = .ok (.iconst 0, 1) := by decide +kernel
theorem dX0_rowAsNumber_3 : decode cX0_rowAsNumber 3 = .ok (.istore_n 2, 1) := by decide +kernel
theorem dX0_rowAsNumber_4 : decode cX0_rowAsNumber 4 = .ok (.iload_n 2, 1) := by decide +kernel
theorem dX0_rowAsNumber_5 : decode cX0_rowAsNumber 5 = .ok (.bipush 8, 2) := by decide +kernel
theorem dX0_rowAsNumber_7 : decode cX0_rowAsNumber 7 = .ok (.if_icmp .ge 21, 3) := by decide +kernel
theorem dX0_rowAsNumber_10 : decode cX0_rowAsNumber 10 = .ok (.bipush 10, 2) := by decide +kernel
theorem dX0_rowAsNumber_12 : decode cX0_rowAsNumber 12 = .ok (.iload_n 1, 1) := by decide +kernel
theorem dX0_rowAsNumber_13 : decode cX0_rowAsNumber 13 = .ok (.imul, 1) := by decide +kernel
theorem dX0_rowAsNumber_14 : decode cX0_rowAsNumber 14 = .ok (.aload_n 0, 1) := by decide +kernel
theorem dX0_rowAsNumber_15 : decode cX0_rowAsNumber 15 = .ok (.getfield 9, 3) := by decide +kernel
theorem dX0_rowAsNumber_18 : decode cX0_rowAsNumber 18 = .ok (.iload_n 2, 1) := by decide +kernel
theorem dX0_rowAsNumber_19 : decode cX0_rowAsNumber 19 = .ok (.iaload, 1) := by decide +kernel
theorem dX0_rowAsNumber_20 : decode cX0_rowAsNumber 20 = .ok (.iadd, 1) := by decide +kernel
theorem dX0_rowAsNumber_21 : decode cX0_rowAsNumber 21 = .ok (.istore_n 1, 1) := by decide +kernel
theorem dX0_rowAsNumber_22 : decode cX0_rowAsNumber 22 = .ok (.iinc 2 1, 3) := by decide +kernel
theorem dX0_rowAsNumber_25 : decode cX0_rowAsNumber 25 = .ok (.goto (-21), 3) := by decide +kernel
theorem dX0_rowAsNumber_28 : decode cX0_rowAsNumber 28 = .ok (.iload_n 1, 1) := by decide +kernel
theorem dX0_rowAsNumber_29 : decode cX0_rowAsNumber 29 = .ok (.ireturn, 1) := by decide +kernel
theorem dX1_init_0 : decode cX1_init 0 = .ok (.aload_n 0, 1) := by decide +kernel
theorem dX1_init_1 : decode cX1_init 1 = .ok (.iload_n 1, 1) := by decide +kernel
theorem dX1_init_2 : decode cX1_init 2 = .ok (.iload_n 2, 1) := by decide +kernel
theorem dX1_init_3 : decode cX1_init 3 = .ok (.invokespecial 1, 3) := by decide +kernel
theorem dX1_init_6 : decode cX1_init 6 = .ok (.return_, 1) := by decide +kernel
theorem dX1_kind_0 : decode cX1_kind 0 = .ok (.iconst 3, 1) := by decide +kernel
theorem dX1_kind_1 : decode cX1_kind 1 = .ok (.ireturn, 1) := by decide +kernel
theorem dX1_isOf_0 : decode cX1_isOf 0 = .ok (.iload_n 1, 1) := by decide +kernel
theorem dX1_isOf_1 : decode cX1_isOf 1 = .ok (.iconst 3, 1) := by decide +kernel
theorem dX1_isOf_2 : decode cX1_isOf 2 = .ok (.if_icmp .eq 11, 3) := by decide +kernel
theorem dX1_isOf_5 : decode cX1_isOf 5 = .ok (.aload_n 0, 1) := by decide +kernel
theorem dX1_isOf_6 : decode cX1_isOf 6 = .ok (.iload_n 1, 1) := by decide +kernel
theorem dX1_isOf_7 : decode cX1_isOf 7 = .ok (.invokespecial 7, 3) := by decide +kernel
theorem dX1_isOf_10 : decode cX1_isOf 10 = .ok (.ifCond .eq 7, 3) := by decide +kernel
theorem dX1_isOf_13 : decode cX1_isOf 13 = .ok (.iconst 1, 1) := by decide +kernel
theorem dX1_isOf_14 : decode cX1_isOf 14 = .ok (.goto 4, 3) := by decide +kernel
theorem dX1_isOf_17 : decode cX1_isOf 17 = .ok (.iconst 0, 1) := by decide +kernel
theorem dX1_isOf_18 : decode cX1_isOf 18 = .ok (.ireturn, 1) := by decide +kernel
theorem dX1_due_0 : decode cX1_due 0 = .ok (.iload_n 1, 1) := by decide +kernel
theorem dX1_due_1 : decode cX1_due 1 = .ok (.aload_n 0, 1) := by decide +kernel
theorem dX1_due_2 : decode cX1_due 2 = .ok (.getfield 11, 3) := by decide +kernel
theorem dX1_due_5 : decode cX1_due 5 = .ok (.iadd, 1) := by decide +kernel
theorem dX1_due_6 : decode cX1_due 6 = .ok (.bipush 10, 2) := by decide +kernel
theorem dX1_due_8 : decode cX1_due 8 = .ok (.invokestatic 17, 3) := by decide +kernel
theorem dX1_due_11 : decode cX1_due 11 = .ok (.ireturn, 1) := by decide +kernel
theorem dX1_gives_0 : decode cX1_gives 0 = .ok (.aload_n 1, 1) := by decide +kernel
theorem dX1_gives_1 : decode cX1_gives 1 = .ok (.bipush 40, 2) := by decide +kernel
theorem dX1_gives_3 : decode cX1_gives 3 = .ok (.invokevirtual 23, 3) := by decide +kernel
theorem dX1_gives_6 : decode cX1_gives 6 = .ok (.aload_n 0, 1) := by decide +kernel
theorem dX1_gives_7 : decode cX1_gives 7 = .ok (.aload_n 1, 1) := by decide +kernel
theorem dX1_gives_8 : decode cX1_gives 8 = .ok (.iload_n 2, 1) := by decide +kernel
theorem dX1_gives_9 : decode cX1_gives 9 = .ok (.iconst 2, 1) := by decide +kernel
theorem dX1_gives_10 : decode cX1_gives 10 = .ok (.idiv, 1) := by decide +kernel
theorem dX1_gives_11 : decode cX1_gives 11 = .ok (.invokespecial 29, 3) := by decide +kernel
theorem dX1_gives_14 : decode cX1_gives 14 = .ok (.ireturn, 1) := by decide +kernel
theorem dX2_init_0 : decode cX2_init 0 = .ok (.aload_n 0, 1) := by decide +kernel
theorem dX2_init_1 : decode cX2_init 1 = .ok (.iload_n 1, 1) := by decide +kernel
theorem dX2_init_2 : decode cX2_init 2 = .ok (.iload_n 2, 1) := by decide +kernel
theorem dX2_init_3 : decode cX2_init 3 = .ok (.invokespecial 1, 3) := by decide +kernel
theorem dX2_init_6 : decode cX2_init 6 = .ok (.return_, 1) := by decide +kernel
theorem dX2_kind_0 : decode cX2_kind 0 = .ok (.iconst 5, 1) := by decide +kernel
theorem dX2_kind_1 : decode cX2_kind 1 = .ok (.ireturn, 1) := by decide +kernel
theorem dX2_isOf_0 : decode cX2_isOf 0 = .ok (.iload_n 1, 1) := by decide +kernel
theorem dX2_isOf_1 : decode cX2_isOf 1 = .ok (.iconst 5, 1) := by decide +kernel
theorem dX2_isOf_2 : decode cX2_isOf 2 = .ok (.if_icmp .eq 11, 3) := by decide +kernel
theorem dX2_isOf_5 : decode cX2_isOf 5 = .ok (.aload_n 0, 1) := by decide +kernel
theorem dX2_isOf_6 : decode cX2_isOf 6 = .ok (.iload_n 1, 1) := by decide +kernel
theorem dX2_isOf_7 : decode cX2_isOf 7 = .ok (.invokespecial 7, 3) := by decide +kernel
theorem dX2_isOf_10 : decode cX2_isOf 10 = .ok (.ifCond .eq 7, 3) := by decide +kernel
theorem dX2_isOf_13 : decode cX2_isOf 13 = .ok (.iconst 1, 1) := by decide +kernel
theorem dX2_isOf_14 : decode cX2_isOf 14 = .ok (.goto 4, 3) := by decide +kernel
theorem dX2_isOf_17 : decode cX2_isOf 17 = .ok (.iconst 0, 1) := by decide +kernel
theorem dX2_isOf_18 : decode cX2_isOf 18 = .ok (.ireturn, 1) := by decide +kernel
theorem dX2_due_0 : decode cX2_due 0 = .ok (.aload_n 0, 1) := by decide +kernel
theorem dX2_due_1 : decode cX2_due 1 = .ok (.getfield 11, 3) := by decide +kernel
theorem dX2_due_4 : decode cX2_due 4 = .ok (.aload_n 0, 1) := by decide +kernel
theorem dX2_due_5 : decode cX2_due 5 = .ok (.iload_n 1, 1) := by decide +kernel
theorem dX2_due_6 : decode cX2_due 6 = .ok (.iload_n 2, 1) := by decide +kernel
theorem dX2_due_7 : decode cX2_due 7 = .ok (.aload_n 3, 1) := by decide +kernel
theorem dX2_due_8 : decode cX2_due 8 = .ok (.invokespecial 17, 3) := by decide +kernel
theorem dX2_due_11 : decode cX2_due 11 = .ok (.invokestatic 21, 3) := by decide +kernel
theorem dX2_due_14 : decode cX2_due 14 = .ok (.ireturn, 1) := by decide +kernel
theorem dX2_adds_0 : decode cX2_adds 0 = .ok (.aload_n 1, 1) := by decide +kernel
theorem dX2_adds_1 : decode cX2_adds 1 = .ok (.bipush 50, 2) := by decide +kernel
theorem dX2_adds_3 : decode cX2_adds 3 = .ok (.invokevirtual 27, 3) := by decide +kernel
theorem dX2_adds_6 : decode cX2_adds 6 = .ok (.aload_n 0, 1) := by decide +kernel
theorem dX2_adds_7 : decode cX2_adds 7 = .ok (.aload_n 1, 1) := by decide +kernel
theorem dX2_adds_8 : decode cX2_adds 8 = .ok (.iload_n 2, 1) := by decide +kernel
theorem dX2_adds_9 : decode cX2_adds 9 = .ok (.invokespecial 33, 3) := by decide +kernel
theorem dX2_adds_12 : decode cX2_adds 12 = .ok (.iconst 3, 1) := by decide +kernel
theorem dX2_adds_13 : decode cX2_adds 13 = .ok (.imul, 1) := by decide +kernel
theorem dX2_adds_14 : decode cX2_adds 14 = .ok (.ireturn, 1) := by decide +kernel
theorem dX2_gives_0 : decode cX2_gives 0 = .ok (.aload_n 1, 1) := by decide +kernel
theorem dX2_gives_1 : decode cX2_gives 1 = .ok (.bipush 51, 2) := by decide +kernel
theorem dX2_gives_3 : decode cX2_gives 3 = .ok (.invokevirtual 27, 3) := by decide +kernel
theorem dX2_gives_6 : decode cX2_gives 6 = .ok (.aload_n 0, 1) := by decide +kernel
theorem dX2_gives_7 : decode cX2_gives 7 = .ok (.aload_n 1, 1) := by decide +kernel
theorem dX2_gives_8 : decode cX2_gives 8 = .ok (.iload_n 2, 1) := by decide +kernel
theorem dX2_gives_9 : decode cX2_gives 9 = .ok (.invokespecial 37, 3) := by decide +kernel
theorem dX2_gives_12 : decode cX2_gives 12 = .ok (.aload_n 0, 1) := by decide +kernel
theorem dX2_gives_13 : decode cX2_gives 13 = .ok (.getfield 40, 3) := by decide +kernel
theorem dX2_gives_16 : decode cX2_gives 16 = .ok (.ixor, 1) := by decide +kernel
theorem dX2_gives_17 : decode cX2_gives 17 = .ok (.ireturn, 1) := by decide +kernel
theorem dX3_init_0 : decode cX3_init 0 = .ok (.aload_n 0, 1) := by decide +kernel
theorem dX3_init_1 : decode cX3_init 1 = .ok (.iload_n 1, 1) := by decide +kernel
theorem dX3_init_2 : decode cX3_init 2 = .ok (.iload_n 2, 1) := by decide +kernel
theorem dX3_init_3 : decode cX3_init 3 = .ok (.invokespecial 1, 3) := by decide +kernel
theorem dX3_init_6 : decode cX3_init 6 = .ok (.return_, 1) := by decide +kernel
theorem dX3_kind_0 : decode cX3_kind 0 = .ok (.iconst 1, 1) := by decide +kernel
theorem dX3_kind_1 : decode cX3_kind 1 = .ok (.ireturn, 1) := by decide +kernel
theorem dX3_isOf_0 : decode cX3_isOf 0 = .ok (.iload_n 1, 1) := by decide +kernel
theorem dX3_isOf_1 : decode cX3_isOf 1 = .ok (.iconst 1, 1) := by decide +kernel
theorem dX3_isOf_2 : decode cX3_isOf 2 = .ok (.if_icmp .eq 11, 3) := by decide +kernel
theorem dX3_isOf_5 : decode cX3_isOf 5 = .ok (.aload_n 0, 1) := by decide +kernel
theorem dX3_isOf_6 : decode cX3_isOf 6 = .ok (.iload_n 1, 1) := by decide +kernel
theorem dX3_isOf_7 : decode cX3_isOf 7 = .ok (.invokespecial 7, 3) := by decide +kernel
theorem dX3_isOf_10 : decode cX3_isOf 10 = .ok (.ifCond .eq 7, 3) := by decide +kernel
theorem dX3_isOf_13 : decode cX3_isOf 13 = .ok (.iconst 1, 1) := by decide +kernel
theorem dX3_isOf_14 : decode cX3_isOf 14 = .ok (.goto 4, 3) := by decide +kernel
theorem dX3_isOf_17 : decode cX3_isOf 17 = .ok (.iconst 0, 1) := by decide +kernel
theorem dX3_isOf_18 : decode cX3_isOf 18 = .ok (.ireturn, 1) := by decide +kernel
theorem dX3_due_0 : decode cX3_due 0 = .ok (.iload_n 1, 1) := by decide +kernel
theorem dX3_due_1 : decode cX3_due 1 = .ok (.bipush 10, 2) := by decide +kernel
theorem dX3_due_3 : decode cX3_due 3 = .ok (.irem, 1) := by decide +kernel
theorem dX3_due_4 : decode cX3_due 4 = .ok (.ireturn, 1) := by decide +kernel
theorem dX3_adds_0 : decode cX3_adds 0 = .ok (.aload_n 1, 1) := by decide +kernel
theorem dX3_adds_1 : decode cX3_adds 1 = .ok (.bipush 20, 2) := by decide +kernel
theorem dX3_adds_3 : decode cX3_adds 3 = .ok (.invokevirtual 11, 3) := by decide +kernel
theorem dX3_adds_6 : decode cX3_adds 6 = .ok (.aload_n 0, 1) := by decide +kernel
theorem dX3_adds_7 : decode cX3_adds 7 = .ok (.aload_n 1, 1) := by decide +kernel
theorem dX3_adds_8 : decode cX3_adds 8 = .ok (.iload_n 2, 1) := by decide +kernel
theorem dX3_adds_9 : decode cX3_adds 9 = .ok (.invokespecial 17, 3) := by decide +kernel
theorem dX3_adds_12 : decode cX3_adds 12 = .ok (.bipush 9, 2) := by decide +kernel
theorem dX3_adds_14 : decode cX3_adds 14 = .ok (.isub, 1) := by decide +kernel
theorem dX3_adds_15 : decode cX3_adds 15 = .ok (.ireturn, 1) := by decide +kernel
theorem dX3_parts_0 : decode cX3_parts 0 = .ok (.aload_n 1, 1) := by decide +kernel
theorem dX3_parts_1 : decode cX3_parts 1 = .ok (.bipush 21, 2) := by decide +kernel
theorem dX3_parts_3 : decode cX3_parts 3 = .ok (.invokevirtual 11, 3) := by decide +kernel
theorem dX3_parts_6 : decode cX3_parts 6 = .ok (.aload_n 0, 1) := by decide +kernel
theorem dX3_parts_7 : decode cX3_parts 7 = .ok (.aload_n 1, 1) := by decide +kernel
theorem dX3_parts_8 : decode cX3_parts 8 = .ok (.iload_n 2, 1) := by decide +kernel
theorem dX3_parts_9 : decode cX3_parts 9 = .ok (.invokespecial 21, 3) := by decide +kernel
theorem dX3_parts_12 : decode cX3_parts 12 = .ok (.istore_n 3, 1) := by decide +kernel
theorem dX3_parts_13 : decode cX3_parts 13 = .ok (.aload_n 1, 1) := by decide +kernel
theorem dX3_parts_14 : decode cX3_parts 14 = .ok (.getfield 24, 3) := by decide +kernel
theorem dX3_parts_17 : decode cX3_parts 17 = .ok (.ifCond .eq 7, 3) := by decide +kernel
theorem dX3_parts_20 : decode cX3_parts 20 = .ok (.iconst 0, 1) := by decide +kernel
theorem dX3_parts_21 : decode cX3_parts 21 = .ok (.goto 11, 3) := by decide +kernel
theorem dX3_parts_24 : decode cX3_parts 24 = .ok (.iload_n 3, 1) := by decide +kernel
theorem dX3_parts_25 : decode cX3_parts 25 = .ok (.aload_n 0, 1) := by decide +kernel
theorem dX3_parts_26 : decode cX3_parts 26 = .ok (.aload_n 1, 1) := by decide +kernel
theorem dX3_parts_27 : decode cX3_parts 27 = .ok (.iconst 1, 1) := by decide +kernel
theorem dX3_parts_28 : decode cX3_parts 28 = .ok (.invokevirtual 28, 3) := by decide +kernel
theorem dX3_parts_31 : decode cX3_parts 31 = .ok (.iadd, 1) := by decide +kernel
theorem dX3_parts_32 : decode cX3_parts 32 = .ok (.ireturn, 1) := by decide +kernel
theorem dX4_init_0 : decode cX4_init 0 = .ok (.aload_n 0, 1) := by decide +kernel
theorem dX4_init_1 : decode cX4_init 1 = .ok (.invokespecial 3, 3) := by decide +kernel
theorem dX4_init_4 : decode cX4_init 4 = .ok (.aload_n 0, 1) := by decide +kernel
theorem dX4_init_5 : decode cX4_init 5 = .ok (.bipush 60, 2) := by decide +kernel
theorem dX4_init_7 : decode cX4_init 7 = .ok (.newarray .int, 2) := by decide +kernel
theorem dX4_init_9 : decode cX4_init 9 = .ok (.putfield 9, 3) := by decide +kernel
theorem dX4_init_12 : decode cX4_init 12 = .ok (.aload_n 0, 1) := by decide +kernel
theorem dX4_init_13 : decode cX4_init 13 = .ok (.iconst 0, 1) := by decide +kernel
theorem dX4_init_14 : decode cX4_init 14 = .ok (.putfield 15, 3) := by decide +kernel
theorem dX4_init_17 : decode cX4_init 17 = .ok (.aload_n 0, 1) := by decide +kernel
theorem dX4_init_18 : decode cX4_init 18 = .ok (.bipush 60, 2) := by decide +kernel
theorem dX4_init_20 : decode cX4_init 20 = .ok (.newarray .int, 2) := by decide +kernel
theorem dX4_init_22 : decode cX4_init 22 = .ok (.putfield 19, 3) := by decide +kernel
theorem dX4_init_25 : decode cX4_init 25 = .ok (.aload_n 0, 1) := by decide +kernel
theorem dX4_init_26 : decode cX4_init 26 = .ok (.bipush 60, 2) := by decide +kernel
theorem dX4_init_28 : decode cX4_init 28 = .ok (.newarray .int, 2) := by decide +kernel
theorem dX4_init_30 : decode cX4_init 30 = .ok (.putfield 22, 3) := by decide +kernel
theorem dX4_init_33 : decode cX4_init 33 = .ok (.aload_n 0, 1) := by decide +kernel
theorem dX4_init_34 : decode cX4_init 34 = .ok (.bipush 60, 2) := by decide +kernel
theorem dX4_init_36 : decode cX4_init 36 = .ok (.newarray .int, 2) := by decide +kernel
theorem dX4_init_38 : decode cX4_init 38 = .ok (.putfield 25, 3) := by decide +kernel
theorem dX4_init_41 : decode cX4_init 41 = .ok (.aload_n 0, 1) := by decide +kernel
theorem dX4_init_42 : decode cX4_init 42 = .ok (.iconst 0, 1) := by decide +kernel
theorem dX4_init_43 : decode cX4_init 43 = .ok (.putfield 28, 3) := by decide +kernel
theorem dX4_init_46 : decode cX4_init 46 = .ok (.aload_n 0, 1) := by decide +kernel
theorem dX4_init_47 : decode cX4_init 47 = .ok (.iconst 0, 1) := by decide +kernel
theorem dX4_init_48 : decode cX4_init 48 = .ok (.putfield 31, 3) := by decide +kernel
theorem dX4_init_51 : decode cX4_init 51 = .ok (.aload_n 0, 1) := by decide +kernel
theorem dX4_init_52 : decode cX4_init 52 = .ok (.iconst 0, 1) := by decide +kernel
theorem dX4_init_53 : decode cX4_init 53 = .ok (.putfield 34, 3) := by decide +kernel
theorem dX4_init_56 : decode cX4_init 56 = .ok (.aload_n 0, 1) := by decide +kernel
theorem dX4_init_57 : decode cX4_init 57 = .ok (.iconst 0, 1) := by decide +kernel
theorem dX4_init_58 : decode cX4_init 58 = .ok (.putfield 37, 3) := by decide +kernel
theorem dX4_init_61 : decode cX4_init 61 = .ok (.aload_n 0, 1) := by decide +kernel
theorem dX4_init_62 : decode cX4_init 62 = .ok (.aload_n 1, 1) := by decide +kernel
theorem dX4_init_63 : decode cX4_init 63 = .ok (.putfield 41, 3) := by decide +kernel
theorem dX4_init_66 : decode cX4_init 66 = .ok (.return_, 1) := by decide +kernel
theorem dX4_isTold_0 : decode cX4_isTold 0 = .ok (.aload_n 0, 1) := by decide +kernel
theorem dX4_isTold_1 : decode cX4_isTold 1 = .ok (.getfield 15, 3) := by decide +kernel
theorem dX4_isTold_4 : decode cX4_isTold 4 = .ok (.ifCond .le 7, 3) := by decide +kernel
theorem dX4_isTold_7 : decode cX4_isTold 7 = .ok (.iconst 1, 1) := by decide +kernel
theorem dX4_isTold_8 : decode cX4_isTold 8 = .ok (.goto 4, 3) := by decide +kernel
theorem dX4_isTold_11 : decode cX4_isTold 11 = .ok (.iconst 0, 1) := by decide +kernel
theorem dX4_isTold_12 : decode cX4_isTold 12 = .ok (.ireturn, 1) := by decide +kernel
theorem dX4_become_0 : decode cX4_become 0 = .ok (.aload_n 1, 1) := by decide +kernel
theorem dX4_become_1 : decode cX4_become 1 = .ok (.getfield 9, 3) := by decide +kernel
theorem dX4_become_4 : decode cX4_become 4 = .ok (.iconst 0, 1) := by decide +kernel
theorem dX4_become_5 : decode cX4_become 5 = .ok (.aload_n 0, 1) := by decide +kernel
theorem dX4_become_6 : decode cX4_become 6 = .ok (.getfield 9, 3) := by decide +kernel
theorem dX4_become_9 : decode cX4_become 9 = .ok (.iconst 0, 1) := by decide +kernel
theorem dX4_become_10 : decode cX4_become 10 = .ok (.bipush 60, 2) := by decide +kernel
theorem dX4_become_12 : decode cX4_become 12 = .ok (.invokestatic 45, 3) := by decide +kernel
theorem dX4_become_15 : decode cX4_become 15 = .ok (.aload_n 0, 1) := by decide +kernel
theorem dX4_become_16 : decode cX4_become 16 = .ok (.aload_n 1, 1) := by decide +kernel
theorem dX4_become_17 : decode cX4_become 17 = .ok (.getfield 15, 3) := by decide +kernel
theorem dX4_become_20 : decode cX4_become 20 = .ok (.putfield 15, 3) := by decide +kernel
theorem dX4_become_23 : decode cX4_become 23 = .ok (.return_, 1) := by decide +kernel
theorem dX4_fault_0 : decode cX4_fault 0 = .ok (.aload_n 0, 1) := by decide +kernel
theorem dX4_fault_1 : decode cX4_fault 1 = .ok (.iload_n 2, 1) := by decide +kernel
theorem dX4_fault_2 : decode cX4_fault 2 = .ok (.bipush 60, 2) := by decide +kernel
theorem dX4_fault_4 : decode cX4_fault 4 = .ok (.invokestatic 51, 3) := by decide +kernel
theorem dX4_fault_7 : decode cX4_fault 7 = .ok (.putfield 31, 3) := by decide +kernel
theorem dX4_fault_10 : decode cX4_fault 10 = .ok (.aload_n 1, 1) := by decide +kernel
theorem dX4_fault_11 : decode cX4_fault 11 = .ok (.iconst 0, 1) := by decide +kernel
theorem dX4_fault_12 : decode cX4_fault 12 = .ok (.aload_n 0, 1) := by decide +kernel
theorem dX4_fault_13 : decode cX4_fault 13 = .ok (.getfield 22, 3) := by decide +kernel
theorem dX4_fault_16 : decode cX4_fault 16 = .ok (.iconst 0, 1) := by decide +kernel
theorem dX4_fault_17 : decode cX4_fault 17 = .ok (.aload_n 0, 1) := by decide +kernel
theorem dX4_fault_18 : decode cX4_fault 18 = .ok (.getfield 31, 3) := by decide +kernel
theorem dX4_fault_21 : decode cX4_fault 21 = .ok (.invokestatic 45, 3) := by decide +kernel
theorem dX4_fault_24 : decode cX4_fault 24 = .ok (.aload_n 0, 1) := by decide +kernel
theorem dX4_fault_25 : decode cX4_fault 25 = .ok (.iconst 0, 1) := by decide +kernel
theorem dX4_fault_26 : decode cX4_fault 26 = .ok (.putfield 34, 3) := by decide +kernel
theorem dX4_fault_29 : decode cX4_fault 29 = .ok (.aload_n 0, 1) := by decide +kernel
theorem dX4_fault_30 : decode cX4_fault 30 = .ok (.iconst 0, 1) := by decide +kernel
theorem dX4_fault_31 : decode cX4_fault 31 = .ok (.putfield 28, 3) := by decide +kernel
theorem dX4_fault_34 : decode cX4_fault 34 = .ok (.aload_n 0, 1) := by decide +kernel
theorem dX4_fault_35 : decode cX4_fault 35 = .ok (.iconst 0, 1) := by decide +kernel
theorem dX4_fault_36 : decode cX4_fault 36 = .ok (.putfield 37, 3) := by decide +kernel
theorem dX4_fault_39 : decode cX4_fault 39 = .ok (.aload_n 0, 1) := by decide +kernel
theorem dX4_fault_40 : decode cX4_fault 40 = .ok (.iconst 0, 1) := by decide +kernel
theorem dX4_fault_41 : decode cX4_fault 41 = .ok (.invokevirtual 57, 3) := by decide +kernel
theorem dX4_fault_44 : decode cX4_fault 44 = .ok (.aload_n 0, 1) := by decide +kernel
theorem dX4_fault_45 : decode cX4_fault 45 = .ok (.getfield 37, 3) := by decide +kernel
theorem dX4_fault_48 : decode cX4_fault 48 = .ok (.ifCond .ne 14, 3) := by decide +kernel
theorem dX4_fault_51 : decode cX4_fault 51 = .ok (.aload_n 0, 1) := by decide +kernel
theorem dX4_fault_52 : decode cX4_fault 52 = .ok (.getfield 34, 3) := by decide +kernel
theorem dX4_fault_55 : decode cX4_fault 55 = .ok (.aload_n 0, 1) := by decide +kernel
theorem dX4_fault_56 : decode cX4_fault 56 = .ok (.getfield 31, 3) := by decide +kernel
theorem dX4_fault_59 : decode cX4_fault 59 = .ok (.if_icmp .ge 8, 3) := by decide +kernel
theorem dX4_fault_62 : decode cX4_fault 62 = .ok (.aload_n 0, 1) := by decide +kernel
theorem dX4_fault_63 : decode cX4_fault 63 = .ok (.getfield 34, 3) := by decide +kernel
theorem dX4_fault_66 : decode cX4_fault 66 = .ok (.ireturn, 1) := by decide +kernel
theorem dX4_fault_67 : decode cX4_fault 67 = .ok (.aload_n 0, 1) := by decide +kernel
theorem dX4_fault_68 : decode cX4_fault 68 = .ok (.getfield 25, 3) := by decide +kernel
theorem dX4_fault_71 : decode cX4_fault 71 = .ok (.iconst 0, 1) := by decide +kernel
theorem dX4_fault_72 : decode cX4_fault 72 = .ok (.aload_n 0, 1) := by decide +kernel
theorem dX4_fault_73 : decode cX4_fault 73 = .ok (.getfield 9, 3) := by decide +kernel
theorem dX4_fault_76 : decode cX4_fault 76 = .ok (.iconst 0, 1) := by decide +kernel
theorem dX4_fault_77 : decode cX4_fault 77 = .ok (.bipush 60, 2) := by decide +kernel
theorem dX4_fault_79 : decode cX4_fault 79 = .ok (.invokestatic 45, 3) := by decide +kernel
theorem dX4_fault_82 : decode cX4_fault 82 = .ok (.aload_n 0, 1) := by decide +kernel
theorem dX4_fault_83 : decode cX4_fault 83 = .ok (.aload_n 0, 1) := by decide +kernel
theorem dX4_fault_84 : decode cX4_fault 84 = .ok (.getfield 28, 3) := by decide +kernel
theorem dX4_fault_87 : decode cX4_fault 87 = .ok (.putfield 15, 3) := by decide +kernel
theorem dX4_fault_90 : decode cX4_fault 90 = .ok (.iconst (-1), 1) := by decide +kernel
theorem dX4_fault_91 : decode cX4_fault 91 = .ok (.ireturn, 1) := by decide +kernel
theorem dX4_next_0 : decode cX4_next 0 = .ok (.aload_n 0, 1) := by decide +kernel
theorem dX4_next_1 : decode cX4_next 1 = .ok (.getfield 37, 3) := by decide +kernel
theorem dX4_next_4 : decode cX4_next 4 = .ok (.ifCond .ne 14, 3) := by decide +kernel
theorem dX4_next_7 : decode cX4_next 7 = .ok (.aload_n 0, 1) := by decide +kernel
theorem dX4_next_8 : decode cX4_next 8 = .ok (.getfield 34, 3) := by decide +kernel
theorem dX4_next_11 : decode cX4_next 11 = .ok (.aload_n 0, 1) := by decide +kernel
theorem dX4_next_12 : decode cX4_next 12 = .ok (.getfield 31, 3) := by decide +kernel
theorem dX4_next_15 : decode cX4_next 15 = .ok (.if_icmp .lt 7, 3) := by decide +kernel
theorem dX4_next_18 : decode cX4_next 18 = .ok (.iconst (-1), 1) := by decide +kernel
theorem dX4_next_19 : decode cX4_next 19 = .ok (.goto 12, 3) := by decide +kernel
theorem dX4_next_22 : decode cX4_next 22 = .ok (.aload_n 0, 1) := by decide +kernel
theorem dX4_next_23 : decode cX4_next 23 = .ok (.getfield 22, 3) := by decide +kernel
theorem dX4_next_26 : decode cX4_next 26 = .ok (.aload_n 0, 1) := by decide +kernel
theorem dX4_next_27 : decode cX4_next 27 = .ok (.getfield 34, 3) := by decide +kernel
theorem dX4_next_30 : decode cX4_next 30 = .ok (.iaload, 1) := by decide +kernel
theorem dX4_next_31 : decode cX4_next 31 = .ok (.ireturn, 1) := by decide +kernel
theorem dX4_write_0 : decode cX4_write 0 = .ok (.aload_n 0, 1) := by decide +kernel
theorem dX4_write_1 : decode cX4_write 1 = .ok (.getfield 28, 3) := by decide +kernel
theorem dX4_write_4 : decode cX4_write 4 = .ok (.bipush 60, 2) := by decide +kernel
theorem dX4_write_6 : decode cX4_write 6 = .ok (.if_icmp .ge 23, 3) := by decide +kernel
theorem dX4_write_9 : decode cX4_write 9 = .ok (.aload_n 0, 1) := by decide +kernel
theorem dX4_write_10 : decode cX4_write 10 = .ok (.getfield 25, 3) := by decide +kernel
theorem dX4_write_13 : decode cX4_write 13 = .ok (.aload_n 0, 1) := by decide +kernel
theorem dX4_write_14 : decode cX4_write 14 = .ok (.getfield 28, 3) := by decide +kernel
theorem dX4_write_17 : decode cX4_write 17 = .ok (.iload_n 1, 1) := by decide +kernel
theorem dX4_write_18 : decode cX4_write 18 = .ok (.iastore, 1) := by decide +kernel
theorem dX4_write_19 : decode cX4_write 19 = .ok (.aload_n 0, 1) := by decide +kernel
theorem dX4_write_20 : decode cX4_write 20 = .ok (.dup, 1) := by decide +kernel
theorem dX4_write_21 : decode cX4_write 21 = .ok (.getfield 28, 3) := by decide +kernel
theorem dX4_write_24 : decode cX4_write 24 = .ok (.iconst 1, 1) := by decide +kernel
theorem dX4_write_25 : decode cX4_write 25 = .ok (.iadd, 1) := by decide +kernel
theorem dX4_write_26 : decode cX4_write 26 = .ok (.putfield 28, 3) := by decide +kernel
theorem dX4_write_29 : decode cX4_write 29 = .ok (.return_, 1) := by decide +kernel
theorem dX4_readEither_0 : decode cX4_readEither 0 = .ok (.aload_n 0, 1) := by decide +kernel
theorem dX4_readEither_1 : decode cX4_readEither 1 = .ok (.iload_n 1, 1) := by decide +kernel
theorem dX4_readEither_2 : decode cX4_readEither 2 = .ok (.invokevirtual 61, 3) := by decide +kernel
theorem dX4_readEither_5 : decode cX4_readEither 5 = .ok (.iconst 0, 1) := by decide +kernel
theorem dX4_readEither_6 : decode cX4_readEither 6 = .ok (.istore_n 2, 1) := by decide +kernel
theorem dX4_readEither_7 : decode cX4_readEither 7 = .ok (.iload_n 2, 1) := by decide +kernel
theorem dX4_readEither_8 : decode cX4_readEither 8 = .ok (.bipush 60, 2) := by decide +kernel
theorem dX4_readEither_10 : decode cX4_readEither 10 = .ok (.if_icmp .ge 39, 3) := by decide +kernel
theorem dX4_readEither_13 : decode cX4_readEither 13 = .ok (.aload_n 0, 1) := by decide +kernel
theorem dX4_readEither_14 : decode cX4_readEither 14 = .ok (.invokevirtual 64, 3) := by decide +kernel
theorem dX4_readEither_17 : decode cX4_readEither 17 = .ok (.bipush 124, 2) := by decide +kernel
theorem dX4_readEither_19 : decode cX4_readEither 19 = .ok (.if_icmp .ne 30, 3) := by decide +kernel
theorem dX4_readEither_22 : decode cX4_readEither 22 = .ok (.aload_n 0, 1) := by decide +kernel
theorem dX4_readEither_23 : decode cX4_readEither 23 = .ok (.dup, 1) := by decide +kernel
theorem dX4_readEither_24 : decode cX4_readEither 24 = .ok (.getfield 34, 3) := by decide +kernel
theorem dX4_readEither_27 : decode cX4_readEither 27 = .ok (.iconst 1, 1) := by decide +kernel
theorem dX4_readEither_28 : decode cX4_readEither 28 = .ok (.iadd, 1) := by decide +kernel
theorem dX4_readEither_29 : decode cX4_readEither 29 = .ok (.putfield 34, 3) := by decide +kernel
theorem dX4_readEither_32 : decode cX4_readEither 32 = .ok (.aload_n 0, 1) := by decide +kernel
theorem dX4_readEither_33 : decode cX4_readEither 33 = .ok (.iload_n 1, 1) := by decide +kernel
theorem dX4_readEither_34 : decode cX4_readEither 34 = .ok (.invokevirtual 61, 3) := by decide +kernel
theorem dX4_readEither_37 : decode cX4_readEither 37 = .ok (.aload_n 0, 1) := by decide +kernel
theorem dX4_readEither_38 : decode cX4_readEither 38 = .ok (.bipush (-124), 2) := by decide +kernel
theorem dX4_readEither_40 : decode cX4_readEither 40 = .ok (.invokevirtual 68, 3) := by decide +kernel
theorem dX4_readEither_43 : decode cX4_readEither 43 = .ok (.iinc 2 1, 3) := by decide +kernel
theorem dX4_readEither_46 : decode cX4_readEither 46 = .ok (.goto (-39), 3) := by decide +kernel
theorem dX4_readEither_49 : decode cX4_readEither 49 = .ok (.return_, 1) := by decide +kernel
theorem dX4_readBoth_0 : decode cX4_readBoth 0 = .ok (.aload_n 0, 1) := by decide +kernel
theorem dX4_readBoth_1 : decode cX4_readBoth 1 = .ok (.iload_n 1, 1) := by decide +kernel
theorem dX4_readBoth_2 : decode cX4_readBoth 2 = .ok (.invokevirtual 71, 3) := by decide +kernel
theorem dX4_readBoth_5 : decode cX4_readBoth 5 = .ok (.iconst 0, 1) := by decide +kernel
theorem dX4_readBoth_6 : decode cX4_readBoth 6 = .ok (.istore_n 2, 1) := by decide +kernel
theorem dX4_readBoth_7 : decode cX4_readBoth 7 = .ok (.iload_n 2, 1) := by decide +kernel
theorem dX4_readBoth_8 : decode cX4_readBoth 8 = .ok (.bipush 60, 2) := by decide +kernel
theorem dX4_readBoth_10 : decode cX4_readBoth 10 = .ok (.if_icmp .ge 39, 3) := by decide +kernel
theorem dX4_readBoth_13 : decode cX4_readBoth 13 = .ok (.aload_n 0, 1) := by decide +kernel
theorem dX4_readBoth_14 : decode cX4_readBoth 14 = .ok (.invokevirtual 64, 3) := by decide +kernel
theorem dX4_readBoth_17 : decode cX4_readBoth 17 = .ok (.bipush 38, 2) := by decide +kernel
theorem dX4_readBoth_19 : decode cX4_readBoth 19 = .ok (.if_icmp .ne 30, 3) := by decide +kernel
theorem dX4_readBoth_22 : decode cX4_readBoth 22 = .ok (.aload_n 0, 1) := by decide +kernel
theorem dX4_readBoth_23 : decode cX4_readBoth 23 = .ok (.dup, 1) := by decide +kernel
theorem dX4_readBoth_24 : decode cX4_readBoth 24 = .ok (.getfield 34, 3) := by decide +kernel
theorem dX4_readBoth_27 : decode cX4_readBoth 27 = .ok (.iconst 1, 1) := by decide +kernel
theorem dX4_readBoth_28 : decode cX4_readBoth 28 = .ok (.iadd, 1) := by decide +kernel
theorem dX4_readBoth_29 : decode cX4_readBoth 29 = .ok (.putfield 34, 3) := by decide +kernel
theorem dX4_readBoth_32 : decode cX4_readBoth 32 = .ok (.aload_n 0, 1) := by decide +kernel
theorem dX4_readBoth_33 : decode cX4_readBoth 33 = .ok (.iload_n 1, 1) := by decide +kernel
theorem dX4_readBoth_34 : decode cX4_readBoth 34 = .ok (.invokevirtual 71, 3) := by decide +kernel
theorem dX4_readBoth_37 : decode cX4_readBoth 37 = .ok (.aload_n 0, 1) := by decide +kernel
theorem dX4_readBoth_38 : decode cX4_readBoth 38 = .ok (.bipush (-38), 2) := by decide +kernel
theorem dX4_readBoth_40 : decode cX4_readBoth 40 = .ok (.invokevirtual 68, 3) := by decide +kernel
theorem dX4_readBoth_43 : decode cX4_readBoth 43 = .ok (.iinc 2 1, 3) := by decide +kernel
theorem dX4_readBoth_46 : decode cX4_readBoth 46 = .ok (.goto (-39), 3) := by decide +kernel
theorem dX4_readBoth_49 : decode cX4_readBoth 49 = .ok (.return_, 1) := by decide +kernel
theorem dX4_readCompared_0 : decode cX4_readCompared 0 = .ok (.aload_n 0, 1) := by decide +kernel
theorem dX4_readCompared_1 : decode cX4_readCompared 1 = .ok (.iload_n 1, 1) := by decide +kernel
theorem dX4_readCompared_2 : decode cX4_readCompared 2 = .ok (.invokevirtual 74, 3) := by decide +kernel
theorem dX4_readCompared_5 : decode cX4_readCompared 5 = .ok (.aload_n 0, 1) := by decide +kernel
theorem dX4_readCompared_6 : decode cX4_readCompared 6 = .ok (.invokevirtual 64, 3) := by decide +kernel
theorem dX4_readCompared_9 : decode cX4_readCompared 9 = .ok (.istore_n 2, 1) := by decide +kernel
theorem dX4_readCompared_10 : decode cX4_readCompared 10 = .ok (.iload_n 2, 1) := by decide +kernel
theorem dX4_readCompared_11 : decode cX4_readCompared 11 = .ok (.bipush 60, 2) := by decide +kernel
theorem dX4_readCompared_13 : decode cX4_readCompared 13 = .ok (.if_icmp .eq 15, 3) := by decide +kernel
theorem dX4_readCompared_16 : decode cX4_readCompared 16 = .ok (.iload_n 2, 1) := by decide +kernel
theorem dX4_readCompared_17 : decode cX4_readCompared 17 = .ok (.bipush 61, 2) := by decide +kernel
theorem dX4_readCompared_19 : decode cX4_readCompared 19 = .ok (.if_icmp .eq 9, 3) := by decide +kernel
theorem dX4_readCompared_22 : decode cX4_readCompared 22 = .ok (.iload_n 2, 1) := by decide +kernel
theorem dX4_readCompared_23 : decode cX4_readCompared 23 = .ok (.bipush 62, 2) := by decide +kernel
theorem dX4_readCompared_25 : decode cX4_readCompared 25 = .ok (.if_icmp .ne 24, 3) := by decide +kernel
theorem dX4_readCompared_28 : decode cX4_readCompared 28 = .ok (.aload_n 0, 1) := by decide +kernel
theorem dX4_readCompared_29 : decode cX4_readCompared 29 = .ok (.dup, 1) := by decide +kernel
theorem dX4_readCompared_30 : decode cX4_readCompared 30 = .ok (.getfield 34, 3) := by decide +kernel
theorem dX4_readCompared_33 : decode cX4_readCompared 33 = .ok (.iconst 1, 1) := by decide +kernel
theorem dX4_readCompared_34 : decode cX4_readCompared 34 = .ok (.iadd, 1) := by decide +kernel
theorem dX4_readCompared_35 : decode cX4_readCompared 35 = .ok (.putfield 34, 3) := by decide +kernel
theorem dX4_readCompared_38 : decode cX4_readCompared 38 = .ok (.aload_n 0, 1) := by decide +kernel
theorem dX4_readCompared_39 : decode cX4_readCompared 39 = .ok (.iload_n 1, 1) := by decide +kernel
theorem dX4_readCompared_40 : decode cX4_readCompared 40 = .ok (.invokevirtual 74, 3) := by decide +kernel
theorem dX4_readCompared_43 : decode cX4_readCompared 43 = .ok (.aload_n 0, 1) := by decide +kernel
theorem dX4_readCompared_44 : decode cX4_readCompared 44 = .ok (.iload_n 2, 1) := by decide +kernel
theorem dX4_readCompared_45 : decode cX4_readCompared 45 = .ok (.ineg, 1) := by decide +kernel
theorem dX4_readCompared_46 : decode cX4_readCompared 46 = .ok (.invokevirtual 68, 3) := by decide +kernel
theorem dX4_readCompared_49 : decode cX4_readCompared 49 = .ok (.return_, 1) := by decide +kernel
theorem dX4_readAdded_0 : decode cX4_readAdded 0 = .ok (.aload_n 0, 1) := by decide +kernel
theorem dX4_readAdded_1 : decode cX4_readAdded 1 = .ok (.iload_n 1, 1) := by decide +kernel
theorem dX4_readAdded_2 : decode cX4_readAdded 2 = .ok (.invokevirtual 77, 3) := by decide +kernel
theorem dX4_readAdded_5 : decode cX4_readAdded 5 = .ok (.aload_n 0, 1) := by decide +kernel
theorem dX4_readAdded_6 : decode cX4_readAdded 6 = .ok (.invokevirtual 64, 3) := by decide +kernel
theorem dX4_readAdded_9 : decode cX4_readAdded 9 = .ok (.istore_n 2, 1) := by decide +kernel
theorem dX4_readAdded_10 : decode cX4_readAdded 10 = .ok (.iconst 0, 1) := by decide +kernel
theorem dX4_readAdded_11 : decode cX4_readAdded 11 = .ok (.istore_n 3, 1) := by decide +kernel
theorem dX4_readAdded_12 : decode cX4_readAdded 12 = .ok (.iload_n 3, 1) := by decide +kernel
theorem dX4_readAdded_13 : decode cX4_readAdded 13 = .ok (.bipush 60, 2) := by decide +kernel
theorem dX4_readAdded_15 : decode cX4_readAdded 15 = .ok (.if_icmp .ge 47, 3) := by decide +kernel
theorem dX4_readAdded_18 : decode cX4_readAdded 18 = .ok (.iload_n 2, 1) := by decide +kernel
theorem dX4_readAdded_19 : decode cX4_readAdded 19 = .ok (.bipush 43, 2) := by decide +kernel
theorem dX4_readAdded_21 : decode cX4_readAdded 21 = .ok (.if_icmp .eq 9, 3) := by decide +kernel
theorem dX4_readAdded_24 : decode cX4_readAdded 24 = .ok (.iload_n 2, 1) := by decide +kernel
theorem dX4_readAdded_25 : decode cX4_readAdded 25 = .ok (.bipush 45, 2) := by decide +kernel
theorem dX4_readAdded_27 : decode cX4_readAdded 27 = .ok (.if_icmp .ne 35, 3) := by decide +kernel
theorem dX4_readAdded_30 : decode cX4_readAdded 30 = .ok (.aload_n 0, 1) := by decide +kernel
theorem dX4_readAdded_31 : decode cX4_readAdded 31 = .ok (.dup, 1) := by decide +kernel
theorem dX4_readAdded_32 : decode cX4_readAdded 32 = .ok (.getfield 34, 3) := by decide +kernel
theorem dX4_readAdded_35 : decode cX4_readAdded 35 = .ok (.iconst 1, 1) := by decide +kernel
theorem dX4_readAdded_36 : decode cX4_readAdded 36 = .ok (.iadd, 1) := by decide +kernel
theorem dX4_readAdded_37 : decode cX4_readAdded 37 = .ok (.putfield 34, 3) := by decide +kernel
theorem dX4_readAdded_40 : decode cX4_readAdded 40 = .ok (.aload_n 0, 1) := by decide +kernel
theorem dX4_readAdded_41 : decode cX4_readAdded 41 = .ok (.iload_n 1, 1) := by decide +kernel
theorem dX4_readAdded_42 : decode cX4_readAdded 42 = .ok (.invokevirtual 77, 3) := by decide +kernel
theorem dX4_readAdded_45 : decode cX4_readAdded 45 = .ok (.aload_n 0, 1) := by decide +kernel
theorem dX4_readAdded_46 : decode cX4_readAdded 46 = .ok (.iload_n 2, 1) := by decide +kernel
theorem dX4_readAdded_47 : decode cX4_readAdded 47 = .ok (.ineg, 1) := by decide +kernel
theorem dX4_readAdded_48 : decode cX4_readAdded 48 = .ok (.invokevirtual 68, 3) := by decide +kernel
theorem dX4_readAdded_51 : decode cX4_readAdded 51 = .ok (.aload_n 0, 1) := by decide +kernel
theorem dX4_readAdded_52 : decode cX4_readAdded 52 = .ok (.invokevirtual 64, 3) := by decide +kernel
theorem dX4_readAdded_55 : decode cX4_readAdded 55 = .ok (.istore_n 2, 1) := by decide +kernel
theorem dX4_readAdded_56 : decode cX4_readAdded 56 = .ok (.iinc 3 1, 3) := by decide +kernel
theorem dX4_readAdded_59 : decode cX4_readAdded 59 = .ok (.goto (-47), 3) := by decide +kernel
theorem dX4_readAdded_62 : decode cX4_readAdded 62 = .ok (.return_, 1) := by decide +kernel
theorem dX4_readTimes_0 : decode cX4_readTimes 0 = .ok (.aload_n 0, 1) := by decide +kernel
theorem dX4_readTimes_1 : decode cX4_readTimes 1 = .ok (.iload_n 1, 1) := by decide +kernel
theorem dX4_readTimes_2 : decode cX4_readTimes 2 = .ok (.invokevirtual 80, 3) := by decide +kernel
theorem dX4_readTimes_5 : decode cX4_readTimes 5 = .ok (.aload_n 0, 1) := by decide +kernel
theorem dX4_readTimes_6 : decode cX4_readTimes 6 = .ok (.invokevirtual 64, 3) := by decide +kernel
theorem dX4_readTimes_9 : decode cX4_readTimes 9 = .ok (.istore_n 2, 1) := by decide +kernel
theorem dX4_readTimes_10 : decode cX4_readTimes 10 = .ok (.iconst 0, 1) := by decide +kernel
theorem dX4_readTimes_11 : decode cX4_readTimes 11 = .ok (.istore_n 3, 1) := by decide +kernel
theorem dX4_readTimes_12 : decode cX4_readTimes 12 = .ok (.iload_n 3, 1) := by decide +kernel
theorem dX4_readTimes_13 : decode cX4_readTimes 13 = .ok (.bipush 60, 2) := by decide +kernel
theorem dX4_readTimes_15 : decode cX4_readTimes 15 = .ok (.if_icmp .ge 53, 3) := by decide +kernel
theorem dX4_readTimes_18 : decode cX4_readTimes 18 = .ok (.iload_n 2, 1) := by decide +kernel
theorem dX4_readTimes_19 : decode cX4_readTimes 19 = .ok (.bipush 42, 2) := by decide +kernel
theorem dX4_readTimes_21 : decode cX4_readTimes 21 = .ok (.if_icmp .eq 15, 3) := by decide +kernel
theorem dX4_readTimes_24 : decode cX4_readTimes 24 = .ok (.iload_n 2, 1) := by decide +kernel
theorem dX4_readTimes_25 : decode cX4_readTimes 25 = .ok (.bipush 47, 2) := by decide +kernel
theorem dX4_readTimes_27 : decode cX4_readTimes 27 = .ok (.if_icmp .eq 9, 3) := by decide +kernel
theorem dX4_readTimes_30 : decode cX4_readTimes 30 = .ok (.iload_n 2, 1) := by decide +kernel
theorem dX4_readTimes_31 : decode cX4_readTimes 31 = .ok (.bipush 37, 2) := by decide +kernel
theorem dX4_readTimes_33 : decode cX4_readTimes 33 = .ok (.if_icmp .ne 35, 3) := by decide +kernel
theorem dX4_readTimes_36 : decode cX4_readTimes 36 = .ok (.aload_n 0, 1) := by decide +kernel
theorem dX4_readTimes_37 : decode cX4_readTimes 37 = .ok (.dup, 1) := by decide +kernel
theorem dX4_readTimes_38 : decode cX4_readTimes 38 = .ok (.getfield 34, 3) := by decide +kernel
theorem dX4_readTimes_41 : decode cX4_readTimes 41 = .ok (.iconst 1, 1) := by decide +kernel
theorem dX4_readTimes_42 : decode cX4_readTimes 42 = .ok (.iadd, 1) := by decide +kernel
theorem dX4_readTimes_43 : decode cX4_readTimes 43 = .ok (.putfield 34, 3) := by decide +kernel
theorem dX4_readTimes_46 : decode cX4_readTimes 46 = .ok (.aload_n 0, 1) := by decide +kernel
theorem dX4_readTimes_47 : decode cX4_readTimes 47 = .ok (.iload_n 1, 1) := by decide +kernel
theorem dX4_readTimes_48 : decode cX4_readTimes 48 = .ok (.invokevirtual 80, 3) := by decide +kernel
theorem dX4_readTimes_51 : decode cX4_readTimes 51 = .ok (.aload_n 0, 1) := by decide +kernel
theorem dX4_readTimes_52 : decode cX4_readTimes 52 = .ok (.iload_n 2, 1) := by decide +kernel
theorem dX4_readTimes_53 : decode cX4_readTimes 53 = .ok (.ineg, 1) := by decide +kernel
theorem dX4_readTimes_54 : decode cX4_readTimes 54 = .ok (.invokevirtual 68, 3) := by decide +kernel
theorem dX4_readTimes_57 : decode cX4_readTimes 57 = .ok (.aload_n 0, 1) := by decide +kernel
theorem dX4_readTimes_58 : decode cX4_readTimes 58 = .ok (.invokevirtual 64, 3) := by decide +kernel
theorem dX4_readTimes_61 : decode cX4_readTimes 61 = .ok (.istore_n 2, 1) := by decide +kernel
theorem dX4_readTimes_62 : decode cX4_readTimes 62 = .ok (.iinc 3 1, 3) := by decide +kernel
theorem dX4_readTimes_65 : decode cX4_readTimes 65 = .ok (.goto (-53), 3) := by decide +kernel
theorem dX4_readTimes_68 : decode cX4_readTimes 68 = .ok (.return_, 1) := by decide +kernel
theorem dX4_readOne_0 : decode cX4_readOne 0 = .ok (.aload_n 0, 1) := by decide +kernel
theorem dX4_readOne_1 : decode cX4_readOne 1 = .ok (.invokevirtual 64, 3) := by decide +kernel
theorem dX4_readOne_4 : decode cX4_readOne 4 = .ok (.istore_n 2, 1) := by decide +kernel
theorem dX4_readOne_5 : decode cX4_readOne 5 = .ok (.iload_n 2, 1) := by decide +kernel
theorem dX4_readOne_6 : decode cX4_readOne 6 = .ok (.invokestatic 83, 3) := by decide +kernel
theorem dX4_readOne_9 : decode cX4_readOne 9 = .ok (.ifCond .eq 10, 3) := by decide +kernel
theorem dX4_readOne_12 : decode cX4_readOne 12 = .ok (.aload_n 0, 1) := by decide +kernel
theorem dX4_readOne_13 : decode cX4_readOne 13 = .ok (.invokevirtual 87, 3) := by decide +kernel
theorem dX4_readOne_16 : decode cX4_readOne 16 = .ok (.goto 112, 3) := by decide +kernel
theorem dX4_readOne_19 : decode cX4_readOne 19 = .ok (.aload_n 0, 1) := by decide +kernel
theorem dX4_readOne_20 : decode cX4_readOne 20 = .ok (.iload_n 2, 1) := by decide +kernel
theorem dX4_readOne_21 : decode cX4_readOne 21 = .ok (.invokevirtual 90, 3) := by decide +kernel
theorem dX4_readOne_24 : decode cX4_readOne 24 = .ok (.ifCond .lt 27, 3) := by decide +kernel
theorem dX4_readOne_27 : decode cX4_readOne 27 = .ok (.aload_n 0, 1) := by decide +kernel
theorem dX4_readOne_28 : decode cX4_readOne 28 = .ok (.dup, 1) := by decide +kernel
theorem dX4_readOne_29 : decode cX4_readOne 29 = .ok (.getfield 34, 3) := by decide +kernel
theorem dX4_readOne_32 : decode cX4_readOne 32 = .ok (.iconst 1, 1) := by decide +kernel
theorem dX4_readOne_33 : decode cX4_readOne 33 = .ok (.iadd, 1) := by decide +kernel
theorem dX4_readOne_34 : decode cX4_readOne 34 = .ok (.putfield 34, 3) := by decide +kernel
theorem dX4_readOne_37 : decode cX4_readOne 37 = .ok (.aload_n 0, 1) := by decide +kernel
theorem dX4_readOne_38 : decode cX4_readOne 38 = .ok (.iconst (-1), 1) := by decide +kernel
theorem dX4_readOne_39 : decode cX4_readOne 39 = .ok (.aload_n 0, 1) := by decide +kernel
theorem dX4_readOne_40 : decode cX4_readOne 40 = .ok (.iload_n 2, 1) := by decide +kernel
theorem dX4_readOne_41 : decode cX4_readOne 41 = .ok (.invokevirtual 90, 3) := by decide +kernel
theorem dX4_readOne_44 : decode cX4_readOne 44 = .ok (.isub, 1) := by decide +kernel
theorem dX4_readOne_45 : decode cX4_readOne 45 = .ok (.invokevirtual 68, 3) := by decide +kernel
theorem dX4_readOne_48 : decode cX4_readOne 48 = .ok (.goto 80, 3) := by decide +kernel
theorem dX4_readOne_51 : decode cX4_readOne 51 = .ok (.iload_n 2, 1) := by decide +kernel
theorem dX4_readOne_52 : decode cX4_readOne 52 = .ok (.bipush 33, 2) := by decide +kernel
theorem dX4_readOne_54 : decode cX4_readOne 54 = .ok (.if_icmp .ne 34, 3) := by decide +kernel
theorem dX4_readOne_57 : decode cX4_readOne 57 = .ok (.iload_n 1, 1) := by decide +kernel
theorem dX4_readOne_58 : decode cX4_readOne 58 = .ok (.iconst 5, 1) := by decide +kernel
theorem dX4_readOne_59 : decode cX4_readOne 59 = .ok (.if_icmp .ge 29, 3) := by decide +kernel
theorem dX4_readOne_62 : decode cX4_readOne 62 = .ok (.aload_n 0, 1) := by decide +kernel
theorem dX4_readOne_63 : decode cX4_readOne 63 = .ok (.dup, 1) := by decide +kernel
theorem dX4_readOne_64 : decode cX4_readOne 64 = .ok (.getfield 34, 3) := by decide +kernel
theorem dX4_readOne_67 : decode cX4_readOne 67 = .ok (.iconst 1, 1) := by decide +kernel
theorem dX4_readOne_68 : decode cX4_readOne 68 = .ok (.iadd, 1) := by decide +kernel
theorem dX4_readOne_69 : decode cX4_readOne 69 = .ok (.putfield 34, 3) := by decide +kernel
theorem dX4_readOne_72 : decode cX4_readOne 72 = .ok (.aload_n 0, 1) := by decide +kernel
theorem dX4_readOne_73 : decode cX4_readOne 73 = .ok (.iload_n 1, 1) := by decide +kernel
theorem dX4_readOne_74 : decode cX4_readOne 74 = .ok (.iconst 1, 1) := by decide +kernel
theorem dX4_readOne_75 : decode cX4_readOne 75 = .ok (.iadd, 1) := by decide +kernel
theorem dX4_readOne_76 : decode cX4_readOne 76 = .ok (.invokevirtual 80, 3) := by decide +kernel
theorem dX4_readOne_79 : decode cX4_readOne 79 = .ok (.aload_n 0, 1) := by decide +kernel
theorem dX4_readOne_80 : decode cX4_readOne 80 = .ok (.bipush (-33), 2) := by decide +kernel
theorem dX4_readOne_82 : decode cX4_readOne 82 = .ok (.invokevirtual 68, 3) := by decide +kernel
theorem dX4_readOne_85 : decode cX4_readOne 85 = .ok (.goto 43, 3) := by decide +kernel
theorem dX4_readOne_88 : decode cX4_readOne 88 = .ok (.iload_n 2, 1) := by decide +kernel
theorem dX4_readOne_89 : decode cX4_readOne 89 = .ok (.bipush 40, 2) := by decide +kernel
theorem dX4_readOne_91 : decode cX4_readOne 91 = .ok (.if_icmp .ne 32, 3) := by decide +kernel
theorem dX4_readOne_94 : decode cX4_readOne 94 = .ok (.iload_n 1, 1) := by decide +kernel
theorem dX4_readOne_95 : decode cX4_readOne 95 = .ok (.iconst 5, 1) := by decide +kernel
theorem dX4_readOne_96 : decode cX4_readOne 96 = .ok (.if_icmp .ge 27, 3) := by decide +kernel
theorem dX4_readOne_99 : decode cX4_readOne 99 = .ok (.aload_n 0, 1) := by decide +kernel
theorem dX4_readOne_100 : decode cX4_readOne 100 = .ok (.dup, 1) := by decide +kernel
theorem dX4_readOne_101 : decode cX4_readOne 101 = .ok (.getfield 34, 3) := by decide +kernel
theorem dX4_readOne_104 : decode cX4_readOne 104 = .ok (.iconst 1, 1) := by decide +kernel
theorem dX4_readOne_105 : decode cX4_readOne 105 = .ok (.iadd, 1) := by decide +kernel
theorem dX4_readOne_106 : decode cX4_readOne 106 = .ok (.putfield 34, 3) := by decide +kernel
theorem dX4_readOne_109 : decode cX4_readOne 109 = .ok (.aload_n 0, 1) := by decide +kernel
theorem dX4_readOne_110 : decode cX4_readOne 110 = .ok (.iload_n 1, 1) := by decide +kernel
theorem dX4_readOne_111 : decode cX4_readOne 111 = .ok (.iconst 1, 1) := by decide +kernel
theorem dX4_readOne_112 : decode cX4_readOne 112 = .ok (.iadd, 1) := by decide +kernel
theorem dX4_readOne_113 : decode cX4_readOne 113 = .ok (.invokevirtual 57, 3) := by decide +kernel
theorem dX4_readOne_116 : decode cX4_readOne 116 = .ok (.aload_n 0, 1) := by decide +kernel
theorem dX4_readOne_117 : decode cX4_readOne 117 = .ok (.invokevirtual 94, 3) := by decide +kernel
theorem dX4_readOne_120 : decode cX4_readOne 120 = .ok (.goto 8, 3) := by decide +kernel
theorem dX4_readOne_123 : decode cX4_readOne 123 = .ok (.aload_n 0, 1) := by decide +kernel
theorem dX4_readOne_124 : decode cX4_readOne 124 = .ok (.iconst 1, 1) := by decide +kernel
theorem dX4_readOne_125 : decode cX4_readOne 125 = .ok (.putfield 37, 3) := by decide +kernel
theorem dX4_readOne_128 : decode cX4_readOne 128 = .ok (.return_, 1) := by decide +kernel
theorem dX4_readClose_0 : decode cX4_readClose 0 = .ok (.aload_n 0, 1) := by decide +kernel
theorem dX4_readClose_1 : decode cX4_readClose 1 = .ok (.invokevirtual 64, 3) := by decide +kernel
theorem dX4_readClose_4 : decode cX4_readClose 4 = .ok (.bipush 41, 2) := by decide +kernel
theorem dX4_readClose_6 : decode cX4_readClose 6 = .ok (.if_icmp .ne 16, 3) := by decide +kernel
theorem dX4_readClose_9 : decode cX4_readClose 9 = .ok (.aload_n 0, 1) := by decide +kernel
theorem dX4_readClose_10 : decode cX4_readClose 10 = .ok (.dup, 1) := by decide +kernel
theorem dX4_readClose_11 : decode cX4_readClose 11 = .ok (.getfield 34, 3) := by decide +kernel
theorem dX4_readClose_14 : decode cX4_readClose 14 = .ok (.iconst 1, 1) := by decide +kernel
theorem dX4_readClose_15 : decode cX4_readClose 15 = .ok (.iadd, 1) := by decide +kernel
theorem dX4_readClose_16 : decode cX4_readClose 16 = .ok (.putfield 34, 3) := by decide +kernel
theorem dX4_readClose_19 : decode cX4_readClose 19 = .ok (.goto 8, 3) := by decide +kernel
theorem dX4_readClose_22 : decode cX4_readClose 22 = .ok (.aload_n 0, 1) := by decide +kernel
theorem dX4_readClose_23 : decode cX4_readClose 23 = .ok (.iconst 1, 1) := by decide +kernel
theorem dX4_readClose_24 : decode cX4_readClose 24 = .ok (.putfield 37, 3) := by decide +kernel
theorem dX4_readClose_27 : decode cX4_readClose 27 = .ok (.return_, 1) := by decide +kernel
theorem dX4_readNumber_0 : decode cX4_readNumber 0 = .ok (.iconst 0, 1) := by decide +kernel
theorem dX4_readNumber_1 : decode cX4_readNumber 1 = .ok (.istore_n 1, 1) := by decide +kernel
theorem dX4_readNumber_2 : decode cX4_readNumber 2 = .ok (.iconst 0, 1) := by decide +kernel
theorem dX4_readNumber_3 : decode cX4_readNumber 3 = .ok (.istore_n 2, 1) := by decide +kernel
theorem dX4_readNumber_4 : decode cX4_readNumber 4 = .ok (.iload_n 2, 1) := by decide +kernel
theorem dX4_readNumber_5 : decode cX4_readNumber 5 = .ok (.iconst 4, 1) := by decide +kernel
theorem dX4_readNumber_6 : decode cX4_readNumber 6 = .ok (.if_icmp .ge 42, 3) := by decide +kernel
theorem dX4_readNumber_9 : decode cX4_readNumber 9 = .ok (.aload_n 0, 1) := by decide +kernel
theorem dX4_readNumber_10 : decode cX4_readNumber 10 = .ok (.invokevirtual 64, 3) := by decide +kernel
theorem dX4_readNumber_13 : decode cX4_readNumber 13 = .ok (.invokestatic 83, 3) := by decide +kernel
theorem dX4_readNumber_16 : decode cX4_readNumber 16 = .ok (.ifCond .eq 32, 3) := by decide +kernel
theorem dX4_readNumber_19 : decode cX4_readNumber 19 = .ok (.bipush 10, 2) := by decide +kernel
theorem dX4_readNumber_21 : decode cX4_readNumber 21 = .ok (.iload_n 1, 1) := by decide +kernel
theorem dX4_readNumber_22 : decode cX4_readNumber 22 = .ok (.imul, 1) := by decide +kernel
theorem dX4_readNumber_23 : decode cX4_readNumber 23 = .ok (.aload_n 0, 1) := by decide +kernel
theorem dX4_readNumber_24 : decode cX4_readNumber 24 = .ok (.invokevirtual 64, 3) := by decide +kernel
theorem dX4_readNumber_27 : decode cX4_readNumber 27 = .ok (.iadd, 1) := by decide +kernel
theorem dX4_readNumber_28 : decode cX4_readNumber 28 = .ok (.bipush 48, 2) := by decide +kernel
theorem dX4_readNumber_30 : decode cX4_readNumber 30 = .ok (.isub, 1) := by decide +kernel
theorem dX4_readNumber_31 : decode cX4_readNumber 31 = .ok (.istore_n 1, 1) := by decide +kernel
theorem dX4_readNumber_32 : decode cX4_readNumber 32 = .ok (.aload_n 0, 1) := by decide +kernel
theorem dX4_readNumber_33 : decode cX4_readNumber 33 = .ok (.dup, 1) := by decide +kernel
theorem dX4_readNumber_34 : decode cX4_readNumber 34 = .ok (.getfield 34, 3) := by decide +kernel
theorem dX4_readNumber_37 : decode cX4_readNumber 37 = .ok (.iconst 1, 1) := by decide +kernel
theorem dX4_readNumber_38 : decode cX4_readNumber 38 = .ok (.iadd, 1) := by decide +kernel
theorem dX4_readNumber_39 : decode cX4_readNumber 39 = .ok (.putfield 34, 3) := by decide +kernel
theorem dX4_readNumber_42 : decode cX4_readNumber 42 = .ok (.iinc 2 1, 3) := by decide +kernel
theorem dX4_readNumber_45 : decode cX4_readNumber 45 = .ok (.goto (-41), 3) := by decide +kernel
theorem dX4_readNumber_48 : decode cX4_readNumber 48 = .ok (.aload_n 0, 1) := by decide +kernel
theorem dX4_readNumber_49 : decode cX4_readNumber 49 = .ok (.iload_n 1, 1) := by decide +kernel
theorem dX4_readNumber_50 : decode cX4_readNumber 50 = .ok (.invokevirtual 68, 3) := by decide +kernel
theorem dX4_readNumber_53 : decode cX4_readNumber 53 = .ok (.return_, 1) := by decide +kernel
theorem dX4_isDigit_0 : decode cX4_isDigit 0 = .ok (.iload_n 0, 1) := by decide +kernel
theorem dX4_isDigit_1 : decode cX4_isDigit 1 = .ok (.bipush 48, 2) := by decide +kernel
theorem dX4_isDigit_3 : decode cX4_isDigit 3 = .ok (.if_icmp .lt 13, 3) := by decide +kernel
theorem dX4_isDigit_6 : decode cX4_isDigit 6 = .ok (.iload_n 0, 1) := by decide +kernel
theorem dX4_isDigit_7 : decode cX4_isDigit 7 = .ok (.bipush 57, 2) := by decide +kernel
theorem dX4_isDigit_9 : decode cX4_isDigit 9 = .ok (.if_icmp .gt 7, 3) := by decide +kernel
theorem dX4_isDigit_12 : decode cX4_isDigit 12 = .ok (.iconst 1, 1) := by decide +kernel
theorem dX4_isDigit_13 : decode cX4_isDigit 13 = .ok (.goto 4, 3) := by decide +kernel
theorem dX4_isDigit_16 : decode cX4_isDigit 16 = .ok (.iconst 0, 1) := by decide +kernel
theorem dX4_isDigit_17 : decode cX4_isDigit 17 = .ok (.ireturn, 1) := by decide +kernel
theorem dX4_nameOf_0 : decode cX4_nameOf 0 = .ok (.iconst 0, 1) := by decide +kernel
theorem dX4_nameOf_1 : decode cX4_nameOf 1 = .ok (.istore_n 2, 1) := by decide +kernel
theorem dX4_nameOf_2 : decode cX4_nameOf 2 = .ok (.iload_n 2, 1) := by decide +kernel
theorem dX4_nameOf_3 : decode cX4_nameOf 3 = .ok (.aload_n 0, 1) := by decide +kernel
theorem dX4_nameOf_4 : decode cX4_nameOf 4 = .ok (.getfield 41, 3) := by decide +kernel
theorem dX4_nameOf_7 : decode cX4_nameOf 7 = .ok (.invokevirtual 97, 3) := by decide +kernel
theorem dX4_nameOf_10 : decode cX4_nameOf 10 = .ok (.if_icmp .ge 23, 3) := by decide +kernel
theorem dX4_nameOf_13 : decode cX4_nameOf 13 = .ok (.aload_n 0, 1) := by decide +kernel
theorem dX4_nameOf_14 : decode cX4_nameOf 14 = .ok (.getfield 41, 3) := by decide +kernel
theorem dX4_nameOf_17 : decode cX4_nameOf 17 = .ok (.iload_n 2, 1) := by decide +kernel
theorem dX4_nameOf_18 : decode cX4_nameOf 18 = .ok (.invokevirtual 101, 3) := by decide +kernel
theorem dX4_nameOf_21 : decode cX4_nameOf 21 = .ok (.iload_n 1, 1) := by decide +kernel
theorem dX4_nameOf_22 : decode cX4_nameOf 22 = .ok (.if_icmp .ne 5, 3) := by decide +kernel
theorem dX4_nameOf_25 : decode cX4_nameOf 25 = .ok (.iload_n 2, 1) := by decide +kernel
theorem dX4_nameOf_26 : decode cX4_nameOf 26 = .ok (.ireturn, 1) := by decide +kernel
theorem dX4_nameOf_27 : decode cX4_nameOf 27 = .ok (.iinc 2 1, 3) := by decide +kernel
theorem dX4_nameOf_30 : decode cX4_nameOf 30 = .ok (.goto (-28), 3) := by decide +kernel
theorem dX4_nameOf_33 : decode cX4_nameOf 33 = .ok (.iconst (-1), 1) := by decide +kernel
theorem dX4_nameOf_34 : decode cX4_nameOf 34 = .ok (.ireturn, 1) := by decide +kernel
theorem dX4_workedOut_0 : decode cX4_workedOut 0 = .ok (.iconst 0, 1) := by decide +kernel
theorem dX4_workedOut_1 : decode cX4_workedOut 1 = .ok (.istore 4, 2) := by decide +kernel
theorem dX4_workedOut_3 : decode cX4_workedOut 3 = .ok (.iconst 0, 1) := by decide +kernel
theorem dX4_workedOut_4 : decode cX4_workedOut 4 = .ok (.istore 5, 2) := by decide +kernel
theorem dX4_workedOut_6 : decode cX4_workedOut 6 = .ok (.iload 5, 2) := by decide +kernel
theorem dX4_workedOut_8 : decode cX4_workedOut 8 = .ok (.aload_n 0, 1) := by decide +kernel
theorem dX4_workedOut_9 : decode cX4_workedOut 9 = .ok (.getfield 15, 3) := by decide +kernel
theorem dX4_workedOut_12 : decode cX4_workedOut 12 = .ok (.if_icmp .ge 151, 3) := by decide +kernel
theorem dX4_workedOut_15 : decode cX4_workedOut 15 = .ok (.iload 5, 2) := by decide +kernel
theorem dX4_workedOut_17 : decode cX4_workedOut 17 = .ok (.bipush 60, 2) := by decide +kernel
theorem dX4_workedOut_19 : decode cX4_workedOut 19 = .ok (.if_icmp .ge 144, 3) := by decide +kernel
theorem dX4_workedOut_22 : decode cX4_workedOut 22 = .ok (.aload_n 0, 1) := by decide +kernel
theorem dX4_workedOut_23 : decode cX4_workedOut 23 = .ok (.getfield 9, 3) := by decide +kernel
theorem dX4_workedOut_26 : decode cX4_workedOut 26 = .ok (.iload 5, 2) := by decide +kernel
theorem dX4_workedOut_28 : decode cX4_workedOut 28 = .ok (.iaload, 1) := by decide +kernel
theorem dX4_workedOut_29 : decode cX4_workedOut 29 = .ok (.istore 6, 2) := by decide +kernel
theorem dX4_workedOut_31 : decode cX4_workedOut 31 = .ok (.iload 6, 2) := by decide +kernel
theorem dX4_workedOut_33 : decode cX4_workedOut 33 = .ok (.bipush (-3), 2) := by decide +kernel
theorem dX4_workedOut_35 : decode cX4_workedOut 35 = .ok (.if_icmp .lt 41, 3) := by decide +kernel
theorem dX4_workedOut_38 : decode cX4_workedOut 38 = .ok (.iload 4, 2) := by decide +kernel
theorem dX4_workedOut_40 : decode cX4_workedOut 40 = .ok (.bipush 60, 2) := by decide +kernel
theorem dX4_workedOut_42 : decode cX4_workedOut 42 = .ok (.if_icmp .ge 115, 3) := by decide +kernel
theorem dX4_workedOut_45 : decode cX4_workedOut 45 = .ok (.aload_n 0, 1) := by decide +kernel
theorem dX4_workedOut_46 : decode cX4_workedOut 46 = .ok (.getfield 19, 3) := by decide +kernel
theorem dX4_workedOut_49 : decode cX4_workedOut 49 = .ok (.iload 4, 2) := by decide +kernel
theorem dX4_workedOut_51 : decode cX4_workedOut 51 = .ok (.iload 6, 2) := by decide +kernel
theorem dX4_workedOut_53 : decode cX4_workedOut 53 = .ok (.ifCond .lt 8, 3) := by decide +kernel
theorem dX4_workedOut_56 : decode cX4_workedOut 56 = .ok (.iload 6, 2) := by decide +kernel
theorem dX4_workedOut_58 : decode cX4_workedOut 58 = .ok (.goto 11, 3) := by decide +kernel
theorem dX4_workedOut_61 : decode cX4_workedOut 61 = .ok (.iload 6, 2) := by decide +kernel
theorem dX4_workedOut_63 : decode cX4_workedOut 63 = .ok (.iload_n 1, 1) := by decide +kernel
theorem dX4_workedOut_64 : decode cX4_workedOut 64 = .ok (.iload_n 2, 1) := by decide +kernel
theorem dX4_workedOut_65 : decode cX4_workedOut 65 = .ok (.iload_n 3, 1) := by decide +kernel
theorem dX4_workedOut_66 : decode cX4_workedOut 66 = .ok (.invokestatic 105, 3) := by decide +kernel
theorem dX4_workedOut_69 : decode cX4_workedOut 69 = .ok (.iastore, 1) := by decide +kernel
theorem dX4_workedOut_70 : decode cX4_workedOut 70 = .ok (.iinc 4 1, 3) := by decide +kernel
theorem dX4_workedOut_73 : decode cX4_workedOut 73 = .ok (.goto 84, 3) := by decide +kernel
theorem dX4_workedOut_76 : decode cX4_workedOut 76 = .ok (.iload 6, 2) := by decide +kernel
theorem dX4_workedOut_78 : decode cX4_workedOut 78 = .ok (.bipush (-33), 2) := by decide +kernel
theorem dX4_workedOut_80 : decode cX4_workedOut 80 = .ok (.if_icmp .ne 37, 3) := by decide +kernel
theorem dX4_workedOut_83 : decode cX4_workedOut 83 = .ok (.iload 4, 2) := by decide +kernel
theorem dX4_workedOut_85 : decode cX4_workedOut 85 = .ok (.ifCond .le 72, 3) := by decide +kernel
theorem dX4_workedOut_88 : decode cX4_workedOut 88 = .ok (.aload_n 0, 1) := by decide +kernel
theorem dX4_workedOut_89 : decode cX4_workedOut 89 = .ok (.getfield 19, 3) := by decide +kernel
theorem dX4_workedOut_92 : decode cX4_workedOut 92 = .ok (.iload 4, 2) := by decide +kernel
theorem dX4_workedOut_94 : decode cX4_workedOut 94 = .ok (.iconst 1, 1) := by decide +kernel
theorem dX4_workedOut_95 : decode cX4_workedOut 95 = .ok (.isub, 1) := by decide +kernel
theorem dX4_workedOut_96 : decode cX4_workedOut 96 = .ok (.aload_n 0, 1) := by decide +kernel
theorem dX4_workedOut_97 : decode cX4_workedOut 97 = .ok (.getfield 19, 3) := by decide +kernel
theorem dX4_workedOut_100 : decode cX4_workedOut 100 = .ok (.iload 4, 2) := by decide +kernel
theorem dX4_workedOut_102 : decode cX4_workedOut 102 = .ok (.iconst 1, 1) := by decide +kernel
theorem dX4_workedOut_103 : decode cX4_workedOut 103 = .ok (.isub, 1) := by decide +kernel
theorem dX4_workedOut_104 : decode cX4_workedOut 104 = .ok (.iaload, 1) := by decide +kernel
theorem dX4_workedOut_105 : decode cX4_workedOut 105 = .ok (.ifCond .ne 7, 3) := by decide +kernel
theorem dX4_workedOut_108 : decode cX4_workedOut 108 = .ok (.iconst 1, 1) := by decide +kernel
theorem dX4_workedOut_109 : decode cX4_workedOut 109 = .ok (.goto 4, 3) := by decide +kernel
theorem dX4_workedOut_112 : decode cX4_workedOut 112 = .ok (.iconst 0, 1) := by decide +kernel
theorem dX4_workedOut_113 : decode cX4_workedOut 113 = .ok (.iastore, 1) := by decide +kernel
theorem dX4_workedOut_114 : decode cX4_workedOut 114 = .ok (.goto 43, 3) := by decide +kernel
theorem dX4_workedOut_117 : decode cX4_workedOut 117 = .ok (.iload 4, 2) := by decide +kernel
theorem dX4_workedOut_119 : decode cX4_workedOut 119 = .ok (.iconst 1, 1) := by decide +kernel
theorem dX4_workedOut_120 : decode cX4_workedOut 120 = .ok (.if_icmp .le 37, 3) := by decide +kernel
theorem dX4_workedOut_123 : decode cX4_workedOut 123 = .ok (.iinc 4 (-1), 3) := by decide +kernel
theorem dX4_workedOut_126 : decode cX4_workedOut 126 = .ok (.aload_n 0, 1) := by decide +kernel
theorem dX4_workedOut_127 : decode cX4_workedOut 127 = .ok (.getfield 19, 3) := by decide +kernel
theorem dX4_workedOut_130 : decode cX4_workedOut 130 = .ok (.iload 4, 2) := by decide +kernel
theorem dX4_workedOut_132 : decode cX4_workedOut 132 = .ok (.iconst 1, 1) := by decide +kernel
theorem dX4_workedOut_133 : decode cX4_workedOut 133 = .ok (.isub, 1) := by decide +kernel
theorem dX4_workedOut_134 : decode cX4_workedOut 134 = .ok (.iload 6, 2) := by decide +kernel
theorem dX4_workedOut_136 : decode cX4_workedOut 136 = .ok (.ineg, 1) := by decide +kernel
theorem dX4_workedOut_137 : decode cX4_workedOut 137 = .ok (.aload_n 0, 1) := by decide +kernel
theorem dX4_workedOut_138 : decode cX4_workedOut 138 = .ok (.getfield 19, 3) := by decide +kernel
theorem dX4_workedOut_141 : decode cX4_workedOut 141 = .ok (.iload 4, 2) := by decide +kernel
theorem dX4_workedOut_143 : decode cX4_workedOut 143 = .ok (.iconst 1, 1) := by decide +kernel
theorem dX4_workedOut_144 : decode cX4_workedOut 144 = .ok (.isub, 1) := by decide +kernel
theorem dX4_workedOut_145 : decode cX4_workedOut 145 = .ok (.iaload, 1) := by decide +kernel
theorem dX4_workedOut_146 : decode cX4_workedOut 146 = .ok (.aload_n 0, 1) := by decide +kernel
theorem dX4_workedOut_147 : decode cX4_workedOut 147 = .ok (.getfield 19, 3) := by decide +kernel
theorem dX4_workedOut_150 : decode cX4_workedOut 150 = .ok (.iload 4, 2) := by decide +kernel
theorem dX4_workedOut_152 : decode cX4_workedOut 152 = .ok (.iaload, 1) := by decide +kernel
theorem dX4_workedOut_153 : decode cX4_workedOut 153 = .ok (.invokestatic 109, 3) := by decide +kernel
theorem dX4_workedOut_156 : decode cX4_workedOut 156 = .ok (.iastore, 1) := by decide +kernel
theorem dX4_workedOut_157 : decode cX4_workedOut 157 = .ok (.iinc 5 1, 3) := by decide +kernel
theorem dX4_workedOut_160 : decode cX4_workedOut 160 = .ok (.goto (-154), 3) := by decide +kernel
theorem dX4_workedOut_163 : decode cX4_workedOut 163 = .ok (.aload_n 0, 1) := by decide +kernel
theorem dX4_workedOut_164 : decode cX4_workedOut 164 = .ok (.getfield 19, 3) := by decide +kernel
theorem dX4_workedOut_167 : decode cX4_workedOut 167 = .ok (.iconst 0, 1) := by decide +kernel
theorem dX4_workedOut_168 : decode cX4_workedOut 168 = .ok (.iaload, 1) := by decide +kernel
theorem dX4_workedOut_169 : decode cX4_workedOut 169 = .ok (.ireturn, 1) := by decide +kernel
theorem dX4_named_0 : decode cX4_named 0 = .ok (.iload_n 0, 1) := by decide +kernel
theorem dX4_named_1 : decode cX4_named 1 = .ok (.iconst (-1), 1) := by decide +kernel
theorem dX4_named_2 : decode cX4_named 2 = .ok (.if_icmp .ne 5, 3) := by decide +kernel
theorem dX4_named_5 : decode cX4_named 5 = .ok (.iload_n 1, 1) := by decide +kernel
theorem dX4_named_6 : decode cX4_named 6 = .ok (.ireturn, 1) := by decide +kernel
theorem dX4_named_7 : decode cX4_named 7 = .ok (.iload_n 0, 1) := by decide +kernel
theorem dX4_named_8 : decode cX4_named 8 = .ok (.bipush (-2), 2) := by decide +kernel
theorem dX4_named_10 : decode cX4_named 10 = .ok (.if_icmp .ne 7, 3) := by decide +kernel
theorem dX4_named_13 : decode cX4_named 13 = .ok (.iload_n 2, 1) := by decide +kernel
theorem dX4_named_14 : decode cX4_named 14 = .ok (.goto 4, 3) := by decide +kernel
theorem dX4_named_17 : decode cX4_named 17 = .ok (.iload_n 3, 1) := by decide +kernel
theorem dX4_named_18 : decode cX4_named 18 = .ok (.ireturn, 1) := by decide +kernel
theorem dX4_joined_0 : decode cX4_joined 0 = .ok (.iload_n 0, 1) := by decide +kernel
theorem dX4_joined_1 : decode cX4_joined 1 = .ok (.lookupswitch 168 #[(38, 97), (42, 152), (43, 144), (45, 148), (47, 156), (60, 111), (61, 122), (62, 133), (124, 83)], 83) := by decide +kernel
theorem dX4_joined_84 : decode cX4_joined 84 = .ok (.iload_n 1, 1) := by decide +kernel
theorem dX4_joined_85 : decode cX4_joined 85 = .ok (.ifCond .ne 7, 3) := by decide +kernel
theorem dX4_joined_88 : decode cX4_joined 88 = .ok (.iload_n 2, 1) := by decide +kernel
theorem dX4_joined_89 : decode cX4_joined 89 = .ok (.ifCond .eq 7, 3) := by decide +kernel
theorem dX4_joined_92 : decode cX4_joined 92 = .ok (.iconst 1, 1) := by decide +kernel
theorem dX4_joined_93 : decode cX4_joined 93 = .ok (.goto 4, 3) := by decide +kernel
theorem dX4_joined_96 : decode cX4_joined 96 = .ok (.iconst 0, 1) := by decide +kernel
theorem dX4_joined_97 : decode cX4_joined 97 = .ok (.ireturn, 1) := by decide +kernel
theorem dX4_joined_98 : decode cX4_joined 98 = .ok (.iload_n 1, 1) := by decide +kernel
theorem dX4_joined_99 : decode cX4_joined 99 = .ok (.ifCond .eq 11, 3) := by decide +kernel
theorem dX4_joined_102 : decode cX4_joined 102 = .ok (.iload_n 2, 1) := by decide +kernel
theorem dX4_joined_103 : decode cX4_joined 103 = .ok (.ifCond .eq 7, 3) := by decide +kernel
theorem dX4_joined_106 : decode cX4_joined 106 = .ok (.iconst 1, 1) := by decide +kernel
theorem dX4_joined_107 : decode cX4_joined 107 = .ok (.goto 4, 3) := by decide +kernel
theorem dX4_joined_110 : decode cX4_joined 110 = .ok (.iconst 0, 1) := by decide +kernel
theorem dX4_joined_111 : decode cX4_joined 111 = .ok (.ireturn, 1) := by decide +kernel
theorem dX4_joined_112 : decode cX4_joined 112 = .ok (.iload_n 1, 1) := by decide +kernel
theorem dX4_joined_113 : decode cX4_joined 113 = .ok (.iload_n 2, 1) := by decide +kernel
theorem dX4_joined_114 : decode cX4_joined 114 = .ok (.if_icmp .ge 7, 3) := by decide +kernel
theorem dX4_joined_117 : decode cX4_joined 117 = .ok (.iconst 1, 1) := by decide +kernel
theorem dX4_joined_118 : decode cX4_joined 118 = .ok (.goto 4, 3) := by decide +kernel
theorem dX4_joined_121 : decode cX4_joined 121 = .ok (.iconst 0, 1) := by decide +kernel
theorem dX4_joined_122 : decode cX4_joined 122 = .ok (.ireturn, 1) := by decide +kernel
theorem dX4_joined_123 : decode cX4_joined 123 = .ok (.iload_n 1, 1) := by decide +kernel
theorem dX4_joined_124 : decode cX4_joined 124 = .ok (.iload_n 2, 1) := by decide +kernel
theorem dX4_joined_125 : decode cX4_joined 125 = .ok (.if_icmp .ne 7, 3) := by decide +kernel
theorem dX4_joined_128 : decode cX4_joined 128 = .ok (.iconst 1, 1) := by decide +kernel
theorem dX4_joined_129 : decode cX4_joined 129 = .ok (.goto 4, 3) := by decide +kernel
theorem dX4_joined_132 : decode cX4_joined 132 = .ok (.iconst 0, 1) := by decide +kernel
theorem dX4_joined_133 : decode cX4_joined 133 = .ok (.ireturn, 1) := by decide +kernel
theorem dX4_joined_134 : decode cX4_joined 134 = .ok (.iload_n 1, 1) := by decide +kernel
theorem dX4_joined_135 : decode cX4_joined 135 = .ok (.iload_n 2, 1) := by decide +kernel
theorem dX4_joined_136 : decode cX4_joined 136 = .ok (.if_icmp .le 7, 3) := by decide +kernel
theorem dX4_joined_139 : decode cX4_joined 139 = .ok (.iconst 1, 1) := by decide +kernel
theorem dX4_joined_140 : decode cX4_joined 140 = .ok (.goto 4, 3) := by decide +kernel
theorem dX4_joined_143 : decode cX4_joined 143 = .ok (.iconst 0, 1) := by decide +kernel
theorem dX4_joined_144 : decode cX4_joined 144 = .ok (.ireturn, 1) := by decide +kernel
theorem dX4_joined_145 : decode cX4_joined 145 = .ok (.iload_n 1, 1) := by decide +kernel
theorem dX4_joined_146 : decode cX4_joined 146 = .ok (.iload_n 2, 1) := by decide +kernel
theorem dX4_joined_147 : decode cX4_joined 147 = .ok (.iadd, 1) := by decide +kernel
theorem dX4_joined_148 : decode cX4_joined 148 = .ok (.ireturn, 1) := by decide +kernel
theorem dX4_joined_149 : decode cX4_joined 149 = .ok (.iload_n 1, 1) := by decide +kernel
theorem dX4_joined_150 : decode cX4_joined 150 = .ok (.iload_n 2, 1) := by decide +kernel
theorem dX4_joined_151 : decode cX4_joined 151 = .ok (.isub, 1) := by decide +kernel
theorem dX4_joined_152 : decode cX4_joined 152 = .ok (.ireturn, 1) := by decide +kernel
theorem dX4_joined_153 : decode cX4_joined 153 = .ok (.iload_n 1, 1) := by decide +kernel
theorem dX4_joined_154 : decode cX4_joined 154 = .ok (.iload_n 2, 1) := by decide +kernel
theorem dX4_joined_155 : decode cX4_joined 155 = .ok (.imul, 1) := by decide +kernel
theorem dX4_joined_156 : decode cX4_joined 156 = .ok (.ireturn, 1) := by decide +kernel
theorem dX4_joined_157 : decode cX4_joined 157 = .ok (.iload_n 2, 1) := by decide +kernel
theorem dX4_joined_158 : decode cX4_joined 158 = .ok (.ifCond .ne 7, 3) := by decide +kernel
theorem dX4_joined_161 : decode cX4_joined 161 = .ok (.iconst 0, 1) := by decide +kernel
theorem dX4_joined_162 : decode cX4_joined 162 = .ok (.goto 6, 3) := by decide +kernel
theorem dX4_joined_165 : decode cX4_joined 165 = .ok (.iload_n 1, 1) := by decide +kernel
theorem dX4_joined_166 : decode cX4_joined 166 = .ok (.iload_n 2, 1) := by decide +kernel
theorem dX4_joined_167 : decode cX4_joined 167 = .ok (.idiv, 1) := by decide +kernel
theorem dX4_joined_168 : decode cX4_joined 168 = .ok (.ireturn, 1) := by decide +kernel
theorem dX4_joined_169 : decode cX4_joined 169 = .ok (.iload_n 2, 1) := by decide +kernel
theorem dX4_joined_170 : decode cX4_joined 170 = .ok (.ifCond .ne 7, 3) := by decide +kernel
theorem dX4_joined_173 : decode cX4_joined 173 = .ok (.iconst 0, 1) := by decide +kernel
theorem dX4_joined_174 : decode cX4_joined 174 = .ok (.goto 6, 3) := by decide +kernel
theorem dX4_joined_177 : decode cX4_joined 177 = .ok (.iload_n 1, 1) := by decide +kernel
theorem dX4_joined_178 : decode cX4_joined 178 = .ok (.iload_n 2, 1) := by decide +kernel
theorem dX4_joined_179 : decode cX4_joined 179 = .ok (.irem, 1) := by decide +kernel
theorem dX4_joined_180 : decode cX4_joined 180 = .ok (.ireturn, 1) := by decide +kernel
theorem dX5_init_0 : decode cX5_init 0 = .ok (.aload_n 0, 1) := by decide +kernel
theorem dX5_init_1 : decode cX5_init 1 = .ok (.iload_n 1, 1) := by decide +kernel
theorem dX5_init_2 : decode cX5_init 2 = .ok (.iload_n 2, 1) := by decide +kernel
theorem dX5_init_3 : decode cX5_init 3 = .ok (.invokespecial 1, 3) := by decide +kernel
theorem dX5_init_6 : decode cX5_init 6 = .ok (.return_, 1) := by decide +kernel
theorem dX5_kind_0 : decode cX5_kind 0 = .ok (.iconst 4, 1) := by decide +kernel
theorem dX5_kind_1 : decode cX5_kind 1 = .ok (.ireturn, 1) := by decide +kernel
theorem dX5_isOf_0 : decode cX5_isOf 0 = .ok (.iload_n 1, 1) := by decide +kernel
theorem dX5_isOf_1 : decode cX5_isOf 1 = .ok (.iconst 4, 1) := by decide +kernel
theorem dX5_isOf_2 : decode cX5_isOf 2 = .ok (.if_icmp .eq 11, 3) := by decide +kernel
theorem dX5_isOf_5 : decode cX5_isOf 5 = .ok (.aload_n 0, 1) := by decide +kernel
theorem dX5_isOf_6 : decode cX5_isOf 6 = .ok (.iload_n 1, 1) := by decide +kernel
theorem dX5_isOf_7 : decode cX5_isOf 7 = .ok (.invokespecial 7, 3) := by decide +kernel
theorem dX5_isOf_10 : decode cX5_isOf 10 = .ok (.ifCond .eq 7, 3) := by decide +kernel
theorem dX5_isOf_13 : decode cX5_isOf 13 = .ok (.iconst 1, 1) := by decide +kernel
theorem dX5_isOf_14 : decode cX5_isOf 14 = .ok (.goto 4, 3) := by decide +kernel
theorem dX5_isOf_17 : decode cX5_isOf 17 = .ok (.iconst 0, 1) := by decide +kernel
theorem dX5_isOf_18 : decode cX5_isOf 18 = .ok (.ireturn, 1) := by decide +kernel
theorem dX5_due_0 : decode cX5_due 0 = .ok (.iload_n 1, 1) := by decide +kernel
theorem dX5_due_1 : decode cX5_due 1 = .ok (.aload_n 0, 1) := by decide +kernel
theorem dX5_due_2 : decode cX5_due 2 = .ok (.getfield 11, 3) := by decide +kernel
theorem dX5_due_5 : decode cX5_due 5 = .ok (.iconst 2, 1) := by decide +kernel
theorem dX5_due_6 : decode cX5_due 6 = .ok (.iadd, 1) := by decide +kernel
theorem dX5_due_7 : decode cX5_due 7 = .ok (.invokestatic 17, 3) := by decide +kernel
theorem dX5_due_10 : decode cX5_due 10 = .ok (.ireturn, 1) := by decide +kernel
theorem dX5_comes_0 : decode cX5_comes 0 = .ok (.aload_n 1, 1) := by decide +kernel
theorem dX5_comes_1 : decode cX5_comes 1 = .ok (.bipush 60, 2) := by decide +kernel
theorem dX5_comes_3 : decode cX5_comes 3 = .ok (.invokevirtual 23, 3) := by decide +kernel
theorem dX5_comes_6 : decode cX5_comes 6 = .ok (.aload_n 0, 1) := by decide +kernel
theorem dX5_comes_7 : decode cX5_comes 7 = .ok (.aload_n 1, 1) := by decide +kernel
theorem dX5_comes_8 : decode cX5_comes 8 = .ok (.iload_n 2, 1) := by decide +kernel
theorem dX5_comes_9 : decode cX5_comes 9 = .ok (.iconst 1, 1) := by decide +kernel
theorem dX5_comes_10 : decode cX5_comes 10 = .ok (.iadd, 1) := by decide +kernel
theorem dX5_comes_11 : decode cX5_comes 11 = .ok (.invokespecial 29, 3) := by decide +kernel
theorem dX5_comes_14 : decode cX5_comes 14 = .ok (.ireturn, 1) := by decide +kernel
theorem dX6_init_0 : decode cX6_init 0 = .ok (.aload_n 0, 1) := by decide +kernel
theorem dX6_init_1 : decode cX6_init 1 = .ok (.iload_n 1, 1) := by decide +kernel
theorem dX6_init_2 : decode cX6_init 2 = .ok (.iload_n 2, 1) := by decide +kernel
theorem dX6_init_3 : decode cX6_init 3 = .ok (.invokespecial 1, 3) := by decide +kernel
theorem dX6_init_6 : decode cX6_init 6 = .ok (.return_, 1) := by decide +kernel
theorem dX6_kind_0 : decode cX6_kind 0 = .ok (.iconst 2, 1) := by decide +kernel
theorem dX6_kind_1 : decode cX6_kind 1 = .ok (.ireturn, 1) := by decide +kernel
theorem dX6_isOf_0 : decode cX6_isOf 0 = .ok (.iload_n 1, 1) := by decide +kernel
theorem dX6_isOf_1 : decode cX6_isOf 1 = .ok (.iconst 2, 1) := by decide +kernel
theorem dX6_isOf_2 : decode cX6_isOf 2 = .ok (.if_icmp .eq 11, 3) := by decide +kernel
theorem dX6_isOf_5 : decode cX6_isOf 5 = .ok (.aload_n 0, 1) := by decide +kernel
theorem dX6_isOf_6 : decode cX6_isOf 6 = .ok (.iload_n 1, 1) := by decide +kernel
theorem dX6_isOf_7 : decode cX6_isOf 7 = .ok (.invokespecial 7, 3) := by decide +kernel
theorem dX6_isOf_10 : decode cX6_isOf 10 = .ok (.ifCond .eq 7, 3) := by decide +kernel
theorem dX6_isOf_13 : decode cX6_isOf 13 = .ok (.iconst 1, 1) := by decide +kernel
theorem dX6_isOf_14 : decode cX6_isOf 14 = .ok (.goto 4, 3) := by decide +kernel
theorem dX6_isOf_17 : decode cX6_isOf 17 = .ok (.iconst 0, 1) := by decide +kernel
theorem dX6_isOf_18 : decode cX6_isOf 18 = .ok (.ireturn, 1) := by decide +kernel
theorem dX6_due_0 : decode cX6_due 0 = .ok (.iload_n 1, 1) := by decide +kernel
theorem dX6_due_1 : decode cX6_due 1 = .ok (.bipush 10, 2) := by decide +kernel
theorem dX6_due_3 : decode cX6_due 3 = .ok (.invokestatic 11, 3) := by decide +kernel
theorem dX6_due_6 : decode cX6_due 6 = .ok (.ireturn, 1) := by decide +kernel
theorem dX6_comes_0 : decode cX6_comes 0 = .ok (.aload_n 1, 1) := by decide +kernel
theorem dX6_comes_1 : decode cX6_comes 1 = .ok (.bipush 30, 2) := by decide +kernel
theorem dX6_comes_3 : decode cX6_comes 3 = .ok (.invokevirtual 17, 3) := by decide +kernel
theorem dX6_comes_6 : decode cX6_comes 6 = .ok (.iconst 0, 1) := by decide +kernel
theorem dX6_comes_7 : decode cX6_comes 7 = .ok (.aload_n 0, 1) := by decide +kernel
theorem dX6_comes_8 : decode cX6_comes 8 = .ok (.aload_n 1, 1) := by decide +kernel
theorem dX6_comes_9 : decode cX6_comes 9 = .ok (.iload_n 2, 1) := by decide +kernel
theorem dX6_comes_10 : decode cX6_comes 10 = .ok (.invokespecial 23, 3) := by decide +kernel
theorem dX6_comes_13 : decode cX6_comes 13 = .ok (.isub, 1) := by decide +kernel
theorem dX6_comes_14 : decode cX6_comes 14 = .ok (.ireturn, 1) := by decide +kernel
theorem dX7_init_0 : decode cX7_init 0 = .ok (.aload_n 0, 1) := by decide +kernel
theorem dX7_init_1 : decode cX7_init 1 = .ok (.invokespecial 3, 3) := by decide +kernel
theorem dX7_init_4 : decode cX7_init 4 = .ok (.aload_n 0, 1) := by decide +kernel
theorem dX7_init_5 : decode cX7_init 5 = .ok (.iconst 3, 1) := by decide +kernel
theorem dX7_init_6 : decode cX7_init 6 = .ok (.bipush 8, 2) := by decide +kernel
theorem dX7_init_8 : decode cX7_init 8 = .ok (.multianewarray 9 2, 4) := by decide +kernel
theorem dX7_init_12 : decode cX7_init 12 = .ok (.putfield 11, 3) := by decide +kernel
theorem dX7_init_15 : decode cX7_init 15 = .ok (.aload_n 0, 1) := by decide +kernel
theorem dX7_init_16 : decode cX7_init 16 = .ok (.iconst 4, 1) := by decide +kernel
theorem dX7_init_17 : decode cX7_init 17 = .ok (.anewarray 16, 3) := by decide +kernel
theorem dX7_init_20 : decode cX7_init 20 = .ok (.putfield 18, 3) := by decide +kernel
theorem dX7_init_23 : decode cX7_init 23 = .ok (.aload_n 0, 1) := by decide +kernel
theorem dX7_init_24 : decode cX7_init 24 = .ok (.iconst 0, 1) := by decide +kernel
theorem dX7_init_25 : decode cX7_init 25 = .ok (.putfield 22, 3) := by decide +kernel
theorem dX7_init_28 : decode cX7_init 28 = .ok (.aload_n 0, 1) := by decide +kernel
theorem dX7_init_29 : decode cX7_init 29 = .ok (.iconst 0, 1) := by decide +kernel
theorem dX7_init_30 : decode cX7_init 30 = .ok (.putfield 26, 3) := by decide +kernel
theorem dX7_init_33 : decode cX7_init 33 = .ok (.aload_n 0, 1) := by decide +kernel
theorem dX7_init_34 : decode cX7_init 34 = .ok (.iconst 0, 1) := by decide +kernel
theorem dX7_init_35 : decode cX7_init 35 = .ok (.putfield 29, 3) := by decide +kernel
theorem dX7_init_38 : decode cX7_init 38 = .ok (.aload_n 0, 1) := by decide +kernel
theorem dX7_init_39 : decode cX7_init 39 = .ok (.iconst 1, 1) := by decide +kernel
theorem dX7_init_40 : decode cX7_init 40 = .ok (.putfield 32, 3) := by decide +kernel
theorem dX7_init_43 : decode cX7_init 43 = .ok (.aload_n 0, 1) := by decide +kernel
theorem dX7_init_44 : decode cX7_init 44 = .ok (.bipush 60, 2) := by decide +kernel
theorem dX7_init_46 : decode cX7_init 46 = .ok (.newarray .int, 2) := by decide +kernel
theorem dX7_init_48 : decode cX7_init 48 = .ok (.putfield 35, 3) := by decide +kernel
theorem dX7_init_51 : decode cX7_init 51 = .ok (.aload_n 0, 1) := by decide +kernel
theorem dX7_init_52 : decode cX7_init 52 = .ok (.iconst 0, 1) := by decide +kernel
theorem dX7_init_53 : decode cX7_init 53 = .ok (.putfield 39, 3) := by decide +kernel
theorem dX7_init_56 : decode cX7_init 56 = .ok (.aload_n 0, 1) := by decide +kernel
theorem dX7_init_57 : decode cX7_init 57 = .ok (.new 42, 3) := by decide +kernel
theorem dX7_init_60 : decode cX7_init 60 = .ok (.dup, 1) := by decide +kernel
theorem dX7_init_61 : decode cX7_init 61 = .ok (.ldc 44, 2) := by decide +kernel
theorem dX7_init_63 : decode cX7_init 63 = .ok (.invokespecial 46, 3) := by decide +kernel
theorem dX7_init_66 : decode cX7_init 66 = .ok (.putfield 49, 3) := by decide +kernel
theorem dX7_init_69 : decode cX7_init 69 = .ok (.aload_n 0, 1) := by decide +kernel
theorem dX7_init_70 : decode cX7_init 70 = .ok (.new 42, 3) := by decide +kernel
theorem dX7_init_73 : decode cX7_init 73 = .ok (.dup, 1) := by decide +kernel
theorem dX7_init_74 : decode cX7_init 74 = .ok (.ldc 53, 2) := by decide +kernel
theorem dX7_init_76 : decode cX7_init 76 = .ok (.invokespecial 46, 3) := by decide +kernel
theorem dX7_init_79 : decode cX7_init 79 = .ok (.putfield 55, 3) := by decide +kernel
theorem dX7_init_82 : decode cX7_init 82 = .ok (.aload_n 0, 1) := by decide +kernel
theorem dX7_init_83 : decode cX7_init 83 = .ok (.bipush 24, 2) := by decide +kernel
theorem dX7_init_85 : decode cX7_init 85 = .ok (.newarray .int, 2) := by decide +kernel
theorem dX7_init_87 : decode cX7_init 87 = .ok (.putfield 58, 3) := by decide +kernel
theorem dX7_init_90 : decode cX7_init 90 = .ok (.aload_n 0, 1) := by decide +kernel
theorem dX7_init_91 : decode cX7_init 91 = .ok (.iconst 0, 1) := by decide +kernel
theorem dX7_init_92 : decode cX7_init 92 = .ok (.putfield 61, 3) := by decide +kernel
theorem dX7_init_95 : decode cX7_init 95 = .ok (.iconst 0, 1) := by decide +kernel
theorem dX7_init_96 : decode cX7_init 96 = .ok (.istore_n 1, 1) := by decide +kernel
theorem dX7_init_97 : decode cX7_init 97 = .ok (.iload_n 1, 1) := by decide +kernel
theorem dX7_init_98 : decode cX7_init 98 = .ok (.bipush 8, 2) := by decide +kernel
theorem dX7_init_100 : decode cX7_init 100 = .ok (.if_icmp .ge 32, 3) := by decide +kernel
theorem dX7_init_103 : decode cX7_init 103 = .ok (.aload_n 0, 1) := by decide +kernel
theorem dX7_init_104 : decode cX7_init 104 = .ok (.getfield 11, 3) := by decide +kernel
theorem dX7_init_107 : decode cX7_init 107 = .ok (.iconst 0, 1) := by decide +kernel
theorem dX7_init_108 : decode cX7_init 108 = .ok (.aaload, 1) := by decide +kernel
theorem dX7_init_109 : decode cX7_init 109 = .ok (.iload_n 1, 1) := by decide +kernel
theorem dX7_init_110 : decode cX7_init 110 = .ok (.getstatic 64, 3) := by decide +kernel
theorem dX7_init_113 : decode cX7_init 113 = .ok (.iload_n 1, 1) := by decide +kernel
theorem dX7_init_114 : decode cX7_init 114 = .ok (.iaload, 1) := by decide +kernel
theorem dX7_init_115 : decode cX7_init 115 = .ok (.iastore, 1) := by decide +kernel
theorem dX7_init_116 : decode cX7_init 116 = .ok (.aload_n 0, 1) := by decide +kernel
theorem dX7_init_117 : decode cX7_init 117 = .ok (.getfield 11, 3) := by decide +kernel
theorem dX7_init_120 : decode cX7_init 120 = .ok (.iconst 2, 1) := by decide +kernel
theorem dX7_init_121 : decode cX7_init 121 = .ok (.aaload, 1) := by decide +kernel
theorem dX7_init_122 : decode cX7_init 122 = .ok (.iload_n 1, 1) := by decide +kernel
theorem dX7_init_123 : decode cX7_init 123 = .ok (.bipush 9, 2) := by decide +kernel
theorem dX7_init_125 : decode cX7_init 125 = .ok (.iastore, 1) := by decide +kernel
theorem dX7_init_126 : decode cX7_init 126 = .ok (.iinc 1 1, 3) := by decide +kernel
theorem dX7_init_129 : decode cX7_init 129 = .ok (.goto (-32), 3) := by decide +kernel
theorem dX7_init_132 : decode cX7_init 132 = .ok (.iconst 0, 1) := by decide +kernel
theorem dX7_init_133 : decode cX7_init 133 = .ok (.istore_n 1, 1) := by decide +kernel
theorem dX7_init_134 : decode cX7_init 134 = .ok (.iload_n 1, 1) := by decide +kernel
theorem dX7_init_135 : decode cX7_init 135 = .ok (.iconst 4, 1) := by decide +kernel
theorem dX7_init_136 : decode cX7_init 136 = .ok (.if_icmp .ge 21, 3) := by decide +kernel
theorem dX7_init_139 : decode cX7_init 139 = .ok (.aload_n 0, 1) := by decide +kernel
theorem dX7_init_140 : decode cX7_init 140 = .ok (.getfield 18, 3) := by decide +kernel
theorem dX7_init_143 : decode cX7_init 143 = .ok (.iload_n 1, 1) := by decide +kernel
theorem dX7_init_144 : decode cX7_init 144 = .ok (.iconst 0, 1) := by decide +kernel
theorem dX7_init_145 : decode cX7_init 145 = .ok (.iload_n 1, 1) := by decide +kernel
theorem dX7_init_146 : decode cX7_init 146 = .ok (.iconst 0, 1) := by decide +kernel
theorem dX7_init_147 : decode cX7_init 147 = .ok (.invokestatic 67, 3) := by decide +kernel
theorem dX7_init_150 : decode cX7_init 150 = .ok (.aastore, 1) := by decide +kernel
theorem dX7_init_151 : decode cX7_init 151 = .ok (.iinc 1 1, 3) := by decide +kernel
theorem dX7_init_154 : decode cX7_init 154 = .ok (.goto (-20), 3) := by decide +kernel
theorem dX7_init_157 : decode cX7_init 157 = .ok (.return_, 1) := by decide +kernel
theorem dX7_become_0 : decode cX7_become 0 = .ok (.iconst 0, 1) := by decide +kernel
theorem dX7_become_1 : decode cX7_become 1 = .ok (.istore_n 2, 1) := by decide +kernel
theorem dX7_become_2 : decode cX7_become 2 = .ok (.iload_n 2, 1) := by decide +kernel
theorem dX7_become_3 : decode cX7_become 3 = .ok (.iconst 2, 1) := by decide +kernel
theorem dX7_become_4 : decode cX7_become 4 = .ok (.if_icmp .gt 28, 3) := by decide +kernel
theorem dX7_become_7 : decode cX7_become 7 = .ok (.aload_n 1, 1) := by decide +kernel
theorem dX7_become_8 : decode cX7_become 8 = .ok (.getfield 11, 3) := by decide +kernel
theorem dX7_become_11 : decode cX7_become 11 = .ok (.iload_n 2, 1) := by decide +kernel
theorem dX7_become_12 : decode cX7_become 12 = .ok (.aaload, 1) := by decide +kernel
theorem dX7_become_13 : decode cX7_become 13 = .ok (.iconst 0, 1) := by decide +kernel
theorem dX7_become_14 : decode cX7_become 14 = .ok (.aload_n 0, 1) := by decide +kernel
theorem dX7_become_15 : decode cX7_become 15 = .ok (.getfield 11, 3) := by decide +kernel
theorem dX7_become_18 : decode cX7_become 18 = .ok (.iload_n 2, 1) := by decide +kernel
theorem dX7_become_19 : decode cX7_become 19 = .ok (.aaload, 1) := by decide +kernel
theorem dX7_become_20 : decode cX7_become 20 = .ok (.iconst 0, 1) := by decide +kernel
theorem dX7_become_21 : decode cX7_become 21 = .ok (.bipush 8, 2) := by decide +kernel
theorem dX7_become_23 : decode cX7_become 23 = .ok (.invokestatic 71, 3) := by decide +kernel
theorem dX7_become_26 : decode cX7_become 26 = .ok (.iinc 2 1, 3) := by decide +kernel
theorem dX7_become_29 : decode cX7_become 29 = .ok (.goto (-27), 3) := by decide +kernel
theorem dX7_become_32 : decode cX7_become 32 = .ok (.iconst 0, 1) := by decide +kernel
theorem dX7_become_33 : decode cX7_become 33 = .ok (.istore_n 2, 1) := by decide +kernel
theorem dX7_become_34 : decode cX7_become 34 = .ok (.iload_n 2, 1) := by decide +kernel
theorem dX7_become_35 : decode cX7_become 35 = .ok (.iconst 4, 1) := by decide +kernel
theorem dX7_become_36 : decode cX7_become 36 = .ok (.if_icmp .ge 21, 3) := by decide +kernel
theorem dX7_become_39 : decode cX7_become 39 = .ok (.aload_n 0, 1) := by decide +kernel
theorem dX7_become_40 : decode cX7_become 40 = .ok (.getfield 18, 3) := by decide +kernel
theorem dX7_become_43 : decode cX7_become 43 = .ok (.iload_n 2, 1) := by decide +kernel
theorem dX7_become_44 : decode cX7_become 44 = .ok (.aload_n 1, 1) := by decide +kernel
theorem dX7_become_45 : decode cX7_become 45 = .ok (.getfield 18, 3) := by decide +kernel
theorem dX7_become_48 : decode cX7_become 48 = .ok (.iload_n 2, 1) := by decide +kernel
theorem dX7_become_49 : decode cX7_become 49 = .ok (.aaload, 1) := by decide +kernel
theorem dX7_become_50 : decode cX7_become 50 = .ok (.aastore, 1) := by decide +kernel
theorem dX7_become_51 : decode cX7_become 51 = .ok (.iinc 2 1, 3) := by decide +kernel
theorem dX7_become_54 : decode cX7_become 54 = .ok (.goto (-20), 3) := by decide +kernel
theorem dX7_become_57 : decode cX7_become 57 = .ok (.aload_n 0, 1) := by decide +kernel
theorem dX7_become_58 : decode cX7_become 58 = .ok (.aload_n 1, 1) := by decide +kernel
theorem dX7_become_59 : decode cX7_become 59 = .ok (.getfield 22, 3) := by decide +kernel
theorem dX7_become_62 : decode cX7_become 62 = .ok (.putfield 22, 3) := by decide +kernel
theorem dX7_become_65 : decode cX7_become 65 = .ok (.aload_n 0, 1) := by decide +kernel
theorem dX7_become_66 : decode cX7_become 66 = .ok (.aload_n 1, 1) := by decide +kernel
theorem dX7_become_67 : decode cX7_become 67 = .ok (.getfield 26, 3) := by decide +kernel
theorem dX7_become_70 : decode cX7_become 70 = .ok (.putfield 26, 3) := by decide +kernel
theorem dX7_become_73 : decode cX7_become 73 = .ok (.aload_n 0, 1) := by decide +kernel
theorem dX7_become_74 : decode cX7_become 74 = .ok (.aload_n 1, 1) := by decide +kernel
theorem dX7_become_75 : decode cX7_become 75 = .ok (.getfield 29, 3) := by decide +kernel
theorem dX7_become_78 : decode cX7_become 78 = .ok (.putfield 29, 3) := by decide +kernel
theorem dX7_become_81 : decode cX7_become 81 = .ok (.aload_n 0, 1) := by decide +kernel
theorem dX7_become_82 : decode cX7_become 82 = .ok (.aload_n 1, 1) := by decide +kernel
theorem dX7_become_83 : decode cX7_become 83 = .ok (.getfield 32, 3) := by decide +kernel
theorem dX7_become_86 : decode cX7_become 86 = .ok (.putfield 32, 3) := by decide +kernel
theorem dX7_become_89 : decode cX7_become 89 = .ok (.aload_n 1, 1) := by decide +kernel
theorem dX7_become_90 : decode cX7_become 90 = .ok (.getfield 35, 3) := by decide +kernel
theorem dX7_become_93 : decode cX7_become 93 = .ok (.iconst 0, 1) := by decide +kernel
theorem dX7_become_94 : decode cX7_become 94 = .ok (.aload_n 0, 1) := by decide +kernel
theorem dX7_become_95 : decode cX7_become 95 = .ok (.getfield 35, 3) := by decide +kernel
theorem dX7_become_98 : decode cX7_become 98 = .ok (.iconst 0, 1) := by decide +kernel
theorem dX7_become_99 : decode cX7_become 99 = .ok (.bipush 60, 2) := by decide +kernel
theorem dX7_become_101 : decode cX7_become 101 = .ok (.invokestatic 71, 3) := by decide +kernel
theorem dX7_become_104 : decode cX7_become 104 = .ok (.aload_n 0, 1) := by decide +kernel
theorem dX7_become_105 : decode cX7_become 105 = .ok (.aload_n 1, 1) := by decide +kernel
theorem dX7_become_106 : decode cX7_become 106 = .ok (.getfield 39, 3) := by decide +kernel
theorem dX7_become_109 : decode cX7_become 109 = .ok (.putfield 39, 3) := by decide +kernel
theorem dX7_become_112 : decode cX7_become 112 = .ok (.aload_n 0, 1) := by decide +kernel
theorem dX7_become_113 : decode cX7_become 113 = .ok (.getfield 49, 3) := by decide +kernel
theorem dX7_become_116 : decode cX7_become 116 = .ok (.aload_n 1, 1) := by decide +kernel
theorem dX7_become_117 : decode cX7_become 117 = .ok (.getfield 49, 3) := by decide +kernel
theorem dX7_become_120 : decode cX7_become 120 = .ok (.invokevirtual 77, 3) := by decide +kernel
theorem dX7_become_123 : decode cX7_become 123 = .ok (.aload_n 0, 1) := by decide +kernel
theorem dX7_become_124 : decode cX7_become 124 = .ok (.getfield 55, 3) := by decide +kernel
theorem dX7_become_127 : decode cX7_become 127 = .ok (.aload_n 1, 1) := by decide +kernel
theorem dX7_become_128 : decode cX7_become 128 = .ok (.getfield 55, 3) := by decide +kernel
theorem dX7_become_131 : decode cX7_become 131 = .ok (.invokevirtual 77, 3) := by decide +kernel
theorem dX7_become_134 : decode cX7_become 134 = .ok (.aload_n 1, 1) := by decide +kernel
theorem dX7_become_135 : decode cX7_become 135 = .ok (.getfield 58, 3) := by decide +kernel
theorem dX7_become_138 : decode cX7_become 138 = .ok (.iconst 0, 1) := by decide +kernel
theorem dX7_become_139 : decode cX7_become 139 = .ok (.aload_n 0, 1) := by decide +kernel
theorem dX7_become_140 : decode cX7_become 140 = .ok (.getfield 58, 3) := by decide +kernel
theorem dX7_become_143 : decode cX7_become 143 = .ok (.iconst 0, 1) := by decide +kernel
theorem dX7_become_144 : decode cX7_become 144 = .ok (.bipush 24, 2) := by decide +kernel
theorem dX7_become_146 : decode cX7_become 146 = .ok (.invokestatic 71, 3) := by decide +kernel
theorem dX7_become_149 : decode cX7_become 149 = .ok (.aload_n 0, 1) := by decide +kernel
theorem dX7_become_150 : decode cX7_become 150 = .ok (.aload_n 1, 1) := by decide +kernel
theorem dX7_become_151 : decode cX7_become 151 = .ok (.getfield 61, 3) := by decide +kernel
theorem dX7_become_154 : decode cX7_become 154 = .ok (.putfield 61, 3) := by decide +kernel
theorem dX7_become_157 : decode cX7_become 157 = .ok (.return_, 1) := by decide +kernel
theorem dX7_law_0 : decode cX7_law 0 = .ok (.iload_n 1, 1) := by decide +kernel
theorem dX7_law_1 : decode cX7_law 1 = .ok (.ifCond .ne 10, 3) := by decide +kernel
theorem dX7_law_4 : decode cX7_law 4 = .ok (.aload_n 0, 1) := by decide +kernel
theorem dX7_law_5 : decode cX7_law 5 = .ok (.getfield 49, 3) := by decide +kernel
theorem dX7_law_8 : decode cX7_law 8 = .ok (.goto 7, 3) := by decide +kernel
theorem dX7_law_11 : decode cX7_law 11 = .ok (.aload_n 0, 1) := by decide +kernel
theorem dX7_law_12 : decode cX7_law 12 = .ok (.getfield 55, 3) := by decide +kernel
theorem dX7_law_15 : decode cX7_law 15 = .ok (.areturn, 1) := by decide +kernel
theorem dX7_paid_0 : decode cX7_paid 0 = .ok (.iload_n 3, 1) := by decide +kernel
theorem dX7_paid_1 : decode cX7_paid 1 = .ok (.ifCond .ne 7, 3) := by decide +kernel
theorem dX7_paid_4 : decode cX7_paid 4 = .ok (.iconst 0, 1) := by decide +kernel
theorem dX7_paid_5 : decode cX7_paid 5 = .ok (.goto 24, 3) := by decide +kernel
theorem dX7_paid_8 : decode cX7_paid 8 = .ok (.aload_n 0, 1) := by decide +kernel
theorem dX7_paid_9 : decode cX7_paid 9 = .ok (.getfield 18, 3) := by decide +kernel
theorem dX7_paid_12 : decode cX7_paid 12 = .ok (.iload_n 1, 1) := by decide +kernel
theorem dX7_paid_13 : decode cX7_paid 13 = .ok (.aaload, 1) := by decide +kernel
theorem dX7_paid_14 : decode cX7_paid 14 = .ok (.iload_n 2, 1) := by decide +kernel
theorem dX7_paid_15 : decode cX7_paid 15 = .ok (.iload_n 3, 1) := by decide +kernel
theorem dX7_paid_16 : decode cX7_paid 16 = .ok (.aload_n 0, 1) := by decide +kernel
theorem dX7_paid_17 : decode cX7_paid 17 = .ok (.getfield 49, 3) := by decide +kernel
theorem dX7_paid_20 : decode cX7_paid 20 = .ok (.invokevirtual 81, 3) := by decide +kernel
theorem dX7_paid_23 : decode cX7_paid 23 = .ok (.sipush 9999, 3) := by decide +kernel
theorem dX7_paid_26 : decode cX7_paid 26 = .ok (.invokestatic 85, 3) := by decide +kernel
theorem dX7_paid_29 : decode cX7_paid 29 = .ok (.ireturn, 1) := by decide +kernel
theorem dX7_valueOf_0 : decode cX7_valueOf 0 = .ok (.aload_n 0, 1) := by decide +kernel
theorem dX7_valueOf_1 : decode cX7_valueOf 1 = .ok (.getfield 55, 3) := by decide +kernel
theorem dX7_valueOf_4 : decode cX7_valueOf 4 = .ok (.invokevirtual 89, 3) := by decide +kernel
theorem dX7_valueOf_7 : decode cX7_valueOf 7 = .ok (.ifCond .ne 5, 3) := by decide +kernel
theorem dX7_valueOf_10 : decode cX7_valueOf 10 = .ok (.iconst 0, 1) := by decide +kernel
theorem dX7_valueOf_11 : decode cX7_valueOf 11 = .ok (.ireturn, 1) := by decide +kernel
theorem dX7_valueOf_12 : decode cX7_valueOf 12 = .ok (.aload_n 0, 1) := by decide +kernel
theorem dX7_valueOf_13 : decode cX7_valueOf 13 = .ok (.getfield 55, 3) := by decide +kernel
theorem dX7_valueOf_16 : decode cX7_valueOf 16 = .ok (.iload_n 1, 1) := by decide +kernel
theorem dX7_valueOf_17 : decode cX7_valueOf 17 = .ok (.aload_n 0, 1) := by decide +kernel
theorem dX7_valueOf_18 : decode cX7_valueOf 18 = .ok (.getfield 11, 3) := by decide +kernel
theorem dX7_valueOf_21 : decode cX7_valueOf 21 = .ok (.iconst 0, 1) := by decide +kernel
theorem dX7_valueOf_22 : decode cX7_valueOf 22 = .ok (.aaload, 1) := by decide +kernel
theorem dX7_valueOf_23 : decode cX7_valueOf 23 = .ok (.iload_n 1, 1) := by decide +kernel
theorem dX7_valueOf_24 : decode cX7_valueOf 24 = .ok (.iaload, 1) := by decide +kernel
theorem dX7_valueOf_25 : decode cX7_valueOf 25 = .ok (.aload_n 0, 1) := by decide +kernel
theorem dX7_valueOf_26 : decode cX7_valueOf 26 = .ok (.getfield 11, 3) := by decide +kernel
theorem dX7_valueOf_29 : decode cX7_valueOf 29 = .ok (.iconst 1, 1) := by decide +kernel
theorem dX7_valueOf_30 : decode cX7_valueOf 30 = .ok (.aaload, 1) := by decide +kernel
theorem dX7_valueOf_31 : decode cX7_valueOf 31 = .ok (.iload_n 1, 1) := by decide +kernel
theorem dX7_valueOf_32 : decode cX7_valueOf 32 = .ok (.iaload, 1) := by decide +kernel
theorem dX7_valueOf_33 : decode cX7_valueOf 33 = .ok (.invokevirtual 93, 3) := by decide +kernel
theorem dX7_valueOf_36 : decode cX7_valueOf 36 = .ok (.bipush 99, 2) := by decide +kernel
theorem dX7_valueOf_38 : decode cX7_valueOf 38 = .ok (.invokestatic 85, 3) := by decide +kernel
theorem dX7_valueOf_41 : decode cX7_valueOf 41 = .ok (.ireturn, 1) := by decide +kernel
theorem dX7_stockOfAll_0 : decode cX7_stockOfAll 0 = .ok (.iconst 0, 1) := by decide +kernel
theorem dX7_stockOfAll_1 : decode cX7_stockOfAll 1 = .ok (.istore_n 1, 1) := by decide +kernel
theorem dX7_stockOfAll_2 : decode cX7_stockOfAll 2 = .ok (.iconst 0, 1) := by decide +kernel
theorem dX7_stockOfAll_3 : decode cX7_stockOfAll 3 = .ok (.istore_n 2, 1) := by decide +kernel
theorem dX7_stockOfAll_4 : decode cX7_stockOfAll 4 = .ok (.iload_n 2, 1) := by decide +kernel
theorem dX7_stockOfAll_5 : decode cX7_stockOfAll 5 = .ok (.bipush 8, 2) := by decide +kernel
theorem dX7_stockOfAll_7 : decode cX7_stockOfAll 7 = .ok (.if_icmp .ge 20, 3) := by decide +kernel
theorem dX7_stockOfAll_10 : decode cX7_stockOfAll 10 = .ok (.iload_n 1, 1) := by decide +kernel
theorem dX7_stockOfAll_11 : decode cX7_stockOfAll 11 = .ok (.aload_n 0, 1) := by decide +kernel
theorem dX7_stockOfAll_12 : decode cX7_stockOfAll 12 = .ok (.getfield 11, 3) := by decide +kernel
theorem dX7_stockOfAll_15 : decode cX7_stockOfAll 15 = .ok (.iconst 2, 1) := by decide +kernel
theorem dX7_stockOfAll_16 : decode cX7_stockOfAll 16 = .ok (.aaload, 1) := by decide +kernel
theorem dX7_stockOfAll_17 : decode cX7_stockOfAll 17 = .ok (.iload_n 2, 1) := by decide +kernel
theorem dX7_stockOfAll_18 : decode cX7_stockOfAll 18 = .ok (.iaload, 1) := by decide +kernel
theorem dX7_stockOfAll_19 : decode cX7_stockOfAll 19 = .ok (.iadd, 1) := by decide +kernel
theorem dX7_stockOfAll_20 : decode cX7_stockOfAll 20 = .ok (.istore_n 1, 1) := by decide +kernel
theorem dX7_stockOfAll_21 : decode cX7_stockOfAll 21 = .ok (.iinc 2 1, 3) := by decide +kernel
theorem dX7_stockOfAll_24 : decode cX7_stockOfAll 24 = .ok (.goto (-20), 3) := by decide +kernel
theorem dX7_stockOfAll_27 : decode cX7_stockOfAll 27 = .ok (.iload_n 1, 1) := by decide +kernel
theorem dX7_stockOfAll_28 : decode cX7_stockOfAll 28 = .ok (.ireturn, 1) := by decide +kernel
theorem dX7_hasStock_0 : decode cX7_hasStock 0 = .ok (.iconst 0, 1) := by decide +kernel
theorem dX7_hasStock_1 : decode cX7_hasStock 1 = .ok (.istore_n 2, 1) := by decide +kernel
theorem dX7_hasStock_2 : decode cX7_hasStock 2 = .ok (.iload_n 2, 1) := by decide +kernel
theorem dX7_hasStock_3 : decode cX7_hasStock 3 = .ok (.bipush 8, 2) := by decide +kernel
theorem dX7_hasStock_5 : decode cX7_hasStock 5 = .ok (.if_icmp .ge 28, 3) := by decide +kernel
theorem dX7_hasStock_8 : decode cX7_hasStock 8 = .ok (.aload_n 0, 1) := by decide +kernel
theorem dX7_hasStock_9 : decode cX7_hasStock 9 = .ok (.getfield 11, 3) := by decide +kernel
theorem dX7_hasStock_12 : decode cX7_hasStock 12 = .ok (.iconst 2, 1) := by decide +kernel
theorem dX7_hasStock_13 : decode cX7_hasStock 13 = .ok (.aaload, 1) := by decide +kernel
theorem dX7_hasStock_14 : decode cX7_hasStock 14 = .ok (.iload_n 2, 1) := by decide +kernel
theorem dX7_hasStock_15 : decode cX7_hasStock 15 = .ok (.iaload, 1) := by decide +kernel
theorem dX7_hasStock_16 : decode cX7_hasStock 16 = .ok (.aload_n 1, 1) := by decide +kernel
theorem dX7_hasStock_17 : decode cX7_hasStock 17 = .ok (.getfield 97, 3) := by decide +kernel
theorem dX7_hasStock_20 : decode cX7_hasStock 20 = .ok (.iload_n 2, 1) := by decide +kernel
theorem dX7_hasStock_21 : decode cX7_hasStock 21 = .ok (.iaload, 1) := by decide +kernel
theorem dX7_hasStock_22 : decode cX7_hasStock 22 = .ok (.if_icmp .ge 5, 3) := by decide +kernel
theorem dX7_hasStock_25 : decode cX7_hasStock 25 = .ok (.iconst 0, 1) := by decide +kernel
theorem dX7_hasStock_26 : decode cX7_hasStock 26 = .ok (.ireturn, 1) := by decide +kernel
theorem dX7_hasStock_27 : decode cX7_hasStock 27 = .ok (.iinc 2 1, 3) := by decide +kernel
theorem dX7_hasStock_30 : decode cX7_hasStock 30 = .ok (.goto (-28), 3) := by decide +kernel
theorem dX7_hasStock_33 : decode cX7_hasStock 33 = .ok (.iconst 1, 1) := by decide +kernel
theorem dX7_hasStock_34 : decode cX7_hasStock 34 = .ok (.ireturn, 1) := by decide +kernel
theorem dX7_sold_0 : decode cX7_sold 0 = .ok (.aload_n 0, 1) := by decide +kernel
theorem dX7_sold_1 : decode cX7_sold 1 = .ok (.iload_n 2, 1) := by decide +kernel
theorem dX7_sold_2 : decode cX7_sold 2 = .ok (.aload_n 1, 1) := by decide +kernel
theorem dX7_sold_3 : decode cX7_sold 3 = .ok (.getfield 102, 3) := by decide +kernel
theorem dX7_sold_6 : decode cX7_sold 6 = .ok (.aload_n 1, 1) := by decide +kernel
theorem dX7_sold_7 : decode cX7_sold 7 = .ok (.getfield 105, 3) := by decide +kernel
theorem dX7_sold_10 : decode cX7_sold 10 = .ok (.invokevirtual 108, 3) := by decide +kernel
theorem dX7_sold_13 : decode cX7_sold 13 = .ok (.istore_n 3, 1) := by decide +kernel
theorem dX7_sold_14 : decode cX7_sold 14 = .ok (.iconst 0, 1) := by decide +kernel
theorem dX7_sold_15 : decode cX7_sold 15 = .ok (.istore 4, 2) := by decide +kernel
theorem dX7_sold_17 : decode cX7_sold 17 = .ok (.iload 4, 2) := by decide +kernel
theorem dX7_sold_19 : decode cX7_sold 19 = .ok (.bipush 8, 2) := by decide +kernel
theorem dX7_sold_21 : decode cX7_sold 21 = .ok (.if_icmp .ge 28, 3) := by decide +kernel
theorem dX7_sold_24 : decode cX7_sold 24 = .ok (.aload_n 0, 1) := by decide +kernel
theorem dX7_sold_25 : decode cX7_sold 25 = .ok (.getfield 11, 3) := by decide +kernel
theorem dX7_sold_28 : decode cX7_sold 28 = .ok (.iconst 2, 1) := by decide +kernel
theorem dX7_sold_29 : decode cX7_sold 29 = .ok (.aaload, 1) := by decide +kernel
theorem dX7_sold_30 : decode cX7_sold 30 = .ok (.iload 4, 2) := by decide +kernel
theorem dX7_sold_32 : decode cX7_sold 32 = .ok (.dup2, 1) := by decide +kernel
theorem dX7_sold_33 : decode cX7_sold 33 = .ok (.iaload, 1) := by decide +kernel
theorem dX7_sold_34 : decode cX7_sold 34 = .ok (.aload_n 1, 1) := by decide +kernel
theorem dX7_sold_35 : decode cX7_sold 35 = .ok (.getfield 97, 3) := by decide +kernel
theorem dX7_sold_38 : decode cX7_sold 38 = .ok (.iload 4, 2) := by decide +kernel
theorem dX7_sold_40 : decode cX7_sold 40 = .ok (.iaload, 1) := by decide +kernel
theorem dX7_sold_41 : decode cX7_sold 41 = .ok (.isub, 1) := by decide +kernel
theorem dX7_sold_42 : decode cX7_sold 42 = .ok (.iastore, 1) := by decide +kernel
theorem dX7_sold_43 : decode cX7_sold 43 = .ok (.iinc 4 1, 3) := by decide +kernel
theorem dX7_sold_46 : decode cX7_sold 46 = .ok (.goto (-29), 3) := by decide +kernel
theorem dX7_sold_49 : decode cX7_sold 49 = .ok (.aload_n 0, 1) := by decide +kernel
theorem dX7_sold_50 : decode cX7_sold 50 = .ok (.ldc 111, 2) := by decide +kernel
theorem dX7_sold_52 : decode cX7_sold 52 = .ok (.aload_n 0, 1) := by decide +kernel
theorem dX7_sold_53 : decode cX7_sold 53 = .ok (.getfield 22, 3) := by decide +kernel
theorem dX7_sold_56 : decode cX7_sold 56 = .ok (.iload_n 3, 1) := by decide +kernel
theorem dX7_sold_57 : decode cX7_sold 57 = .ok (.iadd, 1) := by decide +kernel
theorem dX7_sold_58 : decode cX7_sold 58 = .ok (.invokestatic 112, 3) := by decide +kernel
theorem dX7_sold_61 : decode cX7_sold 61 = .ok (.putfield 22, 3) := by decide +kernel
theorem dX7_sold_64 : decode cX7_sold 64 = .ok (.aload_n 0, 1) := by decide +kernel
theorem dX7_sold_65 : decode cX7_sold 65 = .ok (.ldc 111, 2) := by decide +kernel
theorem dX7_sold_67 : decode cX7_sold 67 = .ok (.aload_n 0, 1) := by decide +kernel
theorem dX7_sold_68 : decode cX7_sold 68 = .ok (.getfield 26, 3) := by decide +kernel
theorem dX7_sold_71 : decode cX7_sold 71 = .ok (.aload_n 1, 1) := by decide +kernel
theorem dX7_sold_72 : decode cX7_sold 72 = .ok (.aload_n 0, 1) := by decide +kernel
theorem dX7_sold_73 : decode cX7_sold 73 = .ok (.getfield 11, 3) := by decide +kernel
theorem dX7_sold_76 : decode cX7_sold 76 = .ok (.iconst 1, 1) := by decide +kernel
theorem dX7_sold_77 : decode cX7_sold 77 = .ok (.aaload, 1) := by decide +kernel
theorem dX7_sold_78 : decode cX7_sold 78 = .ok (.invokevirtual 117, 3) := by decide +kernel
theorem dX7_sold_81 : decode cX7_sold 81 = .ok (.iadd, 1) := by decide +kernel
theorem dX7_sold_82 : decode cX7_sold 82 = .ok (.invokestatic 112, 3) := by decide +kernel
theorem dX7_sold_85 : decode cX7_sold 85 = .ok (.putfield 26, 3) := by decide +kernel
theorem dX7_sold_88 : decode cX7_sold 88 = .ok (.aload_n 0, 1) := by decide +kernel
theorem dX7_sold_89 : decode cX7_sold 89 = .ok (.sipush 9999, 3) := by decide +kernel
theorem dX7_sold_92 : decode cX7_sold 92 = .ok (.aload_n 0, 1) := by decide +kernel
theorem dX7_sold_93 : decode cX7_sold 93 = .ok (.getfield 29, 3) := by decide +kernel
theorem dX7_sold_96 : decode cX7_sold 96 = .ok (.iconst 1, 1) := by decide +kernel
theorem dX7_sold_97 : decode cX7_sold 97 = .ok (.iadd, 1) := by decide +kernel
theorem dX7_sold_98 : decode cX7_sold 98 = .ok (.invokestatic 112, 3) := by decide +kernel
theorem dX7_sold_101 : decode cX7_sold 101 = .ok (.putfield 29, 3) := by decide +kernel
theorem dX7_sold_104 : decode cX7_sold 104 = .ok (.iload_n 3, 1) := by decide +kernel
theorem dX7_sold_105 : decode cX7_sold 105 = .ok (.ireturn, 1) := by decide +kernel
theorem dX7_drawn_0 : decode cX7_drawn 0 = .ok (.aload_n 0, 1) := by decide +kernel
theorem dX7_drawn_1 : decode cX7_drawn 1 = .ok (.aload_n 0, 1) := by decide +kernel
theorem dX7_drawn_2 : decode cX7_drawn 2 = .ok (.getfield 32, 3) := by decide +kernel
theorem dX7_drawn_5 : decode cX7_drawn 5 = .ok (.ldc 121, 2) := by decide +kernel
theorem dX7_drawn_7 : decode cX7_drawn 7 = .ok (.imul, 1) := by decide +kernel
theorem dX7_drawn_8 : decode cX7_drawn 8 = .ok (.sipush 12345, 3) := by decide +kernel
theorem dX7_drawn_11 : decode cX7_drawn 11 = .ok (.iadd, 1) := by decide +kernel
theorem dX7_drawn_12 : decode cX7_drawn 12 = .ok (.putfield 32, 3) := by decide +kernel
theorem dX7_drawn_15 : decode cX7_drawn 15 = .ok (.iload_n 1, 1) := by decide +kernel
theorem dX7_drawn_16 : decode cX7_drawn 16 = .ok (.ifCond .le 15, 3) := by decide +kernel
theorem dX7_drawn_19 : decode cX7_drawn 19 = .ok (.aload_n 0, 1) := by decide +kernel
theorem dX7_drawn_20 : decode cX7_drawn 20 = .ok (.getfield 32, 3) := by decide +kernel
theorem dX7_drawn_23 : decode cX7_drawn 23 = .ok (.bipush 8, 2) := by decide +kernel
theorem dX7_drawn_25 : decode cX7_drawn 25 = .ok (.iushr, 1) := by decide +kernel
theorem dX7_drawn_26 : decode cX7_drawn 26 = .ok (.iload_n 1, 1) := by decide +kernel
theorem dX7_drawn_27 : decode cX7_drawn 27 = .ok (.irem, 1) := by decide +kernel
theorem dX7_drawn_28 : decode cX7_drawn 28 = .ok (.goto 4, 3) := by decide +kernel
theorem dX7_drawn_31 : decode cX7_drawn 31 = .ok (.iconst 0, 1) := by decide +kernel
theorem dX7_drawn_32 : decode cX7_drawn 32 = .ok (.ireturn, 1) := by decide +kernel
theorem dX8_init_0 : decode cX8_init 0 = .ok (.aload_n 0, 1) := by decide +kernel
theorem dX8_init_1 : decode cX8_init 1 = .ok (.invokespecial 1, 3) := by decide +kernel
theorem dX8_init_4 : decode cX8_init 4 = .ok (.aload_n 0, 1) := by decide +kernel
theorem dX8_init_5 : decode cX8_init 5 = .ok (.iload_n 1, 1) := by decide +kernel
theorem dX8_init_6 : decode cX8_init 6 = .ok (.putfield 7, 3) := by decide +kernel
theorem dX8_init_9 : decode cX8_init 9 = .ok (.aload_n 0, 1) := by decide +kernel
theorem dX8_init_10 : decode cX8_init 10 = .ok (.iload_n 2, 1) := by decide +kernel
theorem dX8_init_11 : decode cX8_init 11 = .ok (.putfield 13, 3) := by decide +kernel
theorem dX8_init_14 : decode cX8_init 14 = .ok (.return_, 1) := by decide +kernel
theorem dX8_kind_0 : decode cX8_kind 0 = .ok (.iconst 0, 1) := by decide +kernel
theorem dX8_kind_1 : decode cX8_kind 1 = .ok (.ireturn, 1) := by decide +kernel
theorem dX8_isOf_0 : decode cX8_isOf 0 = .ok (.iload_n 1, 1) := by decide +kernel
theorem dX8_isOf_1 : decode cX8_isOf 1 = .ok (.ifCond .ne 7, 3) := by decide +kernel
theorem dX8_isOf_4 : decode cX8_isOf 4 = .ok (.iconst 1, 1) := by decide +kernel
theorem dX8_isOf_5 : decode cX8_isOf 5 = .ok (.goto 4, 3) := by decide +kernel
theorem dX8_isOf_8 : decode cX8_isOf 8 = .ok (.iconst 0, 1) := by decide +kernel
theorem dX8_isOf_9 : decode cX8_isOf 9 = .ok (.ireturn, 1) := by decide +kernel
theorem dX8_due_0 : decode cX8_due 0 = .ok (.iload_n 1, 1) := by decide +kernel
theorem dX8_due_1 : decode cX8_due 1 = .ok (.bipush 10, 2) := by decide +kernel
theorem dX8_due_3 : decode cX8_due 3 = .ok (.invokestatic 16, 3) := by decide +kernel
theorem dX8_due_6 : decode cX8_due 6 = .ok (.ireturn, 1) := by decide +kernel
theorem dX8_adds_0 : decode cX8_adds 0 = .ok (.aload_n 1, 1) := by decide +kernel
theorem dX8_adds_1 : decode cX8_adds 1 = .ok (.bipush 10, 2) := by decide +kernel
theorem dX8_adds_3 : decode cX8_adds 3 = .ok (.invokevirtual 22, 3) := by decide +kernel
theorem dX8_adds_6 : decode cX8_adds 6 = .ok (.iload_n 2, 1) := by decide +kernel
theorem dX8_adds_7 : decode cX8_adds 7 = .ok (.aload_n 0, 1) := by decide +kernel
theorem dX8_adds_8 : decode cX8_adds 8 = .ok (.getfield 7, 3) := by decide +kernel
theorem dX8_adds_11 : decode cX8_adds 11 = .ok (.iadd, 1) := by decide +kernel
theorem dX8_adds_12 : decode cX8_adds 12 = .ok (.ireturn, 1) := by decide +kernel
theorem dX8_comes_0 : decode cX8_comes 0 = .ok (.aload_n 1, 1) := by decide +kernel
theorem dX8_comes_1 : decode cX8_comes 1 = .ok (.bipush 11, 2) := by decide +kernel
theorem dX8_comes_3 : decode cX8_comes 3 = .ok (.invokevirtual 22, 3) := by decide +kernel
theorem dX8_comes_6 : decode cX8_comes 6 = .ok (.aload_n 0, 1) := by decide +kernel
theorem dX8_comes_7 : decode cX8_comes 7 = .ok (.aload_n 1, 1) := by decide +kernel
theorem dX8_comes_8 : decode cX8_comes 8 = .ok (.iload_n 2, 1) := by decide +kernel
theorem dX8_comes_9 : decode cX8_comes 9 = .ok (.invokevirtual 28, 3) := by decide +kernel
theorem dX8_comes_12 : decode cX8_comes 12 = .ok (.iconst 2, 1) := by decide +kernel
theorem dX8_comes_13 : decode cX8_comes 13 = .ok (.imul, 1) := by decide +kernel
theorem dX8_comes_14 : decode cX8_comes 14 = .ok (.ireturn, 1) := by decide +kernel
theorem dX8_gives_0 : decode cX8_gives 0 = .ok (.aload_n 1, 1) := by decide +kernel
theorem dX8_gives_1 : decode cX8_gives 1 = .ok (.bipush 12, 2) := by decide +kernel
theorem dX8_gives_3 : decode cX8_gives 3 = .ok (.invokevirtual 22, 3) := by decide +kernel
theorem dX8_gives_6 : decode cX8_gives 6 = .ok (.aload_n 0, 1) := by decide +kernel
theorem dX8_gives_7 : decode cX8_gives 7 = .ok (.aload_n 1, 1) := by decide +kernel
theorem dX8_gives_8 : decode cX8_gives 8 = .ok (.iload_n 2, 1) := by decide +kernel
theorem dX8_gives_9 : decode cX8_gives 9 = .ok (.invokevirtual 32, 3) := by decide +kernel
theorem dX8_gives_12 : decode cX8_gives 12 = .ok (.aload_n 0, 1) := by decide +kernel
theorem dX8_gives_13 : decode cX8_gives 13 = .ok (.getfield 13, 3) := by decide +kernel
theorem dX8_gives_16 : decode cX8_gives 16 = .ok (.isub, 1) := by decide +kernel
theorem dX8_gives_17 : decode cX8_gives 17 = .ok (.ireturn, 1) := by decide +kernel
theorem dX8_parts_0 : decode cX8_parts 0 = .ok (.aload_n 1, 1) := by decide +kernel
theorem dX8_parts_1 : decode cX8_parts 1 = .ok (.bipush 13, 2) := by decide +kernel
theorem dX8_parts_3 : decode cX8_parts 3 = .ok (.invokevirtual 22, 3) := by decide +kernel
theorem dX8_parts_6 : decode cX8_parts 6 = .ok (.aload_n 0, 1) := by decide +kernel
theorem dX8_parts_7 : decode cX8_parts 7 = .ok (.getfield 13, 3) := by decide +kernel
theorem dX8_parts_10 : decode cX8_parts 10 = .ok (.aload_n 0, 1) := by decide +kernel
theorem dX8_parts_11 : decode cX8_parts 11 = .ok (.getfield 7, 3) := by decide +kernel
theorem dX8_parts_14 : decode cX8_parts 14 = .ok (.isub, 1) := by decide +kernel
theorem dX8_parts_15 : decode cX8_parts 15 = .ok (.istore_n 3, 1) := by decide +kernel
theorem dX8_parts_16 : decode cX8_parts 16 = .ok (.iload_n 3, 1) := by decide +kernel
theorem dX8_parts_17 : decode cX8_parts 17 = .ok (.ifCond .ne 10, 3) := by decide +kernel
theorem dX8_parts_20 : decode cX8_parts 20 = .ok (.aload_n 1, 1) := by decide +kernel
theorem dX8_parts_21 : decode cX8_parts 21 = .ok (.iconst 1, 1) := by decide +kernel
theorem dX8_parts_22 : decode cX8_parts 22 = .ok (.putfield 35, 3) := by decide +kernel
theorem dX8_parts_25 : decode cX8_parts 25 = .ok (.iconst 0, 1) := by decide +kernel
theorem dX8_parts_26 : decode cX8_parts 26 = .ok (.ireturn, 1) := by decide +kernel
theorem dX8_parts_27 : decode cX8_parts 27 = .ok (.iload_n 2, 1) := by decide +kernel
theorem dX8_parts_28 : decode cX8_parts 28 = .ok (.iload_n 3, 1) := by decide +kernel
theorem dX8_parts_29 : decode cX8_parts 29 = .ok (.idiv, 1) := by decide +kernel
theorem dX8_parts_30 : decode cX8_parts 30 = .ok (.ireturn, 1) := by decide +kernel
theorem dX9_init_0 : decode cX9_init 0 = .ok (.aload_n 0, 1) := by decide +kernel
theorem dX9_init_1 : decode cX9_init 1 = .ok (.iload_n 1, 1) := by decide +kernel
theorem dX9_init_2 : decode cX9_init 2 = .ok (.iload_n 2, 1) := by decide +kernel
theorem dX9_init_3 : decode cX9_init 3 = .ok (.invokespecial 1, 3) := by decide +kernel
theorem dX9_init_6 : decode cX9_init 6 = .ok (.return_, 1) := by decide +kernel
theorem dX9_kind_0 : decode cX9_kind 0 = .ok (.bipush 6, 2) := by decide +kernel
theorem dX9_kind_2 : decode cX9_kind 2 = .ok (.ireturn, 1) := by decide +kernel
theorem dX9_isOf_0 : decode cX9_isOf 0 = .ok (.iload_n 1, 1) := by decide +kernel
theorem dX9_isOf_1 : decode cX9_isOf 1 = .ok (.bipush 6, 2) := by decide +kernel
theorem dX9_isOf_3 : decode cX9_isOf 3 = .ok (.if_icmp .eq 11, 3) := by decide +kernel
theorem dX9_isOf_6 : decode cX9_isOf 6 = .ok (.aload_n 0, 1) := by decide +kernel
theorem dX9_isOf_7 : decode cX9_isOf 7 = .ok (.iload_n 1, 1) := by decide +kernel
theorem dX9_isOf_8 : decode cX9_isOf 8 = .ok (.invokespecial 7, 3) := by decide +kernel
theorem dX9_isOf_11 : decode cX9_isOf 11 = .ok (.ifCond .eq 7, 3) := by decide +kernel
theorem dX9_isOf_14 : decode cX9_isOf 14 = .ok (.iconst 1, 1) := by decide +kernel
theorem dX9_isOf_15 : decode cX9_isOf 15 = .ok (.goto 4, 3) := by decide +kernel
theorem dX9_isOf_18 : decode cX9_isOf 18 = .ok (.iconst 0, 1) := by decide +kernel
theorem dX9_isOf_19 : decode cX9_isOf 19 = .ok (.ireturn, 1) := by decide +kernel
theorem dX9_due_0 : decode cX9_due 0 = .ok (.aload_n 3, 1) := by decide +kernel
theorem dX9_due_1 : decode cX9_due 1 = .ok (.invokevirtual 11, 3) := by decide +kernel
theorem dX9_due_4 : decode cX9_due 4 = .ok (.ifCond .eq 16, 3) := by decide +kernel
theorem dX9_due_7 : decode cX9_due 7 = .ok (.aload_n 3, 1) := by decide +kernel
theorem dX9_due_8 : decode cX9_due 8 = .ok (.iload_n 1, 1) := by decide +kernel
theorem dX9_due_9 : decode cX9_due 9 = .ok (.iload_n 2, 1) := by decide +kernel
theorem dX9_due_10 : decode cX9_due 10 = .ok (.aload_n 0, 1) := by decide +kernel
theorem dX9_due_11 : decode cX9_due 11 = .ok (.getfield 17, 3) := by decide +kernel
theorem dX9_due_14 : decode cX9_due 14 = .ok (.invokevirtual 23, 3) := by decide +kernel
theorem dX9_due_17 : decode cX9_due 17 = .ok (.goto 10, 3) := by decide +kernel
theorem dX9_due_20 : decode cX9_due 20 = .ok (.aload_n 0, 1) := by decide +kernel
theorem dX9_due_21 : decode cX9_due 21 = .ok (.iload_n 1, 1) := by decide +kernel
theorem dX9_due_22 : decode cX9_due 22 = .ok (.iload_n 2, 1) := by decide +kernel
theorem dX9_due_23 : decode cX9_due 23 = .ok (.aload_n 3, 1) := by decide +kernel
theorem dX9_due_24 : decode cX9_due 24 = .ok (.invokespecial 27, 3) := by decide +kernel
theorem dX9_due_27 : decode cX9_due 27 = .ok (.ireturn, 1) := by decide +kernel
theorem dX9_adds_0 : decode cX9_adds 0 = .ok (.aload_n 1, 1) := by decide +kernel
theorem dX9_adds_1 : decode cX9_adds 1 = .ok (.bipush 70, 2) := by decide +kernel
theorem dX9_adds_3 : decode cX9_adds 3 = .ok (.invokevirtual 31, 3) := by decide +kernel
theorem dX9_adds_6 : decode cX9_adds 6 = .ok (.bipush 9, 2) := by decide +kernel
theorem dX9_adds_8 : decode cX9_adds 8 = .ok (.ireturn, 1) := by decide +kernel
theorem dX9_comes_0 : decode cX9_comes 0 = .ok (.aload_n 1, 1) := by decide +kernel
theorem dX9_comes_1 : decode cX9_comes 1 = .ok (.bipush 71, 2) := by decide +kernel
theorem dX9_comes_3 : decode cX9_comes 3 = .ok (.invokevirtual 31, 3) := by decide +kernel
theorem dX9_comes_6 : decode cX9_comes 6 = .ok (.aload_n 0, 1) := by decide +kernel
theorem dX9_comes_7 : decode cX9_comes 7 = .ok (.aload_n 1, 1) := by decide +kernel
theorem dX9_comes_8 : decode cX9_comes 8 = .ok (.iload_n 2, 1) := by decide +kernel
theorem dX9_comes_9 : decode cX9_comes 9 = .ok (.invokespecial 37, 3) := by decide +kernel
theorem dX9_comes_12 : decode cX9_comes 12 = .ok (.aload_n 0, 1) := by decide +kernel
theorem dX9_comes_13 : decode cX9_comes 13 = .ok (.getfield 17, 3) := by decide +kernel
theorem dX9_comes_16 : decode cX9_comes 16 = .ok (.iadd, 1) := by decide +kernel
theorem dX9_comes_17 : decode cX9_comes 17 = .ok (.ireturn, 1) := by decide +kernel
theorem dX10_init_0 : decode cX10_init 0 = .ok (.aload_n 0, 1) := by decide +kernel
theorem dX10_init_1 : decode cX10_init 1 = .ok (.invokespecial 3, 3) := by decide +kernel
theorem dX10_init_4 : decode cX10_init 4 = .ok (.aload_n 0, 1) := by decide +kernel
theorem dX10_init_5 : decode cX10_init 5 = .ok (.bipush 30, 2) := by decide +kernel
theorem dX10_init_7 : decode cX10_init 7 = .ok (.newarray .int, 2) := by decide +kernel
theorem dX10_init_9 : decode cX10_init 9 = .ok (.putfield 9, 3) := by decide +kernel
theorem dX10_init_12 : decode cX10_init 12 = .ok (.aload_n 0, 1) := by decide +kernel
theorem dX10_init_13 : decode cX10_init 13 = .ok (.iconst 0, 1) := by decide +kernel
theorem dX10_init_14 : decode cX10_init 14 = .ok (.putfield 15, 3) := by decide +kernel
theorem dX10_init_17 : decode cX10_init 17 = .ok (.aload_n 0, 1) := by decide +kernel
theorem dX10_init_18 : decode cX10_init 18 = .ok (.iconst 0, 1) := by decide +kernel
theorem dX10_init_19 : decode cX10_init 19 = .ok (.putfield 19, 3) := by decide +kernel
theorem dX10_init_22 : decode cX10_init 22 = .ok (.return_, 1) := by decide +kernel
theorem dX10_start_0 : decode cX10_start 0 = .ok (.aload_n 0, 1) := by decide +kernel
theorem dX10_start_1 : decode cX10_start 1 = .ok (.iconst 0, 1) := by decide +kernel
theorem dX10_start_2 : decode cX10_start 2 = .ok (.putfield 15, 3) := by decide +kernel
theorem dX10_start_5 : decode cX10_start 5 = .ok (.aload_n 0, 1) := by decide +kernel
theorem dX10_start_6 : decode cX10_start 6 = .ok (.iconst 0, 1) := by decide +kernel
theorem dX10_start_7 : decode cX10_start 7 = .ok (.putfield 19, 3) := by decide +kernel
theorem dX10_start_10 : decode cX10_start 10 = .ok (.return_, 1) := by decide +kernel
theorem dX10_began_0 : decode cX10_began 0 = .ok (.aload_n 0, 1) := by decide +kernel
theorem dX10_began_1 : decode cX10_began 1 = .ok (.getfield 15, 3) := by decide +kernel
theorem dX10_began_4 : decode cX10_began 4 = .ok (.bipush 30, 2) := by decide +kernel
theorem dX10_began_6 : decode cX10_began 6 = .ok (.if_icmp .ge 23, 3) := by decide +kernel
theorem dX10_began_9 : decode cX10_began 9 = .ok (.aload_n 0, 1) := by decide +kernel
theorem dX10_began_10 : decode cX10_began 10 = .ok (.getfield 9, 3) := by decide +kernel
theorem dX10_began_13 : decode cX10_began 13 = .ok (.aload_n 0, 1) := by decide +kernel
theorem dX10_began_14 : decode cX10_began 14 = .ok (.getfield 15, 3) := by decide +kernel
theorem dX10_began_17 : decode cX10_began 17 = .ok (.iload_n 1, 1) := by decide +kernel
theorem dX10_began_18 : decode cX10_began 18 = .ok (.iastore, 1) := by decide +kernel
theorem dX10_began_19 : decode cX10_began 19 = .ok (.aload_n 0, 1) := by decide +kernel
theorem dX10_began_20 : decode cX10_began 20 = .ok (.dup, 1) := by decide +kernel
theorem dX10_began_21 : decode cX10_began 21 = .ok (.getfield 15, 3) := by decide +kernel
theorem dX10_began_24 : decode cX10_began 24 = .ok (.iconst 1, 1) := by decide +kernel
theorem dX10_began_25 : decode cX10_began 25 = .ok (.iadd, 1) := by decide +kernel
theorem dX10_began_26 : decode cX10_began 26 = .ok (.putfield 15, 3) := by decide +kernel
theorem dX10_began_29 : decode cX10_began 29 = .ok (.return_, 1) := by decide +kernel
theorem dX11_init_0 : decode cX11_init 0 = .ok (.aload_n 0, 1) := by decide +kernel
theorem dX11_init_1 : decode cX11_init 1 = .ok (.invokespecial 1, 3) := by decide +kernel
theorem dX11_init_4 : decode cX11_init 4 = .ok (.aload_n 0, 1) := by decide +kernel
theorem dX11_init_5 : decode cX11_init 5 = .ok (.new 7, 3) := by decide +kernel
theorem dX11_init_8 : decode cX11_init 8 = .ok (.dup, 1) := by decide +kernel
theorem dX11_init_9 : decode cX11_init 9 = .ok (.invokespecial 9, 3) := by decide +kernel
theorem dX11_init_12 : decode cX11_init 12 = .ok (.putfield 10, 3) := by decide +kernel
theorem dX11_init_15 : decode cX11_init 15 = .ok (.aload_n 0, 1) := by decide +kernel
theorem dX11_init_16 : decode cX11_init 16 = .ok (.new 7, 3) := by decide +kernel
theorem dX11_init_19 : decode cX11_init 19 = .ok (.dup, 1) := by decide +kernel
theorem dX11_init_20 : decode cX11_init 20 = .ok (.invokespecial 9, 3) := by decide +kernel
theorem dX11_init_23 : decode cX11_init 23 = .ok (.putfield 16, 3) := by decide +kernel
theorem dX11_init_26 : decode cX11_init 26 = .ok (.aload_n 0, 1) := by decide +kernel
theorem dX11_init_27 : decode cX11_init 27 = .ok (.iconst 0, 1) := by decide +kernel
theorem dX11_init_28 : decode cX11_init 28 = .ok (.putfield 19, 3) := by decide +kernel
theorem dX11_init_31 : decode cX11_init 31 = .ok (.aload_n 0, 1) := by decide +kernel
theorem dX11_init_32 : decode cX11_init 32 = .ok (.iconst 0, 1) := by decide +kernel
theorem dX11_init_33 : decode cX11_init 33 = .ok (.putfield 23, 3) := by decide +kernel
theorem dX11_init_36 : decode cX11_init 36 = .ok (.aload_n 0, 1) := by decide +kernel
theorem dX11_init_37 : decode cX11_init 37 = .ok (.iconst 4, 1) := by decide +kernel
theorem dX11_init_38 : decode cX11_init 38 = .ok (.newarray .int, 2) := by decide +kernel
theorem dX11_init_40 : decode cX11_init 40 = .ok (.putfield 27, 3) := by decide +kernel
theorem dX11_init_43 : decode cX11_init 43 = .ok (.aload_n 0, 1) := by decide +kernel
theorem dX11_init_44 : decode cX11_init 44 = .ok (.iconst 4, 1) := by decide +kernel
theorem dX11_init_45 : decode cX11_init 45 = .ok (.newarray .int, 2) := by decide +kernel
theorem dX11_init_47 : decode cX11_init 47 = .ok (.putfield 31, 3) := by decide +kernel
theorem dX11_init_50 : decode cX11_init 50 = .ok (.aload_n 0, 1) := by decide +kernel
theorem dX11_init_51 : decode cX11_init 51 = .ok (.iconst 4, 1) := by decide +kernel
theorem dX11_init_52 : decode cX11_init 52 = .ok (.bipush 24, 2) := by decide +kernel
theorem dX11_init_54 : decode cX11_init 54 = .ok (.multianewarray 34 2, 4) := by decide +kernel
theorem dX11_init_58 : decode cX11_init 58 = .ok (.putfield 36, 3) := by decide +kernel
theorem dX11_init_61 : decode cX11_init 61 = .ok (.aload_n 0, 1) := by decide +kernel
theorem dX11_init_62 : decode cX11_init 62 = .ok (.new 39, 3) := by decide +kernel
theorem dX11_init_65 : decode cX11_init 65 = .ok (.dup, 1) := by decide +kernel
theorem dX11_init_66 : decode cX11_init 66 = .ok (.invokespecial 41, 3) := by decide +kernel
theorem dX11_init_69 : decode cX11_init 69 = .ok (.putfield 42, 3) := by decide +kernel
theorem dX11_init_72 : decode cX11_init 72 = .ok (.aload_n 0, 1) := by decide +kernel
theorem dX11_init_73 : decode cX11_init 73 = .ok (.bipush 7, 2) := by decide +kernel
theorem dX11_init_75 : decode cX11_init 75 = .ok (.newarray .int, 2) := by decide +kernel
theorem dX11_init_77 : decode cX11_init 77 = .ok (.putfield 46, 3) := by decide +kernel
theorem dX11_init_80 : decode cX11_init 80 = .ok (.aload_n 0, 1) := by decide +kernel
theorem dX11_init_81 : decode cX11_init 81 = .ok (.new 49, 3) := by decide +kernel
theorem dX11_init_84 : decode cX11_init 84 = .ok (.dup, 1) := by decide +kernel
theorem dX11_init_85 : decode cX11_init 85 = .ok (.invokespecial 51, 3) := by decide +kernel
theorem dX11_init_88 : decode cX11_init 88 = .ok (.putfield 52, 3) := by decide +kernel
theorem dX11_init_91 : decode cX11_init 91 = .ok (.aload_n 0, 1) := by decide +kernel
theorem dX11_init_92 : decode cX11_init 92 = .ok (.new 49, 3) := by decide +kernel
theorem dX11_init_95 : decode cX11_init 95 = .ok (.dup, 1) := by decide +kernel
theorem dX11_init_96 : decode cX11_init 96 = .ok (.invokespecial 51, 3) := by decide +kernel
theorem dX11_init_99 : decode cX11_init 99 = .ok (.putfield 56, 3) := by decide +kernel
theorem dX11_init_102 : decode cX11_init 102 = .ok (.aload_n 0, 1) := by decide +kernel
theorem dX11_init_103 : decode cX11_init 103 = .ok (.new 49, 3) := by decide +kernel
theorem dX11_init_106 : decode cX11_init 106 = .ok (.dup, 1) := by decide +kernel
theorem dX11_init_107 : decode cX11_init 107 = .ok (.invokespecial 51, 3) := by decide +kernel
theorem dX11_init_110 : decode cX11_init 110 = .ok (.putfield 59, 3) := by decide +kernel
theorem dX11_init_113 : decode cX11_init 113 = .ok (.aload_n 0, 1) := by decide +kernel
theorem dX11_init_114 : decode cX11_init 114 = .ok (.bipush 8, 2) := by decide +kernel
theorem dX11_init_116 : decode cX11_init 116 = .ok (.newarray .int, 2) := by decide +kernel
theorem dX11_init_118 : decode cX11_init 118 = .ok (.putfield 62, 3) := by decide +kernel
theorem dX11_init_121 : decode cX11_init 121 = .ok (.aload_n 0, 1) := by decide +kernel
theorem dX11_init_122 : decode cX11_init 122 = .ok (.bipush 8, 2) := by decide +kernel
theorem dX11_init_124 : decode cX11_init 124 = .ok (.newarray .int, 2) := by decide +kernel
theorem dX11_init_126 : decode cX11_init 126 = .ok (.putfield 65, 3) := by decide +kernel
theorem dX11_init_129 : decode cX11_init 129 = .ok (.aload_n 0, 1) := by decide +kernel
theorem dX11_init_130 : decode cX11_init 130 = .ok (.new 49, 3) := by decide +kernel
theorem dX11_init_133 : decode cX11_init 133 = .ok (.dup, 1) := by decide +kernel
theorem dX11_init_134 : decode cX11_init 134 = .ok (.invokespecial 51, 3) := by decide +kernel
theorem dX11_init_137 : decode cX11_init 137 = .ok (.putfield 68, 3) := by decide +kernel
theorem dX11_init_140 : decode cX11_init 140 = .ok (.aload_n 0, 1) := by decide +kernel
theorem dX11_init_141 : decode cX11_init 141 = .ok (.iconst 0, 1) := by decide +kernel
theorem dX11_init_142 : decode cX11_init 142 = .ok (.putfield 71, 3) := by decide +kernel
theorem dX11_init_145 : decode cX11_init 145 = .ok (.aload_n 0, 1) := by decide +kernel
theorem dX11_init_146 : decode cX11_init 146 = .ok (.iconst 0, 1) := by decide +kernel
theorem dX11_init_147 : decode cX11_init 147 = .ok (.putfield 74, 3) := by decide +kernel
theorem dX11_init_150 : decode cX11_init 150 = .ok (.return_, 1) := by decide +kernel
theorem dX11_thing_0 : decode cX11_thing 0 = .ok (.iload_n 1, 1) := by decide +kernel
theorem dX11_thing_1 : decode cX11_thing 1 = .ok (.invokestatic 77, 3) := by decide +kernel
theorem dX11_thing_4 : decode cX11_thing 4 = .ok (.ifCond .eq 20, 3) := by decide +kernel
theorem dX11_thing_7 : decode cX11_thing 7 = .ok (.iload_n 2, 1) := by decide +kernel
theorem dX11_thing_8 : decode cX11_thing 8 = .ok (.iconst 0, 1) := by decide +kernel
theorem dX11_thing_9 : decode cX11_thing 9 = .ok (.iconst 2, 1) := by decide +kernel
theorem dX11_thing_10 : decode cX11_thing 10 = .ok (.invokestatic 81, 3) := by decide +kernel
theorem dX11_thing_13 : decode cX11_thing 13 = .ok (.ifCond .eq 11, 3) := by decide +kernel
theorem dX11_thing_16 : decode cX11_thing 16 = .ok (.iload_n 2, 1) := by decide +kernel
theorem dX11_thing_17 : decode cX11_thing 17 = .ok (.iload_n 3, 1) := by decide +kernel
theorem dX11_thing_18 : decode cX11_thing 18 = .ok (.invokestatic 85, 3) := by decide +kernel
theorem dX11_thing_21 : decode cX11_thing 21 = .ok (.ifCond .ne 9, 3) := by decide +kernel
theorem dX11_thing_24 : decode cX11_thing 24 = .ok (.aload_n 0, 1) := by decide +kernel
theorem dX11_thing_25 : decode cX11_thing 25 = .ok (.iconst 1, 1) := by decide +kernel
theorem dX11_thing_26 : decode cX11_thing 26 = .ok (.invokevirtual 89, 3) := by decide +kernel
theorem dX11_thing_29 : decode cX11_thing 29 = .ok (.ireturn, 1) := by decide +kernel
theorem dX11_thing_30 : decode cX11_thing 30 = .ok (.aload_n 0, 1) := by decide +kernel
theorem dX11_thing_31 : decode cX11_thing 31 = .ok (.getfield 10, 3) := by decide +kernel
theorem dX11_thing_34 : decode cX11_thing 34 = .ok (.getfield 93, 3) := by decide +kernel
theorem dX11_thing_37 : decode cX11_thing 37 = .ok (.iload_n 2, 1) := by decide +kernel
theorem dX11_thing_38 : decode cX11_thing 38 = .ok (.aaload, 1) := by decide +kernel
theorem dX11_thing_39 : decode cX11_thing 39 = .ok (.iload_n 1, 1) := by decide +kernel
theorem dX11_thing_40 : decode cX11_thing 40 = .ok (.iaload, 1) := by decide +kernel
theorem dX11_thing_41 : decode cX11_thing 41 = .ok (.istore 4, 2) := by decide +kernel
theorem dX11_thing_43 : decode cX11_thing 43 = .ok (.aload_n 0, 1) := by decide +kernel
theorem dX11_thing_44 : decode cX11_thing 44 = .ok (.getfield 10, 3) := by decide +kernel
theorem dX11_thing_47 : decode cX11_thing 47 = .ok (.getfield 93, 3) := by decide +kernel
theorem dX11_thing_50 : decode cX11_thing 50 = .ok (.iload_n 2, 1) := by decide +kernel
theorem dX11_thing_51 : decode cX11_thing 51 = .ok (.aaload, 1) := by decide +kernel
theorem dX11_thing_52 : decode cX11_thing 52 = .ok (.iload_n 1, 1) := by decide +kernel
theorem dX11_thing_53 : decode cX11_thing 53 = .ok (.iload_n 3, 1) := by decide +kernel
theorem dX11_thing_54 : decode cX11_thing 54 = .ok (.iastore, 1) := by decide +kernel
theorem dX11_thing_55 : decode cX11_thing 55 = .ok (.iload 4, 2) := by decide +kernel
theorem dX11_thing_57 : decode cX11_thing 57 = .ok (.ireturn, 1) := by decide +kernel
theorem dX11_thingIs_0 : decode cX11_thingIs 0 = .ok (.iload_n 1, 1) := by decide +kernel
theorem dX11_thingIs_1 : decode cX11_thingIs 1 = .ok (.invokestatic 77, 3) := by decide +kernel
theorem dX11_thingIs_4 : decode cX11_thingIs 4 = .ok (.ifCond .eq 12, 3) := by decide +kernel
theorem dX11_thingIs_7 : decode cX11_thingIs 7 = .ok (.iload_n 2, 1) := by decide +kernel
theorem dX11_thingIs_8 : decode cX11_thingIs 8 = .ok (.iconst 0, 1) := by decide +kernel
theorem dX11_thingIs_9 : decode cX11_thingIs 9 = .ok (.iconst 3, 1) := by decide +kernel
theorem dX11_thingIs_10 : decode cX11_thingIs 10 = .ok (.invokestatic 81, 3) := by decide +kernel
theorem dX11_thingIs_13 : decode cX11_thingIs 13 = .ok (.ifCond .ne 9, 3) := by decide +kernel
theorem dX11_thingIs_16 : decode cX11_thingIs 16 = .ok (.aload_n 0, 1) := by decide +kernel
theorem dX11_thingIs_17 : decode cX11_thingIs 17 = .ok (.iconst 1, 1) := by decide +kernel
theorem dX11_thingIs_18 : decode cX11_thingIs 18 = .ok (.invokevirtual 89, 3) := by decide +kernel
theorem dX11_thingIs_21 : decode cX11_thingIs 21 = .ok (.ireturn, 1) := by decide +kernel
theorem dX11_thingIs_22 : decode cX11_thingIs 22 = .ok (.iload_n 2, 1) := by decide +kernel
theorem dX11_thingIs_23 : decode cX11_thingIs 23 = .ok (.iconst 2, 1) := by decide +kernel
theorem dX11_thingIs_24 : decode cX11_thingIs 24 = .ok (.if_icmp .le 14, 3) := by decide +kernel
theorem dX11_thingIs_27 : decode cX11_thingIs 27 = .ok (.aload_n 0, 1) := by decide +kernel
theorem dX11_thingIs_28 : decode cX11_thingIs 28 = .ok (.getfield 10, 3) := by decide +kernel
theorem dX11_thingIs_31 : decode cX11_thingIs 31 = .ok (.iload_n 1, 1) := by decide +kernel
theorem dX11_thingIs_32 : decode cX11_thingIs 32 = .ok (.invokevirtual 96, 3) := by decide +kernel
theorem dX11_thingIs_35 : decode cX11_thingIs 35 = .ok (.goto 14, 3) := by decide +kernel
theorem dX11_thingIs_38 : decode cX11_thingIs 38 = .ok (.aload_n 0, 1) := by decide +kernel
theorem dX11_thingIs_39 : decode cX11_thingIs 39 = .ok (.getfield 10, 3) := by decide +kernel
theorem dX11_thingIs_42 : decode cX11_thingIs 42 = .ok (.getfield 93, 3) := by decide +kernel
theorem dX11_thingIs_45 : decode cX11_thingIs 45 = .ok (.iload_n 2, 1) := by decide +kernel
theorem dX11_thingIs_46 : decode cX11_thingIs 46 = .ok (.aaload, 1) := by decide +kernel
theorem dX11_thingIs_47 : decode cX11_thingIs 47 = .ok (.iload_n 1, 1) := by decide +kernel
theorem dX11_thingIs_48 : decode cX11_thingIs 48 = .ok (.iaload, 1) := by decide +kernel
theorem dX11_thingIs_49 : decode cX11_thingIs 49 = .ok (.ireturn, 1) := by decide +kernel
theorem dX11_till_0 : decode cX11_till 0 = .ok (.iload_n 1, 1) := by decide +kernel
theorem dX11_till_1 : decode cX11_till 1 = .ok (.invokestatic 99, 3) := by decide +kernel
theorem dX11_till_4 : decode cX11_till 4 = .ok (.ifCond .eq 13, 3) := by decide +kernel
theorem dX11_till_7 : decode cX11_till 7 = .ok (.iload_n 2, 1) := by decide +kernel
theorem dX11_till_8 : decode cX11_till 8 = .ok (.iconst 0, 1) := by decide +kernel
theorem dX11_till_9 : decode cX11_till 9 = .ok (.bipush 69, 2) := by decide +kernel
theorem dX11_till_11 : decode cX11_till 11 = .ok (.invokestatic 81, 3) := by decide +kernel
theorem dX11_till_14 : decode cX11_till 14 = .ok (.ifCond .ne 9, 3) := by decide +kernel
theorem dX11_till_17 : decode cX11_till 17 = .ok (.aload_n 0, 1) := by decide +kernel
theorem dX11_till_18 : decode cX11_till 18 = .ok (.iconst 1, 1) := by decide +kernel
theorem dX11_till_19 : decode cX11_till 19 = .ok (.invokevirtual 89, 3) := by decide +kernel
theorem dX11_till_22 : decode cX11_till 22 = .ok (.ireturn, 1) := by decide +kernel
theorem dX11_till_23 : decode cX11_till 23 = .ok (.aload_n 0, 1) := by decide +kernel
theorem dX11_till_24 : decode cX11_till 24 = .ok (.getfield 10, 3) := by decide +kernel
theorem dX11_till_27 : decode cX11_till 27 = .ok (.getfield 102, 3) := by decide +kernel
theorem dX11_till_30 : decode cX11_till 30 = .ok (.iload_n 1, 1) := by decide +kernel
theorem dX11_till_31 : decode cX11_till 31 = .ok (.aaload, 1) := by decide +kernel
theorem dX11_till_32 : decode cX11_till 32 = .ok (.astore_n 3, 1) := by decide +kernel
theorem dX11_till_33 : decode cX11_till 33 = .ok (.aload_n 0, 1) := by decide +kernel
theorem dX11_till_34 : decode cX11_till 34 = .ok (.getfield 10, 3) := by decide +kernel
theorem dX11_till_37 : decode cX11_till 37 = .ok (.getfield 102, 3) := by decide +kernel
theorem dX11_till_40 : decode cX11_till 40 = .ok (.iload_n 1, 1) := by decide +kernel
theorem dX11_till_41 : decode cX11_till 41 = .ok (.iload_n 2, 1) := by decide +kernel
theorem dX11_till_42 : decode cX11_till 42 = .ok (.bipush 10, 2) := by decide +kernel
theorem dX11_till_44 : decode cX11_till 44 = .ok (.idiv, 1) := by decide +kernel
theorem dX11_till_45 : decode cX11_till 45 = .ok (.iload_n 1, 1) := by decide +kernel
theorem dX11_till_46 : decode cX11_till 46 = .ok (.iload_n 2, 1) := by decide +kernel
theorem dX11_till_47 : decode cX11_till 47 = .ok (.bipush 10, 2) := by decide +kernel
theorem dX11_till_49 : decode cX11_till 49 = .ok (.irem, 1) := by decide +kernel
theorem dX11_till_50 : decode cX11_till 50 = .ok (.invokestatic 106, 3) := by decide +kernel
theorem dX11_till_53 : decode cX11_till 53 = .ok (.aastore, 1) := by decide +kernel
theorem dX11_till_54 : decode cX11_till 54 = .ok (.bipush 10, 2) := by decide +kernel
theorem dX11_till_56 : decode cX11_till 56 = .ok (.aload_n 3, 1) := by decide +kernel
theorem dX11_till_57 : decode cX11_till 57 = .ok (.invokevirtual 110, 3) := by decide +kernel
theorem dX11_till_60 : decode cX11_till 60 = .ok (.imul, 1) := by decide +kernel
theorem dX11_till_61 : decode cX11_till 61 = .ok (.aload_n 3, 1) := by decide +kernel
theorem dX11_till_62 : decode cX11_till 62 = .ok (.getfield 116, 3) := by decide +kernel
theorem dX11_till_65 : decode cX11_till 65 = .ok (.iadd, 1) := by decide +kernel
theorem dX11_till_66 : decode cX11_till 66 = .ok (.ireturn, 1) := by decide +kernel
theorem dX11_tillIs_0 : decode cX11_tillIs 0 = .ok (.iload_n 1, 1) := by decide +kernel
theorem dX11_tillIs_1 : decode cX11_tillIs 1 = .ok (.invokestatic 99, 3) := by decide +kernel
theorem dX11_tillIs_4 : decode cX11_tillIs 4 = .ok (.ifCond .eq 12, 3) := by decide +kernel
theorem dX11_tillIs_7 : decode cX11_tillIs 7 = .ok (.iload_n 2, 1) := by decide +kernel
theorem dX11_tillIs_8 : decode cX11_tillIs 8 = .ok (.iconst 0, 1) := by decide +kernel
theorem dX11_tillIs_9 : decode cX11_tillIs 9 = .ok (.iconst 1, 1) := by decide +kernel
theorem dX11_tillIs_10 : decode cX11_tillIs 10 = .ok (.invokestatic 81, 3) := by decide +kernel
theorem dX11_tillIs_13 : decode cX11_tillIs 13 = .ok (.ifCond .ne 9, 3) := by decide +kernel
theorem dX11_tillIs_16 : decode cX11_tillIs 16 = .ok (.aload_n 0, 1) := by decide +kernel
theorem dX11_tillIs_17 : decode cX11_tillIs 17 = .ok (.iconst 1, 1) := by decide +kernel
theorem dX11_tillIs_18 : decode cX11_tillIs 18 = .ok (.invokevirtual 89, 3) := by decide +kernel
theorem dX11_tillIs_21 : decode cX11_tillIs 21 = .ok (.ireturn, 1) := by decide +kernel
theorem dX11_tillIs_22 : decode cX11_tillIs 22 = .ok (.iload_n 2, 1) := by decide +kernel
theorem dX11_tillIs_23 : decode cX11_tillIs 23 = .ok (.ifCond .ne 18, 3) := by decide +kernel
theorem dX11_tillIs_26 : decode cX11_tillIs 26 = .ok (.aload_n 0, 1) := by decide +kernel
theorem dX11_tillIs_27 : decode cX11_tillIs 27 = .ok (.getfield 10, 3) := by decide +kernel
theorem dX11_tillIs_30 : decode cX11_tillIs 30 = .ok (.getfield 102, 3) := by decide +kernel
theorem dX11_tillIs_33 : decode cX11_tillIs 33 = .ok (.iload_n 1, 1) := by decide +kernel
theorem dX11_tillIs_34 : decode cX11_tillIs 34 = .ok (.aaload, 1) := by decide +kernel
theorem dX11_tillIs_35 : decode cX11_tillIs 35 = .ok (.invokevirtual 110, 3) := by decide +kernel
theorem dX11_tillIs_38 : decode cX11_tillIs 38 = .ok (.goto 15, 3) := by decide +kernel
theorem dX11_tillIs_41 : decode cX11_tillIs 41 = .ok (.aload_n 0, 1) := by decide +kernel
theorem dX11_tillIs_42 : decode cX11_tillIs 42 = .ok (.getfield 10, 3) := by decide +kernel
theorem dX11_tillIs_45 : decode cX11_tillIs 45 = .ok (.getfield 102, 3) := by decide +kernel
theorem dX11_tillIs_48 : decode cX11_tillIs 48 = .ok (.iload_n 1, 1) := by decide +kernel
theorem dX11_tillIs_49 : decode cX11_tillIs 49 = .ok (.aaload, 1) := by decide +kernel
theorem dX11_tillIs_50 : decode cX11_tillIs 50 = .ok (.getfield 116, 3) := by decide +kernel
theorem dX11_tillIs_53 : decode cX11_tillIs 53 = .ok (.ireturn, 1) := by decide +kernel
theorem dX11_as_0 : decode cX11_as 0 = .ok (.iload_n 1, 1) := by decide +kernel
theorem dX11_as_1 : decode cX11_as 1 = .ok (.invokestatic 99, 3) := by decide +kernel
theorem dX11_as_4 : decode cX11_as 4 = .ok (.ifCond .eq 13, 3) := by decide +kernel
theorem dX11_as_7 : decode cX11_as 7 = .ok (.iload_n 2, 1) := by decide +kernel
theorem dX11_as_8 : decode cX11_as 8 = .ok (.iconst 0, 1) := by decide +kernel
theorem dX11_as_9 : decode cX11_as 9 = .ok (.bipush 6, 2) := by decide +kernel
theorem dX11_as_11 : decode cX11_as 11 = .ok (.invokestatic 81, 3) := by decide +kernel
theorem dX11_as_14 : decode cX11_as 14 = .ok (.ifCond .ne 9, 3) := by decide +kernel
theorem dX11_as_17 : decode cX11_as 17 = .ok (.aload_n 0, 1) := by decide +kernel
theorem dX11_as_18 : decode cX11_as 18 = .ok (.iconst 1, 1) := by decide +kernel
theorem dX11_as_19 : decode cX11_as 19 = .ok (.invokevirtual 89, 3) := by decide +kernel
theorem dX11_as_22 : decode cX11_as 22 = .ok (.ireturn, 1) := by decide +kernel
theorem dX11_as_23 : decode cX11_as 23 = .ok (.aload_n 0, 1) := by decide +kernel
theorem dX11_as_24 : decode cX11_as 24 = .ok (.getfield 10, 3) := by decide +kernel
theorem dX11_as_27 : decode cX11_as 27 = .ok (.getfield 102, 3) := by decide +kernel
theorem dX11_as_30 : decode cX11_as 30 = .ok (.iload_n 1, 1) := by decide +kernel
theorem dX11_as_31 : decode cX11_as 31 = .ok (.aaload, 1) := by decide +kernel
theorem dX11_as_32 : decode cX11_as 32 = .ok (.iload_n 2, 1) := by decide +kernel
theorem dX11_as_33 : decode cX11_as 33 = .ok (.invokevirtual 119, 3) := by decide +kernel
theorem dX11_as_36 : decode cX11_as 36 = .ok (.ifCond .eq 18, 3) := by decide +kernel
theorem dX11_as_39 : decode cX11_as 39 = .ok (.aload_n 0, 1) := by decide +kernel
theorem dX11_as_40 : decode cX11_as 40 = .ok (.getfield 10, 3) := by decide +kernel
theorem dX11_as_43 : decode cX11_as 43 = .ok (.getfield 102, 3) := by decide +kernel
theorem dX11_as_46 : decode cX11_as 46 = .ok (.iload_n 1, 1) := by decide +kernel
theorem dX11_as_47 : decode cX11_as 47 = .ok (.aaload, 1) := by decide +kernel
theorem dX11_as_48 : decode cX11_as 48 = .ok (.getfield 116, 3) := by decide +kernel
theorem dX11_as_51 : decode cX11_as 51 = .ok (.goto 8, 3) := by decide +kernel
theorem dX11_as_54 : decode cX11_as 54 = .ok (.aload_n 0, 1) := by decide +kernel
theorem dX11_as_55 : decode cX11_as 55 = .ok (.iconst 5, 1) := by decide +kernel
theorem dX11_as_56 : decode cX11_as 56 = .ok (.invokevirtual 89, 3) := by decide +kernel
theorem dX11_as_59 : decode cX11_as 59 = .ok (.ireturn, 1) := by decide +kernel
theorem dX11_figures_0 : decode cX11_figures 0 = .ok (.iload_n 1, 1) := by decide +kernel
theorem dX11_figures_1 : decode cX11_figures 1 = .ok (.ifCond .lt 13, 3) := by decide +kernel
theorem dX11_figures_4 : decode cX11_figures 4 = .ok (.iload_n 2, 1) := by decide +kernel
theorem dX11_figures_5 : decode cX11_figures 5 = .ok (.iconst 2, 1) := by decide +kernel
theorem dX11_figures_6 : decode cX11_figures 6 = .ok (.bipush 11, 2) := by decide +kernel
theorem dX11_figures_8 : decode cX11_figures 8 = .ok (.invokestatic 81, 3) := by decide +kernel
theorem dX11_figures_11 : decode cX11_figures 11 = .ok (.ifCond .ne 9, 3) := by decide +kernel
theorem dX11_figures_14 : decode cX11_figures 14 = .ok (.aload_n 0, 1) := by decide +kernel
theorem dX11_figures_15 : decode cX11_figures 15 = .ok (.iconst 1, 1) := by decide +kernel
theorem dX11_figures_16 : decode cX11_figures 16 = .ok (.invokevirtual 89, 3) := by decide +kernel
theorem dX11_figures_19 : decode cX11_figures 19 = .ok (.ireturn, 1) := by decide +kernel
theorem dX11_figures_20 : decode cX11_figures 20 = .ok (.iload_n 1, 1) := by decide +kernel
theorem dX11_figures_21 : decode cX11_figures 21 = .ok (.iload_n 2, 1) := by decide +kernel
theorem dX11_figures_22 : decode cX11_figures 22 = .ok (.invokestatic 122, 3) := by decide +kernel
theorem dX11_figures_25 : decode cX11_figures 25 = .ok (.ireturn, 1) := by decide +kernel
theorem dX11_asks_0 : decode cX11_asks 0 = .ok (.iload_n 1, 1) := by decide +kernel
theorem dX11_asks_1 : decode cX11_asks 1 = .ok (.invokestatic 99, 3) := by decide +kernel
theorem dX11_asks_4 : decode cX11_asks 4 = .ok (.ifCond .eq 23, 3) := by decide +kernel
theorem dX11_asks_7 : decode cX11_asks 7 = .ok (.iload_n 2, 1) := by decide +kernel
theorem dX11_asks_8 : decode cX11_asks 8 = .ok (.iconst 0, 1) := by decide +kernel
theorem dX11_asks_9 : decode cX11_asks 9 = .ok (.ldc 126, 2) := by decide +kernel
theorem dX11_asks_11 : decode cX11_asks 11 = .ok (.invokestatic 81, 3) := by decide +kernel
theorem dX11_asks_14 : decode cX11_asks 14 = .ok (.ifCond .eq 13, 3) := by decide +kernel
theorem dX11_asks_17 : decode cX11_asks 17 = .ok (.iload_n 3, 1) := by decide +kernel
theorem dX11_asks_18 : decode cX11_asks 18 = .ok (.iconst 0, 1) := by decide +kernel
theorem dX11_asks_19 : decode cX11_asks 19 = .ok (.bipush 30, 2) := by decide +kernel
theorem dX11_asks_21 : decode cX11_asks 21 = .ok (.invokestatic 81, 3) := by decide +kernel
theorem dX11_asks_24 : decode cX11_asks 24 = .ok (.ifCond .ne 9, 3) := by decide +kernel
theorem dX11_asks_27 : decode cX11_asks 27 = .ok (.aload_n 0, 1) := by decide +kernel
theorem dX11_asks_28 : decode cX11_asks 28 = .ok (.iconst 1, 1) := by decide +kernel
theorem dX11_asks_29 : decode cX11_asks 29 = .ok (.invokevirtual 89, 3) := by decide +kernel
theorem dX11_asks_32 : decode cX11_asks 32 = .ok (.ireturn, 1) := by decide +kernel
theorem dX11_asks_33 : decode cX11_asks 33 = .ok (.aload_n 0, 1) := by decide +kernel
theorem dX11_asks_34 : decode cX11_asks 34 = .ok (.getfield 10, 3) := by decide +kernel
theorem dX11_asks_37 : decode cX11_asks 37 = .ok (.iload_n 1, 1) := by decide +kernel
theorem dX11_asks_38 : decode cX11_asks 38 = .ok (.iload_n 2, 1) := by decide +kernel
theorem dX11_asks_39 : decode cX11_asks 39 = .ok (.iload_n 3, 1) := by decide +kernel
theorem dX11_asks_40 : decode cX11_asks 40 = .ok (.invokevirtual 127, 3) := by decide +kernel
theorem dX11_asks_43 : decode cX11_asks 43 = .ok (.ireturn, 1) := by decide +kernel
theorem dX11_feed_0 : decode cX11_feed 0 = .ok (.iload_n 3, 1) := by decide +kernel
theorem dX11_feed_1 : decode cX11_feed 1 = .ok (.iconst 1, 1) := by decide +kernel
theorem dX11_feed_2 : decode cX11_feed 2 = .ok (.bipush 8, 2) := by decide +kernel
theorem dX11_feed_4 : decode cX11_feed 4 = .ok (.invokestatic 81, 3) := by decide +kernel
theorem dX11_feed_7 : decode cX11_feed 7 = .ok (.ifCond .ne 9, 3) := by decide +kernel
theorem dX11_feed_10 : decode cX11_feed 10 = .ok (.aload_n 0, 1) := by decide +kernel
theorem dX11_feed_11 : decode cX11_feed 11 = .ok (.iconst 1, 1) := by decide +kernel
theorem dX11_feed_12 : decode cX11_feed 12 = .ok (.invokevirtual 89, 3) := by decide +kernel
theorem dX11_feed_15 : decode cX11_feed 15 = .ok (.ireturn, 1) := by decide +kernel
theorem dX11_feed_16 : decode cX11_feed 16 = .ok (.aload_n 0, 1) := by decide +kernel
theorem dX11_feed_17 : decode cX11_feed 17 = .ok (.getfield 10, 3) := by decide +kernel
theorem dX11_feed_20 : decode cX11_feed 20 = .ok (.getfield 131, 3) := by decide +kernel
theorem dX11_feed_23 : decode cX11_feed 23 = .ok (.iload_n 3, 1) := by decide +kernel
theorem dX11_feed_24 : decode cX11_feed 24 = .ok (.iadd, 1) := by decide +kernel
theorem dX11_feed_25 : decode cX11_feed 25 = .ok (.bipush 60, 2) := by decide +kernel
theorem dX11_feed_27 : decode cX11_feed 27 = .ok (.if_icmp .le 9, 3) := by decide +kernel
theorem dX11_feed_30 : decode cX11_feed 30 = .ok (.aload_n 0, 1) := by decide +kernel
theorem dX11_feed_31 : decode cX11_feed 31 = .ok (.iconst 4, 1) := by decide +kernel
theorem dX11_feed_32 : decode cX11_feed 32 = .ok (.invokevirtual 89, 3) := by decide +kernel
theorem dX11_feed_35 : decode cX11_feed 35 = .ok (.ireturn, 1) := by decide +kernel
theorem dX11_feed_36 : decode cX11_feed 36 = .ok (.iconst 0, 1) := by decide +kernel
theorem dX11_feed_37 : decode cX11_feed 37 = .ok (.istore 4, 2) := by decide +kernel
theorem dX11_feed_39 : decode cX11_feed 39 = .ok (.iload 4, 2) := by decide +kernel
theorem dX11_feed_41 : decode cX11_feed 41 = .ok (.iload_n 3, 1) := by decide +kernel
theorem dX11_feed_42 : decode cX11_feed 42 = .ok (.if_icmp .ge 39, 3) := by decide +kernel
theorem dX11_feed_45 : decode cX11_feed 45 = .ok (.aload_n 0, 1) := by decide +kernel
theorem dX11_feed_46 : decode cX11_feed 46 = .ok (.getfield 10, 3) := by decide +kernel
theorem dX11_feed_49 : decode cX11_feed 49 = .ok (.getfield 134, 3) := by decide +kernel
theorem dX11_feed_52 : decode cX11_feed 52 = .ok (.aload_n 0, 1) := by decide +kernel
theorem dX11_feed_53 : decode cX11_feed 53 = .ok (.getfield 10, 3) := by decide +kernel
theorem dX11_feed_56 : decode cX11_feed 56 = .ok (.getfield 131, 3) := by decide +kernel
theorem dX11_feed_59 : decode cX11_feed 59 = .ok (.iload 4, 2) := by decide +kernel
theorem dX11_feed_61 : decode cX11_feed 61 = .ok (.iadd, 1) := by decide +kernel
theorem dX11_feed_62 : decode cX11_feed 62 = .ok (.lload_n 1, 1) := by decide +kernel
theorem dX11_feed_63 : decode cX11_feed 63 = .ok (.bipush 8, 2) := by decide +kernel
theorem dX11_feed_65 : decode cX11_feed 65 = .ok (.iload 4, 2) := by decide +kernel
theorem dX11_feed_67 : decode cX11_feed 67 = .ok (.imul, 1) := by decide +kernel
theorem dX11_feed_68 : decode cX11_feed 68 = .ok (.lushr, 1) := by decide +kernel
theorem dX11_feed_69 : decode cX11_feed 69 = .ok (.l2i, 1) := by decide +kernel
theorem dX11_feed_70 : decode cX11_feed 70 = .ok (.sipush 255, 3) := by decide +kernel
theorem dX11_feed_73 : decode cX11_feed 73 = .ok (.iand, 1) := by decide +kernel
theorem dX11_feed_74 : decode cX11_feed 74 = .ok (.iastore, 1) := by decide +kernel
theorem dX11_feed_75 : decode cX11_feed 75 = .ok (.iinc 4 1, 3) := by decide +kernel
theorem dX11_feed_78 : decode cX11_feed 78 = .ok (.goto (-39), 3) := by decide +kernel
theorem dX11_feed_81 : decode cX11_feed 81 = .ok (.aload_n 0, 1) := by decide +kernel
theorem dX11_feed_82 : decode cX11_feed 82 = .ok (.getfield 10, 3) := by decide +kernel
theorem dX11_feed_85 : decode cX11_feed 85 = .ok (.dup, 1) := by decide +kernel
theorem dX11_feed_86 : decode cX11_feed 86 = .ok (.getfield 131, 3) := by decide +kernel
theorem dX11_feed_89 : decode cX11_feed 89 = .ok (.iload_n 3, 1) := by decide +kernel
theorem dX11_feed_90 : decode cX11_feed 90 = .ok (.iadd, 1) := by decide +kernel
theorem dX11_feed_91 : decode cX11_feed 91 = .ok (.putfield 131, 3) := by decide +kernel
theorem dX11_feed_94 : decode cX11_feed 94 = .ok (.aload_n 0, 1) := by decide +kernel
theorem dX11_feed_95 : decode cX11_feed 95 = .ok (.getfield 10, 3) := by decide +kernel
theorem dX11_feed_98 : decode cX11_feed 98 = .ok (.getfield 131, 3) := by decide +kernel
theorem dX11_feed_101 : decode cX11_feed 101 = .ok (.ireturn, 1) := by decide +kernel
theorem dX11_text_0 : decode cX11_text 0 = .ok (.iload_n 1, 1) := by decide +kernel
theorem dX11_text_1 : decode cX11_text 1 = .ok (.iconst 0, 1) := by decide +kernel
theorem dX11_text_2 : decode cX11_text 2 = .ok (.iconst 1, 1) := by decide +kernel
theorem dX11_text_3 : decode cX11_text 3 = .ok (.invokestatic 81, 3) := by decide +kernel
theorem dX11_text_6 : decode cX11_text 6 = .ok (.ifCond .ne 9, 3) := by decide +kernel
theorem dX11_text_9 : decode cX11_text 9 = .ok (.aload_n 0, 1) := by decide +kernel
theorem dX11_text_10 : decode cX11_text 10 = .ok (.iconst 1, 1) := by decide +kernel
theorem dX11_text_11 : decode cX11_text 11 = .ok (.invokevirtual 89, 3) := by decide +kernel
theorem dX11_text_14 : decode cX11_text 14 = .ok (.ireturn, 1) := by decide +kernel
theorem dX11_text_15 : decode cX11_text 15 = .ok (.aload_n 0, 1) := by decide +kernel
theorem dX11_text_16 : decode cX11_text 16 = .ok (.getfield 10, 3) := by decide +kernel
theorem dX11_text_19 : decode cX11_text 19 = .ok (.iload_n 1, 1) := by decide +kernel
theorem dX11_text_20 : decode cX11_text 20 = .ok (.invokevirtual 137, 3) := by decide +kernel
theorem dX11_text_23 : decode cX11_text 23 = .ok (.aload_n 0, 1) := by decide +kernel
theorem dX11_text_24 : decode cX11_text 24 = .ok (.getfield 10, 3) := by decide +kernel
theorem dX11_text_27 : decode cX11_text 27 = .ok (.getfield 134, 3) := by decide +kernel
theorem dX11_text_30 : decode cX11_text 30 = .ok (.aload_n 0, 1) := by decide +kernel
theorem dX11_text_31 : decode cX11_text 31 = .ok (.getfield 10, 3) := by decide +kernel
theorem dX11_text_34 : decode cX11_text 34 = .ok (.getfield 131, 3) := by decide +kernel
theorem dX11_text_37 : decode cX11_text 37 = .ok (.invokevirtual 141, 3) := by decide +kernel
theorem dX11_text_40 : decode cX11_text 40 = .ok (.istore_n 2, 1) := by decide +kernel
theorem dX11_text_41 : decode cX11_text 41 = .ok (.aload_n 0, 1) := by decide +kernel
theorem dX11_text_42 : decode cX11_text 42 = .ok (.getfield 10, 3) := by decide +kernel
theorem dX11_text_45 : decode cX11_text 45 = .ok (.iconst 0, 1) := by decide +kernel
theorem dX11_text_46 : decode cX11_text 46 = .ok (.putfield 131, 3) := by decide +kernel
theorem dX11_text_49 : decode cX11_text 49 = .ok (.iload_n 2, 1) := by decide +kernel
theorem dX11_text_50 : decode cX11_text 50 = .ok (.ifCond .ge 7, 3) := by decide +kernel
theorem dX11_text_53 : decode cX11_text 53 = .ok (.iconst 1, 1) := by decide +kernel
theorem dX11_text_54 : decode cX11_text 54 = .ok (.goto 7, 3) := by decide +kernel
theorem dX11_text_57 : decode cX11_text 57 = .ok (.bipush (-10), 2) := by decide +kernel
theorem dX11_text_59 : decode cX11_text 59 = .ok (.iload_n 2, 1) := by decide +kernel
theorem dX11_text_60 : decode cX11_text 60 = .ok (.isub, 1) := by decide +kernel
theorem dX11_text_61 : decode cX11_text 61 = .ok (.ireturn, 1) := by decide +kernel
theorem dX11_untell_0 : decode cX11_untell 0 = .ok (.iload_n 1, 1) := by decide +kernel
theorem dX11_untell_1 : decode cX11_untell 1 = .ok (.iconst 0, 1) := by decide +kernel
theorem dX11_untell_2 : decode cX11_untell 2 = .ok (.iconst 1, 1) := by decide +kernel
theorem dX11_untell_3 : decode cX11_untell 3 = .ok (.invokestatic 81, 3) := by decide +kernel
theorem dX11_untell_6 : decode cX11_untell 6 = .ok (.ifCond .ne 9, 3) := by decide +kernel
theorem dX11_untell_9 : decode cX11_untell 9 = .ok (.aload_n 0, 1) := by decide +kernel
theorem dX11_untell_10 : decode cX11_untell 10 = .ok (.iconst 1, 1) := by decide +kernel
theorem dX11_untell_11 : decode cX11_untell 11 = .ok (.invokevirtual 89, 3) := by decide +kernel
theorem dX11_untell_14 : decode cX11_untell 14 = .ok (.ireturn, 1) := by decide +kernel
theorem dX11_untell_15 : decode cX11_untell 15 = .ok (.aload_n 0, 1) := by decide +kernel
theorem dX11_untell_16 : decode cX11_untell 16 = .ok (.getfield 10, 3) := by decide +kernel
theorem dX11_untell_19 : decode cX11_untell 19 = .ok (.iload_n 1, 1) := by decide +kernel
theorem dX11_untell_20 : decode cX11_untell 20 = .ok (.invokevirtual 137, 3) := by decide +kernel
theorem dX11_untell_23 : decode cX11_untell 23 = .ok (.astore_n 2, 1) := by decide +kernel
theorem dX11_untell_24 : decode cX11_untell 24 = .ok (.aload_n 2, 1) := by decide +kernel
theorem dX11_untell_25 : decode cX11_untell 25 = .ok (.invokevirtual 147, 3) := by decide +kernel
theorem dX11_untell_28 : decode cX11_untell 28 = .ok (.ifCond .eq 7, 3) := by decide +kernel
theorem dX11_untell_31 : decode cX11_untell 31 = .ok (.iconst 1, 1) := by decide +kernel
theorem dX11_untell_32 : decode cX11_untell 32 = .ok (.goto 4, 3) := by decide +kernel
theorem dX11_untell_35 : decode cX11_untell 35 = .ok (.iconst 0, 1) := by decide +kernel
theorem dX11_untell_36 : decode cX11_untell 36 = .ok (.istore_n 3, 1) := by decide +kernel
theorem dX11_untell_37 : decode cX11_untell 37 = .ok (.aload_n 2, 1) := by decide +kernel
theorem dX11_untell_38 : decode cX11_untell 38 = .ok (.iconst 0, 1) := by decide +kernel
theorem dX11_untell_39 : decode cX11_untell 39 = .ok (.putfield 151, 3) := by decide +kernel
theorem dX11_untell_42 : decode cX11_untell 42 = .ok (.iload_n 3, 1) := by decide +kernel
theorem dX11_untell_43 : decode cX11_untell 43 = .ok (.ireturn, 1) := by decide +kernel
theorem dX11_basket_0 : decode cX11_basket 0 = .ok (.iload_n 1, 1) := by decide +kernel
theorem dX11_basket_1 : decode cX11_basket 1 = .ok (.invokestatic 154, 3) := by decide +kernel
theorem dX11_basket_4 : decode cX11_basket 4 = .ok (.ifCond .eq 12, 3) := by decide +kernel
theorem dX11_basket_7 : decode cX11_basket 7 = .ok (.iload_n 2, 1) := by decide +kernel
theorem dX11_basket_8 : decode cX11_basket 8 = .ok (.iconst 0, 1) := by decide +kernel
theorem dX11_basket_9 : decode cX11_basket 9 = .ok (.iconst 2, 1) := by decide +kernel
theorem dX11_basket_10 : decode cX11_basket 10 = .ok (.invokestatic 81, 3) := by decide +kernel
theorem dX11_basket_13 : decode cX11_basket 13 = .ok (.ifCond .ne 9, 3) := by decide +kernel
theorem dX11_basket_16 : decode cX11_basket 16 = .ok (.aload_n 0, 1) := by decide +kernel
theorem dX11_basket_17 : decode cX11_basket 17 = .ok (.iconst 1, 1) := by decide +kernel
theorem dX11_basket_18 : decode cX11_basket 18 = .ok (.invokevirtual 89, 3) := by decide +kernel
theorem dX11_basket_21 : decode cX11_basket 21 = .ok (.ireturn, 1) := by decide +kernel
theorem dX11_basket_22 : decode cX11_basket 22 = .ok (.aload_n 0, 1) := by decide +kernel
theorem dX11_basket_23 : decode cX11_basket 23 = .ok (.iload_n 1, 1) := by decide +kernel
theorem dX11_basket_24 : decode cX11_basket 24 = .ok (.bipush 30, 2) := by decide +kernel
theorem dX11_basket_26 : decode cX11_basket 26 = .ok (.invokevirtual 157, 3) := by decide +kernel
theorem dX11_basket_29 : decode cX11_basket 29 = .ok (.istore_n 3, 1) := by decide +kernel
theorem dX11_basket_30 : decode cX11_basket 30 = .ok (.iload_n 3, 1) := by decide +kernel
theorem dX11_basket_31 : decode cX11_basket 31 = .ok (.ifCond .eq 9, 3) := by decide +kernel
theorem dX11_basket_34 : decode cX11_basket 34 = .ok (.aload_n 0, 1) := by decide +kernel
theorem dX11_basket_35 : decode cX11_basket 35 = .ok (.iload_n 3, 1) := by decide +kernel
theorem dX11_basket_36 : decode cX11_basket 36 = .ok (.invokevirtual 89, 3) := by decide +kernel
theorem dX11_basket_39 : decode cX11_basket 39 = .ok (.ireturn, 1) := by decide +kernel
theorem dX11_basket_40 : decode cX11_basket 40 = .ok (.iload_n 2, 1) := by decide +kernel
theorem dX11_basket_41 : decode cX11_basket 41 = .ok (.ifCond .ne 11, 3) := by decide +kernel
theorem dX11_basket_44 : decode cX11_basket 44 = .ok (.aload_n 0, 1) := by decide +kernel
theorem dX11_basket_45 : decode cX11_basket 45 = .ok (.getfield 52, 3) := by decide +kernel
theorem dX11_basket_48 : decode cX11_basket 48 = .ok (.getfield 160, 3) := by decide +kernel
theorem dX11_basket_51 : decode cX11_basket 51 = .ok (.ireturn, 1) := by decide +kernel
theorem dX11_basket_52 : decode cX11_basket 52 = .ok (.iload_n 2, 1) := by decide +kernel
theorem dX11_basket_53 : decode cX11_basket 53 = .ok (.iconst 1, 1) := by decide +kernel
theorem dX11_basket_54 : decode cX11_basket 54 = .ok (.if_icmp .ne 13, 3) := by decide +kernel
theorem dX11_basket_57 : decode cX11_basket 57 = .ok (.aload_n 0, 1) := by decide +kernel
theorem dX11_basket_58 : decode cX11_basket 58 = .ok (.getfield 52, 3) := by decide +kernel
theorem dX11_basket_61 : decode cX11_basket 61 = .ok (.getfield 163, 3) := by decide +kernel
theorem dX11_basket_64 : decode cX11_basket 64 = .ok (.goto 19, 3) := by decide +kernel
theorem dX11_basket_67 : decode cX11_basket 67 = .ok (.aload_n 0, 1) := by decide +kernel
theorem dX11_basket_68 : decode cX11_basket 68 = .ok (.getfield 52, 3) := by decide +kernel
theorem dX11_basket_71 : decode cX11_basket 71 = .ok (.aload_n 0, 1) := by decide +kernel
theorem dX11_basket_72 : decode cX11_basket 72 = .ok (.getfield 10, 3) := by decide +kernel
theorem dX11_basket_75 : decode cX11_basket 75 = .ok (.getfield 93, 3) := by decide +kernel
theorem dX11_basket_78 : decode cX11_basket 78 = .ok (.iconst 1, 1) := by decide +kernel
theorem dX11_basket_79 : decode cX11_basket 79 = .ok (.aaload, 1) := by decide +kernel
theorem dX11_basket_80 : decode cX11_basket 80 = .ok (.invokevirtual 166, 3) := by decide +kernel
theorem dX11_basket_83 : decode cX11_basket 83 = .ok (.ireturn, 1) := by decide +kernel
theorem dX11_pays_0 : decode cX11_pays 0 = .ok (.aload_n 0, 1) := by decide +kernel
theorem dX11_pays_1 : decode cX11_pays 1 = .ok (.iload_n 1, 1) := by decide +kernel
theorem dX11_pays_2 : decode cX11_pays 2 = .ok (.iload_n 2, 1) := by decide +kernel
theorem dX11_pays_3 : decode cX11_pays 3 = .ok (.bipush 30, 2) := by decide +kernel
theorem dX11_pays_5 : decode cX11_pays 5 = .ok (.invokevirtual 170, 3) := by decide +kernel
theorem dX11_pays_8 : decode cX11_pays 8 = .ok (.istore_n 3, 1) := by decide +kernel
theorem dX11_pays_9 : decode cX11_pays 9 = .ok (.iload_n 3, 1) := by decide +kernel
theorem dX11_pays_10 : decode cX11_pays 10 = .ok (.ifCond .eq 11, 3) := by decide +kernel
theorem dX11_pays_13 : decode cX11_pays 13 = .ok (.aload_n 0, 1) := by decide +kernel
theorem dX11_pays_14 : decode cX11_pays 14 = .ok (.iload_n 3, 1) := by decide +kernel
theorem dX11_pays_15 : decode cX11_pays 15 = .ok (.invokevirtual 89, 3) := by decide +kernel
theorem dX11_pays_18 : decode cX11_pays 18 = .ok (.goto 25, 3) := by decide +kernel
theorem dX11_pays_21 : decode cX11_pays 21 = .ok (.aload_n 0, 1) := by decide +kernel
theorem dX11_pays_22 : decode cX11_pays 22 = .ok (.getfield 10, 3) := by decide +kernel
theorem dX11_pays_25 : decode cX11_pays 25 = .ok (.iload_n 2, 1) := by decide +kernel
theorem dX11_pays_26 : decode cX11_pays 26 = .ok (.aload_n 0, 1) := by decide +kernel
theorem dX11_pays_27 : decode cX11_pays 27 = .ok (.getfield 52, 3) := by decide +kernel
theorem dX11_pays_30 : decode cX11_pays 30 = .ok (.getfield 163, 3) := by decide +kernel
theorem dX11_pays_33 : decode cX11_pays 33 = .ok (.aload_n 0, 1) := by decide +kernel
theorem dX11_pays_34 : decode cX11_pays 34 = .ok (.getfield 52, 3) := by decide +kernel
theorem dX11_pays_37 : decode cX11_pays 37 = .ok (.getfield 160, 3) := by decide +kernel
theorem dX11_pays_40 : decode cX11_pays 40 = .ok (.invokevirtual 127, 3) := by decide +kernel
theorem dX11_pays_43 : decode cX11_pays 43 = .ok (.ireturn, 1) := by decide +kernel
theorem dX11_go_0 : decode cX11_go 0 = .ok (.aload_n 0, 1) := by decide +kernel
theorem dX11_go_1 : decode cX11_go 1 = .ok (.iload_n 1, 1) := by decide +kernel
theorem dX11_go_2 : decode cX11_go 2 = .ok (.iload_n 2, 1) := by decide +kernel
theorem dX11_go_3 : decode cX11_go 3 = .ok (.bipush 30, 2) := by decide +kernel
theorem dX11_go_5 : decode cX11_go 5 = .ok (.invokevirtual 170, 3) := by decide +kernel
theorem dX11_go_8 : decode cX11_go 8 = .ok (.istore_n 3, 1) := by decide +kernel
theorem dX11_go_9 : decode cX11_go 9 = .ok (.iload_n 3, 1) := by decide +kernel
theorem dX11_go_10 : decode cX11_go 10 = .ok (.ifCond .eq 9, 3) := by decide +kernel
theorem dX11_go_13 : decode cX11_go 13 = .ok (.aload_n 0, 1) := by decide +kernel
theorem dX11_go_14 : decode cX11_go 14 = .ok (.iload_n 3, 1) := by decide +kernel
theorem dX11_go_15 : decode cX11_go 15 = .ok (.invokevirtual 89, 3) := by decide +kernel
theorem dX11_go_18 : decode cX11_go 18 = .ok (.ireturn, 1) := by decide +kernel
theorem dX11_go_19 : decode cX11_go 19 = .ok (.aload_n 0, 1) := by decide +kernel
theorem dX11_go_20 : decode cX11_go 20 = .ok (.getfield 10, 3) := by decide +kernel
theorem dX11_go_23 : decode cX11_go 23 = .ok (.aload_n 0, 1) := by decide +kernel
theorem dX11_go_24 : decode cX11_go 24 = .ok (.getfield 52, 3) := by decide +kernel
theorem dX11_go_27 : decode cX11_go 27 = .ok (.invokevirtual 172, 3) := by decide +kernel
theorem dX11_go_30 : decode cX11_go 30 = .ok (.ifCond .eq 18, 3) := by decide +kernel
theorem dX11_go_33 : decode cX11_go 33 = .ok (.aload_n 0, 1) := by decide +kernel
theorem dX11_go_34 : decode cX11_go 34 = .ok (.getfield 10, 3) := by decide +kernel
theorem dX11_go_37 : decode cX11_go 37 = .ok (.aload_n 0, 1) := by decide +kernel
theorem dX11_go_38 : decode cX11_go 38 = .ok (.getfield 52, 3) := by decide +kernel
theorem dX11_go_41 : decode cX11_go 41 = .ok (.iload_n 2, 1) := by decide +kernel
theorem dX11_go_42 : decode cX11_go 42 = .ok (.invokevirtual 176, 3) := by decide +kernel
theorem dX11_go_45 : decode cX11_go 45 = .ok (.goto 8, 3) := by decide +kernel
theorem dX11_go_48 : decode cX11_go 48 = .ok (.aload_n 0, 1) := by decide +kernel
theorem dX11_go_49 : decode cX11_go 49 = .ok (.iconst 3, 1) := by decide +kernel
theorem dX11_go_50 : decode cX11_go 50 = .ok (.invokevirtual 89, 3) := by decide +kernel
theorem dX11_go_53 : decode cX11_go 53 = .ok (.ireturn, 1) := by decide +kernel
theorem dX11_draws_0 : decode cX11_draws 0 = .ok (.iload_n 1, 1) := by decide +kernel
theorem dX11_draws_1 : decode cX11_draws 1 = .ok (.iconst 1, 1) := by decide +kernel
theorem dX11_draws_2 : decode cX11_draws 2 = .ok (.bipush 60, 2) := by decide +kernel
theorem dX11_draws_4 : decode cX11_draws 4 = .ok (.invokestatic 81, 3) := by decide +kernel
theorem dX11_draws_7 : decode cX11_draws 7 = .ok (.ifCond .ne 9, 3) := by decide +kernel
theorem dX11_draws_10 : decode cX11_draws 10 = .ok (.aload_n 0, 1) := by decide +kernel
theorem dX11_draws_11 : decode cX11_draws 11 = .ok (.iconst 1, 1) := by decide +kernel
theorem dX11_draws_12 : decode cX11_draws 12 = .ok (.invokevirtual 89, 3) := by decide +kernel
theorem dX11_draws_15 : decode cX11_draws 15 = .ok (.ireturn, 1) := by decide +kernel
theorem dX11_draws_16 : decode cX11_draws 16 = .ok (.iconst 0, 1) := by decide +kernel
theorem dX11_draws_17 : decode cX11_draws 17 = .ok (.istore_n 2, 1) := by decide +kernel
theorem dX11_draws_18 : decode cX11_draws 18 = .ok (.iconst 0, 1) := by decide +kernel
theorem dX11_draws_19 : decode cX11_draws 19 = .ok (.istore_n 3, 1) := by decide +kernel
theorem dX11_draws_20 : decode cX11_draws 20 = .ok (.iload_n 3, 1) := by decide +kernel
theorem dX11_draws_21 : decode cX11_draws 21 = .ok (.iload_n 1, 1) := by decide +kernel
theorem dX11_draws_22 : decode cX11_draws 22 = .ok (.if_icmp .ge 108, 3) := by decide +kernel
theorem dX11_draws_25 : decode cX11_draws 25 = .ok (.aload_n 0, 1) := by decide +kernel
theorem dX11_draws_26 : decode cX11_draws 26 = .ok (.getfield 10, 3) := by decide +kernel
theorem dX11_draws_29 : decode cX11_draws 29 = .ok (.bipush 8, 2) := by decide +kernel
theorem dX11_draws_31 : decode cX11_draws 31 = .ok (.invokevirtual 180, 3) := by decide +kernel
theorem dX11_draws_34 : decode cX11_draws 34 = .ok (.istore 4, 2) := by decide +kernel
theorem dX11_draws_36 : decode cX11_draws 36 = .ok (.aload_n 0, 1) := by decide +kernel
theorem dX11_draws_37 : decode cX11_draws 37 = .ok (.getfield 10, 3) := by decide +kernel
theorem dX11_draws_40 : decode cX11_draws 40 = .ok (.iconst 4, 1) := by decide +kernel
theorem dX11_draws_41 : decode cX11_draws 41 = .ok (.invokevirtual 180, 3) := by decide +kernel
theorem dX11_draws_44 : decode cX11_draws 44 = .ok (.iconst 1, 1) := by decide +kernel
theorem dX11_draws_45 : decode cX11_draws 45 = .ok (.iadd, 1) := by decide +kernel
theorem dX11_draws_46 : decode cX11_draws 46 = .ok (.istore 5, 2) := by decide +kernel
theorem dX11_draws_48 : decode cX11_draws 48 = .ok (.aload_n 0, 1) := by decide +kernel
theorem dX11_draws_49 : decode cX11_draws 49 = .ok (.getfield 10, 3) := by decide +kernel
theorem dX11_draws_52 : decode cX11_draws 52 = .ok (.iconst 4, 1) := by decide +kernel
theorem dX11_draws_53 : decode cX11_draws 53 = .ok (.invokevirtual 180, 3) := by decide +kernel
theorem dX11_draws_56 : decode cX11_draws 56 = .ok (.istore 6, 2) := by decide +kernel
theorem dX11_draws_58 : decode cX11_draws 58 = .ok (.aload_n 0, 1) := by decide +kernel
theorem dX11_draws_59 : decode cX11_draws 59 = .ok (.getfield 52, 3) := by decide +kernel
theorem dX11_draws_62 : decode cX11_draws 62 = .ok (.invokevirtual 183, 3) := by decide +kernel
theorem dX11_draws_65 : decode cX11_draws 65 = .ok (.aload_n 0, 1) := by decide +kernel
theorem dX11_draws_66 : decode cX11_draws 66 = .ok (.getfield 52, 3) := by decide +kernel
theorem dX11_draws_69 : decode cX11_draws 69 = .ok (.getfield 186, 3) := by decide +kernel
theorem dX11_draws_72 : decode cX11_draws 72 = .ok (.iload 4, 2) := by decide +kernel
theorem dX11_draws_74 : decode cX11_draws 74 = .ok (.iload 5, 2) := by decide +kernel
theorem dX11_draws_76 : decode cX11_draws 76 = .ok (.iastore, 1) := by decide +kernel
theorem dX11_draws_77 : decode cX11_draws 77 = .ok (.aload_n 0, 1) := by decide +kernel
theorem dX11_draws_78 : decode cX11_draws 78 = .ok (.getfield 52, 3) := by decide +kernel
theorem dX11_draws_81 : decode cX11_draws 81 = .ok (.aload_n 0, 1) := by decide +kernel
theorem dX11_draws_82 : decode cX11_draws 82 = .ok (.getfield 10, 3) := by decide +kernel
theorem dX11_draws_85 : decode cX11_draws 85 = .ok (.getfield 93, 3) := by decide +kernel
theorem dX11_draws_88 : decode cX11_draws 88 = .ok (.iconst 0, 1) := by decide +kernel
theorem dX11_draws_89 : decode cX11_draws 89 = .ok (.aaload, 1) := by decide +kernel
theorem dX11_draws_90 : decode cX11_draws 90 = .ok (.invokevirtual 189, 3) := by decide +kernel
theorem dX11_draws_93 : decode cX11_draws 93 = .ok (.aload_n 0, 1) := by decide +kernel
theorem dX11_draws_94 : decode cX11_draws 94 = .ok (.getfield 10, 3) := by decide +kernel
theorem dX11_draws_97 : decode cX11_draws 97 = .ok (.aload_n 0, 1) := by decide +kernel
theorem dX11_draws_98 : decode cX11_draws 98 = .ok (.getfield 52, 3) := by decide +kernel
theorem dX11_draws_101 : decode cX11_draws 101 = .ok (.invokevirtual 172, 3) := by decide +kernel
theorem dX11_draws_104 : decode cX11_draws 104 = .ok (.ifCond .eq 20, 3) := by decide +kernel
theorem dX11_draws_107 : decode cX11_draws 107 = .ok (.aload_n 0, 1) := by decide +kernel
theorem dX11_draws_108 : decode cX11_draws 108 = .ok (.getfield 10, 3) := by decide +kernel
theorem dX11_draws_111 : decode cX11_draws 111 = .ok (.aload_n 0, 1) := by decide +kernel
theorem dX11_draws_112 : decode cX11_draws 112 = .ok (.getfield 52, 3) := by decide +kernel
theorem dX11_draws_115 : decode cX11_draws 115 = .ok (.iload 6, 2) := by decide +kernel
theorem dX11_draws_117 : decode cX11_draws 117 = .ok (.invokevirtual 176, 3) := by decide +kernel
theorem dX11_draws_120 : decode cX11_draws 120 = .ok (.pop, 1) := by decide +kernel
theorem dX11_draws_121 : decode cX11_draws 121 = .ok (.iinc 2 1, 3) := by decide +kernel
theorem dX11_draws_124 : decode cX11_draws 124 = .ok (.iinc 3 1, 3) := by decide +kernel
theorem dX11_draws_127 : decode cX11_draws 127 = .ok (.goto (-107), 3) := by decide +kernel
theorem dX11_draws_130 : decode cX11_draws 130 = .ok (.iload_n 2, 1) := by decide +kernel
theorem dX11_draws_131 : decode cX11_draws 131 = .ok (.ireturn, 1) := by decide +kernel
theorem dX11_seed_0 : decode cX11_seed 0 = .ok (.aload_n 0, 1) := by decide +kernel
theorem dX11_seed_1 : decode cX11_seed 1 = .ok (.getfield 10, 3) := by decide +kernel
theorem dX11_seed_4 : decode cX11_seed 4 = .ok (.getfield 193, 3) := by decide +kernel
theorem dX11_seed_7 : decode cX11_seed 7 = .ok (.istore_n 2, 1) := by decide +kernel
theorem dX11_seed_8 : decode cX11_seed 8 = .ok (.aload_n 0, 1) := by decide +kernel
theorem dX11_seed_9 : decode cX11_seed 9 = .ok (.getfield 10, 3) := by decide +kernel
theorem dX11_seed_12 : decode cX11_seed 12 = .ok (.iload_n 1, 1) := by decide +kernel
theorem dX11_seed_13 : decode cX11_seed 13 = .ok (.putfield 193, 3) := by decide +kernel
theorem dX11_seed_16 : decode cX11_seed 16 = .ok (.iload_n 2, 1) := by decide +kernel
theorem dX11_seed_17 : decode cX11_seed 17 = .ok (.ireturn, 1) := by decide +kernel
theorem dX11_more_0 : decode cX11_more 0 = .ok (.iload_n 3, 1) := by decide +kernel
theorem dX11_more_1 : decode cX11_more 1 = .ok (.iconst 0, 1) := by decide +kernel
theorem dX11_more_2 : decode cX11_more 2 = .ok (.iconst 4, 1) := by decide +kernel
theorem dX11_more_3 : decode cX11_more 3 = .ok (.invokestatic 81, 3) := by decide +kernel
theorem dX11_more_6 : decode cX11_more 6 = .ok (.ifCond .eq 15, 3) := by decide +kernel
theorem dX11_more_9 : decode cX11_more 9 = .ok (.iload 4, 2) := by decide +kernel
theorem dX11_more_11 : decode cX11_more 11 = .ok (.bipush (-2), 2) := by decide +kernel
theorem dX11_more_13 : decode cX11_more 13 = .ok (.bipush 7, 2) := by decide +kernel
theorem dX11_more_15 : decode cX11_more 15 = .ok (.invokestatic 81, 3) := by decide +kernel
theorem dX11_more_18 : decode cX11_more 18 = .ok (.ifCond .ne 9, 3) := by decide +kernel
theorem dX11_more_21 : decode cX11_more 21 = .ok (.aload_n 0, 1) := by decide +kernel
theorem dX11_more_22 : decode cX11_more 22 = .ok (.iconst 1, 1) := by decide +kernel
theorem dX11_more_23 : decode cX11_more 23 = .ok (.invokevirtual 89, 3) := by decide +kernel
theorem dX11_more_26 : decode cX11_more 26 = .ok (.ireturn, 1) := by decide +kernel
theorem dX11_more_27 : decode cX11_more 27 = .ok (.aload_n 0, 1) := by decide +kernel
theorem dX11_more_28 : decode cX11_more 28 = .ok (.iload_n 1, 1) := by decide +kernel
theorem dX11_more_29 : decode cX11_more 29 = .ok (.iload_n 2, 1) := by decide +kernel
theorem dX11_more_30 : decode cX11_more 30 = .ok (.bipush 30, 2) := by decide +kernel
theorem dX11_more_32 : decode cX11_more 32 = .ok (.invokevirtual 170, 3) := by decide +kernel
theorem dX11_more_35 : decode cX11_more 35 = .ok (.istore 5, 2) := by decide +kernel
theorem dX11_more_37 : decode cX11_more 37 = .ok (.iload 5, 2) := by decide +kernel
theorem dX11_more_39 : decode cX11_more 39 = .ok (.ifCond .eq 10, 3) := by decide +kernel
theorem dX11_more_42 : decode cX11_more 42 = .ok (.aload_n 0, 1) := by decide +kernel
theorem dX11_more_43 : decode cX11_more 43 = .ok (.iload 5, 2) := by decide +kernel
theorem dX11_more_45 : decode cX11_more 45 = .ok (.invokevirtual 89, 3) := by decide +kernel
theorem dX11_more_48 : decode cX11_more 48 = .ok (.ireturn, 1) := by decide +kernel
theorem dX11_more_49 : decode cX11_more 49 = .ok (.aload_n 0, 1) := by decide +kernel
theorem dX11_more_50 : decode cX11_more 50 = .ok (.iload_n 2, 1) := by decide +kernel
theorem dX11_more_51 : decode cX11_more 51 = .ok (.iload_n 3, 1) := by decide +kernel
theorem dX11_more_52 : decode cX11_more 52 = .ok (.invokevirtual 196, 3) := by decide +kernel
theorem dX11_more_55 : decode cX11_more 55 = .ok (.iload 4, 2) := by decide +kernel
theorem dX11_more_57 : decode cX11_more 57 = .ok (.ifCond .lt 14, 3) := by decide +kernel
theorem dX11_more_60 : decode cX11_more 60 = .ok (.aload_n 0, 1) := by decide +kernel
theorem dX11_more_61 : decode cX11_more 61 = .ok (.getfield 68, 3) := by decide +kernel
theorem dX11_more_64 : decode cX11_more 64 = .ok (.getfield 186, 3) := by decide +kernel
theorem dX11_more_67 : decode cX11_more 67 = .ok (.iload 4, 2) := by decide +kernel
theorem dX11_more_69 : decode cX11_more 69 = .ok (.iaload, 1) := by decide +kernel
theorem dX11_more_70 : decode cX11_more 70 = .ok (.ireturn, 1) := by decide +kernel
theorem dX11_more_71 : decode cX11_more 71 = .ok (.iload 4, 2) := by decide +kernel
theorem dX11_more_73 : decode cX11_more 73 = .ok (.iconst (-1), 1) := by decide +kernel
theorem dX11_more_74 : decode cX11_more 74 = .ok (.if_icmp .ne 10, 3) := by decide +kernel
theorem dX11_more_77 : decode cX11_more 77 = .ok (.aload_n 0, 1) := by decide +kernel
theorem dX11_more_78 : decode cX11_more 78 = .ok (.getfield 71, 3) := by decide +kernel
theorem dX11_more_81 : decode cX11_more 81 = .ok (.goto 7, 3) := by decide +kernel
theorem dX11_more_84 : decode cX11_more 84 = .ok (.aload_n 0, 1) := by decide +kernel
theorem dX11_more_85 : decode cX11_more 85 = .ok (.getfield 74, 3) := by decide +kernel
theorem dX11_more_88 : decode cX11_more 88 = .ok (.ireturn, 1) := by decide +kernel
theorem dX11_inTwo_0 : decode cX11_inTwo 0 = .ok (.aload_n 0, 1) := by decide +kernel
theorem dX11_inTwo_1 : decode cX11_inTwo 1 = .ok (.iload_n 1, 1) := by decide +kernel
theorem dX11_inTwo_2 : decode cX11_inTwo 2 = .ok (.iload_n 2, 1) := by decide +kernel
theorem dX11_inTwo_3 : decode cX11_inTwo 3 = .ok (.bipush 12, 2) := by decide +kernel
theorem dX11_inTwo_5 : decode cX11_inTwo 5 = .ok (.invokevirtual 170, 3) := by decide +kernel
theorem dX11_inTwo_8 : decode cX11_inTwo 8 = .ok (.istore_n 3, 1) := by decide +kernel
theorem dX11_inTwo_9 : decode cX11_inTwo 9 = .ok (.iload_n 3, 1) := by decide +kernel
theorem dX11_inTwo_10 : decode cX11_inTwo 10 = .ok (.ifCond .eq 9, 3) := by decide +kernel
theorem dX11_inTwo_13 : decode cX11_inTwo 13 = .ok (.aload_n 0, 1) := by decide +kernel
theorem dX11_inTwo_14 : decode cX11_inTwo 14 = .ok (.iload_n 3, 1) := by decide +kernel
theorem dX11_inTwo_15 : decode cX11_inTwo 15 = .ok (.invokevirtual 89, 3) := by decide +kernel
theorem dX11_inTwo_18 : decode cX11_inTwo 18 = .ok (.ireturn, 1) := by decide +kernel
theorem dX11_inTwo_19 : decode cX11_inTwo 19 = .ok (.aload_n 0, 1) := by decide +kernel
theorem dX11_inTwo_20 : decode cX11_inTwo 20 = .ok (.getfield 59, 3) := by decide +kernel
theorem dX11_inTwo_23 : decode cX11_inTwo 23 = .ok (.invokevirtual 183, 3) := by decide +kernel
theorem dX11_inTwo_26 : decode cX11_inTwo 26 = .ok (.aload_n 0, 1) := by decide +kernel
theorem dX11_inTwo_27 : decode cX11_inTwo 27 = .ok (.getfield 10, 3) := by decide +kernel
theorem dX11_inTwo_30 : decode cX11_inTwo 30 = .ok (.iload_n 2, 1) := by decide +kernel
theorem dX11_inTwo_31 : decode cX11_inTwo 31 = .ok (.aload_n 0, 1) := by decide +kernel
theorem dX11_inTwo_32 : decode cX11_inTwo 32 = .ok (.getfield 52, 3) := by decide +kernel
theorem dX11_inTwo_35 : decode cX11_inTwo 35 = .ok (.getfield 163, 3) := by decide +kernel
theorem dX11_inTwo_38 : decode cX11_inTwo 38 = .ok (.aload_n 0, 1) := by decide +kernel
theorem dX11_inTwo_39 : decode cX11_inTwo 39 = .ok (.getfield 52, 3) := by decide +kernel
theorem dX11_inTwo_42 : decode cX11_inTwo 42 = .ok (.getfield 160, 3) := by decide +kernel
theorem dX11_inTwo_45 : decode cX11_inTwo 45 = .ok (.invokevirtual 127, 3) := by decide +kernel
theorem dX11_inTwo_48 : decode cX11_inTwo 48 = .ok (.istore 4, 2) := by decide +kernel
theorem dX11_inTwo_50 : decode cX11_inTwo 50 = .ok (.iconst 0, 1) := by decide +kernel
theorem dX11_inTwo_51 : decode cX11_inTwo 51 = .ok (.istore 5, 2) := by decide +kernel
theorem dX11_inTwo_53 : decode cX11_inTwo 53 = .ok (.iload 5, 2) := by decide +kernel
theorem dX11_inTwo_55 : decode cX11_inTwo 55 = .ok (.ldc 200, 2) := by decide +kernel
theorem dX11_inTwo_57 : decode cX11_inTwo 57 = .ok (.if_icmp .ge 114, 3) := by decide +kernel
theorem dX11_inTwo_60 : decode cX11_inTwo 60 = .ok (.aload_n 0, 1) := by decide +kernel
theorem dX11_inTwo_61 : decode cX11_inTwo 61 = .ok (.getfield 59, 3) := by decide +kernel
theorem dX11_inTwo_64 : decode cX11_inTwo 64 = .ok (.aload_n 0, 1) := by decide +kernel
theorem dX11_inTwo_65 : decode cX11_inTwo 65 = .ok (.getfield 52, 3) := by decide +kernel
theorem dX11_inTwo_68 : decode cX11_inTwo 68 = .ok (.getfield 186, 3) := by decide +kernel
theorem dX11_inTwo_71 : decode cX11_inTwo 71 = .ok (.aload_n 0, 1) := by decide +kernel
theorem dX11_inTwo_72 : decode cX11_inTwo 72 = .ok (.getfield 52, 3) := by decide +kernel
theorem dX11_inTwo_75 : decode cX11_inTwo 75 = .ok (.getfield 160, 3) := by decide +kernel
theorem dX11_inTwo_78 : decode cX11_inTwo 78 = .ok (.aload_n 0, 1) := by decide +kernel
theorem dX11_inTwo_79 : decode cX11_inTwo 79 = .ok (.getfield 10, 3) := by decide +kernel
theorem dX11_inTwo_82 : decode cX11_inTwo 82 = .ok (.getfield 93, 3) := by decide +kernel
theorem dX11_inTwo_85 : decode cX11_inTwo 85 = .ok (.iconst 0, 1) := by decide +kernel
theorem dX11_inTwo_86 : decode cX11_inTwo 86 = .ok (.aaload, 1) := by decide +kernel
theorem dX11_inTwo_87 : decode cX11_inTwo 87 = .ok (.invokevirtual 201, 3) := by decide +kernel
theorem dX11_inTwo_90 : decode cX11_inTwo 90 = .ok (.ifCond .eq 81, 3) := by decide +kernel
theorem dX11_inTwo_93 : decode cX11_inTwo 93 = .ok (.aload_n 0, 1) := by decide +kernel
theorem dX11_inTwo_94 : decode cX11_inTwo 94 = .ok (.getfield 10, 3) := by decide +kernel
theorem dX11_inTwo_97 : decode cX11_inTwo 97 = .ok (.iload_n 2, 1) := by decide +kernel
theorem dX11_inTwo_98 : decode cX11_inTwo 98 = .ok (.aload_n 0, 1) := by decide +kernel
theorem dX11_inTwo_99 : decode cX11_inTwo 99 = .ok (.getfield 59, 3) := by decide +kernel
theorem dX11_inTwo_102 : decode cX11_inTwo 102 = .ok (.getfield 163, 3) := by decide +kernel
theorem dX11_inTwo_105 : decode cX11_inTwo 105 = .ok (.aload_n 0, 1) := by decide +kernel
theorem dX11_inTwo_106 : decode cX11_inTwo 106 = .ok (.getfield 59, 3) := by decide +kernel
theorem dX11_inTwo_109 : decode cX11_inTwo 109 = .ok (.getfield 160, 3) := by decide +kernel
theorem dX11_inTwo_112 : decode cX11_inTwo 112 = .ok (.invokevirtual 127, 3) := by decide +kernel
theorem dX11_inTwo_115 : decode cX11_inTwo 115 = .ok (.aload_n 0, 1) := by decide +kernel
theorem dX11_inTwo_116 : decode cX11_inTwo 116 = .ok (.getfield 10, 3) := by decide +kernel
theorem dX11_inTwo_119 : decode cX11_inTwo 119 = .ok (.iload_n 2, 1) := by decide +kernel
theorem dX11_inTwo_120 : decode cX11_inTwo 120 = .ok (.aload_n 0, 1) := by decide +kernel
theorem dX11_inTwo_121 : decode cX11_inTwo 121 = .ok (.getfield 52, 3) := by decide +kernel
theorem dX11_inTwo_124 : decode cX11_inTwo 124 = .ok (.getfield 163, 3) := by decide +kernel
theorem dX11_inTwo_127 : decode cX11_inTwo 127 = .ok (.aload_n 0, 1) := by decide +kernel
theorem dX11_inTwo_128 : decode cX11_inTwo 128 = .ok (.getfield 59, 3) := by decide +kernel
theorem dX11_inTwo_131 : decode cX11_inTwo 131 = .ok (.getfield 163, 3) := by decide +kernel
theorem dX11_inTwo_134 : decode cX11_inTwo 134 = .ok (.isub, 1) := by decide +kernel
theorem dX11_inTwo_135 : decode cX11_inTwo 135 = .ok (.aload_n 0, 1) := by decide +kernel
theorem dX11_inTwo_136 : decode cX11_inTwo 136 = .ok (.getfield 52, 3) := by decide +kernel
theorem dX11_inTwo_139 : decode cX11_inTwo 139 = .ok (.getfield 160, 3) := by decide +kernel
theorem dX11_inTwo_142 : decode cX11_inTwo 142 = .ok (.aload_n 0, 1) := by decide +kernel
theorem dX11_inTwo_143 : decode cX11_inTwo 143 = .ok (.getfield 59, 3) := by decide +kernel
theorem dX11_inTwo_146 : decode cX11_inTwo 146 = .ok (.getfield 160, 3) := by decide +kernel
theorem dX11_inTwo_149 : decode cX11_inTwo 149 = .ok (.isub, 1) := by decide +kernel
theorem dX11_inTwo_150 : decode cX11_inTwo 150 = .ok (.invokevirtual 127, 3) := by decide +kernel
theorem dX11_inTwo_153 : decode cX11_inTwo 153 = .ok (.iadd, 1) := by decide +kernel
theorem dX11_inTwo_154 : decode cX11_inTwo 154 = .ok (.istore 6, 2) := by decide +kernel
theorem dX11_inTwo_156 : decode cX11_inTwo 156 = .ok (.iload 4, 2) := by decide +kernel
theorem dX11_inTwo_158 : decode cX11_inTwo 158 = .ok (.iload 6, 2) := by decide +kernel
theorem dX11_inTwo_160 : decode cX11_inTwo 160 = .ok (.invokestatic 205, 3) := by decide +kernel
theorem dX11_inTwo_163 : decode cX11_inTwo 163 = .ok (.istore 4, 2) := by decide +kernel
theorem dX11_inTwo_165 : decode cX11_inTwo 165 = .ok (.iinc 5 1, 3) := by decide +kernel
theorem dX11_inTwo_168 : decode cX11_inTwo 168 = .ok (.goto (-115), 3) := by decide +kernel
theorem dX11_inTwo_171 : decode cX11_inTwo 171 = .ok (.iload 4, 2) := by decide +kernel
theorem dX11_inTwo_173 : decode cX11_inTwo 173 = .ok (.ireturn, 1) := by decide +kernel
theorem dX11_together_0 : decode cX11_together 0 = .ok (.iload_n 1, 1) := by decide +kernel
theorem dX11_together_1 : decode cX11_together 1 = .ok (.invokestatic 154, 3) := by decide +kernel
theorem dX11_together_4 : decode cX11_together 4 = .ok (.ifCond .eq 17, 3) := by decide +kernel
theorem dX11_together_7 : decode cX11_together 7 = .ok (.iload_n 2, 1) := by decide +kernel
theorem dX11_together_8 : decode cX11_together 8 = .ok (.invokestatic 154, 3) := by decide +kernel
theorem dX11_together_11 : decode cX11_together 11 = .ok (.ifCond .eq 10, 3) := by decide +kernel
theorem dX11_together_14 : decode cX11_together 14 = .ok (.iload_n 3, 1) := by decide +kernel
theorem dX11_together_15 : decode cX11_together 15 = .ok (.invokestatic 99, 3) := by decide +kernel
theorem dX11_together_18 : decode cX11_together 18 = .ok (.ifCond .ne 9, 3) := by decide +kernel
theorem dX11_together_21 : decode cX11_together 21 = .ok (.aload_n 0, 1) := by decide +kernel
theorem dX11_together_22 : decode cX11_together 22 = .ok (.iconst 1, 1) := by decide +kernel
theorem dX11_together_23 : decode cX11_together 23 = .ok (.invokevirtual 89, 3) := by decide +kernel
theorem dX11_together_26 : decode cX11_together 26 = .ok (.ireturn, 1) := by decide +kernel
theorem dX11_together_27 : decode cX11_together 27 = .ok (.aload_n 0, 1) := by decide +kernel
theorem dX11_together_28 : decode cX11_together 28 = .ok (.iload_n 1, 1) := by decide +kernel
theorem dX11_together_29 : decode cX11_together 29 = .ok (.invokevirtual 210, 3) := by decide +kernel
theorem dX11_together_32 : decode cX11_together 32 = .ok (.ifCond .ne 11, 3) := by decide +kernel
theorem dX11_together_35 : decode cX11_together 35 = .ok (.aload_n 0, 1) := by decide +kernel
theorem dX11_together_36 : decode cX11_together 36 = .ok (.iload_n 2, 1) := by decide +kernel
theorem dX11_together_37 : decode cX11_together 37 = .ok (.invokevirtual 210, 3) := by decide +kernel
theorem dX11_together_40 : decode cX11_together 40 = .ok (.ifCond .eq 9, 3) := by decide +kernel
theorem dX11_together_43 : decode cX11_together 43 = .ok (.aload_n 0, 1) := by decide +kernel
theorem dX11_together_44 : decode cX11_together 44 = .ok (.iconst 2, 1) := by decide +kernel
theorem dX11_together_45 : decode cX11_together 45 = .ok (.invokevirtual 89, 3) := by decide +kernel
theorem dX11_together_48 : decode cX11_together 48 = .ok (.ireturn, 1) := by decide +kernel
theorem dX11_together_49 : decode cX11_together 49 = .ok (.aload_n 0, 1) := by decide +kernel
theorem dX11_together_50 : decode cX11_together 50 = .ok (.iload_n 1, 1) := by decide +kernel
theorem dX11_together_51 : decode cX11_together 51 = .ok (.aload_n 0, 1) := by decide +kernel
theorem dX11_together_52 : decode cX11_together 52 = .ok (.getfield 52, 3) := by decide +kernel
theorem dX11_together_55 : decode cX11_together 55 = .ok (.invokevirtual 213, 3) := by decide +kernel
theorem dX11_together_58 : decode cX11_together 58 = .ok (.ifCond .eq 15, 3) := by decide +kernel
theorem dX11_together_61 : decode cX11_together 61 = .ok (.aload_n 0, 1) := by decide +kernel
theorem dX11_together_62 : decode cX11_together 62 = .ok (.iload_n 2, 1) := by decide +kernel
theorem dX11_together_63 : decode cX11_together 63 = .ok (.aload_n 0, 1) := by decide +kernel
theorem dX11_together_64 : decode cX11_together 64 = .ok (.getfield 56, 3) := by decide +kernel
theorem dX11_together_67 : decode cX11_together 67 = .ok (.invokevirtual 213, 3) := by decide +kernel
theorem dX11_together_70 : decode cX11_together 70 = .ok (.ifCond .ne 9, 3) := by decide +kernel
theorem dX11_together_73 : decode cX11_together 73 = .ok (.aload_n 0, 1) := by decide +kernel
theorem dX11_together_74 : decode cX11_together 74 = .ok (.iconst 1, 1) := by decide +kernel
theorem dX11_together_75 : decode cX11_together 75 = .ok (.invokevirtual 89, 3) := by decide +kernel
theorem dX11_together_78 : decode cX11_together 78 = .ok (.ireturn, 1) := by decide +kernel
theorem dX11_together_79 : decode cX11_together 79 = .ok (.aload_n 0, 1) := by decide +kernel
theorem dX11_together_80 : decode cX11_together 80 = .ok (.getfield 52, 3) := by decide +kernel
theorem dX11_together_83 : decode cX11_together 83 = .ok (.getfield 160, 3) := by decide +kernel
theorem dX11_together_86 : decode cX11_together 86 = .ok (.aload_n 0, 1) := by decide +kernel
theorem dX11_together_87 : decode cX11_together 87 = .ok (.getfield 56, 3) := by decide +kernel
theorem dX11_together_90 : decode cX11_together 90 = .ok (.getfield 160, 3) := by decide +kernel
theorem dX11_together_93 : decode cX11_together 93 = .ok (.iadd, 1) := by decide +kernel
theorem dX11_together_94 : decode cX11_together 94 = .ok (.istore 4, 2) := by decide +kernel
theorem dX11_together_96 : decode cX11_together 96 = .ok (.iload 4, 2) := by decide +kernel
theorem dX11_together_98 : decode cX11_together 98 = .ok (.bipush 30, 2) := by decide +kernel
theorem dX11_together_100 : decode cX11_together 100 = .ok (.if_icmp .le 9, 3) := by decide +kernel
theorem dX11_together_103 : decode cX11_together 103 = .ok (.aload_n 0, 1) := by decide +kernel
theorem dX11_together_104 : decode cX11_together 104 = .ok (.iconst 4, 1) := by decide +kernel
theorem dX11_together_105 : decode cX11_together 105 = .ok (.invokevirtual 89, 3) := by decide +kernel
theorem dX11_together_108 : decode cX11_together 108 = .ok (.ireturn, 1) := by decide +kernel
theorem dX11_together_109 : decode cX11_together 109 = .ok (.aload_n 0, 1) := by decide +kernel
theorem dX11_together_110 : decode cX11_together 110 = .ok (.getfield 10, 3) := by decide +kernel
theorem dX11_together_113 : decode cX11_together 113 = .ok (.iload_n 3, 1) := by decide +kernel
theorem dX11_together_114 : decode cX11_together 114 = .ok (.aload_n 0, 1) := by decide +kernel
theorem dX11_together_115 : decode cX11_together 115 = .ok (.getfield 52, 3) := by decide +kernel
theorem dX11_together_118 : decode cX11_together 118 = .ok (.getfield 163, 3) := by decide +kernel
theorem dX11_together_121 : decode cX11_together 121 = .ok (.aload_n 0, 1) := by decide +kernel
theorem dX11_together_122 : decode cX11_together 122 = .ok (.getfield 52, 3) := by decide +kernel
theorem dX11_together_125 : decode cX11_together 125 = .ok (.getfield 160, 3) := by decide +kernel
theorem dX11_together_128 : decode cX11_together 128 = .ok (.invokevirtual 127, 3) := by decide +kernel
theorem dX11_together_131 : decode cX11_together 131 = .ok (.aload_n 0, 1) := by decide +kernel
theorem dX11_together_132 : decode cX11_together 132 = .ok (.getfield 10, 3) := by decide +kernel
theorem dX11_together_135 : decode cX11_together 135 = .ok (.iload_n 3, 1) := by decide +kernel
theorem dX11_together_136 : decode cX11_together 136 = .ok (.aload_n 0, 1) := by decide +kernel
theorem dX11_together_137 : decode cX11_together 137 = .ok (.getfield 56, 3) := by decide +kernel
theorem dX11_together_140 : decode cX11_together 140 = .ok (.getfield 163, 3) := by decide +kernel
theorem dX11_together_143 : decode cX11_together 143 = .ok (.aload_n 0, 1) := by decide +kernel
theorem dX11_together_144 : decode cX11_together 144 = .ok (.getfield 56, 3) := by decide +kernel
theorem dX11_together_147 : decode cX11_together 147 = .ok (.getfield 160, 3) := by decide +kernel
theorem dX11_together_150 : decode cX11_together 150 = .ok (.invokevirtual 127, 3) := by decide +kernel
theorem dX11_together_153 : decode cX11_together 153 = .ok (.iadd, 1) := by decide +kernel
theorem dX11_together_154 : decode cX11_together 154 = .ok (.aload_n 0, 1) := by decide +kernel
theorem dX11_together_155 : decode cX11_together 155 = .ok (.getfield 10, 3) := by decide +kernel
theorem dX11_together_158 : decode cX11_together 158 = .ok (.iload_n 3, 1) := by decide +kernel
theorem dX11_together_159 : decode cX11_together 159 = .ok (.aload_n 0, 1) := by decide +kernel
theorem dX11_together_160 : decode cX11_together 160 = .ok (.getfield 52, 3) := by decide +kernel
theorem dX11_together_163 : decode cX11_together 163 = .ok (.getfield 163, 3) := by decide +kernel
theorem dX11_together_166 : decode cX11_together 166 = .ok (.aload_n 0, 1) := by decide +kernel
theorem dX11_together_167 : decode cX11_together 167 = .ok (.getfield 56, 3) := by decide +kernel
theorem dX11_together_170 : decode cX11_together 170 = .ok (.getfield 163, 3) := by decide +kernel
theorem dX11_together_173 : decode cX11_together 173 = .ok (.iadd, 1) := by decide +kernel
theorem dX11_together_174 : decode cX11_together 174 = .ok (.iload 4, 2) := by decide +kernel
theorem dX11_together_176 : decode cX11_together 176 = .ok (.invokevirtual 127, 3) := by decide +kernel
theorem dX11_together_179 : decode cX11_together 179 = .ok (.isub, 1) := by decide +kernel
theorem dX11_together_180 : decode cX11_together 180 = .ok (.ireturn, 1) := by decide +kernel
theorem dX11_worth_0 : decode cX11_worth 0 = .ok (.iload_n 3, 1) := by decide +kernel
theorem dX11_worth_1 : decode cX11_worth 1 = .ok (.invokestatic 77, 3) := by decide +kernel
theorem dX11_worth_4 : decode cX11_worth 4 = .ok (.ifCond .ne 9, 3) := by decide +kernel
theorem dX11_worth_7 : decode cX11_worth 7 = .ok (.aload_n 0, 1) := by decide +kernel
theorem dX11_worth_8 : decode cX11_worth 8 = .ok (.iconst 1, 1) := by decide +kernel
theorem dX11_worth_9 : decode cX11_worth 9 = .ok (.invokevirtual 89, 3) := by decide +kernel
theorem dX11_worth_12 : decode cX11_worth 12 = .ok (.ireturn, 1) := by decide +kernel
theorem dX11_worth_13 : decode cX11_worth 13 = .ok (.aload_n 0, 1) := by decide +kernel
theorem dX11_worth_14 : decode cX11_worth 14 = .ok (.iload_n 1, 1) := by decide +kernel
theorem dX11_worth_15 : decode cX11_worth 15 = .ok (.iload_n 2, 1) := by decide +kernel
theorem dX11_worth_16 : decode cX11_worth 16 = .ok (.bipush 29, 2) := by decide +kernel
theorem dX11_worth_18 : decode cX11_worth 18 = .ok (.invokevirtual 170, 3) := by decide +kernel
theorem dX11_worth_21 : decode cX11_worth 21 = .ok (.istore 4, 2) := by decide +kernel
theorem dX11_worth_23 : decode cX11_worth 23 = .ok (.iload 4, 2) := by decide +kernel
theorem dX11_worth_25 : decode cX11_worth 25 = .ok (.ifCond .eq 10, 3) := by decide +kernel
theorem dX11_worth_28 : decode cX11_worth 28 = .ok (.aload_n 0, 1) := by decide +kernel
theorem dX11_worth_29 : decode cX11_worth 29 = .ok (.iload 4, 2) := by decide +kernel
theorem dX11_worth_31 : decode cX11_worth 31 = .ok (.invokevirtual 89, 3) := by decide +kernel
theorem dX11_worth_34 : decode cX11_worth 34 = .ok (.ireturn, 1) := by decide +kernel
theorem dX11_worth_35 : decode cX11_worth 35 = .ok (.aload_n 0, 1) := by decide +kernel
theorem dX11_worth_36 : decode cX11_worth 36 = .ok (.getfield 10, 3) := by decide +kernel
theorem dX11_worth_39 : decode cX11_worth 39 = .ok (.iload_n 2, 1) := by decide +kernel
theorem dX11_worth_40 : decode cX11_worth 40 = .ok (.aload_n 0, 1) := by decide +kernel
theorem dX11_worth_41 : decode cX11_worth 41 = .ok (.getfield 52, 3) := by decide +kernel
theorem dX11_worth_44 : decode cX11_worth 44 = .ok (.getfield 163, 3) := by decide +kernel
theorem dX11_worth_47 : decode cX11_worth 47 = .ok (.aload_n 0, 1) := by decide +kernel
theorem dX11_worth_48 : decode cX11_worth 48 = .ok (.getfield 52, 3) := by decide +kernel
theorem dX11_worth_51 : decode cX11_worth 51 = .ok (.getfield 160, 3) := by decide +kernel
theorem dX11_worth_54 : decode cX11_worth 54 = .ok (.invokevirtual 127, 3) := by decide +kernel
theorem dX11_worth_57 : decode cX11_worth 57 = .ok (.aload_n 0, 1) := by decide +kernel
theorem dX11_worth_58 : decode cX11_worth 58 = .ok (.getfield 10, 3) := by decide +kernel
theorem dX11_worth_61 : decode cX11_worth 61 = .ok (.iload_n 2, 1) := by decide +kernel
theorem dX11_worth_62 : decode cX11_worth 62 = .ok (.aload_n 0, 1) := by decide +kernel
theorem dX11_worth_63 : decode cX11_worth 63 = .ok (.getfield 52, 3) := by decide +kernel
theorem dX11_worth_66 : decode cX11_worth 66 = .ok (.getfield 163, 3) := by decide +kernel
theorem dX11_worth_69 : decode cX11_worth 69 = .ok (.aload_n 0, 1) := by decide +kernel
theorem dX11_worth_70 : decode cX11_worth 70 = .ok (.getfield 10, 3) := by decide +kernel
theorem dX11_worth_73 : decode cX11_worth 73 = .ok (.getfield 93, 3) := by decide +kernel
theorem dX11_worth_76 : decode cX11_worth 76 = .ok (.iconst 0, 1) := by decide +kernel
theorem dX11_worth_77 : decode cX11_worth 77 = .ok (.aaload, 1) := by decide +kernel
theorem dX11_worth_78 : decode cX11_worth 78 = .ok (.iload_n 3, 1) := by decide +kernel
theorem dX11_worth_79 : decode cX11_worth 79 = .ok (.iaload, 1) := by decide +kernel
theorem dX11_worth_80 : decode cX11_worth 80 = .ok (.iadd, 1) := by decide +kernel
theorem dX11_worth_81 : decode cX11_worth 81 = .ok (.aload_n 0, 1) := by decide +kernel
theorem dX11_worth_82 : decode cX11_worth 82 = .ok (.getfield 52, 3) := by decide +kernel
theorem dX11_worth_85 : decode cX11_worth 85 = .ok (.getfield 160, 3) := by decide +kernel
theorem dX11_worth_88 : decode cX11_worth 88 = .ok (.iconst 1, 1) := by decide +kernel
theorem dX11_worth_89 : decode cX11_worth 89 = .ok (.iadd, 1) := by decide +kernel
theorem dX11_worth_90 : decode cX11_worth 90 = .ok (.invokevirtual 127, 3) := by decide +kernel
theorem dX11_worth_93 : decode cX11_worth 93 = .ok (.isub, 1) := by decide +kernel
theorem dX11_worth_94 : decode cX11_worth 94 = .ok (.ireturn, 1) := by decide +kernel
theorem dX11_dearer_0 : decode cX11_dearer 0 = .ok (.iload_n 3, 1) := by decide +kernel
theorem dX11_dearer_1 : decode cX11_dearer 1 = .ok (.iconst 0, 1) := by decide +kernel
theorem dX11_dearer_2 : decode cX11_dearer 2 = .ok (.iconst 2, 1) := by decide +kernel
theorem dX11_dearer_3 : decode cX11_dearer 3 = .ok (.invokestatic 81, 3) := by decide +kernel
theorem dX11_dearer_6 : decode cX11_dearer 6 = .ok (.ifCond .ne 9, 3) := by decide +kernel
theorem dX11_dearer_9 : decode cX11_dearer 9 = .ok (.aload_n 0, 1) := by decide +kernel
theorem dX11_dearer_10 : decode cX11_dearer 10 = .ok (.iconst 1, 1) := by decide +kernel
theorem dX11_dearer_11 : decode cX11_dearer 11 = .ok (.invokevirtual 89, 3) := by decide +kernel
theorem dX11_dearer_14 : decode cX11_dearer 14 = .ok (.ireturn, 1) := by decide +kernel
theorem dX11_dearer_15 : decode cX11_dearer 15 = .ok (.aload_n 0, 1) := by decide +kernel
theorem dX11_dearer_16 : decode cX11_dearer 16 = .ok (.iload_n 1, 1) := by decide +kernel
theorem dX11_dearer_17 : decode cX11_dearer 17 = .ok (.iload_n 2, 1) := by decide +kernel
theorem dX11_dearer_18 : decode cX11_dearer 18 = .ok (.bipush 30, 2) := by decide +kernel
theorem dX11_dearer_20 : decode cX11_dearer 20 = .ok (.invokevirtual 170, 3) := by decide +kernel
theorem dX11_dearer_23 : decode cX11_dearer 23 = .ok (.istore 4, 2) := by decide +kernel
theorem dX11_dearer_25 : decode cX11_dearer 25 = .ok (.iload 4, 2) := by decide +kernel
theorem dX11_dearer_27 : decode cX11_dearer 27 = .ok (.ifCond .eq 10, 3) := by decide +kernel
theorem dX11_dearer_30 : decode cX11_dearer 30 = .ok (.aload_n 0, 1) := by decide +kernel
theorem dX11_dearer_31 : decode cX11_dearer 31 = .ok (.iload 4, 2) := by decide +kernel
theorem dX11_dearer_33 : decode cX11_dearer 33 = .ok (.invokevirtual 89, 3) := by decide +kernel
theorem dX11_dearer_36 : decode cX11_dearer 36 = .ok (.ireturn, 1) := by decide +kernel
theorem dX11_dearer_37 : decode cX11_dearer 37 = .ok (.aload_n 0, 1) := by decide +kernel
theorem dX11_dearer_38 : decode cX11_dearer 38 = .ok (.iload_n 2, 1) := by decide +kernel
theorem dX11_dearer_39 : decode cX11_dearer 39 = .ok (.iload_n 3, 1) := by decide +kernel
theorem dX11_dearer_40 : decode cX11_dearer 40 = .ok (.invokevirtual 196, 3) := by decide +kernel
theorem dX11_dearer_43 : decode cX11_dearer 43 = .ok (.aload_n 0, 1) := by decide +kernel
theorem dX11_dearer_44 : decode cX11_dearer 44 = .ok (.getfield 71, 3) := by decide +kernel
theorem dX11_dearer_47 : decode cX11_dearer 47 = .ok (.istore 5, 2) := by decide +kernel
theorem dX11_dearer_49 : decode cX11_dearer 49 = .ok (.iconst 0, 1) := by decide +kernel
theorem dX11_dearer_50 : decode cX11_dearer 50 = .ok (.istore 6, 2) := by decide +kernel
theorem dX11_dearer_52 : decode cX11_dearer 52 = .ok (.iconst 0, 1) := by decide +kernel
theorem dX11_dearer_53 : decode cX11_dearer 53 = .ok (.istore 7, 2) := by decide +kernel
theorem dX11_dearer_55 : decode cX11_dearer 55 = .ok (.iload 7, 2) := by decide +kernel
theorem dX11_dearer_57 : decode cX11_dearer 57 = .ok (.bipush 8, 2) := by decide +kernel
theorem dX11_dearer_59 : decode cX11_dearer 59 = .ok (.if_icmp .ge 58, 3) := by decide +kernel
theorem dX11_dearer_62 : decode cX11_dearer 62 = .ok (.iconst 1, 1) := by decide +kernel
theorem dX11_dearer_63 : decode cX11_dearer 63 = .ok (.istore 8, 2) := by decide +kernel
theorem dX11_dearer_65 : decode cX11_dearer 65 = .ok (.iload 8, 2) := by decide +kernel
theorem dX11_dearer_67 : decode cX11_dearer 67 = .ok (.bipush 9, 2) := by decide +kernel
theorem dX11_dearer_69 : decode cX11_dearer 69 = .ok (.if_icmp .gt 42, 3) := by decide +kernel
theorem dX11_dearer_72 : decode cX11_dearer 72 = .ok (.aload_n 0, 1) := by decide +kernel
theorem dX11_dearer_73 : decode cX11_dearer 73 = .ok (.iload_n 2, 1) := by decide +kernel
theorem dX11_dearer_74 : decode cX11_dearer 74 = .ok (.iload_n 3, 1) := by decide +kernel
theorem dX11_dearer_75 : decode cX11_dearer 75 = .ok (.iload 7, 2) := by decide +kernel
theorem dX11_dearer_77 : decode cX11_dearer 77 = .ok (.iload 8, 2) := by decide +kernel
theorem dX11_dearer_79 : decode cX11_dearer 79 = .ok (.invokevirtual 217, 3) := by decide +kernel
theorem dX11_dearer_82 : decode cX11_dearer 82 = .ok (.istore 9, 2) := by decide +kernel
theorem dX11_dearer_84 : decode cX11_dearer 84 = .ok (.iload 9, 2) := by decide +kernel
theorem dX11_dearer_86 : decode cX11_dearer 86 = .ok (.iload 5, 2) := by decide +kernel
theorem dX11_dearer_88 : decode cX11_dearer 88 = .ok (.if_icmp .le 17, 3) := by decide +kernel
theorem dX11_dearer_91 : decode cX11_dearer 91 = .ok (.iload 9, 2) := by decide +kernel
theorem dX11_dearer_93 : decode cX11_dearer 93 = .ok (.istore 5, 2) := by decide +kernel
theorem dX11_dearer_95 : decode cX11_dearer 95 = .ok (.bipush 10, 2) := by decide +kernel
theorem dX11_dearer_97 : decode cX11_dearer 97 = .ok (.iload 7, 2) := by decide +kernel
theorem dX11_dearer_99 : decode cX11_dearer 99 = .ok (.imul, 1) := by decide +kernel
theorem dX11_dearer_100 : decode cX11_dearer 100 = .ok (.iload 8, 2) := by decide +kernel
theorem dX11_dearer_102 : decode cX11_dearer 102 = .ok (.iadd, 1) := by decide +kernel
theorem dX11_dearer_103 : decode cX11_dearer 103 = .ok (.istore 6, 2) := by decide +kernel
theorem dX11_dearer_105 : decode cX11_dearer 105 = .ok (.iinc 8 1, 3) := by decide +kernel
theorem dX11_dearer_108 : decode cX11_dearer 108 = .ok (.goto (-43), 3) := by decide +kernel
theorem dX11_dearer_111 : decode cX11_dearer 111 = .ok (.iinc 7 1, 3) := by decide +kernel
theorem dX11_dearer_114 : decode cX11_dearer 114 = .ok (.goto (-59), 3) := by decide +kernel
theorem dX11_dearer_117 : decode cX11_dearer 117 = .ok (.iload 6, 2) := by decide +kernel
theorem dX11_dearer_119 : decode cX11_dearer 119 = .ok (.ireturn, 1) := by decide +kernel
theorem dX11_nines_0 : decode cX11_nines 0 = .ok (.iload_n 1, 1) := by decide +kernel
theorem dX11_nines_1 : decode cX11_nines 1 = .ok (.iconst (-1), 1) := by decide +kernel
theorem dX11_nines_2 : decode cX11_nines 2 = .ok (.iconst 3, 1) := by decide +kernel
theorem dX11_nines_3 : decode cX11_nines 3 = .ok (.invokestatic 81, 3) := by decide +kernel
theorem dX11_nines_6 : decode cX11_nines 6 = .ok (.ifCond .ne 9, 3) := by decide +kernel
theorem dX11_nines_9 : decode cX11_nines 9 = .ok (.aload_n 0, 1) := by decide +kernel
theorem dX11_nines_10 : decode cX11_nines 10 = .ok (.iconst 1, 1) := by decide +kernel
theorem dX11_nines_11 : decode cX11_nines 11 = .ok (.invokevirtual 89, 3) := by decide +kernel
theorem dX11_nines_14 : decode cX11_nines 14 = .ok (.ireturn, 1) := by decide +kernel
theorem dX11_nines_15 : decode cX11_nines 15 = .ok (.iload_n 1, 1) := by decide +kernel
theorem dX11_nines_16 : decode cX11_nines 16 = .ok (.ifCond .ge 10, 3) := by decide +kernel
theorem dX11_nines_19 : decode cX11_nines 19 = .ok (.aload_n 0, 1) := by decide +kernel
theorem dX11_nines_20 : decode cX11_nines 20 = .ok (.invokevirtual 221, 3) := by decide +kernel
theorem dX11_nines_23 : decode cX11_nines 23 = .ok (.goto 8, 3) := by decide +kernel
theorem dX11_nines_26 : decode cX11_nines 26 = .ok (.aload_n 0, 1) := by decide +kernel
theorem dX11_nines_27 : decode cX11_nines 27 = .ok (.iload_n 1, 1) := by decide +kernel
theorem dX11_nines_28 : decode cX11_nines 28 = .ok (.invokevirtual 224, 3) := by decide +kernel
theorem dX11_nines_31 : decode cX11_nines 31 = .ok (.ireturn, 1) := by decide +kernel
theorem dX11_erring_0 : decode cX11_erring 0 = .ok (.iload_n 3, 1) := by decide +kernel
theorem dX11_erring_1 : decode cX11_erring 1 = .ok (.ifCond .lt 27, 3) := by decide +kernel
theorem dX11_erring_4 : decode cX11_erring 4 = .ok (.iload_n 3, 1) := by decide +kernel
theorem dX11_erring_5 : decode cX11_erring 5 = .ok (.bipush 17, 2) := by decide +kernel
theorem dX11_erring_7 : decode cX11_erring 7 = .ok (.idiv, 1) := by decide +kernel
theorem dX11_erring_8 : decode cX11_erring 8 = .ok (.iload_n 3, 1) := by decide +kernel
theorem dX11_erring_9 : decode cX11_erring 9 = .ok (.bipush 17, 2) := by decide +kernel
theorem dX11_erring_11 : decode cX11_erring 11 = .ok (.irem, 1) := by decide +kernel
theorem dX11_erring_12 : decode cX11_erring 12 = .ok (.iadd, 1) := by decide +kernel
theorem dX11_erring_13 : decode cX11_erring 13 = .ok (.bipush 16, 2) := by decide +kernel
theorem dX11_erring_15 : decode cX11_erring 15 = .ok (.if_icmp .gt 13, 3) := by decide +kernel
theorem dX11_erring_18 : decode cX11_erring 18 = .ok (.iload 4, 2) := by decide +kernel
theorem dX11_erring_20 : decode cX11_erring 20 = .ok (.iconst 0, 1) := by decide +kernel
theorem dX11_erring_21 : decode cX11_erring 21 = .ok (.iconst 1, 1) := by decide +kernel
theorem dX11_erring_22 : decode cX11_erring 22 = .ok (.invokestatic 81, 3) := by decide +kernel
theorem dX11_erring_25 : decode cX11_erring 25 = .ok (.ifCond .ne 10, 3) := by decide +kernel
theorem dX11_erring_28 : decode cX11_erring 28 = .ok (.aload_n 0, 1) := by decide +kernel
theorem dX11_erring_29 : decode cX11_erring 29 = .ok (.iconst 1, 1) := by decide +kernel
theorem dX11_erring_30 : decode cX11_erring 30 = .ok (.invokevirtual 89, 3) := by decide +kernel
theorem dX11_erring_33 : decode cX11_erring 33 = .ok (.i2l, 1) := by decide +kernel
theorem dX11_erring_34 : decode cX11_erring 34 = .ok (.lreturn, 1) := by decide +kernel
theorem dX11_erring_35 : decode cX11_erring 35 = .ok (.aload_n 0, 1) := by decide +kernel
theorem dX11_erring_36 : decode cX11_erring 36 = .ok (.iload_n 1, 1) := by decide +kernel
theorem dX11_erring_37 : decode cX11_erring 37 = .ok (.iload_n 2, 1) := by decide +kernel
theorem dX11_erring_38 : decode cX11_erring 38 = .ok (.bipush 30, 2) := by decide +kernel
theorem dX11_erring_40 : decode cX11_erring 40 = .ok (.invokevirtual 170, 3) := by decide +kernel
theorem dX11_erring_43 : decode cX11_erring 43 = .ok (.istore 5, 2) := by decide +kernel
theorem dX11_erring_45 : decode cX11_erring 45 = .ok (.iload 5, 2) := by decide +kernel
theorem dX11_erring_47 : decode cX11_erring 47 = .ok (.ifCond .eq 11, 3) := by decide +kernel
theorem dX11_erring_50 : decode cX11_erring 50 = .ok (.aload_n 0, 1) := by decide +kernel
theorem dX11_erring_51 : decode cX11_erring 51 = .ok (.iload 5, 2) := by decide +kernel
theorem dX11_erring_53 : decode cX11_erring 53 = .ok (.invokevirtual 89, 3) := by decide +kernel
theorem dX11_erring_56 : decode cX11_erring 56 = .ok (.i2l, 1) := by decide +kernel
theorem dX11_erring_57 : decode cX11_erring 57 = .ok (.lreturn, 1) := by decide +kernel
theorem dX11_erring_58 : decode cX11_erring 58 = .ok (.aload_n 0, 1) := by decide +kernel
theorem dX11_erring_59 : decode cX11_erring 59 = .ok (.iload_n 2, 1) := by decide +kernel
theorem dX11_erring_60 : decode cX11_erring 60 = .ok (.iload_n 3, 1) := by decide +kernel
theorem dX11_erring_61 : decode cX11_erring 61 = .ok (.bipush 17, 2) := by decide +kernel
theorem dX11_erring_63 : decode cX11_erring 63 = .ok (.idiv, 1) := by decide +kernel
theorem dX11_erring_64 : decode cX11_erring 64 = .ok (.iload_n 3, 1) := by decide +kernel
theorem dX11_erring_65 : decode cX11_erring 65 = .ok (.bipush 17, 2) := by decide +kernel
theorem dX11_erring_67 : decode cX11_erring 67 = .ok (.irem, 1) := by decide +kernel
theorem dX11_erring_68 : decode cX11_erring 68 = .ok (.invokevirtual 227, 3) := by decide +kernel
theorem dX11_erring_71 : decode cX11_erring 71 = .ok (.istore 6, 2) := by decide +kernel
theorem dX11_erring_73 : decode cX11_erring 73 = .ok (.iload 6, 2) := by decide +kernel
theorem dX11_erring_75 : decode cX11_erring 75 = .ok (.bipush 16, 2) := by decide +kernel
theorem dX11_erring_77 : decode cX11_erring 77 = .ok (.invokestatic 230, 3) := by decide +kernel
theorem dX11_erring_80 : decode cX11_erring 80 = .ok (.istore 7, 2) := by decide +kernel
theorem dX11_erring_82 : decode cX11_erring 82 = .ok (.iload 4, 2) := by decide +kernel
theorem dX11_erring_84 : decode cX11_erring 84 = .ok (.ifCond .ne 12, 3) := by decide +kernel
theorem dX11_erring_87 : decode cX11_erring 87 = .ok (.iload 6, 2) := by decide +kernel
theorem dX11_erring_89 : decode cX11_erring 89 = .ok (.iload 7, 2) := by decide +kernel
theorem dX11_erring_91 : decode cX11_erring 91 = .ok (.idiv, 1) := by decide +kernel
theorem dX11_erring_92 : decode cX11_erring 92 = .ok (.i2l, 1) := by decide +kernel
theorem dX11_erring_93 : decode cX11_erring 93 = .ok (.goto 9, 3) := by decide +kernel
theorem dX11_erring_96 : decode cX11_erring 96 = .ok (.bipush 16, 2) := by decide +kernel
theorem dX11_erring_98 : decode cX11_erring 98 = .ok (.iload 7, 2) := by decide +kernel
theorem dX11_erring_100 : decode cX11_erring 100 = .ok (.idiv, 1) := by decide +kernel
theorem dX11_erring_101 : decode cX11_erring 101 = .ok (.i2l, 1) := by decide +kernel
theorem dX11_erring_102 : decode cX11_erring 102 = .ok (.lreturn, 1) := by decide +kernel
theorem dX11_wasIn_0 : decode cX11_wasIn 0 = .ok (.iload_n 1, 1) := by decide +kernel
theorem dX11_wasIn_1 : decode cX11_wasIn 1 = .ok (.invokestatic 99, 3) := by decide +kernel
theorem dX11_wasIn_4 : decode cX11_wasIn 4 = .ok (.ifCond .eq 23, 3) := by decide +kernel
theorem dX11_wasIn_7 : decode cX11_wasIn 7 = .ok (.iload_n 2, 1) := by decide +kernel
theorem dX11_wasIn_8 : decode cX11_wasIn 8 = .ok (.iconst 0, 1) := by decide +kernel
theorem dX11_wasIn_9 : decode cX11_wasIn 9 = .ok (.sipush 9999, 3) := by decide +kernel
theorem dX11_wasIn_12 : decode cX11_wasIn 12 = .ok (.invokestatic 81, 3) := by decide +kernel
theorem dX11_wasIn_15 : decode cX11_wasIn 15 = .ok (.ifCond .eq 12, 3) := by decide +kernel
theorem dX11_wasIn_18 : decode cX11_wasIn 18 = .ok (.iload_n 3, 1) := by decide +kernel
theorem dX11_wasIn_19 : decode cX11_wasIn 19 = .ok (.iconst 0, 1) := by decide +kernel
theorem dX11_wasIn_20 : decode cX11_wasIn 20 = .ok (.iconst 1, 1) := by decide +kernel
theorem dX11_wasIn_21 : decode cX11_wasIn 21 = .ok (.invokestatic 81, 3) := by decide +kernel
theorem dX11_wasIn_24 : decode cX11_wasIn 24 = .ok (.ifCond .ne 9, 3) := by decide +kernel
theorem dX11_wasIn_27 : decode cX11_wasIn 27 = .ok (.aload_n 0, 1) := by decide +kernel
theorem dX11_wasIn_28 : decode cX11_wasIn 28 = .ok (.iconst 1, 1) := by decide +kernel
theorem dX11_wasIn_29 : decode cX11_wasIn 29 = .ok (.invokevirtual 89, 3) := by decide +kernel
theorem dX11_wasIn_32 : decode cX11_wasIn 32 = .ok (.ireturn, 1) := by decide +kernel
theorem dX11_wasIn_33 : decode cX11_wasIn 33 = .ok (.iconst 0, 1) := by decide +kernel
theorem dX11_wasIn_34 : decode cX11_wasIn 34 = .ok (.istore 4, 2) := by decide +kernel
theorem dX11_wasIn_36 : decode cX11_wasIn 36 = .ok (.iconst 0, 1) := by decide +kernel
theorem dX11_wasIn_37 : decode cX11_wasIn 37 = .ok (.istore 5, 2) := by decide +kernel
theorem dX11_wasIn_39 : decode cX11_wasIn 39 = .ok (.aload_n 0, 1) := by decide +kernel
theorem dX11_wasIn_40 : decode cX11_wasIn 40 = .ok (.invokevirtual 233, 3) := by decide +kernel
theorem dX11_wasIn_43 : decode cX11_wasIn 43 = .ok (.iconst 0, 1) := by decide +kernel
theorem dX11_wasIn_44 : decode cX11_wasIn 44 = .ok (.istore 6, 2) := by decide +kernel
theorem dX11_wasIn_46 : decode cX11_wasIn 46 = .ok (.iload 6, 2) := by decide +kernel
theorem dX11_wasIn_48 : decode cX11_wasIn 48 = .ok (.ldc 200, 2) := by decide +kernel
theorem dX11_wasIn_50 : decode cX11_wasIn 50 = .ok (.if_icmp .ge 81, 3) := by decide +kernel
theorem dX11_wasIn_53 : decode cX11_wasIn 53 = .ok (.aload_n 0, 1) := by decide +kernel
theorem dX11_wasIn_54 : decode cX11_wasIn 54 = .ok (.getfield 59, 3) := by decide +kernel
theorem dX11_wasIn_57 : decode cX11_wasIn 57 = .ok (.aload_n 0, 1) := by decide +kernel
theorem dX11_wasIn_58 : decode cX11_wasIn 58 = .ok (.getfield 62, 3) := by decide +kernel
theorem dX11_wasIn_61 : decode cX11_wasIn 61 = .ok (.iconst 3, 1) := by decide +kernel
theorem dX11_wasIn_62 : decode cX11_wasIn 62 = .ok (.aload_n 0, 1) := by decide +kernel
theorem dX11_wasIn_63 : decode cX11_wasIn 63 = .ok (.getfield 10, 3) := by decide +kernel
theorem dX11_wasIn_66 : decode cX11_wasIn 66 = .ok (.getfield 93, 3) := by decide +kernel
theorem dX11_wasIn_69 : decode cX11_wasIn 69 = .ok (.iconst 0, 1) := by decide +kernel
theorem dX11_wasIn_70 : decode cX11_wasIn 70 = .ok (.aaload, 1) := by decide +kernel
theorem dX11_wasIn_71 : decode cX11_wasIn 71 = .ok (.invokevirtual 201, 3) := by decide +kernel
theorem dX11_wasIn_74 : decode cX11_wasIn 74 = .ok (.ifCond .eq 57, 3) := by decide +kernel
theorem dX11_wasIn_77 : decode cX11_wasIn 77 = .ok (.aload_n 0, 1) := by decide +kernel
theorem dX11_wasIn_78 : decode cX11_wasIn 78 = .ok (.getfield 10, 3) := by decide +kernel
theorem dX11_wasIn_81 : decode cX11_wasIn 81 = .ok (.iload_n 1, 1) := by decide +kernel
theorem dX11_wasIn_82 : decode cX11_wasIn 82 = .ok (.aload_n 0, 1) := by decide +kernel
theorem dX11_wasIn_83 : decode cX11_wasIn 83 = .ok (.getfield 59, 3) := by decide +kernel
theorem dX11_wasIn_86 : decode cX11_wasIn 86 = .ok (.getfield 163, 3) := by decide +kernel
theorem dX11_wasIn_89 : decode cX11_wasIn 89 = .ok (.aload_n 0, 1) := by decide +kernel
theorem dX11_wasIn_90 : decode cX11_wasIn 90 = .ok (.getfield 59, 3) := by decide +kernel
theorem dX11_wasIn_93 : decode cX11_wasIn 93 = .ok (.getfield 160, 3) := by decide +kernel
theorem dX11_wasIn_96 : decode cX11_wasIn 96 = .ok (.invokevirtual 127, 3) := by decide +kernel
theorem dX11_wasIn_99 : decode cX11_wasIn 99 = .ok (.iload_n 2, 1) := by decide +kernel
theorem dX11_wasIn_100 : decode cX11_wasIn 100 = .ok (.if_icmp .ne 25, 3) := by decide +kernel
theorem dX11_wasIn_103 : decode cX11_wasIn 103 = .ok (.iload 4, 2) := by decide +kernel
theorem dX11_wasIn_105 : decode cX11_wasIn 105 = .ok (.ifCond .ne 13, 3) := by decide +kernel
theorem dX11_wasIn_108 : decode cX11_wasIn 108 = .ok (.aload_n 0, 1) := by decide +kernel
theorem dX11_wasIn_109 : decode cX11_wasIn 109 = .ok (.getfield 59, 3) := by decide +kernel
theorem dX11_wasIn_112 : decode cX11_wasIn 112 = .ok (.invokevirtual 236, 3) := by decide +kernel
theorem dX11_wasIn_115 : decode cX11_wasIn 115 = .ok (.goto 5, 3) := by decide +kernel
theorem dX11_wasIn_118 : decode cX11_wasIn 118 = .ok (.iload 5, 2) := by decide +kernel
theorem dX11_wasIn_120 : decode cX11_wasIn 120 = .ok (.istore 5, 2) := by decide +kernel
theorem dX11_wasIn_122 : decode cX11_wasIn 122 = .ok (.iinc 4 1, 3) := by decide +kernel
theorem dX11_wasIn_125 : decode cX11_wasIn 125 = .ok (.iinc 6 1, 3) := by decide +kernel
theorem dX11_wasIn_128 : decode cX11_wasIn 128 = .ok (.goto (-82), 3) := by decide +kernel
theorem dX11_wasIn_131 : decode cX11_wasIn 131 = .ok (.iload_n 3, 1) := by decide +kernel
theorem dX11_wasIn_132 : decode cX11_wasIn 132 = .ok (.ifCond .ne 6, 3) := by decide +kernel
theorem dX11_wasIn_135 : decode cX11_wasIn 135 = .ok (.iload 4, 2) := by decide +kernel
theorem dX11_wasIn_137 : decode cX11_wasIn 137 = .ok (.ireturn, 1) := by decide +kernel
theorem dX11_wasIn_138 : decode cX11_wasIn 138 = .ok (.iload 4, 2) := by decide +kernel
theorem dX11_wasIn_140 : decode cX11_wasIn 140 = .ok (.ifCond .ne 11, 3) := by decide +kernel
theorem dX11_wasIn_143 : decode cX11_wasIn 143 = .ok (.aload_n 0, 1) := by decide +kernel
theorem dX11_wasIn_144 : decode cX11_wasIn 144 = .ok (.iconst 2, 1) := by decide +kernel
theorem dX11_wasIn_145 : decode cX11_wasIn 145 = .ok (.invokevirtual 89, 3) := by decide +kernel
theorem dX11_wasIn_148 : decode cX11_wasIn 148 = .ok (.goto 5, 3) := by decide +kernel
theorem dX11_wasIn_151 : decode cX11_wasIn 151 = .ok (.iload 5, 2) := by decide +kernel
theorem dX11_wasIn_153 : decode cX11_wasIn 153 = .ok (.ireturn, 1) := by decide +kernel
theorem dX11_voice_0 : decode cX11_voice 0 = .ok (.iload_n 1, 1) := by decide +kernel
theorem dX11_voice_1 : decode cX11_voice 1 = .ok (.invokestatic 99, 3) := by decide +kernel
theorem dX11_voice_4 : decode cX11_voice 4 = .ok (.ifCond .eq 12, 3) := by decide +kernel
theorem dX11_voice_7 : decode cX11_voice 7 = .ok (.iload_n 2, 1) := by decide +kernel
theorem dX11_voice_8 : decode cX11_voice 8 = .ok (.iconst 0, 1) := by decide +kernel
theorem dX11_voice_9 : decode cX11_voice 9 = .ok (.iconst 3, 1) := by decide +kernel
theorem dX11_voice_10 : decode cX11_voice 10 = .ok (.invokestatic 81, 3) := by decide +kernel
theorem dX11_voice_13 : decode cX11_voice 13 = .ok (.ifCond .ne 9, 3) := by decide +kernel
theorem dX11_voice_16 : decode cX11_voice 16 = .ok (.aload_n 0, 1) := by decide +kernel
theorem dX11_voice_17 : decode cX11_voice 17 = .ok (.iconst 1, 1) := by decide +kernel
theorem dX11_voice_18 : decode cX11_voice 18 = .ok (.invokevirtual 89, 3) := by decide +kernel
theorem dX11_voice_21 : decode cX11_voice 21 = .ok (.ireturn, 1) := by decide +kernel
theorem dX11_voice_22 : decode cX11_voice 22 = .ok (.aload_n 0, 1) := by decide +kernel
theorem dX11_voice_23 : decode cX11_voice 23 = .ok (.getfield 42, 3) := by decide +kernel
theorem dX11_voice_26 : decode cX11_voice 26 = .ok (.invokevirtual 239, 3) := by decide +kernel
theorem dX11_voice_29 : decode cX11_voice 29 = .ok (.aload_n 0, 1) := by decide +kernel
theorem dX11_voice_30 : decode cX11_voice 30 = .ok (.getfield 10, 3) := by decide +kernel
theorem dX11_voice_33 : decode cX11_voice 33 = .ok (.getfield 102, 3) := by decide +kernel
theorem dX11_voice_36 : decode cX11_voice 36 = .ok (.iload_n 1, 1) := by decide +kernel
theorem dX11_voice_37 : decode cX11_voice 37 = .ok (.aaload, 1) := by decide +kernel
theorem dX11_voice_38 : decode cX11_voice 38 = .ok (.astore 4, 2) := by decide +kernel
theorem dX11_voice_40 : decode cX11_voice 40 = .ok (.iload_n 2, 1) := by decide +kernel
theorem dX11_voice_41 : decode cX11_voice 41 = .ok (.tableswitch 72 0 2 #[27, 42, 57], 27) := by decide +kernel
theorem dX11_voice_68 : decode cX11_voice 68 = .ok (.aload 4, 2) := by decide +kernel
theorem dX11_voice_70 : decode cX11_voice 70 = .ok (.aload_n 0, 1) := by decide +kernel
theorem dX11_voice_71 : decode cX11_voice 71 = .ok (.getfield 42, 3) := by decide +kernel
theorem dX11_voice_74 : decode cX11_voice 74 = .ok (.iload_n 3, 1) := by decide +kernel
theorem dX11_voice_75 : decode cX11_voice 75 = .ok (.invokevirtual 242, 3) := by decide +kernel
theorem dX11_voice_78 : decode cX11_voice 78 = .ok (.istore 5, 2) := by decide +kernel
theorem dX11_voice_80 : decode cX11_voice 80 = .ok (.goto 45, 3) := by decide +kernel
theorem dX11_voice_83 : decode cX11_voice 83 = .ok (.aload 4, 2) := by decide +kernel
theorem dX11_voice_85 : decode cX11_voice 85 = .ok (.aload_n 0, 1) := by decide +kernel
theorem dX11_voice_86 : decode cX11_voice 86 = .ok (.getfield 42, 3) := by decide +kernel
theorem dX11_voice_89 : decode cX11_voice 89 = .ok (.iload_n 3, 1) := by decide +kernel
theorem dX11_voice_90 : decode cX11_voice 90 = .ok (.invokevirtual 246, 3) := by decide +kernel
theorem dX11_voice_93 : decode cX11_voice 93 = .ok (.istore 5, 2) := by decide +kernel
theorem dX11_voice_95 : decode cX11_voice 95 = .ok (.goto 30, 3) := by decide +kernel
theorem dX11_voice_98 : decode cX11_voice 98 = .ok (.aload 4, 2) := by decide +kernel
theorem dX11_voice_100 : decode cX11_voice 100 = .ok (.aload_n 0, 1) := by decide +kernel
theorem dX11_voice_101 : decode cX11_voice 101 = .ok (.getfield 42, 3) := by decide +kernel
theorem dX11_voice_104 : decode cX11_voice 104 = .ok (.iload_n 3, 1) := by decide +kernel
theorem dX11_voice_105 : decode cX11_voice 105 = .ok (.invokevirtual 249, 3) := by decide +kernel
theorem dX11_voice_108 : decode cX11_voice 108 = .ok (.istore 5, 2) := by decide +kernel
theorem dX11_voice_110 : decode cX11_voice 110 = .ok (.goto 15, 3) := by decide +kernel
theorem dX11_voice_113 : decode cX11_voice 113 = .ok (.aload 4, 2) := by decide +kernel
theorem dX11_voice_115 : decode cX11_voice 115 = .ok (.aload_n 0, 1) := by decide +kernel
theorem dX11_voice_116 : decode cX11_voice 116 = .ok (.getfield 42, 3) := by decide +kernel
theorem dX11_voice_119 : decode cX11_voice 119 = .ok (.iload_n 3, 1) := by decide +kernel
theorem dX11_voice_120 : decode cX11_voice 120 = .ok (.invokevirtual 252, 3) := by decide +kernel
theorem dX11_voice_123 : decode cX11_voice 123 = .ok (.istore 5, 2) := by decide +kernel
theorem dX11_voice_125 : decode cX11_voice 125 = .ok (.aload_n 0, 1) := by decide +kernel
theorem dX11_voice_126 : decode cX11_voice 126 = .ok (.getfield 42, 3) := by decide +kernel
theorem dX11_voice_129 : decode cX11_voice 129 = .ok (.getfield 255, 3) := by decide +kernel
theorem dX11_voice_132 : decode cX11_voice 132 = .ok (.ifCond .eq 12, 3) := by decide +kernel
theorem dX11_voice_135 : decode cX11_voice 135 = .ok (.aload_n 0, 1) := by decide +kernel
theorem dX11_voice_136 : decode cX11_voice 136 = .ok (.bipush 6, 2) := by decide +kernel
theorem dX11_voice_138 : decode cX11_voice 138 = .ok (.invokevirtual 89, 3) := by decide +kernel
theorem dX11_voice_141 : decode cX11_voice 141 = .ok (.goto 5, 3) := by decide +kernel
theorem dX11_voice_144 : decode cX11_voice 144 = .ok (.iload 5, 2) := by decide +kernel
theorem dX11_voice_146 : decode cX11_voice 146 = .ok (.ireturn, 1) := by decide +kernel
theorem dX11_body_0 : decode cX11_body 0 = .ok (.iload_n 1, 1) := by decide +kernel
theorem dX11_body_1 : decode cX11_body 1 = .ok (.iconst 0, 1) := by decide +kernel
theorem dX11_body_2 : decode cX11_body 2 = .ok (.aload_n 0, 1) := by decide +kernel
theorem dX11_body_3 : decode cX11_body 3 = .ok (.getfield 42, 3) := by decide +kernel
theorem dX11_body_6 : decode cX11_body 6 = .ok (.getfield 258, 3) := by decide +kernel
theorem dX11_body_9 : decode cX11_body 9 = .ok (.iconst 1, 1) := by decide +kernel
theorem dX11_body_10 : decode cX11_body 10 = .ok (.isub, 1) := by decide +kernel
theorem dX11_body_11 : decode cX11_body 11 = .ok (.invokestatic 81, 3) := by decide +kernel
theorem dX11_body_14 : decode cX11_body 14 = .ok (.ifCond .eq 15, 3) := by decide +kernel
theorem dX11_body_17 : decode cX11_body 17 = .ok (.aload_n 0, 1) := by decide +kernel
theorem dX11_body_18 : decode cX11_body 18 = .ok (.getfield 42, 3) := by decide +kernel
theorem dX11_body_21 : decode cX11_body 21 = .ok (.getfield 259, 3) := by decide +kernel
theorem dX11_body_24 : decode cX11_body 24 = .ok (.iload_n 1, 1) := by decide +kernel
theorem dX11_body_25 : decode cX11_body 25 = .ok (.iaload, 1) := by decide +kernel
theorem dX11_body_26 : decode cX11_body 26 = .ok (.goto 8, 3) := by decide +kernel
theorem dX11_body_29 : decode cX11_body 29 = .ok (.aload_n 0, 1) := by decide +kernel
theorem dX11_body_30 : decode cX11_body 30 = .ok (.iconst 2, 1) := by decide +kernel
theorem dX11_body_31 : decode cX11_body 31 = .ok (.invokevirtual 89, 3) := by decide +kernel
theorem dX11_body_34 : decode cX11_body 34 = .ok (.ireturn, 1) := by decide +kernel
theorem dX11_sheet_0 : decode cX11_sheet 0 = .ok (.iload_n 1, 1) := by decide +kernel
theorem dX11_sheet_1 : decode cX11_sheet 1 = .ok (.invokestatic 154, 3) := by decide +kernel
theorem dX11_sheet_4 : decode cX11_sheet 4 = .ok (.ifCond .eq 25, 3) := by decide +kernel
theorem dX11_sheet_7 : decode cX11_sheet 7 = .ok (.iload_n 2, 1) := by decide +kernel
theorem dX11_sheet_8 : decode cX11_sheet 8 = .ok (.ifCond .eq 27, 3) := by decide +kernel
theorem dX11_sheet_11 : decode cX11_sheet 11 = .ok (.iload_n 2, 1) := by decide +kernel
theorem dX11_sheet_12 : decode cX11_sheet 12 = .ok (.bipush 8, 2) := by decide +kernel
theorem dX11_sheet_14 : decode cX11_sheet 14 = .ok (.if_icmp .eq 21, 3) := by decide +kernel
theorem dX11_sheet_17 : decode cX11_sheet 17 = .ok (.iload_n 2, 1) := by decide +kernel
theorem dX11_sheet_18 : decode cX11_sheet 18 = .ok (.bipush 16, 2) := by decide +kernel
theorem dX11_sheet_20 : decode cX11_sheet 20 = .ok (.if_icmp .eq 15, 3) := by decide +kernel
theorem dX11_sheet_23 : decode cX11_sheet 23 = .ok (.iload_n 2, 1) := by decide +kernel
theorem dX11_sheet_24 : decode cX11_sheet 24 = .ok (.bipush 32, 2) := by decide +kernel
theorem dX11_sheet_26 : decode cX11_sheet 26 = .ok (.if_icmp .eq 9, 3) := by decide +kernel
theorem dX11_sheet_29 : decode cX11_sheet 29 = .ok (.aload_n 0, 1) := by decide +kernel
theorem dX11_sheet_30 : decode cX11_sheet 30 = .ok (.iconst 1, 1) := by decide +kernel
theorem dX11_sheet_31 : decode cX11_sheet 31 = .ok (.invokevirtual 89, 3) := by decide +kernel
theorem dX11_sheet_34 : decode cX11_sheet 34 = .ok (.ireturn, 1) := by decide +kernel
theorem dX11_sheet_35 : decode cX11_sheet 35 = .ok (.iload_n 2, 1) := by decide +kernel
theorem dX11_sheet_36 : decode cX11_sheet 36 = .ok (.ifCond .eq 13, 3) := by decide +kernel
theorem dX11_sheet_39 : decode cX11_sheet 39 = .ok (.iload_n 3, 1) := by decide +kernel
theorem dX11_sheet_40 : decode cX11_sheet 40 = .ok (.ifCond .ge 9, 3) := by decide +kernel
theorem dX11_sheet_43 : decode cX11_sheet 43 = .ok (.aload_n 0, 1) := by decide +kernel
theorem dX11_sheet_44 : decode cX11_sheet 44 = .ok (.iconst 3, 1) := by decide +kernel
theorem dX11_sheet_45 : decode cX11_sheet 45 = .ok (.invokevirtual 89, 3) := by decide +kernel
theorem dX11_sheet_48 : decode cX11_sheet 48 = .ok (.ireturn, 1) := by decide +kernel
theorem dX11_sheet_49 : decode cX11_sheet 49 = .ok (.iload_n 2, 1) := by decide +kernel
theorem dX11_sheet_50 : decode cX11_sheet 50 = .ok (.ifCond .eq 15, 3) := by decide +kernel
theorem dX11_sheet_53 : decode cX11_sheet 53 = .ok (.iload_n 3, 1) := by decide +kernel
theorem dX11_sheet_54 : decode cX11_sheet 54 = .ok (.bipush 24, 2) := by decide +kernel
theorem dX11_sheet_56 : decode cX11_sheet 56 = .ok (.if_icmp .le 9, 3) := by decide +kernel
theorem dX11_sheet_59 : decode cX11_sheet 59 = .ok (.aload_n 0, 1) := by decide +kernel
theorem dX11_sheet_60 : decode cX11_sheet 60 = .ok (.iconst 1, 1) := by decide +kernel
theorem dX11_sheet_61 : decode cX11_sheet 61 = .ok (.invokevirtual 89, 3) := by decide +kernel
theorem dX11_sheet_64 : decode cX11_sheet 64 = .ok (.ireturn, 1) := by decide +kernel
theorem dX11_sheet_65 : decode cX11_sheet 65 = .ok (.aload_n 0, 1) := by decide +kernel
theorem dX11_sheet_66 : decode cX11_sheet 66 = .ok (.getfield 27, 3) := by decide +kernel
theorem dX11_sheet_69 : decode cX11_sheet 69 = .ok (.iload_n 1, 1) := by decide +kernel
theorem dX11_sheet_70 : decode cX11_sheet 70 = .ok (.iload_n 2, 1) := by decide +kernel
theorem dX11_sheet_71 : decode cX11_sheet 71 = .ok (.iastore, 1) := by decide +kernel
theorem dX11_sheet_72 : decode cX11_sheet 72 = .ok (.aload_n 0, 1) := by decide +kernel
theorem dX11_sheet_73 : decode cX11_sheet 73 = .ok (.getfield 31, 3) := by decide +kernel
theorem dX11_sheet_76 : decode cX11_sheet 76 = .ok (.iload_n 1, 1) := by decide +kernel
theorem dX11_sheet_77 : decode cX11_sheet 77 = .ok (.iload_n 2, 1) := by decide +kernel
theorem dX11_sheet_78 : decode cX11_sheet 78 = .ok (.ifCond .ne 7, 3) := by decide +kernel
theorem dX11_sheet_81 : decode cX11_sheet 81 = .ok (.iconst 0, 1) := by decide +kernel
theorem dX11_sheet_82 : decode cX11_sheet 82 = .ok (.goto 4, 3) := by decide +kernel
theorem dX11_sheet_85 : decode cX11_sheet 85 = .ok (.iload_n 3, 1) := by decide +kernel
theorem dX11_sheet_86 : decode cX11_sheet 86 = .ok (.iastore, 1) := by decide +kernel
theorem dX11_sheet_87 : decode cX11_sheet 87 = .ok (.iconst 0, 1) := by decide +kernel
theorem dX11_sheet_88 : decode cX11_sheet 88 = .ok (.istore 4, 2) := by decide +kernel
theorem dX11_sheet_90 : decode cX11_sheet 90 = .ok (.iload 4, 2) := by decide +kernel
theorem dX11_sheet_92 : decode cX11_sheet 92 = .ok (.bipush 24, 2) := by decide +kernel
theorem dX11_sheet_94 : decode cX11_sheet 94 = .ok (.if_icmp .ge 19, 3) := by decide +kernel
theorem dX11_sheet_97 : decode cX11_sheet 97 = .ok (.aload_n 0, 1) := by decide +kernel
theorem dX11_sheet_98 : decode cX11_sheet 98 = .ok (.getfield 36, 3) := by decide +kernel
theorem dX11_sheet_101 : decode cX11_sheet 101 = .ok (.iload_n 1, 1) := by decide +kernel
theorem dX11_sheet_102 : decode cX11_sheet 102 = .ok (.aaload, 1) := by decide +kernel
theorem dX11_sheet_103 : decode cX11_sheet 103 = .ok (.iload 4, 2) := by decide +kernel
theorem dX11_sheet_105 : decode cX11_sheet 105 = .ok (.iconst 0, 1) := by decide +kernel
theorem dX11_sheet_106 : decode cX11_sheet 106 = .ok (.iastore, 1) := by decide +kernel
theorem dX11_sheet_107 : decode cX11_sheet 107 = .ok (.iinc 4 1, 3) := by decide +kernel
theorem dX11_sheet_110 : decode cX11_sheet 110 = .ok (.goto (-20), 3) := by decide +kernel
theorem dX11_sheet_113 : decode cX11_sheet 113 = .ok (.iconst 1, 1) := by decide +kernel
theorem dX11_sheet_114 : decode cX11_sheet 114 = .ok (.ireturn, 1) := by decide +kernel
theorem dX11_put_0 : decode cX11_put 0 = .ok (.iload_n 1, 1) := by decide +kernel
theorem dX11_put_1 : decode cX11_put 1 = .ok (.invokestatic 154, 3) := by decide +kernel
theorem dX11_put_4 : decode cX11_put 4 = .ok (.ifCond .ne 9, 3) := by decide +kernel
theorem dX11_put_7 : decode cX11_put 7 = .ok (.aload_n 0, 1) := by decide +kernel
theorem dX11_put_8 : decode cX11_put 8 = .ok (.iconst 1, 1) := by decide +kernel
theorem dX11_put_9 : decode cX11_put 9 = .ok (.invokevirtual 89, 3) := by decide +kernel
theorem dX11_put_12 : decode cX11_put 12 = .ok (.ireturn, 1) := by decide +kernel
theorem dX11_put_13 : decode cX11_put 13 = .ok (.aload_n 0, 1) := by decide +kernel
theorem dX11_put_14 : decode cX11_put 14 = .ok (.iload_n 1, 1) := by decide +kernel
theorem dX11_put_15 : decode cX11_put 15 = .ok (.invokevirtual 210, 3) := by decide +kernel
theorem dX11_put_18 : decode cX11_put 18 = .ok (.ifCond .eq 9, 3) := by decide +kernel
theorem dX11_put_21 : decode cX11_put 21 = .ok (.aload_n 0, 1) := by decide +kernel
theorem dX11_put_22 : decode cX11_put 22 = .ok (.iconst 2, 1) := by decide +kernel
theorem dX11_put_23 : decode cX11_put 23 = .ok (.invokevirtual 89, 3) := by decide +kernel
theorem dX11_put_26 : decode cX11_put 26 = .ok (.ireturn, 1) := by decide +kernel
theorem dX11_put_27 : decode cX11_put 27 = .ok (.iload_n 2, 1) := by decide +kernel
theorem dX11_put_28 : decode cX11_put 28 = .ok (.iconst 0, 1) := by decide +kernel
theorem dX11_put_29 : decode cX11_put 29 = .ok (.aload_n 0, 1) := by decide +kernel
theorem dX11_put_30 : decode cX11_put 30 = .ok (.getfield 31, 3) := by decide +kernel
theorem dX11_put_33 : decode cX11_put 33 = .ok (.iload_n 1, 1) := by decide +kernel
theorem dX11_put_34 : decode cX11_put 34 = .ok (.iaload, 1) := by decide +kernel
theorem dX11_put_35 : decode cX11_put 35 = .ok (.iconst 1, 1) := by decide +kernel
theorem dX11_put_36 : decode cX11_put 36 = .ok (.isub, 1) := by decide +kernel
theorem dX11_put_37 : decode cX11_put 37 = .ok (.invokestatic 81, 3) := by decide +kernel
theorem dX11_put_40 : decode cX11_put 40 = .ok (.ifCond .ne 9, 3) := by decide +kernel
theorem dX11_put_43 : decode cX11_put 43 = .ok (.aload_n 0, 1) := by decide +kernel
theorem dX11_put_44 : decode cX11_put 44 = .ok (.iconst 1, 1) := by decide +kernel
theorem dX11_put_45 : decode cX11_put 45 = .ok (.invokevirtual 89, 3) := by decide +kernel
theorem dX11_put_48 : decode cX11_put 48 = .ok (.ireturn, 1) := by decide +kernel
theorem dX11_put_49 : decode cX11_put 49 = .ok (.aload_n 0, 1) := by decide +kernel
theorem dX11_put_50 : decode cX11_put 50 = .ok (.getfield 36, 3) := by decide +kernel
theorem dX11_put_53 : decode cX11_put 53 = .ok (.iload_n 1, 1) := by decide +kernel
theorem dX11_put_54 : decode cX11_put 54 = .ok (.aaload, 1) := by decide +kernel
theorem dX11_put_55 : decode cX11_put 55 = .ok (.iload_n 2, 1) := by decide +kernel
theorem dX11_put_56 : decode cX11_put 56 = .ok (.iload_n 3, 1) := by decide +kernel
theorem dX11_put_57 : decode cX11_put 57 = .ok (.aload_n 0, 1) := by decide +kernel
theorem dX11_put_58 : decode cX11_put 58 = .ok (.getfield 27, 3) := by decide +kernel
theorem dX11_put_61 : decode cX11_put 61 = .ok (.iload_n 1, 1) := by decide +kernel
theorem dX11_put_62 : decode cX11_put 62 = .ok (.iaload, 1) := by decide +kernel
theorem dX11_put_63 : decode cX11_put 63 = .ok (.invokestatic 262, 3) := by decide +kernel
theorem dX11_put_66 : decode cX11_put 66 = .ok (.iastore, 1) := by decide +kernel
theorem dX11_put_67 : decode cX11_put 67 = .ok (.iconst 1, 1) := by decide +kernel
theorem dX11_put_68 : decode cX11_put 68 = .ok (.ireturn, 1) := by decide +kernel
theorem dX11_move_0 : decode cX11_move 0 = .ok (.iload_n 1, 1) := by decide +kernel
theorem dX11_move_1 : decode cX11_move 1 = .ok (.invokestatic 154, 3) := by decide +kernel
theorem dX11_move_4 : decode cX11_move 4 = .ok (.ifCond .eq 10, 3) := by decide +kernel
theorem dX11_move_7 : decode cX11_move 7 = .ok (.iload_n 3, 1) := by decide +kernel
theorem dX11_move_8 : decode cX11_move 8 = .ok (.invokestatic 154, 3) := by decide +kernel
theorem dX11_move_11 : decode cX11_move 11 = .ok (.ifCond .ne 9, 3) := by decide +kernel
theorem dX11_move_14 : decode cX11_move 14 = .ok (.aload_n 0, 1) := by decide +kernel
theorem dX11_move_15 : decode cX11_move 15 = .ok (.iconst 1, 1) := by decide +kernel
theorem dX11_move_16 : decode cX11_move 16 = .ok (.invokevirtual 89, 3) := by decide +kernel
theorem dX11_move_19 : decode cX11_move 19 = .ok (.ireturn, 1) := by decide +kernel
theorem dX11_move_20 : decode cX11_move 20 = .ok (.aload_n 0, 1) := by decide +kernel
theorem dX11_move_21 : decode cX11_move 21 = .ok (.iload_n 1, 1) := by decide +kernel
theorem dX11_move_22 : decode cX11_move 22 = .ok (.invokevirtual 210, 3) := by decide +kernel
theorem dX11_move_25 : decode cX11_move 25 = .ok (.ifCond .ne 11, 3) := by decide +kernel
theorem dX11_move_28 : decode cX11_move 28 = .ok (.aload_n 0, 1) := by decide +kernel
theorem dX11_move_29 : decode cX11_move 29 = .ok (.iload_n 3, 1) := by decide +kernel
theorem dX11_move_30 : decode cX11_move 30 = .ok (.invokevirtual 210, 3) := by decide +kernel
theorem dX11_move_33 : decode cX11_move 33 = .ok (.ifCond .eq 9, 3) := by decide +kernel
theorem dX11_move_36 : decode cX11_move 36 = .ok (.aload_n 0, 1) := by decide +kernel
theorem dX11_move_37 : decode cX11_move 37 = .ok (.iconst 2, 1) := by decide +kernel
theorem dX11_move_38 : decode cX11_move 38 = .ok (.invokevirtual 89, 3) := by decide +kernel
theorem dX11_move_41 : decode cX11_move 41 = .ok (.ireturn, 1) := by decide +kernel
theorem dX11_move_42 : decode cX11_move 42 = .ok (.aload_n 0, 1) := by decide +kernel
theorem dX11_move_43 : decode cX11_move 43 = .ok (.getfield 27, 3) := by decide +kernel
theorem dX11_move_46 : decode cX11_move 46 = .ok (.iload_n 1, 1) := by decide +kernel
theorem dX11_move_47 : decode cX11_move 47 = .ok (.iaload, 1) := by decide +kernel
theorem dX11_move_48 : decode cX11_move 48 = .ok (.aload_n 0, 1) := by decide +kernel
theorem dX11_move_49 : decode cX11_move 49 = .ok (.getfield 27, 3) := by decide +kernel
theorem dX11_move_52 : decode cX11_move 52 = .ok (.iload_n 3, 1) := by decide +kernel
theorem dX11_move_53 : decode cX11_move 53 = .ok (.iaload, 1) := by decide +kernel
theorem dX11_move_54 : decode cX11_move 54 = .ok (.if_icmp .eq 9, 3) := by decide +kernel
theorem dX11_move_57 : decode cX11_move 57 = .ok (.aload_n 0, 1) := by decide +kernel
theorem dX11_move_58 : decode cX11_move 58 = .ok (.iconst 5, 1) := by decide +kernel
theorem dX11_move_59 : decode cX11_move 59 = .ok (.invokevirtual 89, 3) := by decide +kernel
theorem dX11_move_62 : decode cX11_move 62 = .ok (.ireturn, 1) := by decide +kernel
theorem dX11_move_63 : decode cX11_move 63 = .ok (.aload_n 0, 1) := by decide +kernel
theorem dX11_move_64 : decode cX11_move 64 = .ok (.iload_n 1, 1) := by decide +kernel
theorem dX11_move_65 : decode cX11_move 65 = .ok (.iload_n 2, 1) := by decide +kernel
theorem dX11_move_66 : decode cX11_move 66 = .ok (.iload 5, 2) := by decide +kernel
theorem dX11_move_68 : decode cX11_move 68 = .ok (.invokevirtual 265, 3) := by decide +kernel
theorem dX11_move_71 : decode cX11_move 71 = .ok (.ifCond .eq 15, 3) := by decide +kernel
theorem dX11_move_74 : decode cX11_move 74 = .ok (.aload_n 0, 1) := by decide +kernel
theorem dX11_move_75 : decode cX11_move 75 = .ok (.iload_n 3, 1) := by decide +kernel
theorem dX11_move_76 : decode cX11_move 76 = .ok (.iload 4, 2) := by decide +kernel
theorem dX11_move_78 : decode cX11_move 78 = .ok (.iload 5, 2) := by decide +kernel
theorem dX11_move_80 : decode cX11_move 80 = .ok (.invokevirtual 265, 3) := by decide +kernel
theorem dX11_move_83 : decode cX11_move 83 = .ok (.ifCond .ne 9, 3) := by decide +kernel
theorem dX11_move_86 : decode cX11_move 86 = .ok (.aload_n 0, 1) := by decide +kernel
theorem dX11_move_87 : decode cX11_move 87 = .ok (.iconst 1, 1) := by decide +kernel
theorem dX11_move_88 : decode cX11_move 88 = .ok (.invokevirtual 89, 3) := by decide +kernel
theorem dX11_move_91 : decode cX11_move 91 = .ok (.ireturn, 1) := by decide +kernel
theorem dX11_move_92 : decode cX11_move 92 = .ok (.aload_n 0, 1) := by decide +kernel
theorem dX11_move_93 : decode cX11_move 93 = .ok (.getfield 36, 3) := by decide +kernel
theorem dX11_move_96 : decode cX11_move 96 = .ok (.iload_n 1, 1) := by decide +kernel
theorem dX11_move_97 : decode cX11_move 97 = .ok (.aaload, 1) := by decide +kernel
theorem dX11_move_98 : decode cX11_move 98 = .ok (.iload_n 2, 1) := by decide +kernel
theorem dX11_move_99 : decode cX11_move 99 = .ok (.aload_n 0, 1) := by decide +kernel
theorem dX11_move_100 : decode cX11_move 100 = .ok (.getfield 36, 3) := by decide +kernel
theorem dX11_move_103 : decode cX11_move 103 = .ok (.iload_n 3, 1) := by decide +kernel
theorem dX11_move_104 : decode cX11_move 104 = .ok (.aaload, 1) := by decide +kernel
theorem dX11_move_105 : decode cX11_move 105 = .ok (.iload 4, 2) := by decide +kernel
theorem dX11_move_107 : decode cX11_move 107 = .ok (.iload 5, 2) := by decide +kernel
theorem dX11_move_109 : decode cX11_move 109 = .ok (.invokestatic 268, 3) := by decide +kernel
theorem dX11_move_112 : decode cX11_move 112 = .ok (.iload 5, 2) := by decide +kernel
theorem dX11_move_114 : decode cX11_move 114 = .ok (.ireturn, 1) := by decide +kernel
theorem dX11_prices_0 : decode cX11_prices 0 = .ok (.iload_n 1, 1) := by decide +kernel
theorem dX11_prices_1 : decode cX11_prices 1 = .ok (.invokestatic 154, 3) := by decide +kernel
theorem dX11_prices_4 : decode cX11_prices 4 = .ok (.ifCond .ne 9, 3) := by decide +kernel
theorem dX11_prices_7 : decode cX11_prices 7 = .ok (.aload_n 0, 1) := by decide +kernel
theorem dX11_prices_8 : decode cX11_prices 8 = .ok (.iconst 1, 1) := by decide +kernel
theorem dX11_prices_9 : decode cX11_prices 9 = .ok (.invokevirtual 89, 3) := by decide +kernel
theorem dX11_prices_12 : decode cX11_prices 12 = .ok (.ireturn, 1) := by decide +kernel
theorem dX11_prices_13 : decode cX11_prices 13 = .ok (.aload_n 0, 1) := by decide +kernel
theorem dX11_prices_14 : decode cX11_prices 14 = .ok (.iload_n 1, 1) := by decide +kernel
theorem dX11_prices_15 : decode cX11_prices 15 = .ok (.invokevirtual 210, 3) := by decide +kernel
theorem dX11_prices_18 : decode cX11_prices 18 = .ok (.ifCond .eq 9, 3) := by decide +kernel
theorem dX11_prices_21 : decode cX11_prices 21 = .ok (.aload_n 0, 1) := by decide +kernel
theorem dX11_prices_22 : decode cX11_prices 22 = .ok (.iconst 2, 1) := by decide +kernel
theorem dX11_prices_23 : decode cX11_prices 23 = .ok (.invokevirtual 89, 3) := by decide +kernel
theorem dX11_prices_26 : decode cX11_prices 26 = .ok (.ireturn, 1) := by decide +kernel
theorem dX11_prices_27 : decode cX11_prices 27 = .ok (.bipush 8, 2) := by decide +kernel
theorem dX11_prices_29 : decode cX11_prices 29 = .ok (.aload_n 0, 1) := by decide +kernel
theorem dX11_prices_30 : decode cX11_prices 30 = .ok (.getfield 31, 3) := by decide +kernel
theorem dX11_prices_33 : decode cX11_prices 33 = .ok (.iload_n 1, 1) := by decide +kernel
theorem dX11_prices_34 : decode cX11_prices 34 = .ok (.iaload, 1) := by decide +kernel
theorem dX11_prices_35 : decode cX11_prices 35 = .ok (.invokestatic 205, 3) := by decide +kernel
theorem dX11_prices_38 : decode cX11_prices 38 = .ok (.istore_n 2, 1) := by decide +kernel
theorem dX11_prices_39 : decode cX11_prices 39 = .ok (.iconst 0, 1) := by decide +kernel
theorem dX11_prices_40 : decode cX11_prices 40 = .ok (.istore_n 3, 1) := by decide +kernel
theorem dX11_prices_41 : decode cX11_prices 41 = .ok (.iload_n 3, 1) := by decide +kernel
theorem dX11_prices_42 : decode cX11_prices 42 = .ok (.iload_n 2, 1) := by decide +kernel
theorem dX11_prices_43 : decode cX11_prices 43 = .ok (.if_icmp .ge 45, 3) := by decide +kernel
theorem dX11_prices_46 : decode cX11_prices 46 = .ok (.iconst 0, 1) := by decide +kernel
theorem dX11_prices_47 : decode cX11_prices 47 = .ok (.aload_n 0, 1) := by decide +kernel
theorem dX11_prices_48 : decode cX11_prices 48 = .ok (.getfield 36, 3) := by decide +kernel
theorem dX11_prices_51 : decode cX11_prices 51 = .ok (.iload_n 1, 1) := by decide +kernel
theorem dX11_prices_52 : decode cX11_prices 52 = .ok (.aaload, 1) := by decide +kernel
theorem dX11_prices_53 : decode cX11_prices 53 = .ok (.iload_n 3, 1) := by decide +kernel
theorem dX11_prices_54 : decode cX11_prices 54 = .ok (.iaload, 1) := by decide +kernel
theorem dX11_prices_55 : decode cX11_prices 55 = .ok (.invokestatic 85, 3) := by decide +kernel
theorem dX11_prices_58 : decode cX11_prices 58 = .ok (.ifCond .ne 5, 3) := by decide +kernel
theorem dX11_prices_61 : decode cX11_prices 61 = .ok (.iload_n 3, 1) := by decide +kernel
theorem dX11_prices_62 : decode cX11_prices 62 = .ok (.ireturn, 1) := by decide +kernel
theorem dX11_prices_63 : decode cX11_prices 63 = .ok (.aload_n 0, 1) := by decide +kernel
theorem dX11_prices_64 : decode cX11_prices 64 = .ok (.getfield 10, 3) := by decide +kernel
theorem dX11_prices_67 : decode cX11_prices 67 = .ok (.getfield 93, 3) := by decide +kernel
theorem dX11_prices_70 : decode cX11_prices 70 = .ok (.iconst 0, 1) := by decide +kernel
theorem dX11_prices_71 : decode cX11_prices 71 = .ok (.aaload, 1) := by decide +kernel
theorem dX11_prices_72 : decode cX11_prices 72 = .ok (.iload_n 3, 1) := by decide +kernel
theorem dX11_prices_73 : decode cX11_prices 73 = .ok (.aload_n 0, 1) := by decide +kernel
theorem dX11_prices_74 : decode cX11_prices 74 = .ok (.getfield 36, 3) := by decide +kernel
theorem dX11_prices_77 : decode cX11_prices 77 = .ok (.iload_n 1, 1) := by decide +kernel
theorem dX11_prices_78 : decode cX11_prices 78 = .ok (.aaload, 1) := by decide +kernel
theorem dX11_prices_79 : decode cX11_prices 79 = .ok (.iload_n 3, 1) := by decide +kernel
theorem dX11_prices_80 : decode cX11_prices 80 = .ok (.iaload, 1) := by decide +kernel
theorem dX11_prices_81 : decode cX11_prices 81 = .ok (.iastore, 1) := by decide +kernel
theorem dX11_prices_82 : decode cX11_prices 82 = .ok (.iinc 3 1, 3) := by decide +kernel
theorem dX11_prices_85 : decode cX11_prices 85 = .ok (.goto (-44), 3) := by decide +kernel
theorem dX11_prices_88 : decode cX11_prices 88 = .ok (.iload_n 2, 1) := by decide +kernel
theorem dX11_prices_89 : decode cX11_prices 89 = .ok (.ireturn, 1) := by decide +kernel
theorem dX11_image_0 : decode cX11_image 0 = .ok (.aload_n 0, 1) := by decide +kernel
theorem dX11_image_1 : decode cX11_image 1 = .ok (.getfield 16, 3) := by decide +kernel
theorem dX11_image_4 : decode cX11_image 4 = .ok (.aload_n 0, 1) := by decide +kernel
theorem dX11_image_5 : decode cX11_image 5 = .ok (.getfield 10, 3) := by decide +kernel
theorem dX11_image_8 : decode cX11_image 8 = .ok (.invokevirtual 274, 3) := by decide +kernel
theorem dX11_image_11 : decode cX11_image 11 = .ok (.aload_n 0, 1) := by decide +kernel
theorem dX11_image_12 : decode cX11_image 12 = .ok (.iconst 1, 1) := by decide +kernel
theorem dX11_image_13 : decode cX11_image 13 = .ok (.putfield 19, 3) := by decide +kernel
theorem dX11_image_16 : decode cX11_image 16 = .ok (.aload_n 0, 1) := by decide +kernel
theorem dX11_image_17 : decode cX11_image 17 = .ok (.dup, 1) := by decide +kernel
theorem dX11_image_18 : decode cX11_image 18 = .ok (.getfield 23, 3) := by decide +kernel
theorem dX11_image_21 : decode cX11_image 21 = .ok (.iconst 1, 1) := by decide +kernel
theorem dX11_image_22 : decode cX11_image 22 = .ok (.iadd, 1) := by decide +kernel
theorem dX11_image_23 : decode cX11_image 23 = .ok (.putfield 23, 3) := by decide +kernel
theorem dX11_image_26 : decode cX11_image 26 = .ok (.aload_n 0, 1) := by decide +kernel
theorem dX11_image_27 : decode cX11_image 27 = .ok (.getfield 23, 3) := by decide +kernel
theorem dX11_image_30 : decode cX11_image 30 = .ok (.ireturn, 1) := by decide +kernel
theorem dX11_restore_0 : decode cX11_restore 0 = .ok (.aload_n 0, 1) := by decide +kernel
theorem dX11_restore_1 : decode cX11_restore 1 = .ok (.getfield 19, 3) := by decide +kernel
theorem dX11_restore_4 : decode cX11_restore 4 = .ok (.ifCond .ne 9, 3) := by decide +kernel
theorem dX11_restore_7 : decode cX11_restore 7 = .ok (.aload_n 0, 1) := by decide +kernel
theorem dX11_restore_8 : decode cX11_restore 8 = .ok (.iconst 2, 1) := by decide +kernel
theorem dX11_restore_9 : decode cX11_restore 9 = .ok (.invokevirtual 89, 3) := by decide +kernel
theorem dX11_restore_12 : decode cX11_restore 12 = .ok (.ireturn, 1) := by decide +kernel
theorem dX11_restore_13 : decode cX11_restore 13 = .ok (.aload_n 0, 1) := by decide +kernel
theorem dX11_restore_14 : decode cX11_restore 14 = .ok (.getfield 10, 3) := by decide +kernel
theorem dX11_restore_17 : decode cX11_restore 17 = .ok (.aload_n 0, 1) := by decide +kernel
theorem dX11_restore_18 : decode cX11_restore 18 = .ok (.getfield 16, 3) := by decide +kernel
theorem dX11_restore_21 : decode cX11_restore 21 = .ok (.invokevirtual 274, 3) := by decide +kernel
theorem dX11_restore_24 : decode cX11_restore 24 = .ok (.aload_n 0, 1) := by decide +kernel
theorem dX11_restore_25 : decode cX11_restore 25 = .ok (.getfield 10, 3) := by decide +kernel
theorem dX11_restore_28 : decode cX11_restore 28 = .ok (.getfield 278, 3) := by decide +kernel
theorem dX11_restore_31 : decode cX11_restore 31 = .ok (.ireturn, 1) := by decide +kernel
theorem dX11_tell_0 : decode cX11_tell 0 = .ok (.aload_n 0, 1) := by decide +kernel
theorem dX11_tell_1 : decode cX11_tell 1 = .ok (.getfield 10, 3) := by decide +kernel
theorem dX11_tell_4 : decode cX11_tell 4 = .ok (.getfield 281, 3) := by decide +kernel
theorem dX11_tell_7 : decode cX11_tell 7 = .ok (.bipush 24, 2) := by decide +kernel
theorem dX11_tell_9 : decode cX11_tell 9 = .ok (.if_icmp .lt 9, 3) := by decide +kernel
theorem dX11_tell_12 : decode cX11_tell 12 = .ok (.aload_n 0, 1) := by decide +kernel
theorem dX11_tell_13 : decode cX11_tell 13 = .ok (.iconst 4, 1) := by decide +kernel
theorem dX11_tell_14 : decode cX11_tell 14 = .ok (.invokevirtual 89, 3) := by decide +kernel
theorem dX11_tell_17 : decode cX11_tell 17 = .ok (.ireturn, 1) := by decide +kernel
theorem dX11_tell_18 : decode cX11_tell 18 = .ok (.aload_n 0, 1) := by decide +kernel
theorem dX11_tell_19 : decode cX11_tell 19 = .ok (.getfield 10, 3) := by decide +kernel
theorem dX11_tell_22 : decode cX11_tell 22 = .ok (.getfield 284, 3) := by decide +kernel
theorem dX11_tell_25 : decode cX11_tell 25 = .ok (.aload_n 0, 1) := by decide +kernel
theorem dX11_tell_26 : decode cX11_tell 26 = .ok (.getfield 10, 3) := by decide +kernel
theorem dX11_tell_29 : decode cX11_tell 29 = .ok (.getfield 281, 3) := by decide +kernel
theorem dX11_tell_32 : decode cX11_tell 32 = .ok (.iload_n 1, 1) := by decide +kernel
theorem dX11_tell_33 : decode cX11_tell 33 = .ok (.iastore, 1) := by decide +kernel
theorem dX11_tell_34 : decode cX11_tell 34 = .ok (.aload_n 0, 1) := by decide +kernel
theorem dX11_tell_35 : decode cX11_tell 35 = .ok (.getfield 10, 3) := by decide +kernel
theorem dX11_tell_38 : decode cX11_tell 38 = .ok (.dup, 1) := by decide +kernel
theorem dX11_tell_39 : decode cX11_tell 39 = .ok (.getfield 281, 3) := by decide +kernel
theorem dX11_tell_42 : decode cX11_tell 42 = .ok (.iconst 1, 1) := by decide +kernel
theorem dX11_tell_43 : decode cX11_tell 43 = .ok (.iadd, 1) := by decide +kernel
theorem dX11_tell_44 : decode cX11_tell 44 = .ok (.putfield 281, 3) := by decide +kernel
theorem dX11_tell_47 : decode cX11_tell 47 = .ok (.aload_n 0, 1) := by decide +kernel
theorem dX11_tell_48 : decode cX11_tell 48 = .ok (.getfield 10, 3) := by decide +kernel
theorem dX11_tell_51 : decode cX11_tell 51 = .ok (.getfield 281, 3) := by decide +kernel
theorem dX11_tell_54 : decode cX11_tell 54 = .ok (.ireturn, 1) := by decide +kernel
theorem dX11_check_0 : decode cX11_check 0 = .ok (.aload_n 0, 1) := by decide +kernel
theorem dX11_check_1 : decode cX11_check 1 = .ok (.getfield 10, 3) := by decide +kernel
theorem dX11_check_4 : decode cX11_check 4 = .ok (.getfield 281, 3) := by decide +kernel
theorem dX11_check_7 : decode cX11_check 7 = .ok (.istore_n 2, 1) := by decide +kernel
theorem dX11_check_8 : decode cX11_check 8 = .ok (.aload_n 0, 1) := by decide +kernel
theorem dX11_check_9 : decode cX11_check 9 = .ok (.getfield 10, 3) := by decide +kernel
theorem dX11_check_12 : decode cX11_check 12 = .ok (.iconst 0, 1) := by decide +kernel
theorem dX11_check_13 : decode cX11_check 13 = .ok (.putfield 281, 3) := by decide +kernel
theorem dX11_check_16 : decode cX11_check 16 = .ok (.iload_n 1, 1) := by decide +kernel
theorem dX11_check_17 : decode cX11_check 17 = .ok (.invokestatic 99, 3) := by decide +kernel
theorem dX11_check_20 : decode cX11_check 20 = .ok (.ifCond .ne 9, 3) := by decide +kernel
theorem dX11_check_23 : decode cX11_check 23 = .ok (.aload_n 0, 1) := by decide +kernel
theorem dX11_check_24 : decode cX11_check 24 = .ok (.iconst 1, 1) := by decide +kernel
theorem dX11_check_25 : decode cX11_check 25 = .ok (.invokevirtual 89, 3) := by decide +kernel
theorem dX11_check_28 : decode cX11_check 28 = .ok (.ireturn, 1) := by decide +kernel
theorem dX11_check_29 : decode cX11_check 29 = .ok (.iconst 0, 1) := by decide +kernel
theorem dX11_check_30 : decode cX11_check 30 = .ok (.istore_n 3, 1) := by decide +kernel
theorem dX11_check_31 : decode cX11_check 31 = .ok (.iload_n 3, 1) := by decide +kernel
theorem dX11_check_32 : decode cX11_check 32 = .ok (.iload_n 2, 1) := by decide +kernel
theorem dX11_check_33 : decode cX11_check 33 = .ok (.if_icmp .ge 43, 3) := by decide +kernel
theorem dX11_check_36 : decode cX11_check 36 = .ok (.iload_n 3, 1) := by decide +kernel
theorem dX11_check_37 : decode cX11_check 37 = .ok (.bipush 24, 2) := by decide +kernel
theorem dX11_check_39 : decode cX11_check 39 = .ok (.if_icmp .ge 37, 3) := by decide +kernel
theorem dX11_check_42 : decode cX11_check 42 = .ok (.aload_n 0, 1) := by decide +kernel
theorem dX11_check_43 : decode cX11_check 43 = .ok (.getfield 10, 3) := by decide +kernel
theorem dX11_check_46 : decode cX11_check 46 = .ok (.getfield 284, 3) := by decide +kernel
theorem dX11_check_49 : decode cX11_check 49 = .ok (.iload_n 3, 1) := by decide +kernel
theorem dX11_check_50 : decode cX11_check 50 = .ok (.iaload, 1) := by decide +kernel
theorem dX11_check_51 : decode cX11_check 51 = .ok (.aload_n 0, 1) := by decide +kernel
theorem dX11_check_52 : decode cX11_check 52 = .ok (.getfield 10, 3) := by decide +kernel
theorem dX11_check_55 : decode cX11_check 55 = .ok (.iload_n 1, 1) := by decide +kernel
theorem dX11_check_56 : decode cX11_check 56 = .ok (.iload_n 3, 1) := by decide +kernel
theorem dX11_check_57 : decode cX11_check 57 = .ok (.iconst 1, 1) := by decide +kernel
theorem dX11_check_58 : decode cX11_check 58 = .ok (.iadd, 1) := by decide +kernel
theorem dX11_check_59 : decode cX11_check 59 = .ok (.iconst 1, 1) := by decide +kernel
theorem dX11_check_60 : decode cX11_check 60 = .ok (.invokevirtual 127, 3) := by decide +kernel
theorem dX11_check_63 : decode cX11_check 63 = .ok (.if_icmp .eq 7, 3) := by decide +kernel
theorem dX11_check_66 : decode cX11_check 66 = .ok (.iconst 1, 1) := by decide +kernel
theorem dX11_check_67 : decode cX11_check 67 = .ok (.iload_n 3, 1) := by decide +kernel
theorem dX11_check_68 : decode cX11_check 68 = .ok (.iadd, 1) := by decide +kernel
theorem dX11_check_69 : decode cX11_check 69 = .ok (.ireturn, 1) := by decide +kernel
theorem dX11_check_70 : decode cX11_check 70 = .ok (.iinc 3 1, 3) := by decide +kernel
theorem dX11_check_73 : decode cX11_check 73 = .ok (.goto (-42), 3) := by decide +kernel
theorem dX11_check_76 : decode cX11_check 76 = .ok (.iconst 0, 1) := by decide +kernel
theorem dX11_check_77 : decode cX11_check 77 = .ok (.ireturn, 1) := by decide +kernel
theorem dX11_count_0 : decode cX11_count 0 = .ok (.iload_n 1, 1) := by decide +kernel
theorem dX11_count_1 : decode cX11_count 1 = .ok (.tableswitch 111 0 7 #[47, 55, 63, 71, 79, 87, 95, 103], 47) := by decide +kernel
theorem dX11_count_48 : decode cX11_count 48 = .ok (.aload_n 0, 1) := by decide +kernel
theorem dX11_count_49 : decode cX11_count 49 = .ok (.getfield 10, 3) := by decide +kernel
theorem dX11_count_52 : decode cX11_count 52 = .ok (.getfield 278, 3) := by decide +kernel
theorem dX11_count_55 : decode cX11_count 55 = .ok (.ireturn, 1) := by decide +kernel
theorem dX11_count_56 : decode cX11_count 56 = .ok (.aload_n 0, 1) := by decide +kernel
theorem dX11_count_57 : decode cX11_count 57 = .ok (.getfield 10, 3) := by decide +kernel
theorem dX11_count_60 : decode cX11_count 60 = .ok (.getfield 287, 3) := by decide +kernel
theorem dX11_count_63 : decode cX11_count 63 = .ok (.ireturn, 1) := by decide +kernel
theorem dX11_count_64 : decode cX11_count 64 = .ok (.aload_n 0, 1) := by decide +kernel
theorem dX11_count_65 : decode cX11_count 65 = .ok (.getfield 10, 3) := by decide +kernel
theorem dX11_count_68 : decode cX11_count 68 = .ok (.getfield 290, 3) := by decide +kernel
theorem dX11_count_71 : decode cX11_count 71 = .ok (.ireturn, 1) := by decide +kernel
theorem dX11_count_72 : decode cX11_count 72 = .ok (.aload_n 0, 1) := by decide +kernel
theorem dX11_count_73 : decode cX11_count 73 = .ok (.getfield 10, 3) := by decide +kernel
theorem dX11_count_76 : decode cX11_count 76 = .ok (.invokevirtual 293, 3) := by decide +kernel
theorem dX11_count_79 : decode cX11_count 79 = .ok (.ireturn, 1) := by decide +kernel
theorem dX11_count_80 : decode cX11_count 80 = .ok (.aload_n 0, 1) := by decide +kernel
theorem dX11_count_81 : decode cX11_count 81 = .ok (.getfield 10, 3) := by decide +kernel
theorem dX11_count_84 : decode cX11_count 84 = .ok (.getfield 131, 3) := by decide +kernel
theorem dX11_count_87 : decode cX11_count 87 = .ok (.ireturn, 1) := by decide +kernel
theorem dX11_count_88 : decode cX11_count 88 = .ok (.aload_n 0, 1) := by decide +kernel
theorem dX11_count_89 : decode cX11_count 89 = .ok (.getfield 10, 3) := by decide +kernel
theorem dX11_count_92 : decode cX11_count 92 = .ok (.getfield 281, 3) := by decide +kernel
theorem dX11_count_95 : decode cX11_count 95 = .ok (.ireturn, 1) := by decide +kernel
theorem dX11_count_96 : decode cX11_count 96 = .ok (.aload_n 0, 1) := by decide +kernel
theorem dX11_count_97 : decode cX11_count 97 = .ok (.getfield 42, 3) := by decide +kernel
theorem dX11_count_100 : decode cX11_count 100 = .ok (.getfield 258, 3) := by decide +kernel
theorem dX11_count_103 : decode cX11_count 103 = .ok (.ireturn, 1) := by decide +kernel
theorem dX11_count_104 : decode cX11_count 104 = .ok (.aload_n 0, 1) := by decide +kernel
theorem dX11_count_105 : decode cX11_count 105 = .ok (.getfield 10, 3) := by decide +kernel
theorem dX11_count_108 : decode cX11_count 108 = .ok (.getfield 193, 3) := by decide +kernel
theorem dX11_count_111 : decode cX11_count 111 = .ok (.ireturn, 1) := by decide +kernel
theorem dX11_count_112 : decode cX11_count 112 = .ok (.aload_n 0, 1) := by decide +kernel
theorem dX11_count_113 : decode cX11_count 113 = .ok (.iconst 1, 1) := by decide +kernel
theorem dX11_count_114 : decode cX11_count 114 = .ok (.invokevirtual 89, 3) := by decide +kernel
theorem dX11_count_117 : decode cX11_count 117 = .ok (.ireturn, 1) := by decide +kernel
theorem dX11_told_0 : decode cX11_told 0 = .ok (.iload_n 1, 1) := by decide +kernel
theorem dX11_told_1 : decode cX11_told 1 = .ok (.iconst 1, 1) := by decide +kernel
theorem dX11_told_2 : decode cX11_told 2 = .ok (.bipush 6, 2) := by decide +kernel
theorem dX11_told_4 : decode cX11_told 4 = .ok (.invokestatic 81, 3) := by decide +kernel
theorem dX11_told_7 : decode cX11_told 7 = .ok (.ifCond .eq 12, 3) := by decide +kernel
theorem dX11_told_10 : decode cX11_told 10 = .ok (.aload_n 0, 1) := by decide +kernel
theorem dX11_told_11 : decode cX11_told 11 = .ok (.getfield 46, 3) := by decide +kernel
theorem dX11_told_14 : decode cX11_told 14 = .ok (.iload_n 1, 1) := by decide +kernel
theorem dX11_told_15 : decode cX11_told 15 = .ok (.iaload, 1) := by decide +kernel
theorem dX11_told_16 : decode cX11_told 16 = .ok (.goto 8, 3) := by decide +kernel
theorem dX11_told_19 : decode cX11_told 19 = .ok (.aload_n 0, 1) := by decide +kernel
theorem dX11_told_20 : decode cX11_told 20 = .ok (.iconst 1, 1) := by decide +kernel
theorem dX11_told_21 : decode cX11_told 21 = .ok (.invokevirtual 89, 3) := by decide +kernel
theorem dX11_told_24 : decode cX11_told 24 = .ok (.ireturn, 1) := by decide +kernel
theorem dX11_error_0 : decode cX11_error 0 = .ok (.iload_n 1, 1) := by decide +kernel
theorem dX11_error_1 : decode cX11_error 1 = .ok (.iconst 1, 1) := by decide +kernel
theorem dX11_error_2 : decode cX11_error 2 = .ok (.bipush 6, 2) := by decide +kernel
theorem dX11_error_4 : decode cX11_error 4 = .ok (.invokestatic 81, 3) := by decide +kernel
theorem dX11_error_7 : decode cX11_error 7 = .ok (.ifCond .eq 13, 3) := by decide +kernel
theorem dX11_error_10 : decode cX11_error 10 = .ok (.aload_n 0, 1) := by decide +kernel
theorem dX11_error_11 : decode cX11_error 11 = .ok (.getfield 46, 3) := by decide +kernel
theorem dX11_error_14 : decode cX11_error 14 = .ok (.iload_n 1, 1) := by decide +kernel
theorem dX11_error_15 : decode cX11_error 15 = .ok (.dup2, 1) := by decide +kernel
theorem dX11_error_16 : decode cX11_error 16 = .ok (.iaload, 1) := by decide +kernel
theorem dX11_error_17 : decode cX11_error 17 = .ok (.iconst 1, 1) := by decide +kernel
theorem dX11_error_18 : decode cX11_error 18 = .ok (.iadd, 1) := by decide +kernel
theorem dX11_error_19 : decode cX11_error 19 = .ok (.iastore, 1) := by decide +kernel
theorem dX11_error_20 : decode cX11_error 20 = .ok (.ldc_w 296, 3) := by decide +kernel
theorem dX11_error_23 : decode cX11_error 23 = .ok (.iload_n 1, 1) := by decide +kernel
theorem dX11_error_24 : decode cX11_error 24 = .ok (.isub, 1) := by decide +kernel
theorem dX11_error_25 : decode cX11_error 25 = .ok (.ireturn, 1) := by decide +kernel
theorem dX11_within_0 : decode cX11_within 0 = .ok (.iload_n 0, 1) := by decide +kernel
theorem dX11_within_1 : decode cX11_within 1 = .ok (.iload_n 1, 1) := by decide +kernel
theorem dX11_within_2 : decode cX11_within 2 = .ok (.if_icmp .lt 12, 3) := by decide +kernel
theorem dX11_within_5 : decode cX11_within 5 = .ok (.iload_n 0, 1) := by decide +kernel
theorem dX11_within_6 : decode cX11_within 6 = .ok (.iload_n 2, 1) := by decide +kernel
theorem dX11_within_7 : decode cX11_within 7 = .ok (.if_icmp .gt 7, 3) := by decide +kernel
theorem dX11_within_10 : decode cX11_within 10 = .ok (.iconst 1, 1) := by decide +kernel
theorem dX11_within_11 : decode cX11_within 11 = .ok (.goto 4, 3) := by decide +kernel
theorem dX11_within_14 : decode cX11_within 14 = .ok (.iconst 0, 1) := by decide +kernel
theorem dX11_within_15 : decode cX11_within 15 = .ok (.ireturn, 1) := by decide +kernel
theorem dX11_held_0 : decode cX11_held 0 = .ok (.iconst 0, 1) := by decide +kernel
theorem dX11_held_1 : decode cX11_held 1 = .ok (.iload_n 0, 1) := by decide +kernel
theorem dX11_held_2 : decode cX11_held 2 = .ok (.iload_n 1, 1) := by decide +kernel
theorem dX11_held_3 : decode cX11_held 3 = .ok (.invokestatic 205, 3) := by decide +kernel
theorem dX11_held_6 : decode cX11_held 6 = .ok (.invokestatic 297, 3) := by decide +kernel
theorem dX11_held_9 : decode cX11_held 9 = .ok (.ireturn, 1) := by decide +kernel
theorem dX11_isThing_0 : decode cX11_isThing 0 = .ok (.iload_n 0, 1) := by decide +kernel
theorem dX11_isThing_1 : decode cX11_isThing 1 = .ok (.iconst 0, 1) := by decide +kernel
theorem dX11_isThing_2 : decode cX11_isThing 2 = .ok (.bipush 7, 2) := by decide +kernel
theorem dX11_isThing_4 : decode cX11_isThing 4 = .ok (.invokestatic 81, 3) := by decide +kernel
theorem dX11_isThing_7 : decode cX11_isThing 7 = .ok (.ireturn, 1) := by decide +kernel
theorem dX11_isTill_0 : decode cX11_isTill 0 = .ok (.iload_n 0, 1) := by decide +kernel
theorem dX11_isTill_1 : decode cX11_isTill 1 = .ok (.iconst 0, 1) := by decide +kernel
theorem dX11_isTill_2 : decode cX11_isTill 2 = .ok (.iconst 3, 1) := by decide +kernel
theorem dX11_isTill_3 : decode cX11_isTill 3 = .ok (.invokestatic 81, 3) := by decide +kernel
theorem dX11_isTill_6 : decode cX11_isTill 6 = .ok (.ireturn, 1) := by decide +kernel
theorem dX11_isSheet_0 : decode cX11_isSheet 0 = .ok (.iload_n 0, 1) := by decide +kernel
theorem dX11_isSheet_1 : decode cX11_isSheet 1 = .ok (.iconst 0, 1) := by decide +kernel
theorem dX11_isSheet_2 : decode cX11_isSheet 2 = .ok (.iconst 3, 1) := by decide +kernel
theorem dX11_isSheet_3 : decode cX11_isSheet 3 = .ok (.invokestatic 81, 3) := by decide +kernel
theorem dX11_isSheet_6 : decode cX11_isSheet 6 = .ok (.ireturn, 1) := by decide +kernel
theorem dX11_isGood_0 : decode cX11_isGood 0 = .ok (.iload_n 1, 1) := by decide +kernel
theorem dX11_isGood_1 : decode cX11_isGood 1 = .ok (.getstatic 300, 3) := by decide +kernel
theorem dX11_isGood_4 : decode cX11_isGood 4 = .ok (.iload_n 0, 1) := by decide +kernel
theorem dX11_isGood_5 : decode cX11_isGood 5 = .ok (.iaload, 1) := by decide +kernel
theorem dX11_isGood_6 : decode cX11_isGood 6 = .ok (.getstatic 303, 3) := by decide +kernel
theorem dX11_isGood_9 : decode cX11_isGood 9 = .ok (.iload_n 0, 1) := by decide +kernel
theorem dX11_isGood_10 : decode cX11_isGood 10 = .ok (.iaload, 1) := by decide +kernel
theorem dX11_isGood_11 : decode cX11_isGood 11 = .ok (.invokestatic 81, 3) := by decide +kernel
theorem dX11_isGood_14 : decode cX11_isGood 14 = .ok (.ireturn, 1) := by decide +kernel
theorem dX11_isMissing_0 : decode cX11_isMissing 0 = .ok (.aload_n 0, 1) := by decide +kernel
theorem dX11_isMissing_1 : decode cX11_isMissing 1 = .ok (.getfield 27, 3) := by decide +kernel
theorem dX11_isMissing_4 : decode cX11_isMissing 4 = .ok (.iload_n 1, 1) := by decide +kernel
theorem dX11_isMissing_5 : decode cX11_isMissing 5 = .ok (.iaload, 1) := by decide +kernel
theorem dX11_isMissing_6 : decode cX11_isMissing 6 = .ok (.ifCond .ne 7, 3) := by decide +kernel
theorem dX11_isMissing_9 : decode cX11_isMissing 9 = .ok (.iconst 1, 1) := by decide +kernel
theorem dX11_isMissing_10 : decode cX11_isMissing 10 = .ok (.goto 4, 3) := by decide +kernel
theorem dX11_isMissing_13 : decode cX11_isMissing 13 = .ok (.iconst 0, 1) := by decide +kernel
theorem dX11_isMissing_14 : decode cX11_isMissing 14 = .ok (.ireturn, 1) := by decide +kernel
theorem dX11_stand_0 : decode cX11_stand 0 = .ok (.iload_n 3, 1) := by decide +kernel
theorem dX11_stand_1 : decode cX11_stand 1 = .ok (.ifCond .lt 33, 3) := by decide +kernel
theorem dX11_stand_4 : decode cX11_stand 4 = .ok (.iload_n 2, 1) := by decide +kernel
theorem dX11_stand_5 : decode cX11_stand 5 = .ok (.ifCond .lt 29, 3) := by decide +kernel
theorem dX11_stand_8 : decode cX11_stand 8 = .ok (.iload_n 3, 1) := by decide +kernel
theorem dX11_stand_9 : decode cX11_stand 9 = .ok (.aload_n 0, 1) := by decide +kernel
theorem dX11_stand_10 : decode cX11_stand 10 = .ok (.getfield 31, 3) := by decide +kernel
theorem dX11_stand_13 : decode cX11_stand 13 = .ok (.iload_n 1, 1) := by decide +kernel
theorem dX11_stand_14 : decode cX11_stand 14 = .ok (.iaload, 1) := by decide +kernel
theorem dX11_stand_15 : decode cX11_stand 15 = .ok (.if_icmp .gt 19, 3) := by decide +kernel
theorem dX11_stand_18 : decode cX11_stand 18 = .ok (.iload_n 2, 1) := by decide +kernel
theorem dX11_stand_19 : decode cX11_stand 19 = .ok (.aload_n 0, 1) := by decide +kernel
theorem dX11_stand_20 : decode cX11_stand 20 = .ok (.getfield 31, 3) := by decide +kernel
theorem dX11_stand_23 : decode cX11_stand 23 = .ok (.iload_n 1, 1) := by decide +kernel
theorem dX11_stand_24 : decode cX11_stand 24 = .ok (.iaload, 1) := by decide +kernel
theorem dX11_stand_25 : decode cX11_stand 25 = .ok (.iload_n 3, 1) := by decide +kernel
theorem dX11_stand_26 : decode cX11_stand 26 = .ok (.isub, 1) := by decide +kernel
theorem dX11_stand_27 : decode cX11_stand 27 = .ok (.if_icmp .gt 7, 3) := by decide +kernel
theorem dX11_stand_30 : decode cX11_stand 30 = .ok (.iconst 1, 1) := by decide +kernel
theorem dX11_stand_31 : decode cX11_stand 31 = .ok (.goto 4, 3) := by decide +kernel
theorem dX11_stand_34 : decode cX11_stand 34 = .ok (.iconst 0, 1) := by decide +kernel
theorem dX11_stand_35 : decode cX11_stand 35 = .ok (.ireturn, 1) := by decide +kernel
theorem dX11_refusal_0 : decode cX11_refusal 0 = .ok (.iload_n 1, 1) := by decide +kernel
theorem dX11_refusal_1 : decode cX11_refusal 1 = .ok (.invokestatic 154, 3) := by decide +kernel
theorem dX11_refusal_4 : decode cX11_refusal 4 = .ok (.ifCond .eq 19, 3) := by decide +kernel
theorem dX11_refusal_7 : decode cX11_refusal 7 = .ok (.iload_n 2, 1) := by decide +kernel
theorem dX11_refusal_8 : decode cX11_refusal 8 = .ok (.invokestatic 99, 3) := by decide +kernel
theorem dX11_refusal_11 : decode cX11_refusal 11 = .ok (.ifCond .eq 12, 3) := by decide +kernel
theorem dX11_refusal_14 : decode cX11_refusal 14 = .ok (.aload_n 0, 1) := by decide +kernel
theorem dX11_refusal_15 : decode cX11_refusal 15 = .ok (.iload_n 1, 1) := by decide +kernel
theorem dX11_refusal_16 : decode cX11_refusal 16 = .ok (.iload_n 3, 1) := by decide +kernel
theorem dX11_refusal_17 : decode cX11_refusal 17 = .ok (.invokevirtual 157, 3) := by decide +kernel
theorem dX11_refusal_20 : decode cX11_refusal 20 = .ok (.goto 4, 3) := by decide +kernel
theorem dX11_refusal_23 : decode cX11_refusal 23 = .ok (.iconst 1, 1) := by decide +kernel
theorem dX11_refusal_24 : decode cX11_refusal 24 = .ok (.ireturn, 1) := by decide +kernel
theorem dX11_refusal__0 : decode cX11_refusal_ 0 = .ok (.aload_n 0, 1) := by decide +kernel
theorem dX11_refusal__1 : decode cX11_refusal_ 1 = .ok (.iload_n 1, 1) := by decide +kernel
theorem dX11_refusal__2 : decode cX11_refusal_ 2 = .ok (.invokevirtual 210, 3) := by decide +kernel
theorem dX11_refusal__5 : decode cX11_refusal_ 5 = .ok (.ifCond .eq 5, 3) := by decide +kernel
theorem dX11_refusal__8 : decode cX11_refusal_ 8 = .ok (.iconst 2, 1) := by decide +kernel
theorem dX11_refusal__9 : decode cX11_refusal_ 9 = .ok (.ireturn, 1) := by decide +kernel
theorem dX11_refusal__10 : decode cX11_refusal_ 10 = .ok (.aload_n 0, 1) := by decide +kernel
theorem dX11_refusal__11 : decode cX11_refusal_ 11 = .ok (.iload_n 1, 1) := by decide +kernel
theorem dX11_refusal__12 : decode cX11_refusal_ 12 = .ok (.aload_n 0, 1) := by decide +kernel
theorem dX11_refusal__13 : decode cX11_refusal_ 13 = .ok (.getfield 52, 3) := by decide +kernel
theorem dX11_refusal__16 : decode cX11_refusal_ 16 = .ok (.invokevirtual 213, 3) := by decide +kernel
theorem dX11_refusal__19 : decode cX11_refusal_ 19 = .ok (.ifCond .ne 5, 3) := by decide +kernel
theorem dX11_refusal__22 : decode cX11_refusal_ 22 = .ok (.iconst 1, 1) := by decide +kernel
theorem dX11_refusal__23 : decode cX11_refusal_ 23 = .ok (.ireturn, 1) := by decide +kernel
theorem dX11_refusal__24 : decode cX11_refusal_ 24 = .ok (.aload_n 0, 1) := by decide +kernel
theorem dX11_refusal__25 : decode cX11_refusal_ 25 = .ok (.getfield 52, 3) := by decide +kernel
theorem dX11_refusal__28 : decode cX11_refusal_ 28 = .ok (.getfield 160, 3) := by decide +kernel
theorem dX11_refusal__31 : decode cX11_refusal_ 31 = .ok (.iload_n 2, 1) := by decide +kernel
theorem dX11_refusal__32 : decode cX11_refusal_ 32 = .ok (.if_icmp .le 7, 3) := by decide +kernel
theorem dX11_refusal__35 : decode cX11_refusal_ 35 = .ok (.iconst 4, 1) := by decide +kernel
theorem dX11_refusal__36 : decode cX11_refusal_ 36 = .ok (.goto 4, 3) := by decide +kernel
theorem dX11_refusal__39 : decode cX11_refusal_ 39 = .ok (.iconst 0, 1) := by decide +kernel
theorem dX11_refusal__40 : decode cX11_refusal_ 40 = .ok (.ireturn, 1) := by decide +kernel
theorem dX11_reads_0 : decode cX11_reads 0 = .ok (.aload_n 2, 1) := by decide +kernel
theorem dX11_reads_1 : decode cX11_reads 1 = .ok (.invokevirtual 183, 3) := by decide +kernel
theorem dX11_reads_4 : decode cX11_reads 4 = .ok (.iconst 0, 1) := by decide +kernel
theorem dX11_reads_5 : decode cX11_reads 5 = .ok (.istore_n 3, 1) := by decide +kernel
theorem dX11_reads_6 : decode cX11_reads 6 = .ok (.iload_n 3, 1) := by decide +kernel
theorem dX11_reads_7 : decode cX11_reads 7 = .ok (.bipush 8, 2) := by decide +kernel
theorem dX11_reads_9 : decode cX11_reads 9 = .ok (.if_icmp .ge 52, 3) := by decide +kernel
theorem dX11_reads_12 : decode cX11_reads 12 = .ok (.iload_n 3, 1) := by decide +kernel
theorem dX11_reads_13 : decode cX11_reads 13 = .ok (.aload_n 0, 1) := by decide +kernel
theorem dX11_reads_14 : decode cX11_reads 14 = .ok (.getfield 31, 3) := by decide +kernel
theorem dX11_reads_17 : decode cX11_reads 17 = .ok (.iload_n 1, 1) := by decide +kernel
theorem dX11_reads_18 : decode cX11_reads 18 = .ok (.iaload, 1) := by decide +kernel
theorem dX11_reads_19 : decode cX11_reads 19 = .ok (.if_icmp .ge 42, 3) := by decide +kernel
theorem dX11_reads_22 : decode cX11_reads 22 = .ok (.aload_n 0, 1) := by decide +kernel
theorem dX11_reads_23 : decode cX11_reads 23 = .ok (.getfield 36, 3) := by decide +kernel
theorem dX11_reads_26 : decode cX11_reads 26 = .ok (.iload_n 1, 1) := by decide +kernel
theorem dX11_reads_27 : decode cX11_reads 27 = .ok (.aaload, 1) := by decide +kernel
theorem dX11_reads_28 : decode cX11_reads 28 = .ok (.iload_n 3, 1) := by decide +kernel
theorem dX11_reads_29 : decode cX11_reads 29 = .ok (.iaload, 1) := by decide +kernel
theorem dX11_reads_30 : decode cX11_reads 30 = .ok (.iconst 0, 1) := by decide +kernel
theorem dX11_reads_31 : decode cX11_reads 31 = .ok (.bipush 9, 2) := by decide +kernel
theorem dX11_reads_33 : decode cX11_reads 33 = .ok (.invokestatic 81, 3) := by decide +kernel
theorem dX11_reads_36 : decode cX11_reads 36 = .ok (.ifCond .ne 5, 3) := by decide +kernel
theorem dX11_reads_39 : decode cX11_reads 39 = .ok (.iconst 0, 1) := by decide +kernel
theorem dX11_reads_40 : decode cX11_reads 40 = .ok (.ireturn, 1) := by decide +kernel
theorem dX11_reads_41 : decode cX11_reads 41 = .ok (.aload_n 2, 1) := by decide +kernel
theorem dX11_reads_42 : decode cX11_reads 42 = .ok (.getfield 186, 3) := by decide +kernel
theorem dX11_reads_45 : decode cX11_reads 45 = .ok (.iload_n 3, 1) := by decide +kernel
theorem dX11_reads_46 : decode cX11_reads 46 = .ok (.aload_n 0, 1) := by decide +kernel
theorem dX11_reads_47 : decode cX11_reads 47 = .ok (.getfield 36, 3) := by decide +kernel
theorem dX11_reads_50 : decode cX11_reads 50 = .ok (.iload_n 1, 1) := by decide +kernel
theorem dX11_reads_51 : decode cX11_reads 51 = .ok (.aaload, 1) := by decide +kernel
theorem dX11_reads_52 : decode cX11_reads 52 = .ok (.iload_n 3, 1) := by decide +kernel
theorem dX11_reads_53 : decode cX11_reads 53 = .ok (.iaload, 1) := by decide +kernel
theorem dX11_reads_54 : decode cX11_reads 54 = .ok (.iastore, 1) := by decide +kernel
theorem dX11_reads_55 : decode cX11_reads 55 = .ok (.iinc 3 1, 3) := by decide +kernel
theorem dX11_reads_58 : decode cX11_reads 58 = .ok (.goto (-52), 3) := by decide +kernel
theorem dX11_reads_61 : decode cX11_reads 61 = .ok (.aload_n 2, 1) := by decide +kernel
theorem dX11_reads_62 : decode cX11_reads 62 = .ok (.aload_n 0, 1) := by decide +kernel
theorem dX11_reads_63 : decode cX11_reads 63 = .ok (.getfield 10, 3) := by decide +kernel
theorem dX11_reads_66 : decode cX11_reads 66 = .ok (.getfield 93, 3) := by decide +kernel
theorem dX11_reads_69 : decode cX11_reads 69 = .ok (.iconst 0, 1) := by decide +kernel
theorem dX11_reads_70 : decode cX11_reads 70 = .ok (.aaload, 1) := by decide +kernel
theorem dX11_reads_71 : decode cX11_reads 71 = .ok (.invokevirtual 189, 3) := by decide +kernel
theorem dX11_reads_74 : decode cX11_reads 74 = .ok (.iconst 1, 1) := by decide +kernel
theorem dX11_reads_75 : decode cX11_reads 75 = .ok (.ireturn, 1) := by decide +kernel
theorem dX11_lowest_0 : decode cX11_lowest 0 = .ok (.iload_n 1, 1) := by decide +kernel
theorem dX11_lowest_1 : decode cX11_lowest 1 = .ok (.bipush 8, 2) := by decide +kernel
theorem dX11_lowest_3 : decode cX11_lowest 3 = .ok (.if_icmp .ne 6, 3) := by decide +kernel
theorem dX11_lowest_6 : decode cX11_lowest 6 = .ok (.iload_n 0, 1) := by decide +kernel
theorem dX11_lowest_7 : decode cX11_lowest 7 = .ok (.i2b, 1) := by decide +kernel
theorem dX11_lowest_8 : decode cX11_lowest 8 = .ok (.ireturn, 1) := by decide +kernel
theorem dX11_lowest_9 : decode cX11_lowest 9 = .ok (.iload_n 1, 1) := by decide +kernel
theorem dX11_lowest_10 : decode cX11_lowest 10 = .ok (.bipush 16, 2) := by decide +kernel
theorem dX11_lowest_12 : decode cX11_lowest 12 = .ok (.if_icmp .ne 8, 3) := by decide +kernel
theorem dX11_lowest_15 : decode cX11_lowest 15 = .ok (.iload_n 0, 1) := by decide +kernel
theorem dX11_lowest_16 : decode cX11_lowest 16 = .ok (.i2s, 1) := by decide +kernel
theorem dX11_lowest_17 : decode cX11_lowest 17 = .ok (.goto 4, 3) := by decide +kernel
theorem dX11_lowest_20 : decode cX11_lowest 20 = .ok (.iload_n 0, 1) := by decide +kernel
theorem dX11_lowest_21 : decode cX11_lowest 21 = .ok (.ireturn, 1) := by decide +kernel
theorem dX11_figureSum_0 : decode cX11_figureSum 0 = .ok (.iload_n 1, 1) := by decide +kernel
theorem dX11_figureSum_1 : decode cX11_figureSum 1 = .ok (.iconst 2, 1) := by decide +kernel
theorem dX11_figureSum_2 : decode cX11_figureSum 2 = .ok (.if_icmp .ge 5, 3) := by decide +kernel
theorem dX11_figureSum_5 : decode cX11_figureSum 5 = .ok (.iconst 0, 1) := by decide +kernel
theorem dX11_figureSum_6 : decode cX11_figureSum 6 = .ok (.ireturn, 1) := by decide +kernel
theorem dX11_figureSum_7 : decode cX11_figureSum 7 = .ok (.iconst 0, 1) := by decide +kernel
theorem dX11_figureSum_8 : decode cX11_figureSum 8 = .ok (.istore_n 2, 1) := by decide +kernel
theorem dX11_figureSum_9 : decode cX11_figureSum 9 = .ok (.iload_n 0, 1) := by decide +kernel
theorem dX11_figureSum_10 : decode cX11_figureSum 10 = .ok (.istore_n 3, 1) := by decide +kernel
theorem dX11_figureSum_11 : decode cX11_figureSum 11 = .ok (.iconst 0, 1) := by decide +kernel
theorem dX11_figureSum_12 : decode cX11_figureSum 12 = .ok (.istore 4, 2) := by decide +kernel
theorem dX11_figureSum_14 : decode cX11_figureSum 14 = .ok (.iload 4, 2) := by decide +kernel
theorem dX11_figureSum_16 : decode cX11_figureSum 16 = .ok (.bipush 32, 2) := by decide +kernel
theorem dX11_figureSum_18 : decode cX11_figureSum 18 = .ok (.if_icmp .ge 23, 3) := by decide +kernel
theorem dX11_figureSum_21 : decode cX11_figureSum 21 = .ok (.iload_n 3, 1) := by decide +kernel
theorem dX11_figureSum_22 : decode cX11_figureSum 22 = .ok (.ifCond .le 19, 3) := by decide +kernel
theorem dX11_figureSum_25 : decode cX11_figureSum 25 = .ok (.iload_n 2, 1) := by decide +kernel
theorem dX11_figureSum_26 : decode cX11_figureSum 26 = .ok (.iload_n 3, 1) := by decide +kernel
theorem dX11_figureSum_27 : decode cX11_figureSum 27 = .ok (.iload_n 1, 1) := by decide +kernel
theorem dX11_figureSum_28 : decode cX11_figureSum 28 = .ok (.irem, 1) := by decide +kernel
theorem dX11_figureSum_29 : decode cX11_figureSum 29 = .ok (.iadd, 1) := by decide +kernel
theorem dX11_figureSum_30 : decode cX11_figureSum 30 = .ok (.istore_n 2, 1) := by decide +kernel
theorem dX11_figureSum_31 : decode cX11_figureSum 31 = .ok (.iload_n 3, 1) := by decide +kernel
theorem dX11_figureSum_32 : decode cX11_figureSum 32 = .ok (.iload_n 1, 1) := by decide +kernel
theorem dX11_figureSum_33 : decode cX11_figureSum 33 = .ok (.idiv, 1) := by decide +kernel
theorem dX11_figureSum_34 : decode cX11_figureSum 34 = .ok (.istore_n 3, 1) := by decide +kernel
theorem dX11_figureSum_35 : decode cX11_figureSum 35 = .ok (.iinc 4 1, 3) := by decide +kernel
theorem dX11_figureSum_38 : decode cX11_figureSum 38 = .ok (.goto (-24), 3) := by decide +kernel
theorem dX11_figureSum_41 : decode cX11_figureSum 41 = .ok (.iload_n 2, 1) := by decide +kernel
theorem dX11_figureSum_42 : decode cX11_figureSum 42 = .ok (.ireturn, 1) := by decide +kernel
theorem dX11_oneFigure_0 : decode cX11_oneFigure 0 = .ok (.iload_n 0, 1) := by decide +kernel
theorem dX11_oneFigure_1 : decode cX11_oneFigure 1 = .ok (.istore_n 2, 1) := by decide +kernel
theorem dX11_oneFigure_2 : decode cX11_oneFigure 2 = .ok (.iconst 0, 1) := by decide +kernel
theorem dX11_oneFigure_3 : decode cX11_oneFigure 3 = .ok (.istore_n 3, 1) := by decide +kernel
theorem dX11_oneFigure_4 : decode cX11_oneFigure 4 = .ok (.iload_n 3, 1) := by decide +kernel
theorem dX11_oneFigure_5 : decode cX11_oneFigure 5 = .ok (.bipush 32, 2) := by decide +kernel
theorem dX11_oneFigure_7 : decode cX11_oneFigure 7 = .ok (.if_icmp .ge 20, 3) := by decide +kernel
theorem dX11_oneFigure_10 : decode cX11_oneFigure 10 = .ok (.iload_n 2, 1) := by decide +kernel
theorem dX11_oneFigure_11 : decode cX11_oneFigure 11 = .ok (.iload_n 1, 1) := by decide +kernel
theorem dX11_oneFigure_12 : decode cX11_oneFigure 12 = .ok (.if_icmp .lt 15, 3) := by decide +kernel
theorem dX11_oneFigure_15 : decode cX11_oneFigure 15 = .ok (.iload_n 2, 1) := by decide +kernel
theorem dX11_oneFigure_16 : decode cX11_oneFigure 16 = .ok (.iload_n 1, 1) := by decide +kernel
theorem dX11_oneFigure_17 : decode cX11_oneFigure 17 = .ok (.invokestatic 122, 3) := by decide +kernel
theorem dX11_oneFigure_20 : decode cX11_oneFigure 20 = .ok (.istore_n 2, 1) := by decide +kernel
theorem dX11_oneFigure_21 : decode cX11_oneFigure 21 = .ok (.iinc 3 1, 3) := by decide +kernel
theorem dX11_oneFigure_24 : decode cX11_oneFigure 24 = .ok (.goto (-20), 3) := by decide +kernel
theorem dX11_oneFigure_27 : decode cX11_oneFigure 27 = .ok (.iload_n 2, 1) := by decide +kernel
theorem dX11_oneFigure_28 : decode cX11_oneFigure 28 = .ok (.ireturn, 1) := by decide +kernel
theorem dX11_commonDivisor_0 : decode cX11_commonDivisor 0 = .ok (.iload_n 0, 1) := by decide +kernel
theorem dX11_commonDivisor_1 : decode cX11_commonDivisor 1 = .ok (.istore_n 2, 1) := by decide +kernel
theorem dX11_commonDivisor_2 : decode cX11_commonDivisor 2 = .ok (.iload_n 1, 1) := by decide +kernel
theorem dX11_commonDivisor_3 : decode cX11_commonDivisor 3 = .ok (.istore_n 3, 1) := by decide +kernel
theorem dX11_commonDivisor_4 : decode cX11_commonDivisor 4 = .ok (.iconst 0, 1) := by decide +kernel
theorem dX11_commonDivisor_5 : decode cX11_commonDivisor 5 = .ok (.istore 4, 2) := by decide +kernel
theorem dX11_commonDivisor_7 : decode cX11_commonDivisor 7 = .ok (.iload 4, 2) := by decide +kernel
theorem dX11_commonDivisor_9 : decode cX11_commonDivisor 9 = .ok (.ldc 200, 2) := by decide +kernel
theorem dX11_commonDivisor_11 : decode cX11_commonDivisor 11 = .ok (.if_icmp .ge 23, 3) := by decide +kernel
theorem dX11_commonDivisor_14 : decode cX11_commonDivisor 14 = .ok (.iload_n 3, 1) := by decide +kernel
theorem dX11_commonDivisor_15 : decode cX11_commonDivisor 15 = .ok (.ifCond .le 19, 3) := by decide +kernel
theorem dX11_commonDivisor_18 : decode cX11_commonDivisor 18 = .ok (.iload_n 2, 1) := by decide +kernel
theorem dX11_commonDivisor_19 : decode cX11_commonDivisor 19 = .ok (.iload_n 3, 1) := by decide +kernel
theorem dX11_commonDivisor_20 : decode cX11_commonDivisor 20 = .ok (.irem, 1) := by decide +kernel
theorem dX11_commonDivisor_21 : decode cX11_commonDivisor 21 = .ok (.istore 5, 2) := by decide +kernel
theorem dX11_commonDivisor_23 : decode cX11_commonDivisor 23 = .ok (.iload_n 3, 1) := by decide +kernel
theorem dX11_commonDivisor_24 : decode cX11_commonDivisor 24 = .ok (.istore_n 2, 1) := by decide +kernel
theorem dX11_commonDivisor_25 : decode cX11_commonDivisor 25 = .ok (.iload 5, 2) := by decide +kernel
theorem dX11_commonDivisor_27 : decode cX11_commonDivisor 27 = .ok (.istore_n 3, 1) := by decide +kernel
theorem dX11_commonDivisor_28 : decode cX11_commonDivisor 28 = .ok (.iinc 4 1, 3) := by decide +kernel
theorem dX11_commonDivisor_31 : decode cX11_commonDivisor 31 = .ok (.goto (-24), 3) := by decide +kernel
theorem dX11_commonDivisor_34 : decode cX11_commonDivisor 34 = .ok (.iconst 1, 1) := by decide +kernel
theorem dX11_commonDivisor_35 : decode cX11_commonDivisor 35 = .ok (.iload_n 2, 1) := by decide +kernel
theorem dX11_commonDivisor_36 : decode cX11_commonDivisor 36 = .ok (.invokestatic 297, 3) := by decide +kernel
theorem dX11_commonDivisor_39 : decode cX11_commonDivisor 39 = .ok (.ireturn, 1) := by decide +kernel
theorem dX11_takenInCases_0 : decode cX11_takenInCases 0 = .ok (.aload_n 0, 1) := by decide +kernel
theorem dX11_takenInCases_1 : decode cX11_takenInCases 1 = .ok (.getfield 52, 3) := by decide +kernel
theorem dX11_takenInCases_4 : decode cX11_takenInCases 4 = .ok (.getfield 160, 3) := by decide +kernel
theorem dX11_takenInCases_7 : decode cX11_takenInCases 7 = .ok (.ifCond .ne 5, 3) := by decide +kernel
theorem dX11_takenInCases_10 : decode cX11_takenInCases 10 = .ok (.iconst 0, 1) := by decide +kernel
theorem dX11_takenInCases_11 : decode cX11_takenInCases 11 = .ok (.ireturn, 1) := by decide +kernel
theorem dX11_takenInCases_12 : decode cX11_takenInCases 12 = .ok (.aload_n 0, 1) := by decide +kernel
theorem dX11_takenInCases_13 : decode cX11_takenInCases 13 = .ok (.getfield 10, 3) := by decide +kernel
theorem dX11_takenInCases_16 : decode cX11_takenInCases 16 = .ok (.iload_n 1, 1) := by decide +kernel
theorem dX11_takenInCases_17 : decode cX11_takenInCases 17 = .ok (.aload_n 0, 1) := by decide +kernel
theorem dX11_takenInCases_18 : decode cX11_takenInCases 18 = .ok (.getfield 52, 3) := by decide +kernel
theorem dX11_takenInCases_21 : decode cX11_takenInCases 21 = .ok (.getfield 163, 3) := by decide +kernel
theorem dX11_takenInCases_24 : decode cX11_takenInCases 24 = .ok (.aload_n 0, 1) := by decide +kernel
theorem dX11_takenInCases_25 : decode cX11_takenInCases 25 = .ok (.getfield 52, 3) := by decide +kernel
theorem dX11_takenInCases_28 : decode cX11_takenInCases 28 = .ok (.getfield 160, 3) := by decide +kernel
theorem dX11_takenInCases_31 : decode cX11_takenInCases 31 = .ok (.invokevirtual 127, 3) := by decide +kernel
theorem dX11_takenInCases_34 : decode cX11_takenInCases 34 = .ok (.istore 4, 2) := by decide +kernel
theorem dX11_takenInCases_36 : decode cX11_takenInCases 36 = .ok (.bipush 16, 2) := by decide +kernel
theorem dX11_takenInCases_38 : decode cX11_takenInCases 38 = .ok (.iload 4, 2) := by decide +kernel
theorem dX11_takenInCases_40 : decode cX11_takenInCases 40 = .ok (.imul, 1) := by decide +kernel
theorem dX11_takenInCases_41 : decode cX11_takenInCases 41 = .ok (.iload_n 2, 1) := by decide +kernel
theorem dX11_takenInCases_42 : decode cX11_takenInCases 42 = .ok (.iadd, 1) := by decide +kernel
theorem dX11_takenInCases_43 : decode cX11_takenInCases 43 = .ok (.iload 4, 2) := by decide +kernel
theorem dX11_takenInCases_45 : decode cX11_takenInCases 45 = .ok (.ifCond .ne 7, 3) := by decide +kernel
theorem dX11_takenInCases_48 : decode cX11_takenInCases 48 = .ok (.iconst 0, 1) := by decide +kernel
theorem dX11_takenInCases_49 : decode cX11_takenInCases 49 = .ok (.goto 4, 3) := by decide +kernel
theorem dX11_takenInCases_52 : decode cX11_takenInCases 52 = .ok (.iload_n 3, 1) := by decide +kernel
theorem dX11_takenInCases_53 : decode cX11_takenInCases 53 = .ok (.isub, 1) := by decide +kernel
theorem dX11_takenInCases_54 : decode cX11_takenInCases 54 = .ok (.ireturn, 1) := by decide +kernel
theorem dX11_findCheapest_0 : decode cX11_findCheapest 0 = .ok (.iconst 0, 1) := by decide +kernel
theorem dX11_findCheapest_1 : decode cX11_findCheapest 1 = .ok (.istore_n 3, 1) := by decide +kernel
theorem dX11_findCheapest_2 : decode cX11_findCheapest 2 = .ok (.iload_n 3, 1) := by decide +kernel
theorem dX11_findCheapest_3 : decode cX11_findCheapest 3 = .ok (.bipush 8, 2) := by decide +kernel
theorem dX11_findCheapest_5 : decode cX11_findCheapest 5 = .ok (.if_icmp .ge 41, 3) := by decide +kernel
theorem dX11_findCheapest_8 : decode cX11_findCheapest 8 = .ok (.aload_n 0, 1) := by decide +kernel
theorem dX11_findCheapest_9 : decode cX11_findCheapest 9 = .ok (.getfield 62, 3) := by decide +kernel
theorem dX11_findCheapest_12 : decode cX11_findCheapest 12 = .ok (.iload_n 3, 1) := by decide +kernel
theorem dX11_findCheapest_13 : decode cX11_findCheapest 13 = .ok (.bipush 9, 2) := by decide +kernel
theorem dX11_findCheapest_15 : decode cX11_findCheapest 15 = .ok (.aload_n 0, 1) := by decide +kernel
theorem dX11_findCheapest_16 : decode cX11_findCheapest 16 = .ok (.getfield 52, 3) := by decide +kernel
theorem dX11_findCheapest_19 : decode cX11_findCheapest 19 = .ok (.getfield 186, 3) := by decide +kernel
theorem dX11_findCheapest_22 : decode cX11_findCheapest 22 = .ok (.iload_n 3, 1) := by decide +kernel
theorem dX11_findCheapest_23 : decode cX11_findCheapest 23 = .ok (.iaload, 1) := by decide +kernel
theorem dX11_findCheapest_24 : decode cX11_findCheapest 24 = .ok (.isub, 1) := by decide +kernel
theorem dX11_findCheapest_25 : decode cX11_findCheapest 25 = .ok (.iastore, 1) := by decide +kernel
theorem dX11_findCheapest_26 : decode cX11_findCheapest 26 = .ok (.aload_n 0, 1) := by decide +kernel
theorem dX11_findCheapest_27 : decode cX11_findCheapest 27 = .ok (.getfield 65, 3) := by decide +kernel
theorem dX11_findCheapest_30 : decode cX11_findCheapest 30 = .ok (.iload_n 3, 1) := by decide +kernel
theorem dX11_findCheapest_31 : decode cX11_findCheapest 31 = .ok (.aload_n 0, 1) := by decide +kernel
theorem dX11_findCheapest_32 : decode cX11_findCheapest 32 = .ok (.getfield 10, 3) := by decide +kernel
theorem dX11_findCheapest_35 : decode cX11_findCheapest 35 = .ok (.iload_n 3, 1) := by decide +kernel
theorem dX11_findCheapest_36 : decode cX11_findCheapest 36 = .ok (.invokevirtual 96, 3) := by decide +kernel
theorem dX11_findCheapest_39 : decode cX11_findCheapest 39 = .ok (.iastore, 1) := by decide +kernel
theorem dX11_findCheapest_40 : decode cX11_findCheapest 40 = .ok (.iinc 3 1, 3) := by decide +kernel
theorem dX11_findCheapest_43 : decode cX11_findCheapest 43 = .ok (.goto (-41), 3) := by decide +kernel
theorem dX11_findCheapest_46 : decode cX11_findCheapest 46 = .ok (.iload_n 2, 1) := by decide +kernel
theorem dX11_findCheapest_47 : decode cX11_findCheapest 47 = .ok (.bipush 30, 2) := by decide +kernel
theorem dX11_findCheapest_49 : decode cX11_findCheapest 49 = .ok (.aload_n 0, 1) := by decide +kernel
theorem dX11_findCheapest_50 : decode cX11_findCheapest 50 = .ok (.getfield 52, 3) := by decide +kernel
theorem dX11_findCheapest_53 : decode cX11_findCheapest 53 = .ok (.getfield 160, 3) := by decide +kernel
theorem dX11_findCheapest_56 : decode cX11_findCheapest 56 = .ok (.isub, 1) := by decide +kernel
theorem dX11_findCheapest_57 : decode cX11_findCheapest 57 = .ok (.invokestatic 205, 3) := by decide +kernel
theorem dX11_findCheapest_60 : decode cX11_findCheapest 60 = .ok (.istore_n 3, 1) := by decide +kernel
theorem dX11_findCheapest_61 : decode cX11_findCheapest 61 = .ok (.aload_n 0, 1) := by decide +kernel
theorem dX11_findCheapest_62 : decode cX11_findCheapest 62 = .ok (.getfield 59, 3) := by decide +kernel
theorem dX11_findCheapest_65 : decode cX11_findCheapest 65 = .ok (.invokevirtual 183, 3) := by decide +kernel
theorem dX11_findCheapest_68 : decode cX11_findCheapest 68 = .ok (.aload_n 0, 1) := by decide +kernel
theorem dX11_findCheapest_69 : decode cX11_findCheapest 69 = .ok (.getfield 68, 3) := by decide +kernel
theorem dX11_findCheapest_72 : decode cX11_findCheapest 72 = .ok (.aload_n 0, 1) := by decide +kernel
theorem dX11_findCheapest_73 : decode cX11_findCheapest 73 = .ok (.getfield 59, 3) := by decide +kernel
theorem dX11_findCheapest_76 : decode cX11_findCheapest 76 = .ok (.invokevirtual 306, 3) := by decide +kernel
theorem dX11_findCheapest_79 : decode cX11_findCheapest 79 = .ok (.aload_n 0, 1) := by decide +kernel
theorem dX11_findCheapest_80 : decode cX11_findCheapest 80 = .ok (.aload_n 0, 1) := by decide +kernel
theorem dX11_findCheapest_81 : decode cX11_findCheapest 81 = .ok (.getfield 10, 3) := by decide +kernel
theorem dX11_findCheapest_84 : decode cX11_findCheapest 84 = .ok (.iload_n 1, 1) := by decide +kernel
theorem dX11_findCheapest_85 : decode cX11_findCheapest 85 = .ok (.aload_n 0, 1) := by decide +kernel
theorem dX11_findCheapest_86 : decode cX11_findCheapest 86 = .ok (.getfield 52, 3) := by decide +kernel
theorem dX11_findCheapest_89 : decode cX11_findCheapest 89 = .ok (.getfield 163, 3) := by decide +kernel
theorem dX11_findCheapest_92 : decode cX11_findCheapest 92 = .ok (.aload_n 0, 1) := by decide +kernel
theorem dX11_findCheapest_93 : decode cX11_findCheapest 93 = .ok (.getfield 52, 3) := by decide +kernel
theorem dX11_findCheapest_96 : decode cX11_findCheapest 96 = .ok (.getfield 160, 3) := by decide +kernel
theorem dX11_findCheapest_99 : decode cX11_findCheapest 99 = .ok (.invokevirtual 127, 3) := by decide +kernel
theorem dX11_findCheapest_102 : decode cX11_findCheapest 102 = .ok (.putfield 71, 3) := by decide +kernel
theorem dX11_findCheapest_105 : decode cX11_findCheapest 105 = .ok (.aload_n 0, 1) := by decide +kernel
theorem dX11_findCheapest_106 : decode cX11_findCheapest 106 = .ok (.aload_n 0, 1) := by decide +kernel
theorem dX11_findCheapest_107 : decode cX11_findCheapest 107 = .ok (.getfield 71, 3) := by decide +kernel
theorem dX11_findCheapest_110 : decode cX11_findCheapest 110 = .ok (.putfield 74, 3) := by decide +kernel
theorem dX11_findCheapest_113 : decode cX11_findCheapest 113 = .ok (.iconst 0, 1) := by decide +kernel
theorem dX11_findCheapest_114 : decode cX11_findCheapest 114 = .ok (.istore 4, 2) := by decide +kernel
theorem dX11_findCheapest_116 : decode cX11_findCheapest 116 = .ok (.iload 4, 2) := by decide +kernel
theorem dX11_findCheapest_118 : decode cX11_findCheapest 118 = .ok (.ldc 200, 2) := by decide +kernel
theorem dX11_findCheapest_120 : decode cX11_findCheapest 120 = .ok (.if_icmp .ge 147, 3) := by decide +kernel
theorem dX11_findCheapest_123 : decode cX11_findCheapest 123 = .ok (.aload_n 0, 1) := by decide +kernel
theorem dX11_findCheapest_124 : decode cX11_findCheapest 124 = .ok (.getfield 59, 3) := by decide +kernel
theorem dX11_findCheapest_127 : decode cX11_findCheapest 127 = .ok (.aload_n 0, 1) := by decide +kernel
theorem dX11_findCheapest_128 : decode cX11_findCheapest 128 = .ok (.getfield 62, 3) := by decide +kernel
theorem dX11_findCheapest_131 : decode cX11_findCheapest 131 = .ok (.iload_n 3, 1) := by decide +kernel
theorem dX11_findCheapest_132 : decode cX11_findCheapest 132 = .ok (.aload_n 0, 1) := by decide +kernel
theorem dX11_findCheapest_133 : decode cX11_findCheapest 133 = .ok (.getfield 10, 3) := by decide +kernel
theorem dX11_findCheapest_136 : decode cX11_findCheapest 136 = .ok (.getfield 93, 3) := by decide +kernel
theorem dX11_findCheapest_139 : decode cX11_findCheapest 139 = .ok (.iconst 0, 1) := by decide +kernel
theorem dX11_findCheapest_140 : decode cX11_findCheapest 140 = .ok (.aaload, 1) := by decide +kernel
theorem dX11_findCheapest_141 : decode cX11_findCheapest 141 = .ok (.invokevirtual 201, 3) := by decide +kernel
theorem dX11_findCheapest_144 : decode cX11_findCheapest 144 = .ok (.ifCond .eq 123, 3) := by decide +kernel
theorem dX11_findCheapest_147 : decode cX11_findCheapest 147 = .ok (.aload_n 0, 1) := by decide +kernel
theorem dX11_findCheapest_148 : decode cX11_findCheapest 148 = .ok (.getfield 10, 3) := by decide +kernel
theorem dX11_findCheapest_151 : decode cX11_findCheapest 151 = .ok (.iload_n 1, 1) := by decide +kernel
theorem dX11_findCheapest_152 : decode cX11_findCheapest 152 = .ok (.aload_n 0, 1) := by decide +kernel
theorem dX11_findCheapest_153 : decode cX11_findCheapest 153 = .ok (.getfield 52, 3) := by decide +kernel
theorem dX11_findCheapest_156 : decode cX11_findCheapest 156 = .ok (.getfield 163, 3) := by decide +kernel
theorem dX11_findCheapest_159 : decode cX11_findCheapest 159 = .ok (.aload_n 0, 1) := by decide +kernel
theorem dX11_findCheapest_160 : decode cX11_findCheapest 160 = .ok (.getfield 59, 3) := by decide +kernel
theorem dX11_findCheapest_163 : decode cX11_findCheapest 163 = .ok (.getfield 163, 3) := by decide +kernel
theorem dX11_findCheapest_166 : decode cX11_findCheapest 166 = .ok (.iadd, 1) := by decide +kernel
theorem dX11_findCheapest_167 : decode cX11_findCheapest 167 = .ok (.aload_n 0, 1) := by decide +kernel
theorem dX11_findCheapest_168 : decode cX11_findCheapest 168 = .ok (.getfield 52, 3) := by decide +kernel
theorem dX11_findCheapest_171 : decode cX11_findCheapest 171 = .ok (.getfield 160, 3) := by decide +kernel
theorem dX11_findCheapest_174 : decode cX11_findCheapest 174 = .ok (.aload_n 0, 1) := by decide +kernel
theorem dX11_findCheapest_175 : decode cX11_findCheapest 175 = .ok (.getfield 59, 3) := by decide +kernel
theorem dX11_findCheapest_178 : decode cX11_findCheapest 178 = .ok (.getfield 160, 3) := by decide +kernel
theorem dX11_findCheapest_181 : decode cX11_findCheapest 181 = .ok (.iadd, 1) := by decide +kernel
theorem dX11_findCheapest_182 : decode cX11_findCheapest 182 = .ok (.invokevirtual 127, 3) := by decide +kernel
theorem dX11_findCheapest_185 : decode cX11_findCheapest 185 = .ok (.istore 5, 2) := by decide +kernel
theorem dX11_findCheapest_187 : decode cX11_findCheapest 187 = .ok (.iload 5, 2) := by decide +kernel
theorem dX11_findCheapest_189 : decode cX11_findCheapest 189 = .ok (.aload_n 0, 1) := by decide +kernel
theorem dX11_findCheapest_190 : decode cX11_findCheapest 190 = .ok (.getfield 59, 3) := by decide +kernel
theorem dX11_findCheapest_193 : decode cX11_findCheapest 193 = .ok (.aload_n 0, 1) := by decide +kernel
theorem dX11_findCheapest_194 : decode cX11_findCheapest 194 = .ok (.getfield 65, 3) := by decide +kernel
theorem dX11_findCheapest_197 : decode cX11_findCheapest 197 = .ok (.invokevirtual 166, 3) := by decide +kernel
theorem dX11_findCheapest_200 : decode cX11_findCheapest 200 = .ok (.isub, 1) := by decide +kernel
theorem dX11_findCheapest_201 : decode cX11_findCheapest 201 = .ok (.istore 6, 2) := by decide +kernel
theorem dX11_findCheapest_203 : decode cX11_findCheapest 203 = .ok (.iload 6, 2) := by decide +kernel
theorem dX11_findCheapest_205 : decode cX11_findCheapest 205 = .ok (.aload_n 0, 1) := by decide +kernel
theorem dX11_findCheapest_206 : decode cX11_findCheapest 206 = .ok (.getfield 74, 3) := by decide +kernel
theorem dX11_findCheapest_209 : decode cX11_findCheapest 209 = .ok (.if_icmp .lt 29, 3) := by decide +kernel
theorem dX11_findCheapest_212 : decode cX11_findCheapest 212 = .ok (.iload 6, 2) := by decide +kernel
theorem dX11_findCheapest_214 : decode cX11_findCheapest 214 = .ok (.aload_n 0, 1) := by decide +kernel
theorem dX11_findCheapest_215 : decode cX11_findCheapest 215 = .ok (.getfield 74, 3) := by decide +kernel
theorem dX11_findCheapest_218 : decode cX11_findCheapest 218 = .ok (.if_icmp .ne 43, 3) := by decide +kernel
theorem dX11_findCheapest_221 : decode cX11_findCheapest 221 = .ok (.aload_n 0, 1) := by decide +kernel
theorem dX11_findCheapest_222 : decode cX11_findCheapest 222 = .ok (.getfield 59, 3) := by decide +kernel
theorem dX11_findCheapest_225 : decode cX11_findCheapest 225 = .ok (.getfield 160, 3) := by decide +kernel
theorem dX11_findCheapest_228 : decode cX11_findCheapest 228 = .ok (.aload_n 0, 1) := by decide +kernel
theorem dX11_findCheapest_229 : decode cX11_findCheapest 229 = .ok (.getfield 68, 3) := by decide +kernel
theorem dX11_findCheapest_232 : decode cX11_findCheapest 232 = .ok (.getfield 160, 3) := by decide +kernel
theorem dX11_findCheapest_235 : decode cX11_findCheapest 235 = .ok (.if_icmp .ge 26, 3) := by decide +kernel
theorem dX11_findCheapest_238 : decode cX11_findCheapest 238 = .ok (.aload_n 0, 1) := by decide +kernel
theorem dX11_findCheapest_239 : decode cX11_findCheapest 239 = .ok (.getfield 68, 3) := by decide +kernel
theorem dX11_findCheapest_242 : decode cX11_findCheapest 242 = .ok (.aload_n 0, 1) := by decide +kernel
theorem dX11_findCheapest_243 : decode cX11_findCheapest 243 = .ok (.getfield 59, 3) := by decide +kernel
theorem dX11_findCheapest_246 : decode cX11_findCheapest 246 = .ok (.invokevirtual 306, 3) := by decide +kernel
theorem dX11_findCheapest_249 : decode cX11_findCheapest 249 = .ok (.aload_n 0, 1) := by decide +kernel
theorem dX11_findCheapest_250 : decode cX11_findCheapest 250 = .ok (.iload 5, 2) := by decide +kernel
theorem dX11_findCheapest_252 : decode cX11_findCheapest 252 = .ok (.putfield 71, 3) := by decide +kernel
theorem dX11_findCheapest_255 : decode cX11_findCheapest 255 = .ok (.aload_n 0, 1) := by decide +kernel
theorem dX11_findCheapest_256 : decode cX11_findCheapest 256 = .ok (.iload 6, 2) := by decide +kernel
theorem dX11_findCheapest_258 : decode cX11_findCheapest 258 = .ok (.putfield 74, 3) := by decide +kernel
theorem dX11_findCheapest_261 : decode cX11_findCheapest 261 = .ok (.iinc 4 1, 3) := by decide +kernel
theorem dX11_findCheapest_264 : decode cX11_findCheapest 264 = .ok (.goto (-148), 3) := by decide +kernel
theorem dX11_findCheapest_267 : decode cX11_findCheapest 267 = .ok (.return_, 1) := by decide +kernel
theorem dX11_paidIfDearer_0 : decode cX11_paidIfDearer 0 = .ok (.aload_n 0, 1) := by decide +kernel
theorem dX11_paidIfDearer_1 : decode cX11_paidIfDearer 1 = .ok (.getfield 10, 3) := by decide +kernel
theorem dX11_paidIfDearer_4 : decode cX11_paidIfDearer 4 = .ok (.getfield 93, 3) := by decide +kernel
theorem dX11_paidIfDearer_7 : decode cX11_paidIfDearer 7 = .ok (.iconst 0, 1) := by decide +kernel
theorem dX11_paidIfDearer_8 : decode cX11_paidIfDearer 8 = .ok (.aaload, 1) := by decide +kernel
theorem dX11_paidIfDearer_9 : decode cX11_paidIfDearer 9 = .ok (.astore 5, 2) := by decide +kernel
theorem dX11_paidIfDearer_11 : decode cX11_paidIfDearer 11 = .ok (.aload 5, 2) := by decide +kernel
theorem dX11_paidIfDearer_13 : decode cX11_paidIfDearer 13 = .ok (.iload_n 3, 1) := by decide +kernel
theorem dX11_paidIfDearer_14 : decode cX11_paidIfDearer 14 = .ok (.iaload, 1) := by decide +kernel
theorem dX11_paidIfDearer_15 : decode cX11_paidIfDearer 15 = .ok (.istore 6, 2) := by decide +kernel
theorem dX11_paidIfDearer_17 : decode cX11_paidIfDearer 17 = .ok (.iconst 0, 1) := by decide +kernel
theorem dX11_paidIfDearer_18 : decode cX11_paidIfDearer 18 = .ok (.iload 6, 2) := by decide +kernel
theorem dX11_paidIfDearer_20 : decode cX11_paidIfDearer 20 = .ok (.iload 4, 2) := by decide +kernel
theorem dX11_paidIfDearer_22 : decode cX11_paidIfDearer 22 = .ok (.iadd, 1) := by decide +kernel
theorem dX11_paidIfDearer_23 : decode cX11_paidIfDearer 23 = .ok (.invokestatic 85, 3) := by decide +kernel
theorem dX11_paidIfDearer_26 : decode cX11_paidIfDearer 26 = .ok (.ifCond .ne 5, 3) := by decide +kernel
theorem dX11_paidIfDearer_29 : decode cX11_paidIfDearer 29 = .ok (.iconst (-1), 1) := by decide +kernel
theorem dX11_paidIfDearer_30 : decode cX11_paidIfDearer 30 = .ok (.ireturn, 1) := by decide +kernel
theorem dX11_paidIfDearer_31 : decode cX11_paidIfDearer 31 = .ok (.aload 5, 2) := by decide +kernel
theorem dX11_paidIfDearer_33 : decode cX11_paidIfDearer 33 = .ok (.iload_n 3, 1) := by decide +kernel
theorem dX11_paidIfDearer_34 : decode cX11_paidIfDearer 34 = .ok (.iload 6, 2) := by decide +kernel
theorem dX11_paidIfDearer_36 : decode cX11_paidIfDearer 36 = .ok (.iload 4, 2) := by decide +kernel
theorem dX11_paidIfDearer_38 : decode cX11_paidIfDearer 38 = .ok (.iadd, 1) := by decide +kernel
theorem dX11_paidIfDearer_39 : decode cX11_paidIfDearer 39 = .ok (.iastore, 1) := by decide +kernel
theorem dX11_paidIfDearer_40 : decode cX11_paidIfDearer 40 = .ok (.aload_n 0, 1) := by decide +kernel
theorem dX11_paidIfDearer_41 : decode cX11_paidIfDearer 41 = .ok (.getfield 52, 3) := by decide +kernel
theorem dX11_paidIfDearer_44 : decode cX11_paidIfDearer 44 = .ok (.aload 5, 2) := by decide +kernel
theorem dX11_paidIfDearer_46 : decode cX11_paidIfDearer 46 = .ok (.invokevirtual 189, 3) := by decide +kernel
theorem dX11_paidIfDearer_49 : decode cX11_paidIfDearer 49 = .ok (.aload_n 0, 1) := by decide +kernel
theorem dX11_paidIfDearer_50 : decode cX11_paidIfDearer 50 = .ok (.iload_n 1, 1) := by decide +kernel
theorem dX11_paidIfDearer_51 : decode cX11_paidIfDearer 51 = .ok (.iload_n 2, 1) := by decide +kernel
theorem dX11_paidIfDearer_52 : decode cX11_paidIfDearer 52 = .ok (.invokevirtual 196, 3) := by decide +kernel
theorem dX11_paidIfDearer_55 : decode cX11_paidIfDearer 55 = .ok (.aload 5, 2) := by decide +kernel
theorem dX11_paidIfDearer_57 : decode cX11_paidIfDearer 57 = .ok (.iload_n 3, 1) := by decide +kernel
theorem dX11_paidIfDearer_58 : decode cX11_paidIfDearer 58 = .ok (.iload 6, 2) := by decide +kernel
theorem dX11_paidIfDearer_60 : decode cX11_paidIfDearer 60 = .ok (.iastore, 1) := by decide +kernel
theorem dX11_paidIfDearer_61 : decode cX11_paidIfDearer 61 = .ok (.aload_n 0, 1) := by decide +kernel
theorem dX11_paidIfDearer_62 : decode cX11_paidIfDearer 62 = .ok (.getfield 71, 3) := by decide +kernel
theorem dX11_paidIfDearer_65 : decode cX11_paidIfDearer 65 = .ok (.ireturn, 1) := by decide +kernel
theorem dX11_allByNine_0 : decode cX11_allByNine 0 = .ok (.iconst 0, 1) := by decide +kernel
theorem dX11_allByNine_1 : decode cX11_allByNine 1 = .ok (.istore_n 1, 1) := by decide +kernel
theorem dX11_allByNine_2 : decode cX11_allByNine 2 = .ok (.iload_n 1, 1) := by decide +kernel
theorem dX11_allByNine_3 : decode cX11_allByNine 3 = .ok (.bipush 8, 2) := by decide +kernel
theorem dX11_allByNine_5 : decode cX11_allByNine 5 = .ok (.if_icmp .ge 28, 3) := by decide +kernel
theorem dX11_allByNine_8 : decode cX11_allByNine 8 = .ok (.aload_n 0, 1) := by decide +kernel
theorem dX11_allByNine_9 : decode cX11_allByNine 9 = .ok (.getfield 10, 3) := by decide +kernel
theorem dX11_allByNine_12 : decode cX11_allByNine 12 = .ok (.getfield 93, 3) := by decide +kernel
theorem dX11_allByNine_15 : decode cX11_allByNine 15 = .ok (.iconst 0, 1) := by decide +kernel
theorem dX11_allByNine_16 : decode cX11_allByNine 16 = .ok (.aaload, 1) := by decide +kernel
theorem dX11_allByNine_17 : decode cX11_allByNine 17 = .ok (.iload_n 1, 1) := by decide +kernel
theorem dX11_allByNine_18 : decode cX11_allByNine 18 = .ok (.iaload, 1) := by decide +kernel
theorem dX11_allByNine_19 : decode cX11_allByNine 19 = .ok (.bipush 9, 2) := by decide +kernel
theorem dX11_allByNine_21 : decode cX11_allByNine 21 = .ok (.irem, 1) := by decide +kernel
theorem dX11_allByNine_22 : decode cX11_allByNine 22 = .ok (.ifCond .eq 5, 3) := by decide +kernel
theorem dX11_allByNine_25 : decode cX11_allByNine 25 = .ok (.iconst 0, 1) := by decide +kernel
theorem dX11_allByNine_26 : decode cX11_allByNine 26 = .ok (.ireturn, 1) := by decide +kernel
theorem dX11_allByNine_27 : decode cX11_allByNine 27 = .ok (.iinc 1 1, 3) := by decide +kernel
theorem dX11_allByNine_30 : decode cX11_allByNine 30 = .ok (.goto (-28), 3) := by decide +kernel
theorem dX11_allByNine_33 : decode cX11_allByNine 33 = .ok (.iconst 1, 1) := by decide +kernel
theorem dX11_allByNine_34 : decode cX11_allByNine 34 = .ok (.ireturn, 1) := by decide +kernel
theorem dX11_startFew_0 : decode cX11_startFew 0 = .ok (.aload_n 0, 1) := by decide +kernel
theorem dX11_startFew_1 : decode cX11_startFew 1 = .ok (.getfield 59, 3) := by decide +kernel
theorem dX11_startFew_4 : decode cX11_startFew 4 = .ok (.invokevirtual 183, 3) := by decide +kernel
theorem dX11_startFew_7 : decode cX11_startFew 7 = .ok (.iconst 0, 1) := by decide +kernel
theorem dX11_startFew_8 : decode cX11_startFew 8 = .ok (.istore_n 1, 1) := by decide +kernel
theorem dX11_startFew_9 : decode cX11_startFew 9 = .ok (.iload_n 1, 1) := by decide +kernel
theorem dX11_startFew_10 : decode cX11_startFew 10 = .ok (.bipush 8, 2) := by decide +kernel
theorem dX11_startFew_12 : decode cX11_startFew 12 = .ok (.if_icmp .ge 16, 3) := by decide +kernel
theorem dX11_startFew_15 : decode cX11_startFew 15 = .ok (.aload_n 0, 1) := by decide +kernel
theorem dX11_startFew_16 : decode cX11_startFew 16 = .ok (.getfield 62, 3) := by decide +kernel
theorem dX11_startFew_19 : decode cX11_startFew 19 = .ok (.iload_n 1, 1) := by decide +kernel
theorem dX11_startFew_20 : decode cX11_startFew 20 = .ok (.iconst 3, 1) := by decide +kernel
theorem dX11_startFew_21 : decode cX11_startFew 21 = .ok (.iastore, 1) := by decide +kernel
theorem dX11_startFew_22 : decode cX11_startFew 22 = .ok (.iinc 1 1, 3) := by decide +kernel
theorem dX11_startFew_25 : decode cX11_startFew 25 = .ok (.goto (-16), 3) := by decide +kernel
theorem dX11_startFew_28 : decode cX11_startFew 28 = .ok (.return_, 1) := by decide +kernel
theorem dX11_leastOfFew_0 : decode cX11_leastOfFew 0 = .ok (.sipush 9999, 3) := by decide +kernel
theorem dX11_leastOfFew_3 : decode cX11_leastOfFew 3 = .ok (.istore_n 2, 1) := by decide +kernel
theorem dX11_leastOfFew_4 : decode cX11_leastOfFew 4 = .ok (.aload_n 0, 1) := by decide +kernel
theorem dX11_leastOfFew_5 : decode cX11_leastOfFew 5 = .ok (.invokevirtual 233, 3) := by decide +kernel
theorem dX11_leastOfFew_8 : decode cX11_leastOfFew 8 = .ok (.iconst 0, 1) := by decide +kernel
theorem dX11_leastOfFew_9 : decode cX11_leastOfFew 9 = .ok (.istore_n 3, 1) := by decide +kernel
theorem dX11_leastOfFew_10 : decode cX11_leastOfFew 10 = .ok (.iload_n 3, 1) := by decide +kernel
theorem dX11_leastOfFew_11 : decode cX11_leastOfFew 11 = .ok (.ldc 200, 2) := by decide +kernel
theorem dX11_leastOfFew_13 : decode cX11_leastOfFew 13 = .ok (.if_icmp .ge 60, 3) := by decide +kernel
theorem dX11_leastOfFew_16 : decode cX11_leastOfFew 16 = .ok (.aload_n 0, 1) := by decide +kernel
theorem dX11_leastOfFew_17 : decode cX11_leastOfFew 17 = .ok (.getfield 59, 3) := by decide +kernel
theorem dX11_leastOfFew_20 : decode cX11_leastOfFew 20 = .ok (.aload_n 0, 1) := by decide +kernel
theorem dX11_leastOfFew_21 : decode cX11_leastOfFew 21 = .ok (.getfield 62, 3) := by decide +kernel
theorem dX11_leastOfFew_24 : decode cX11_leastOfFew 24 = .ok (.iconst 3, 1) := by decide +kernel
theorem dX11_leastOfFew_25 : decode cX11_leastOfFew 25 = .ok (.aload_n 0, 1) := by decide +kernel
theorem dX11_leastOfFew_26 : decode cX11_leastOfFew 26 = .ok (.getfield 10, 3) := by decide +kernel
theorem dX11_leastOfFew_29 : decode cX11_leastOfFew 29 = .ok (.getfield 93, 3) := by decide +kernel
theorem dX11_leastOfFew_32 : decode cX11_leastOfFew 32 = .ok (.iconst 0, 1) := by decide +kernel
theorem dX11_leastOfFew_33 : decode cX11_leastOfFew 33 = .ok (.aaload, 1) := by decide +kernel
theorem dX11_leastOfFew_34 : decode cX11_leastOfFew 34 = .ok (.invokevirtual 201, 3) := by decide +kernel
theorem dX11_leastOfFew_37 : decode cX11_leastOfFew 37 = .ok (.ifCond .eq 36, 3) := by decide +kernel
theorem dX11_leastOfFew_40 : decode cX11_leastOfFew 40 = .ok (.iload_n 2, 1) := by decide +kernel
theorem dX11_leastOfFew_41 : decode cX11_leastOfFew 41 = .ok (.aload_n 0, 1) := by decide +kernel
theorem dX11_leastOfFew_42 : decode cX11_leastOfFew 42 = .ok (.getfield 10, 3) := by decide +kernel
theorem dX11_leastOfFew_45 : decode cX11_leastOfFew 45 = .ok (.iload_n 1, 1) := by decide +kernel
theorem dX11_leastOfFew_46 : decode cX11_leastOfFew 46 = .ok (.aload_n 0, 1) := by decide +kernel
theorem dX11_leastOfFew_47 : decode cX11_leastOfFew 47 = .ok (.getfield 59, 3) := by decide +kernel
theorem dX11_leastOfFew_50 : decode cX11_leastOfFew 50 = .ok (.getfield 163, 3) := by decide +kernel
theorem dX11_leastOfFew_53 : decode cX11_leastOfFew 53 = .ok (.aload_n 0, 1) := by decide +kernel
theorem dX11_leastOfFew_54 : decode cX11_leastOfFew 54 = .ok (.getfield 59, 3) := by decide +kernel
theorem dX11_leastOfFew_57 : decode cX11_leastOfFew 57 = .ok (.getfield 160, 3) := by decide +kernel
theorem dX11_leastOfFew_60 : decode cX11_leastOfFew 60 = .ok (.invokevirtual 127, 3) := by decide +kernel
theorem dX11_leastOfFew_63 : decode cX11_leastOfFew 63 = .ok (.invokestatic 205, 3) := by decide +kernel
theorem dX11_leastOfFew_66 : decode cX11_leastOfFew 66 = .ok (.istore_n 2, 1) := by decide +kernel
theorem dX11_leastOfFew_67 : decode cX11_leastOfFew 67 = .ok (.iinc 3 1, 3) := by decide +kernel
theorem dX11_leastOfFew_70 : decode cX11_leastOfFew 70 = .ok (.goto (-60), 3) := by decide +kernel
theorem dX11_leastOfFew_73 : decode cX11_leastOfFew 73 = .ok (.iload_n 2, 1) := by decide +kernel
theorem dX11_leastOfFew_74 : decode cX11_leastOfFew 74 = .ok (.ireturn, 1) := by decide +kernel
theorem dX11_tillOf_0 : decode cX11_tillOf 0 = .ok (.iload_n 0, 1) := by decide +kernel
theorem dX11_tillOf_1 : decode cX11_tillOf 1 = .ok (.tableswitch 99 1 6 #[39, 49, 59, 69, 79, 89], 39) := by decide +kernel
theorem dX11_tillOf_40 : decode cX11_tillOf 40 = .ok (.new 310, 3) := by decide +kernel
theorem dX11_tillOf_43 : decode cX11_tillOf 43 = .ok (.dup, 1) := by decide +kernel
theorem dX11_tillOf_44 : decode cX11_tillOf 44 = .ok (.iload_n 1, 1) := by decide +kernel
theorem dX11_tillOf_45 : decode cX11_tillOf 45 = .ok (.iload_n 2, 1) := by decide +kernel
theorem dX11_tillOf_46 : decode cX11_tillOf 46 = .ok (.invokespecial 312, 3) := by decide +kernel
theorem dX11_tillOf_49 : decode cX11_tillOf 49 = .ok (.areturn, 1) := by decide +kernel
theorem dX11_tillOf_50 : decode cX11_tillOf 50 = .ok (.new 314, 3) := by decide +kernel
theorem dX11_tillOf_53 : decode cX11_tillOf 53 = .ok (.dup, 1) := by decide +kernel
theorem dX11_tillOf_54 : decode cX11_tillOf 54 = .ok (.iload_n 1, 1) := by decide +kernel
theorem dX11_tillOf_55 : decode cX11_tillOf 55 = .ok (.iload_n 2, 1) := by decide +kernel
theorem dX11_tillOf_56 : decode cX11_tillOf 56 = .ok (.invokespecial 316, 3) := by decide +kernel
theorem dX11_tillOf_59 : decode cX11_tillOf 59 = .ok (.areturn, 1) := by decide +kernel
theorem dX11_tillOf_60 : decode cX11_tillOf 60 = .ok (.new 317, 3) := by decide +kernel
theorem dX11_tillOf_63 : decode cX11_tillOf 63 = .ok (.dup, 1) := by decide +kernel
theorem dX11_tillOf_64 : decode cX11_tillOf 64 = .ok (.iload_n 1, 1) := by decide +kernel
theorem dX11_tillOf_65 : decode cX11_tillOf 65 = .ok (.iload_n 2, 1) := by decide +kernel
theorem dX11_tillOf_66 : decode cX11_tillOf 66 = .ok (.invokespecial 319, 3) := by decide +kernel
theorem dX11_tillOf_69 : decode cX11_tillOf 69 = .ok (.areturn, 1) := by decide +kernel
theorem dX11_tillOf_70 : decode cX11_tillOf 70 = .ok (.new 320, 3) := by decide +kernel
theorem dX11_tillOf_73 : decode cX11_tillOf 73 = .ok (.dup, 1) := by decide +kernel
theorem dX11_tillOf_74 : decode cX11_tillOf 74 = .ok (.iload_n 1, 1) := by decide +kernel
theorem dX11_tillOf_75 : decode cX11_tillOf 75 = .ok (.iload_n 2, 1) := by decide +kernel
theorem dX11_tillOf_76 : decode cX11_tillOf 76 = .ok (.invokespecial 322, 3) := by decide +kernel
theorem dX11_tillOf_79 : decode cX11_tillOf 79 = .ok (.areturn, 1) := by decide +kernel
theorem dX11_tillOf_80 : decode cX11_tillOf 80 = .ok (.new 323, 3) := by decide +kernel
theorem dX11_tillOf_83 : decode cX11_tillOf 83 = .ok (.dup, 1) := by decide +kernel
theorem dX11_tillOf_84 : decode cX11_tillOf 84 = .ok (.iload_n 1, 1) := by decide +kernel
theorem dX11_tillOf_85 : decode cX11_tillOf 85 = .ok (.iload_n 2, 1) := by decide +kernel
theorem dX11_tillOf_86 : decode cX11_tillOf 86 = .ok (.invokespecial 325, 3) := by decide +kernel
theorem dX11_tillOf_89 : decode cX11_tillOf 89 = .ok (.areturn, 1) := by decide +kernel
theorem dX11_tillOf_90 : decode cX11_tillOf 90 = .ok (.new 326, 3) := by decide +kernel
theorem dX11_tillOf_93 : decode cX11_tillOf 93 = .ok (.dup, 1) := by decide +kernel
theorem dX11_tillOf_94 : decode cX11_tillOf 94 = .ok (.iload_n 1, 1) := by decide +kernel
theorem dX11_tillOf_95 : decode cX11_tillOf 95 = .ok (.iload_n 2, 1) := by decide +kernel
theorem dX11_tillOf_96 : decode cX11_tillOf 96 = .ok (.invokespecial 328, 3) := by decide +kernel
theorem dX11_tillOf_99 : decode cX11_tillOf 99 = .ok (.areturn, 1) := by decide +kernel
theorem dX11_tillOf_100 : decode cX11_tillOf 100 = .ok (.new 111, 3) := by decide +kernel
theorem dX11_tillOf_103 : decode cX11_tillOf 103 = .ok (.dup, 1) := by decide +kernel
theorem dX11_tillOf_104 : decode cX11_tillOf 104 = .ok (.iload_n 1, 1) := by decide +kernel
theorem dX11_tillOf_105 : decode cX11_tillOf 105 = .ok (.iload_n 2, 1) := by decide +kernel
theorem dX11_tillOf_106 : decode cX11_tillOf 106 = .ok (.invokespecial 329, 3) := by decide +kernel
theorem dX11_tillOf_109 : decode cX11_tillOf 109 = .ok (.areturn, 1) := by decide +kernel
theorem dJ9_max_7cf53_0 : decode cJ9_max_7cf53 0 = .ok (.iload_n 0, 1) := by decide +kernel
theorem dJ9_max_7cf53_1 : decode cJ9_max_7cf53 1 = .ok (.iload_n 1, 1) := by decide +kernel
theorem dJ9_max_7cf53_2 : decode cJ9_max_7cf53 2 = .ok (.if_icmp .lt 7, 3) := by decide +kernel
theorem dJ9_max_7cf53_5 : decode cJ9_max_7cf53 5 = .ok (.iload_n 0, 1) := by decide +kernel
theorem dJ9_max_7cf53_6 : decode cJ9_max_7cf53 6 = .ok (.goto 4, 3) := by decide +kernel
theorem dJ9_max_7cf53_9 : decode cJ9_max_7cf53 9 = .ok (.iload_n 1, 1) := by decide +kernel
theorem dJ9_max_7cf53_10 : decode cJ9_max_7cf53 10 = .ok (.ireturn, 1) := by decide +kernel
theorem dJ9_min_7cf53_0 : decode cJ9_min_7cf53 0 = .ok (.iload_n 0, 1) := by decide +kernel
theorem dJ9_min_7cf53_1 : decode cJ9_min_7cf53 1 = .ok (.iload_n 1, 1) := by decide +kernel
theorem dJ9_min_7cf53_2 : decode cJ9_min_7cf53 2 = .ok (.if_icmp .gt 7, 3) := by decide +kernel
theorem dJ9_min_7cf53_5 : decode cJ9_min_7cf53 5 = .ok (.iload_n 0, 1) := by decide +kernel
theorem dJ9_min_7cf53_6 : decode cJ9_min_7cf53 6 = .ok (.goto 4, 3) := by decide +kernel
theorem dJ9_min_7cf53_9 : decode cJ9_min_7cf53 9 = .ok (.iload_n 1, 1) := by decide +kernel
theorem dJ9_min_7cf53_10 : decode cJ9_min_7cf53 10 = .ok (.ireturn, 1) := by decide +kernel
theorem dJ0_length_8abf5_0 : decode cJ0_length_8abf5 0 = .ok (.aload_n 0, 1) := by decide +kernel
theorem dJ0_length_8abf5_1 : decode cJ0_length_8abf5 1 = .ok (.getfield 9, 3) := by decide +kernel
theorem dJ0_length_8abf5_4 : decode cJ0_length_8abf5 4 = .ok (.arraylength, 1) := by decide +kernel
theorem dJ0_length_8abf5_5 : decode cJ0_length_8abf5 5 = .ok (.aload_n 0, 1) := by decide +kernel
theorem dJ0_length_8abf5_6 : decode cJ0_length_8abf5 6 = .ok (.invokevirtual 335, 3) := by decide +kernel
theorem dJ0_length_8abf5_9 : decode cJ0_length_8abf5 9 = .ok (.ishr, 1) := by decide +kernel
theorem dJ0_length_8abf5_10 : decode cJ0_length_8abf5 10 = .ok (.ireturn, 1) := by decide +kernel
theorem dJ0_charAt_5068e_0 : decode cJ0_charAt_5068e 0 = .ok (.aload_n 0, 1) := by decide +kernel
theorem dJ0_charAt_5068e_1 : decode cJ0_charAt_5068e 1 = .ok (.invokevirtual 492, 3) := by decide +kernel
theorem dJ0_charAt_5068e_4 : decode cJ0_charAt_5068e 4 = .ok (.ifCond .eq 12, 3) := by decide +kernel
theorem dJ0_charAt_5068e_7 : decode cJ0_charAt_5068e 7 = .ok (.aload_n 0, 1) := by decide +kernel
theorem dJ0_charAt_5068e_8 : decode cJ0_charAt_5068e 8 = .ok (.getfield 9, 3) := by decide +kernel
theorem dJ0_charAt_5068e_11 : decode cJ0_charAt_5068e 11 = .ok (.iload_n 1, 1) := by decide +kernel
theorem dJ0_charAt_5068e_12 : decode cJ0_charAt_5068e 12 = .ok (.invokestatic 495, 3) := by decide +kernel
theorem dJ0_charAt_5068e_15 : decode cJ0_charAt_5068e 15 = .ok (.ireturn, 1) := by decide +kernel
theorem dJ0_charAt_5068e_16 : decode cJ0_charAt_5068e 16 = .ok (.aload_n 0, 1) := by decide +kernel
theorem dJ0_charAt_5068e_17 : decode cJ0_charAt_5068e 17 = .ok (.getfield 9, 3) := by decide +kernel
theorem dJ0_charAt_5068e_20 : decode cJ0_charAt_5068e 20 = .ok (.iload_n 1, 1) := by decide +kernel
theorem dJ0_charAt_5068e_21 : decode cJ0_charAt_5068e 21 = .ok (.invokestatic 498, 3) := by decide +kernel
theorem dJ0_charAt_5068e_24 : decode cJ0_charAt_5068e 24 = .ok (.ireturn, 1) := by decide +kernel
theorem dJ0_coder_7d493_0 : decode cJ0_coder_7d493 0 = .ok (.getstatic 38, 3) := by decide +kernel
theorem dJ0_coder_7d493_3 : decode cJ0_coder_7d493 3 = .ok (.ifCond .eq 10, 3) := by decide +kernel
theorem dJ0_coder_7d493_6 : decode cJ0_coder_7d493 6 = .ok (.aload_n 0, 1) := by decide +kernel
theorem dJ0_coder_7d493_7 : decode cJ0_coder_7d493 7 = .ok (.getfield 15, 3) := by decide +kernel
theorem dJ0_coder_7d493_10 : decode cJ0_coder_7d493 10 = .ok (.goto 4, 3) := by decide +kernel
theorem dJ0_coder_7d493_13 : decode cJ0_coder_7d493 13 = .ok (.iconst 1, 1) := by decide +kernel
theorem dJ0_coder_7d493_14 : decode cJ0_coder_7d493 14 = .ok (.ireturn, 1) := by decide +kernel
theorem dJ0_isLatin1_aae02_0 : decode cJ0_isLatin1_aae02 0 = .ok (.getstatic 38, 3) := by decide +kernel
theorem dJ0_isLatin1_aae02_3 : decode cJ0_isLatin1_aae02 3 = .ok (.ifCond .eq 14, 3) := by decide +kernel
theorem dJ0_isLatin1_aae02_6 : decode cJ0_isLatin1_aae02 6 = .ok (.aload_n 0, 1) := by decide +kernel
theorem dJ0_isLatin1_aae02_7 : decode cJ0_isLatin1_aae02 7 = .ok (.getfield 15, 3) := by decide +kernel
theorem dJ0_isLatin1_aae02_10 : decode cJ0_isLatin1_aae02 10 = .ok (.ifCond .ne 7, 3) := by decide +kernel
theorem dJ0_isLatin1_aae02_13 : decode cJ0_isLatin1_aae02 13 = .ok (.iconst 1, 1) := by decide +kernel
theorem dJ0_isLatin1_aae02_14 : decode cJ0_isLatin1_aae02 14 = .ok (.goto 4, 3) := by decide +kernel
theorem dJ0_isLatin1_aae02_17 : decode cJ0_isLatin1_aae02 17 = .ok (.iconst 0, 1) := by decide +kernel
theorem dJ0_isLatin1_aae02_18 : decode cJ0_isLatin1_aae02 18 = .ok (.ireturn, 1) := by decide +kernel
theorem dJ0_checkIndex_df160_0 : decode cJ0_checkIndex_df160 0 = .ok (.iload_n 0, 1) := by decide +kernel
theorem dJ0_checkIndex_df160_1 : decode cJ0_checkIndex_df160 1 = .ok (.iload_n 1, 1) := by decide +kernel
theorem dJ0_checkIndex_df160_2 : decode cJ0_checkIndex_df160 2 = .ok (.getstatic 1053, 3) := by decide +kernel
theorem dJ0_checkIndex_df160_5 : decode cJ0_checkIndex_df160 5 = .ok (.invokestatic 1059, 3) := by decide +kernel
theorem dJ0_checkIndex_df160_8 : decode cJ0_checkIndex_df160 8 = .ok (.pop, 1) := by decide +kernel
theorem dJ0_checkIndex_df160_9 : decode cJ0_checkIndex_df160 9 = .ok (.return_, 1) := by decide +kernel
theorem dJ1_charAt_3b067_0 : decode cJ1_charAt_3b067 0 = .ok (.iload_n 1, 1) := by decide +kernel
theorem dJ1_charAt_3b067_1 : decode cJ1_charAt_3b067 1 = .ok (.aload_n 0, 1) := by decide +kernel
theorem dJ1_charAt_3b067_2 : decode cJ1_charAt_3b067 2 = .ok (.arraylength, 1) := by decide +kernel
theorem dJ1_charAt_3b067_3 : decode cJ1_charAt_3b067 3 = .ok (.invokestatic 9, 3) := by decide +kernel
theorem dJ1_charAt_3b067_6 : decode cJ1_charAt_3b067 6 = .ok (.aload_n 0, 1) := by decide +kernel
theorem dJ1_charAt_3b067_7 : decode cJ1_charAt_3b067 7 = .ok (.iload_n 1, 1) := by decide +kernel
theorem dJ1_charAt_3b067_8 : decode cJ1_charAt_3b067 8 = .ok (.baload, 1) := by decide +kernel
theorem dJ1_charAt_3b067_9 : decode cJ1_charAt_3b067 9 = .ok (.sipush 255, 3) := by decide +kernel
theorem dJ1_charAt_3b067_12 : decode cJ1_charAt_3b067 12 = .ok (.iand, 1) := by decide +kernel
theorem dJ1_charAt_3b067_13 : decode cJ1_charAt_3b067 13 = .ok (.i2c, 1) := by decide +kernel
theorem dJ1_charAt_3b067_14 : decode cJ1_charAt_3b067 14 = .ok (.ireturn, 1) := by decide +kernel
theorem dJ2_getChar_3b067_0 : decode cJ2_getChar_3b067 0 = .ok (.getstatic 44, 3) := by decide +kernel
theorem dJ2_getChar_3b067_3 : decode cJ2_getChar_3b067 3 = .ok (.ifCond .ne 25, 3) := by decide +kernel
theorem dJ2_getChar_3b067_6 : decode cJ2_getChar_3b067 6 = .ok (.iload_n 1, 1) := by decide +kernel
theorem dJ2_getChar_3b067_7 : decode cJ2_getChar_3b067 7 = .ok (.ifCond .lt 11, 3) := by decide +kernel
theorem dJ2_getChar_3b067_10 : decode cJ2_getChar_3b067 10 = .ok (.iload_n 1, 1) := by decide +kernel
theorem dJ2_getChar_3b067_11 : decode cJ2_getChar_3b067 11 = .ok (.aload_n 0, 1) := by decide +kernel
theorem dJ2_getChar_3b067_12 : decode cJ2_getChar_3b067 12 = .ok (.invokestatic 48, 3) := by decide +kernel
theorem dJ2_getChar_3b067_15 : decode cJ2_getChar_3b067 15 = .ok (.if_icmp .lt 13, 3) := by decide +kernel
theorem dJ2_getChar_3b067_18 : decode cJ2_getChar_3b067 18 = .ok (.new 52, 3) := by decide +kernel
theorem dJ2_getChar_3b067_21 : decode cJ2_getChar_3b067 21 = .ok (.dup, 1) := by decide +kernel
theorem dJ2_getChar_3b067_22 : decode cJ2_getChar_3b067 22 = .ok (.ldc 54, 2) := by decide +kernel
theorem dJ2_getChar_3b067_24 : decode cJ2_getChar_3b067 24 = .ok (.invokespecial 56, 3) := by decide +kernel
theorem dJ2_getChar_3b067_27 : decode cJ2_getChar_3b067 27 = .ok (.athrow, 1) := by decide +kernel
theorem dJ2_getChar_3b067_28 : decode cJ2_getChar_3b067 28 = .ok (.iload_n 1, 1) := by decide +kernel
theorem dJ2_getChar_3b067_29 : decode cJ2_getChar_3b067 29 = .ok (.iconst 1, 1) := by decide +kernel
theorem dJ2_getChar_3b067_30 : decode cJ2_getChar_3b067 30 = .ok (.ishl, 1) := by decide +kernel
theorem dJ2_getChar_3b067_31 : decode cJ2_getChar_3b067 31 = .ok (.istore_n 1, 1) := by decide +kernel
theorem dJ2_getChar_3b067_32 : decode cJ2_getChar_3b067 32 = .ok (.aload_n 0, 1) := by decide +kernel
theorem dJ2_getChar_3b067_33 : decode cJ2_getChar_3b067 33 = .ok (.iload_n 1, 1) := by decide +kernel
theorem dJ2_getChar_3b067_34 : decode cJ2_getChar_3b067 34 = .ok (.iinc 1 1, 3) := by decide +kernel
theorem dJ2_getChar_3b067_37 : decode cJ2_getChar_3b067 37 = .ok (.baload, 1) := by decide +kernel
theorem dJ2_getChar_3b067_38 : decode cJ2_getChar_3b067 38 = .ok (.sipush 255, 3) := by decide +kernel
theorem dJ2_getChar_3b067_41 : decode cJ2_getChar_3b067 41 = .ok (.iand, 1) := by decide +kernel
theorem dJ2_getChar_3b067_42 : decode cJ2_getChar_3b067 42 = .ok (.getstatic 59, 3) := by decide +kernel
theorem dJ2_getChar_3b067_45 : decode cJ2_getChar_3b067 45 = .ok (.ishl, 1) := by decide +kernel
theorem dJ2_getChar_3b067_46 : decode cJ2_getChar_3b067 46 = .ok (.aload_n 0, 1) := by decide +kernel
theorem dJ2_getChar_3b067_47 : decode cJ2_getChar_3b067 47 = .ok (.iload_n 1, 1) := by decide +kernel
theorem dJ2_getChar_3b067_48 : decode cJ2_getChar_3b067 48 = .ok (.baload, 1) := by decide +kernel
theorem dJ2_getChar_3b067_49 : decode cJ2_getChar_3b067 49 = .ok (.sipush 255, 3) := by decide +kernel
theorem dJ2_getChar_3b067_52 : decode cJ2_getChar_3b067 52 = .ok (.iand, 1) := by decide +kernel
theorem dJ2_getChar_3b067_53 : decode cJ2_getChar_3b067 53 = .ok (.getstatic 63, 3) := by decide +kernel
theorem dJ2_getChar_3b067_56 : decode cJ2_getChar_3b067 56 = .ok (.ishl, 1) := by decide +kernel
theorem dJ2_getChar_3b067_57 : decode cJ2_getChar_3b067 57 = .ok (.ior, 1) := by decide +kernel
theorem dJ2_getChar_3b067_58 : decode cJ2_getChar_3b067 58 = .ok (.i2c, 1) := by decide +kernel
theorem dJ2_getChar_3b067_59 : decode cJ2_getChar_3b067 59 = .ok (.ireturn, 1) := by decide +kernel
theorem dJ2_length_9d52b_0 : decode cJ2_length_9d52b 0 = .ok (.aload_n 0, 1) := by decide +kernel
theorem dJ2_length_9d52b_1 : decode cJ2_length_9d52b 1 = .ok (.arraylength, 1) := by decide +kernel
theorem dJ2_length_9d52b_2 : decode cJ2_length_9d52b 2 = .ok (.iconst 1, 1) := by decide +kernel
theorem dJ2_length_9d52b_3 : decode cJ2_length_9d52b 3 = .ok (.ishr, 1) := by decide +kernel
theorem dJ2_length_9d52b_4 : decode cJ2_length_9d52b 4 = .ok (.ireturn, 1) := by decide +kernel
theorem dJ2_charAt_3b067_0 : decode cJ2_charAt_3b067 0 = .ok (.iload_n 1, 1) := by decide +kernel
theorem dJ2_charAt_3b067_1 : decode cJ2_charAt_3b067 1 = .ok (.aload_n 0, 1) := by decide +kernel
theorem dJ2_charAt_3b067_2 : decode cJ2_charAt_3b067 2 = .ok (.invokestatic 67, 3) := by decide +kernel
theorem dJ2_charAt_3b067_5 : decode cJ2_charAt_3b067 5 = .ok (.aload_n 0, 1) := by decide +kernel
theorem dJ2_charAt_3b067_6 : decode cJ2_charAt_3b067 6 = .ok (.iload_n 1, 1) := by decide +kernel
theorem dJ2_charAt_3b067_7 : decode cJ2_charAt_3b067 7 = .ok (.invokestatic 71, 3) := by decide +kernel
theorem dJ2_charAt_3b067_10 : decode cJ2_charAt_3b067 10 = .ok (.ireturn, 1) := by decide +kernel
theorem dJ2_checkIndex_2214a_0 : decode cJ2_checkIndex_2214a 0 = .ok (.iload_n 0, 1) := by decide +kernel
theorem dJ2_checkIndex_2214a_1 : decode cJ2_checkIndex_2214a 1 = .ok (.aload_n 1, 1) := by decide +kernel
theorem dJ2_checkIndex_2214a_2 : decode cJ2_checkIndex_2214a 2 = .ok (.invokestatic 48, 3) := by decide +kernel
theorem dJ2_checkIndex_2214a_5 : decode cJ2_checkIndex_2214a 5 = .ok (.invokestatic 414, 3) := by decide +kernel
theorem dJ2_checkIndex_2214a_8 : decode cJ2_checkIndex_2214a 8 = .ok (.return_, 1) := by decide +kernel
theorem dJ3_checkIndex_8e157_0 : decode cJ3_checkIndex_8e157 0 = .ok (.iload_n 0, 1) := by decide +kernel
theorem dJ3_checkIndex_8e157_1 : decode cJ3_checkIndex_8e157 1 = .ok (.ifCond .lt 8, 3) := by decide +kernel
theorem dJ3_checkIndex_8e157_4 : decode cJ3_checkIndex_8e157 4 = .ok (.iload_n 0, 1) := by decide +kernel
theorem dJ3_checkIndex_8e157_5 : decode cJ3_checkIndex_8e157 5 = .ok (.iload_n 1, 1) := by decide +kernel
theorem dJ3_checkIndex_8e157_6 : decode cJ3_checkIndex_8e157 6 = .ok (.if_icmp .lt 10, 3) := by decide +kernel
theorem dJ3_checkIndex_8e157_9 : decode cJ3_checkIndex_8e157 9 = .ok (.aload_n 2, 1) := by decide +kernel
theorem dJ3_checkIndex_8e157_10 : decode cJ3_checkIndex_8e157 10 = .ok (.iload_n 0, 1) := by decide +kernel
theorem dJ3_checkIndex_8e157_11 : decode cJ3_checkIndex_8e157 11 = .ok (.iload_n 1, 1) := by decide +kernel
theorem dJ3_checkIndex_8e157_12 : decode cJ3_checkIndex_8e157 12 = .ok (.invokestatic 95, 3) := by decide +kernel
theorem dJ3_checkIndex_8e157_15 : decode cJ3_checkIndex_8e157 15 = .ok (.athrow, 1) := by decide +kernel
theorem dJ3_checkIndex_8e157_16 : decode cJ3_checkIndex_8e157 16 = .ok (.iload_n 0, 1) := by decide +kernel
theorem dJ3_checkIndex_8e157_17 : decode cJ3_checkIndex_8e157 17 = .ok (.ireturn, 1) := by decide +kernel
