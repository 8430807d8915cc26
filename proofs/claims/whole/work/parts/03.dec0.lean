theorem dX0_init_0 : decode cX0_init 0 = .ok (.aload_n 0, 1) := by decide +kernel
theorem dX0_init_1 : decode cX0_init 1 = .ok (.invokespecial 3, 3) := by decide +kernel
theorem dX0_init_4 : decode cX0_init 4 = .ok (.aload_n 0, 1) := by decide +kernel
theorem dX0_init_5 : decode cX0_init 5 = .ok (.iload_n 1, 1) := by decide +kernel
theorem dX0_init_6 : decode cX0_init 6 = .ok (.iconst 0, 1) := by decide +kernel
theorem dX0_init_7 : decode cX0_init 7 = .ok (.invokestatic 9, 3) := by decide +kernel
theorem dX0_init_10 : decode cX0_init 10 = .ok (.newarray .int, 2) := by decide +kernel
theorem dX0_init_12 : decode cX0_init 12 = .ok (.putfield 15, 3) := by decide +kernel
theorem dX0_init_15 : decode cX0_init 15 = .ok (.aload_n 0, 1) := by decide +kernel
theorem dX0_init_16 : decode cX0_init 16 = .ok (.iconst 0, 1) := by decide +kernel
theorem dX0_init_17 : decode cX0_init 17 = .ok (.putfield 21, 3) := by decide +kernel
theorem dX0_init_20 : decode cX0_init 20 = .ok (.return_, 1) := by decide +kernel
theorem dX0_add_0 : decode cX0_add 0 = .ok (.aload_n 0, 1) := by decide +kernel
theorem dX0_add_1 : decode cX0_add 1 = .ok (.getfield 21, 3) := by decide +kernel
theorem dX0_add_4 : decode cX0_add 4 = .ok (.aload_n 0, 1) := by decide +kernel
theorem dX0_add_5 : decode cX0_add 5 = .ok (.getfield 15, 3) := by decide +kernel
theorem dX0_add_8 : decode cX0_add 8 = .ok (.arraylength, 1) := by decide +kernel
theorem dX0_add_9 : decode cX0_add 9 = .ok (.if_icmp .ge 27, 3) := by decide +kernel
theorem dX0_add_12 : decode cX0_add 12 = .ok (.aload_n 0, 1) := by decide +kernel
theorem dX0_add_13 : decode cX0_add 13 = .ok (.getfield 15, 3) := by decide +kernel
theorem dX0_add_16 : decode cX0_add 16 = .ok (.aload_n 0, 1) := by decide +kernel
theorem dX0_add_17 : decode cX0_add 17 = .ok (.getfield 21, 3) := by decide +kernel
theorem dX0_add_20 : decode cX0_add 20 = .ok (.iload_n 1, 1) := by decide +kernel
theorem dX0_add_21 : decode cX0_add 21 = .ok (.sipush 255, 3) := by decide +kernel
theorem dX0_add_24 : decode cX0_add 24 = .ok (.iand, 1) := by decide +kernel
theorem dX0_add_25 : decode cX0_add 25 = .ok (.iastore, 1) := by decide +kernel
theorem dX0_add_26 : decode cX0_add 26 = .ok (.aload_n 0, 1) := by decide +kernel
theorem dX0_add_27 : decode cX0_add 27 = .ok (.dup, 1) := by decide +kernel
theorem dX0_add_28 : decode cX0_add 28 = .ok (.getfield 21, 3) := by decide +kernel
theorem dX0_add_31 : decode cX0_add 31 = .ok (.iconst 1, 1) := by decide +kernel
theorem dX0_add_32 : decode cX0_add 32 = .ok (.iadd, 1) := by decide +kernel
theorem dX0_add_33 : decode cX0_add 33 = .ok (.putfield 21, 3) := by decide +kernel
theorem dX0_add_36 : decode cX0_add 36 = .ok (.return_, 1) := by decide +kernel
theorem dX0_addNumber_0 : decode cX0_addNumber 0 = .ok (.aload_n 0, 1) := by decide +kernel
theorem dX0_addNumber_1 : decode cX0_addNumber 1 = .ok (.iload_n 1, 1) := by decide +kernel
theorem dX0_addNumber_2 : decode cX0_addNumber 2 = .ok (.bipush 24, 2) := by decide +kernel
theorem dX0_addNumber_4 : decode cX0_addNumber 4 = .ok (.ishr, 1) := by decide +kernel
theorem dX0_addNumber_5 : decode cX0_addNumber 5 = .ok (.invokevirtual 25, 3) := by decide +kernel
theorem dX0_addNumber_8 : decode cX0_addNumber 8 = .ok (.aload_n 0, 1) := by decide +kernel
theorem dX0_addNumber_9 : decode cX0_addNumber 9 = .ok (.iload_n 1, 1) := by decide +kernel
theorem dX0_addNumber_10 : decode cX0_addNumber 10 = .ok (.bipush 16, 2) := by decide +kernel
theorem dX0_addNumber_12 : decode cX0_addNumber 12 = .ok (.ishr, 1) := by decide +kernel
theorem dX0_addNumber_13 : decode cX0_addNumber 13 = .ok (.invokevirtual 25, 3) := by decide +kernel
theorem dX0_addNumber_16 : decode cX0_addNumber 16 = .ok (.aload_n 0, 1) := by decide +kernel
theorem dX0_addNumber_17 : decode cX0_addNumber 17 = .ok (.iload_n 1, 1) := by decide +kernel
theorem dX0_addNumber_18 : decode cX0_addNumber 18 = .ok (.bipush 8, 2) := by decide +kernel
theorem dX0_addNumber_20 : decode cX0_addNumber 20 = .ok (.ishr, 1) := by decide +kernel
theorem dX0_addNumber_21 : decode cX0_addNumber 21 = .ok (.invokevirtual 25, 3) := by decide +kernel
theorem dX0_addNumber_24 : decode cX0_addNumber 24 = .ok (.aload_n 0, 1) := by decide +kernel
theorem dX0_addNumber_25 : decode cX0_addNumber 25 = .ok (.iload_n 1, 1) := by decide +kernel
theorem dX0_addNumber_26 : decode cX0_addNumber 26 = .ok (.invokevirtual 25, 3) := by decide +kernel
theorem dX0_addNumber_29 : decode cX0_addNumber 29 = .ok (.return_, 1) := by decide +kernel
theorem dX0_at_0 : decode cX0_at 0 = .ok (.iload_n 1, 1) := by decide +kernel
theorem dX0_at_1 : decode cX0_at 1 = .ok (.ifCond .lt 20, 3) := by decide +kernel
theorem dX0_at_4 : decode cX0_at 4 = .ok (.iload_n 1, 1) := by decide +kernel
theorem dX0_at_5 : decode cX0_at 5 = .ok (.aload_n 0, 1) := by decide +kernel
theorem dX0_at_6 : decode cX0_at 6 = .ok (.getfield 21, 3) := by decide +kernel
theorem dX0_at_9 : decode cX0_at 9 = .ok (.if_icmp .ge 12, 3) := by decide +kernel
theorem dX0_at_12 : decode cX0_at 12 = .ok (.aload_n 0, 1) := by decide +kernel
theorem dX0_at_13 : decode cX0_at 13 = .ok (.getfield 15, 3) := by decide +kernel
theorem dX0_at_16 : decode cX0_at 16 = .ok (.iload_n 1, 1) := by decide +kernel
theorem dX0_at_17 : decode cX0_at 17 = .ok (.iaload, 1) := by decide +kernel
theorem dX0_at_18 : decode cX0_at 18 = .ok (.goto 4, 3) := by decide +kernel
theorem dX0_at_21 : decode cX0_at 21 = .ok (.iconst (-1), 1) := by decide +kernel
theorem dX0_at_22 : decode cX0_at 22 = .ok (.ireturn, 1) := by decide +kernel
theorem dX0_clear_0 : decode cX0_clear 0 = .ok (.aload_n 0, 1) := by decide +kernel
theorem dX0_clear_1 : decode cX0_clear 1 = .ok (.iconst 0, 1) := by decide +kernel
theorem dX0_clear_2 : decode cX0_clear 2 = .ok (.putfield 21, 3) := by decide +kernel
theorem dX0_clear_5 : decode cX0_clear 5 = .ok (.return_, 1) := by decide +kernel
theorem dX1_init_0 : decode cX1_init 0 = .ok (.aload_n 0, 1) := by decide +kernel
theorem dX1_init_1 : decode cX1_init 1 = .ok (.invokespecial 3, 3) := by decide +kernel
theorem dX1_init_4 : decode cX1_init 4 = .ok (.aload_n 0, 1) := by decide +kernel
theorem dX1_init_5 : decode cX1_init 5 = .ok (.new 9, 3) := by decide +kernel
theorem dX1_init_8 : decode cX1_init 8 = .ok (.dup, 1) := by decide +kernel
theorem dX1_init_9 : decode cX1_init 9 = .ok (.iconst 0, 1) := by decide +kernel
theorem dX1_init_10 : decode cX1_init 10 = .ok (.iconst (-1), 1) := by decide +kernel
theorem dX1_init_11 : decode cX1_init 11 = .ok (.invokespecial 11, 3) := by decide +kernel
theorem dX1_init_14 : decode cX1_init 14 = .ok (.putfield 14, 3) := by decide +kernel
theorem dX1_init_17 : decode cX1_init 17 = .ok (.aload_n 0, 1) := by decide +kernel
theorem dX1_init_18 : decode cX1_init 18 = .ok (.iconst (-1), 1) := by decide +kernel
theorem dX1_init_19 : decode cX1_init 19 = .ok (.putfield 20, 3) := by decide +kernel
theorem dX1_init_22 : decode cX1_init 22 = .ok (.aload_n 0, 1) := by decide +kernel
theorem dX1_init_23 : decode cX1_init 23 = .ok (.iconst 0, 1) := by decide +kernel
theorem dX1_init_24 : decode cX1_init 24 = .ok (.putfield 24, 3) := by decide +kernel
theorem dX1_init_27 : decode cX1_init 27 = .ok (.aload_n 0, 1) := by decide +kernel
theorem dX1_init_28 : decode cX1_init 28 = .ok (.iconst (-1), 1) := by decide +kernel
theorem dX1_init_29 : decode cX1_init 29 = .ok (.putfield 27, 3) := by decide +kernel
theorem dX1_init_32 : decode cX1_init 32 = .ok (.aload_n 0, 1) := by decide +kernel
theorem dX1_init_33 : decode cX1_init 33 = .ok (.iconst (-1), 1) := by decide +kernel
theorem dX1_init_34 : decode cX1_init 34 = .ok (.putfield 30, 3) := by decide +kernel
theorem dX1_init_37 : decode cX1_init 37 = .ok (.return_, 1) := by decide +kernel
theorem dX2_init_0 : decode cX2_init 0 = .ok (.aload_n 0, 1) := by decide +kernel
theorem dX2_init_1 : decode cX2_init 1 = .ok (.invokespecial 3, 3) := by decide +kernel
theorem dX2_init_4 : decode cX2_init 4 = .ok (.aload_n 0, 1) := by decide +kernel
theorem dX2_init_5 : decode cX2_init 5 = .ok (.bipush 40, 2) := by decide +kernel
theorem dX2_init_7 : decode cX2_init 7 = .ok (.anewarray 9, 3) := by decide +kernel
theorem dX2_init_10 : decode cX2_init 10 = .ok (.putfield 11, 3) := by decide +kernel
theorem dX2_init_13 : decode cX2_init 13 = .ok (.aload_n 0, 1) := by decide +kernel
theorem dX2_init_14 : decode cX2_init 14 = .ok (.iconst 0, 1) := by decide +kernel
theorem dX2_init_15 : decode cX2_init 15 = .ok (.putfield 17, 3) := by decide +kernel
theorem dX2_init_18 : decode cX2_init 18 = .ok (.aload_n 0, 1) := by decide +kernel
theorem dX2_init_19 : decode cX2_init 19 = .ok (.iconst 0, 1) := by decide +kernel
theorem dX2_init_20 : decode cX2_init 20 = .ok (.putfield 21, 3) := by decide +kernel
theorem dX2_init_23 : decode cX2_init 23 = .ok (.iconst 0, 1) := by decide +kernel
theorem dX2_init_24 : decode cX2_init 24 = .ok (.istore_n 1, 1) := by decide +kernel
theorem dX2_init_25 : decode cX2_init 25 = .ok (.iload_n 1, 1) := by decide +kernel
theorem dX2_init_26 : decode cX2_init 26 = .ok (.aload_n 0, 1) := by decide +kernel
theorem dX2_init_27 : decode cX2_init 27 = .ok (.getfield 11, 3) := by decide +kernel
theorem dX2_init_30 : decode cX2_init 30 = .ok (.arraylength, 1) := by decide +kernel
theorem dX2_init_31 : decode cX2_init 31 = .ok (.if_icmp .ge 22, 3) := by decide +kernel
theorem dX2_init_34 : decode cX2_init 34 = .ok (.aload_n 0, 1) := by decide +kernel
theorem dX2_init_35 : decode cX2_init 35 = .ok (.getfield 11, 3) := by decide +kernel
theorem dX2_init_38 : decode cX2_init 38 = .ok (.iload_n 1, 1) := by decide +kernel
theorem dX2_init_39 : decode cX2_init 39 = .ok (.new 9, 3) := by decide +kernel
theorem dX2_init_42 : decode cX2_init 42 = .ok (.dup, 1) := by decide +kernel
theorem dX2_init_43 : decode cX2_init 43 = .ok (.invokespecial 24, 3) := by decide +kernel
theorem dX2_init_46 : decode cX2_init 46 = .ok (.aastore, 1) := by decide +kernel
theorem dX2_init_47 : decode cX2_init 47 = .ok (.iinc 1 1, 3) := by decide +kernel
theorem dX2_init_50 : decode cX2_init 50 = .ok (.goto (-25), 3) := by decide +kernel
theorem dX2_init_53 : decode cX2_init 53 = .ok (.return_, 1) := by decide +kernel
theorem dX2_push_0 : decode cX2_push 0 = .ok (.aload_n 0, 1) := by decide +kernel
theorem dX2_push_1 : decode cX2_push 1 = .ok (.aload_n 0, 1) := by decide +kernel
theorem dX2_push_2 : decode cX2_push 2 = .ok (.getfield 17, 3) := by decide +kernel
theorem dX2_push_5 : decode cX2_push 5 = .ok (.invokevirtual 25, 3) := by decide +kernel
theorem dX2_push_8 : decode cX2_push 8 = .ok (.astore 6, 2) := by decide +kernel
theorem dX2_push_10 : decode cX2_push 10 = .ok (.aload 6, 2) := by decide +kernel
theorem dX2_push_12 : decode cX2_push 12 = .ok (.ifnonnull 4, 3) := by decide +kernel
theorem dX2_push_15 : decode cX2_push 15 = .ok (.return_, 1) := by decide +kernel
theorem dX2_push_16 : decode cX2_push 16 = .ok (.aload 6, 2) := by decide +kernel
theorem dX2_push_18 : decode cX2_push 18 = .ok (.iload_n 1, 1) := by decide +kernel
theorem dX2_push_19 : decode cX2_push 19 = .ok (.putfield 29, 3) := by decide +kernel
theorem dX2_push_22 : decode cX2_push 22 = .ok (.aload 6, 2) := by decide +kernel
theorem dX2_push_24 : decode cX2_push 24 = .ok (.iload_n 2, 1) := by decide +kernel
theorem dX2_push_25 : decode cX2_push 25 = .ok (.putfield 32, 3) := by decide +kernel
theorem dX2_push_28 : decode cX2_push 28 = .ok (.aload 6, 2) := by decide +kernel
theorem dX2_push_30 : decode cX2_push 30 = .ok (.iload_n 3, 1) := by decide +kernel
theorem dX2_push_31 : decode cX2_push 31 = .ok (.putfield 35, 3) := by decide +kernel
theorem dX2_push_34 : decode cX2_push 34 = .ok (.aload 6, 2) := by decide +kernel
theorem dX2_push_36 : decode cX2_push 36 = .ok (.iload 4, 2) := by decide +kernel
theorem dX2_push_38 : decode cX2_push 38 = .ok (.putfield 38, 3) := by decide +kernel
theorem dX2_push_41 : decode cX2_push 41 = .ok (.aload 5, 2) := by decide +kernel
theorem dX2_push_43 : decode cX2_push 43 = .ok (.ifnull 13, 3) := by decide +kernel
theorem dX2_push_46 : decode cX2_push 46 = .ok (.aload 6, 2) := by decide +kernel
theorem dX2_push_48 : decode cX2_push 48 = .ok (.getfield 41, 3) := by decide +kernel
theorem dX2_push_51 : decode cX2_push 51 = .ok (.aload 5, 2) := by decide +kernel
theorem dX2_push_53 : decode cX2_push 53 = .ok (.invokevirtual 45, 3) := by decide +kernel
theorem dX2_push_56 : decode cX2_push 56 = .ok (.aload_n 0, 1) := by decide +kernel
theorem dX2_push_57 : decode cX2_push 57 = .ok (.aload_n 0, 1) := by decide +kernel
theorem dX2_push_58 : decode cX2_push 58 = .ok (.getfield 17, 3) := by decide +kernel
theorem dX2_push_61 : decode cX2_push 61 = .ok (.iconst 1, 1) := by decide +kernel
theorem dX2_push_62 : decode cX2_push 62 = .ok (.iadd, 1) := by decide +kernel
theorem dX2_push_63 : decode cX2_push 63 = .ok (.bipush 40, 2) := by decide +kernel
theorem dX2_push_65 : decode cX2_push 65 = .ok (.if_icmp .ge 12, 3) := by decide +kernel
theorem dX2_push_68 : decode cX2_push 68 = .ok (.aload_n 0, 1) := by decide +kernel
theorem dX2_push_69 : decode cX2_push 69 = .ok (.getfield 17, 3) := by decide +kernel
theorem dX2_push_72 : decode cX2_push 72 = .ok (.iconst 1, 1) := by decide +kernel
theorem dX2_push_73 : decode cX2_push 73 = .ok (.iadd, 1) := by decide +kernel
theorem dX2_push_74 : decode cX2_push 74 = .ok (.goto 4, 3) := by decide +kernel
theorem dX2_push_77 : decode cX2_push 77 = .ok (.iconst 0, 1) := by decide +kernel
theorem dX2_push_78 : decode cX2_push 78 = .ok (.putfield 17, 3) := by decide +kernel
theorem dX2_push_81 : decode cX2_push 81 = .ok (.aload_n 0, 1) := by decide +kernel
theorem dX2_push_82 : decode cX2_push 82 = .ok (.aload_n 0, 1) := by decide +kernel
theorem dX2_push_83 : decode cX2_push 83 = .ok (.getfield 21, 3) := by decide +kernel
theorem dX2_push_86 : decode cX2_push 86 = .ok (.iconst 1, 1) := by decide +kernel
theorem dX2_push_87 : decode cX2_push 87 = .ok (.iadd, 1) := by decide +kernel
theorem dX2_push_88 : decode cX2_push 88 = .ok (.bipush 40, 2) := by decide +kernel
theorem dX2_push_90 : decode cX2_push 90 = .ok (.invokestatic 51, 3) := by decide +kernel
theorem dX2_push_93 : decode cX2_push 93 = .ok (.putfield 21, 3) := by decide +kernel
theorem dX2_push_96 : decode cX2_push 96 = .ok (.return_, 1) := by decide +kernel
theorem dX2_pop_0 : decode cX2_pop 0 = .ok (.aload_n 0, 1) := by decide +kernel
theorem dX2_pop_1 : decode cX2_pop 1 = .ok (.getfield 21, 3) := by decide +kernel
theorem dX2_pop_4 : decode cX2_pop 4 = .ok (.ifCond .gt 5, 3) := by decide +kernel
theorem dX2_pop_7 : decode cX2_pop 7 = .ok (.aconst_null, 1) := by decide +kernel
theorem dX2_pop_8 : decode cX2_pop 8 = .ok (.areturn, 1) := by decide +kernel
theorem dX2_pop_9 : decode cX2_pop 9 = .ok (.aload_n 0, 1) := by decide +kernel
theorem dX2_pop_10 : decode cX2_pop 10 = .ok (.aload_n 0, 1) := by decide +kernel
theorem dX2_pop_11 : decode cX2_pop 11 = .ok (.getfield 17, 3) := by decide +kernel
theorem dX2_pop_14 : decode cX2_pop 14 = .ok (.ifCond .le 12, 3) := by decide +kernel
theorem dX2_pop_17 : decode cX2_pop 17 = .ok (.aload_n 0, 1) := by decide +kernel
theorem dX2_pop_18 : decode cX2_pop 18 = .ok (.getfield 17, 3) := by decide +kernel
theorem dX2_pop_21 : decode cX2_pop 21 = .ok (.iconst 1, 1) := by decide +kernel
theorem dX2_pop_22 : decode cX2_pop 22 = .ok (.isub, 1) := by decide +kernel
theorem dX2_pop_23 : decode cX2_pop 23 = .ok (.goto 5, 3) := by decide +kernel
theorem dX2_pop_26 : decode cX2_pop 26 = .ok (.bipush 39, 2) := by decide +kernel
theorem dX2_pop_28 : decode cX2_pop 28 = .ok (.putfield 17, 3) := by decide +kernel
theorem dX2_pop_31 : decode cX2_pop 31 = .ok (.aload_n 0, 1) := by decide +kernel
theorem dX2_pop_32 : decode cX2_pop 32 = .ok (.dup, 1) := by decide +kernel
theorem dX2_pop_33 : decode cX2_pop 33 = .ok (.getfield 21, 3) := by decide +kernel
theorem dX2_pop_36 : decode cX2_pop 36 = .ok (.iconst 1, 1) := by decide +kernel
theorem dX2_pop_37 : decode cX2_pop 37 = .ok (.isub, 1) := by decide +kernel
theorem dX2_pop_38 : decode cX2_pop 38 = .ok (.putfield 21, 3) := by decide +kernel
theorem dX2_pop_41 : decode cX2_pop 41 = .ok (.aload_n 0, 1) := by decide +kernel
theorem dX2_pop_42 : decode cX2_pop 42 = .ok (.aload_n 0, 1) := by decide +kernel
theorem dX2_pop_43 : decode cX2_pop 43 = .ok (.getfield 17, 3) := by decide +kernel
theorem dX2_pop_46 : decode cX2_pop 46 = .ok (.invokevirtual 25, 3) := by decide +kernel
theorem dX2_pop_49 : decode cX2_pop 49 = .ok (.areturn, 1) := by decide +kernel
theorem dX2_changeAt_0 : decode cX2_changeAt 0 = .ok (.iload_n 1, 1) := by decide +kernel
theorem dX2_changeAt_1 : decode cX2_changeAt 1 = .ok (.ifCond .lt 21, 3) := by decide +kernel
theorem dX2_changeAt_4 : decode cX2_changeAt 4 = .ok (.iload_n 1, 1) := by decide +kernel
theorem dX2_changeAt_5 : decode cX2_changeAt 5 = .ok (.aload_n 0, 1) := by decide +kernel
theorem dX2_changeAt_6 : decode cX2_changeAt 6 = .ok (.getfield 11, 3) := by decide +kernel
theorem dX2_changeAt_9 : decode cX2_changeAt 9 = .ok (.arraylength, 1) := by decide +kernel
theorem dX2_changeAt_10 : decode cX2_changeAt 10 = .ok (.if_icmp .ge 12, 3) := by decide +kernel
theorem dX2_changeAt_13 : decode cX2_changeAt 13 = .ok (.aload_n 0, 1) := by decide +kernel
theorem dX2_changeAt_14 : decode cX2_changeAt 14 = .ok (.getfield 11, 3) := by decide +kernel
theorem dX2_changeAt_17 : decode cX2_changeAt 17 = .ok (.iload_n 1, 1) := by decide +kernel
theorem dX2_changeAt_18 : decode cX2_changeAt 18 = .ok (.aaload, 1) := by decide +kernel
theorem dX2_changeAt_19 : decode cX2_changeAt 19 = .ok (.goto 4, 3) := by decide +kernel
theorem dX2_changeAt_22 : decode cX2_changeAt 22 = .ok (.aconst_null, 1) := by decide +kernel
theorem dX2_changeAt_23 : decode cX2_changeAt 23 = .ok (.areturn, 1) := by decide +kernel
theorem dX3_init_0 : decode cX3_init 0 = .ok (.aload_n 0, 1) := by decide +kernel
theorem dX3_init_1 : decode cX3_init 1 = .ok (.invokespecial 3, 3) := by decide +kernel
theorem dX3_init_4 : decode cX3_init 4 = .ok (.aload_n 0, 1) := by decide +kernel
theorem dX3_init_5 : decode cX3_init 5 = .ok (.new 9, 3) := by decide +kernel
theorem dX3_init_8 : decode cX3_init 8 = .ok (.dup, 1) := by decide +kernel
theorem dX3_init_9 : decode cX3_init 9 = .ok (.iconst 2, 1) := by decide +kernel
theorem dX3_init_10 : decode cX3_init 10 = .ok (.bipush 11, 2) := by decide +kernel
theorem dX3_init_12 : decode cX3_init 12 = .ok (.invokespecial 11, 3) := by decide +kernel
theorem dX3_init_15 : decode cX3_init 15 = .ok (.putfield 14, 3) := by decide +kernel
theorem dX3_init_18 : decode cX3_init 18 = .ok (.aload_n 0, 1) := by decide +kernel
theorem dX3_init_19 : decode cX3_init 19 = .ok (.new 20, 3) := by decide +kernel
theorem dX3_init_22 : decode cX3_init 22 = .ok (.dup, 1) := by decide +kernel
theorem dX3_init_23 : decode cX3_init 23 = .ok (.invokespecial 22, 3) := by decide +kernel
theorem dX3_init_26 : decode cX3_init 26 = .ok (.putfield 23, 3) := by decide +kernel
theorem dX3_init_29 : decode cX3_init 29 = .ok (.aload_n 0, 1) := by decide +kernel
theorem dX3_init_30 : decode cX3_init 30 = .ok (.iload_n 1, 1) := by decide +kernel
theorem dX3_init_31 : decode cX3_init 31 = .ok (.putfield 27, 3) := by decide +kernel
theorem dX3_init_34 : decode cX3_init 34 = .ok (.aload_n 0, 1) := by decide +kernel
theorem dX3_init_35 : decode cX3_init 35 = .ok (.iload_n 2, 1) := by decide +kernel
theorem dX3_init_36 : decode cX3_init 36 = .ok (.putfield 31, 3) := by decide +kernel
theorem dX3_init_39 : decode cX3_init 39 = .ok (.aload_n 0, 1) := by decide +kernel
theorem dX3_init_40 : decode cX3_init 40 = .ok (.iload_n 3, 1) := by decide +kernel
theorem dX3_init_41 : decode cX3_init 41 = .ok (.putfield 34, 3) := by decide +kernel
theorem dX3_init_44 : decode cX3_init 44 = .ok (.aload_n 0, 1) := by decide +kernel
theorem dX3_init_45 : decode cX3_init 45 = .ok (.iload 4, 2) := by decide +kernel
theorem dX3_init_47 : decode cX3_init 47 = .ok (.putfield 37, 3) := by decide +kernel
theorem dX3_init_50 : decode cX3_init 50 = .ok (.iconst 0, 1) := by decide +kernel
theorem dX3_init_51 : decode cX3_init 51 = .ok (.istore 5, 2) := by decide +kernel
theorem dX3_init_53 : decode cX3_init 53 = .ok (.iload 5, 2) := by decide +kernel
theorem dX3_init_55 : decode cX3_init 55 = .ok (.bipush 11, 2) := by decide +kernel
theorem dX3_init_57 : decode cX3_init 57 = .ok (.if_icmp .ge 33, 3) := by decide +kernel
theorem dX3_init_60 : decode cX3_init 60 = .ok (.aload_n 0, 1) := by decide +kernel
theorem dX3_init_61 : decode cX3_init 61 = .ok (.getfield 14, 3) := by decide +kernel
theorem dX3_init_64 : decode cX3_init 64 = .ok (.iconst 0, 1) := by decide +kernel
theorem dX3_init_65 : decode cX3_init 65 = .ok (.iload 5, 2) := by decide +kernel
theorem dX3_init_67 : decode cX3_init 67 = .ok (.iload 5, 2) := by decide +kernel
theorem dX3_init_69 : decode cX3_init 69 = .ok (.invokevirtual 40, 3) := by decide +kernel
theorem dX3_init_72 : decode cX3_init 72 = .ok (.aload_n 0, 1) := by decide +kernel
theorem dX3_init_73 : decode cX3_init 73 = .ok (.getfield 14, 3) := by decide +kernel
theorem dX3_init_76 : decode cX3_init 76 = .ok (.iconst 1, 1) := by decide +kernel
theorem dX3_init_77 : decode cX3_init 77 = .ok (.iload 5, 2) := by decide +kernel
theorem dX3_init_79 : decode cX3_init 79 = .ok (.iload 5, 2) := by decide +kernel
theorem dX3_init_81 : decode cX3_init 81 = .ok (.invokevirtual 40, 3) := by decide +kernel
theorem dX3_init_84 : decode cX3_init 84 = .ok (.iinc 5 1, 3) := by decide +kernel
theorem dX3_init_87 : decode cX3_init 87 = .ok (.goto (-34), 3) := by decide +kernel
theorem dX3_init_90 : decode cX3_init 90 = .ok (.return_, 1) := by decide +kernel
theorem dX3_sideAt_0 : decode cX3_sideAt 0 = .ok (.iload_n 1, 1) := by decide +kernel
theorem dX3_sideAt_1 : decode cX3_sideAt 1 = .ok (.ifCond .ne 10, 3) := by decide +kernel
theorem dX3_sideAt_4 : decode cX3_sideAt 4 = .ok (.aload_n 0, 1) := by decide +kernel
theorem dX3_sideAt_5 : decode cX3_sideAt 5 = .ok (.getfield 27, 3) := by decide +kernel
theorem dX3_sideAt_8 : decode cX3_sideAt 8 = .ok (.goto 7, 3) := by decide +kernel
theorem dX3_sideAt_11 : decode cX3_sideAt 11 = .ok (.aload_n 0, 1) := by decide +kernel
theorem dX3_sideAt_12 : decode cX3_sideAt 12 = .ok (.getfield 31, 3) := by decide +kernel
theorem dX3_sideAt_15 : decode cX3_sideAt 15 = .ok (.ireturn, 1) := by decide +kernel
theorem dX3_playerAt_0 : decode cX3_playerAt 0 = .ok (.aload_n 0, 1) := by decide +kernel
theorem dX3_playerAt_1 : decode cX3_playerAt 1 = .ok (.getfield 14, 3) := by decide +kernel
theorem dX3_playerAt_4 : decode cX3_playerAt 4 = .ok (.iload_n 1, 1) := by decide +kernel
theorem dX3_playerAt_5 : decode cX3_playerAt 5 = .ok (.iload_n 2, 1) := by decide +kernel
theorem dX3_playerAt_6 : decode cX3_playerAt 6 = .ok (.invokevirtual 44, 3) := by decide +kernel
theorem dX3_playerAt_9 : decode cX3_playerAt 9 = .ok (.ireturn, 1) := by decide +kernel
theorem dX3_giveSeat_0 : decode cX3_giveSeat 0 = .ok (.aload_n 0, 1) := by decide +kernel
theorem dX3_giveSeat_1 : decode cX3_giveSeat 1 = .ok (.getfield 14, 3) := by decide +kernel
theorem dX3_giveSeat_4 : decode cX3_giveSeat 4 = .ok (.iload_n 1, 1) := by decide +kernel
theorem dX3_giveSeat_5 : decode cX3_giveSeat 5 = .ok (.iload_n 2, 1) := by decide +kernel
theorem dX3_giveSeat_6 : decode cX3_giveSeat 6 = .ok (.invokevirtual 44, 3) := by decide +kernel
theorem dX3_giveSeat_9 : decode cX3_giveSeat 9 = .ok (.istore 4, 2) := by decide +kernel
theorem dX3_giveSeat_11 : decode cX3_giveSeat 11 = .ok (.iconst 0, 1) := by decide +kernel
theorem dX3_giveSeat_12 : decode cX3_giveSeat 12 = .ok (.istore 5, 2) := by decide +kernel
theorem dX3_giveSeat_14 : decode cX3_giveSeat 14 = .ok (.iload 5, 2) := by decide +kernel
theorem dX3_giveSeat_16 : decode cX3_giveSeat 16 = .ok (.bipush 11, 2) := by decide +kernel
theorem dX3_giveSeat_18 : decode cX3_giveSeat 18 = .ok (.if_icmp .ge 35, 3) := by decide +kernel
theorem dX3_giveSeat_21 : decode cX3_giveSeat 21 = .ok (.aload_n 0, 1) := by decide +kernel
theorem dX3_giveSeat_22 : decode cX3_giveSeat 22 = .ok (.getfield 14, 3) := by decide +kernel
theorem dX3_giveSeat_25 : decode cX3_giveSeat 25 = .ok (.iload_n 1, 1) := by decide +kernel
theorem dX3_giveSeat_26 : decode cX3_giveSeat 26 = .ok (.iload 5, 2) := by decide +kernel
theorem dX3_giveSeat_28 : decode cX3_giveSeat 28 = .ok (.invokevirtual 44, 3) := by decide +kernel
theorem dX3_giveSeat_31 : decode cX3_giveSeat 31 = .ok (.iload_n 3, 1) := by decide +kernel
theorem dX3_giveSeat_32 : decode cX3_giveSeat 32 = .ok (.if_icmp .ne 15, 3) := by decide +kernel
theorem dX3_giveSeat_35 : decode cX3_giveSeat 35 = .ok (.aload_n 0, 1) := by decide +kernel
theorem dX3_giveSeat_36 : decode cX3_giveSeat 36 = .ok (.getfield 14, 3) := by decide +kernel
theorem dX3_giveSeat_39 : decode cX3_giveSeat 39 = .ok (.iload_n 1, 1) := by decide +kernel
theorem dX3_giveSeat_40 : decode cX3_giveSeat 40 = .ok (.iload 5, 2) := by decide +kernel
theorem dX3_giveSeat_42 : decode cX3_giveSeat 42 = .ok (.iload 4, 2) := by decide +kernel
theorem dX3_giveSeat_44 : decode cX3_giveSeat 44 = .ok (.invokevirtual 40, 3) := by decide +kernel
theorem dX3_giveSeat_47 : decode cX3_giveSeat 47 = .ok (.iinc 5 1, 3) := by decide +kernel
theorem dX3_giveSeat_50 : decode cX3_giveSeat 50 = .ok (.goto (-36), 3) := by decide +kernel
theorem dX3_giveSeat_53 : decode cX3_giveSeat 53 = .ok (.aload_n 0, 1) := by decide +kernel
theorem dX3_giveSeat_54 : decode cX3_giveSeat 54 = .ok (.getfield 14, 3) := by decide +kernel
theorem dX3_giveSeat_57 : decode cX3_giveSeat 57 = .ok (.iload_n 1, 1) := by decide +kernel
theorem dX3_giveSeat_58 : decode cX3_giveSeat 58 = .ok (.iload_n 2, 1) := by decide +kernel
theorem dX3_giveSeat_59 : decode cX3_giveSeat 59 = .ok (.iload_n 3, 1) := by decide +kernel
theorem dX3_giveSeat_60 : decode cX3_giveSeat 60 = .ok (.invokevirtual 40, 3) := by decide +kernel
theorem dX3_giveSeat_63 : decode cX3_giveSeat 63 = .ok (.return_, 1) := by decide +kernel
theorem dX3_turnCount_0 : decode cX3_turnCount 0 = .ok (.aload_n 0, 1) := by decide +kernel
theorem dX3_turnCount_1 : decode cX3_turnCount 1 = .ok (.getfield 23, 3) := by decide +kernel
theorem dX3_turnCount_4 : decode cX3_turnCount 4 = .ok (.invokevirtual 48, 3) := by decide +kernel
theorem dX3_turnCount_7 : decode cX3_turnCount 7 = .ok (.ireturn, 1) := by decide +kernel
theorem dX3_turnAt_0 : decode cX3_turnAt 0 = .ok (.iload_n 1, 1) := by decide +kernel
theorem dX3_turnAt_1 : decode cX3_turnAt 1 = .ok (.ifCond .lt 28, 3) := by decide +kernel
theorem dX3_turnAt_4 : decode cX3_turnAt 4 = .ok (.iload_n 1, 1) := by decide +kernel
theorem dX3_turnAt_5 : decode cX3_turnAt 5 = .ok (.aload_n 0, 1) := by decide +kernel
theorem dX3_turnAt_6 : decode cX3_turnAt 6 = .ok (.getfield 23, 3) := by decide +kernel
theorem dX3_turnAt_9 : decode cX3_turnAt 9 = .ok (.invokevirtual 48, 3) := by decide +kernel
theorem dX3_turnAt_12 : decode cX3_turnAt 12 = .ok (.if_icmp .ge 17, 3) := by decide +kernel
theorem dX3_turnAt_15 : decode cX3_turnAt 15 = .ok (.aload_n 0, 1) := by decide +kernel
theorem dX3_turnAt_16 : decode cX3_turnAt 16 = .ok (.getfield 23, 3) := by decide +kernel
theorem dX3_turnAt_19 : decode cX3_turnAt 19 = .ok (.iload_n 1, 1) := by decide +kernel
theorem dX3_turnAt_20 : decode cX3_turnAt 20 = .ok (.invokevirtual 52, 3) := by decide +kernel
theorem dX3_turnAt_23 : decode cX3_turnAt 23 = .ok (.checkcast 56, 3) := by decide +kernel
theorem dX3_turnAt_26 : decode cX3_turnAt 26 = .ok (.goto 4, 3) := by decide +kernel
theorem dX3_turnAt_29 : decode cX3_turnAt 29 = .ok (.aconst_null, 1) := by decide +kernel
theorem dX3_turnAt_30 : decode cX3_turnAt 30 = .ok (.areturn, 1) := by decide +kernel
theorem dX3_addTurn_0 : decode cX3_addTurn 0 = .ok (.aload_n 0, 1) := by decide +kernel
theorem dX3_addTurn_1 : decode cX3_addTurn 1 = .ok (.getfield 23, 3) := by decide +kernel
theorem dX3_addTurn_4 : decode cX3_addTurn 4 = .ok (.aload_n 1, 1) := by decide +kernel
theorem dX3_addTurn_5 : decode cX3_addTurn 5 = .ok (.invokevirtual 58, 3) := by decide +kernel
theorem dX3_addTurn_8 : decode cX3_addTurn 8 = .ok (.pop, 1) := by decide +kernel
theorem dX3_addTurn_9 : decode cX3_addTurn 9 = .ok (.return_, 1) := by decide +kernel
theorem dX3_overCountOf_0 : decode cX3_overCountOf 0 = .ok (.aload_n 0, 1) := by decide +kernel
theorem dX3_overCountOf_1 : decode cX3_overCountOf 1 = .ok (.iload_n 1, 1) := by decide +kernel
theorem dX3_overCountOf_2 : decode cX3_overCountOf 2 = .ok (.invokevirtual 62, 3) := by decide +kernel
theorem dX3_overCountOf_5 : decode cX3_overCountOf 5 = .ok (.astore_n 2, 1) := by decide +kernel
theorem dX3_overCountOf_6 : decode cX3_overCountOf 6 = .ok (.aload_n 2, 1) := by decide +kernel
theorem dX3_overCountOf_7 : decode cX3_overCountOf 7 = .ok (.ifnonnull 7, 3) := by decide +kernel
theorem dX3_overCountOf_10 : decode cX3_overCountOf 10 = .ok (.iconst 0, 1) := by decide +kernel
theorem dX3_overCountOf_11 : decode cX3_overCountOf 11 = .ok (.goto 7, 3) := by decide +kernel
theorem dX3_overCountOf_14 : decode cX3_overCountOf 14 = .ok (.aload_n 2, 1) := by decide +kernel
theorem dX3_overCountOf_15 : decode cX3_overCountOf 15 = .ok (.invokevirtual 66, 3) := by decide +kernel
theorem dX3_overCountOf_18 : decode cX3_overCountOf 18 = .ok (.ireturn, 1) := by decide +kernel
theorem dX3_overAt_0 : decode cX3_overAt 0 = .ok (.aload_n 0, 1) := by decide +kernel
theorem dX3_overAt_1 : decode cX3_overAt 1 = .ok (.iload_n 1, 1) := by decide +kernel
theorem dX3_overAt_2 : decode cX3_overAt 2 = .ok (.invokevirtual 62, 3) := by decide +kernel
theorem dX3_overAt_5 : decode cX3_overAt 5 = .ok (.astore_n 3, 1) := by decide +kernel
theorem dX3_overAt_6 : decode cX3_overAt 6 = .ok (.aload_n 3, 1) := by decide +kernel
theorem dX3_overAt_7 : decode cX3_overAt 7 = .ok (.ifnonnull 7, 3) := by decide +kernel
theorem dX3_overAt_10 : decode cX3_overAt 10 = .ok (.aconst_null, 1) := by decide +kernel
theorem dX3_overAt_11 : decode cX3_overAt 11 = .ok (.goto 8, 3) := by decide +kernel
theorem dX3_overAt_14 : decode cX3_overAt 14 = .ok (.aload_n 3, 1) := by decide +kernel
theorem dX3_overAt_15 : decode cX3_overAt 15 = .ok (.iload_n 2, 1) := by decide +kernel
theorem dX3_overAt_16 : decode cX3_overAt 16 = .ok (.invokevirtual 69, 3) := by decide +kernel
theorem dX3_overAt_19 : decode cX3_overAt 19 = .ok (.areturn, 1) := by decide +kernel
theorem dX3_takeBack_0 : decode cX3_takeBack 0 = .ok (.aload_n 0, 1) := by decide +kernel
theorem dX3_takeBack_1 : decode cX3_takeBack 1 = .ok (.aload_n 1, 1) := by decide +kernel
theorem dX3_takeBack_2 : decode cX3_takeBack 2 = .ok (.getfield 73, 3) := by decide +kernel
theorem dX3_takeBack_5 : decode cX3_takeBack 5 = .ok (.invokevirtual 62, 3) := by decide +kernel
theorem dX3_takeBack_8 : decode cX3_takeBack 8 = .ok (.astore_n 2, 1) := by decide +kernel
theorem dX3_takeBack_9 : decode cX3_takeBack 9 = .ok (.aload_n 2, 1) := by decide +kernel
theorem dX3_takeBack_10 : decode cX3_takeBack 10 = .ok (.ifnonnull 4, 3) := by decide +kernel
theorem dX3_takeBack_13 : decode cX3_takeBack 13 = .ok (.return_, 1) := by decide +kernel
theorem dX3_takeBack_14 : decode cX3_takeBack 14 = .ok (.aload_n 1, 1) := by decide +kernel
theorem dX3_takeBack_15 : decode cX3_takeBack 15 = .ok (.getfield 78, 3) := by decide +kernel
theorem dX3_takeBack_18 : decode cX3_takeBack 18 = .ok (.ifCond .ne 23, 3) := by decide +kernel
theorem dX3_takeBack_21 : decode cX3_takeBack 21 = .ok (.aload_n 0, 1) := by decide +kernel
theorem dX3_takeBack_22 : decode cX3_takeBack 22 = .ok (.getfield 23, 3) := by decide +kernel
theorem dX3_takeBack_25 : decode cX3_takeBack 25 = .ok (.aload_n 0, 1) := by decide +kernel
theorem dX3_takeBack_26 : decode cX3_takeBack 26 = .ok (.getfield 23, 3) := by decide +kernel
theorem dX3_takeBack_29 : decode cX3_takeBack 29 = .ok (.invokevirtual 48, 3) := by decide +kernel
theorem dX3_takeBack_32 : decode cX3_takeBack 32 = .ok (.iconst 1, 1) := by decide +kernel
theorem dX3_takeBack_33 : decode cX3_takeBack 33 = .ok (.isub, 1) := by decide +kernel
theorem dX3_takeBack_34 : decode cX3_takeBack 34 = .ok (.invokevirtual 81, 3) := by decide +kernel
theorem dX3_takeBack_37 : decode cX3_takeBack 37 = .ok (.pop, 1) := by decide +kernel
theorem dX3_takeBack_38 : decode cX3_takeBack 38 = .ok (.goto 39, 3) := by decide +kernel
theorem dX3_takeBack_41 : decode cX3_takeBack 41 = .ok (.aload_n 1, 1) := by decide +kernel
theorem dX3_takeBack_42 : decode cX3_takeBack 42 = .ok (.getfield 78, 3) := by decide +kernel
theorem dX3_takeBack_45 : decode cX3_takeBack 45 = .ok (.iconst 1, 1) := by decide +kernel
theorem dX3_takeBack_46 : decode cX3_takeBack 46 = .ok (.if_icmp .ne 10, 3) := by decide +kernel
theorem dX3_takeBack_49 : decode cX3_takeBack 49 = .ok (.aload_n 2, 1) := by decide +kernel
theorem dX3_takeBack_50 : decode cX3_takeBack 50 = .ok (.invokevirtual 84, 3) := by decide +kernel
theorem dX3_takeBack_53 : decode cX3_takeBack 53 = .ok (.goto 24, 3) := by decide +kernel
theorem dX3_takeBack_56 : decode cX3_takeBack 56 = .ok (.aload_n 2, 1) := by decide +kernel
theorem dX3_takeBack_57 : decode cX3_takeBack 57 = .ok (.aload_n 1, 1) := by decide +kernel
theorem dX3_takeBack_58 : decode cX3_takeBack 58 = .ok (.getfield 87, 3) := by decide +kernel
theorem dX3_takeBack_61 : decode cX3_takeBack 61 = .ok (.invokevirtual 69, 3) := by decide +kernel
theorem dX3_takeBack_64 : decode cX3_takeBack 64 = .ok (.astore_n 3, 1) := by decide +kernel
theorem dX3_takeBack_65 : decode cX3_takeBack 65 = .ok (.aload_n 3, 1) := by decide +kernel
theorem dX3_takeBack_66 : decode cX3_takeBack 66 = .ok (.ifnull 11, 3) := by decide +kernel
theorem dX3_takeBack_69 : decode cX3_takeBack 69 = .ok (.aload_n 3, 1) := by decide +kernel
theorem dX3_takeBack_70 : decode cX3_takeBack 70 = .ok (.aload_n 1, 1) := by decide +kernel
theorem dX3_takeBack_71 : decode cX3_takeBack 71 = .ok (.getfield 90, 3) := by decide +kernel
theorem dX3_takeBack_74 : decode cX3_takeBack 74 = .ok (.invokevirtual 94, 3) := by decide +kernel
theorem dX3_takeBack_77 : decode cX3_takeBack 77 = .ok (.return_, 1) := by decide +kernel
theorem dX3_placeOf_0 : decode cX3_placeOf 0 = .ok (.bipush 28, 2) := by decide +kernel
theorem dX3_placeOf_2 : decode cX3_placeOf 2 = .ok (.istore 4, 2) := by decide +kernel
theorem dX3_placeOf_4 : decode cX3_placeOf 4 = .ok (.iconst 0, 1) := by decide +kernel
theorem dX3_placeOf_5 : decode cX3_placeOf 5 = .ok (.istore 5, 2) := by decide +kernel
theorem dX3_placeOf_7 : decode cX3_placeOf 7 = .ok (.iload 5, 2) := by decide +kernel
theorem dX3_placeOf_9 : decode cX3_placeOf 9 = .ok (.iload_n 1, 1) := by decide +kernel
theorem dX3_placeOf_10 : decode cX3_placeOf 10 = .ok (.if_icmp .ge 60, 3) := by decide +kernel
theorem dX3_placeOf_13 : decode cX3_placeOf 13 = .ok (.iload 5, 2) := by decide +kernel
theorem dX3_placeOf_15 : decode cX3_placeOf 15 = .ok (.aload_n 0, 1) := by decide +kernel
theorem dX3_placeOf_16 : decode cX3_placeOf 16 = .ok (.getfield 23, 3) := by decide +kernel
theorem dX3_placeOf_19 : decode cX3_placeOf 19 = .ok (.invokevirtual 48, 3) := by decide +kernel
theorem dX3_placeOf_22 : decode cX3_placeOf 22 = .ok (.if_icmp .ge 48, 3) := by decide +kernel
theorem dX3_placeOf_25 : decode cX3_placeOf 25 = .ok (.iload 4, 2) := by decide +kernel
theorem dX3_placeOf_27 : decode cX3_placeOf 27 = .ok (.iconst 1, 1) := by decide +kernel
theorem dX3_placeOf_28 : decode cX3_placeOf 28 = .ok (.aload_n 0, 1) := by decide +kernel
theorem dX3_placeOf_29 : decode cX3_placeOf 29 = .ok (.getfield 23, 3) := by decide +kernel
theorem dX3_placeOf_32 : decode cX3_placeOf 32 = .ok (.iload 5, 2) := by decide +kernel
theorem dX3_placeOf_34 : decode cX3_placeOf 34 = .ok (.invokevirtual 52, 3) := by decide +kernel
theorem dX3_placeOf_37 : decode cX3_placeOf 37 = .ok (.checkcast 56, 3) := by decide +kernel
theorem dX3_placeOf_40 : decode cX3_placeOf 40 = .ok (.aload_n 0, 1) := by decide +kernel
theorem dX3_placeOf_41 : decode cX3_placeOf 41 = .ok (.getfield 23, 3) := by decide +kernel
theorem dX3_placeOf_44 : decode cX3_placeOf 44 = .ok (.iload 5, 2) := by decide +kernel
theorem dX3_placeOf_46 : decode cX3_placeOf 46 = .ok (.invokevirtual 52, 3) := by decide +kernel
theorem dX3_placeOf_49 : decode cX3_placeOf 49 = .ok (.checkcast 56, 3) := by decide +kernel
theorem dX3_placeOf_52 : decode cX3_placeOf 52 = .ok (.invokevirtual 66, 3) := by decide +kernel
theorem dX3_placeOf_55 : decode cX3_placeOf 55 = .ok (.invokevirtual 100, 3) := by decide +kernel
theorem dX3_placeOf_58 : decode cX3_placeOf 58 = .ok (.iadd, 1) := by decide +kernel
theorem dX3_placeOf_59 : decode cX3_placeOf 59 = .ok (.iconst 2, 1) := by decide +kernel
theorem dX3_placeOf_60 : decode cX3_placeOf 60 = .ok (.iadd, 1) := by decide +kernel
theorem dX3_placeOf_61 : decode cX3_placeOf 61 = .ok (.iadd, 1) := by decide +kernel
theorem dX3_placeOf_62 : decode cX3_placeOf 62 = .ok (.istore 4, 2) := by decide +kernel
theorem dX3_placeOf_64 : decode cX3_placeOf 64 = .ok (.iinc 5 1, 3) := by decide +kernel
theorem dX3_placeOf_67 : decode cX3_placeOf 67 = .ok (.goto (-60), 3) := by decide +kernel
theorem dX3_placeOf_70 : decode cX3_placeOf 70 = .ok (.aload_n 0, 1) := by decide +kernel
theorem dX3_placeOf_71 : decode cX3_placeOf 71 = .ok (.iload_n 1, 1) := by decide +kernel
theorem dX3_placeOf_72 : decode cX3_placeOf 72 = .ok (.invokevirtual 62, 3) := by decide +kernel
theorem dX3_placeOf_75 : decode cX3_placeOf 75 = .ok (.astore 5, 2) := by decide +kernel
theorem dX3_placeOf_77 : decode cX3_placeOf 77 = .ok (.aload 5, 2) := by decide +kernel
theorem dX3_placeOf_79 : decode cX3_placeOf 79 = .ok (.ifnull 7, 3) := by decide +kernel
theorem dX3_placeOf_82 : decode cX3_placeOf 82 = .ok (.iload_n 2, 1) := by decide +kernel
theorem dX3_placeOf_83 : decode cX3_placeOf 83 = .ok (.ifCond .ge 6, 3) := by decide +kernel
theorem dX3_placeOf_86 : decode cX3_placeOf 86 = .ok (.iload 4, 2) := by decide +kernel
theorem dX3_placeOf_88 : decode cX3_placeOf 88 = .ok (.ireturn, 1) := by decide +kernel
theorem dX3_placeOf_89 : decode cX3_placeOf 89 = .ok (.iload 4, 2) := by decide +kernel
theorem dX3_placeOf_91 : decode cX3_placeOf 91 = .ok (.iconst 1, 1) := by decide +kernel
theorem dX3_placeOf_92 : decode cX3_placeOf 92 = .ok (.aload 5, 2) := by decide +kernel
theorem dX3_placeOf_94 : decode cX3_placeOf 94 = .ok (.iload_n 2, 1) := by decide +kernel
theorem dX3_placeOf_95 : decode cX3_placeOf 95 = .ok (.invokevirtual 100, 3) := by decide +kernel
theorem dX3_placeOf_98 : decode cX3_placeOf 98 = .ok (.iadd, 1) := by decide +kernel
theorem dX3_placeOf_99 : decode cX3_placeOf 99 = .ok (.iadd, 1) := by decide +kernel
theorem dX3_placeOf_100 : decode cX3_placeOf 100 = .ok (.istore 4, 2) := by decide +kernel
theorem dX3_placeOf_102 : decode cX3_placeOf 102 = .ok (.iload_n 3, 1) := by decide +kernel
theorem dX3_placeOf_103 : decode cX3_placeOf 103 = .ok (.ifCond .ge 8, 3) := by decide +kernel
theorem dX3_placeOf_106 : decode cX3_placeOf 106 = .ok (.iload 4, 2) := by decide +kernel
theorem dX3_placeOf_108 : decode cX3_placeOf 108 = .ok (.goto 9, 3) := by decide +kernel
theorem dX3_placeOf_111 : decode cX3_placeOf 111 = .ok (.iload 4, 2) := by decide +kernel
theorem dX3_placeOf_113 : decode cX3_placeOf 113 = .ok (.iconst 2, 1) := by decide +kernel
theorem dX3_placeOf_114 : decode cX3_placeOf 114 = .ok (.iadd, 1) := by decide +kernel
theorem dX3_placeOf_115 : decode cX3_placeOf 115 = .ok (.iload_n 3, 1) := by decide +kernel
theorem dX3_placeOf_116 : decode cX3_placeOf 116 = .ok (.iadd, 1) := by decide +kernel
theorem dX3_placeOf_117 : decode cX3_placeOf 117 = .ok (.ireturn, 1) := by decide +kernel
theorem dX3_imageSize_0 : decode cX3_imageSize 0 = .ok (.aload_n 0, 1) := by decide +kernel
theorem dX3_imageSize_1 : decode cX3_imageSize 1 = .ok (.aload_n 0, 1) := by decide +kernel
theorem dX3_imageSize_2 : decode cX3_imageSize 2 = .ok (.invokevirtual 104, 3) := by decide +kernel
theorem dX3_imageSize_5 : decode cX3_imageSize 5 = .ok (.iconst (-1), 1) := by decide +kernel
theorem dX3_imageSize_6 : decode cX3_imageSize 6 = .ok (.iconst (-1), 1) := by decide +kernel
theorem dX3_imageSize_7 : decode cX3_imageSize 7 = .ok (.invokevirtual 107, 3) := by decide +kernel
theorem dX3_imageSize_10 : decode cX3_imageSize 10 = .ok (.ireturn, 1) := by decide +kernel
theorem dX4_init_0 : decode cX4_init 0 = .ok (.aload_n 0, 1) := by decide +kernel
theorem dX4_init_1 : decode cX4_init 1 = .ok (.invokespecial 1, 3) := by decide +kernel
theorem dX4_init_4 : decode cX4_init 4 = .ok (.aload_n 0, 1) := by decide +kernel
theorem dX4_init_5 : decode cX4_init 5 = .ok (.iload_n 1, 1) := by decide +kernel
theorem dX4_init_6 : decode cX4_init 6 = .ok (.iconst 0, 1) := by decide +kernel
theorem dX4_init_7 : decode cX4_init 7 = .ok (.invokestatic 7, 3) := by decide +kernel
theorem dX4_init_10 : decode cX4_init 10 = .ok (.putfield 13, 3) := by decide +kernel
theorem dX4_init_13 : decode cX4_init 13 = .ok (.aload_n 0, 1) := by decide +kernel
theorem dX4_init_14 : decode cX4_init 14 = .ok (.iload_n 2, 1) := by decide +kernel
theorem dX4_init_15 : decode cX4_init 15 = .ok (.iconst 0, 1) := by decide +kernel
theorem dX4_init_16 : decode cX4_init 16 = .ok (.invokestatic 7, 3) := by decide +kernel
theorem dX4_init_19 : decode cX4_init 19 = .ok (.putfield 19, 3) := by decide +kernel
theorem dX4_init_22 : decode cX4_init 22 = .ok (.aload_n 0, 1) := by decide +kernel
theorem dX4_init_23 : decode cX4_init 23 = .ok (.aload_n 0, 1) := by decide +kernel
theorem dX4_init_24 : decode cX4_init 24 = .ok (.getfield 13, 3) := by decide +kernel
theorem dX4_init_27 : decode cX4_init 27 = .ok (.aload_n 0, 1) := by decide +kernel
theorem dX4_init_28 : decode cX4_init 28 = .ok (.getfield 19, 3) := by decide +kernel
theorem dX4_init_31 : decode cX4_init 31 = .ok (.imul, 1) := by decide +kernel
theorem dX4_init_32 : decode cX4_init 32 = .ok (.newarray .int, 2) := by decide +kernel
theorem dX4_init_34 : decode cX4_init 34 = .ok (.putfield 22, 3) := by decide +kernel
theorem dX4_init_37 : decode cX4_init 37 = .ok (.return_, 1) := by decide +kernel
theorem dX4_at_0 : decode cX4_at 0 = .ok (.aload_n 0, 1) := by decide +kernel
theorem dX4_at_1 : decode cX4_at 1 = .ok (.iload_n 1, 1) := by decide +kernel
theorem dX4_at_2 : decode cX4_at 2 = .ok (.iload_n 2, 1) := by decide +kernel
theorem dX4_at_3 : decode cX4_at 3 = .ok (.invokevirtual 26, 3) := by decide +kernel
theorem dX4_at_6 : decode cX4_at 6 = .ok (.ifCond .eq 19, 3) := by decide +kernel
theorem dX4_at_9 : decode cX4_at 9 = .ok (.aload_n 0, 1) := by decide +kernel
theorem dX4_at_10 : decode cX4_at 10 = .ok (.getfield 22, 3) := by decide +kernel
theorem dX4_at_13 : decode cX4_at 13 = .ok (.iload_n 1, 1) := by decide +kernel
theorem dX4_at_14 : decode cX4_at 14 = .ok (.aload_n 0, 1) := by decide +kernel
theorem dX4_at_15 : decode cX4_at 15 = .ok (.getfield 19, 3) := by decide +kernel
theorem dX4_at_18 : decode cX4_at 18 = .ok (.imul, 1) := by decide +kernel
theorem dX4_at_19 : decode cX4_at 19 = .ok (.iload_n 2, 1) := by decide +kernel
theorem dX4_at_20 : decode cX4_at 20 = .ok (.iadd, 1) := by decide +kernel
theorem dX4_at_21 : decode cX4_at 21 = .ok (.iaload, 1) := by decide +kernel
theorem dX4_at_22 : decode cX4_at 22 = .ok (.goto 4, 3) := by decide +kernel
theorem dX4_at_25 : decode cX4_at 25 = .ok (.iconst 0, 1) := by decide +kernel
theorem dX4_at_26 : decode cX4_at 26 = .ok (.ireturn, 1) := by decide +kernel
theorem dX4_set_0 : decode cX4_set 0 = .ok (.aload_n 0, 1) := by decide +kernel
theorem dX4_set_1 : decode cX4_set 1 = .ok (.iload_n 1, 1) := by decide +kernel
theorem dX4_set_2 : decode cX4_set 2 = .ok (.iload_n 2, 1) := by decide +kernel
theorem dX4_set_3 : decode cX4_set 3 = .ok (.invokevirtual 26, 3) := by decide +kernel
theorem dX4_set_6 : decode cX4_set 6 = .ok (.ifCond .eq 17, 3) := by decide +kernel
theorem dX4_set_9 : decode cX4_set 9 = .ok (.aload_n 0, 1) := by decide +kernel
theorem dX4_set_10 : decode cX4_set 10 = .ok (.getfield 22, 3) := by decide +kernel
theorem dX4_set_13 : decode cX4_set 13 = .ok (.iload_n 1, 1) := by decide +kernel
theorem dX4_set_14 : decode cX4_set 14 = .ok (.aload_n 0, 1) := by decide +kernel
theorem dX4_set_15 : decode cX4_set 15 = .ok (.getfield 19, 3) := by decide +kernel
theorem dX4_set_18 : decode cX4_set 18 = .ok (.imul, 1) := by decide +kernel
theorem dX4_set_19 : decode cX4_set 19 = .ok (.iload_n 2, 1) := by decide +kernel
theorem dX4_set_20 : decode cX4_set 20 = .ok (.iadd, 1) := by decide +kernel
theorem dX4_set_21 : decode cX4_set 21 = .ok (.iload_n 3, 1) := by decide +kernel
theorem dX4_set_22 : decode cX4_set 22 = .ok (.iastore, 1) := by decide +kernel
theorem dX4_set_23 : decode cX4_set 23 = .ok (.return_, 1) := by decide +kernel
theorem dX4_add_0 : decode cX4_add 0 = .ok (.aload_n 0, 1) := by decide +kernel
theorem dX4_add_1 : decode cX4_add 1 = .ok (.iload_n 1, 1) := by decide +kernel
theorem dX4_add_2 : decode cX4_add 2 = .ok (.iload_n 2, 1) := by decide +kernel
theorem dX4_add_3 : decode cX4_add 3 = .ok (.invokevirtual 26, 3) := by decide +kernel
theorem dX4_add_6 : decode cX4_add 6 = .ok (.ifCond .eq 20, 3) := by decide +kernel
theorem dX4_add_9 : decode cX4_add 9 = .ok (.aload_n 0, 1) := by decide +kernel
theorem dX4_add_10 : decode cX4_add 10 = .ok (.getfield 22, 3) := by decide +kernel
theorem dX4_add_13 : decode cX4_add 13 = .ok (.iload_n 1, 1) := by decide +kernel
theorem dX4_add_14 : decode cX4_add 14 = .ok (.aload_n 0, 1) := by decide +kernel
theorem dX4_add_15 : decode cX4_add 15 = .ok (.getfield 19, 3) := by decide +kernel
theorem dX4_add_18 : decode cX4_add 18 = .ok (.imul, 1) := by decide +kernel
theorem dX4_add_19 : decode cX4_add 19 = .ok (.iload_n 2, 1) := by decide +kernel
theorem dX4_add_20 : decode cX4_add 20 = .ok (.iadd, 1) := by decide +kernel
theorem dX4_add_21 : decode cX4_add 21 = .ok (.dup2, 1) := by decide +kernel
theorem dX4_add_22 : decode cX4_add 22 = .ok (.iaload, 1) := by decide +kernel
theorem dX4_add_23 : decode cX4_add 23 = .ok (.iload_n 3, 1) := by decide +kernel
theorem dX4_add_24 : decode cX4_add 24 = .ok (.iadd, 1) := by decide +kernel
theorem dX4_add_25 : decode cX4_add 25 = .ok (.iastore, 1) := by decide +kernel
theorem dX4_add_26 : decode cX4_add 26 = .ok (.return_, 1) := by decide +kernel
theorem dX4_fill_0 : decode cX4_fill 0 = .ok (.iconst 0, 1) := by decide +kernel
theorem dX4_fill_1 : decode cX4_fill 1 = .ok (.istore_n 2, 1) := by decide +kernel
theorem dX4_fill_2 : decode cX4_fill 2 = .ok (.iload_n 2, 1) := by decide +kernel
theorem dX4_fill_3 : decode cX4_fill 3 = .ok (.aload_n 0, 1) := by decide +kernel
theorem dX4_fill_4 : decode cX4_fill 4 = .ok (.getfield 22, 3) := by decide +kernel
theorem dX4_fill_7 : decode cX4_fill 7 = .ok (.arraylength, 1) := by decide +kernel
theorem dX4_fill_8 : decode cX4_fill 8 = .ok (.if_icmp .ge 16, 3) := by decide +kernel
theorem dX4_fill_11 : decode cX4_fill 11 = .ok (.aload_n 0, 1) := by decide +kernel
theorem dX4_fill_12 : decode cX4_fill 12 = .ok (.getfield 22, 3) := by decide +kernel
theorem dX4_fill_15 : decode cX4_fill 15 = .ok (.iload_n 2, 1) := by decide +kernel
theorem dX4_fill_16 : decode cX4_fill 16 = .ok (.iload_n 1, 1) := by decide +kernel
theorem dX4_fill_17 : decode cX4_fill 17 = .ok (.iastore, 1) := by decide +kernel
theorem dX4_fill_18 : decode cX4_fill 18 = .ok (.iinc 2 1, 3) := by decide +kernel
theorem dX4_fill_21 : decode cX4_fill 21 = .ok (.goto (-19), 3) := by decide +kernel
theorem dX4_fill_24 : decode cX4_fill 24 = .ok (.return_, 1) := by decide +kernel
theorem dX4_fillRow_0 : decode cX4_fillRow 0 = .ok (.iconst 0, 1) := by decide +kernel
theorem dX4_fillRow_1 : decode cX4_fillRow 1 = .ok (.istore_n 3, 1) := by decide +kernel
theorem dX4_fillRow_2 : decode cX4_fillRow 2 = .ok (.iload_n 3, 1) := by decide +kernel
theorem dX4_fillRow_3 : decode cX4_fillRow 3 = .ok (.aload_n 0, 1) := by decide +kernel
theorem dX4_fillRow_4 : decode cX4_fillRow 4 = .ok (.getfield 19, 3) := by decide +kernel
theorem dX4_fillRow_7 : decode cX4_fillRow 7 = .ok (.if_icmp .ge 16, 3) := by decide +kernel
theorem dX4_fillRow_10 : decode cX4_fillRow 10 = .ok (.aload_n 0, 1) := by decide +kernel
theorem dX4_fillRow_11 : decode cX4_fillRow 11 = .ok (.iload_n 1, 1) := by decide +kernel
theorem dX4_fillRow_12 : decode cX4_fillRow 12 = .ok (.iload_n 3, 1) := by decide +kernel
theorem dX4_fillRow_13 : decode cX4_fillRow 13 = .ok (.iload_n 2, 1) := by decide +kernel
theorem dX4_fillRow_14 : decode cX4_fillRow 14 = .ok (.invokevirtual 30, 3) := by decide +kernel
theorem dX4_fillRow_17 : decode cX4_fillRow 17 = .ok (.iinc 3 1, 3) := by decide +kernel
theorem dX4_fillRow_20 : decode cX4_fillRow 20 = .ok (.goto (-18), 3) := by decide +kernel
theorem dX4_fillRow_23 : decode cX4_fillRow 23 = .ok (.return_, 1) := by decide +kernel
theorem dX4_sumOf_0 : decode cX4_sumOf 0 = .ok (.iconst 0, 1) := by decide +kernel
theorem dX4_sumOf_1 : decode cX4_sumOf 1 = .ok (.istore_n 3, 1) := by decide +kernel
theorem dX4_sumOf_2 : decode cX4_sumOf 2 = .ok (.iconst 0, 1) := by decide +kernel
theorem dX4_sumOf_3 : decode cX4_sumOf 3 = .ok (.istore 4, 2) := by decide +kernel
theorem dX4_sumOf_5 : decode cX4_sumOf 5 = .ok (.iload 4, 2) := by decide +kernel
theorem dX4_sumOf_7 : decode cX4_sumOf 7 = .ok (.iload_n 2, 1) := by decide +kernel
theorem dX4_sumOf_8 : decode cX4_sumOf 8 = .ok (.if_icmp .ge 28, 3) := by decide +kernel
theorem dX4_sumOf_11 : decode cX4_sumOf 11 = .ok (.iload 4, 2) := by decide +kernel
theorem dX4_sumOf_13 : decode cX4_sumOf 13 = .ok (.aload_n 0, 1) := by decide +kernel
theorem dX4_sumOf_14 : decode cX4_sumOf 14 = .ok (.getfield 13, 3) := by decide +kernel
theorem dX4_sumOf_17 : decode cX4_sumOf 17 = .ok (.if_icmp .ge 19, 3) := by decide +kernel
theorem dX4_sumOf_20 : decode cX4_sumOf 20 = .ok (.iload_n 3, 1) := by decide +kernel
theorem dX4_sumOf_21 : decode cX4_sumOf 21 = .ok (.aload_n 0, 1) := by decide +kernel
theorem dX4_sumOf_22 : decode cX4_sumOf 22 = .ok (.iload 4, 2) := by decide +kernel
theorem dX4_sumOf_24 : decode cX4_sumOf 24 = .ok (.iload_n 1, 1) := by decide +kernel
theorem dX4_sumOf_25 : decode cX4_sumOf 25 = .ok (.invokevirtual 34, 3) := by decide +kernel
theorem dX4_sumOf_28 : decode cX4_sumOf 28 = .ok (.iadd, 1) := by decide +kernel
theorem dX4_sumOf_29 : decode cX4_sumOf 29 = .ok (.istore_n 3, 1) := by decide +kernel
theorem dX4_sumOf_30 : decode cX4_sumOf 30 = .ok (.iinc 4 1, 3) := by decide +kernel
theorem dX4_sumOf_33 : decode cX4_sumOf 33 = .ok (.goto (-28), 3) := by decide +kernel
theorem dX4_sumOf_36 : decode cX4_sumOf 36 = .ok (.iload_n 3, 1) := by decide +kernel
theorem dX4_sumOf_37 : decode cX4_sumOf 37 = .ok (.ireturn, 1) := by decide +kernel
theorem dX4_howMany_0 : decode cX4_howMany 0 = .ok (.iconst 0, 1) := by decide +kernel
theorem dX4_howMany_1 : decode cX4_howMany 1 = .ok (.istore_n 3, 1) := by decide +kernel
theorem dX4_howMany_2 : decode cX4_howMany 2 = .ok (.iconst 0, 1) := by decide +kernel
theorem dX4_howMany_3 : decode cX4_howMany 3 = .ok (.istore 4, 2) := by decide +kernel
theorem dX4_howMany_5 : decode cX4_howMany 5 = .ok (.iload 4, 2) := by decide +kernel
theorem dX4_howMany_7 : decode cX4_howMany 7 = .ok (.aload_n 0, 1) := by decide +kernel
theorem dX4_howMany_8 : decode cX4_howMany 8 = .ok (.getfield 13, 3) := by decide +kernel
theorem dX4_howMany_11 : decode cX4_howMany 11 = .ok (.if_icmp .ge 28, 3) := by decide +kernel
theorem dX4_howMany_14 : decode cX4_howMany 14 = .ok (.iload_n 3, 1) := by decide +kernel
theorem dX4_howMany_15 : decode cX4_howMany 15 = .ok (.aload_n 0, 1) := by decide +kernel
theorem dX4_howMany_16 : decode cX4_howMany 16 = .ok (.iload 4, 2) := by decide +kernel
theorem dX4_howMany_18 : decode cX4_howMany 18 = .ok (.iload_n 1, 1) := by decide +kernel
theorem dX4_howMany_19 : decode cX4_howMany 19 = .ok (.invokevirtual 34, 3) := by decide +kernel
theorem dX4_howMany_22 : decode cX4_howMany 22 = .ok (.iload_n 2, 1) := by decide +kernel
theorem dX4_howMany_23 : decode cX4_howMany 23 = .ok (.if_icmp .ne 7, 3) := by decide +kernel
theorem dX4_howMany_26 : decode cX4_howMany 26 = .ok (.iconst 1, 1) := by decide +kernel
theorem dX4_howMany_27 : decode cX4_howMany 27 = .ok (.goto 4, 3) := by decide +kernel
theorem dX4_howMany_30 : decode cX4_howMany 30 = .ok (.iconst 0, 1) := by decide +kernel
theorem dX4_howMany_31 : decode cX4_howMany 31 = .ok (.iadd, 1) := by decide +kernel
theorem dX4_howMany_32 : decode cX4_howMany 32 = .ok (.istore_n 3, 1) := by decide +kernel
theorem dX4_howMany_33 : decode cX4_howMany 33 = .ok (.iinc 4 1, 3) := by decide +kernel
theorem dX4_howMany_36 : decode cX4_howMany 36 = .ok (.goto (-31), 3) := by decide +kernel
theorem dX4_howMany_39 : decode cX4_howMany 39 = .ok (.iload_n 3, 1) := by decide +kernel
theorem dX4_howMany_40 : decode cX4_howMany 40 = .ok (.ireturn, 1) := by decide +kernel
theorem dX4_has_0 : decode cX4_has 0 = .ok (.iload_n 1, 1) := by decide +kernel
theorem dX4_has_1 : decode cX4_has 1 = .ok (.ifCond .lt 27, 3) := by decide +kernel
theorem dX4_has_4 : decode cX4_has 4 = .ok (.iload_n 1, 1) := by decide +kernel
theorem dX4_has_5 : decode cX4_has 5 = .ok (.aload_n 0, 1) := by decide +kernel
theorem dX4_has_6 : decode cX4_has 6 = .ok (.getfield 13, 3) := by decide +kernel
theorem dX4_has_9 : decode cX4_has 9 = .ok (.if_icmp .ge 19, 3) := by decide +kernel
theorem dX4_has_12 : decode cX4_has 12 = .ok (.iload_n 2, 1) := by decide +kernel
theorem dX4_has_13 : decode cX4_has 13 = .ok (.ifCond .lt 15, 3) := by decide +kernel
theorem dX4_has_16 : decode cX4_has 16 = .ok (.iload_n 2, 1) := by decide +kernel
theorem dX4_has_17 : decode cX4_has 17 = .ok (.aload_n 0, 1) := by decide +kernel
theorem dX4_has_18 : decode cX4_has 18 = .ok (.getfield 19, 3) := by decide +kernel
theorem dX4_has_21 : decode cX4_has 21 = .ok (.if_icmp .ge 7, 3) := by decide +kernel
theorem dX4_has_24 : decode cX4_has 24 = .ok (.iconst 1, 1) := by decide +kernel
theorem dX4_has_25 : decode cX4_has 25 = .ok (.goto 4, 3) := by decide +kernel
theorem dX4_has_28 : decode cX4_has 28 = .ok (.iconst 0, 1) := by decide +kernel
theorem dX4_has_29 : decode cX4_has 29 = .ok (.ireturn, 1) := by decide +kernel
theorem dX5_init_0 : decode cX5_init 0 = .ok (.aload_n 0, 1) := by decide +kernel
theorem dX5_init_1 : decode cX5_init 1 = .ok (.invokespecial 3, 3) := by decide +kernel
theorem dX5_init_4 : decode cX5_init 4 = .ok (.aload_n 0, 1) := by decide +kernel
theorem dX5_init_5 : decode cX5_init 5 = .ok (.bipush 40, 2) := by decide +kernel
theorem dX5_init_7 : decode cX5_init 7 = .ok (.newarray .int, 2) := by decide +kernel
theorem dX5_init_9 : decode cX5_init 9 = .ok (.putfield 9, 3) := by decide +kernel
theorem dX5_init_12 : decode cX5_init 12 = .ok (.aload_n 0, 1) := by decide +kernel
theorem dX5_init_13 : decode cX5_init 13 = .ok (.iload_n 1, 1) := by decide +kernel
theorem dX5_init_14 : decode cX5_init 14 = .ok (.putfield 15, 3) := by decide +kernel
theorem dX5_init_17 : decode cX5_init 17 = .ok (.aload_n 0, 1) := by decide +kernel
theorem dX5_init_18 : decode cX5_init 18 = .ok (.iload_n 2, 1) := by decide +kernel
theorem dX5_init_19 : decode cX5_init 19 = .ok (.putfield 19, 3) := by decide +kernel
theorem dX5_init_22 : decode cX5_init 22 = .ok (.return_, 1) := by decide +kernel
theorem dX5_isMissing_0 : decode cX5_isMissing 0 = .ok (.aload_n 0, 1) := by decide +kernel
theorem dX5_isMissing_1 : decode cX5_isMissing 1 = .ok (.getfield 19, 3) := by decide +kernel
theorem dX5_isMissing_4 : decode cX5_isMissing 4 = .ok (.ifCond .ge 7, 3) := by decide +kernel
theorem dX5_isMissing_7 : decode cX5_isMissing 7 = .ok (.iconst 1, 1) := by decide +kernel
theorem dX5_isMissing_8 : decode cX5_isMissing 8 = .ok (.goto 4, 3) := by decide +kernel
theorem dX5_isMissing_11 : decode cX5_isMissing 11 = .ok (.iconst 0, 1) := by decide +kernel
theorem dX5_isMissing_12 : decode cX5_isMissing 12 = .ok (.ireturn, 1) := by decide +kernel
theorem dX5_isFull_0 : decode cX5_isFull 0 = .ok (.aload_n 0, 1) := by decide +kernel
theorem dX5_isFull_1 : decode cX5_isFull 1 = .ok (.getfield 19, 3) := by decide +kernel
theorem dX5_isFull_4 : decode cX5_isFull 4 = .ok (.bipush 40, 2) := by decide +kernel
theorem dX5_isFull_6 : decode cX5_isFull 6 = .ok (.if_icmp .lt 7, 3) := by decide +kernel
theorem dX5_isFull_9 : decode cX5_isFull 9 = .ok (.iconst 1, 1) := by decide +kernel
theorem dX5_isFull_10 : decode cX5_isFull 10 = .ok (.goto 4, 3) := by decide +kernel
theorem dX5_isFull_13 : decode cX5_isFull 13 = .ok (.iconst 0, 1) := by decide +kernel
theorem dX5_isFull_14 : decode cX5_isFull 14 = .ok (.ireturn, 1) := by decide +kernel
theorem dX5_has_0 : decode cX5_has 0 = .ok (.iload_n 1, 1) := by decide +kernel
theorem dX5_has_1 : decode cX5_has 1 = .ok (.ifCond .lt 21, 3) := by decide +kernel
theorem dX5_has_4 : decode cX5_has 4 = .ok (.iload_n 1, 1) := by decide +kernel
theorem dX5_has_5 : decode cX5_has 5 = .ok (.aload_n 0, 1) := by decide +kernel
theorem dX5_has_6 : decode cX5_has 6 = .ok (.getfield 19, 3) := by decide +kernel
theorem dX5_has_9 : decode cX5_has 9 = .ok (.if_icmp .ge 13, 3) := by decide +kernel
theorem dX5_has_12 : decode cX5_has 12 = .ok (.iload_n 1, 1) := by decide +kernel
theorem dX5_has_13 : decode cX5_has 13 = .ok (.bipush 40, 2) := by decide +kernel
theorem dX5_has_15 : decode cX5_has 15 = .ok (.if_icmp .ge 7, 3) := by decide +kernel
theorem dX5_has_18 : decode cX5_has 18 = .ok (.iconst 1, 1) := by decide +kernel
theorem dX5_has_19 : decode cX5_has 19 = .ok (.goto 4, 3) := by decide +kernel
theorem dX5_has_22 : decode cX5_has 22 = .ok (.iconst 0, 1) := by decide +kernel
theorem dX5_has_23 : decode cX5_has 23 = .ok (.ireturn, 1) := by decide +kernel
theorem dX5_at_0 : decode cX5_at 0 = .ok (.aload_n 0, 1) := by decide +kernel
theorem dX5_at_1 : decode cX5_at 1 = .ok (.iload_n 1, 1) := by decide +kernel
theorem dX5_at_2 : decode cX5_at 2 = .ok (.invokevirtual 22, 3) := by decide +kernel
theorem dX5_at_5 : decode cX5_at 5 = .ok (.ifCond .eq 12, 3) := by decide +kernel
theorem dX5_at_8 : decode cX5_at 8 = .ok (.aload_n 0, 1) := by decide +kernel
theorem dX5_at_9 : decode cX5_at 9 = .ok (.getfield 9, 3) := by decide +kernel
theorem dX5_at_12 : decode cX5_at 12 = .ok (.iload_n 1, 1) := by decide +kernel
theorem dX5_at_13 : decode cX5_at 13 = .ok (.iaload, 1) := by decide +kernel
theorem dX5_at_14 : decode cX5_at 14 = .ok (.goto 4, 3) := by decide +kernel
theorem dX5_at_17 : decode cX5_at 17 = .ok (.iconst (-1), 1) := by decide +kernel
theorem dX5_at_18 : decode cX5_at 18 = .ok (.ireturn, 1) := by decide +kernel
theorem dX5_set_0 : decode cX5_set 0 = .ok (.aload_n 0, 1) := by decide +kernel
theorem dX5_set_1 : decode cX5_set 1 = .ok (.iload_n 1, 1) := by decide +kernel
theorem dX5_set_2 : decode cX5_set 2 = .ok (.invokevirtual 22, 3) := by decide +kernel
theorem dX5_set_5 : decode cX5_set 5 = .ok (.ifCond .eq 10, 3) := by decide +kernel
theorem dX5_set_8 : decode cX5_set 8 = .ok (.aload_n 0, 1) := by decide +kernel
theorem dX5_set_9 : decode cX5_set 9 = .ok (.getfield 9, 3) := by decide +kernel
theorem dX5_set_12 : decode cX5_set 12 = .ok (.iload_n 1, 1) := by decide +kernel
theorem dX5_set_13 : decode cX5_set 13 = .ok (.iload_n 2, 1) := by decide +kernel
theorem dX5_set_14 : decode cX5_set 14 = .ok (.iastore, 1) := by decide +kernel
theorem dX5_set_15 : decode cX5_set 15 = .ok (.return_, 1) := by decide +kernel
theorem dX5_insert_0 : decode cX5_insert 0 = .ok (.aload_n 0, 1) := by decide +kernel
theorem dX5_insert_1 : decode cX5_insert 1 = .ok (.invokevirtual 26, 3) := by decide +kernel
theorem dX5_insert_4 : decode cX5_insert 4 = .ok (.ifCond .ne 22, 3) := by decide +kernel
theorem dX5_insert_7 : decode cX5_insert 7 = .ok (.aload_n 0, 1) := by decide +kernel
theorem dX5_insert_8 : decode cX5_insert 8 = .ok (.invokevirtual 30, 3) := by decide +kernel
theorem dX5_insert_11 : decode cX5_insert 11 = .ok (.ifCond .ne 15, 3) := by decide +kernel
theorem dX5_insert_14 : decode cX5_insert 14 = .ok (.iload_n 1, 1) := by decide +kernel
theorem dX5_insert_15 : decode cX5_insert 15 = .ok (.ifCond .lt 11, 3) := by decide +kernel
theorem dX5_insert_18 : decode cX5_insert 18 = .ok (.iload_n 1, 1) := by decide +kernel
theorem dX5_insert_19 : decode cX5_insert 19 = .ok (.aload_n 0, 1) := by decide +kernel
theorem dX5_insert_20 : decode cX5_insert 20 = .ok (.getfield 19, 3) := by decide +kernel
theorem dX5_insert_23 : decode cX5_insert 23 = .ok (.if_icmp .le 4, 3) := by decide +kernel
theorem dX5_insert_26 : decode cX5_insert 26 = .ok (.return_, 1) := by decide +kernel
theorem dX5_insert_27 : decode cX5_insert 27 = .ok (.aload_n 0, 1) := by decide +kernel
theorem dX5_insert_28 : decode cX5_insert 28 = .ok (.dup, 1) := by decide +kernel
theorem dX5_insert_29 : decode cX5_insert 29 = .ok (.getfield 19, 3) := by decide +kernel
theorem dX5_insert_32 : decode cX5_insert 32 = .ok (.iconst 1, 1) := by decide +kernel
theorem dX5_insert_33 : decode cX5_insert 33 = .ok (.iadd, 1) := by decide +kernel
theorem dX5_insert_34 : decode cX5_insert 34 = .ok (.putfield 19, 3) := by decide +kernel
theorem dX5_insert_37 : decode cX5_insert 37 = .ok (.aload_n 0, 1) := by decide +kernel
theorem dX5_insert_38 : decode cX5_insert 38 = .ok (.getfield 19, 3) := by decide +kernel
theorem dX5_insert_41 : decode cX5_insert 41 = .ok (.iconst 1, 1) := by decide +kernel
theorem dX5_insert_42 : decode cX5_insert 42 = .ok (.isub, 1) := by decide +kernel
theorem dX5_insert_43 : decode cX5_insert 43 = .ok (.istore_n 3, 1) := by decide +kernel
theorem dX5_insert_44 : decode cX5_insert 44 = .ok (.iload_n 3, 1) := by decide +kernel
theorem dX5_insert_45 : decode cX5_insert 45 = .ok (.iload_n 1, 1) := by decide +kernel
theorem dX5_insert_46 : decode cX5_insert 46 = .ok (.if_icmp .le 21, 3) := by decide +kernel
theorem dX5_insert_49 : decode cX5_insert 49 = .ok (.aload_n 0, 1) := by decide +kernel
theorem dX5_insert_50 : decode cX5_insert 50 = .ok (.iload_n 3, 1) := by decide +kernel
theorem dX5_insert_51 : decode cX5_insert 51 = .ok (.aload_n 0, 1) := by decide +kernel
theorem dX5_insert_52 : decode cX5_insert 52 = .ok (.iload_n 3, 1) := by decide +kernel
theorem dX5_insert_53 : decode cX5_insert 53 = .ok (.iconst 1, 1) := by decide +kernel
theorem dX5_insert_54 : decode cX5_insert 54 = .ok (.isub, 1) := by decide +kernel
theorem dX5_insert_55 : decode cX5_insert 55 = .ok (.invokevirtual 33, 3) := by decide +kernel
theorem dX5_insert_58 : decode cX5_insert 58 = .ok (.invokevirtual 37, 3) := by decide +kernel
theorem dX5_insert_61 : decode cX5_insert 61 = .ok (.iinc 3 (-1), 3) := by decide +kernel
theorem dX5_insert_64 : decode cX5_insert 64 = .ok (.goto (-20), 3) := by decide +kernel
theorem dX5_insert_67 : decode cX5_insert 67 = .ok (.aload_n 0, 1) := by decide +kernel
theorem dX5_insert_68 : decode cX5_insert 68 = .ok (.iload_n 1, 1) := by decide +kernel
theorem dX5_insert_69 : decode cX5_insert 69 = .ok (.iload_n 2, 1) := by decide +kernel
theorem dX5_insert_70 : decode cX5_insert 70 = .ok (.invokevirtual 37, 3) := by decide +kernel
theorem dX5_insert_73 : decode cX5_insert 73 = .ok (.return_, 1) := by decide +kernel
theorem dX5_remove_0 : decode cX5_remove 0 = .ok (.aload_n 0, 1) := by decide +kernel
theorem dX5_remove_1 : decode cX5_remove 1 = .ok (.iload_n 1, 1) := by decide +kernel
theorem dX5_remove_2 : decode cX5_remove 2 = .ok (.invokevirtual 22, 3) := by decide +kernel
theorem dX5_remove_5 : decode cX5_remove 5 = .ok (.ifCond .ne 4, 3) := by decide +kernel
theorem dX5_remove_8 : decode cX5_remove 8 = .ok (.return_, 1) := by decide +kernel
theorem dX5_remove_9 : decode cX5_remove 9 = .ok (.iload_n 1, 1) := by decide +kernel
theorem dX5_remove_10 : decode cX5_remove 10 = .ok (.istore_n 2, 1) := by decide +kernel
theorem dX5_remove_11 : decode cX5_remove 11 = .ok (.iload_n 2, 1) := by decide +kernel
theorem dX5_remove_12 : decode cX5_remove 12 = .ok (.aload_n 0, 1) := by decide +kernel
theorem dX5_remove_13 : decode cX5_remove 13 = .ok (.getfield 19, 3) := by decide +kernel
theorem dX5_remove_16 : decode cX5_remove 16 = .ok (.iconst 1, 1) := by decide +kernel
theorem dX5_remove_17 : decode cX5_remove 17 = .ok (.isub, 1) := by decide +kernel
theorem dX5_remove_18 : decode cX5_remove 18 = .ok (.if_icmp .ge 21, 3) := by decide +kernel
theorem dX5_remove_21 : decode cX5_remove 21 = .ok (.aload_n 0, 1) := by decide +kernel
theorem dX5_remove_22 : decode cX5_remove 22 = .ok (.iload_n 2, 1) := by decide +kernel
theorem dX5_remove_23 : decode cX5_remove 23 = .ok (.aload_n 0, 1) := by decide +kernel
theorem dX5_remove_24 : decode cX5_remove 24 = .ok (.iload_n 2, 1) := by decide +kernel
theorem dX5_remove_25 : decode cX5_remove 25 = .ok (.iconst 1, 1) := by decide +kernel
theorem dX5_remove_26 : decode cX5_remove 26 = .ok (.iadd, 1) := by decide +kernel
theorem dX5_remove_27 : decode cX5_remove 27 = .ok (.invokevirtual 33, 3) := by decide +kernel
theorem dX5_remove_30 : decode cX5_remove 30 = .ok (.invokevirtual 37, 3) := by decide +kernel
theorem dX5_remove_33 : decode cX5_remove 33 = .ok (.iinc 2 1, 3) := by decide +kernel
theorem dX5_remove_36 : decode cX5_remove 36 = .ok (.goto (-25), 3) := by decide +kernel
theorem dX5_remove_39 : decode cX5_remove 39 = .ok (.aload_n 0, 1) := by decide +kernel
theorem dX5_remove_40 : decode cX5_remove 40 = .ok (.dup, 1) := by decide +kernel
theorem dX5_remove_41 : decode cX5_remove 41 = .ok (.getfield 19, 3) := by decide +kernel
theorem dX5_remove_44 : decode cX5_remove 44 = .ok (.iconst 1, 1) := by decide +kernel
theorem dX5_remove_45 : decode cX5_remove 45 = .ok (.isub, 1) := by decide +kernel
theorem dX5_remove_46 : decode cX5_remove 46 = .ok (.putfield 19, 3) := by decide +kernel
theorem dX5_remove_49 : decode cX5_remove 49 = .ok (.return_, 1) := by decide +kernel
theorem dX5_copy_0 : decode cX5_copy 0 = .ok (.aload_n 0, 1) := by decide +kernel
theorem dX5_copy_1 : decode cX5_copy 1 = .ok (.aload_n 1, 1) := by decide +kernel
theorem dX5_copy_2 : decode cX5_copy 2 = .ok (.getfield 15, 3) := by decide +kernel
theorem dX5_copy_5 : decode cX5_copy 5 = .ok (.putfield 15, 3) := by decide +kernel
theorem dX5_copy_8 : decode cX5_copy 8 = .ok (.aload_n 0, 1) := by decide +kernel
theorem dX5_copy_9 : decode cX5_copy 9 = .ok (.aload_n 1, 1) := by decide +kernel
theorem dX5_copy_10 : decode cX5_copy 10 = .ok (.getfield 19, 3) := by decide +kernel
theorem dX5_copy_13 : decode cX5_copy 13 = .ok (.putfield 19, 3) := by decide +kernel
theorem dX5_copy_16 : decode cX5_copy 16 = .ok (.iconst 0, 1) := by decide +kernel
theorem dX5_copy_17 : decode cX5_copy 17 = .ok (.istore_n 2, 1) := by decide +kernel
theorem dX5_copy_18 : decode cX5_copy 18 = .ok (.iload_n 2, 1) := by decide +kernel
theorem dX5_copy_19 : decode cX5_copy 19 = .ok (.aload_n 0, 1) := by decide +kernel
theorem dX5_copy_20 : decode cX5_copy 20 = .ok (.getfield 19, 3) := by decide +kernel
theorem dX5_copy_23 : decode cX5_copy 23 = .ok (.if_icmp .ge 19, 3) := by decide +kernel
theorem dX5_copy_26 : decode cX5_copy 26 = .ok (.aload_n 0, 1) := by decide +kernel
theorem dX5_copy_27 : decode cX5_copy 27 = .ok (.iload_n 2, 1) := by decide +kernel
theorem dX5_copy_28 : decode cX5_copy 28 = .ok (.aload_n 1, 1) := by decide +kernel
theorem dX5_copy_29 : decode cX5_copy 29 = .ok (.iload_n 2, 1) := by decide +kernel
theorem dX5_copy_30 : decode cX5_copy 30 = .ok (.invokevirtual 33, 3) := by decide +kernel
theorem dX5_copy_33 : decode cX5_copy 33 = .ok (.invokevirtual 37, 3) := by decide +kernel
theorem dX5_copy_36 : decode cX5_copy 36 = .ok (.iinc 2 1, 3) := by decide +kernel
theorem dX5_copy_39 : decode cX5_copy 39 = .ok (.goto (-21), 3) := by decide +kernel
theorem dX5_copy_42 : decode cX5_copy 42 = .ok (.return_, 1) := by decide +kernel
theorem dX6_init_0 : decode cX6_init 0 = .ok (.aload_n 0, 1) := by decide +kernel
theorem dX6_init_1 : decode cX6_init 1 = .ok (.invokespecial 3, 3) := by decide +kernel
theorem dX6_init_4 : decode cX6_init 4 = .ok (.aload_n 0, 1) := by decide +kernel
theorem dX6_init_5 : decode cX6_init 5 = .ok (.iconst 4, 1) := by decide +kernel
theorem dX6_init_6 : decode cX6_init 6 = .ok (.anewarray 9, 3) := by decide +kernel
theorem dX6_init_9 : decode cX6_init 9 = .ok (.putfield 11, 3) := by decide +kernel
theorem dX6_init_12 : decode cX6_init 12 = .ok (.aload_n 0, 1) := by decide +kernel
theorem dX6_init_13 : decode cX6_init 13 = .ok (.new 9, 3) := by decide +kernel
theorem dX6_init_16 : decode cX6_init 16 = .ok (.dup, 1) := by decide +kernel
theorem dX6_init_17 : decode cX6_init 17 = .ok (.invokespecial 17, 3) := by decide +kernel
theorem dX6_init_20 : decode cX6_init 20 = .ok (.putfield 18, 3) := by decide +kernel
theorem dX6_init_23 : decode cX6_init 23 = .ok (.iconst 0, 1) := by decide +kernel
theorem dX6_init_24 : decode cX6_init 24 = .ok (.istore_n 1, 1) := by decide +kernel
theorem dX6_init_25 : decode cX6_init 25 = .ok (.iload_n 1, 1) := by decide +kernel
theorem dX6_init_26 : decode cX6_init 26 = .ok (.aload_n 0, 1) := by decide +kernel
theorem dX6_init_27 : decode cX6_init 27 = .ok (.getfield 11, 3) := by decide +kernel
theorem dX6_init_30 : decode cX6_init 30 = .ok (.arraylength, 1) := by decide +kernel
theorem dX6_init_31 : decode cX6_init 31 = .ok (.if_icmp .ge 22, 3) := by decide +kernel
theorem dX6_init_34 : decode cX6_init 34 = .ok (.aload_n 0, 1) := by decide +kernel
theorem dX6_init_35 : decode cX6_init 35 = .ok (.getfield 11, 3) := by decide +kernel
theorem dX6_init_38 : decode cX6_init 38 = .ok (.iload_n 1, 1) := by decide +kernel
theorem dX6_init_39 : decode cX6_init 39 = .ok (.new 9, 3) := by decide +kernel
theorem dX6_init_42 : decode cX6_init 42 = .ok (.dup, 1) := by decide +kernel
theorem dX6_init_43 : decode cX6_init 43 = .ok (.invokespecial 17, 3) := by decide +kernel
theorem dX6_init_46 : decode cX6_init 46 = .ok (.aastore, 1) := by decide +kernel
theorem dX6_init_47 : decode cX6_init 47 = .ok (.iinc 1 1, 3) := by decide +kernel
theorem dX6_init_50 : decode cX6_init 50 = .ok (.goto (-25), 3) := by decide +kernel
theorem dX6_init_53 : decode cX6_init 53 = .ok (.aload_n 0, 1) := by decide +kernel
theorem dX6_init_54 : decode cX6_init 54 = .ok (.iconst (-1), 1) := by decide +kernel
theorem dX6_init_55 : decode cX6_init 55 = .ok (.putfield 22, 3) := by decide +kernel
theorem dX6_init_58 : decode cX6_init 58 = .ok (.return_, 1) := by decide +kernel
theorem dX6_tallyAt_0 : decode cX6_tallyAt 0 = .ok (.iload_n 1, 1) := by decide +kernel
theorem dX6_tallyAt_1 : decode cX6_tallyAt 1 = .ok (.ifCond .lt 17, 3) := by decide +kernel
theorem dX6_tallyAt_4 : decode cX6_tallyAt 4 = .ok (.iload_n 1, 1) := by decide +kernel
theorem dX6_tallyAt_5 : decode cX6_tallyAt 5 = .ok (.iconst 4, 1) := by decide +kernel
theorem dX6_tallyAt_6 : decode cX6_tallyAt 6 = .ok (.if_icmp .ge 12, 3) := by decide +kernel
theorem dX6_tallyAt_9 : decode cX6_tallyAt 9 = .ok (.aload_n 0, 1) := by decide +kernel
theorem dX6_tallyAt_10 : decode cX6_tallyAt 10 = .ok (.getfield 11, 3) := by decide +kernel
theorem dX6_tallyAt_13 : decode cX6_tallyAt 13 = .ok (.iload_n 1, 1) := by decide +kernel
theorem dX6_tallyAt_14 : decode cX6_tallyAt 14 = .ok (.aaload, 1) := by decide +kernel
theorem dX6_tallyAt_15 : decode cX6_tallyAt 15 = .ok (.goto 7, 3) := by decide +kernel
theorem dX6_tallyAt_18 : decode cX6_tallyAt 18 = .ok (.aload_n 0, 1) := by decide +kernel
theorem dX6_tallyAt_19 : decode cX6_tallyAt 19 = .ok (.getfield 18, 3) := by decide +kernel
theorem dX6_tallyAt_22 : decode cX6_tallyAt 22 = .ok (.areturn, 1) := by decide +kernel
theorem dX6_replay_0 : decode cX6_replay 0 = .ok (.aload_n 0, 1) := by decide +kernel
theorem dX6_replay_1 : decode cX6_replay 1 = .ok (.aload_n 1, 1) := by decide +kernel
theorem dX6_replay_2 : decode cX6_replay 2 = .ok (.invokevirtual 26, 3) := by decide +kernel
theorem dX6_replay_5 : decode cX6_replay 5 = .ok (.iconst 0, 1) := by decide +kernel
theorem dX6_replay_6 : decode cX6_replay 6 = .ok (.istore_n 2, 1) := by decide +kernel
theorem dX6_replay_7 : decode cX6_replay 7 = .ok (.iload_n 2, 1) := by decide +kernel
theorem dX6_replay_8 : decode cX6_replay 8 = .ok (.aload_n 1, 1) := by decide +kernel
theorem dX6_replay_9 : decode cX6_replay 9 = .ok (.invokevirtual 30, 3) := by decide +kernel
theorem dX6_replay_12 : decode cX6_replay 12 = .ok (.if_icmp .ge 176, 3) := by decide +kernel
theorem dX6_replay_15 : decode cX6_replay 15 = .ok (.aload_n 0, 1) := by decide +kernel
theorem dX6_replay_16 : decode cX6_replay 16 = .ok (.aload_n 0, 1) := by decide +kernel
theorem dX6_replay_17 : decode cX6_replay 17 = .ok (.iload_n 2, 1) := by decide +kernel
theorem dX6_replay_18 : decode cX6_replay 18 = .ok (.invokevirtual 36, 3) := by decide +kernel
theorem dX6_replay_21 : decode cX6_replay 21 = .ok (.iload_n 2, 1) := by decide +kernel
theorem dX6_replay_22 : decode cX6_replay 22 = .ok (.iconst (-1), 1) := by decide +kernel
theorem dX6_replay_23 : decode cX6_replay 23 = .ok (.iconst (-1), 1) := by decide +kernel
theorem dX6_replay_24 : decode cX6_replay 24 = .ok (.invokevirtual 40, 3) := by decide +kernel
theorem dX6_replay_27 : decode cX6_replay 27 = .ok (.ifCond .eq 4, 3) := by decide +kernel
theorem dX6_replay_30 : decode cX6_replay 30 = .ok (.return_, 1) := by decide +kernel
theorem dX6_replay_31 : decode cX6_replay 31 = .ok (.aload_n 0, 1) := by decide +kernel
theorem dX6_replay_32 : decode cX6_replay 32 = .ok (.iload_n 2, 1) := by decide +kernel
theorem dX6_replay_33 : decode cX6_replay 33 = .ok (.invokevirtual 44, 3) := by decide +kernel
theorem dX6_replay_36 : decode cX6_replay 36 = .ok (.iconst 0, 1) := by decide +kernel
theorem dX6_replay_37 : decode cX6_replay 37 = .ok (.istore_n 3, 1) := by decide +kernel
theorem dX6_replay_38 : decode cX6_replay 38 = .ok (.iload_n 3, 1) := by decide +kernel
theorem dX6_replay_39 : decode cX6_replay 39 = .ok (.aload_n 1, 1) := by decide +kernel
theorem dX6_replay_40 : decode cX6_replay 40 = .ok (.iload_n 2, 1) := by decide +kernel
theorem dX6_replay_41 : decode cX6_replay 41 = .ok (.invokevirtual 48, 3) := by decide +kernel
theorem dX6_replay_44 : decode cX6_replay 44 = .ok (.if_icmp .ge 138, 3) := by decide +kernel
theorem dX6_replay_47 : decode cX6_replay 47 = .ok (.aload_n 1, 1) := by decide +kernel
theorem dX6_replay_48 : decode cX6_replay 48 = .ok (.iload_n 2, 1) := by decide +kernel
theorem dX6_replay_49 : decode cX6_replay 49 = .ok (.iload_n 3, 1) := by decide +kernel
theorem dX6_replay_50 : decode cX6_replay 50 = .ok (.invokevirtual 51, 3) := by decide +kernel
theorem dX6_replay_53 : decode cX6_replay 53 = .ok (.astore 4, 2) := by decide +kernel
theorem dX6_replay_55 : decode cX6_replay 55 = .ok (.aload 4, 2) := by decide +kernel
theorem dX6_replay_57 : decode cX6_replay 57 = .ok (.ifnull 22, 3) := by decide +kernel
theorem dX6_replay_60 : decode cX6_replay 60 = .ok (.aload_n 0, 1) := by decide +kernel
theorem dX6_replay_61 : decode cX6_replay 61 = .ok (.aload_n 0, 1) := by decide +kernel
theorem dX6_replay_62 : decode cX6_replay 62 = .ok (.aload 4, 2) := by decide +kernel
theorem dX6_replay_64 : decode cX6_replay 64 = .ok (.getfield 55, 3) := by decide +kernel
theorem dX6_replay_67 : decode cX6_replay 67 = .ok (.invokevirtual 60, 3) := by decide +kernel
theorem dX6_replay_70 : decode cX6_replay 70 = .ok (.iload_n 2, 1) := by decide +kernel
theorem dX6_replay_71 : decode cX6_replay 71 = .ok (.iload_n 3, 1) := by decide +kernel
theorem dX6_replay_72 : decode cX6_replay 72 = .ok (.iconst (-1), 1) := by decide +kernel
theorem dX6_replay_73 : decode cX6_replay 73 = .ok (.invokevirtual 40, 3) := by decide +kernel
theorem dX6_replay_76 : decode cX6_replay 76 = .ok (.ifCond .eq 4, 3) := by decide +kernel
theorem dX6_replay_79 : decode cX6_replay 79 = .ok (.return_, 1) := by decide +kernel
theorem dX6_replay_80 : decode cX6_replay 80 = .ok (.aload_n 0, 1) := by decide +kernel
theorem dX6_replay_81 : decode cX6_replay 81 = .ok (.iload_n 2, 1) := by decide +kernel
theorem dX6_replay_82 : decode cX6_replay 82 = .ok (.invokevirtual 63, 3) := by decide +kernel
theorem dX6_replay_85 : decode cX6_replay 85 = .ok (.aload 4, 2) := by decide +kernel
theorem dX6_replay_87 : decode cX6_replay 87 = .ok (.invokevirtual 67, 3) := by decide +kernel
theorem dX6_replay_90 : decode cX6_replay 90 = .ok (.aload_n 0, 1) := by decide +kernel
theorem dX6_replay_91 : decode cX6_replay 91 = .ok (.iconst 0, 1) := by decide +kernel
theorem dX6_replay_92 : decode cX6_replay 92 = .ok (.invokevirtual 71, 3) := by decide +kernel
theorem dX6_replay_95 : decode cX6_replay 95 = .ok (.iconst 0, 1) := by decide +kernel
theorem dX6_replay_96 : decode cX6_replay 96 = .ok (.istore 5, 2) := by decide +kernel
theorem dX6_replay_98 : decode cX6_replay 98 = .ok (.iload 5, 2) := by decide +kernel
theorem dX6_replay_100 : decode cX6_replay 100 = .ok (.aload 4, 2) := by decide +kernel
theorem dX6_replay_102 : decode cX6_replay 102 = .ok (.getfield 75, 3) := by decide +kernel
theorem dX6_replay_105 : decode cX6_replay 105 = .ok (.if_icmp .ge 71, 3) := by decide +kernel
theorem dX6_replay_108 : decode cX6_replay 108 = .ok (.aload_n 0, 1) := by decide +kernel
theorem dX6_replay_109 : decode cX6_replay 109 = .ok (.aload_n 0, 1) := by decide +kernel
theorem dX6_replay_110 : decode cX6_replay 110 = .ok (.aload 4, 2) := by decide +kernel
theorem dX6_replay_112 : decode cX6_replay 112 = .ok (.iload 5, 2) := by decide +kernel
theorem dX6_replay_114 : decode cX6_replay 114 = .ok (.invokevirtual 78, 3) := by decide +kernel
theorem dX6_replay_117 : decode cX6_replay 117 = .ok (.invokevirtual 81, 3) := by decide +kernel
theorem dX6_replay_120 : decode cX6_replay 120 = .ok (.iload_n 2, 1) := by decide +kernel
theorem dX6_replay_121 : decode cX6_replay 121 = .ok (.iload_n 3, 1) := by decide +kernel
theorem dX6_replay_122 : decode cX6_replay 122 = .ok (.iload 5, 2) := by decide +kernel
theorem dX6_replay_124 : decode cX6_replay 124 = .ok (.invokevirtual 40, 3) := by decide +kernel
theorem dX6_replay_127 : decode cX6_replay 127 = .ok (.ifCond .eq 4, 3) := by decide +kernel
theorem dX6_replay_130 : decode cX6_replay 130 = .ok (.return_, 1) := by decide +kernel
theorem dX6_replay_131 : decode cX6_replay 131 = .ok (.aload_n 0, 1) := by decide +kernel
theorem dX6_replay_132 : decode cX6_replay 132 = .ok (.iload_n 2, 1) := by decide +kernel
theorem dX6_replay_133 : decode cX6_replay 133 = .ok (.invokevirtual 63, 3) := by decide +kernel
theorem dX6_replay_136 : decode cX6_replay 136 = .ok (.aload 4, 2) := by decide +kernel
theorem dX6_replay_138 : decode cX6_replay 138 = .ok (.iload 5, 2) := by decide +kernel
theorem dX6_replay_140 : decode cX6_replay 140 = .ok (.invokevirtual 78, 3) := by decide +kernel
theorem dX6_replay_143 : decode cX6_replay 143 = .ok (.invokevirtual 84, 3) := by decide +kernel
theorem dX6_replay_146 : decode cX6_replay 146 = .ok (.aload_n 0, 1) := by decide +kernel
theorem dX6_replay_147 : decode cX6_replay 147 = .ok (.aload 4, 2) := by decide +kernel
theorem dX6_replay_149 : decode cX6_replay 149 = .ok (.iload 5, 2) := by decide +kernel
theorem dX6_replay_151 : decode cX6_replay 151 = .ok (.invokevirtual 78, 3) := by decide +kernel
theorem dX6_replay_154 : decode cX6_replay 154 = .ok (.bipush 16, 2) := by decide +kernel
theorem dX6_replay_156 : decode cX6_replay 156 = .ok (.idiv, 1) := by decide +kernel
theorem dX6_replay_157 : decode cX6_replay 157 = .ok (.bipush 9, 2) := by decide +kernel
theorem dX6_replay_159 : decode cX6_replay 159 = .ok (.if_icmp .ne 7, 3) := by decide +kernel
theorem dX6_replay_162 : decode cX6_replay 162 = .ok (.iconst 1, 1) := by decide +kernel
theorem dX6_replay_163 : decode cX6_replay 163 = .ok (.goto 4, 3) := by decide +kernel
theorem dX6_replay_166 : decode cX6_replay 166 = .ok (.iconst 0, 1) := by decide +kernel
theorem dX6_replay_167 : decode cX6_replay 167 = .ok (.invokevirtual 71, 3) := by decide +kernel
theorem dX6_replay_170 : decode cX6_replay 170 = .ok (.iinc 5 1, 3) := by decide +kernel
theorem dX6_replay_173 : decode cX6_replay 173 = .ok (.goto (-75), 3) := by decide +kernel
theorem dX6_replay_176 : decode cX6_replay 176 = .ok (.iinc 3 1, 3) := by decide +kernel
theorem dX6_replay_179 : decode cX6_replay 179 = .ok (.goto (-141), 3) := by decide +kernel
theorem dX6_replay_182 : decode cX6_replay 182 = .ok (.iinc 2 1, 3) := by decide +kernel
theorem dX6_replay_185 : decode cX6_replay 185 = .ok (.goto (-178), 3) := by decide +kernel
theorem dX6_replay_188 : decode cX6_replay 188 = .ok (.return_, 1) := by decide +kernel
theorem dX6_ruleOfTurn_0 : decode cX6_ruleOfTurn 0 = .ok (.iload_n 1, 1) := by decide +kernel
theorem dX6_ruleOfTurn_1 : decode cX6_ruleOfTurn 1 = .ok (.ifCond .le 18, 3) := by decide +kernel
theorem dX6_ruleOfTurn_4 : decode cX6_ruleOfTurn 4 = .ok (.aload_n 0, 1) := by decide +kernel
theorem dX6_ruleOfTurn_5 : decode cX6_ruleOfTurn 5 = .ok (.iload_n 1, 1) := by decide +kernel
theorem dX6_ruleOfTurn_6 : decode cX6_ruleOfTurn 6 = .ok (.iconst 1, 1) := by decide +kernel
theorem dX6_ruleOfTurn_7 : decode cX6_ruleOfTurn 7 = .ok (.isub, 1) := by decide +kernel
theorem dX6_ruleOfTurn_8 : decode cX6_ruleOfTurn 8 = .ok (.invokevirtual 63, 3) := by decide +kernel
theorem dX6_ruleOfTurn_11 : decode cX6_ruleOfTurn 11 = .ok (.getfield 87, 3) := by decide +kernel
theorem dX6_ruleOfTurn_14 : decode cX6_ruleOfTurn 14 = .ok (.ifCond .ne 5, 3) := by decide +kernel
theorem dX6_ruleOfTurn_17 : decode cX6_ruleOfTurn 17 = .ok (.iconst 1, 1) := by decide +kernel
theorem dX6_ruleOfTurn_18 : decode cX6_ruleOfTurn 18 = .ok (.ireturn, 1) := by decide +kernel
theorem dX6_ruleOfTurn_19 : decode cX6_ruleOfTurn 19 = .ok (.aload_n 0, 1) := by decide +kernel
theorem dX6_ruleOfTurn_20 : decode cX6_ruleOfTurn 20 = .ok (.getfield 90, 3) := by decide +kernel
theorem dX6_ruleOfTurn_23 : decode cX6_ruleOfTurn 23 = .ok (.ifCond .ne 11, 3) := by decide +kernel
theorem dX6_ruleOfTurn_26 : decode cX6_ruleOfTurn 26 = .ok (.iload_n 1, 1) := by decide +kernel
theorem dX6_ruleOfTurn_27 : decode cX6_ruleOfTurn 27 = .ok (.aload_n 0, 1) := by decide +kernel
theorem dX6_ruleOfTurn_28 : decode cX6_ruleOfTurn 28 = .ok (.getfield 93, 3) := by decide +kernel
theorem dX6_ruleOfTurn_31 : decode cX6_ruleOfTurn 31 = .ok (.if_icmp .le 7, 3) := by decide +kernel
theorem dX6_ruleOfTurn_34 : decode cX6_ruleOfTurn 34 = .ok (.iconst 2, 1) := by decide +kernel
theorem dX6_ruleOfTurn_35 : decode cX6_ruleOfTurn 35 = .ok (.goto 4, 3) := by decide +kernel
theorem dX6_ruleOfTurn_38 : decode cX6_ruleOfTurn 38 = .ok (.iconst 0, 1) := by decide +kernel
theorem dX6_ruleOfTurn_39 : decode cX6_ruleOfTurn 39 = .ok (.ireturn, 1) := by decide +kernel
theorem dX6_ruleOfOver_0 : decode cX6_ruleOfOver 0 = .ok (.aload_n 0, 1) := by decide +kernel
theorem dX6_ruleOfOver_1 : decode cX6_ruleOfOver 1 = .ok (.aload_n 0, 1) := by decide +kernel
theorem dX6_ruleOfOver_2 : decode cX6_ruleOfOver 2 = .ok (.getfield 22, 3) := by decide +kernel
theorem dX6_ruleOfOver_5 : decode cX6_ruleOfOver 5 = .ok (.invokevirtual 63, 3) := by decide +kernel
theorem dX6_ruleOfOver_8 : decode cX6_ruleOfOver 8 = .ok (.iload_n 1, 1) := by decide +kernel
theorem dX6_ruleOfOver_9 : decode cX6_ruleOfOver 9 = .ok (.aload_n 0, 1) := by decide +kernel
theorem dX6_ruleOfOver_10 : decode cX6_ruleOfOver 10 = .ok (.getfield 96, 3) := by decide +kernel
theorem dX6_ruleOfOver_13 : decode cX6_ruleOfOver 13 = .ok (.iconst 4, 1) := by decide +kernel
theorem dX6_ruleOfOver_14 : decode cX6_ruleOfOver 14 = .ok (.iadd, 1) := by decide +kernel
theorem dX6_ruleOfOver_15 : decode cX6_ruleOfOver 15 = .ok (.iconst 5, 1) := by decide +kernel
theorem dX6_ruleOfOver_16 : decode cX6_ruleOfOver 16 = .ok (.idiv, 1) := by decide +kernel
theorem dX6_ruleOfOver_17 : decode cX6_ruleOfOver 17 = .ok (.invokevirtual 99, 3) := by decide +kernel
theorem dX6_ruleOfOver_20 : decode cX6_ruleOfOver 20 = .ok (.ireturn, 1) := by decide +kernel
theorem dX6_ruleOfEntry_0 : decode cX6_ruleOfEntry 0 = .ok (.aload_n 0, 1) := by decide +kernel
theorem dX6_ruleOfEntry_1 : decode cX6_ruleOfEntry 1 = .ok (.aload_n 0, 1) := by decide +kernel
theorem dX6_ruleOfEntry_2 : decode cX6_ruleOfEntry 2 = .ok (.getfield 22, 3) := by decide +kernel
theorem dX6_ruleOfEntry_5 : decode cX6_ruleOfEntry 5 = .ok (.invokevirtual 63, 3) := by decide +kernel
theorem dX6_ruleOfEntry_8 : decode cX6_ruleOfEntry 8 = .ok (.iload_n 1, 1) := by decide +kernel
theorem dX6_ruleOfEntry_9 : decode cX6_ruleOfEntry 9 = .ok (.aload_n 0, 1) := by decide +kernel
theorem dX6_ruleOfEntry_10 : decode cX6_ruleOfEntry 10 = .ok (.getfield 93, 3) := by decide +kernel
theorem dX6_ruleOfEntry_13 : decode cX6_ruleOfEntry 13 = .ok (.iconst 1, 1) := by decide +kernel
theorem dX6_ruleOfEntry_14 : decode cX6_ruleOfEntry 14 = .ok (.if_icmp .ne 7, 3) := by decide +kernel
theorem dX6_ruleOfEntry_17 : decode cX6_ruleOfEntry 17 = .ok (.iconst 1, 1) := by decide +kernel
theorem dX6_ruleOfEntry_18 : decode cX6_ruleOfEntry 18 = .ok (.goto 4, 3) := by decide +kernel
theorem dX6_ruleOfEntry_21 : decode cX6_ruleOfEntry 21 = .ok (.iconst 0, 1) := by decide +kernel
theorem dX6_ruleOfEntry_22 : decode cX6_ruleOfEntry 22 = .ok (.invokevirtual 102, 3) := by decide +kernel
theorem dX6_ruleOfEntry_25 : decode cX6_ruleOfEntry 25 = .ok (.ireturn, 1) := by decide +kernel
theorem dX6_figure_0 : decode cX6_figure 0 = .ok (.iload_n 1, 1) := by decide +kernel
theorem dX6_figure_1 : decode cX6_figure 1 = .ok (.tableswitch 105 0 14 #[75, 105, 105, 105, 105, 105, 105, 105, 105, 105, 80, 85, 90, 95, 100], 75) := by decide +kernel
theorem dX6_figure_76 : decode cX6_figure 76 = .ok (.aload_n 0, 1) := by decide +kernel
theorem dX6_figure_77 : decode cX6_figure 77 = .ok (.getfield 22, 3) := by decide +kernel
theorem dX6_figure_80 : decode cX6_figure 80 = .ok (.ireturn, 1) := by decide +kernel
theorem dX6_figure_81 : decode cX6_figure 81 = .ok (.aload_n 0, 1) := by decide +kernel
theorem dX6_figure_82 : decode cX6_figure 82 = .ok (.getfield 90, 3) := by decide +kernel
theorem dX6_figure_85 : decode cX6_figure 85 = .ok (.ireturn, 1) := by decide +kernel
theorem dX6_figure_86 : decode cX6_figure 86 = .ok (.aload_n 0, 1) := by decide +kernel
theorem dX6_figure_87 : decode cX6_figure 87 = .ok (.getfield 105, 3) := by decide +kernel
theorem dX6_figure_90 : decode cX6_figure 90 = .ok (.ireturn, 1) := by decide +kernel
theorem dX6_figure_91 : decode cX6_figure 91 = .ok (.aload_n 0, 1) := by decide +kernel
theorem dX6_figure_92 : decode cX6_figure 92 = .ok (.getfield 108, 3) := by decide +kernel
theorem dX6_figure_95 : decode cX6_figure 95 = .ok (.ireturn, 1) := by decide +kernel
theorem dX6_figure_96 : decode cX6_figure 96 = .ok (.aload_n 0, 1) := by decide +kernel
theorem dX6_figure_97 : decode cX6_figure 97 = .ok (.getfield 111, 3) := by decide +kernel
theorem dX6_figure_100 : decode cX6_figure 100 = .ok (.ireturn, 1) := by decide +kernel
theorem dX6_figure_101 : decode cX6_figure 101 = .ok (.aload_n 0, 1) := by decide +kernel
theorem dX6_figure_102 : decode cX6_figure 102 = .ok (.getfield 114, 3) := by decide +kernel
theorem dX6_figure_105 : decode cX6_figure 105 = .ok (.ireturn, 1) := by decide +kernel
theorem dX6_figure_106 : decode cX6_figure 106 = .ok (.aload_n 0, 1) := by decide +kernel
theorem dX6_figure_107 : decode cX6_figure 107 = .ok (.getfield 22, 3) := by decide +kernel
theorem dX6_figure_110 : decode cX6_figure 110 = .ok (.iconst (-1), 1) := by decide +kernel
theorem dX6_figure_111 : decode cX6_figure 111 = .ok (.if_icmp .ne 7, 3) := by decide +kernel
theorem dX6_figure_114 : decode cX6_figure 114 = .ok (.iconst (-1), 1) := by decide +kernel
theorem dX6_figure_115 : decode cX6_figure 115 = .ok (.goto 8, 3) := by decide +kernel
theorem dX6_figure_118 : decode cX6_figure 118 = .ok (.aload_n 0, 1) := by decide +kernel
theorem dX6_figure_119 : decode cX6_figure 119 = .ok (.iload_n 1, 1) := by decide +kernel
theorem dX6_figure_120 : decode cX6_figure 120 = .ok (.invokevirtual 117, 3) := by decide +kernel
theorem dX6_figure_123 : decode cX6_figure 123 = .ok (.ireturn, 1) := by decide +kernel
theorem dX6_figureAtHand_0 : decode cX6_figureAtHand 0 = .ok (.aload_n 0, 1) := by decide +kernel
theorem dX6_figureAtHand_1 : decode cX6_figureAtHand 1 = .ok (.aload_n 0, 1) := by decide +kernel
theorem dX6_figureAtHand_2 : decode cX6_figureAtHand 2 = .ok (.getfield 22, 3) := by decide +kernel
theorem dX6_figureAtHand_5 : decode cX6_figureAtHand 5 = .ok (.invokevirtual 63, 3) := by decide +kernel
theorem dX6_figureAtHand_8 : decode cX6_figureAtHand 8 = .ok (.astore_n 2, 1) := by decide +kernel
theorem dX6_figureAtHand_9 : decode cX6_figureAtHand 9 = .ok (.iload_n 1, 1) := by decide +kernel
theorem dX6_figureAtHand_10 : decode cX6_figureAtHand 10 = .ok (.tableswitch 86 1 9 #[50, 55, 60, 65, 70, 86, 86, 86, 75], 50) := by decide +kernel
theorem dX6_figureAtHand_60 : decode cX6_figureAtHand 60 = .ok (.aload_n 2, 1) := by decide +kernel
theorem dX6_figureAtHand_61 : decode cX6_figureAtHand 61 = .ok (.getfield 120, 3) := by decide +kernel
theorem dX6_figureAtHand_64 : decode cX6_figureAtHand 64 = .ok (.ireturn, 1) := by decide +kernel
theorem dX6_figureAtHand_65 : decode cX6_figureAtHand 65 = .ok (.aload_n 2, 1) := by decide +kernel
theorem dX6_figureAtHand_66 : decode cX6_figureAtHand 66 = .ok (.getfield 123, 3) := by decide +kernel
theorem dX6_figureAtHand_69 : decode cX6_figureAtHand 69 = .ok (.ireturn, 1) := by decide +kernel
theorem dX6_figureAtHand_70 : decode cX6_figureAtHand 70 = .ok (.aload_n 2, 1) := by decide +kernel
theorem dX6_figureAtHand_71 : decode cX6_figureAtHand 71 = .ok (.getfield 126, 3) := by decide +kernel
theorem dX6_figureAtHand_74 : decode cX6_figureAtHand 74 = .ok (.ireturn, 1) := by decide +kernel
theorem dX6_figureAtHand_75 : decode cX6_figureAtHand 75 = .ok (.aload_n 2, 1) := by decide +kernel
theorem dX6_figureAtHand_76 : decode cX6_figureAtHand 76 = .ok (.invokevirtual 127, 3) := by decide +kernel
theorem dX6_figureAtHand_79 : decode cX6_figureAtHand 79 = .ok (.ireturn, 1) := by decide +kernel
theorem dX6_figureAtHand_80 : decode cX6_figureAtHand 80 = .ok (.aload_n 2, 1) := by decide +kernel
theorem dX6_figureAtHand_81 : decode cX6_figureAtHand 81 = .ok (.getfield 87, 3) := by decide +kernel
theorem dX6_figureAtHand_84 : decode cX6_figureAtHand 84 = .ok (.ireturn, 1) := by decide +kernel
theorem dX6_figureAtHand_85 : decode cX6_figureAtHand 85 = .ok (.aload_n 2, 1) := by decide +kernel
theorem dX6_figureAtHand_86 : decode cX6_figureAtHand 86 = .ok (.getfield 130, 3) := by decide +kernel
theorem dX6_figureAtHand_89 : decode cX6_figureAtHand 89 = .ok (.aload_n 0, 1) := by decide +kernel
theorem dX6_figureAtHand_90 : decode cX6_figureAtHand 90 = .ok (.aload_n 2, 1) := by decide +kernel
theorem dX6_figureAtHand_91 : decode cX6_figureAtHand 91 = .ok (.invokevirtual 133, 3) := by decide +kernel
theorem dX6_figureAtHand_94 : decode cX6_figureAtHand 94 = .ok (.iadd, 1) := by decide +kernel
theorem dX6_figureAtHand_95 : decode cX6_figureAtHand 95 = .ok (.ireturn, 1) := by decide +kernel
theorem dX6_figureAtHand_96 : decode cX6_figureAtHand 96 = .ok (.aload_n 0, 1) := by decide +kernel
theorem dX6_figureAtHand_97 : decode cX6_figureAtHand 97 = .ok (.getfield 22, 3) := by decide +kernel
theorem dX6_figureAtHand_100 : decode cX6_figureAtHand 100 = .ok (.aload_n 0, 1) := by decide +kernel
theorem dX6_figureAtHand_101 : decode cX6_figureAtHand 101 = .ok (.getfield 93, 3) := by decide +kernel
theorem dX6_figureAtHand_104 : decode cX6_figureAtHand 104 = .ok (.if_icmp .ne 12, 3) := by decide +kernel
theorem dX6_figureAtHand_107 : decode cX6_figureAtHand 107 = .ok (.aload_n 0, 1) := by decide +kernel
theorem dX6_figureAtHand_108 : decode cX6_figureAtHand 108 = .ok (.aload_n 2, 1) := by decide +kernel
theorem dX6_figureAtHand_109 : decode cX6_figureAtHand 109 = .ok (.iload_n 1, 1) := by decide +kernel
theorem dX6_figureAtHand_110 : decode cX6_figureAtHand 110 = .ok (.invokevirtual 137, 3) := by decide +kernel
theorem dX6_figureAtHand_113 : decode cX6_figureAtHand 113 = .ok (.goto 4, 3) := by decide +kernel
theorem dX6_figureAtHand_116 : decode cX6_figureAtHand 116 = .ok (.iconst (-1), 1) := by decide +kernel
theorem dX6_figureAtHand_117 : decode cX6_figureAtHand 117 = .ok (.ireturn, 1) := by decide +kernel
theorem dX6_figureOfChase_0 : decode cX6_figureOfChase 0 = .ok (.aload_n 0, 1) := by decide +kernel
theorem dX6_figureOfChase_1 : decode cX6_figureOfChase 1 = .ok (.invokevirtual 141, 3) := by decide +kernel
theorem dX6_figureOfChase_4 : decode cX6_figureOfChase 4 = .ok (.aload_n 1, 1) := by decide +kernel
theorem dX6_figureOfChase_5 : decode cX6_figureOfChase 5 = .ok (.getfield 130, 3) := by decide +kernel
theorem dX6_figureOfChase_8 : decode cX6_figureOfChase 8 = .ok (.isub, 1) := by decide +kernel
theorem dX6_figureOfChase_9 : decode cX6_figureOfChase 9 = .ok (.iconst 0, 1) := by decide +kernel
theorem dX6_figureOfChase_10 : decode cX6_figureOfChase 10 = .ok (.invokestatic 144, 3) := by decide +kernel
theorem dX6_figureOfChase_13 : decode cX6_figureOfChase 13 = .ok (.istore_n 3, 1) := by decide +kernel
theorem dX6_figureOfChase_14 : decode cX6_figureOfChase 14 = .ok (.iload_n 2, 1) := by decide +kernel
theorem dX6_figureOfChase_15 : decode cX6_figureOfChase 15 = .ok (.lookupswitch 32 #[(6, 25), (7, 30)], 25) := by decide +kernel
theorem dX6_figureOfChase_40 : decode cX6_figureOfChase 40 = .ok (.aload_n 0, 1) := by decide +kernel
theorem dX6_figureOfChase_41 : decode cX6_figureOfChase 41 = .ok (.invokevirtual 141, 3) := by decide +kernel
theorem dX6_figureOfChase_44 : decode cX6_figureOfChase 44 = .ok (.ireturn, 1) := by decide +kernel
theorem dX6_figureOfChase_45 : decode cX6_figureOfChase 45 = .ok (.iload_n 3, 1) := by decide +kernel
theorem dX6_figureOfChase_46 : decode cX6_figureOfChase 46 = .ok (.ireturn, 1) := by decide +kernel
theorem dX6_figureOfChase_47 : decode cX6_figureOfChase 47 = .ok (.iload_n 3, 1) := by decide +kernel
theorem dX6_figureOfChase_48 : decode cX6_figureOfChase 48 = .ok (.aload_n 0, 1) := by decide +kernel
theorem dX6_figureOfChase_49 : decode cX6_figureOfChase 49 = .ok (.aload_n 1, 1) := by decide +kernel
theorem dX6_figureOfChase_50 : decode cX6_figureOfChase 50 = .ok (.invokevirtual 133, 3) := by decide +kernel
theorem dX6_figureOfChase_53 : decode cX6_figureOfChase 53 = .ok (.if_icmp .gt 7, 3) := by decide +kernel
theorem dX6_figureOfChase_56 : decode cX6_figureOfChase 56 = .ok (.iconst 1, 1) := by decide +kernel
theorem dX6_figureOfChase_57 : decode cX6_figureOfChase 57 = .ok (.goto 4, 3) := by decide +kernel
theorem dX6_figureOfChase_60 : decode cX6_figureOfChase 60 = .ok (.iconst 0, 1) := by decide +kernel
theorem dX6_figureOfChase_61 : decode cX6_figureOfChase 61 = .ok (.ireturn, 1) := by decide +kernel
theorem dX6_stillToBeHad_0 : decode cX6_stillToBeHad 0 = .ok (.aload_n 1, 1) := by decide +kernel
theorem dX6_stillToBeHad_1 : decode cX6_stillToBeHad 1 = .ok (.getfield 87, 3) := by decide +kernel
theorem dX6_stillToBeHad_4 : decode cX6_stillToBeHad 4 = .ok (.ifCond .eq 7, 3) := by decide +kernel
theorem dX6_stillToBeHad_7 : decode cX6_stillToBeHad 7 = .ok (.iconst 0, 1) := by decide +kernel
theorem dX6_stillToBeHad_8 : decode cX6_stillToBeHad 8 = .ok (.goto 10, 3) := by decide +kernel
theorem dX6_stillToBeHad_11 : decode cX6_stillToBeHad 11 = .ok (.bipush 6, 2) := by decide +kernel
theorem dX6_stillToBeHad_13 : decode cX6_stillToBeHad 13 = .ok (.aload_n 1, 1) := by decide +kernel
theorem dX6_stillToBeHad_14 : decode cX6_stillToBeHad 14 = .ok (.invokevirtual 127, 3) := by decide +kernel
theorem dX6_stillToBeHad_17 : decode cX6_stillToBeHad 17 = .ok (.imul, 1) := by decide +kernel
theorem dX6_stillToBeHad_18 : decode cX6_stillToBeHad 18 = .ok (.ireturn, 1) := by decide +kernel
theorem dX6_start_0 : decode cX6_start 0 = .ok (.aload_n 0, 1) := by decide +kernel
theorem dX6_start_1 : decode cX6_start 1 = .ok (.aload_n 1, 1) := by decide +kernel
theorem dX6_start_2 : decode cX6_start 2 = .ok (.getfield 149, 3) := by decide +kernel
theorem dX6_start_5 : decode cX6_start 5 = .ok (.putfield 96, 3) := by decide +kernel
theorem dX6_start_8 : decode cX6_start 8 = .ok (.aload_n 0, 1) := by decide +kernel
theorem dX6_start_9 : decode cX6_start 9 = .ok (.iconst 2, 1) := by decide +kernel
theorem dX6_start_10 : decode cX6_start 10 = .ok (.aload_n 1, 1) := by decide +kernel
theorem dX6_start_11 : decode cX6_start 11 = .ok (.getfield 152, 3) := by decide +kernel
theorem dX6_start_14 : decode cX6_start 14 = .ok (.imul, 1) := by decide +kernel
theorem dX6_start_15 : decode cX6_start 15 = .ok (.iconst 1, 1) := by decide +kernel
theorem dX6_start_16 : decode cX6_start 16 = .ok (.isub, 1) := by decide +kernel
theorem dX6_start_17 : decode cX6_start 17 = .ok (.putfield 93, 3) := by decide +kernel
theorem dX6_start_20 : decode cX6_start 20 = .ok (.aload_n 0, 1) := by decide +kernel
theorem dX6_start_21 : decode cX6_start 21 = .ok (.iconst (-1), 1) := by decide +kernel
theorem dX6_start_22 : decode cX6_start 22 = .ok (.putfield 22, 3) := by decide +kernel
theorem dX6_start_25 : decode cX6_start 25 = .ok (.aload_n 0, 1) := by decide +kernel
theorem dX6_start_26 : decode cX6_start 26 = .ok (.iconst 0, 1) := by decide +kernel
theorem dX6_start_27 : decode cX6_start 27 = .ok (.putfield 90, 3) := by decide +kernel
theorem dX6_start_30 : decode cX6_start 30 = .ok (.aload_n 0, 1) := by decide +kernel
theorem dX6_start_31 : decode cX6_start 31 = .ok (.iconst 0, 1) := by decide +kernel
theorem dX6_start_32 : decode cX6_start 32 = .ok (.putfield 105, 3) := by decide +kernel
theorem dX6_start_35 : decode cX6_start 35 = .ok (.aload_n 0, 1) := by decide +kernel
theorem dX6_start_36 : decode cX6_start 36 = .ok (.iconst (-1), 1) := by decide +kernel
theorem dX6_start_37 : decode cX6_start 37 = .ok (.putfield 108, 3) := by decide +kernel
theorem dX6_start_40 : decode cX6_start 40 = .ok (.aload_n 0, 1) := by decide +kernel
theorem dX6_start_41 : decode cX6_start 41 = .ok (.iconst (-1), 1) := by decide +kernel
theorem dX6_start_42 : decode cX6_start 42 = .ok (.putfield 111, 3) := by decide +kernel
theorem dX6_start_45 : decode cX6_start 45 = .ok (.aload_n 0, 1) := by decide +kernel
theorem dX6_start_46 : decode cX6_start 46 = .ok (.iconst (-1), 1) := by decide +kernel
theorem dX6_start_47 : decode cX6_start 47 = .ok (.putfield 114, 3) := by decide +kernel
theorem dX6_start_50 : decode cX6_start 50 = .ok (.iconst 0, 1) := by decide +kernel
theorem dX6_start_51 : decode cX6_start 51 = .ok (.istore_n 2, 1) := by decide +kernel
theorem dX6_start_52 : decode cX6_start 52 = .ok (.iload_n 2, 1) := by decide +kernel
theorem dX6_start_53 : decode cX6_start 53 = .ok (.aload_n 1, 1) := by decide +kernel
theorem dX6_start_54 : decode cX6_start 54 = .ok (.invokevirtual 30, 3) := by decide +kernel
theorem dX6_start_57 : decode cX6_start 57 = .ok (.if_icmp .ge 17, 3) := by decide +kernel
theorem dX6_start_60 : decode cX6_start 60 = .ok (.aload_n 0, 1) := by decide +kernel
theorem dX6_start_61 : decode cX6_start 61 = .ok (.iload_n 2, 1) := by decide +kernel
theorem dX6_start_62 : decode cX6_start 62 = .ok (.invokevirtual 63, 3) := by decide +kernel
theorem dX6_start_65 : decode cX6_start 65 = .ok (.invokevirtual 155, 3) := by decide +kernel
theorem dX6_start_68 : decode cX6_start 68 = .ok (.iinc 2 1, 3) := by decide +kernel
theorem dX6_start_71 : decode cX6_start 71 = .ok (.goto (-19), 3) := by decide +kernel
theorem dX6_start_74 : decode cX6_start 74 = .ok (.return_, 1) := by decide +kernel
theorem dX6_stops_0 : decode cX6_stops 0 = .ok (.iload_n 1, 1) := by decide +kernel
theorem dX6_stops_1 : decode cX6_stops 1 = .ok (.ifCond .ne 5, 3) := by decide +kernel
theorem dX6_stops_4 : decode cX6_stops 4 = .ok (.iconst 0, 1) := by decide +kernel
theorem dX6_stops_5 : decode cX6_stops 5 = .ok (.ireturn, 1) := by decide +kernel
theorem dX6_stops_6 : decode cX6_stops 6 = .ok (.aload_n 0, 1) := by decide +kernel
theorem dX6_stops_7 : decode cX6_stops 7 = .ok (.iload_n 1, 1) := by decide +kernel
theorem dX6_stops_8 : decode cX6_stops 8 = .ok (.putfield 105, 3) := by decide +kernel
theorem dX6_stops_11 : decode cX6_stops 11 = .ok (.aload_n 0, 1) := by decide +kernel
theorem dX6_stops_12 : decode cX6_stops 12 = .ok (.iload_n 2, 1) := by decide +kernel
theorem dX6_stops_13 : decode cX6_stops 13 = .ok (.putfield 108, 3) := by decide +kernel
theorem dX6_stops_16 : decode cX6_stops 16 = .ok (.aload_n 0, 1) := by decide +kernel
theorem dX6_stops_17 : decode cX6_stops 17 = .ok (.iload_n 3, 1) := by decide +kernel
theorem dX6_stops_18 : decode cX6_stops 18 = .ok (.putfield 111, 3) := by decide +kernel
theorem dX6_stops_21 : decode cX6_stops 21 = .ok (.aload_n 0, 1) := by decide +kernel
theorem dX6_stops_22 : decode cX6_stops 22 = .ok (.iload 4, 2) := by decide +kernel
theorem dX6_stops_24 : decode cX6_stops 24 = .ok (.putfield 114, 3) := by decide +kernel
theorem dX6_stops_27 : decode cX6_stops 27 = .ok (.iconst 1, 1) := by decide +kernel
theorem dX6_stops_28 : decode cX6_stops 28 = .ok (.ireturn, 1) := by decide +kernel
theorem dX6_beginTurn_0 : decode cX6_beginTurn 0 = .ok (.aload_n 0, 1) := by decide +kernel
theorem dX6_beginTurn_1 : decode cX6_beginTurn 1 = .ok (.iload_n 1, 1) := by decide +kernel
theorem dX6_beginTurn_2 : decode cX6_beginTurn 2 = .ok (.putfield 22, 3) := by decide +kernel
theorem dX6_beginTurn_5 : decode cX6_beginTurn 5 = .ok (.iload_n 1, 1) := by decide +kernel
theorem dX6_beginTurn_6 : decode cX6_beginTurn 6 = .ok (.iconst 1, 1) := by decide +kernel
theorem dX6_beginTurn_7 : decode cX6_beginTurn 7 = .ok (.if_icmp .ne 15, 3) := by decide +kernel
theorem dX6_beginTurn_10 : decode cX6_beginTurn 10 = .ok (.aload_n 0, 1) := by decide +kernel
theorem dX6_beginTurn_11 : decode cX6_beginTurn 11 = .ok (.getfield 93, 3) := by decide +kernel
theorem dX6_beginTurn_14 : decode cX6_beginTurn 14 = .ok (.iconst 1, 1) := by decide +kernel
theorem dX6_beginTurn_15 : decode cX6_beginTurn 15 = .ok (.if_icmp .ne 7, 3) := by decide +kernel
theorem dX6_beginTurn_18 : decode cX6_beginTurn 18 = .ok (.iconst 1, 1) := by decide +kernel
theorem dX6_beginTurn_19 : decode cX6_beginTurn 19 = .ok (.goto 4, 3) := by decide +kernel
theorem dX6_beginTurn_22 : decode cX6_beginTurn 22 = .ok (.iconst 0, 1) := by decide +kernel
theorem dX6_beginTurn_23 : decode cX6_beginTurn 23 = .ok (.istore_n 2, 1) := by decide +kernel
theorem dX6_beginTurn_24 : decode cX6_beginTurn 24 = .ok (.aload_n 0, 1) := by decide +kernel
theorem dX6_beginTurn_25 : decode cX6_beginTurn 25 = .ok (.iload_n 1, 1) := by decide +kernel
theorem dX6_beginTurn_26 : decode cX6_beginTurn 26 = .ok (.invokevirtual 63, 3) := by decide +kernel
theorem dX6_beginTurn_29 : decode cX6_beginTurn 29 = .ok (.iload_n 2, 1) := by decide +kernel
theorem dX6_beginTurn_30 : decode cX6_beginTurn 30 = .ok (.ifCond .eq 14, 3) := by decide +kernel
theorem dX6_beginTurn_33 : decode cX6_beginTurn 33 = .ok (.aload_n 0, 1) := by decide +kernel
theorem dX6_beginTurn_34 : decode cX6_beginTurn 34 = .ok (.iconst 0, 1) := by decide +kernel
theorem dX6_beginTurn_35 : decode cX6_beginTurn 35 = .ok (.invokevirtual 63, 3) := by decide +kernel
theorem dX6_beginTurn_38 : decode cX6_beginTurn 38 = .ok (.getfield 158, 3) := by decide +kernel
theorem dX6_beginTurn_41 : decode cX6_beginTurn 41 = .ok (.goto 7, 3) := by decide +kernel
theorem dX6_beginTurn_44 : decode cX6_beginTurn 44 = .ok (.aload_n 0, 1) := by decide +kernel
theorem dX6_beginTurn_45 : decode cX6_beginTurn 45 = .ok (.getfield 96, 3) := by decide +kernel
theorem dX6_beginTurn_48 : decode cX6_beginTurn 48 = .ok (.invokevirtual 161, 3) := by decide +kernel
theorem dX6_beginTurn_51 : decode cX6_beginTurn 51 = .ok (.return_, 1) := by decide +kernel
theorem dX6_target_0 : decode cX6_target 0 = .ok (.aload_n 0, 1) := by decide +kernel
theorem dX6_target_1 : decode cX6_target 1 = .ok (.getfield 93, 3) := by decide +kernel
theorem dX6_target_4 : decode cX6_target 4 = .ok (.iconst 1, 1) := by decide +kernel
theorem dX6_target_5 : decode cX6_target 5 = .ok (.if_icmp .le 32, 3) := by decide +kernel
theorem dX6_target_8 : decode cX6_target 8 = .ok (.aload_n 0, 1) := by decide +kernel
theorem dX6_target_9 : decode cX6_target 9 = .ok (.iconst 0, 1) := by decide +kernel
theorem dX6_target_10 : decode cX6_target 10 = .ok (.invokevirtual 63, 3) := by decide +kernel
theorem dX6_target_13 : decode cX6_target 13 = .ok (.getfield 130, 3) := by decide +kernel
theorem dX6_target_16 : decode cX6_target 16 = .ok (.aload_n 0, 1) := by decide +kernel
theorem dX6_target_17 : decode cX6_target 17 = .ok (.iconst 2, 1) := by decide +kernel
theorem dX6_target_18 : decode cX6_target 18 = .ok (.invokevirtual 63, 3) := by decide +kernel
theorem dX6_target_21 : decode cX6_target 21 = .ok (.getfield 130, 3) := by decide +kernel
theorem dX6_target_24 : decode cX6_target 24 = .ok (.iadd, 1) := by decide +kernel
theorem dX6_target_25 : decode cX6_target 25 = .ok (.aload_n 0, 1) := by decide +kernel
theorem dX6_target_26 : decode cX6_target 26 = .ok (.iconst 1, 1) := by decide +kernel
theorem dX6_target_27 : decode cX6_target 27 = .ok (.invokevirtual 63, 3) := by decide +kernel
theorem dX6_target_30 : decode cX6_target 30 = .ok (.getfield 130, 3) := by decide +kernel
theorem dX6_target_33 : decode cX6_target 33 = .ok (.isub, 1) := by decide +kernel
theorem dX6_target_34 : decode cX6_target 34 = .ok (.iconst 1, 1) := by decide +kernel
theorem dX6_target_35 : decode cX6_target 35 = .ok (.iadd, 1) := by decide +kernel
theorem dX6_target_36 : decode cX6_target 36 = .ok (.ireturn, 1) := by decide +kernel
theorem dX6_target_37 : decode cX6_target 37 = .ok (.aload_n 0, 1) := by decide +kernel
theorem dX6_target_38 : decode cX6_target 38 = .ok (.iconst 0, 1) := by decide +kernel
theorem dX6_target_39 : decode cX6_target 39 = .ok (.invokevirtual 63, 3) := by decide +kernel
theorem dX6_target_42 : decode cX6_target 42 = .ok (.getfield 130, 3) := by decide +kernel
theorem dX6_target_45 : decode cX6_target 45 = .ok (.istore_n 1, 1) := by decide +kernel
theorem dX6_target_46 : decode cX6_target 46 = .ok (.aload_n 0, 1) := by decide +kernel
theorem dX6_target_47 : decode cX6_target 47 = .ok (.iconst 0, 1) := by decide +kernel
theorem dX6_target_48 : decode cX6_target 48 = .ok (.invokevirtual 63, 3) := by decide +kernel
theorem dX6_target_51 : decode cX6_target 51 = .ok (.getfield 164, 3) := by decide +kernel
theorem dX6_target_54 : decode cX6_target 54 = .ok (.istore_n 2, 1) := by decide +kernel
theorem dX6_target_55 : decode cX6_target 55 = .ok (.aload_n 0, 1) := by decide +kernel
theorem dX6_target_56 : decode cX6_target 56 = .ok (.iconst 1, 1) := by decide +kernel
theorem dX6_target_57 : decode cX6_target 57 = .ok (.invokevirtual 63, 3) := by decide +kernel
theorem dX6_target_60 : decode cX6_target 60 = .ok (.getfield 164, 3) := by decide +kernel
theorem dX6_target_63 : decode cX6_target 63 = .ok (.istore_n 3, 1) := by decide +kernel
theorem dX6_target_64 : decode cX6_target 64 = .ok (.iload_n 3, 1) := by decide +kernel
theorem dX6_target_65 : decode cX6_target 65 = .ok (.iload_n 2, 1) := by decide +kernel
theorem dX6_target_66 : decode cX6_target 66 = .ok (.if_icmp .le 19, 3) := by decide +kernel
theorem dX6_target_69 : decode cX6_target 69 = .ok (.iload_n 1, 1) := by decide +kernel
theorem dX6_target_70 : decode cX6_target 70 = .ok (.sipush 200, 3) := by decide +kernel
theorem dX6_target_73 : decode cX6_target 73 = .ok (.iload_n 3, 1) := by decide +kernel
theorem dX6_target_74 : decode cX6_target 74 = .ok (.iload_n 2, 1) := by decide +kernel
theorem dX6_target_75 : decode cX6_target 75 = .ok (.isub, 1) := by decide +kernel
theorem dX6_target_76 : decode cX6_target 76 = .ok (.imul, 1) := by decide +kernel
theorem dX6_target_77 : decode cX6_target 77 = .ok (.sipush 1000, 3) := by decide +kernel
theorem dX6_target_80 : decode cX6_target 80 = .ok (.idiv, 1) := by decide +kernel
theorem dX6_target_81 : decode cX6_target 81 = .ok (.iadd, 1) := by decide +kernel
theorem dX6_target_82 : decode cX6_target 82 = .ok (.iconst 1, 1) := by decide +kernel
theorem dX6_target_83 : decode cX6_target 83 = .ok (.iadd, 1) := by decide +kernel
theorem dX6_target_84 : decode cX6_target 84 = .ok (.ireturn, 1) := by decide +kernel
theorem dX6_target_85 : decode cX6_target 85 = .ok (.iload_n 2, 1) := by decide +kernel
theorem dX6_target_86 : decode cX6_target 86 = .ok (.ifCond .le 13, 3) := by decide +kernel
theorem dX6_target_89 : decode cX6_target 89 = .ok (.iload_n 1, 1) := by decide +kernel
theorem dX6_target_90 : decode cX6_target 90 = .ok (.iload_n 3, 1) := by decide +kernel
theorem dX6_target_91 : decode cX6_target 91 = .ok (.imul, 1) := by decide +kernel
theorem dX6_target_92 : decode cX6_target 92 = .ok (.iload_n 2, 1) := by decide +kernel
theorem dX6_target_93 : decode cX6_target 93 = .ok (.idiv, 1) := by decide +kernel
theorem dX6_target_94 : decode cX6_target 94 = .ok (.iconst 1, 1) := by decide +kernel
theorem dX6_target_95 : decode cX6_target 95 = .ok (.iadd, 1) := by decide +kernel
theorem dX6_target_96 : decode cX6_target 96 = .ok (.goto 4, 3) := by decide +kernel
theorem dX6_target_99 : decode cX6_target 99 = .ok (.iconst 1, 1) := by decide +kernel
theorem dX6_target_100 : decode cX6_target 100 = .ok (.ireturn, 1) := by decide +kernel
theorem dX6_endTurn_0 : decode cX6_endTurn 0 = .ok (.aload_n 0, 1) := by decide +kernel
theorem dX6_endTurn_1 : decode cX6_endTurn 1 = .ok (.aload_n 0, 1) := by decide +kernel
theorem dX6_endTurn_2 : decode cX6_endTurn 2 = .ok (.getfield 22, 3) := by decide +kernel
theorem dX6_endTurn_5 : decode cX6_endTurn 5 = .ok (.invokevirtual 63, 3) := by decide +kernel
theorem dX6_endTurn_8 : decode cX6_endTurn 8 = .ok (.astore_n 2, 1) := by decide +kernel
theorem dX6_endTurn_9 : decode cX6_endTurn 9 = .ok (.aload_n 0, 1) := by decide +kernel
theorem dX6_endTurn_10 : decode cX6_endTurn 10 = .ok (.getfield 22, 3) := by decide +kernel
theorem dX6_endTurn_13 : decode cX6_endTurn 13 = .ok (.aload_n 0, 1) := by decide +kernel
theorem dX6_endTurn_14 : decode cX6_endTurn 14 = .ok (.getfield 93, 3) := by decide +kernel
theorem dX6_endTurn_17 : decode cX6_endTurn 17 = .ok (.if_icmp .ne 22, 3) := by decide +kernel
theorem dX6_endTurn_20 : decode cX6_endTurn 20 = .ok (.aload_n 2, 1) := by decide +kernel
theorem dX6_endTurn_21 : decode cX6_endTurn 21 = .ok (.getfield 130, 3) := by decide +kernel
theorem dX6_endTurn_24 : decode cX6_endTurn 24 = .ok (.aload_n 0, 1) := by decide +kernel
theorem dX6_endTurn_25 : decode cX6_endTurn 25 = .ok (.invokevirtual 141, 3) := by decide +kernel
theorem dX6_endTurn_28 : decode cX6_endTurn 28 = .ok (.if_icmp .lt 11, 3) := by decide +kernel
theorem dX6_endTurn_31 : decode cX6_endTurn 31 = .ok (.aload_n 2, 1) := by decide +kernel
theorem dX6_endTurn_32 : decode cX6_endTurn 32 = .ok (.iconst 4, 1) := by decide +kernel
theorem dX6_endTurn_33 : decode cX6_endTurn 33 = .ok (.putfield 87, 3) := by decide +kernel
theorem dX6_endTurn_36 : decode cX6_endTurn 36 = .ok (.goto 48, 3) := by decide +kernel
theorem dX6_endTurn_39 : decode cX6_endTurn 39 = .ok (.aload_n 2, 1) := by decide +kernel
theorem dX6_endTurn_40 : decode cX6_endTurn 40 = .ok (.getfield 167, 3) := by decide +kernel
theorem dX6_endTurn_43 : decode cX6_endTurn 43 = .ok (.bipush 10, 2) := by decide +kernel
theorem dX6_endTurn_45 : decode cX6_endTurn 45 = .ok (.if_icmp .lt 11, 3) := by decide +kernel
theorem dX6_endTurn_48 : decode cX6_endTurn 48 = .ok (.aload_n 2, 1) := by decide +kernel
theorem dX6_endTurn_49 : decode cX6_endTurn 49 = .ok (.iconst 1, 1) := by decide +kernel
theorem dX6_endTurn_50 : decode cX6_endTurn 50 = .ok (.putfield 87, 3) := by decide +kernel
theorem dX6_endTurn_53 : decode cX6_endTurn 53 = .ok (.goto 31, 3) := by decide +kernel
theorem dX6_endTurn_56 : decode cX6_endTurn 56 = .ok (.iload_n 1, 1) := by decide +kernel
theorem dX6_endTurn_57 : decode cX6_endTurn 57 = .ok (.ifCond .eq 11, 3) := by decide +kernel
theorem dX6_endTurn_60 : decode cX6_endTurn 60 = .ok (.aload_n 2, 1) := by decide +kernel
theorem dX6_endTurn_61 : decode cX6_endTurn 61 = .ok (.iconst 3, 1) := by decide +kernel
theorem dX6_endTurn_62 : decode cX6_endTurn 62 = .ok (.putfield 87, 3) := by decide +kernel
theorem dX6_endTurn_65 : decode cX6_endTurn 65 = .ok (.goto 19, 3) := by decide +kernel
theorem dX6_endTurn_68 : decode cX6_endTurn 68 = .ok (.aload_n 2, 1) := by decide +kernel
theorem dX6_endTurn_69 : decode cX6_endTurn 69 = .ok (.getfield 170, 3) := by decide +kernel
theorem dX6_endTurn_72 : decode cX6_endTurn 72 = .ok (.aload_n 2, 1) := by decide +kernel
theorem dX6_endTurn_73 : decode cX6_endTurn 73 = .ok (.getfield 158, 3) := by decide +kernel
theorem dX6_endTurn_76 : decode cX6_endTurn 76 = .ok (.if_icmp .lt 8, 3) := by decide +kernel
theorem dX6_endTurn_79 : decode cX6_endTurn 79 = .ok (.aload_n 2, 1) := by decide +kernel
theorem dX6_endTurn_80 : decode cX6_endTurn 80 = .ok (.iconst 2, 1) := by decide +kernel
theorem dX6_endTurn_81 : decode cX6_endTurn 81 = .ok (.putfield 87, 3) := by decide +kernel
theorem dX6_endTurn_84 : decode cX6_endTurn 84 = .ok (.aload_n 2, 1) := by decide +kernel
theorem dX6_endTurn_85 : decode cX6_endTurn 85 = .ok (.getfield 87, 3) := by decide +kernel
theorem dX6_endTurn_88 : decode cX6_endTurn 88 = .ok (.ifCond .eq 8, 3) := by decide +kernel
theorem dX6_endTurn_91 : decode cX6_endTurn 91 = .ok (.aload_n 0, 1) := by decide +kernel
theorem dX6_endTurn_92 : decode cX6_endTurn 92 = .ok (.aload_n 2, 1) := by decide +kernel
theorem dX6_endTurn_93 : decode cX6_endTurn 93 = .ok (.invokevirtual 173, 3) := by decide +kernel
theorem dX6_endTurn_96 : decode cX6_endTurn 96 = .ok (.return_, 1) := by decide +kernel
theorem dX6_findWinner_0 : decode cX6_findWinner 0 = .ok (.aload_n 0, 1) := by decide +kernel
theorem dX6_findWinner_1 : decode cX6_findWinner 1 = .ok (.getfield 22, 3) := by decide +kernel
theorem dX6_findWinner_4 : decode cX6_findWinner 4 = .ok (.aload_n 0, 1) := by decide +kernel
theorem dX6_findWinner_5 : decode cX6_findWinner 5 = .ok (.getfield 93, 3) := by decide +kernel
theorem dX6_findWinner_8 : decode cX6_findWinner 8 = .ok (.if_icmp .ne 38, 3) := by decide +kernel
theorem dX6_findWinner_11 : decode cX6_findWinner 11 = .ok (.aload_n 0, 1) := by decide +kernel
theorem dX6_findWinner_12 : decode cX6_findWinner 12 = .ok (.invokevirtual 141, 3) := by decide +kernel
theorem dX6_findWinner_15 : decode cX6_findWinner 15 = .ok (.aload_n 1, 1) := by decide +kernel
theorem dX6_findWinner_16 : decode cX6_findWinner 16 = .ok (.getfield 130, 3) := by decide +kernel
theorem dX6_findWinner_19 : decode cX6_findWinner 19 = .ok (.isub, 1) := by decide +kernel
theorem dX6_findWinner_20 : decode cX6_findWinner 20 = .ok (.istore_n 2, 1) := by decide +kernel
theorem dX6_findWinner_21 : decode cX6_findWinner 21 = .ok (.aload_n 0, 1) := by decide +kernel
theorem dX6_findWinner_22 : decode cX6_findWinner 22 = .ok (.iload_n 2, 1) := by decide +kernel
theorem dX6_findWinner_23 : decode cX6_findWinner 23 = .ok (.ifCond .gt 7, 3) := by decide +kernel
theorem dX6_findWinner_26 : decode cX6_findWinner 26 = .ok (.iconst 2, 1) := by decide +kernel
theorem dX6_findWinner_27 : decode cX6_findWinner 27 = .ok (.goto 13, 3) := by decide +kernel
theorem dX6_findWinner_30 : decode cX6_findWinner 30 = .ok (.iload_n 2, 1) := by decide +kernel
theorem dX6_findWinner_31 : decode cX6_findWinner 31 = .ok (.iconst 1, 1) := by decide +kernel
theorem dX6_findWinner_32 : decode cX6_findWinner 32 = .ok (.if_icmp .ne 7, 3) := by decide +kernel
theorem dX6_findWinner_35 : decode cX6_findWinner 35 = .ok (.iconst 3, 1) := by decide +kernel
theorem dX6_findWinner_36 : decode cX6_findWinner 36 = .ok (.goto 4, 3) := by decide +kernel
theorem dX6_findWinner_39 : decode cX6_findWinner 39 = .ok (.iconst 1, 1) := by decide +kernel
theorem dX6_findWinner_40 : decode cX6_findWinner 40 = .ok (.putfield 90, 3) := by decide +kernel
theorem dX6_findWinner_43 : decode cX6_findWinner 43 = .ok (.goto 24, 3) := by decide +kernel
theorem dX6_findWinner_46 : decode cX6_findWinner 46 = .ok (.aload_n 0, 1) := by decide +kernel
theorem dX6_findWinner_47 : decode cX6_findWinner 47 = .ok (.getfield 22, 3) := by decide +kernel
theorem dX6_findWinner_50 : decode cX6_findWinner 50 = .ok (.iconst 2, 1) := by decide +kernel
theorem dX6_findWinner_51 : decode cX6_findWinner 51 = .ok (.if_icmp .ne 16, 3) := by decide +kernel
theorem dX6_findWinner_54 : decode cX6_findWinner 54 = .ok (.aload_n 0, 1) := by decide +kernel
theorem dX6_findWinner_55 : decode cX6_findWinner 55 = .ok (.invokevirtual 141, 3) := by decide +kernel
theorem dX6_findWinner_58 : decode cX6_findWinner 58 = .ok (.iconst 1, 1) := by decide +kernel
theorem dX6_findWinner_59 : decode cX6_findWinner 59 = .ok (.if_icmp .ge 8, 3) := by decide +kernel
theorem dX6_findWinner_62 : decode cX6_findWinner 62 = .ok (.aload_n 0, 1) := by decide +kernel
theorem dX6_findWinner_63 : decode cX6_findWinner 63 = .ok (.iconst 2, 1) := by decide +kernel
theorem dX6_findWinner_64 : decode cX6_findWinner 64 = .ok (.putfield 90, 3) := by decide +kernel
theorem dX6_findWinner_67 : decode cX6_findWinner 67 = .ok (.return_, 1) := by decide +kernel
theorem dX7_init_0 : decode cX7_init 0 = .ok (.aload_n 0, 1) := by decide +kernel
theorem dX7_init_1 : decode cX7_init 1 = .ok (.invokespecial 3, 3) := by decide +kernel
theorem dX7_init_4 : decode cX7_init 4 = .ok (.aload_n 0, 1) := by decide +kernel
theorem dX7_init_5 : decode cX7_init 5 = .ok (.iconst 4, 1) := by decide +kernel
theorem dX7_init_6 : decode cX7_init 6 = .ok (.newarray .int, 2) := by decide +kernel
theorem dX7_init_8 : decode cX7_init 8 = .ok (.putfield 9, 3) := by decide +kernel
theorem dX7_init_11 : decode cX7_init 11 = .ok (.aload_n 0, 1) := by decide +kernel
theorem dX7_init_12 : decode cX7_init 12 = .ok (.aconst_null, 1) := by decide +kernel
theorem dX7_init_13 : decode cX7_init 13 = .ok (.putfield 15, 3) := by decide +kernel
theorem dX7_init_16 : decode cX7_init 16 = .ok (.aload_n 0, 1) := by decide +kernel
theorem dX7_init_17 : decode cX7_init 17 = .ok (.iconst (-1), 1) := by decide +kernel
theorem dX7_init_18 : decode cX7_init 18 = .ok (.putfield 19, 3) := by decide +kernel
theorem dX7_init_21 : decode cX7_init 21 = .ok (.return_, 1) := by decide +kernel
theorem dX7_start_0 : decode cX7_start 0 = .ok (.aload_n 0, 1) := by decide +kernel
theorem dX7_start_1 : decode cX7_start 1 = .ok (.aload_n 1, 1) := by decide +kernel
theorem dX7_start_2 : decode cX7_start 2 = .ok (.putfield 15, 3) := by decide +kernel
theorem dX7_start_5 : decode cX7_start 5 = .ok (.aload_n 0, 1) := by decide +kernel
theorem dX7_start_6 : decode cX7_start 6 = .ok (.iload_n 2, 1) := by decide +kernel
theorem dX7_start_7 : decode cX7_start 7 = .ok (.putfield 23, 3) := by decide +kernel
theorem dX7_start_10 : decode cX7_start 10 = .ok (.aload_n 0, 1) := by decide +kernel
theorem dX7_start_11 : decode cX7_start 11 = .ok (.iconst 0, 1) := by decide +kernel
theorem dX7_start_12 : decode cX7_start 12 = .ok (.putfield 26, 3) := by decide +kernel
theorem dX7_start_15 : decode cX7_start 15 = .ok (.aload_n 0, 1) := by decide +kernel
theorem dX7_start_16 : decode cX7_start 16 = .ok (.iconst (-1), 1) := by decide +kernel
theorem dX7_start_17 : decode cX7_start 17 = .ok (.putfield 19, 3) := by decide +kernel
theorem dX7_start_20 : decode cX7_start 20 = .ok (.return_, 1) := by decide +kernel
theorem dX7_isRight_0 : decode cX7_isRight 0 = .ok (.aload_n 0, 1) := by decide +kernel
theorem dX7_isRight_1 : decode cX7_isRight 1 = .ok (.getfield 19, 3) := by decide +kernel
theorem dX7_isRight_4 : decode cX7_isRight 4 = .ok (.iconst (-1), 1) := by decide +kernel
theorem dX7_isRight_5 : decode cX7_isRight 5 = .ok (.if_icmp .ne 7, 3) := by decide +kernel
theorem dX7_isRight_8 : decode cX7_isRight 8 = .ok (.iconst 1, 1) := by decide +kernel
theorem dX7_isRight_9 : decode cX7_isRight 9 = .ok (.goto 4, 3) := by decide +kernel
theorem dX7_isRight_12 : decode cX7_isRight 12 = .ok (.iconst 0, 1) := by decide +kernel
theorem dX7_isRight_13 : decode cX7_isRight 13 = .ok (.ireturn, 1) := by decide +kernel
theorem dX7_readHead_0 : decode cX7_readHead 0 = .ok (.aload_n 0, 1) := by decide +kernel
theorem dX7_readHead_1 : decode cX7_readHead 1 = .ok (.bipush 66, 2) := by decide +kernel
theorem dX7_readHead_3 : decode cX7_readHead 3 = .ok (.bipush 66, 2) := by decide +kernel
theorem dX7_readHead_5 : decode cX7_readHead 5 = .ok (.invokevirtual 29, 3) := by decide +kernel
theorem dX7_readHead_8 : decode cX7_readHead 8 = .ok (.pop, 1) := by decide +kernel
theorem dX7_readHead_9 : decode cX7_readHead 9 = .ok (.aload_n 0, 1) := by decide +kernel
theorem dX7_readHead_10 : decode cX7_readHead 10 = .ok (.iconst 0, 1) := by decide +kernel
theorem dX7_readHead_11 : decode cX7_readHead 11 = .ok (.iload_n 2, 1) := by decide +kernel
theorem dX7_readHead_12 : decode cX7_readHead 12 = .ok (.iconst 1, 1) := by decide +kernel
theorem dX7_readHead_13 : decode cX7_readHead 13 = .ok (.isub, 1) := by decide +kernel
theorem dX7_readHead_14 : decode cX7_readHead 14 = .ok (.invokevirtual 29, 3) := by decide +kernel
theorem dX7_readHead_17 : decode cX7_readHead 17 = .ok (.istore_n 3, 1) := by decide +kernel
theorem dX7_readHead_18 : decode cX7_readHead 18 = .ok (.aload_n 0, 1) := by decide +kernel
theorem dX7_readHead_19 : decode cX7_readHead 19 = .ok (.iconst 0, 1) := by decide +kernel
theorem dX7_readHead_20 : decode cX7_readHead 20 = .ok (.iload_n 2, 1) := by decide +kernel
theorem dX7_readHead_21 : decode cX7_readHead 21 = .ok (.iconst 1, 1) := by decide +kernel
theorem dX7_readHead_22 : decode cX7_readHead 22 = .ok (.isub, 1) := by decide +kernel
theorem dX7_readHead_23 : decode cX7_readHead 23 = .ok (.invokevirtual 29, 3) := by decide +kernel
theorem dX7_readHead_26 : decode cX7_readHead 26 = .ok (.istore 4, 2) := by decide +kernel
theorem dX7_readHead_28 : decode cX7_readHead 28 = .ok (.iload 4, 2) := by decide +kernel
theorem dX7_readHead_30 : decode cX7_readHead 30 = .ok (.iload_n 3, 1) := by decide +kernel
theorem dX7_readHead_31 : decode cX7_readHead 31 = .ok (.if_icmp .ne 13, 3) := by decide +kernel
theorem dX7_readHead_34 : decode cX7_readHead 34 = .ok (.aload_n 0, 1) := by decide +kernel
theorem dX7_readHead_35 : decode cX7_readHead 35 = .ok (.aload_n 0, 1) := by decide +kernel
theorem dX7_readHead_36 : decode cX7_readHead 36 = .ok (.getfield 26, 3) := by decide +kernel
theorem dX7_readHead_39 : decode cX7_readHead 39 = .ok (.iconst 1, 1) := by decide +kernel
theorem dX7_readHead_40 : decode cX7_readHead 40 = .ok (.isub, 1) := by decide +kernel
theorem dX7_readHead_41 : decode cX7_readHead 41 = .ok (.invokevirtual 33, 3) := by decide +kernel
theorem dX7_readHead_44 : decode cX7_readHead 44 = .ok (.aload_n 0, 1) := by decide +kernel
theorem dX7_readHead_45 : decode cX7_readHead 45 = .ok (.iconst 1, 1) := by decide +kernel
theorem dX7_readHead_46 : decode cX7_readHead 46 = .ok (.bipush 120, 2) := by decide +kernel
theorem dX7_readHead_48 : decode cX7_readHead 48 = .ok (.invokevirtual 29, 3) := by decide +kernel
theorem dX7_readHead_51 : decode cX7_readHead 51 = .ok (.istore 5, 2) := by decide +kernel
theorem dX7_readHead_53 : decode cX7_readHead 53 = .ok (.aload_n 0, 1) := by decide +kernel
theorem dX7_readHead_54 : decode cX7_readHead 54 = .ok (.iconst 1, 1) := by decide +kernel
theorem dX7_readHead_55 : decode cX7_readHead 55 = .ok (.iconst 2, 1) := by decide +kernel
theorem dX7_readHead_56 : decode cX7_readHead 56 = .ok (.invokevirtual 29, 3) := by decide +kernel
theorem dX7_readHead_59 : decode cX7_readHead 59 = .ok (.istore 6, 2) := by decide +kernel
theorem dX7_readHead_61 : decode cX7_readHead 61 = .ok (.new 37, 3) := by decide +kernel
theorem dX7_readHead_64 : decode cX7_readHead 64 = .ok (.dup, 1) := by decide +kernel
theorem dX7_readHead_65 : decode cX7_readHead 65 = .ok (.iload_n 3, 1) := by decide +kernel
theorem dX7_readHead_66 : decode cX7_readHead 66 = .ok (.iload 4, 2) := by decide +kernel
theorem dX7_readHead_68 : decode cX7_readHead 68 = .ok (.iload 5, 2) := by decide +kernel
theorem dX7_readHead_70 : decode cX7_readHead 70 = .ok (.iload 6, 2) := by decide +kernel
theorem dX7_readHead_72 : decode cX7_readHead 72 = .ok (.invokespecial 39, 3) := by decide +kernel
theorem dX7_readHead_75 : decode cX7_readHead 75 = .ok (.astore 7, 2) := by decide +kernel
theorem dX7_readHead_77 : decode cX7_readHead 77 = .ok (.iconst 0, 1) := by decide +kernel
theorem dX7_readHead_78 : decode cX7_readHead 78 = .ok (.istore 8, 2) := by decide +kernel
theorem dX7_readHead_80 : decode cX7_readHead 80 = .ok (.iload 8, 2) := by decide +kernel
theorem dX7_readHead_82 : decode cX7_readHead 82 = .ok (.iconst 2, 1) := by decide +kernel
theorem dX7_readHead_83 : decode cX7_readHead 83 = .ok (.if_icmp .ge 46, 3) := by decide +kernel
theorem dX7_readHead_86 : decode cX7_readHead 86 = .ok (.aload 7, 2) := by decide +kernel
theorem dX7_readHead_88 : decode cX7_readHead 88 = .ok (.iload 8, 2) := by decide +kernel
theorem dX7_readHead_90 : decode cX7_readHead 90 = .ok (.invokevirtual 42, 3) := by decide +kernel
theorem dX7_readHead_93 : decode cX7_readHead 93 = .ok (.istore 9, 2) := by decide +kernel
theorem dX7_readHead_95 : decode cX7_readHead 95 = .ok (.aload_n 0, 1) := by decide +kernel
theorem dX7_readHead_96 : decode cX7_readHead 96 = .ok (.aload 7, 2) := by decide +kernel
theorem dX7_readHead_98 : decode cX7_readHead 98 = .ok (.iload 8, 2) := by decide +kernel
theorem dX7_readHead_100 : decode cX7_readHead 100 = .ok (.iload 9, 2) := by decide +kernel
theorem dX7_readHead_102 : decode cX7_readHead 102 = .ok (.ifCond .lt 17, 3) := by decide +kernel
theorem dX7_readHead_105 : decode cX7_readHead 105 = .ok (.iload 9, 2) := by decide +kernel
theorem dX7_readHead_107 : decode cX7_readHead 107 = .ok (.aload_n 1, 1) := by decide +kernel
theorem dX7_readHead_108 : decode cX7_readHead 108 = .ok (.arraylength, 1) := by decide +kernel
theorem dX7_readHead_109 : decode cX7_readHead 109 = .ok (.if_icmp .ge 10, 3) := by decide +kernel
theorem dX7_readHead_112 : decode cX7_readHead 112 = .ok (.aload_n 1, 1) := by decide +kernel
theorem dX7_readHead_113 : decode cX7_readHead 113 = .ok (.iload 9, 2) := by decide +kernel
theorem dX7_readHead_115 : decode cX7_readHead 115 = .ok (.iaload, 1) := by decide +kernel
theorem dX7_readHead_116 : decode cX7_readHead 116 = .ok (.goto 4, 3) := by decide +kernel
theorem dX7_readHead_119 : decode cX7_readHead 119 = .ok (.iconst 0, 1) := by decide +kernel
theorem dX7_readHead_120 : decode cX7_readHead 120 = .ok (.invokevirtual 46, 3) := by decide +kernel
theorem dX7_readHead_123 : decode cX7_readHead 123 = .ok (.iinc 8 1, 3) := by decide +kernel
theorem dX7_readHead_126 : decode cX7_readHead 126 = .ok (.goto (-46), 3) := by decide +kernel
theorem dX7_readHead_129 : decode cX7_readHead 129 = .ok (.aload 7, 2) := by decide +kernel
theorem dX7_readHead_131 : decode cX7_readHead 131 = .ok (.areturn, 1) := by decide +kernel
theorem dX7_readTurns_0 : decode cX7_readTurns 0 = .ok (.aload_n 0, 1) := by decide +kernel
theorem dX7_readTurns_1 : decode cX7_readTurns 1 = .ok (.iconst 0, 1) := by decide +kernel
theorem dX7_readTurns_2 : decode cX7_readTurns 2 = .ok (.iconst 2, 1) := by decide +kernel
theorem dX7_readTurns_3 : decode cX7_readTurns 3 = .ok (.aload_n 1, 1) := by decide +kernel
theorem dX7_readTurns_4 : decode cX7_readTurns 4 = .ok (.getfield 50, 3) := by decide +kernel
theorem dX7_readTurns_7 : decode cX7_readTurns 7 = .ok (.imul, 1) := by decide +kernel
theorem dX7_readTurns_8 : decode cX7_readTurns 8 = .ok (.invokevirtual 29, 3) := by decide +kernel
theorem dX7_readTurns_11 : decode cX7_readTurns 11 = .ok (.istore_n 2, 1) := by decide +kernel
theorem dX7_readTurns_12 : decode cX7_readTurns 12 = .ok (.iconst 0, 1) := by decide +kernel
theorem dX7_readTurns_13 : decode cX7_readTurns 13 = .ok (.istore_n 3, 1) := by decide +kernel
theorem dX7_readTurns_14 : decode cX7_readTurns 14 = .ok (.iload_n 3, 1) := by decide +kernel
theorem dX7_readTurns_15 : decode cX7_readTurns 15 = .ok (.iload_n 2, 1) := by decide +kernel
theorem dX7_readTurns_16 : decode cX7_readTurns 16 = .ok (.if_icmp .ge 106, 3) := by decide +kernel
theorem dX7_readTurns_19 : decode cX7_readTurns 19 = .ok (.iload_n 3, 1) := by decide +kernel
theorem dX7_readTurns_20 : decode cX7_readTurns 20 = .ok (.iconst 4, 1) := by decide +kernel
theorem dX7_readTurns_21 : decode cX7_readTurns 21 = .ok (.if_icmp .ge 101, 3) := by decide +kernel
theorem dX7_readTurns_24 : decode cX7_readTurns 24 = .ok (.aload_n 0, 1) := by decide +kernel
theorem dX7_readTurns_25 : decode cX7_readTurns 25 = .ok (.invokevirtual 53, 3) := by decide +kernel
theorem dX7_readTurns_28 : decode cX7_readTurns 28 = .ok (.ifCond .eq 94, 3) := by decide +kernel
theorem dX7_readTurns_31 : decode cX7_readTurns 31 = .ok (.new 57, 3) := by decide +kernel
theorem dX7_readTurns_34 : decode cX7_readTurns 34 = .ok (.dup, 1) := by decide +kernel
theorem dX7_readTurns_35 : decode cX7_readTurns 35 = .ok (.invokespecial 59, 3) := by decide +kernel
theorem dX7_readTurns_38 : decode cX7_readTurns 38 = .ok (.astore 4, 2) := by decide +kernel
theorem dX7_readTurns_40 : decode cX7_readTurns 40 = .ok (.aload_n 1, 1) := by decide +kernel
theorem dX7_readTurns_41 : decode cX7_readTurns 41 = .ok (.aload 4, 2) := by decide +kernel
theorem dX7_readTurns_43 : decode cX7_readTurns 43 = .ok (.invokevirtual 60, 3) := by decide +kernel
theorem dX7_readTurns_46 : decode cX7_readTurns 46 = .ok (.aload_n 0, 1) := by decide +kernel
theorem dX7_readTurns_47 : decode cX7_readTurns 47 = .ok (.iconst 0, 1) := by decide +kernel
theorem dX7_readTurns_48 : decode cX7_readTurns 48 = .ok (.sipush 130, 3) := by decide +kernel
theorem dX7_readTurns_51 : decode cX7_readTurns 51 = .ok (.invokevirtual 29, 3) := by decide +kernel
theorem dX7_readTurns_54 : decode cX7_readTurns 54 = .ok (.istore 5, 2) := by decide +kernel
theorem dX7_readTurns_56 : decode cX7_readTurns 56 = .ok (.iconst 0, 1) := by decide +kernel
theorem dX7_readTurns_57 : decode cX7_readTurns 57 = .ok (.istore 6, 2) := by decide +kernel
theorem dX7_readTurns_59 : decode cX7_readTurns 59 = .ok (.iload 6, 2) := by decide +kernel
theorem dX7_readTurns_61 : decode cX7_readTurns 61 = .ok (.iload 5, 2) := by decide +kernel
theorem dX7_readTurns_63 : decode cX7_readTurns 63 = .ok (.if_icmp .ge 22, 3) := by decide +kernel
theorem dX7_readTurns_66 : decode cX7_readTurns 66 = .ok (.aload_n 0, 1) := by decide +kernel
theorem dX7_readTurns_67 : decode cX7_readTurns 67 = .ok (.invokevirtual 53, 3) := by decide +kernel
theorem dX7_readTurns_70 : decode cX7_readTurns 70 = .ok (.ifCond .eq 15, 3) := by decide +kernel
theorem dX7_readTurns_73 : decode cX7_readTurns 73 = .ok (.aload_n 0, 1) := by decide +kernel
theorem dX7_readTurns_74 : decode cX7_readTurns 74 = .ok (.aload 4, 2) := by decide +kernel
theorem dX7_readTurns_76 : decode cX7_readTurns 76 = .ok (.invokevirtual 64, 3) := by decide +kernel
theorem dX7_readTurns_79 : decode cX7_readTurns 79 = .ok (.iinc 6 1, 3) := by decide +kernel
theorem dX7_readTurns_82 : decode cX7_readTurns 82 = .ok (.goto (-23), 3) := by decide +kernel
theorem dX7_readTurns_85 : decode cX7_readTurns 85 = .ok (.aload_n 0, 1) := by decide +kernel
theorem dX7_readTurns_86 : decode cX7_readTurns 86 = .ok (.iconst 0, 1) := by decide +kernel
theorem dX7_readTurns_87 : decode cX7_readTurns 87 = .ok (.sipush 255, 3) := by decide +kernel
theorem dX7_readTurns_90 : decode cX7_readTurns 90 = .ok (.invokevirtual 29, 3) := by decide +kernel
theorem dX7_readTurns_93 : decode cX7_readTurns 93 = .ok (.istore 6, 2) := by decide +kernel
theorem dX7_readTurns_95 : decode cX7_readTurns 95 = .ok (.aload_n 0, 1) := by decide +kernel
theorem dX7_readTurns_96 : decode cX7_readTurns 96 = .ok (.getfield 9, 3) := by decide +kernel
theorem dX7_readTurns_99 : decode cX7_readTurns 99 = .ok (.iload_n 3, 1) := by decide +kernel
theorem dX7_readTurns_100 : decode cX7_readTurns 100 = .ok (.sipush 256, 3) := by decide +kernel
theorem dX7_readTurns_103 : decode cX7_readTurns 103 = .ok (.iload 6, 2) := by decide +kernel
theorem dX7_readTurns_105 : decode cX7_readTurns 105 = .ok (.imul, 1) := by decide +kernel
theorem dX7_readTurns_106 : decode cX7_readTurns 106 = .ok (.aload_n 0, 1) := by decide +kernel
theorem dX7_readTurns_107 : decode cX7_readTurns 107 = .ok (.iconst 0, 1) := by decide +kernel
theorem dX7_readTurns_108 : decode cX7_readTurns 108 = .ok (.sipush 255, 3) := by decide +kernel
theorem dX7_readTurns_111 : decode cX7_readTurns 111 = .ok (.invokevirtual 29, 3) := by decide +kernel
theorem dX7_readTurns_114 : decode cX7_readTurns 114 = .ok (.iadd, 1) := by decide +kernel
theorem dX7_readTurns_115 : decode cX7_readTurns 115 = .ok (.iastore, 1) := by decide +kernel
theorem dX7_readTurns_116 : decode cX7_readTurns 116 = .ok (.iinc 3 1, 3) := by decide +kernel
theorem dX7_readTurns_119 : decode cX7_readTurns 119 = .ok (.goto (-105), 3) := by decide +kernel
theorem dX7_readTurns_122 : decode cX7_readTurns 122 = .ok (.return_, 1) := by decide +kernel
theorem dX7_readEnd_0 : decode cX7_readEnd 0 = .ok (.aload_n 0, 1) := by decide +kernel
theorem dX7_readEnd_1 : decode cX7_readEnd 1 = .ok (.getfield 26, 3) := by decide +kernel
theorem dX7_readEnd_4 : decode cX7_readEnd 4 = .ok (.aload_n 0, 1) := by decide +kernel
theorem dX7_readEnd_5 : decode cX7_readEnd 5 = .ok (.getfield 23, 3) := by decide +kernel
theorem dX7_readEnd_8 : decode cX7_readEnd 8 = .ok (.if_icmp .ge 11, 3) := by decide +kernel
theorem dX7_readEnd_11 : decode cX7_readEnd 11 = .ok (.aload_n 0, 1) := by decide +kernel
theorem dX7_readEnd_12 : decode cX7_readEnd 12 = .ok (.aload_n 0, 1) := by decide +kernel
theorem dX7_readEnd_13 : decode cX7_readEnd 13 = .ok (.getfield 26, 3) := by decide +kernel
theorem dX7_readEnd_16 : decode cX7_readEnd 16 = .ok (.invokevirtual 33, 3) := by decide +kernel
theorem dX7_readEnd_19 : decode cX7_readEnd 19 = .ok (.return_, 1) := by decide +kernel
theorem dX7_compare_0 : decode cX7_compare 0 = .ok (.aload_n 2, 1) := by decide +kernel
theorem dX7_compare_1 : decode cX7_compare 1 = .ok (.getfield 67, 3) := by decide +kernel
theorem dX7_compare_4 : decode cX7_compare 4 = .ok (.ifCond .eq 23, 3) := by decide +kernel
theorem dX7_compare_7 : decode cX7_compare 7 = .ok (.aload_n 0, 1) := by decide +kernel
theorem dX7_compare_8 : decode cX7_compare 8 = .ok (.aload_n 1, 1) := by decide +kernel
theorem dX7_compare_9 : decode cX7_compare 9 = .ok (.aload_n 2, 1) := by decide +kernel
theorem dX7_compare_10 : decode cX7_compare 10 = .ok (.getfield 72, 3) := by decide +kernel
theorem dX7_compare_13 : decode cX7_compare 13 = .ok (.aload_n 2, 1) := by decide +kernel
theorem dX7_compare_14 : decode cX7_compare 14 = .ok (.getfield 75, 3) := by decide +kernel
theorem dX7_compare_17 : decode cX7_compare 17 = .ok (.aload_n 2, 1) := by decide +kernel
theorem dX7_compare_18 : decode cX7_compare 18 = .ok (.getfield 78, 3) := by decide +kernel
theorem dX7_compare_21 : decode cX7_compare 21 = .ok (.invokevirtual 81, 3) := by decide +kernel
theorem dX7_compare_24 : decode cX7_compare 24 = .ok (.invokevirtual 33, 3) := by decide +kernel
theorem dX7_compare_27 : decode cX7_compare 27 = .ok (.iconst 0, 1) := by decide +kernel
theorem dX7_compare_28 : decode cX7_compare 28 = .ok (.istore_n 3, 1) := by decide +kernel
theorem dX7_compare_29 : decode cX7_compare 29 = .ok (.iload_n 3, 1) := by decide +kernel
theorem dX7_compare_30 : decode cX7_compare 30 = .ok (.aload_n 1, 1) := by decide +kernel
theorem dX7_compare_31 : decode cX7_compare 31 = .ok (.invokevirtual 85, 3) := by decide +kernel
theorem dX7_compare_34 : decode cX7_compare 34 = .ok (.if_icmp .ge 84, 3) := by decide +kernel
theorem dX7_compare_37 : decode cX7_compare 37 = .ok (.iload_n 3, 1) := by decide +kernel
theorem dX7_compare_38 : decode cX7_compare 38 = .ok (.iconst 4, 1) := by decide +kernel
theorem dX7_compare_39 : decode cX7_compare 39 = .ok (.if_icmp .ge 79, 3) := by decide +kernel
theorem dX7_compare_42 : decode cX7_compare 42 = .ok (.aload_n 2, 1) := by decide +kernel
theorem dX7_compare_43 : decode cX7_compare 43 = .ok (.iload_n 3, 1) := by decide +kernel
theorem dX7_compare_44 : decode cX7_compare 44 = .ok (.invokevirtual 89, 3) := by decide +kernel
theorem dX7_compare_47 : decode cX7_compare 47 = .ok (.getfield 93, 3) := by decide +kernel
theorem dX7_compare_50 : decode cX7_compare 50 = .ok (.istore 4, 2) := by decide +kernel
theorem dX7_compare_52 : decode cX7_compare 52 = .ok (.aload_n 1, 1) := by decide +kernel
theorem dX7_compare_53 : decode cX7_compare 53 = .ok (.iload_n 3, 1) := by decide +kernel
theorem dX7_compare_54 : decode cX7_compare 54 = .ok (.aload_n 1, 1) := by decide +kernel
theorem dX7_compare_55 : decode cX7_compare 55 = .ok (.iload_n 3, 1) := by decide +kernel
theorem dX7_compare_56 : decode cX7_compare 56 = .ok (.invokevirtual 98, 3) := by decide +kernel
theorem dX7_compare_59 : decode cX7_compare 59 = .ok (.iconst (-1), 1) := by decide +kernel
theorem dX7_compare_60 : decode cX7_compare 60 = .ok (.invokevirtual 81, 3) := by decide +kernel
theorem dX7_compare_63 : decode cX7_compare 63 = .ok (.istore 5, 2) := by decide +kernel
theorem dX7_compare_65 : decode cX7_compare 65 = .ok (.aload_n 0, 1) := by decide +kernel
theorem dX7_compare_66 : decode cX7_compare 66 = .ok (.getfield 9, 3) := by decide +kernel
theorem dX7_compare_69 : decode cX7_compare 69 = .ok (.iload_n 3, 1) := by decide +kernel
theorem dX7_compare_70 : decode cX7_compare 70 = .ok (.iaload, 1) := by decide +kernel
theorem dX7_compare_71 : decode cX7_compare 71 = .ok (.sipush 256, 3) := by decide +kernel
theorem dX7_compare_74 : decode cX7_compare 74 = .ok (.idiv, 1) := by decide +kernel
theorem dX7_compare_75 : decode cX7_compare 75 = .ok (.iload 4, 2) := by decide +kernel
theorem dX7_compare_77 : decode cX7_compare 77 = .ok (.sipush 256, 3) := by decide +kernel
theorem dX7_compare_80 : decode cX7_compare 80 = .ok (.idiv, 1) := by decide +kernel
theorem dX7_compare_81 : decode cX7_compare 81 = .ok (.if_icmp .eq 12, 3) := by decide +kernel
theorem dX7_compare_84 : decode cX7_compare 84 = .ok (.aload_n 0, 1) := by decide +kernel
theorem dX7_compare_85 : decode cX7_compare 85 = .ok (.iload 5, 2) := by decide +kernel
theorem dX7_compare_87 : decode cX7_compare 87 = .ok (.invokevirtual 33, 3) := by decide +kernel
theorem dX7_compare_90 : decode cX7_compare 90 = .ok (.goto 22, 3) := by decide +kernel
theorem dX7_compare_93 : decode cX7_compare 93 = .ok (.aload_n 0, 1) := by decide +kernel
theorem dX7_compare_94 : decode cX7_compare 94 = .ok (.getfield 9, 3) := by decide +kernel
theorem dX7_compare_97 : decode cX7_compare 97 = .ok (.iload_n 3, 1) := by decide +kernel
theorem dX7_compare_98 : decode cX7_compare 98 = .ok (.iaload, 1) := by decide +kernel
theorem dX7_compare_99 : decode cX7_compare 99 = .ok (.iload 4, 2) := by decide +kernel
theorem dX7_compare_101 : decode cX7_compare 101 = .ok (.if_icmp .eq 11, 3) := by decide +kernel
theorem dX7_compare_104 : decode cX7_compare 104 = .ok (.aload_n 0, 1) := by decide +kernel
theorem dX7_compare_105 : decode cX7_compare 105 = .ok (.iload 5, 2) := by decide +kernel
theorem dX7_compare_107 : decode cX7_compare 107 = .ok (.iconst 1, 1) := by decide +kernel
theorem dX7_compare_108 : decode cX7_compare 108 = .ok (.iadd, 1) := by decide +kernel
theorem dX7_compare_109 : decode cX7_compare 109 = .ok (.invokevirtual 33, 3) := by decide +kernel
theorem dX7_compare_112 : decode cX7_compare 112 = .ok (.iinc 3 1, 3) := by decide +kernel
theorem dX7_compare_115 : decode cX7_compare 115 = .ok (.goto (-86), 3) := by decide +kernel
theorem dX7_compare_118 : decode cX7_compare 118 = .ok (.return_, 1) := by decide +kernel
theorem dX7_readPlayers_0 : decode cX7_readPlayers 0 = .ok (.iconst 0, 1) := by decide +kernel
theorem dX7_readPlayers_1 : decode cX7_readPlayers 1 = .ok (.istore 4, 2) := by decide +kernel
theorem dX7_readPlayers_3 : decode cX7_readPlayers 3 = .ok (.iload 4, 2) := by decide +kernel
theorem dX7_readPlayers_5 : decode cX7_readPlayers 5 = .ok (.bipush 11, 2) := by decide +kernel
theorem dX7_readPlayers_7 : decode cX7_readPlayers 7 = .ok (.if_icmp .ge 76, 3) := by decide +kernel
theorem dX7_readPlayers_10 : decode cX7_readPlayers 10 = .ok (.aload_n 0, 1) := by decide +kernel
theorem dX7_readPlayers_11 : decode cX7_readPlayers 11 = .ok (.invokevirtual 53, 3) := by decide +kernel
theorem dX7_readPlayers_14 : decode cX7_readPlayers 14 = .ok (.ifCond .eq 69, 3) := by decide +kernel
theorem dX7_readPlayers_17 : decode cX7_readPlayers 17 = .ok (.aload_n 0, 1) := by decide +kernel
theorem dX7_readPlayers_18 : decode cX7_readPlayers 18 = .ok (.iconst 0, 1) := by decide +kernel
theorem dX7_readPlayers_19 : decode cX7_readPlayers 19 = .ok (.iload_n 3, 1) := by decide +kernel
theorem dX7_readPlayers_20 : decode cX7_readPlayers 20 = .ok (.iconst 1, 1) := by decide +kernel
theorem dX7_readPlayers_21 : decode cX7_readPlayers 21 = .ok (.isub, 1) := by decide +kernel
theorem dX7_readPlayers_22 : decode cX7_readPlayers 22 = .ok (.invokevirtual 29, 3) := by decide +kernel
theorem dX7_readPlayers_25 : decode cX7_readPlayers 25 = .ok (.istore 5, 2) := by decide +kernel
theorem dX7_readPlayers_27 : decode cX7_readPlayers 27 = .ok (.iconst 0, 1) := by decide +kernel
theorem dX7_readPlayers_28 : decode cX7_readPlayers 28 = .ok (.istore 6, 2) := by decide +kernel
theorem dX7_readPlayers_30 : decode cX7_readPlayers 30 = .ok (.iload 6, 2) := by decide +kernel
theorem dX7_readPlayers_32 : decode cX7_readPlayers 32 = .ok (.iload 4, 2) := by decide +kernel
theorem dX7_readPlayers_34 : decode cX7_readPlayers 34 = .ok (.if_icmp .ge 31, 3) := by decide +kernel
theorem dX7_readPlayers_37 : decode cX7_readPlayers 37 = .ok (.aload_n 1, 1) := by decide +kernel
theorem dX7_readPlayers_38 : decode cX7_readPlayers 38 = .ok (.iload_n 2, 1) := by decide +kernel
theorem dX7_readPlayers_39 : decode cX7_readPlayers 39 = .ok (.iload 6, 2) := by decide +kernel
theorem dX7_readPlayers_41 : decode cX7_readPlayers 41 = .ok (.invokevirtual 101, 3) := by decide +kernel
theorem dX7_readPlayers_44 : decode cX7_readPlayers 44 = .ok (.iload 5, 2) := by decide +kernel
theorem dX7_readPlayers_46 : decode cX7_readPlayers 46 = .ok (.if_icmp .ne 13, 3) := by decide +kernel
theorem dX7_readPlayers_49 : decode cX7_readPlayers 49 = .ok (.aload_n 0, 1) := by decide +kernel
theorem dX7_readPlayers_50 : decode cX7_readPlayers 50 = .ok (.aload_n 0, 1) := by decide +kernel
theorem dX7_readPlayers_51 : decode cX7_readPlayers 51 = .ok (.getfield 26, 3) := by decide +kernel
theorem dX7_readPlayers_54 : decode cX7_readPlayers 54 = .ok (.iconst 1, 1) := by decide +kernel
theorem dX7_readPlayers_55 : decode cX7_readPlayers 55 = .ok (.isub, 1) := by decide +kernel
theorem dX7_readPlayers_56 : decode cX7_readPlayers 56 = .ok (.invokevirtual 33, 3) := by decide +kernel
theorem dX7_readPlayers_59 : decode cX7_readPlayers 59 = .ok (.iinc 6 1, 3) := by decide +kernel
theorem dX7_readPlayers_62 : decode cX7_readPlayers 62 = .ok (.goto (-32), 3) := by decide +kernel
theorem dX7_readPlayers_65 : decode cX7_readPlayers 65 = .ok (.aload_n 1, 1) := by decide +kernel
theorem dX7_readPlayers_66 : decode cX7_readPlayers 66 = .ok (.getfield 104, 3) := by decide +kernel
theorem dX7_readPlayers_69 : decode cX7_readPlayers 69 = .ok (.iload_n 2, 1) := by decide +kernel
theorem dX7_readPlayers_70 : decode cX7_readPlayers 70 = .ok (.iload 4, 2) := by decide +kernel
theorem dX7_readPlayers_72 : decode cX7_readPlayers 72 = .ok (.iload 5, 2) := by decide +kernel
theorem dX7_readPlayers_74 : decode cX7_readPlayers 74 = .ok (.invokevirtual 108, 3) := by decide +kernel
theorem dX7_readPlayers_77 : decode cX7_readPlayers 77 = .ok (.iinc 4 1, 3) := by decide +kernel
theorem dX7_readPlayers_80 : decode cX7_readPlayers 80 = .ok (.goto (-77), 3) := by decide +kernel
theorem dX7_readPlayers_83 : decode cX7_readPlayers 83 = .ok (.return_, 1) := by decide +kernel
theorem dX7_readOver_0 : decode cX7_readOver 0 = .ok (.aload_n 0, 1) := by decide +kernel
theorem dX7_readOver_1 : decode cX7_readOver 1 = .ok (.iconst 0, 1) := by decide +kernel
theorem dX7_readOver_2 : decode cX7_readOver 2 = .ok (.bipush 15, 2) := by decide +kernel
theorem dX7_readOver_4 : decode cX7_readOver 4 = .ok (.invokevirtual 29, 3) := by decide +kernel
theorem dX7_readOver_7 : decode cX7_readOver 7 = .ok (.istore_n 2, 1) := by decide +kernel
theorem dX7_readOver_8 : decode cX7_readOver 8 = .ok (.aload_n 0, 1) := by decide +kernel
theorem dX7_readOver_9 : decode cX7_readOver 9 = .ok (.iconst 0, 1) := by decide +kernel
theorem dX7_readOver_10 : decode cX7_readOver 10 = .ok (.bipush 41, 2) := by decide +kernel
theorem dX7_readOver_12 : decode cX7_readOver 12 = .ok (.invokevirtual 29, 3) := by decide +kernel
theorem dX7_readOver_15 : decode cX7_readOver 15 = .ok (.iconst 1, 1) := by decide +kernel
theorem dX7_readOver_16 : decode cX7_readOver 16 = .ok (.isub, 1) := by decide +kernel
theorem dX7_readOver_17 : decode cX7_readOver 17 = .ok (.istore_n 3, 1) := by decide +kernel
theorem dX7_readOver_18 : decode cX7_readOver 18 = .ok (.new 114, 3) := by decide +kernel
theorem dX7_readOver_21 : decode cX7_readOver 21 = .ok (.dup, 1) := by decide +kernel
theorem dX7_readOver_22 : decode cX7_readOver 22 = .ok (.iload_n 2, 1) := by decide +kernel
theorem dX7_readOver_23 : decode cX7_readOver 23 = .ok (.iload_n 3, 1) := by decide +kernel
theorem dX7_readOver_24 : decode cX7_readOver 24 = .ok (.iconst 0, 1) := by decide +kernel
theorem dX7_readOver_25 : decode cX7_readOver 25 = .ok (.invokestatic 116, 3) := by decide +kernel
theorem dX7_readOver_28 : decode cX7_readOver 28 = .ok (.invokespecial 121, 3) := by decide +kernel
theorem dX7_readOver_31 : decode cX7_readOver 31 = .ok (.astore 4, 2) := by decide +kernel
theorem dX7_readOver_33 : decode cX7_readOver 33 = .ok (.iconst 0, 1) := by decide +kernel
theorem dX7_readOver_34 : decode cX7_readOver 34 = .ok (.istore 5, 2) := by decide +kernel
theorem dX7_readOver_36 : decode cX7_readOver 36 = .ok (.iload 5, 2) := by decide +kernel
theorem dX7_readOver_38 : decode cX7_readOver 38 = .ok (.iload_n 3, 1) := by decide +kernel
theorem dX7_readOver_39 : decode cX7_readOver 39 = .ok (.if_icmp .ge 31, 3) := by decide +kernel
theorem dX7_readOver_42 : decode cX7_readOver 42 = .ok (.aload_n 0, 1) := by decide +kernel
theorem dX7_readOver_43 : decode cX7_readOver 43 = .ok (.invokevirtual 53, 3) := by decide +kernel
theorem dX7_readOver_46 : decode cX7_readOver 46 = .ok (.ifCond .eq 24, 3) := by decide +kernel
theorem dX7_readOver_49 : decode cX7_readOver 49 = .ok (.aload 4, 2) := by decide +kernel
theorem dX7_readOver_51 : decode cX7_readOver 51 = .ok (.iload 5, 2) := by decide +kernel
theorem dX7_readOver_53 : decode cX7_readOver 53 = .ok (.aload_n 0, 1) := by decide +kernel
theorem dX7_readOver_54 : decode cX7_readOver 54 = .ok (.iconst 0, 1) := by decide +kernel
theorem dX7_readOver_55 : decode cX7_readOver 55 = .ok (.sipush 255, 3) := by decide +kernel
theorem dX7_readOver_58 : decode cX7_readOver 58 = .ok (.invokevirtual 29, 3) := by decide +kernel
theorem dX7_readOver_61 : decode cX7_readOver 61 = .ok (.invokevirtual 124, 3) := by decide +kernel
theorem dX7_readOver_64 : decode cX7_readOver 64 = .ok (.iinc 5 1, 3) := by decide +kernel
theorem dX7_readOver_67 : decode cX7_readOver 67 = .ok (.goto (-31), 3) := by decide +kernel
theorem dX7_readOver_70 : decode cX7_readOver 70 = .ok (.aload_n 1, 1) := by decide +kernel
theorem dX7_readOver_71 : decode cX7_readOver 71 = .ok (.aload 4, 2) := by decide +kernel
theorem dX7_readOver_73 : decode cX7_readOver 73 = .ok (.invokevirtual 127, 3) := by decide +kernel
theorem dX7_readOver_76 : decode cX7_readOver 76 = .ok (.return_, 1) := by decide +kernel
theorem dX7_next_0 : decode cX7_next 0 = .ok (.aload_n 0, 1) := by decide +kernel
theorem dX7_next_1 : decode cX7_next 1 = .ok (.invokevirtual 53, 3) := by decide +kernel
theorem dX7_next_4 : decode cX7_next 4 = .ok (.ifCond .eq 10, 3) := by decide +kernel
theorem dX7_next_7 : decode cX7_next 7 = .ok (.aload_n 0, 1) := by decide +kernel
theorem dX7_next_8 : decode cX7_next 8 = .ok (.getfield 15, 3) := by decide +kernel
theorem dX7_next_11 : decode cX7_next 11 = .ok (.ifnonnull 5, 3) := by decide +kernel
theorem dX7_next_14 : decode cX7_next 14 = .ok (.iload_n 1, 1) := by decide +kernel
theorem dX7_next_15 : decode cX7_next 15 = .ok (.ireturn, 1) := by decide +kernel
theorem dX7_next_16 : decode cX7_next 16 = .ok (.aload_n 0, 1) := by decide +kernel
theorem dX7_next_17 : decode cX7_next 17 = .ok (.getfield 26, 3) := by decide +kernel
theorem dX7_next_20 : decode cX7_next 20 = .ok (.aload_n 0, 1) := by decide +kernel
theorem dX7_next_21 : decode cX7_next 21 = .ok (.getfield 23, 3) := by decide +kernel
theorem dX7_next_24 : decode cX7_next 24 = .ok (.if_icmp .ge 17, 3) := by decide +kernel
theorem dX7_next_27 : decode cX7_next 27 = .ok (.aload_n 0, 1) := by decide +kernel
theorem dX7_next_28 : decode cX7_next 28 = .ok (.getfield 15, 3) := by decide +kernel
theorem dX7_next_31 : decode cX7_next 31 = .ok (.aload_n 0, 1) := by decide +kernel
theorem dX7_next_32 : decode cX7_next 32 = .ok (.getfield 26, 3) := by decide +kernel
theorem dX7_next_35 : decode cX7_next 35 = .ok (.invokevirtual 131, 3) := by decide +kernel
theorem dX7_next_38 : decode cX7_next 38 = .ok (.goto 4, 3) := by decide +kernel
theorem dX7_next_41 : decode cX7_next 41 = .ok (.iconst (-1), 1) := by decide +kernel
theorem dX7_next_42 : decode cX7_next 42 = .ok (.istore_n 3, 1) := by decide +kernel
theorem dX7_next_43 : decode cX7_next 43 = .ok (.iload_n 3, 1) := by decide +kernel
theorem dX7_next_44 : decode cX7_next 44 = .ok (.iload_n 1, 1) := by decide +kernel
theorem dX7_next_45 : decode cX7_next 45 = .ok (.if_icmp .lt 8, 3) := by decide +kernel
theorem dX7_next_48 : decode cX7_next 48 = .ok (.iload_n 3, 1) := by decide +kernel
theorem dX7_next_49 : decode cX7_next 49 = .ok (.iload_n 2, 1) := by decide +kernel
theorem dX7_next_50 : decode cX7_next 50 = .ok (.if_icmp .le 13, 3) := by decide +kernel
theorem dX7_next_53 : decode cX7_next 53 = .ok (.aload_n 0, 1) := by decide +kernel
theorem dX7_next_54 : decode cX7_next 54 = .ok (.aload_n 0, 1) := by decide +kernel
theorem dX7_next_55 : decode cX7_next 55 = .ok (.getfield 26, 3) := by decide +kernel
theorem dX7_next_58 : decode cX7_next 58 = .ok (.invokevirtual 33, 3) := by decide +kernel
theorem dX7_next_61 : decode cX7_next 61 = .ok (.iload_n 1, 1) := by decide +kernel
theorem dX7_next_62 : decode cX7_next 62 = .ok (.ireturn, 1) := by decide +kernel
theorem dX7_next_63 : decode cX7_next 63 = .ok (.aload_n 0, 1) := by decide +kernel
theorem dX7_next_64 : decode cX7_next 64 = .ok (.dup, 1) := by decide +kernel
theorem dX7_next_65 : decode cX7_next 65 = .ok (.getfield 26, 3) := by decide +kernel
theorem dX7_next_68 : decode cX7_next 68 = .ok (.iconst 1, 1) := by decide +kernel
theorem dX7_next_69 : decode cX7_next 69 = .ok (.iadd, 1) := by decide +kernel
theorem dX7_next_70 : decode cX7_next 70 = .ok (.putfield 26, 3) := by decide +kernel
theorem dX7_next_73 : decode cX7_next 73 = .ok (.iload_n 3, 1) := by decide +kernel
theorem dX7_next_74 : decode cX7_next 74 = .ok (.ireturn, 1) := by decide +kernel
theorem dX7_fail_0 : decode cX7_fail 0 = .ok (.aload_n 0, 1) := by decide +kernel
theorem dX7_fail_1 : decode cX7_fail 1 = .ok (.getfield 19, 3) := by decide +kernel
theorem dX7_fail_4 : decode cX7_fail 4 = .ok (.iconst (-1), 1) := by decide +kernel
theorem dX7_fail_5 : decode cX7_fail 5 = .ok (.if_icmp .ne 8, 3) := by decide +kernel
theorem dX7_fail_8 : decode cX7_fail 8 = .ok (.aload_n 0, 1) := by decide +kernel
theorem dX7_fail_9 : decode cX7_fail 9 = .ok (.iload_n 1, 1) := by decide +kernel
theorem dX7_fail_10 : decode cX7_fail 10 = .ok (.putfield 19, 3) := by decide +kernel
theorem dX7_fail_13 : decode cX7_fail 13 = .ok (.return_, 1) := by decide +kernel
theorem dX8_init_0 : decode cX8_init 0 = .ok (.aload_n 0, 1) := by decide +kernel
theorem dX8_init_1 : decode cX8_init 1 = .ok (.invokespecial 3, 3) := by decide +kernel
theorem dX8_init_4 : decode cX8_init 4 = .ok (.aload_n 0, 1) := by decide +kernel
theorem dX8_init_5 : decode cX8_init 5 = .ok (.new 9, 3) := by decide +kernel
theorem dX8_init_8 : decode cX8_init 8 = .ok (.dup, 1) := by decide +kernel
theorem dX8_init_9 : decode cX8_init 9 = .ok (.iconst 4, 1) := by decide +kernel
theorem dX8_init_10 : decode cX8_init 10 = .ok (.bipush 6, 2) := by decide +kernel
theorem dX8_init_12 : decode cX8_init 12 = .ok (.invokespecial 11, 3) := by decide +kernel
theorem dX8_init_15 : decode cX8_init 15 = .ok (.putfield 14, 3) := by decide +kernel
theorem dX8_init_18 : decode cX8_init 18 = .ok (.aload_n 0, 1) := by decide +kernel
theorem dX8_init_19 : decode cX8_init 19 = .ok (.new 9, 3) := by decide +kernel
theorem dX8_init_22 : decode cX8_init 22 = .ok (.dup, 1) := by decide +kernel
theorem dX8_init_23 : decode cX8_init 23 = .ok (.bipush 60, 2) := by decide +kernel
theorem dX8_init_25 : decode cX8_init 25 = .ok (.bipush 30, 2) := by decide +kernel
theorem dX8_init_27 : decode cX8_init 27 = .ok (.invokespecial 11, 3) := by decide +kernel
theorem dX8_init_30 : decode cX8_init 30 = .ok (.putfield 20, 3) := by decide +kernel
theorem dX8_init_33 : decode cX8_init 33 = .ok (.return_, 1) := by decide +kernel
theorem dX8_clear_0 : decode cX8_clear 0 = .ok (.aload_n 0, 1) := by decide +kernel
theorem dX8_clear_1 : decode cX8_clear 1 = .ok (.getfield 14, 3) := by decide +kernel
theorem dX8_clear_4 : decode cX8_clear 4 = .ok (.iconst (-1), 1) := by decide +kernel
theorem dX8_clear_5 : decode cX8_clear 5 = .ok (.invokevirtual 23, 3) := by decide +kernel
theorem dX8_clear_8 : decode cX8_clear 8 = .ok (.aload_n 0, 1) := by decide +kernel
theorem dX8_clear_9 : decode cX8_clear 9 = .ok (.getfield 20, 3) := by decide +kernel
theorem dX8_clear_12 : decode cX8_clear 12 = .ok (.iconst 0, 1) := by decide +kernel
theorem dX8_clear_13 : decode cX8_clear 13 = .ok (.invokevirtual 23, 3) := by decide +kernel
theorem dX8_clear_16 : decode cX8_clear 16 = .ok (.return_, 1) := by decide +kernel
theorem dX8_addTurn_0 : decode cX8_addTurn 0 = .ok (.aload_n 3, 1) := by decide +kernel
theorem dX8_addTurn_1 : decode cX8_addTurn 1 = .ok (.iload_n 2, 1) := by decide +kernel
theorem dX8_addTurn_2 : decode cX8_addTurn 2 = .ok (.iconst 2, 1) := by decide +kernel
theorem dX8_addTurn_3 : decode cX8_addTurn 3 = .ok (.irem, 1) := by decide +kernel
theorem dX8_addTurn_4 : decode cX8_addTurn 4 = .ok (.invokevirtual 27, 3) := by decide +kernel
theorem dX8_addTurn_7 : decode cX8_addTurn 7 = .ok (.istore 5, 2) := by decide +kernel
theorem dX8_addTurn_9 : decode cX8_addTurn 9 = .ok (.aload_n 3, 1) := by decide +kernel
theorem dX8_addTurn_10 : decode cX8_addTurn 10 = .ok (.iconst 1, 1) := by decide +kernel
theorem dX8_addTurn_11 : decode cX8_addTurn 11 = .ok (.iload_n 2, 1) := by decide +kernel
theorem dX8_addTurn_12 : decode cX8_addTurn 12 = .ok (.iconst 2, 1) := by decide +kernel
theorem dX8_addTurn_13 : decode cX8_addTurn 13 = .ok (.irem, 1) := by decide +kernel
theorem dX8_addTurn_14 : decode cX8_addTurn 14 = .ok (.isub, 1) := by decide +kernel
theorem dX8_addTurn_15 : decode cX8_addTurn 15 = .ok (.invokevirtual 27, 3) := by decide +kernel
theorem dX8_addTurn_18 : decode cX8_addTurn 18 = .ok (.istore 6, 2) := by decide +kernel
theorem dX8_addTurn_20 : decode cX8_addTurn 20 = .ok (.aload 4, 2) := by decide +kernel
theorem dX8_addTurn_22 : decode cX8_addTurn 22 = .ok (.getfield 33, 3) := by decide +kernel
theorem dX8_addTurn_25 : decode cX8_addTurn 25 = .ok (.aload_n 0, 1) := by decide +kernel
theorem dX8_addTurn_26 : decode cX8_addTurn 26 = .ok (.getfield 14, 3) := by decide +kernel
theorem dX8_addTurn_29 : decode cX8_addTurn 29 = .ok (.iconst 2, 1) := by decide +kernel
theorem dX8_addTurn_30 : decode cX8_addTurn 30 = .ok (.iconst 0, 1) := by decide +kernel
theorem dX8_addTurn_31 : decode cX8_addTurn 31 = .ok (.invokevirtual 39, 3) := by decide +kernel
theorem dX8_addTurn_34 : decode cX8_addTurn 34 = .ok (.if_icmp .le 19, 3) := by decide +kernel
theorem dX8_addTurn_37 : decode cX8_addTurn 37 = .ok (.aload_n 0, 1) := by decide +kernel
theorem dX8_addTurn_38 : decode cX8_addTurn 38 = .ok (.iconst 2, 1) := by decide +kernel
theorem dX8_addTurn_39 : decode cX8_addTurn 39 = .ok (.aload 4, 2) := by decide +kernel
theorem dX8_addTurn_41 : decode cX8_addTurn 41 = .ok (.getfield 33, 3) := by decide +kernel
theorem dX8_addTurn_44 : decode cX8_addTurn 44 = .ok (.iload_n 1, 1) := by decide +kernel
theorem dX8_addTurn_45 : decode cX8_addTurn 45 = .ok (.iload_n 2, 1) := by decide +kernel
theorem dX8_addTurn_46 : decode cX8_addTurn 46 = .ok (.iload 5, 2) := by decide +kernel
theorem dX8_addTurn_48 : decode cX8_addTurn 48 = .ok (.iconst (-1), 1) := by decide +kernel
theorem dX8_addTurn_49 : decode cX8_addTurn 49 = .ok (.iconst 0, 1) := by decide +kernel
theorem dX8_addTurn_50 : decode cX8_addTurn 50 = .ok (.invokevirtual 43, 3) := by decide +kernel
theorem dX8_addTurn_53 : decode cX8_addTurn 53 = .ok (.iconst 0, 1) := by decide +kernel
theorem dX8_addTurn_54 : decode cX8_addTurn 54 = .ok (.istore 7, 2) := by decide +kernel
theorem dX8_addTurn_56 : decode cX8_addTurn 56 = .ok (.iload 7, 2) := by decide +kernel
theorem dX8_addTurn_58 : decode cX8_addTurn 58 = .ok (.bipush 11, 2) := by decide +kernel
theorem dX8_addTurn_60 : decode cX8_addTurn 60 = .ok (.if_icmp .ge 149, 3) := by decide +kernel
theorem dX8_addTurn_63 : decode cX8_addTurn 63 = .ok (.aload_n 3, 1) := by decide +kernel
theorem dX8_addTurn_64 : decode cX8_addTurn 64 = .ok (.iload_n 2, 1) := by decide +kernel
theorem dX8_addTurn_65 : decode cX8_addTurn 65 = .ok (.iconst 2, 1) := by decide +kernel
theorem dX8_addTurn_66 : decode cX8_addTurn 66 = .ok (.irem, 1) := by decide +kernel
theorem dX8_addTurn_67 : decode cX8_addTurn 67 = .ok (.iload 7, 2) := by decide +kernel
theorem dX8_addTurn_69 : decode cX8_addTurn 69 = .ok (.invokevirtual 47, 3) := by decide +kernel
theorem dX8_addTurn_72 : decode cX8_addTurn 72 = .ok (.istore 8, 2) := by decide +kernel
theorem dX8_addTurn_74 : decode cX8_addTurn 74 = .ok (.aload 4, 2) := by decide +kernel
theorem dX8_addTurn_76 : decode cX8_addTurn 76 = .ok (.getfield 50, 3) := by decide +kernel
theorem dX8_addTurn_79 : decode cX8_addTurn 79 = .ok (.iload 7, 2) := by decide +kernel
theorem dX8_addTurn_81 : decode cX8_addTurn 81 = .ok (.iconst 0, 1) := by decide +kernel
theorem dX8_addTurn_82 : decode cX8_addTurn 82 = .ok (.invokevirtual 39, 3) := by decide +kernel
theorem dX8_addTurn_85 : decode cX8_addTurn 85 = .ok (.istore 9, 2) := by decide +kernel
theorem dX8_addTurn_87 : decode cX8_addTurn 87 = .ok (.aload_n 0, 1) := by decide +kernel
theorem dX8_addTurn_88 : decode cX8_addTurn 88 = .ok (.getfield 20, 3) := by decide +kernel
theorem dX8_addTurn_91 : decode cX8_addTurn 91 = .ok (.iload 5, 2) := by decide +kernel
theorem dX8_addTurn_93 : decode cX8_addTurn 93 = .ok (.iload 8, 2) := by decide +kernel
theorem dX8_addTurn_95 : decode cX8_addTurn 95 = .ok (.iload 9, 2) := by decide +kernel
theorem dX8_addTurn_97 : decode cX8_addTurn 97 = .ok (.invokevirtual 53, 3) := by decide +kernel
theorem dX8_addTurn_100 : decode cX8_addTurn 100 = .ok (.iload 9, 2) := by decide +kernel
theorem dX8_addTurn_102 : decode cX8_addTurn 102 = .ok (.aload_n 0, 1) := by decide +kernel
theorem dX8_addTurn_103 : decode cX8_addTurn 103 = .ok (.getfield 14, 3) := by decide +kernel
theorem dX8_addTurn_106 : decode cX8_addTurn 106 = .ok (.iconst 0, 1) := by decide +kernel
theorem dX8_addTurn_107 : decode cX8_addTurn 107 = .ok (.iconst 0, 1) := by decide +kernel
theorem dX8_addTurn_108 : decode cX8_addTurn 108 = .ok (.invokevirtual 39, 3) := by decide +kernel
theorem dX8_addTurn_111 : decode cX8_addTurn 111 = .ok (.if_icmp .le 17, 3) := by decide +kernel
theorem dX8_addTurn_114 : decode cX8_addTurn 114 = .ok (.aload_n 0, 1) := by decide +kernel
theorem dX8_addTurn_115 : decode cX8_addTurn 115 = .ok (.iconst 0, 1) := by decide +kernel
theorem dX8_addTurn_116 : decode cX8_addTurn 116 = .ok (.iload 9, 2) := by decide +kernel
theorem dX8_addTurn_118 : decode cX8_addTurn 118 = .ok (.iload_n 1, 1) := by decide +kernel
theorem dX8_addTurn_119 : decode cX8_addTurn 119 = .ok (.iload_n 2, 1) := by decide +kernel
theorem dX8_addTurn_120 : decode cX8_addTurn 120 = .ok (.iload 5, 2) := by decide +kernel
theorem dX8_addTurn_122 : decode cX8_addTurn 122 = .ok (.iload 8, 2) := by decide +kernel
theorem dX8_addTurn_124 : decode cX8_addTurn 124 = .ok (.iconst 0, 1) := by decide +kernel
theorem dX8_addTurn_125 : decode cX8_addTurn 125 = .ok (.invokevirtual 43, 3) := by decide +kernel
theorem dX8_addTurn_128 : decode cX8_addTurn 128 = .ok (.aload 4, 2) := by decide +kernel
theorem dX8_addTurn_130 : decode cX8_addTurn 130 = .ok (.getfield 57, 3) := by decide +kernel
theorem dX8_addTurn_133 : decode cX8_addTurn 133 = .ok (.iload 7, 2) := by decide +kernel
theorem dX8_addTurn_135 : decode cX8_addTurn 135 = .ok (.iconst 2, 1) := by decide +kernel
theorem dX8_addTurn_136 : decode cX8_addTurn 136 = .ok (.invokevirtual 39, 3) := by decide +kernel
theorem dX8_addTurn_139 : decode cX8_addTurn 139 = .ok (.istore 10, 2) := by decide +kernel
theorem dX8_addTurn_141 : decode cX8_addTurn 141 = .ok (.aload 4, 2) := by decide +kernel
theorem dX8_addTurn_143 : decode cX8_addTurn 143 = .ok (.getfield 57, 3) := by decide +kernel
theorem dX8_addTurn_146 : decode cX8_addTurn 146 = .ok (.iload 7, 2) := by decide +kernel
theorem dX8_addTurn_148 : decode cX8_addTurn 148 = .ok (.iconst 1, 1) := by decide +kernel
theorem dX8_addTurn_149 : decode cX8_addTurn 149 = .ok (.invokevirtual 39, 3) := by decide +kernel
theorem dX8_addTurn_152 : decode cX8_addTurn 152 = .ok (.istore 11, 2) := by decide +kernel
theorem dX8_addTurn_154 : decode cX8_addTurn 154 = .ok (.aload 4, 2) := by decide +kernel
theorem dX8_addTurn_156 : decode cX8_addTurn 156 = .ok (.getfield 57, 3) := by decide +kernel
theorem dX8_addTurn_159 : decode cX8_addTurn 159 = .ok (.iload 7, 2) := by decide +kernel
theorem dX8_addTurn_161 : decode cX8_addTurn 161 = .ok (.iconst 0, 1) := by decide +kernel
theorem dX8_addTurn_162 : decode cX8_addTurn 162 = .ok (.invokevirtual 39, 3) := by decide +kernel
theorem dX8_addTurn_165 : decode cX8_addTurn 165 = .ok (.ifCond .le 38, 3) := by decide +kernel
theorem dX8_addTurn_168 : decode cX8_addTurn 168 = .ok (.aload_n 0, 1) := by decide +kernel
theorem dX8_addTurn_169 : decode cX8_addTurn 169 = .ok (.iload 10, 2) := by decide +kernel
theorem dX8_addTurn_171 : decode cX8_addTurn 171 = .ok (.iload 11, 2) := by decide +kernel
theorem dX8_addTurn_173 : decode cX8_addTurn 173 = .ok (.invokevirtual 60, 3) := by decide +kernel
theorem dX8_addTurn_176 : decode cX8_addTurn 176 = .ok (.ifCond .eq 27, 3) := by decide +kernel
theorem dX8_addTurn_179 : decode cX8_addTurn 179 = .ok (.aload_n 0, 1) := by decide +kernel
theorem dX8_addTurn_180 : decode cX8_addTurn 180 = .ok (.iconst 1, 1) := by decide +kernel
theorem dX8_addTurn_181 : decode cX8_addTurn 181 = .ok (.iload 10, 2) := by decide +kernel
theorem dX8_addTurn_183 : decode cX8_addTurn 183 = .ok (.iload_n 1, 1) := by decide +kernel
theorem dX8_addTurn_184 : decode cX8_addTurn 184 = .ok (.iload_n 2, 1) := by decide +kernel
theorem dX8_addTurn_185 : decode cX8_addTurn 185 = .ok (.iload 6, 2) := by decide +kernel
theorem dX8_addTurn_187 : decode cX8_addTurn 187 = .ok (.aload_n 3, 1) := by decide +kernel
theorem dX8_addTurn_188 : decode cX8_addTurn 188 = .ok (.iconst 1, 1) := by decide +kernel
theorem dX8_addTurn_189 : decode cX8_addTurn 189 = .ok (.iload_n 2, 1) := by decide +kernel
theorem dX8_addTurn_190 : decode cX8_addTurn 190 = .ok (.iconst 2, 1) := by decide +kernel
theorem dX8_addTurn_191 : decode cX8_addTurn 191 = .ok (.irem, 1) := by decide +kernel
theorem dX8_addTurn_192 : decode cX8_addTurn 192 = .ok (.isub, 1) := by decide +kernel
theorem dX8_addTurn_193 : decode cX8_addTurn 193 = .ok (.iload 7, 2) := by decide +kernel
theorem dX8_addTurn_195 : decode cX8_addTurn 195 = .ok (.invokevirtual 47, 3) := by decide +kernel
theorem dX8_addTurn_198 : decode cX8_addTurn 198 = .ok (.iload 11, 2) := by decide +kernel
theorem dX8_addTurn_200 : decode cX8_addTurn 200 = .ok (.invokevirtual 43, 3) := by decide +kernel
theorem dX8_addTurn_203 : decode cX8_addTurn 203 = .ok (.iinc 7 1, 3) := by decide +kernel
theorem dX8_addTurn_206 : decode cX8_addTurn 206 = .ok (.goto (-150), 3) := by decide +kernel
theorem dX8_addTurn_209 : decode cX8_addTurn 209 = .ok (.return_, 1) := by decide +kernel
theorem dX8_addTotals_0 : decode cX8_addTotals 0 = .ok (.iconst 0, 1) := by decide +kernel
theorem dX8_addTotals_1 : decode cX8_addTotals 1 = .ok (.istore_n 3, 1) := by decide +kernel
theorem dX8_addTotals_2 : decode cX8_addTotals 2 = .ok (.iload_n 3, 1) := by decide +kernel
theorem dX8_addTotals_3 : decode cX8_addTotals 3 = .ok (.iload_n 2, 1) := by decide +kernel
theorem dX8_addTotals_4 : decode cX8_addTotals 4 = .ok (.if_icmp .ge 46, 3) := by decide +kernel
theorem dX8_addTotals_7 : decode cX8_addTotals 7 = .ok (.aload_n 0, 1) := by decide +kernel
theorem dX8_addTotals_8 : decode cX8_addTotals 8 = .ok (.getfield 20, 3) := by decide +kernel
theorem dX8_addTotals_11 : decode cX8_addTotals 11 = .ok (.iload_n 1, 1) := by decide +kernel
theorem dX8_addTotals_12 : decode cX8_addTotals 12 = .ok (.iload_n 3, 1) := by decide +kernel
theorem dX8_addTotals_13 : decode cX8_addTotals 13 = .ok (.invokevirtual 39, 3) := by decide +kernel
theorem dX8_addTotals_16 : decode cX8_addTotals 16 = .ok (.istore 4, 2) := by decide +kernel
theorem dX8_addTotals_18 : decode cX8_addTotals 18 = .ok (.iload 4, 2) := by decide +kernel
theorem dX8_addTotals_20 : decode cX8_addTotals 20 = .ok (.aload_n 0, 1) := by decide +kernel
theorem dX8_addTotals_21 : decode cX8_addTotals 21 = .ok (.getfield 14, 3) := by decide +kernel
theorem dX8_addTotals_24 : decode cX8_addTotals 24 = .ok (.iconst 3, 1) := by decide +kernel
theorem dX8_addTotals_25 : decode cX8_addTotals 25 = .ok (.iconst 0, 1) := by decide +kernel
theorem dX8_addTotals_26 : decode cX8_addTotals 26 = .ok (.invokevirtual 39, 3) := by decide +kernel
theorem dX8_addTotals_29 : decode cX8_addTotals 29 = .ok (.if_icmp .le 15, 3) := by decide +kernel
theorem dX8_addTotals_32 : decode cX8_addTotals 32 = .ok (.aload_n 0, 1) := by decide +kernel
theorem dX8_addTotals_33 : decode cX8_addTotals 33 = .ok (.iconst 3, 1) := by decide +kernel
theorem dX8_addTotals_34 : decode cX8_addTotals 34 = .ok (.iload 4, 2) := by decide +kernel
theorem dX8_addTotals_36 : decode cX8_addTotals 36 = .ok (.iconst (-1), 1) := by decide +kernel
theorem dX8_addTotals_37 : decode cX8_addTotals 37 = .ok (.iconst (-1), 1) := by decide +kernel
theorem dX8_addTotals_38 : decode cX8_addTotals 38 = .ok (.iload_n 1, 1) := by decide +kernel
theorem dX8_addTotals_39 : decode cX8_addTotals 39 = .ok (.iload_n 3, 1) := by decide +kernel
theorem dX8_addTotals_40 : decode cX8_addTotals 40 = .ok (.iconst 0, 1) := by decide +kernel
theorem dX8_addTotals_41 : decode cX8_addTotals 41 = .ok (.invokevirtual 43, 3) := by decide +kernel
theorem dX8_addTotals_44 : decode cX8_addTotals 44 = .ok (.iinc 3 1, 3) := by decide +kernel
theorem dX8_addTotals_47 : decode cX8_addTotals 47 = .ok (.goto (-45), 3) := by decide +kernel
theorem dX8_addTotals_50 : decode cX8_addTotals 50 = .ok (.return_, 1) := by decide +kernel
theorem dX8_isBetterBowler_0 : decode cX8_isBetterBowler 0 = .ok (.aload_n 0, 1) := by decide +kernel
theorem dX8_isBetterBowler_1 : decode cX8_isBetterBowler 1 = .ok (.getfield 14, 3) := by decide +kernel
theorem dX8_isBetterBowler_4 : decode cX8_isBetterBowler 4 = .ok (.iconst 1, 1) := by decide +kernel
theorem dX8_isBetterBowler_5 : decode cX8_isBetterBowler 5 = .ok (.iconst 0, 1) := by decide +kernel
theorem dX8_isBetterBowler_6 : decode cX8_isBetterBowler 6 = .ok (.invokevirtual 39, 3) := by decide +kernel
theorem dX8_isBetterBowler_9 : decode cX8_isBetterBowler 9 = .ok (.istore_n 3, 1) := by decide +kernel
theorem dX8_isBetterBowler_10 : decode cX8_isBetterBowler 10 = .ok (.iload_n 1, 1) := by decide +kernel
theorem dX8_isBetterBowler_11 : decode cX8_isBetterBowler 11 = .ok (.iload_n 3, 1) := by decide +kernel
theorem dX8_isBetterBowler_12 : decode cX8_isBetterBowler 12 = .ok (.if_icmp .gt 21, 3) := by decide +kernel
theorem dX8_isBetterBowler_15 : decode cX8_isBetterBowler 15 = .ok (.iload_n 1, 1) := by decide +kernel
theorem dX8_isBetterBowler_16 : decode cX8_isBetterBowler 16 = .ok (.iload_n 3, 1) := by decide +kernel
theorem dX8_isBetterBowler_17 : decode cX8_isBetterBowler 17 = .ok (.if_icmp .ne 20, 3) := by decide +kernel
theorem dX8_isBetterBowler_20 : decode cX8_isBetterBowler 20 = .ok (.iload_n 2, 1) := by decide +kernel
theorem dX8_isBetterBowler_21 : decode cX8_isBetterBowler 21 = .ok (.aload_n 0, 1) := by decide +kernel
theorem dX8_isBetterBowler_22 : decode cX8_isBetterBowler 22 = .ok (.getfield 14, 3) := by decide +kernel
theorem dX8_isBetterBowler_25 : decode cX8_isBetterBowler 25 = .ok (.iconst 1, 1) := by decide +kernel
theorem dX8_isBetterBowler_26 : decode cX8_isBetterBowler 26 = .ok (.iconst 5, 1) := by decide +kernel
theorem dX8_isBetterBowler_27 : decode cX8_isBetterBowler 27 = .ok (.invokevirtual 39, 3) := by decide +kernel
theorem dX8_isBetterBowler_30 : decode cX8_isBetterBowler 30 = .ok (.if_icmp .ge 7, 3) := by decide +kernel
theorem dX8_isBetterBowler_33 : decode cX8_isBetterBowler 33 = .ok (.iconst 1, 1) := by decide +kernel
theorem dX8_isBetterBowler_34 : decode cX8_isBetterBowler 34 = .ok (.goto 4, 3) := by decide +kernel
theorem dX8_isBetterBowler_37 : decode cX8_isBetterBowler 37 = .ok (.iconst 0, 1) := by decide +kernel
theorem dX8_isBetterBowler_38 : decode cX8_isBetterBowler 38 = .ok (.ireturn, 1) := by decide +kernel
theorem dX8_note_0 : decode cX8_note 0 = .ok (.aload_n 0, 1) := by decide +kernel
theorem dX8_note_1 : decode cX8_note 1 = .ok (.getfield 14, 3) := by decide +kernel
theorem dX8_note_4 : decode cX8_note 4 = .ok (.iload_n 1, 1) := by decide +kernel
theorem dX8_note_5 : decode cX8_note 5 = .ok (.iconst 0, 1) := by decide +kernel
theorem dX8_note_6 : decode cX8_note 6 = .ok (.iload_n 2, 1) := by decide +kernel
theorem dX8_note_7 : decode cX8_note 7 = .ok (.invokevirtual 64, 3) := by decide +kernel
theorem dX8_note_10 : decode cX8_note 10 = .ok (.aload_n 0, 1) := by decide +kernel
theorem dX8_note_11 : decode cX8_note 11 = .ok (.getfield 14, 3) := by decide +kernel
theorem dX8_note_14 : decode cX8_note 14 = .ok (.iload_n 1, 1) := by decide +kernel
theorem dX8_note_15 : decode cX8_note 15 = .ok (.iconst 1, 1) := by decide +kernel
theorem dX8_note_16 : decode cX8_note 16 = .ok (.iload_n 3, 1) := by decide +kernel
theorem dX8_note_17 : decode cX8_note 17 = .ok (.invokevirtual 64, 3) := by decide +kernel
theorem dX8_note_20 : decode cX8_note 20 = .ok (.aload_n 0, 1) := by decide +kernel
theorem dX8_note_21 : decode cX8_note 21 = .ok (.getfield 14, 3) := by decide +kernel
theorem dX8_note_24 : decode cX8_note 24 = .ok (.iload_n 1, 1) := by decide +kernel
theorem dX8_note_25 : decode cX8_note 25 = .ok (.iconst 2, 1) := by decide +kernel
theorem dX8_note_26 : decode cX8_note 26 = .ok (.iload 4, 2) := by decide +kernel
theorem dX8_note_28 : decode cX8_note 28 = .ok (.invokevirtual 64, 3) := by decide +kernel
theorem dX8_note_31 : decode cX8_note 31 = .ok (.aload_n 0, 1) := by decide +kernel
theorem dX8_note_32 : decode cX8_note 32 = .ok (.getfield 14, 3) := by decide +kernel
theorem dX8_note_35 : decode cX8_note 35 = .ok (.iload_n 1, 1) := by decide +kernel
theorem dX8_note_36 : decode cX8_note 36 = .ok (.iconst 3, 1) := by decide +kernel
theorem dX8_note_37 : decode cX8_note 37 = .ok (.iload 5, 2) := by decide +kernel
theorem dX8_note_39 : decode cX8_note 39 = .ok (.invokevirtual 64, 3) := by decide +kernel
theorem dX8_note_42 : decode cX8_note 42 = .ok (.aload_n 0, 1) := by decide +kernel
theorem dX8_note_43 : decode cX8_note 43 = .ok (.getfield 14, 3) := by decide +kernel
theorem dX8_note_46 : decode cX8_note 46 = .ok (.iload_n 1, 1) := by decide +kernel
theorem dX8_note_47 : decode cX8_note 47 = .ok (.iconst 4, 1) := by decide +kernel
theorem dX8_note_48 : decode cX8_note 48 = .ok (.iload 6, 2) := by decide +kernel
theorem dX8_note_50 : decode cX8_note 50 = .ok (.invokevirtual 64, 3) := by decide +kernel
theorem dX8_note_53 : decode cX8_note 53 = .ok (.aload_n 0, 1) := by decide +kernel
theorem dX8_note_54 : decode cX8_note 54 = .ok (.getfield 14, 3) := by decide +kernel
theorem dX8_note_57 : decode cX8_note 57 = .ok (.iload_n 1, 1) := by decide +kernel
theorem dX8_note_58 : decode cX8_note 58 = .ok (.iconst 5, 1) := by decide +kernel
theorem dX8_note_59 : decode cX8_note 59 = .ok (.iload 7, 2) := by decide +kernel
theorem dX8_note_61 : decode cX8_note 61 = .ok (.invokevirtual 64, 3) := by decide +kernel
theorem dX8_note_64 : decode cX8_note 64 = .ok (.return_, 1) := by decide +kernel
theorem dX9_init_0 : decode cX9_init 0 = .ok (.aload_n 0, 1) := by decide +kernel
theorem dX9_init_1 : decode cX9_init 1 = .ok (.invokespecial 3, 3) := by decide +kernel
theorem dX9_init_4 : decode cX9_init 4 = .ok (.aload_n 0, 1) := by decide +kernel
theorem dX9_init_5 : decode cX9_init 5 = .ok (.new 9, 3) := by decide +kernel
theorem dX9_init_8 : decode cX9_init 8 = .ok (.dup, 1) := by decide +kernel
theorem dX9_init_9 : decode cX9_init 9 = .ok (.bipush 11, 2) := by decide +kernel
theorem dX9_init_11 : decode cX9_init 11 = .ok (.iconst 3, 1) := by decide +kernel
theorem dX9_init_12 : decode cX9_init 12 = .ok (.invokespecial 11, 3) := by decide +kernel
theorem dX9_init_15 : decode cX9_init 15 = .ok (.putfield 14, 3) := by decide +kernel
theorem dX9_init_18 : decode cX9_init 18 = .ok (.aload_n 0, 1) := by decide +kernel
theorem dX9_init_19 : decode cX9_init 19 = .ok (.new 9, 3) := by decide +kernel
theorem dX9_init_22 : decode cX9_init 22 = .ok (.dup, 1) := by decide +kernel
theorem dX9_init_23 : decode cX9_init 23 = .ok (.bipush 11, 2) := by decide +kernel
theorem dX9_init_25 : decode cX9_init 25 = .ok (.iconst 3, 1) := by decide +kernel
theorem dX9_init_26 : decode cX9_init 26 = .ok (.invokespecial 11, 3) := by decide +kernel
theorem dX9_init_29 : decode cX9_init 29 = .ok (.putfield 20, 3) := by decide +kernel
theorem dX9_init_32 : decode cX9_init 32 = .ok (.aload_n 0, 1) := by decide +kernel
theorem dX9_init_33 : decode cX9_init 33 = .ok (.new 9, 3) := by decide +kernel
theorem dX9_init_36 : decode cX9_init 36 = .ok (.dup, 1) := by decide +kernel
theorem dX9_init_37 : decode cX9_init 37 = .ok (.bipush 120, 2) := by decide +kernel
theorem dX9_init_39 : decode cX9_init 39 = .ok (.iconst 5, 1) := by decide +kernel
theorem dX9_init_40 : decode cX9_init 40 = .ok (.invokespecial 11, 3) := by decide +kernel
theorem dX9_init_43 : decode cX9_init 43 = .ok (.putfield 23, 3) := by decide +kernel
theorem dX9_init_46 : decode cX9_init 46 = .ok (.aload_n 0, 1) := by decide +kernel
theorem dX9_init_47 : decode cX9_init 47 = .ok (.iconst 0, 1) := by decide +kernel
theorem dX9_init_48 : decode cX9_init 48 = .ok (.putfield 26, 3) := by decide +kernel
theorem dX9_init_51 : decode cX9_init 51 = .ok (.aload_n 0, 1) := by decide +kernel
theorem dX9_init_52 : decode cX9_init 52 = .ok (.iconst (-1), 1) := by decide +kernel
theorem dX9_init_53 : decode cX9_init 53 = .ok (.putfield 30, 3) := by decide +kernel
theorem dX9_init_56 : decode cX9_init 56 = .ok (.aload_n 0, 1) := by decide +kernel
theorem dX9_init_57 : decode cX9_init 57 = .ok (.iconst (-1), 1) := by decide +kernel
theorem dX9_init_58 : decode cX9_init 58 = .ok (.putfield 34, 3) := by decide +kernel
theorem dX9_init_61 : decode cX9_init 61 = .ok (.aload_n 0, 1) := by decide +kernel
theorem dX9_init_62 : decode cX9_init 62 = .ok (.iconst (-1), 1) := by decide +kernel
theorem dX9_init_63 : decode cX9_init 63 = .ok (.putfield 37, 3) := by decide +kernel
theorem dX9_init_66 : decode cX9_init 66 = .ok (.return_, 1) := by decide +kernel
theorem dX9_clear_0 : decode cX9_clear 0 = .ok (.aload_n 0, 1) := by decide +kernel
theorem dX9_clear_1 : decode cX9_clear 1 = .ok (.iconst 0, 1) := by decide +kernel
theorem dX9_clear_2 : decode cX9_clear 2 = .ok (.putfield 26, 3) := by decide +kernel
theorem dX9_clear_5 : decode cX9_clear 5 = .ok (.aload_n 0, 1) := by decide +kernel
theorem dX9_clear_6 : decode cX9_clear 6 = .ok (.getfield 14, 3) := by decide +kernel
theorem dX9_clear_9 : decode cX9_clear 9 = .ok (.iconst 0, 1) := by decide +kernel
theorem dX9_clear_10 : decode cX9_clear 10 = .ok (.invokevirtual 40, 3) := by decide +kernel
theorem dX9_clear_13 : decode cX9_clear 13 = .ok (.aload_n 0, 1) := by decide +kernel
theorem dX9_clear_14 : decode cX9_clear 14 = .ok (.getfield 20, 3) := by decide +kernel
theorem dX9_clear_17 : decode cX9_clear 17 = .ok (.iconst 0, 1) := by decide +kernel
theorem dX9_clear_18 : decode cX9_clear 18 = .ok (.invokevirtual 40, 3) := by decide +kernel
theorem dX9_clear_21 : decode cX9_clear 21 = .ok (.aload_n 0, 1) := by decide +kernel
theorem dX9_clear_22 : decode cX9_clear 22 = .ok (.iconst 0, 1) := by decide +kernel
theorem dX9_clear_23 : decode cX9_clear 23 = .ok (.putfield 44, 3) := by decide +kernel
theorem dX9_clear_26 : decode cX9_clear 26 = .ok (.aload_n 0, 1) := by decide +kernel
theorem dX9_clear_27 : decode cX9_clear 27 = .ok (.iconst 0, 1) := by decide +kernel
theorem dX9_clear_28 : decode cX9_clear 28 = .ok (.putfield 47, 3) := by decide +kernel
theorem dX9_clear_31 : decode cX9_clear 31 = .ok (.aload_n 0, 1) := by decide +kernel
theorem dX9_clear_32 : decode cX9_clear 32 = .ok (.iconst 0, 1) := by decide +kernel
theorem dX9_clear_33 : decode cX9_clear 33 = .ok (.putfield 50, 3) := by decide +kernel
theorem dX9_clear_36 : decode cX9_clear 36 = .ok (.aload_n 0, 1) := by decide +kernel
theorem dX9_clear_37 : decode cX9_clear 37 = .ok (.iconst 0, 1) := by decide +kernel
theorem dX9_clear_38 : decode cX9_clear 38 = .ok (.putfield 53, 3) := by decide +kernel
theorem dX9_clear_41 : decode cX9_clear 41 = .ok (.aload_n 0, 1) := by decide +kernel
theorem dX9_clear_42 : decode cX9_clear 42 = .ok (.iconst 0, 1) := by decide +kernel
theorem dX9_clear_43 : decode cX9_clear 43 = .ok (.putfield 56, 3) := by decide +kernel
theorem dX9_clear_46 : decode cX9_clear 46 = .ok (.aload_n 0, 1) := by decide +kernel
theorem dX9_clear_47 : decode cX9_clear 47 = .ok (.iconst 0, 1) := by decide +kernel
theorem dX9_clear_48 : decode cX9_clear 48 = .ok (.putfield 59, 3) := by decide +kernel
theorem dX9_clear_51 : decode cX9_clear 51 = .ok (.aload_n 0, 1) := by decide +kernel
theorem dX9_clear_52 : decode cX9_clear 52 = .ok (.iconst 0, 1) := by decide +kernel
theorem dX9_clear_53 : decode cX9_clear 53 = .ok (.putfield 62, 3) := by decide +kernel
theorem dX9_clear_56 : decode cX9_clear 56 = .ok (.aload_n 0, 1) := by decide +kernel
theorem dX9_clear_57 : decode cX9_clear 57 = .ok (.iconst 0, 1) := by decide +kernel
theorem dX9_clear_58 : decode cX9_clear 58 = .ok (.putfield 65, 3) := by decide +kernel
theorem dX9_clear_61 : decode cX9_clear 61 = .ok (.aload_n 0, 1) := by decide +kernel
theorem dX9_clear_62 : decode cX9_clear 62 = .ok (.iconst 0, 1) := by decide +kernel
theorem dX9_clear_63 : decode cX9_clear 63 = .ok (.putfield 68, 3) := by decide +kernel
theorem dX9_clear_66 : decode cX9_clear 66 = .ok (.aload_n 0, 1) := by decide +kernel
theorem dX9_clear_67 : decode cX9_clear 67 = .ok (.iconst 0, 1) := by decide +kernel
theorem dX9_clear_68 : decode cX9_clear 68 = .ok (.putfield 71, 3) := by decide +kernel
theorem dX9_clear_71 : decode cX9_clear 71 = .ok (.aload_n 0, 1) := by decide +kernel
theorem dX9_clear_72 : decode cX9_clear 72 = .ok (.iconst 0, 1) := by decide +kernel
theorem dX9_clear_73 : decode cX9_clear 73 = .ok (.putfield 74, 3) := by decide +kernel
theorem dX9_clear_76 : decode cX9_clear 76 = .ok (.aload_n 0, 1) := by decide +kernel
theorem dX9_clear_77 : decode cX9_clear 77 = .ok (.iconst (-1), 1) := by decide +kernel
theorem dX9_clear_78 : decode cX9_clear 78 = .ok (.putfield 30, 3) := by decide +kernel
theorem dX9_clear_81 : decode cX9_clear 81 = .ok (.aload_n 0, 1) := by decide +kernel
theorem dX9_clear_82 : decode cX9_clear 82 = .ok (.iconst (-1), 1) := by decide +kernel
theorem dX9_clear_83 : decode cX9_clear 83 = .ok (.putfield 34, 3) := by decide +kernel
theorem dX9_clear_86 : decode cX9_clear 86 = .ok (.aload_n 0, 1) := by decide +kernel
theorem dX9_clear_87 : decode cX9_clear 87 = .ok (.iconst (-1), 1) := by decide +kernel
theorem dX9_clear_88 : decode cX9_clear 88 = .ok (.putfield 37, 3) := by decide +kernel
theorem dX9_clear_91 : decode cX9_clear 91 = .ok (.aload_n 0, 1) := by decide +kernel
theorem dX9_clear_92 : decode cX9_clear 92 = .ok (.iconst 0, 1) := by decide +kernel
theorem dX9_clear_93 : decode cX9_clear 93 = .ok (.putfield 77, 3) := by decide +kernel
theorem dX9_clear_96 : decode cX9_clear 96 = .ok (.return_, 1) := by decide +kernel
theorem dX9_begin_0 : decode cX9_begin 0 = .ok (.aload_n 0, 1) := by decide +kernel
theorem dX9_begin_1 : decode cX9_begin 1 = .ok (.iconst 1, 1) := by decide +kernel
theorem dX9_begin_2 : decode cX9_begin 2 = .ok (.putfield 26, 3) := by decide +kernel
theorem dX9_begin_5 : decode cX9_begin 5 = .ok (.aload_n 0, 1) := by decide +kernel
theorem dX9_begin_6 : decode cX9_begin 6 = .ok (.iload_n 1, 1) := by decide +kernel
theorem dX9_begin_7 : decode cX9_begin 7 = .ok (.putfield 56, 3) := by decide +kernel
theorem dX9_begin_10 : decode cX9_begin 10 = .ok (.aload_n 0, 1) := by decide +kernel
theorem dX9_begin_11 : decode cX9_begin 11 = .ok (.bipush 6, 2) := by decide +kernel
theorem dX9_begin_13 : decode cX9_begin 13 = .ok (.aload_n 0, 1) := by decide +kernel
theorem dX9_begin_14 : decode cX9_begin 14 = .ok (.getfield 56, 3) := by decide +kernel
theorem dX9_begin_17 : decode cX9_begin 17 = .ok (.imul, 1) := by decide +kernel
theorem dX9_begin_18 : decode cX9_begin 18 = .ok (.iconst 0, 1) := by decide +kernel
theorem dX9_begin_19 : decode cX9_begin 19 = .ok (.invokestatic 80, 3) := by decide +kernel
theorem dX9_begin_22 : decode cX9_begin 22 = .ok (.putfield 59, 3) := by decide +kernel
theorem dX9_begin_25 : decode cX9_begin 25 = .ok (.aload_n 0, 1) := by decide +kernel
theorem dX9_begin_26 : decode cX9_begin 26 = .ok (.iconst 0, 1) := by decide +kernel
theorem dX9_begin_27 : decode cX9_begin 27 = .ok (.putfield 34, 3) := by decide +kernel
theorem dX9_begin_30 : decode cX9_begin 30 = .ok (.aload_n 0, 1) := by decide +kernel
theorem dX9_begin_31 : decode cX9_begin 31 = .ok (.iconst 1, 1) := by decide +kernel
theorem dX9_begin_32 : decode cX9_begin 32 = .ok (.putfield 37, 3) := by decide +kernel
theorem dX9_begin_35 : decode cX9_begin 35 = .ok (.aload_n 0, 1) := by decide +kernel
theorem dX9_begin_36 : decode cX9_begin 36 = .ok (.iconst 2, 1) := by decide +kernel
theorem dX9_begin_37 : decode cX9_begin 37 = .ok (.putfield 77, 3) := by decide +kernel
theorem dX9_begin_40 : decode cX9_begin 40 = .ok (.aload_n 0, 1) := by decide +kernel
theorem dX9_begin_41 : decode cX9_begin 41 = .ok (.getfield 14, 3) := by decide +kernel
theorem dX9_begin_44 : decode cX9_begin 44 = .ok (.aload_n 0, 1) := by decide +kernel
theorem dX9_begin_45 : decode cX9_begin 45 = .ok (.getfield 34, 3) := by decide +kernel
theorem dX9_begin_48 : decode cX9_begin 48 = .ok (.iconst 2, 1) := by decide +kernel
theorem dX9_begin_49 : decode cX9_begin 49 = .ok (.iconst 1, 1) := by decide +kernel
theorem dX9_begin_50 : decode cX9_begin 50 = .ok (.invokevirtual 84, 3) := by decide +kernel
theorem dX9_begin_53 : decode cX9_begin 53 = .ok (.aload_n 0, 1) := by decide +kernel
theorem dX9_begin_54 : decode cX9_begin 54 = .ok (.getfield 14, 3) := by decide +kernel
theorem dX9_begin_57 : decode cX9_begin 57 = .ok (.aload_n 0, 1) := by decide +kernel
theorem dX9_begin_58 : decode cX9_begin 58 = .ok (.getfield 37, 3) := by decide +kernel
theorem dX9_begin_61 : decode cX9_begin 61 = .ok (.iconst 2, 1) := by decide +kernel
theorem dX9_begin_62 : decode cX9_begin 62 = .ok (.iconst 1, 1) := by decide +kernel
theorem dX9_begin_63 : decode cX9_begin 63 = .ok (.invokevirtual 84, 3) := by decide +kernel
theorem dX9_begin_66 : decode cX9_begin 66 = .ok (.return_, 1) := by decide +kernel
theorem dX9_ruleOfOver_0 : decode cX9_ruleOfOver 0 = .ok (.aload_n 0, 1) := by decide +kernel
theorem dX9_ruleOfOver_1 : decode cX9_ruleOfOver 1 = .ok (.getfield 62, 3) := by decide +kernel
theorem dX9_ruleOfOver_4 : decode cX9_ruleOfOver 4 = .ok (.ifCond .ne 14, 3) := by decide +kernel
theorem dX9_ruleOfOver_7 : decode cX9_ruleOfOver 7 = .ok (.aload_n 0, 1) := by decide +kernel
theorem dX9_ruleOfOver_8 : decode cX9_ruleOfOver 8 = .ok (.getfield 65, 3) := by decide +kernel
theorem dX9_ruleOfOver_11 : decode cX9_ruleOfOver 11 = .ok (.aload_n 0, 1) := by decide +kernel
theorem dX9_ruleOfOver_12 : decode cX9_ruleOfOver 12 = .ok (.getfield 56, 3) := by decide +kernel
theorem dX9_ruleOfOver_15 : decode cX9_ruleOfOver 15 = .ok (.if_icmp .lt 5, 3) := by decide +kernel
theorem dX9_ruleOfOver_18 : decode cX9_ruleOfOver 18 = .ok (.iconst 3, 1) := by decide +kernel
theorem dX9_ruleOfOver_19 : decode cX9_ruleOfOver 19 = .ok (.ireturn, 1) := by decide +kernel
theorem dX9_ruleOfOver_20 : decode cX9_ruleOfOver 20 = .ok (.iload_n 1, 1) := by decide +kernel
theorem dX9_ruleOfOver_21 : decode cX9_ruleOfOver 21 = .ok (.ifCond .lt 9, 3) := by decide +kernel
theorem dX9_ruleOfOver_24 : decode cX9_ruleOfOver 24 = .ok (.iload_n 1, 1) := by decide +kernel
theorem dX9_ruleOfOver_25 : decode cX9_ruleOfOver 25 = .ok (.bipush 11, 2) := by decide +kernel
theorem dX9_ruleOfOver_27 : decode cX9_ruleOfOver 27 = .ok (.if_icmp .lt 5, 3) := by decide +kernel
theorem dX9_ruleOfOver_30 : decode cX9_ruleOfOver 30 = .ok (.iconst 4, 1) := by decide +kernel
theorem dX9_ruleOfOver_31 : decode cX9_ruleOfOver 31 = .ok (.ireturn, 1) := by decide +kernel
theorem dX9_ruleOfOver_32 : decode cX9_ruleOfOver 32 = .ok (.iload_n 1, 1) := by decide +kernel
theorem dX9_ruleOfOver_33 : decode cX9_ruleOfOver 33 = .ok (.aload_n 0, 1) := by decide +kernel
theorem dX9_ruleOfOver_34 : decode cX9_ruleOfOver 34 = .ok (.getfield 30, 3) := by decide +kernel
theorem dX9_ruleOfOver_37 : decode cX9_ruleOfOver 37 = .ok (.if_icmp .ne 5, 3) := by decide +kernel
theorem dX9_ruleOfOver_40 : decode cX9_ruleOfOver 40 = .ok (.iconst 5, 1) := by decide +kernel
theorem dX9_ruleOfOver_41 : decode cX9_ruleOfOver 41 = .ok (.ireturn, 1) := by decide +kernel
theorem dX9_ruleOfOver_42 : decode cX9_ruleOfOver 42 = .ok (.aload_n 0, 1) := by decide +kernel
theorem dX9_ruleOfOver_43 : decode cX9_ruleOfOver 43 = .ok (.getfield 20, 3) := by decide +kernel
theorem dX9_ruleOfOver_46 : decode cX9_ruleOfOver 46 = .ok (.iload_n 1, 1) := by decide +kernel
theorem dX9_ruleOfOver_47 : decode cX9_ruleOfOver 47 = .ok (.iconst 0, 1) := by decide +kernel
theorem dX9_ruleOfOver_48 : decode cX9_ruleOfOver 48 = .ok (.invokevirtual 88, 3) := by decide +kernel
theorem dX9_ruleOfOver_51 : decode cX9_ruleOfOver 51 = .ok (.iload_n 2, 1) := by decide +kernel
theorem dX9_ruleOfOver_52 : decode cX9_ruleOfOver 52 = .ok (.if_icmp .lt 8, 3) := by decide +kernel
theorem dX9_ruleOfOver_55 : decode cX9_ruleOfOver 55 = .ok (.bipush 6, 2) := by decide +kernel
theorem dX9_ruleOfOver_57 : decode cX9_ruleOfOver 57 = .ok (.goto 4, 3) := by decide +kernel
theorem dX9_ruleOfOver_60 : decode cX9_ruleOfOver 60 = .ok (.iconst 0, 1) := by decide +kernel
theorem dX9_ruleOfOver_61 : decode cX9_ruleOfOver 61 = .ok (.ireturn, 1) := by decide +kernel
theorem dX9_beginOver_0 : decode cX9_beginOver 0 = .ok (.aload_n 0, 1) := by decide +kernel
theorem dX9_beginOver_1 : decode cX9_beginOver 1 = .ok (.getfield 68, 3) := by decide +kernel
theorem dX9_beginOver_4 : decode cX9_beginOver 4 = .ok (.aload_n 0, 1) := by decide +kernel
theorem dX9_beginOver_5 : decode cX9_beginOver 5 = .ok (.getfield 65, 3) := by decide +kernel
theorem dX9_beginOver_8 : decode cX9_beginOver 8 = .ok (.if_icmp .ge 8, 3) := by decide +kernel
theorem dX9_beginOver_11 : decode cX9_beginOver 11 = .ok (.aload_n 0, 1) := by decide +kernel
theorem dX9_beginOver_12 : decode cX9_beginOver 12 = .ok (.iconst 1, 1) := by decide +kernel
theorem dX9_beginOver_13 : decode cX9_beginOver 13 = .ok (.invokevirtual 91, 3) := by decide +kernel
theorem dX9_beginOver_16 : decode cX9_beginOver 16 = .ok (.aload_n 0, 1) := by decide +kernel
theorem dX9_beginOver_17 : decode cX9_beginOver 17 = .ok (.getfield 23, 3) := by decide +kernel
theorem dX9_beginOver_20 : decode cX9_beginOver 20 = .ok (.aload_n 0, 1) := by decide +kernel
theorem dX9_beginOver_21 : decode cX9_beginOver 21 = .ok (.getfield 65, 3) := by decide +kernel
theorem dX9_beginOver_24 : decode cX9_beginOver 24 = .ok (.iconst 0, 1) := by decide +kernel
theorem dX9_beginOver_25 : decode cX9_beginOver 25 = .ok (.invokevirtual 95, 3) := by decide +kernel
theorem dX9_beginOver_28 : decode cX9_beginOver 28 = .ok (.aload_n 0, 1) := by decide +kernel
theorem dX9_beginOver_29 : decode cX9_beginOver 29 = .ok (.dup, 1) := by decide +kernel
theorem dX9_beginOver_30 : decode cX9_beginOver 30 = .ok (.getfield 65, 3) := by decide +kernel
theorem dX9_beginOver_33 : decode cX9_beginOver 33 = .ok (.iconst 1, 1) := by decide +kernel
theorem dX9_beginOver_34 : decode cX9_beginOver 34 = .ok (.iadd, 1) := by decide +kernel
theorem dX9_beginOver_35 : decode cX9_beginOver 35 = .ok (.putfield 65, 3) := by decide +kernel
theorem dX9_beginOver_38 : decode cX9_beginOver 38 = .ok (.aload_n 0, 1) := by decide +kernel
theorem dX9_beginOver_39 : decode cX9_beginOver 39 = .ok (.aload_n 1, 1) := by decide +kernel
theorem dX9_beginOver_40 : decode cX9_beginOver 40 = .ok (.getfield 98, 3) := by decide +kernel
theorem dX9_beginOver_43 : decode cX9_beginOver 43 = .ok (.putfield 30, 3) := by decide +kernel
theorem dX9_beginOver_46 : decode cX9_beginOver 46 = .ok (.aload_n 0, 1) := by decide +kernel
theorem dX9_beginOver_47 : decode cX9_beginOver 47 = .ok (.getfield 20, 3) := by decide +kernel
theorem dX9_beginOver_50 : decode cX9_beginOver 50 = .ok (.aload_n 0, 1) := by decide +kernel
theorem dX9_beginOver_51 : decode cX9_beginOver 51 = .ok (.getfield 30, 3) := by decide +kernel
theorem dX9_beginOver_54 : decode cX9_beginOver 54 = .ok (.iconst 0, 1) := by decide +kernel
theorem dX9_beginOver_55 : decode cX9_beginOver 55 = .ok (.iconst 1, 1) := by decide +kernel
theorem dX9_beginOver_56 : decode cX9_beginOver 56 = .ok (.invokevirtual 101, 3) := by decide +kernel
theorem dX9_beginOver_59 : decode cX9_beginOver 59 = .ok (.aload_n 1, 1) := by decide +kernel
theorem dX9_beginOver_60 : decode cX9_beginOver 60 = .ok (.invokevirtual 104, 3) := by decide +kernel
theorem dX9_beginOver_63 : decode cX9_beginOver 63 = .ok (.ifCond .eq 8, 3) := by decide +kernel
theorem dX9_beginOver_66 : decode cX9_beginOver 66 = .ok (.aload_n 0, 1) := by decide +kernel
theorem dX9_beginOver_67 : decode cX9_beginOver 67 = .ok (.iconst 1, 1) := by decide +kernel
theorem dX9_beginOver_68 : decode cX9_beginOver 68 = .ok (.invokevirtual 91, 3) := by decide +kernel
theorem dX9_beginOver_71 : decode cX9_beginOver 71 = .ok (.return_, 1) := by decide +kernel
theorem dX9_ruleOfEntry_0 : decode cX9_ruleOfEntry 0 = .ok (.iload_n 1, 1) := by decide +kernel
theorem dX9_ruleOfEntry_1 : decode cX9_ruleOfEntry 1 = .ok (.bipush 16, 2) := by decide +kernel
theorem dX9_ruleOfEntry_3 : decode cX9_ruleOfEntry 3 = .ok (.idiv, 1) := by decide +kernel
theorem dX9_ruleOfEntry_4 : decode cX9_ruleOfEntry 4 = .ok (.istore_n 3, 1) := by decide +kernel
theorem dX9_ruleOfEntry_5 : decode cX9_ruleOfEntry 5 = .ok (.iload_n 1, 1) := by decide +kernel
theorem dX9_ruleOfEntry_6 : decode cX9_ruleOfEntry 6 = .ok (.bipush 16, 2) := by decide +kernel
theorem dX9_ruleOfEntry_8 : decode cX9_ruleOfEntry 8 = .ok (.irem, 1) := by decide +kernel
theorem dX9_ruleOfEntry_9 : decode cX9_ruleOfEntry 9 = .ok (.istore 4, 2) := by decide +kernel
theorem dX9_ruleOfEntry_11 : decode cX9_ruleOfEntry 11 = .ok (.iload_n 3, 1) := by decide +kernel
theorem dX9_ruleOfEntry_12 : decode cX9_ruleOfEntry 12 = .ok (.ifCond .lt 29, 3) := by decide +kernel
theorem dX9_ruleOfEntry_15 : decode cX9_ruleOfEntry 15 = .ok (.iload_n 3, 1) := by decide +kernel
theorem dX9_ruleOfEntry_16 : decode cX9_ruleOfEntry 16 = .ok (.bipush 9, 2) := by decide +kernel
theorem dX9_ruleOfEntry_18 : decode cX9_ruleOfEntry 18 = .ok (.if_icmp .gt 23, 3) := by decide +kernel
theorem dX9_ruleOfEntry_21 : decode cX9_ruleOfEntry 21 = .ok (.iload 4, 2) := by decide +kernel
theorem dX9_ruleOfEntry_23 : decode cX9_ruleOfEntry 23 = .ok (.getstatic 108, 3) := by decide +kernel
theorem dX9_ruleOfEntry_26 : decode cX9_ruleOfEntry 26 = .ok (.iload_n 3, 1) := by decide +kernel
theorem dX9_ruleOfEntry_27 : decode cX9_ruleOfEntry 27 = .ok (.iaload, 1) := by decide +kernel
theorem dX9_ruleOfEntry_28 : decode cX9_ruleOfEntry 28 = .ok (.if_icmp .lt 13, 3) := by decide +kernel
theorem dX9_ruleOfEntry_31 : decode cX9_ruleOfEntry 31 = .ok (.iload 4, 2) := by decide +kernel
theorem dX9_ruleOfEntry_33 : decode cX9_ruleOfEntry 33 = .ok (.getstatic 112, 3) := by decide +kernel
theorem dX9_ruleOfEntry_36 : decode cX9_ruleOfEntry 36 = .ok (.iload_n 3, 1) := by decide +kernel
theorem dX9_ruleOfEntry_37 : decode cX9_ruleOfEntry 37 = .ok (.iaload, 1) := by decide +kernel
theorem dX9_ruleOfEntry_38 : decode cX9_ruleOfEntry 38 = .ok (.if_icmp .le 6, 3) := by decide +kernel
theorem dX9_ruleOfEntry_41 : decode cX9_ruleOfEntry 41 = .ok (.bipush 7, 2) := by decide +kernel
theorem dX9_ruleOfEntry_43 : decode cX9_ruleOfEntry 43 = .ok (.ireturn, 1) := by decide +kernel
theorem dX9_ruleOfEntry_44 : decode cX9_ruleOfEntry 44 = .ok (.aload_n 0, 1) := by decide +kernel
theorem dX9_ruleOfEntry_45 : decode cX9_ruleOfEntry 45 = .ok (.getfield 62, 3) := by decide +kernel
theorem dX9_ruleOfEntry_48 : decode cX9_ruleOfEntry 48 = .ok (.ifCond .eq 6, 3) := by decide +kernel
theorem dX9_ruleOfEntry_51 : decode cX9_ruleOfEntry 51 = .ok (.bipush 8, 2) := by decide +kernel
theorem dX9_ruleOfEntry_53 : decode cX9_ruleOfEntry 53 = .ok (.ireturn, 1) := by decide +kernel
theorem dX9_ruleOfEntry_54 : decode cX9_ruleOfEntry 54 = .ok (.aload_n 0, 1) := by decide +kernel
theorem dX9_ruleOfEntry_55 : decode cX9_ruleOfEntry 55 = .ok (.getfield 68, 3) := by decide +kernel
theorem dX9_ruleOfEntry_58 : decode cX9_ruleOfEntry 58 = .ok (.aload_n 0, 1) := by decide +kernel
theorem dX9_ruleOfEntry_59 : decode cX9_ruleOfEntry 59 = .ok (.getfield 65, 3) := by decide +kernel
theorem dX9_ruleOfEntry_62 : decode cX9_ruleOfEntry 62 = .ok (.if_icmp .ne 23, 3) := by decide +kernel
theorem dX9_ruleOfEntry_65 : decode cX9_ruleOfEntry 65 = .ok (.iload_n 3, 1) := by decide +kernel
theorem dX9_ruleOfEntry_66 : decode cX9_ruleOfEntry 66 = .ok (.invokestatic 115, 3) := by decide +kernel
theorem dX9_ruleOfEntry_69 : decode cX9_ruleOfEntry 69 = .ok (.ifCond .ne 13, 3) := by decide +kernel
theorem dX9_ruleOfEntry_72 : decode cX9_ruleOfEntry 72 = .ok (.iload_n 3, 1) := by decide +kernel
theorem dX9_ruleOfEntry_73 : decode cX9_ruleOfEntry 73 = .ok (.iconst 1, 1) := by decide +kernel
theorem dX9_ruleOfEntry_74 : decode cX9_ruleOfEntry 74 = .ok (.if_icmp .eq 8, 3) := by decide +kernel
theorem dX9_ruleOfEntry_77 : decode cX9_ruleOfEntry 77 = .ok (.iload_n 3, 1) := by decide +kernel
theorem dX9_ruleOfEntry_78 : decode cX9_ruleOfEntry 78 = .ok (.iconst 2, 1) := by decide +kernel
theorem dX9_ruleOfEntry_79 : decode cX9_ruleOfEntry 79 = .ok (.if_icmp .ne 6, 3) := by decide +kernel
theorem dX9_ruleOfEntry_82 : decode cX9_ruleOfEntry 82 = .ok (.bipush 9, 2) := by decide +kernel
theorem dX9_ruleOfEntry_84 : decode cX9_ruleOfEntry 84 = .ok (.ireturn, 1) := by decide +kernel
theorem dX9_ruleOfEntry_85 : decode cX9_ruleOfEntry 85 = .ok (.iload_n 3, 1) := by decide +kernel
theorem dX9_ruleOfEntry_86 : decode cX9_ruleOfEntry 86 = .ok (.bipush 8, 2) := by decide +kernel
theorem dX9_ruleOfEntry_88 : decode cX9_ruleOfEntry 88 = .ok (.if_icmp .ne 26, 3) := by decide +kernel
theorem dX9_ruleOfEntry_91 : decode cX9_ruleOfEntry 91 = .ok (.iload_n 2, 1) := by decide +kernel
theorem dX9_ruleOfEntry_92 : decode cX9_ruleOfEntry 92 = .ok (.ifCond .eq 17, 3) := by decide +kernel
theorem dX9_ruleOfEntry_95 : decode cX9_ruleOfEntry 95 = .ok (.aload_n 0, 1) := by decide +kernel
theorem dX9_ruleOfEntry_96 : decode cX9_ruleOfEntry 96 = .ok (.getfield 56, 3) := by decide +kernel
theorem dX9_ruleOfEntry_99 : decode cX9_ruleOfEntry 99 = .ok (.iload 4, 2) := by decide +kernel
theorem dX9_ruleOfEntry_101 : decode cX9_ruleOfEntry 101 = .ok (.isub, 1) := by decide +kernel
theorem dX9_ruleOfEntry_102 : decode cX9_ruleOfEntry 102 = .ok (.aload_n 0, 1) := by decide +kernel
theorem dX9_ruleOfEntry_103 : decode cX9_ruleOfEntry 103 = .ok (.getfield 65, 3) := by decide +kernel
theorem dX9_ruleOfEntry_106 : decode cX9_ruleOfEntry 106 = .ok (.if_icmp .ge 8, 3) := by decide +kernel
theorem dX9_ruleOfEntry_109 : decode cX9_ruleOfEntry 109 = .ok (.bipush 10, 2) := by decide +kernel
theorem dX9_ruleOfEntry_111 : decode cX9_ruleOfEntry 111 = .ok (.goto 4, 3) := by decide +kernel
theorem dX9_ruleOfEntry_114 : decode cX9_ruleOfEntry 114 = .ok (.iconst 0, 1) := by decide +kernel
theorem dX9_ruleOfEntry_115 : decode cX9_ruleOfEntry 115 = .ok (.ireturn, 1) := by decide +kernel
theorem dX9_playEntry_0 : decode cX9_playEntry 0 = .ok (.iload_n 1, 1) := by decide +kernel
theorem dX9_playEntry_1 : decode cX9_playEntry 1 = .ok (.bipush 16, 2) := by decide +kernel
theorem dX9_playEntry_3 : decode cX9_playEntry 3 = .ok (.idiv, 1) := by decide +kernel
theorem dX9_playEntry_4 : decode cX9_playEntry 4 = .ok (.istore_n 2, 1) := by decide +kernel
theorem dX9_playEntry_5 : decode cX9_playEntry 5 = .ok (.iload_n 1, 1) := by decide +kernel
theorem dX9_playEntry_6 : decode cX9_playEntry 6 = .ok (.bipush 16, 2) := by decide +kernel
theorem dX9_playEntry_8 : decode cX9_playEntry 8 = .ok (.irem, 1) := by decide +kernel
theorem dX9_playEntry_9 : decode cX9_playEntry 9 = .ok (.istore_n 3, 1) := by decide +kernel
theorem dX9_playEntry_10 : decode cX9_playEntry 10 = .ok (.aload_n 0, 1) := by decide +kernel
theorem dX9_playEntry_11 : decode cX9_playEntry 11 = .ok (.getfield 44, 3) := by decide +kernel
theorem dX9_playEntry_14 : decode cX9_playEntry 14 = .ok (.istore 4, 2) := by decide +kernel
theorem dX9_playEntry_16 : decode cX9_playEntry 16 = .ok (.iload_n 2, 1) := by decide +kernel
theorem dX9_playEntry_17 : decode cX9_playEntry 17 = .ok (.invokestatic 115, 3) := by decide +kernel
theorem dX9_playEntry_20 : decode cX9_playEntry 20 = .ok (.ifCond .ne 8, 3) := by decide +kernel
theorem dX9_playEntry_23 : decode cX9_playEntry 23 = .ok (.iload_n 2, 1) := by decide +kernel
theorem dX9_playEntry_24 : decode cX9_playEntry 24 = .ok (.iconst 2, 1) := by decide +kernel
theorem dX9_playEntry_25 : decode cX9_playEntry 25 = .ok (.if_icmp .ne 16, 3) := by decide +kernel
theorem dX9_playEntry_28 : decode cX9_playEntry 28 = .ok (.aload_n 0, 1) := by decide +kernel
theorem dX9_playEntry_29 : decode cX9_playEntry 29 = .ok (.getfield 14, 3) := by decide +kernel
theorem dX9_playEntry_32 : decode cX9_playEntry 32 = .ok (.aload_n 0, 1) := by decide +kernel
theorem dX9_playEntry_33 : decode cX9_playEntry 33 = .ok (.getfield 34, 3) := by decide +kernel
theorem dX9_playEntry_36 : decode cX9_playEntry 36 = .ok (.iconst 1, 1) := by decide +kernel
theorem dX9_playEntry_37 : decode cX9_playEntry 37 = .ok (.iconst 1, 1) := by decide +kernel
theorem dX9_playEntry_38 : decode cX9_playEntry 38 = .ok (.invokevirtual 101, 3) := by decide +kernel
theorem dX9_playEntry_41 : decode cX9_playEntry 41 = .ok (.iload_n 2, 1) := by decide +kernel
theorem dX9_playEntry_42 : decode cX9_playEntry 42 = .ok (.tableswitch 149 0 8 #[50, 58, 70, 82, 106, 149, 133, 149, 141], 50) := by decide +kernel
theorem dX9_playEntry_92 : decode cX9_playEntry 92 = .ok (.aload_n 0, 1) := by decide +kernel
theorem dX9_playEntry_93 : decode cX9_playEntry 93 = .ok (.iload_n 3, 1) := by decide +kernel
theorem dX9_playEntry_94 : decode cX9_playEntry 94 = .ok (.invokevirtual 119, 3) := by decide +kernel
theorem dX9_playEntry_97 : decode cX9_playEntry 97 = .ok (.goto 94, 3) := by decide +kernel
theorem dX9_playEntry_100 : decode cX9_playEntry 100 = .ok (.aload_n 0, 1) := by decide +kernel
theorem dX9_playEntry_101 : decode cX9_playEntry 101 = .ok (.invokevirtual 122, 3) := by decide +kernel
theorem dX9_playEntry_104 : decode cX9_playEntry 104 = .ok (.aload_n 0, 1) := by decide +kernel
theorem dX9_playEntry_105 : decode cX9_playEntry 105 = .ok (.iload_n 3, 1) := by decide +kernel
theorem dX9_playEntry_106 : decode cX9_playEntry 106 = .ok (.invokevirtual 125, 3) := by decide +kernel
theorem dX9_playEntry_109 : decode cX9_playEntry 109 = .ok (.goto 82, 3) := by decide +kernel
theorem dX9_playEntry_112 : decode cX9_playEntry 112 = .ok (.aload_n 0, 1) := by decide +kernel
theorem dX9_playEntry_113 : decode cX9_playEntry 113 = .ok (.invokevirtual 122, 3) := by decide +kernel
theorem dX9_playEntry_116 : decode cX9_playEntry 116 = .ok (.aload_n 0, 1) := by decide +kernel
theorem dX9_playEntry_117 : decode cX9_playEntry 117 = .ok (.iload_n 3, 1) := by decide +kernel
theorem dX9_playEntry_118 : decode cX9_playEntry 118 = .ok (.invokevirtual 119, 3) := by decide +kernel
theorem dX9_playEntry_121 : decode cX9_playEntry 121 = .ok (.goto 70, 3) := by decide +kernel
theorem dX9_playEntry_124 : decode cX9_playEntry 124 = .ok (.aload_n 0, 1) := by decide +kernel
theorem dX9_playEntry_125 : decode cX9_playEntry 125 = .ok (.getfield 20, 3) := by decide +kernel
theorem dX9_playEntry_128 : decode cX9_playEntry 128 = .ok (.aload_n 0, 1) := by decide +kernel
theorem dX9_playEntry_129 : decode cX9_playEntry 129 = .ok (.getfield 30, 3) := by decide +kernel
theorem dX9_playEntry_132 : decode cX9_playEntry 132 = .ok (.iconst 2, 1) := by decide +kernel
theorem dX9_playEntry_133 : decode cX9_playEntry 133 = .ok (.iconst 1, 1) := by decide +kernel
theorem dX9_playEntry_134 : decode cX9_playEntry 134 = .ok (.invokevirtual 101, 3) := by decide +kernel
theorem dX9_playEntry_137 : decode cX9_playEntry 137 = .ok (.aload_n 0, 1) := by decide +kernel
theorem dX9_playEntry_138 : decode cX9_playEntry 138 = .ok (.iconst 1, 1) := by decide +kernel
theorem dX9_playEntry_139 : decode cX9_playEntry 139 = .ok (.iconst 2, 1) := by decide +kernel
theorem dX9_playEntry_140 : decode cX9_playEntry 140 = .ok (.iload_n 3, 1) := by decide +kernel
theorem dX9_playEntry_141 : decode cX9_playEntry 141 = .ok (.iadd, 1) := by decide +kernel
theorem dX9_playEntry_142 : decode cX9_playEntry 142 = .ok (.invokevirtual 128, 3) := by decide +kernel
theorem dX9_playEntry_145 : decode cX9_playEntry 145 = .ok (.goto 46, 3) := by decide +kernel
theorem dX9_playEntry_148 : decode cX9_playEntry 148 = .ok (.aload_n 0, 1) := by decide +kernel
theorem dX9_playEntry_149 : decode cX9_playEntry 149 = .ok (.iload_n 3, 1) := by decide +kernel
theorem dX9_playEntry_150 : decode cX9_playEntry 150 = .ok (.iconst 2, 1) := by decide +kernel
theorem dX9_playEntry_151 : decode cX9_playEntry 151 = .ok (.idiv, 1) := by decide +kernel
theorem dX9_playEntry_152 : decode cX9_playEntry 152 = .ok (.invokevirtual 119, 3) := by decide +kernel
theorem dX9_playEntry_155 : decode cX9_playEntry 155 = .ok (.aload_n 0, 1) := by decide +kernel
theorem dX9_playEntry_156 : decode cX9_playEntry 156 = .ok (.iload_n 3, 1) := by decide +kernel
theorem dX9_playEntry_157 : decode cX9_playEntry 157 = .ok (.iconst 2, 1) := by decide +kernel
theorem dX9_playEntry_158 : decode cX9_playEntry 158 = .ok (.irem, 1) := by decide +kernel
theorem dX9_playEntry_159 : decode cX9_playEntry 159 = .ok (.ifCond .ne 7, 3) := by decide +kernel
theorem dX9_playEntry_162 : decode cX9_playEntry 162 = .ok (.iconst 1, 1) := by decide +kernel
theorem dX9_playEntry_163 : decode cX9_playEntry 163 = .ok (.goto 4, 3) := by decide +kernel
theorem dX9_playEntry_166 : decode cX9_playEntry 166 = .ok (.iconst 0, 1) := by decide +kernel
theorem dX9_playEntry_167 : decode cX9_playEntry 167 = .ok (.bipush 6, 2) := by decide +kernel
theorem dX9_playEntry_169 : decode cX9_playEntry 169 = .ok (.invokevirtual 128, 3) := by decide +kernel
theorem dX9_playEntry_172 : decode cX9_playEntry 172 = .ok (.goto 19, 3) := by decide +kernel
theorem dX9_playEntry_175 : decode cX9_playEntry 175 = .ok (.aload_n 0, 1) := by decide +kernel
theorem dX9_playEntry_176 : decode cX9_playEntry 176 = .ok (.iload_n 3, 1) := by decide +kernel
theorem dX9_playEntry_177 : decode cX9_playEntry 177 = .ok (.invokevirtual 125, 3) := by decide +kernel
theorem dX9_playEntry_180 : decode cX9_playEntry 180 = .ok (.goto 11, 3) := by decide +kernel
theorem dX9_playEntry_183 : decode cX9_playEntry 183 = .ok (.aload_n 0, 1) := by decide +kernel
theorem dX9_playEntry_184 : decode cX9_playEntry 184 = .ok (.iload_n 3, 1) := by decide +kernel
theorem dX9_playEntry_185 : decode cX9_playEntry 185 = .ok (.invokevirtual 132, 3) := by decide +kernel
theorem dX9_playEntry_188 : decode cX9_playEntry 188 = .ok (.goto 3, 3) := by decide +kernel
theorem dX9_playEntry_191 : decode cX9_playEntry 191 = .ok (.aload_n 0, 1) := by decide +kernel
theorem dX9_playEntry_192 : decode cX9_playEntry 192 = .ok (.getfield 23, 3) := by decide +kernel
theorem dX9_playEntry_195 : decode cX9_playEntry 195 = .ok (.aload_n 0, 1) := by decide +kernel
theorem dX9_playEntry_196 : decode cX9_playEntry 196 = .ok (.getfield 65, 3) := by decide +kernel
theorem dX9_playEntry_199 : decode cX9_playEntry 199 = .ok (.iconst 1, 1) := by decide +kernel
theorem dX9_playEntry_200 : decode cX9_playEntry 200 = .ok (.isub, 1) := by decide +kernel
theorem dX9_playEntry_201 : decode cX9_playEntry 201 = .ok (.iconst 0, 1) := by decide +kernel
theorem dX9_playEntry_202 : decode cX9_playEntry 202 = .ok (.aload_n 0, 1) := by decide +kernel
theorem dX9_playEntry_203 : decode cX9_playEntry 203 = .ok (.getfield 44, 3) := by decide +kernel
theorem dX9_playEntry_206 : decode cX9_playEntry 206 = .ok (.iload 4, 2) := by decide +kernel
theorem dX9_playEntry_208 : decode cX9_playEntry 208 = .ok (.isub, 1) := by decide +kernel
theorem dX9_playEntry_209 : decode cX9_playEntry 209 = .ok (.invokevirtual 101, 3) := by decide +kernel
theorem dX9_playEntry_212 : decode cX9_playEntry 212 = .ok (.iload_n 2, 1) := by decide +kernel
theorem dX9_playEntry_213 : decode cX9_playEntry 213 = .ok (.invokestatic 115, 3) := by decide +kernel
theorem dX9_playEntry_216 : decode cX9_playEntry 216 = .ok (.ifCond .eq 31, 3) := by decide +kernel
theorem dX9_playEntry_219 : decode cX9_playEntry 219 = .ok (.aload_n 0, 1) := by decide +kernel
theorem dX9_playEntry_220 : decode cX9_playEntry 220 = .ok (.dup, 1) := by decide +kernel
theorem dX9_playEntry_221 : decode cX9_playEntry 221 = .ok (.getfield 74, 3) := by decide +kernel
theorem dX9_playEntry_224 : decode cX9_playEntry 224 = .ok (.iconst 1, 1) := by decide +kernel
theorem dX9_playEntry_225 : decode cX9_playEntry 225 = .ok (.iadd, 1) := by decide +kernel
theorem dX9_playEntry_226 : decode cX9_playEntry 226 = .ok (.putfield 74, 3) := by decide +kernel
theorem dX9_playEntry_229 : decode cX9_playEntry 229 = .ok (.aload_n 0, 1) := by decide +kernel
theorem dX9_playEntry_230 : decode cX9_playEntry 230 = .ok (.getfield 23, 3) := by decide +kernel
theorem dX9_playEntry_233 : decode cX9_playEntry 233 = .ok (.aload_n 0, 1) := by decide +kernel
theorem dX9_playEntry_234 : decode cX9_playEntry 234 = .ok (.getfield 65, 3) := by decide +kernel
theorem dX9_playEntry_237 : decode cX9_playEntry 237 = .ok (.iconst 1, 1) := by decide +kernel
theorem dX9_playEntry_238 : decode cX9_playEntry 238 = .ok (.isub, 1) := by decide +kernel
theorem dX9_playEntry_239 : decode cX9_playEntry 239 = .ok (.iconst 2, 1) := by decide +kernel
theorem dX9_playEntry_240 : decode cX9_playEntry 240 = .ok (.aload_n 0, 1) := by decide +kernel
theorem dX9_playEntry_241 : decode cX9_playEntry 241 = .ok (.getfield 74, 3) := by decide +kernel
theorem dX9_playEntry_244 : decode cX9_playEntry 244 = .ok (.invokevirtual 84, 3) := by decide +kernel
theorem dX9_playEntry_247 : decode cX9_playEntry 247 = .ok (.aload_n 0, 1) := by decide +kernel
theorem dX9_playEntry_248 : decode cX9_playEntry 248 = .ok (.getfield 74, 3) := by decide +kernel
theorem dX9_playEntry_251 : decode cX9_playEntry 251 = .ok (.bipush 6, 2) := by decide +kernel
theorem dX9_playEntry_253 : decode cX9_playEntry 253 = .ok (.if_icmp .ne 8, 3) := by decide +kernel
theorem dX9_playEntry_256 : decode cX9_playEntry 256 = .ok (.aload_n 0, 1) := by decide +kernel
theorem dX9_playEntry_257 : decode cX9_playEntry 257 = .ok (.iconst 0, 1) := by decide +kernel
theorem dX9_playEntry_258 : decode cX9_playEntry 258 = .ok (.invokevirtual 91, 3) := by decide +kernel
theorem dX9_playEntry_261 : decode cX9_playEntry 261 = .ok (.return_, 1) := by decide +kernel
theorem dX9_ballsLeft_0 : decode cX9_ballsLeft 0 = .ok (.bipush 6, 2) := by decide +kernel
theorem dX9_ballsLeft_2 : decode cX9_ballsLeft 2 = .ok (.aload_n 0, 1) := by decide +kernel
theorem dX9_ballsLeft_3 : decode cX9_ballsLeft 3 = .ok (.getfield 56, 3) := by decide +kernel
theorem dX9_ballsLeft_6 : decode cX9_ballsLeft 6 = .ok (.aload_n 0, 1) := by decide +kernel
theorem dX9_ballsLeft_7 : decode cX9_ballsLeft 7 = .ok (.getfield 68, 3) := by decide +kernel
theorem dX9_ballsLeft_10 : decode cX9_ballsLeft 10 = .ok (.isub, 1) := by decide +kernel
theorem dX9_ballsLeft_11 : decode cX9_ballsLeft 11 = .ok (.imul, 1) := by decide +kernel
theorem dX9_ballsLeft_12 : decode cX9_ballsLeft 12 = .ok (.aload_n 0, 1) := by decide +kernel
theorem dX9_ballsLeft_13 : decode cX9_ballsLeft 13 = .ok (.getfield 74, 3) := by decide +kernel
theorem dX9_ballsLeft_16 : decode cX9_ballsLeft 16 = .ok (.isub, 1) := by decide +kernel
theorem dX9_ballsLeft_17 : decode cX9_ballsLeft 17 = .ok (.ireturn, 1) := by decide +kernel
theorem dX9_figure_0 : decode cX9_figure 0 = .ok (.iload_n 1, 1) := by decide +kernel
theorem dX9_figure_1 : decode cX9_figure 1 = .ok (.tableswitch 113 0 9 #[55, 60, 65, 70, 75, 80, 85, 90, 95, 100], 55) := by decide +kernel
theorem dX9_figure_56 : decode cX9_figure 56 = .ok (.aload_n 0, 1) := by decide +kernel
theorem dX9_figure_57 : decode cX9_figure 57 = .ok (.getfield 44, 3) := by decide +kernel
theorem dX9_figure_60 : decode cX9_figure 60 = .ok (.ireturn, 1) := by decide +kernel
theorem dX9_figure_61 : decode cX9_figure 61 = .ok (.aload_n 0, 1) := by decide +kernel
theorem dX9_figure_62 : decode cX9_figure 62 = .ok (.getfield 47, 3) := by decide +kernel
theorem dX9_figure_65 : decode cX9_figure 65 = .ok (.ireturn, 1) := by decide +kernel
theorem dX9_figure_66 : decode cX9_figure 66 = .ok (.aload_n 0, 1) := by decide +kernel
theorem dX9_figure_67 : decode cX9_figure 67 = .ok (.getfield 68, 3) := by decide +kernel
theorem dX9_figure_70 : decode cX9_figure 70 = .ok (.ireturn, 1) := by decide +kernel
theorem dX9_figure_71 : decode cX9_figure 71 = .ok (.aload_n 0, 1) := by decide +kernel
theorem dX9_figure_72 : decode cX9_figure 72 = .ok (.getfield 74, 3) := by decide +kernel
theorem dX9_figure_75 : decode cX9_figure 75 = .ok (.ireturn, 1) := by decide +kernel
theorem dX9_figure_76 : decode cX9_figure 76 = .ok (.aload_n 0, 1) := by decide +kernel
theorem dX9_figure_77 : decode cX9_figure 77 = .ok (.getfield 50, 3) := by decide +kernel
theorem dX9_figure_80 : decode cX9_figure 80 = .ok (.ireturn, 1) := by decide +kernel
theorem dX9_figure_81 : decode cX9_figure 81 = .ok (.aload_n 0, 1) := by decide +kernel
theorem dX9_figure_82 : decode cX9_figure 82 = .ok (.getfield 56, 3) := by decide +kernel
theorem dX9_figure_85 : decode cX9_figure 85 = .ok (.ireturn, 1) := by decide +kernel
theorem dX9_figure_86 : decode cX9_figure 86 = .ok (.aload_n 0, 1) := by decide +kernel
theorem dX9_figure_87 : decode cX9_figure 87 = .ok (.getfield 62, 3) := by decide +kernel
theorem dX9_figure_90 : decode cX9_figure 90 = .ok (.ireturn, 1) := by decide +kernel
theorem dX9_figure_91 : decode cX9_figure 91 = .ok (.aload_n 0, 1) := by decide +kernel
theorem dX9_figure_92 : decode cX9_figure 92 = .ok (.getfield 71, 3) := by decide +kernel
theorem dX9_figure_95 : decode cX9_figure 95 = .ok (.ireturn, 1) := by decide +kernel
theorem dX9_figure_96 : decode cX9_figure 96 = .ok (.aload_n 0, 1) := by decide +kernel
theorem dX9_figure_97 : decode cX9_figure 97 = .ok (.getfield 59, 3) := by decide +kernel
theorem dX9_figure_100 : decode cX9_figure 100 = .ok (.ireturn, 1) := by decide +kernel
theorem dX9_figure_101 : decode cX9_figure 101 = .ok (.aload_n 0, 1) := by decide +kernel
theorem dX9_figure_102 : decode cX9_figure 102 = .ok (.getfield 26, 3) := by decide +kernel
theorem dX9_figure_105 : decode cX9_figure 105 = .ok (.ifCond .eq 7, 3) := by decide +kernel
theorem dX9_figure_108 : decode cX9_figure 108 = .ok (.iconst 1, 1) := by decide +kernel
theorem dX9_figure_109 : decode cX9_figure 109 = .ok (.goto 4, 3) := by decide +kernel
theorem dX9_figure_112 : decode cX9_figure 112 = .ok (.iconst 0, 1) := by decide +kernel
theorem dX9_figure_113 : decode cX9_figure 113 = .ok (.ireturn, 1) := by decide +kernel
theorem dX9_figure_114 : decode cX9_figure 114 = .ok (.aload_n 0, 1) := by decide +kernel
theorem dX9_figure_115 : decode cX9_figure 115 = .ok (.iload_n 1, 1) := by decide +kernel
theorem dX9_figure_116 : decode cX9_figure 116 = .ok (.invokevirtual 135, 3) := by decide +kernel
theorem dX9_figure_119 : decode cX9_figure 119 = .ok (.ireturn, 1) := by decide +kernel
theorem dX9_overFigure_0 : decode cX9_overFigure 0 = .ok (.iload_n 1, 1) := by decide +kernel
theorem dX9_overFigure_1 : decode cX9_overFigure 1 = .ok (.ifCond .lt 15, 3) := by decide +kernel
theorem dX9_overFigure_4 : decode cX9_overFigure 4 = .ok (.iload_n 1, 1) := by decide +kernel
theorem dX9_overFigure_5 : decode cX9_overFigure 5 = .ok (.aload_n 0, 1) := by decide +kernel
theorem dX9_overFigure_6 : decode cX9_overFigure 6 = .ok (.getfield 65, 3) := by decide +kernel
theorem dX9_overFigure_9 : decode cX9_overFigure 9 = .ok (.if_icmp .ge 7, 3) := by decide +kernel
theorem dX9_overFigure_12 : decode cX9_overFigure 12 = .ok (.iconst 1, 1) := by decide +kernel
theorem dX9_overFigure_13 : decode cX9_overFigure 13 = .ok (.goto 4, 3) := by decide +kernel
theorem dX9_overFigure_16 : decode cX9_overFigure 16 = .ok (.iconst 0, 1) := by decide +kernel
theorem dX9_overFigure_17 : decode cX9_overFigure 17 = .ok (.istore_n 3, 1) := by decide +kernel
theorem dX9_overFigure_18 : decode cX9_overFigure 18 = .ok (.iload_n 2, 1) := by decide +kernel
theorem dX9_overFigure_19 : decode cX9_overFigure 19 = .ok (.bipush 7, 2) := by decide +kernel
theorem dX9_overFigure_21 : decode cX9_overFigure 21 = .ok (.if_icmp .ne 13, 3) := by decide +kernel
theorem dX9_overFigure_24 : decode cX9_overFigure 24 = .ok (.iload_n 3, 1) := by decide +kernel
theorem dX9_overFigure_25 : decode cX9_overFigure 25 = .ok (.ifCond .eq 7, 3) := by decide +kernel
theorem dX9_overFigure_28 : decode cX9_overFigure 28 = .ok (.iconst 1, 1) := by decide +kernel
theorem dX9_overFigure_29 : decode cX9_overFigure 29 = .ok (.goto 4, 3) := by decide +kernel
theorem dX9_overFigure_32 : decode cX9_overFigure 32 = .ok (.iconst 0, 1) := by decide +kernel
theorem dX9_overFigure_33 : decode cX9_overFigure 33 = .ok (.ireturn, 1) := by decide +kernel
theorem dX9_overFigure_34 : decode cX9_overFigure 34 = .ok (.iload_n 3, 1) := by decide +kernel
theorem dX9_overFigure_35 : decode cX9_overFigure 35 = .ok (.ifCond .eq 17, 3) := by decide +kernel
theorem dX9_overFigure_38 : decode cX9_overFigure 38 = .ok (.aload_n 0, 1) := by decide +kernel
theorem dX9_overFigure_39 : decode cX9_overFigure 39 = .ok (.getfield 23, 3) := by decide +kernel
theorem dX9_overFigure_42 : decode cX9_overFigure 42 = .ok (.iload_n 1, 1) := by decide +kernel
theorem dX9_overFigure_43 : decode cX9_overFigure 43 = .ok (.iload_n 2, 1) := by decide +kernel
theorem dX9_overFigure_44 : decode cX9_overFigure 44 = .ok (.iconst 2, 1) := by decide +kernel
theorem dX9_overFigure_45 : decode cX9_overFigure 45 = .ok (.isub, 1) := by decide +kernel
theorem dX9_overFigure_46 : decode cX9_overFigure 46 = .ok (.invokevirtual 88, 3) := by decide +kernel
theorem dX9_overFigure_49 : decode cX9_overFigure 49 = .ok (.goto 4, 3) := by decide +kernel
theorem dX9_overFigure_52 : decode cX9_overFigure 52 = .ok (.iconst 0, 1) := by decide +kernel
theorem dX9_overFigure_53 : decode cX9_overFigure 53 = .ok (.ireturn, 1) := by decide +kernel
theorem dX9_crossSum_0 : decode cX9_crossSum 0 = .ok (.iload_n 1, 1) := by decide +kernel
theorem dX9_crossSum_1 : decode cX9_crossSum 1 = .ok (.tableswitch 102 11 15 #[35, 51, 67, 80, 91], 35) := by decide +kernel
theorem dX9_crossSum_36 : decode cX9_crossSum 36 = .ok (.aload_n 0, 1) := by decide +kernel
theorem dX9_crossSum_37 : decode cX9_crossSum 37 = .ok (.getfield 14, 3) := by decide +kernel
theorem dX9_crossSum_40 : decode cX9_crossSum 40 = .ok (.iconst 0, 1) := by decide +kernel
theorem dX9_crossSum_41 : decode cX9_crossSum 41 = .ok (.bipush 11, 2) := by decide +kernel
theorem dX9_crossSum_43 : decode cX9_crossSum 43 = .ok (.invokevirtual 139, 3) := by decide +kernel
theorem dX9_crossSum_46 : decode cX9_crossSum 46 = .ok (.aload_n 0, 1) := by decide +kernel
theorem dX9_crossSum_47 : decode cX9_crossSum 47 = .ok (.getfield 50, 3) := by decide +kernel
theorem dX9_crossSum_50 : decode cX9_crossSum 50 = .ok (.iadd, 1) := by decide +kernel
theorem dX9_crossSum_51 : decode cX9_crossSum 51 = .ok (.ireturn, 1) := by decide +kernel
theorem dX9_crossSum_52 : decode cX9_crossSum 52 = .ok (.aload_n 0, 1) := by decide +kernel
theorem dX9_crossSum_53 : decode cX9_crossSum 53 = .ok (.getfield 20, 3) := by decide +kernel
theorem dX9_crossSum_56 : decode cX9_crossSum 56 = .ok (.iconst 1, 1) := by decide +kernel
theorem dX9_crossSum_57 : decode cX9_crossSum 57 = .ok (.bipush 11, 2) := by decide +kernel
theorem dX9_crossSum_59 : decode cX9_crossSum 59 = .ok (.invokevirtual 139, 3) := by decide +kernel
theorem dX9_crossSum_62 : decode cX9_crossSum 62 = .ok (.aload_n 0, 1) := by decide +kernel
theorem dX9_crossSum_63 : decode cX9_crossSum 63 = .ok (.getfield 53, 3) := by decide +kernel
theorem dX9_crossSum_66 : decode cX9_crossSum 66 = .ok (.iadd, 1) := by decide +kernel
theorem dX9_crossSum_67 : decode cX9_crossSum 67 = .ok (.ireturn, 1) := by decide +kernel
theorem dX9_crossSum_68 : decode cX9_crossSum 68 = .ok (.aload_n 0, 1) := by decide +kernel
theorem dX9_crossSum_69 : decode cX9_crossSum 69 = .ok (.getfield 23, 3) := by decide +kernel
theorem dX9_crossSum_72 : decode cX9_crossSum 72 = .ok (.iconst 0, 1) := by decide +kernel
theorem dX9_crossSum_73 : decode cX9_crossSum 73 = .ok (.aload_n 0, 1) := by decide +kernel
theorem dX9_crossSum_74 : decode cX9_crossSum 74 = .ok (.getfield 65, 3) := by decide +kernel
theorem dX9_crossSum_77 : decode cX9_crossSum 77 = .ok (.invokevirtual 139, 3) := by decide +kernel
theorem dX9_crossSum_80 : decode cX9_crossSum 80 = .ok (.ireturn, 1) := by decide +kernel
theorem dX9_crossSum_81 : decode cX9_crossSum 81 = .ok (.aload_n 0, 1) := by decide +kernel
theorem dX9_crossSum_82 : decode cX9_crossSum 82 = .ok (.getfield 20, 3) := by decide +kernel
theorem dX9_crossSum_85 : decode cX9_crossSum 85 = .ok (.iconst 2, 1) := by decide +kernel
theorem dX9_crossSum_86 : decode cX9_crossSum 86 = .ok (.bipush 11, 2) := by decide +kernel
theorem dX9_crossSum_88 : decode cX9_crossSum 88 = .ok (.invokevirtual 139, 3) := by decide +kernel
theorem dX9_crossSum_91 : decode cX9_crossSum 91 = .ok (.ireturn, 1) := by decide +kernel
theorem dX9_crossSum_92 : decode cX9_crossSum 92 = .ok (.aload_n 0, 1) := by decide +kernel
theorem dX9_crossSum_93 : decode cX9_crossSum 93 = .ok (.getfield 14, 3) := by decide +kernel
theorem dX9_crossSum_96 : decode cX9_crossSum 96 = .ok (.iconst 2, 1) := by decide +kernel
theorem dX9_crossSum_97 : decode cX9_crossSum 97 = .ok (.bipush 6, 2) := by decide +kernel
theorem dX9_crossSum_99 : decode cX9_crossSum 99 = .ok (.invokevirtual 142, 3) := by decide +kernel
theorem dX9_crossSum_102 : decode cX9_crossSum 102 = .ok (.ireturn, 1) := by decide +kernel
theorem dX9_crossSum_103 : decode cX9_crossSum 103 = .ok (.iconst 0, 1) := by decide +kernel
theorem dX9_crossSum_104 : decode cX9_crossSum 104 = .ok (.ireturn, 1) := by decide +kernel
theorem dX9_hit_0 : decode cX9_hit 0 = .ok (.aload_n 0, 1) := by decide +kernel
theorem dX9_hit_1 : decode cX9_hit 1 = .ok (.getfield 14, 3) := by decide +kernel
theorem dX9_hit_4 : decode cX9_hit 4 = .ok (.aload_n 0, 1) := by decide +kernel
theorem dX9_hit_5 : decode cX9_hit 5 = .ok (.getfield 34, 3) := by decide +kernel
theorem dX9_hit_8 : decode cX9_hit 8 = .ok (.iconst 0, 1) := by decide +kernel
theorem dX9_hit_9 : decode cX9_hit 9 = .ok (.iload_n 1, 1) := by decide +kernel
theorem dX9_hit_10 : decode cX9_hit 10 = .ok (.invokevirtual 101, 3) := by decide +kernel
theorem dX9_hit_13 : decode cX9_hit 13 = .ok (.aload_n 0, 1) := by decide +kernel
theorem dX9_hit_14 : decode cX9_hit 14 = .ok (.getfield 20, 3) := by decide +kernel
theorem dX9_hit_17 : decode cX9_hit 17 = .ok (.aload_n 0, 1) := by decide +kernel
theorem dX9_hit_18 : decode cX9_hit 18 = .ok (.getfield 30, 3) := by decide +kernel
theorem dX9_hit_21 : decode cX9_hit 21 = .ok (.iconst 1, 1) := by decide +kernel
theorem dX9_hit_22 : decode cX9_hit 22 = .ok (.iload_n 1, 1) := by decide +kernel
theorem dX9_hit_23 : decode cX9_hit 23 = .ok (.invokevirtual 101, 3) := by decide +kernel
theorem dX9_hit_26 : decode cX9_hit 26 = .ok (.aload_n 0, 1) := by decide +kernel
theorem dX9_hit_27 : decode cX9_hit 27 = .ok (.dup, 1) := by decide +kernel
theorem dX9_hit_28 : decode cX9_hit 28 = .ok (.getfield 44, 3) := by decide +kernel
theorem dX9_hit_31 : decode cX9_hit 31 = .ok (.iload_n 1, 1) := by decide +kernel
theorem dX9_hit_32 : decode cX9_hit 32 = .ok (.iadd, 1) := by decide +kernel
theorem dX9_hit_33 : decode cX9_hit 33 = .ok (.putfield 44, 3) := by decide +kernel
theorem dX9_hit_36 : decode cX9_hit 36 = .ok (.aload_n 0, 1) := by decide +kernel
theorem dX9_hit_37 : decode cX9_hit 37 = .ok (.iload_n 1, 1) := by decide +kernel
theorem dX9_hit_38 : decode cX9_hit 38 = .ok (.invokevirtual 145, 3) := by decide +kernel
theorem dX9_hit_41 : decode cX9_hit 41 = .ok (.return_, 1) := by decide +kernel
theorem dX9_concede_0 : decode cX9_concede 0 = .ok (.aload_n 0, 1) := by decide +kernel
theorem dX9_concede_1 : decode cX9_concede 1 = .ok (.getfield 20, 3) := by decide +kernel
theorem dX9_concede_4 : decode cX9_concede 4 = .ok (.aload_n 0, 1) := by decide +kernel
theorem dX9_concede_5 : decode cX9_concede 5 = .ok (.getfield 30, 3) := by decide +kernel
theorem dX9_concede_8 : decode cX9_concede 8 = .ok (.iconst 1, 1) := by decide +kernel
theorem dX9_concede_9 : decode cX9_concede 9 = .ok (.iconst 1, 1) := by decide +kernel
theorem dX9_concede_10 : decode cX9_concede 10 = .ok (.invokevirtual 101, 3) := by decide +kernel
theorem dX9_concede_13 : decode cX9_concede 13 = .ok (.aload_n 0, 1) := by decide +kernel
theorem dX9_concede_14 : decode cX9_concede 14 = .ok (.dup, 1) := by decide +kernel
theorem dX9_concede_15 : decode cX9_concede 15 = .ok (.getfield 50, 3) := by decide +kernel
theorem dX9_concede_18 : decode cX9_concede 18 = .ok (.iconst 1, 1) := by decide +kernel
theorem dX9_concede_19 : decode cX9_concede 19 = .ok (.iadd, 1) := by decide +kernel
theorem dX9_concede_20 : decode cX9_concede 20 = .ok (.putfield 50, 3) := by decide +kernel
theorem dX9_concede_23 : decode cX9_concede 23 = .ok (.aload_n 0, 1) := by decide +kernel
theorem dX9_concede_24 : decode cX9_concede 24 = .ok (.dup, 1) := by decide +kernel
theorem dX9_concede_25 : decode cX9_concede 25 = .ok (.getfield 44, 3) := by decide +kernel
theorem dX9_concede_28 : decode cX9_concede 28 = .ok (.iconst 1, 1) := by decide +kernel
theorem dX9_concede_29 : decode cX9_concede 29 = .ok (.iadd, 1) := by decide +kernel
theorem dX9_concede_30 : decode cX9_concede 30 = .ok (.putfield 44, 3) := by decide +kernel
theorem dX9_concede_33 : decode cX9_concede 33 = .ok (.return_, 1) := by decide +kernel
theorem dX9_runOfNobody_0 : decode cX9_runOfNobody 0 = .ok (.aload_n 0, 1) := by decide +kernel
theorem dX9_runOfNobody_1 : decode cX9_runOfNobody 1 = .ok (.dup, 1) := by decide +kernel
theorem dX9_runOfNobody_2 : decode cX9_runOfNobody 2 = .ok (.getfield 53, 3) := by decide +kernel
theorem dX9_runOfNobody_5 : decode cX9_runOfNobody 5 = .ok (.iload_n 1, 1) := by decide +kernel
theorem dX9_runOfNobody_6 : decode cX9_runOfNobody 6 = .ok (.iadd, 1) := by decide +kernel
theorem dX9_runOfNobody_7 : decode cX9_runOfNobody 7 = .ok (.putfield 53, 3) := by decide +kernel
theorem dX9_runOfNobody_10 : decode cX9_runOfNobody 10 = .ok (.aload_n 0, 1) := by decide +kernel
theorem dX9_runOfNobody_11 : decode cX9_runOfNobody 11 = .ok (.dup, 1) := by decide +kernel
theorem dX9_runOfNobody_12 : decode cX9_runOfNobody 12 = .ok (.getfield 50, 3) := by decide +kernel
theorem dX9_runOfNobody_15 : decode cX9_runOfNobody 15 = .ok (.iload_n 1, 1) := by decide +kernel
theorem dX9_runOfNobody_16 : decode cX9_runOfNobody 16 = .ok (.iadd, 1) := by decide +kernel
theorem dX9_runOfNobody_17 : decode cX9_runOfNobody 17 = .ok (.putfield 50, 3) := by decide +kernel
theorem dX9_runOfNobody_20 : decode cX9_runOfNobody 20 = .ok (.aload_n 0, 1) := by decide +kernel
theorem dX9_runOfNobody_21 : decode cX9_runOfNobody 21 = .ok (.dup, 1) := by decide +kernel
theorem dX9_runOfNobody_22 : decode cX9_runOfNobody 22 = .ok (.getfield 44, 3) := by decide +kernel
theorem dX9_runOfNobody_25 : decode cX9_runOfNobody 25 = .ok (.iload_n 1, 1) := by decide +kernel
theorem dX9_runOfNobody_26 : decode cX9_runOfNobody 26 = .ok (.iadd, 1) := by decide +kernel
theorem dX9_runOfNobody_27 : decode cX9_runOfNobody 27 = .ok (.putfield 44, 3) := by decide +kernel
theorem dX9_runOfNobody_30 : decode cX9_runOfNobody 30 = .ok (.aload_n 0, 1) := by decide +kernel
theorem dX9_runOfNobody_31 : decode cX9_runOfNobody 31 = .ok (.iload_n 1, 1) := by decide +kernel
theorem dX9_runOfNobody_32 : decode cX9_runOfNobody 32 = .ok (.invokevirtual 145, 3) := by decide +kernel
theorem dX9_runOfNobody_35 : decode cX9_runOfNobody 35 = .ok (.return_, 1) := by decide +kernel
theorem dX9_cross_0 : decode cX9_cross 0 = .ok (.iload_n 1, 1) := by decide +kernel
theorem dX9_cross_1 : decode cX9_cross 1 = .ok (.iconst 2, 1) := by decide +kernel
theorem dX9_cross_2 : decode cX9_cross 2 = .ok (.irem, 1) := by decide +kernel
theorem dX9_cross_3 : decode cX9_cross 3 = .ok (.ifCond .eq 7, 3) := by decide +kernel
theorem dX9_cross_6 : decode cX9_cross 6 = .ok (.aload_n 0, 1) := by decide +kernel
theorem dX9_cross_7 : decode cX9_cross 7 = .ok (.invokevirtual 148, 3) := by decide +kernel
theorem dX9_cross_10 : decode cX9_cross 10 = .ok (.return_, 1) := by decide +kernel
theorem dX9_changeEnds_0 : decode cX9_changeEnds 0 = .ok (.aload_n 0, 1) := by decide +kernel
theorem dX9_changeEnds_1 : decode cX9_changeEnds 1 = .ok (.getfield 34, 3) := by decide +kernel
theorem dX9_changeEnds_4 : decode cX9_changeEnds 4 = .ok (.istore_n 1, 1) := by decide +kernel
theorem dX9_changeEnds_5 : decode cX9_changeEnds 5 = .ok (.aload_n 0, 1) := by decide +kernel
theorem dX9_changeEnds_6 : decode cX9_changeEnds 6 = .ok (.aload_n 0, 1) := by decide +kernel
theorem dX9_changeEnds_7 : decode cX9_changeEnds 7 = .ok (.getfield 37, 3) := by decide +kernel
theorem dX9_changeEnds_10 : decode cX9_changeEnds 10 = .ok (.putfield 34, 3) := by decide +kernel
theorem dX9_changeEnds_13 : decode cX9_changeEnds 13 = .ok (.aload_n 0, 1) := by decide +kernel
theorem dX9_changeEnds_14 : decode cX9_changeEnds 14 = .ok (.iload_n 1, 1) := by decide +kernel
theorem dX9_changeEnds_15 : decode cX9_changeEnds 15 = .ok (.putfield 37, 3) := by decide +kernel
theorem dX9_changeEnds_18 : decode cX9_changeEnds 18 = .ok (.return_, 1) := by decide +kernel
theorem dX9_leave_0 : decode cX9_leave 0 = .ok (.aload_n 0, 1) := by decide +kernel
theorem dX9_leave_1 : decode cX9_leave 1 = .ok (.getfield 14, 3) := by decide +kernel
theorem dX9_leave_4 : decode cX9_leave 4 = .ok (.iload_n 1, 1) := by decide +kernel
theorem dX9_leave_5 : decode cX9_leave 5 = .ok (.ifCond .eq 10, 3) := by decide +kernel
theorem dX9_leave_8 : decode cX9_leave 8 = .ok (.aload_n 0, 1) := by decide +kernel
theorem dX9_leave_9 : decode cX9_leave 9 = .ok (.getfield 34, 3) := by decide +kernel
theorem dX9_leave_12 : decode cX9_leave 12 = .ok (.goto 7, 3) := by decide +kernel
theorem dX9_leave_15 : decode cX9_leave 15 = .ok (.aload_n 0, 1) := by decide +kernel
theorem dX9_leave_16 : decode cX9_leave 16 = .ok (.getfield 37, 3) := by decide +kernel
theorem dX9_leave_19 : decode cX9_leave 19 = .ok (.iconst 2, 1) := by decide +kernel
theorem dX9_leave_20 : decode cX9_leave 20 = .ok (.iload_n 2, 1) := by decide +kernel
theorem dX9_leave_21 : decode cX9_leave 21 = .ok (.invokevirtual 84, 3) := by decide +kernel
theorem dX9_leave_24 : decode cX9_leave 24 = .ok (.aload_n 0, 1) := by decide +kernel
theorem dX9_leave_25 : decode cX9_leave 25 = .ok (.dup, 1) := by decide +kernel
theorem dX9_leave_26 : decode cX9_leave 26 = .ok (.getfield 47, 3) := by decide +kernel
theorem dX9_leave_29 : decode cX9_leave 29 = .ok (.iconst 1, 1) := by decide +kernel
theorem dX9_leave_30 : decode cX9_leave 30 = .ok (.iadd, 1) := by decide +kernel
theorem dX9_leave_31 : decode cX9_leave 31 = .ok (.putfield 47, 3) := by decide +kernel
theorem dX9_leave_34 : decode cX9_leave 34 = .ok (.aload_n 0, 1) := by decide +kernel
theorem dX9_leave_35 : decode cX9_leave 35 = .ok (.getfield 23, 3) := by decide +kernel
theorem dX9_leave_38 : decode cX9_leave 38 = .ok (.aload_n 0, 1) := by decide +kernel
theorem dX9_leave_39 : decode cX9_leave 39 = .ok (.getfield 65, 3) := by decide +kernel
theorem dX9_leave_42 : decode cX9_leave 42 = .ok (.iconst 1, 1) := by decide +kernel
theorem dX9_leave_43 : decode cX9_leave 43 = .ok (.isub, 1) := by decide +kernel
theorem dX9_leave_44 : decode cX9_leave 44 = .ok (.iconst 1, 1) := by decide +kernel
theorem dX9_leave_45 : decode cX9_leave 45 = .ok (.iconst 1, 1) := by decide +kernel
theorem dX9_leave_46 : decode cX9_leave 46 = .ok (.invokevirtual 101, 3) := by decide +kernel
theorem dX9_leave_49 : decode cX9_leave 49 = .ok (.iconst (-1), 1) := by decide +kernel
theorem dX9_leave_50 : decode cX9_leave 50 = .ok (.istore_n 3, 1) := by decide +kernel
theorem dX9_leave_51 : decode cX9_leave 51 = .ok (.aload_n 0, 1) := by decide +kernel
theorem dX9_leave_52 : decode cX9_leave 52 = .ok (.getfield 47, 3) := by decide +kernel
theorem dX9_leave_55 : decode cX9_leave 55 = .ok (.bipush 10, 2) := by decide +kernel
theorem dX9_leave_57 : decode cX9_leave 57 = .ok (.if_icmp .ge 28, 3) := by decide +kernel
theorem dX9_leave_60 : decode cX9_leave 60 = .ok (.aload_n 0, 1) := by decide +kernel
theorem dX9_leave_61 : decode cX9_leave 61 = .ok (.getfield 77, 3) := by decide +kernel
theorem dX9_leave_64 : decode cX9_leave 64 = .ok (.istore_n 3, 1) := by decide +kernel
theorem dX9_leave_65 : decode cX9_leave 65 = .ok (.aload_n 0, 1) := by decide +kernel
theorem dX9_leave_66 : decode cX9_leave 66 = .ok (.dup, 1) := by decide +kernel
theorem dX9_leave_67 : decode cX9_leave 67 = .ok (.getfield 77, 3) := by decide +kernel
theorem dX9_leave_70 : decode cX9_leave 70 = .ok (.iconst 1, 1) := by decide +kernel
theorem dX9_leave_71 : decode cX9_leave 71 = .ok (.iadd, 1) := by decide +kernel
theorem dX9_leave_72 : decode cX9_leave 72 = .ok (.putfield 77, 3) := by decide +kernel
theorem dX9_leave_75 : decode cX9_leave 75 = .ok (.aload_n 0, 1) := by decide +kernel
theorem dX9_leave_76 : decode cX9_leave 76 = .ok (.getfield 14, 3) := by decide +kernel
theorem dX9_leave_79 : decode cX9_leave 79 = .ok (.iload_n 3, 1) := by decide +kernel
theorem dX9_leave_80 : decode cX9_leave 80 = .ok (.iconst 2, 1) := by decide +kernel
theorem dX9_leave_81 : decode cX9_leave 81 = .ok (.iconst 1, 1) := by decide +kernel
theorem dX9_leave_82 : decode cX9_leave 82 = .ok (.invokevirtual 84, 3) := by decide +kernel
theorem dX9_leave_85 : decode cX9_leave 85 = .ok (.iload_n 1, 1) := by decide +kernel
theorem dX9_leave_86 : decode cX9_leave 86 = .ok (.ifCond .eq 11, 3) := by decide +kernel
theorem dX9_leave_89 : decode cX9_leave 89 = .ok (.aload_n 0, 1) := by decide +kernel
theorem dX9_leave_90 : decode cX9_leave 90 = .ok (.iload_n 3, 1) := by decide +kernel
theorem dX9_leave_91 : decode cX9_leave 91 = .ok (.putfield 34, 3) := by decide +kernel
theorem dX9_leave_94 : decode cX9_leave 94 = .ok (.goto 8, 3) := by decide +kernel
theorem dX9_leave_97 : decode cX9_leave 97 = .ok (.aload_n 0, 1) := by decide +kernel
theorem dX9_leave_98 : decode cX9_leave 98 = .ok (.iload_n 3, 1) := by decide +kernel
theorem dX9_leave_99 : decode cX9_leave 99 = .ok (.putfield 37, 3) := by decide +kernel
theorem dX9_leave_102 : decode cX9_leave 102 = .ok (.return_, 1) := by decide +kernel
theorem dX9_takeAway_0 : decode cX9_takeAway 0 = .ok (.aload_n 0, 1) := by decide +kernel
theorem dX9_takeAway_1 : decode cX9_takeAway 1 = .ok (.invokevirtual 151, 3) := by decide +kernel
theorem dX9_takeAway_4 : decode cX9_takeAway 4 = .ok (.aload_n 0, 1) := by decide +kernel
theorem dX9_takeAway_5 : decode cX9_takeAway 5 = .ok (.getfield 47, 3) := by decide +kernel
theorem dX9_takeAway_8 : decode cX9_takeAway 8 = .ok (.invokestatic 80, 3) := by decide +kernel
theorem dX9_takeAway_11 : decode cX9_takeAway 11 = .ok (.istore_n 2, 1) := by decide +kernel
theorem dX9_takeAway_12 : decode cX9_takeAway 12 = .ok (.aload_n 0, 1) := by decide +kernel
theorem dX9_takeAway_13 : decode cX9_takeAway 13 = .ok (.dup, 1) := by decide +kernel
theorem dX9_takeAway_14 : decode cX9_takeAway 14 = .ok (.getfield 56, 3) := by decide +kernel
theorem dX9_takeAway_17 : decode cX9_takeAway 17 = .ok (.iload_n 1, 1) := by decide +kernel
theorem dX9_takeAway_18 : decode cX9_takeAway 18 = .ok (.isub, 1) := by decide +kernel
theorem dX9_takeAway_19 : decode cX9_takeAway 19 = .ok (.putfield 56, 3) := by decide +kernel
theorem dX9_takeAway_22 : decode cX9_takeAway 22 = .ok (.aload_n 0, 1) := by decide +kernel
theorem dX9_takeAway_23 : decode cX9_takeAway 23 = .ok (.dup, 1) := by decide +kernel
theorem dX9_takeAway_24 : decode cX9_takeAway 24 = .ok (.getfield 59, 3) := by decide +kernel
theorem dX9_takeAway_27 : decode cX9_takeAway 27 = .ok (.iload_n 2, 1) := by decide +kernel
theorem dX9_takeAway_28 : decode cX9_takeAway 28 = .ok (.aload_n 0, 1) := by decide +kernel
theorem dX9_takeAway_29 : decode cX9_takeAway 29 = .ok (.invokevirtual 151, 3) := by decide +kernel
theorem dX9_takeAway_32 : decode cX9_takeAway 32 = .ok (.aload_n 0, 1) := by decide +kernel
theorem dX9_takeAway_33 : decode cX9_takeAway 33 = .ok (.getfield 47, 3) := by decide +kernel
theorem dX9_takeAway_36 : decode cX9_takeAway 36 = .ok (.invokestatic 80, 3) := by decide +kernel
theorem dX9_takeAway_39 : decode cX9_takeAway 39 = .ok (.isub, 1) := by decide +kernel
theorem dX9_takeAway_40 : decode cX9_takeAway 40 = .ok (.isub, 1) := by decide +kernel
theorem dX9_takeAway_41 : decode cX9_takeAway 41 = .ok (.putfield 59, 3) := by decide +kernel
theorem dX9_takeAway_44 : decode cX9_takeAway 44 = .ok (.return_, 1) := by decide +kernel
theorem dX9_endOver_0 : decode cX9_endOver 0 = .ok (.aload_n 0, 1) := by decide +kernel
theorem dX9_endOver_1 : decode cX9_endOver 1 = .ok (.getfield 23, 3) := by decide +kernel
theorem dX9_endOver_4 : decode cX9_endOver 4 = .ok (.aload_n 0, 1) := by decide +kernel
theorem dX9_endOver_5 : decode cX9_endOver 5 = .ok (.getfield 65, 3) := by decide +kernel
theorem dX9_endOver_8 : decode cX9_endOver 8 = .ok (.iconst 1, 1) := by decide +kernel
theorem dX9_endOver_9 : decode cX9_endOver 9 = .ok (.isub, 1) := by decide +kernel
theorem dX9_endOver_10 : decode cX9_endOver 10 = .ok (.iconst 3, 1) := by decide +kernel
theorem dX9_endOver_11 : decode cX9_endOver 11 = .ok (.iconst 1, 1) := by decide +kernel
theorem dX9_endOver_12 : decode cX9_endOver 12 = .ok (.invokevirtual 84, 3) := by decide +kernel
theorem dX9_endOver_15 : decode cX9_endOver 15 = .ok (.iload_n 1, 1) := by decide +kernel
theorem dX9_endOver_16 : decode cX9_endOver 16 = .ok (.ifCond .eq 28, 3) := by decide +kernel
theorem dX9_endOver_19 : decode cX9_endOver 19 = .ok (.aload_n 0, 1) := by decide +kernel
theorem dX9_endOver_20 : decode cX9_endOver 20 = .ok (.getfield 23, 3) := by decide +kernel
theorem dX9_endOver_23 : decode cX9_endOver 23 = .ok (.aload_n 0, 1) := by decide +kernel
theorem dX9_endOver_24 : decode cX9_endOver 24 = .ok (.getfield 65, 3) := by decide +kernel
theorem dX9_endOver_27 : decode cX9_endOver 27 = .ok (.iconst 1, 1) := by decide +kernel
theorem dX9_endOver_28 : decode cX9_endOver 28 = .ok (.isub, 1) := by decide +kernel
theorem dX9_endOver_29 : decode cX9_endOver 29 = .ok (.iconst 4, 1) := by decide +kernel
theorem dX9_endOver_30 : decode cX9_endOver 30 = .ok (.iconst 1, 1) := by decide +kernel
theorem dX9_endOver_31 : decode cX9_endOver 31 = .ok (.invokevirtual 84, 3) := by decide +kernel
theorem dX9_endOver_34 : decode cX9_endOver 34 = .ok (.aload_n 0, 1) := by decide +kernel
theorem dX9_endOver_35 : decode cX9_endOver 35 = .ok (.dup, 1) := by decide +kernel
theorem dX9_endOver_36 : decode cX9_endOver 36 = .ok (.getfield 71, 3) := by decide +kernel
theorem dX9_endOver_39 : decode cX9_endOver 39 = .ok (.iconst 1, 1) := by decide +kernel
theorem dX9_endOver_40 : decode cX9_endOver 40 = .ok (.iadd, 1) := by decide +kernel
theorem dX9_endOver_41 : decode cX9_endOver 41 = .ok (.putfield 71, 3) := by decide +kernel
theorem dX9_endOver_44 : decode cX9_endOver 44 = .ok (.aload_n 0, 1) := by decide +kernel
theorem dX9_endOver_45 : decode cX9_endOver 45 = .ok (.dup, 1) := by decide +kernel
theorem dX9_endOver_46 : decode cX9_endOver 46 = .ok (.getfield 68, 3) := by decide +kernel
theorem dX9_endOver_49 : decode cX9_endOver 49 = .ok (.iconst 1, 1) := by decide +kernel
theorem dX9_endOver_50 : decode cX9_endOver 50 = .ok (.iadd, 1) := by decide +kernel
theorem dX9_endOver_51 : decode cX9_endOver 51 = .ok (.putfield 68, 3) := by decide +kernel
theorem dX9_endOver_54 : decode cX9_endOver 54 = .ok (.aload_n 0, 1) := by decide +kernel
theorem dX9_endOver_55 : decode cX9_endOver 55 = .ok (.iconst 0, 1) := by decide +kernel
theorem dX9_endOver_56 : decode cX9_endOver 56 = .ok (.putfield 74, 3) := by decide +kernel
theorem dX9_endOver_59 : decode cX9_endOver 59 = .ok (.aload_n 0, 1) := by decide +kernel
theorem dX9_endOver_60 : decode cX9_endOver 60 = .ok (.invokevirtual 148, 3) := by decide +kernel
theorem dX9_endOver_63 : decode cX9_endOver 63 = .ok (.return_, 1) := by decide +kernel
theorem dX10_init_0 : decode cX10_init 0 = .ok (.aload_n 0, 1) := by decide +kernel
theorem dX10_init_1 : decode cX10_init 1 = .ok (.invokespecial 1, 3) := by decide +kernel
theorem dX10_init_4 : decode cX10_init 4 = .ok (.aload_n 0, 1) := by decide +kernel
theorem dX10_init_5 : decode cX10_init 5 = .ok (.new 7, 3) := by decide +kernel
theorem dX10_init_8 : decode cX10_init 8 = .ok (.dup, 1) := by decide +kernel
theorem dX10_init_9 : decode cX10_init 9 = .ok (.invokespecial 9, 3) := by decide +kernel
theorem dX10_init_12 : decode cX10_init 12 = .ok (.putfield 10, 3) := by decide +kernel
theorem dX10_init_15 : decode cX10_init 15 = .ok (.return_, 1) := by decide +kernel
theorem dX10_overCount_0 : decode cX10_overCount 0 = .ok (.aload_n 0, 1) := by decide +kernel
theorem dX10_overCount_1 : decode cX10_overCount 1 = .ok (.getfield 10, 3) := by decide +kernel
theorem dX10_overCount_4 : decode cX10_overCount 4 = .ok (.invokevirtual 16, 3) := by decide +kernel
theorem dX10_overCount_7 : decode cX10_overCount 7 = .ok (.ireturn, 1) := by decide +kernel
theorem dX10_overAt_0 : decode cX10_overAt 0 = .ok (.iload_n 1, 1) := by decide +kernel
theorem dX10_overAt_1 : decode cX10_overAt 1 = .ok (.ifCond .lt 28, 3) := by decide +kernel
theorem dX10_overAt_4 : decode cX10_overAt 4 = .ok (.iload_n 1, 1) := by decide +kernel
theorem dX10_overAt_5 : decode cX10_overAt 5 = .ok (.aload_n 0, 1) := by decide +kernel
theorem dX10_overAt_6 : decode cX10_overAt 6 = .ok (.getfield 10, 3) := by decide +kernel
theorem dX10_overAt_9 : decode cX10_overAt 9 = .ok (.invokevirtual 16, 3) := by decide +kernel
theorem dX10_overAt_12 : decode cX10_overAt 12 = .ok (.if_icmp .ge 17, 3) := by decide +kernel
theorem dX10_overAt_15 : decode cX10_overAt 15 = .ok (.aload_n 0, 1) := by decide +kernel
theorem dX10_overAt_16 : decode cX10_overAt 16 = .ok (.getfield 10, 3) := by decide +kernel
theorem dX10_overAt_19 : decode cX10_overAt 19 = .ok (.iload_n 1, 1) := by decide +kernel
theorem dX10_overAt_20 : decode cX10_overAt 20 = .ok (.invokevirtual 20, 3) := by decide +kernel
theorem dX10_overAt_23 : decode cX10_overAt 23 = .ok (.checkcast 24, 3) := by decide +kernel
theorem dX10_overAt_26 : decode cX10_overAt 26 = .ok (.goto 4, 3) := by decide +kernel
theorem dX10_overAt_29 : decode cX10_overAt 29 = .ok (.aconst_null, 1) := by decide +kernel
theorem dX10_overAt_30 : decode cX10_overAt 30 = .ok (.areturn, 1) := by decide +kernel
theorem dX10_imageSize_0 : decode cX10_imageSize 0 = .ok (.iconst 0, 1) := by decide +kernel
theorem dX10_imageSize_1 : decode cX10_imageSize 1 = .ok (.istore_n 2, 1) := by decide +kernel
theorem dX10_imageSize_2 : decode cX10_imageSize 2 = .ok (.iconst 0, 1) := by decide +kernel
theorem dX10_imageSize_3 : decode cX10_imageSize 3 = .ok (.istore_n 3, 1) := by decide +kernel
theorem dX10_imageSize_4 : decode cX10_imageSize 4 = .ok (.iload_n 3, 1) := by decide +kernel
theorem dX10_imageSize_5 : decode cX10_imageSize 5 = .ok (.iload_n 1, 1) := by decide +kernel
theorem dX10_imageSize_6 : decode cX10_imageSize 6 = .ok (.if_icmp .ge 43, 3) := by decide +kernel
theorem dX10_imageSize_9 : decode cX10_imageSize 9 = .ok (.iload_n 3, 1) := by decide +kernel
theorem dX10_imageSize_10 : decode cX10_imageSize 10 = .ok (.aload_n 0, 1) := by decide +kernel
theorem dX10_imageSize_11 : decode cX10_imageSize 11 = .ok (.getfield 10, 3) := by decide +kernel
theorem dX10_imageSize_14 : decode cX10_imageSize 14 = .ok (.invokevirtual 16, 3) := by decide +kernel
theorem dX10_imageSize_17 : decode cX10_imageSize 17 = .ok (.if_icmp .ge 32, 3) := by decide +kernel
theorem dX10_imageSize_20 : decode cX10_imageSize 20 = .ok (.iload_n 2, 1) := by decide +kernel
theorem dX10_imageSize_21 : decode cX10_imageSize 21 = .ok (.iconst 2, 1) := by decide +kernel
theorem dX10_imageSize_22 : decode cX10_imageSize 22 = .ok (.aload_n 0, 1) := by decide +kernel
theorem dX10_imageSize_23 : decode cX10_imageSize 23 = .ok (.getfield 10, 3) := by decide +kernel
theorem dX10_imageSize_26 : decode cX10_imageSize 26 = .ok (.iload_n 3, 1) := by decide +kernel
theorem dX10_imageSize_27 : decode cX10_imageSize 27 = .ok (.invokevirtual 20, 3) := by decide +kernel
theorem dX10_imageSize_30 : decode cX10_imageSize 30 = .ok (.checkcast 24, 3) := by decide +kernel
theorem dX10_imageSize_33 : decode cX10_imageSize 33 = .ok (.getfield 26, 3) := by decide +kernel
theorem dX10_imageSize_36 : decode cX10_imageSize 36 = .ok (.iconst 0, 1) := by decide +kernel
theorem dX10_imageSize_37 : decode cX10_imageSize 37 = .ok (.invokestatic 29, 3) := by decide +kernel
theorem dX10_imageSize_40 : decode cX10_imageSize 40 = .ok (.iadd, 1) := by decide +kernel
theorem dX10_imageSize_41 : decode cX10_imageSize 41 = .ok (.iadd, 1) := by decide +kernel
theorem dX10_imageSize_42 : decode cX10_imageSize 42 = .ok (.istore_n 2, 1) := by decide +kernel
theorem dX10_imageSize_43 : decode cX10_imageSize 43 = .ok (.iinc 3 1, 3) := by decide +kernel
theorem dX10_imageSize_46 : decode cX10_imageSize 46 = .ok (.goto (-42), 3) := by decide +kernel
theorem dX10_imageSize_49 : decode cX10_imageSize 49 = .ok (.iload_n 2, 1) := by decide +kernel
theorem dX10_imageSize_50 : decode cX10_imageSize 50 = .ok (.ireturn, 1) := by decide +kernel
theorem dX10_addOver_0 : decode cX10_addOver 0 = .ok (.aload_n 0, 1) := by decide +kernel
theorem dX10_addOver_1 : decode cX10_addOver 1 = .ok (.getfield 10, 3) := by decide +kernel
theorem dX10_addOver_4 : decode cX10_addOver 4 = .ok (.aload_n 1, 1) := by decide +kernel
theorem dX10_addOver_5 : decode cX10_addOver 5 = .ok (.invokevirtual 35, 3) := by decide +kernel
theorem dX10_addOver_8 : decode cX10_addOver 8 = .ok (.pop, 1) := by decide +kernel
theorem dX10_addOver_9 : decode cX10_addOver 9 = .ok (.return_, 1) := by decide +kernel
theorem dX10_dropOver_0 : decode cX10_dropOver 0 = .ok (.aload_n 0, 1) := by decide +kernel
theorem dX10_dropOver_1 : decode cX10_dropOver 1 = .ok (.getfield 10, 3) := by decide +kernel
theorem dX10_dropOver_4 : decode cX10_dropOver 4 = .ok (.invokevirtual 39, 3) := by decide +kernel
theorem dX10_dropOver_7 : decode cX10_dropOver 7 = .ok (.ifCond .ne 20, 3) := by decide +kernel
theorem dX10_dropOver_10 : decode cX10_dropOver 10 = .ok (.aload_n 0, 1) := by decide +kernel
theorem dX10_dropOver_11 : decode cX10_dropOver 11 = .ok (.getfield 10, 3) := by decide +kernel
theorem dX10_dropOver_14 : decode cX10_dropOver 14 = .ok (.aload_n 0, 1) := by decide +kernel
theorem dX10_dropOver_15 : decode cX10_dropOver 15 = .ok (.getfield 10, 3) := by decide +kernel
theorem dX10_dropOver_18 : decode cX10_dropOver 18 = .ok (.invokevirtual 16, 3) := by decide +kernel
theorem dX10_dropOver_21 : decode cX10_dropOver 21 = .ok (.iconst 1, 1) := by decide +kernel
theorem dX10_dropOver_22 : decode cX10_dropOver 22 = .ok (.isub, 1) := by decide +kernel
theorem dX10_dropOver_23 : decode cX10_dropOver 23 = .ok (.invokevirtual 43, 3) := by decide +kernel
theorem dX10_dropOver_26 : decode cX10_dropOver 26 = .ok (.pop, 1) := by decide +kernel
theorem dX10_dropOver_27 : decode cX10_dropOver 27 = .ok (.return_, 1) := by decide +kernel
theorem dX11_init_0 : decode cX11_init 0 = .ok (.aload_n 0, 1) := by decide +kernel
theorem dX11_init_1 : decode cX11_init 1 = .ok (.invokespecial 1, 3) := by decide +kernel
theorem dX11_init_4 : decode cX11_init 4 = .ok (.aload_n 0, 1) := by decide +kernel
theorem dX11_init_5 : decode cX11_init 5 = .ok (.bipush 60, 2) := by decide +kernel
theorem dX11_init_7 : decode cX11_init 7 = .ok (.newarray .int, 2) := by decide +kernel
theorem dX11_init_9 : decode cX11_init 9 = .ok (.putfield 9, 3) := by decide +kernel
theorem dX11_init_12 : decode cX11_init 12 = .ok (.aload_n 0, 1) := by decide +kernel
theorem dX11_init_13 : decode cX11_init 13 = .ok (.new 13, 3) := by decide +kernel
theorem dX11_init_16 : decode cX11_init 16 = .ok (.dup, 1) := by decide +kernel
theorem dX11_init_17 : decode cX11_init 17 = .ok (.invokespecial 15, 3) := by decide +kernel
theorem dX11_init_20 : decode cX11_init 20 = .ok (.putfield 16, 3) := by decide +kernel
theorem dX11_init_23 : decode cX11_init 23 = .ok (.aload_n 0, 1) := by decide +kernel
theorem dX11_init_24 : decode cX11_init 24 = .ok (.new 20, 3) := by decide +kernel
theorem dX11_init_27 : decode cX11_init 27 = .ok (.dup, 1) := by decide +kernel
theorem dX11_init_28 : decode cX11_init 28 = .ok (.sipush 6000, 3) := by decide +kernel
theorem dX11_init_31 : decode cX11_init 31 = .ok (.invokespecial 22, 3) := by decide +kernel
theorem dX11_init_34 : decode cX11_init 34 = .ok (.putfield 25, 3) := by decide +kernel
theorem dX11_init_37 : decode cX11_init 37 = .ok (.aload_n 0, 1) := by decide +kernel
theorem dX11_init_38 : decode cX11_init 38 = .ok (.new 20, 3) := by decide +kernel
theorem dX11_init_41 : decode cX11_init 41 = .ok (.dup, 1) := by decide +kernel
theorem dX11_init_42 : decode cX11_init 42 = .ok (.sipush 8000, 3) := by decide +kernel
theorem dX11_init_45 : decode cX11_init 45 = .ok (.invokespecial 22, 3) := by decide +kernel
theorem dX11_init_48 : decode cX11_init 48 = .ok (.putfield 29, 3) := by decide +kernel
theorem dX11_init_51 : decode cX11_init 51 = .ok (.aload_n 0, 1) := by decide +kernel
theorem dX11_init_52 : decode cX11_init 52 = .ok (.new 32, 3) := by decide +kernel
theorem dX11_init_55 : decode cX11_init 55 = .ok (.dup, 1) := by decide +kernel
theorem dX11_init_56 : decode cX11_init 56 = .ok (.invokespecial 34, 3) := by decide +kernel
theorem dX11_init_59 : decode cX11_init 59 = .ok (.putfield 35, 3) := by decide +kernel
theorem dX11_init_62 : decode cX11_init 62 = .ok (.aload_n 0, 1) := by decide +kernel
theorem dX11_init_63 : decode cX11_init 63 = .ok (.new 39, 3) := by decide +kernel
theorem dX11_init_66 : decode cX11_init 66 = .ok (.dup, 1) := by decide +kernel
theorem dX11_init_67 : decode cX11_init 67 = .ok (.invokespecial 41, 3) := by decide +kernel
theorem dX11_init_70 : decode cX11_init 70 = .ok (.putfield 42, 3) := by decide +kernel
theorem dX11_init_73 : decode cX11_init 73 = .ok (.aload_n 0, 1) := by decide +kernel
theorem dX11_init_74 : decode cX11_init 74 = .ok (.new 46, 3) := by decide +kernel
theorem dX11_init_77 : decode cX11_init 77 = .ok (.dup, 1) := by decide +kernel
theorem dX11_init_78 : decode cX11_init 78 = .ok (.invokespecial 48, 3) := by decide +kernel
theorem dX11_init_81 : decode cX11_init 81 = .ok (.putfield 49, 3) := by decide +kernel
theorem dX11_init_84 : decode cX11_init 84 = .ok (.aload_n 0, 1) := by decide +kernel
theorem dX11_init_85 : decode cX11_init 85 = .ok (.new 53, 3) := by decide +kernel
theorem dX11_init_88 : decode cX11_init 88 = .ok (.dup, 1) := by decide +kernel
theorem dX11_init_89 : decode cX11_init 89 = .ok (.invokespecial 55, 3) := by decide +kernel
theorem dX11_init_92 : decode cX11_init 92 = .ok (.putfield 56, 3) := by decide +kernel
theorem dX11_init_95 : decode cX11_init 95 = .ok (.aload_n 0, 1) := by decide +kernel
theorem dX11_init_96 : decode cX11_init 96 = .ok (.iconst 0, 1) := by decide +kernel
theorem dX11_init_97 : decode cX11_init 97 = .ok (.putfield 60, 3) := by decide +kernel
theorem dX11_init_100 : decode cX11_init 100 = .ok (.aload_n 0, 1) := by decide +kernel
theorem dX11_init_101 : decode cX11_init 101 = .ok (.iconst 0, 1) := by decide +kernel
theorem dX11_init_102 : decode cX11_init 102 = .ok (.putfield 64, 3) := by decide +kernel
theorem dX11_init_105 : decode cX11_init 105 = .ok (.aload_n 0, 1) := by decide +kernel
theorem dX11_init_106 : decode cX11_init 106 = .ok (.iconst (-1), 1) := by decide +kernel
theorem dX11_init_107 : decode cX11_init 107 = .ok (.putfield 67, 3) := by decide +kernel
theorem dX11_init_110 : decode cX11_init 110 = .ok (.aload_n 0, 1) := by decide +kernel
theorem dX11_init_111 : decode cX11_init 111 = .ok (.iconst 1, 1) := by decide +kernel
theorem dX11_init_112 : decode cX11_init 112 = .ok (.putfield 70, 3) := by decide +kernel
theorem dX11_init_115 : decode cX11_init 115 = .ok (.return_, 1) := by decide +kernel
theorem dX11_side_0 : decode cX11_side 0 = .ok (.aload_n 0, 1) := by decide +kernel
theorem dX11_side_1 : decode cX11_side 1 = .ok (.getfield 60, 3) := by decide +kernel
theorem dX11_side_4 : decode cX11_side 4 = .ok (.bipush 60, 2) := by decide +kernel
theorem dX11_side_6 : decode cX11_side 6 = .ok (.if_icmp .ge 15, 3) := by decide +kernel
theorem dX11_side_9 : decode cX11_side 9 = .ok (.iload_n 1, 1) := by decide +kernel
theorem dX11_side_10 : decode cX11_side 10 = .ok (.bipush 11, 2) := by decide +kernel
theorem dX11_side_12 : decode cX11_side 12 = .ok (.if_icmp .lt 9, 3) := by decide +kernel
theorem dX11_side_15 : decode cX11_side 15 = .ok (.iload_n 1, 1) := by decide +kernel
theorem dX11_side_16 : decode cX11_side 16 = .ok (.bipush 30, 2) := by decide +kernel
theorem dX11_side_18 : decode cX11_side 18 = .ok (.if_icmp .le 5, 3) := by decide +kernel
theorem dX11_side_21 : decode cX11_side 21 = .ok (.iconst (-1), 1) := by decide +kernel
theorem dX11_side_22 : decode cX11_side 22 = .ok (.ireturn, 1) := by decide +kernel
theorem dX11_side_23 : decode cX11_side 23 = .ok (.aload_n 0, 1) := by decide +kernel
theorem dX11_side_24 : decode cX11_side 24 = .ok (.getfield 9, 3) := by decide +kernel
theorem dX11_side_27 : decode cX11_side 27 = .ok (.aload_n 0, 1) := by decide +kernel
theorem dX11_side_28 : decode cX11_side 28 = .ok (.getfield 60, 3) := by decide +kernel
theorem dX11_side_31 : decode cX11_side 31 = .ok (.iload_n 1, 1) := by decide +kernel
theorem dX11_side_32 : decode cX11_side 32 = .ok (.iastore, 1) := by decide +kernel
theorem dX11_side_33 : decode cX11_side 33 = .ok (.aload_n 0, 1) := by decide +kernel
theorem dX11_side_34 : decode cX11_side 34 = .ok (.dup, 1) := by decide +kernel
theorem dX11_side_35 : decode cX11_side 35 = .ok (.getfield 60, 3) := by decide +kernel
theorem dX11_side_38 : decode cX11_side 38 = .ok (.iconst 1, 1) := by decide +kernel
theorem dX11_side_39 : decode cX11_side 39 = .ok (.iadd, 1) := by decide +kernel
theorem dX11_side_40 : decode cX11_side 40 = .ok (.putfield 60, 3) := by decide +kernel
theorem dX11_side_43 : decode cX11_side 43 = .ok (.aload_n 0, 1) := by decide +kernel
theorem dX11_side_44 : decode cX11_side 44 = .ok (.iconst 1, 1) := by decide +kernel
theorem dX11_side_45 : decode cX11_side 45 = .ok (.putfield 70, 3) := by decide +kernel
theorem dX11_side_48 : decode cX11_side 48 = .ok (.aload_n 0, 1) := by decide +kernel
theorem dX11_side_49 : decode cX11_side 49 = .ok (.getfield 60, 3) := by decide +kernel
theorem dX11_side_52 : decode cX11_side 52 = .ok (.iconst 1, 1) := by decide +kernel
theorem dX11_side_53 : decode cX11_side 53 = .ok (.isub, 1) := by decide +kernel
theorem dX11_side_54 : decode cX11_side 54 = .ok (.ireturn, 1) := by decide +kernel
theorem dX11_player_0 : decode cX11_player 0 = .ok (.aload_n 0, 1) := by decide +kernel
theorem dX11_player_1 : decode cX11_player 1 = .ok (.iload_n 1, 1) := by decide +kernel
theorem dX11_player_2 : decode cX11_player 2 = .ok (.invokevirtual 74, 3) := by decide +kernel
