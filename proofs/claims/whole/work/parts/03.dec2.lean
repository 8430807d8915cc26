theorem dX12_playOver_353 : decode cX12_playOver 353 = .ok (.goto 21, 3) := by decide +kernel
theorem dX12_playOver_356 : decode cX12_playOver 356 = .ok (.aload_n 0, 1) := by decide +kernel
theorem dX12_playOver_357 : decode cX12_playOver 357 = .ok (.iload_n 1, 1) := by decide +kernel
theorem dX12_playOver_358 : decode cX12_playOver 358 = .ok (.iload_n 2, 1) := by decide +kernel
theorem dX12_playOver_359 : decode cX12_playOver 359 = .ok (.iload 4, 2) := by decide +kernel
theorem dX12_playOver_361 : decode cX12_playOver 361 = .ok (.iload 8, 2) := by decide +kernel
theorem dX12_playOver_363 : decode cX12_playOver 363 = .ok (.bipush 16, 2) := by decide +kernel
theorem dX12_playOver_365 : decode cX12_playOver 365 = .ok (.idiv, 1) := by decide +kernel
theorem dX12_playOver_366 : decode cX12_playOver 366 = .ok (.iload 8, 2) := by decide +kernel
theorem dX12_playOver_368 : decode cX12_playOver 368 = .ok (.bipush 16, 2) := by decide +kernel
theorem dX12_playOver_370 : decode cX12_playOver 370 = .ok (.irem, 1) := by decide +kernel
theorem dX12_playOver_371 : decode cX12_playOver 371 = .ok (.invokevirtual 261, 3) := by decide +kernel
theorem dX12_playOver_374 : decode cX12_playOver 374 = .ok (.iinc 7 1, 3) := by decide +kernel
theorem dX12_playOver_377 : decode cX12_playOver 377 = .ok (.goto (-93), 3) := by decide +kernel
theorem dX12_playOver_380 : decode cX12_playOver 380 = .ok (.return_, 1) := by decide +kernel
theorem dX12_isEntry_0 : decode cX12_isEntry 0 = .ok (.iload_n 0, 1) := by decide +kernel
theorem dX12_isEntry_1 : decode cX12_isEntry 1 = .ok (.tableswitch 138 0 9 #[55, 67, 55, 78, 89, 138, 101, 138, 117, 128], 55) := by decide +kernel
theorem dX12_isEntry_56 : decode cX12_isEntry 56 = .ok (.iload_n 1, 1) := by decide +kernel
theorem dX12_isEntry_57 : decode cX12_isEntry 57 = .ok (.bipush 6, 2) := by decide +kernel
theorem dX12_isEntry_59 : decode cX12_isEntry 59 = .ok (.if_icmp .gt 7, 3) := by decide +kernel
theorem dX12_isEntry_62 : decode cX12_isEntry 62 = .ok (.iconst 1, 1) := by decide +kernel
theorem dX12_isEntry_63 : decode cX12_isEntry 63 = .ok (.goto 4, 3) := by decide +kernel
theorem dX12_isEntry_66 : decode cX12_isEntry 66 = .ok (.iconst 0, 1) := by decide +kernel
theorem dX12_isEntry_67 : decode cX12_isEntry 67 = .ok (.ireturn, 1) := by decide +kernel
theorem dX12_isEntry_68 : decode cX12_isEntry 68 = .ok (.iload_n 1, 1) := by decide +kernel
theorem dX12_isEntry_69 : decode cX12_isEntry 69 = .ok (.iconst 4, 1) := by decide +kernel
theorem dX12_isEntry_70 : decode cX12_isEntry 70 = .ok (.if_icmp .gt 7, 3) := by decide +kernel
theorem dX12_isEntry_73 : decode cX12_isEntry 73 = .ok (.iconst 1, 1) := by decide +kernel
theorem dX12_isEntry_74 : decode cX12_isEntry 74 = .ok (.goto 4, 3) := by decide +kernel
theorem dX12_isEntry_77 : decode cX12_isEntry 77 = .ok (.iconst 0, 1) := by decide +kernel
theorem dX12_isEntry_78 : decode cX12_isEntry 78 = .ok (.ireturn, 1) := by decide +kernel
theorem dX12_isEntry_79 : decode cX12_isEntry 79 = .ok (.iload_n 1, 1) := by decide +kernel
theorem dX12_isEntry_80 : decode cX12_isEntry 80 = .ok (.iconst 3, 1) := by decide +kernel
theorem dX12_isEntry_81 : decode cX12_isEntry 81 = .ok (.if_icmp .gt 7, 3) := by decide +kernel
theorem dX12_isEntry_84 : decode cX12_isEntry 84 = .ok (.iconst 1, 1) := by decide +kernel
theorem dX12_isEntry_85 : decode cX12_isEntry 85 = .ok (.goto 4, 3) := by decide +kernel
theorem dX12_isEntry_88 : decode cX12_isEntry 88 = .ok (.iconst 0, 1) := by decide +kernel
theorem dX12_isEntry_89 : decode cX12_isEntry 89 = .ok (.ireturn, 1) := by decide +kernel
theorem dX12_isEntry_90 : decode cX12_isEntry 90 = .ok (.iload_n 1, 1) := by decide +kernel
theorem dX12_isEntry_91 : decode cX12_isEntry 91 = .ok (.bipush 7, 2) := by decide +kernel
theorem dX12_isEntry_93 : decode cX12_isEntry 93 = .ok (.if_icmp .gt 7, 3) := by decide +kernel
theorem dX12_isEntry_96 : decode cX12_isEntry 96 = .ok (.iconst 1, 1) := by decide +kernel
theorem dX12_isEntry_97 : decode cX12_isEntry 97 = .ok (.goto 4, 3) := by decide +kernel
theorem dX12_isEntry_100 : decode cX12_isEntry 100 = .ok (.iconst 0, 1) := by decide +kernel
theorem dX12_isEntry_101 : decode cX12_isEntry 101 = .ok (.ireturn, 1) := by decide +kernel
theorem dX12_isEntry_102 : decode cX12_isEntry 102 = .ok (.iload_n 1, 1) := by decide +kernel
theorem dX12_isEntry_103 : decode cX12_isEntry 103 = .ok (.iconst 1, 1) := by decide +kernel
theorem dX12_isEntry_104 : decode cX12_isEntry 104 = .ok (.if_icmp .lt 12, 3) := by decide +kernel
theorem dX12_isEntry_107 : decode cX12_isEntry 107 = .ok (.iload_n 1, 1) := by decide +kernel
theorem dX12_isEntry_108 : decode cX12_isEntry 108 = .ok (.iconst 4, 1) := by decide +kernel
theorem dX12_isEntry_109 : decode cX12_isEntry 109 = .ok (.if_icmp .gt 7, 3) := by decide +kernel
theorem dX12_isEntry_112 : decode cX12_isEntry 112 = .ok (.iconst 1, 1) := by decide +kernel
theorem dX12_isEntry_113 : decode cX12_isEntry 113 = .ok (.goto 4, 3) := by decide +kernel
theorem dX12_isEntry_116 : decode cX12_isEntry 116 = .ok (.iconst 0, 1) := by decide +kernel
theorem dX12_isEntry_117 : decode cX12_isEntry 117 = .ok (.ireturn, 1) := by decide +kernel
theorem dX12_isEntry_118 : decode cX12_isEntry 118 = .ok (.iload_n 1, 1) := by decide +kernel
theorem dX12_isEntry_119 : decode cX12_isEntry 119 = .ok (.iconst 1, 1) := by decide +kernel
theorem dX12_isEntry_120 : decode cX12_isEntry 120 = .ok (.if_icmp .lt 7, 3) := by decide +kernel
theorem dX12_isEntry_123 : decode cX12_isEntry 123 = .ok (.iconst 1, 1) := by decide +kernel
theorem dX12_isEntry_124 : decode cX12_isEntry 124 = .ok (.goto 4, 3) := by decide +kernel
theorem dX12_isEntry_127 : decode cX12_isEntry 127 = .ok (.iconst 0, 1) := by decide +kernel
theorem dX12_isEntry_128 : decode cX12_isEntry 128 = .ok (.ireturn, 1) := by decide +kernel
theorem dX12_isEntry_129 : decode cX12_isEntry 129 = .ok (.iload_n 1, 1) := by decide +kernel
theorem dX12_isEntry_130 : decode cX12_isEntry 130 = .ok (.ifCond .ne 7, 3) := by decide +kernel
theorem dX12_isEntry_133 : decode cX12_isEntry 133 = .ok (.iconst 1, 1) := by decide +kernel
theorem dX12_isEntry_134 : decode cX12_isEntry 134 = .ok (.goto 4, 3) := by decide +kernel
theorem dX12_isEntry_137 : decode cX12_isEntry 137 = .ok (.iconst 0, 1) := by decide +kernel
theorem dX12_isEntry_138 : decode cX12_isEntry 138 = .ok (.ireturn, 1) := by decide +kernel
theorem dX12_isEntry_139 : decode cX12_isEntry 139 = .ok (.iload_n 0, 1) := by decide +kernel
theorem dX12_isEntry_140 : decode cX12_isEntry 140 = .ok (.iconst 5, 1) := by decide +kernel
theorem dX12_isEntry_141 : decode cX12_isEntry 141 = .ok (.if_icmp .eq 9, 3) := by decide +kernel
theorem dX12_isEntry_144 : decode cX12_isEntry 144 = .ok (.iload_n 0, 1) := by decide +kernel
theorem dX12_isEntry_145 : decode cX12_isEntry 145 = .ok (.bipush 7, 2) := by decide +kernel
theorem dX12_isEntry_147 : decode cX12_isEntry 147 = .ok (.if_icmp .ne 7, 3) := by decide +kernel
theorem dX12_isEntry_150 : decode cX12_isEntry 150 = .ok (.iconst 1, 1) := by decide +kernel
theorem dX12_isEntry_151 : decode cX12_isEntry 151 = .ok (.goto 4, 3) := by decide +kernel
theorem dX12_isEntry_154 : decode cX12_isEntry 154 = .ok (.iconst 0, 1) := by decide +kernel
theorem dX12_isEntry_155 : decode cX12_isEntry 155 = .ok (.ireturn, 1) := by decide +kernel
theorem dX12_counts_0 : decode cX12_counts 0 = .ok (.iload_n 0, 1) := by decide +kernel
theorem dX12_counts_1 : decode cX12_counts 1 = .ok (.ifCond .eq 19, 3) := by decide +kernel
theorem dX12_counts_4 : decode cX12_counts 4 = .ok (.iload_n 0, 1) := by decide +kernel
theorem dX12_counts_5 : decode cX12_counts 5 = .ok (.iconst 3, 1) := by decide +kernel
theorem dX12_counts_6 : decode cX12_counts 6 = .ok (.if_icmp .eq 14, 3) := by decide +kernel
theorem dX12_counts_9 : decode cX12_counts 9 = .ok (.iload_n 0, 1) := by decide +kernel
theorem dX12_counts_10 : decode cX12_counts 10 = .ok (.iconst 4, 1) := by decide +kernel
theorem dX12_counts_11 : decode cX12_counts 11 = .ok (.if_icmp .eq 9, 3) := by decide +kernel
theorem dX12_counts_14 : decode cX12_counts 14 = .ok (.iload_n 0, 1) := by decide +kernel
theorem dX12_counts_15 : decode cX12_counts 15 = .ok (.bipush 6, 2) := by decide +kernel
theorem dX12_counts_17 : decode cX12_counts 17 = .ok (.if_icmp .ne 7, 3) := by decide +kernel
theorem dX12_counts_20 : decode cX12_counts 20 = .ok (.iconst 1, 1) := by decide +kernel
theorem dX12_counts_21 : decode cX12_counts 21 = .ok (.goto 4, 3) := by decide +kernel
theorem dX12_counts_24 : decode cX12_counts 24 = .ok (.iconst 0, 1) := by decide +kernel
theorem dX12_counts_25 : decode cX12_counts 25 = .ok (.ireturn, 1) := by decide +kernel
theorem dX12_against_0 : decode cX12_against 0 = .ok (.iload 4, 2) := by decide +kernel
theorem dX12_against_2 : decode cX12_against 2 = .ok (.iload 5, 2) := by decide +kernel
theorem dX12_against_4 : decode cX12_against 4 = .ok (.invokestatic 265, 3) := by decide +kernel
theorem dX12_against_7 : decode cX12_against 7 = .ok (.ifCond .ne 6, 3) := by decide +kernel
theorem dX12_against_10 : decode cX12_against 10 = .ok (.bipush 7, 2) := by decide +kernel
theorem dX12_against_12 : decode cX12_against 12 = .ok (.ireturn, 1) := by decide +kernel
theorem dX12_against_13 : decode cX12_against 13 = .ok (.aload_n 0, 1) := by decide +kernel
theorem dX12_against_14 : decode cX12_against 14 = .ok (.getfield 90, 3) := by decide +kernel
theorem dX12_against_17 : decode cX12_against 17 = .ok (.iload_n 2, 1) := by decide +kernel
theorem dX12_against_18 : decode cX12_against 18 = .ok (.iaload, 1) := by decide +kernel
theorem dX12_against_19 : decode cX12_against 19 = .ok (.ifCond .eq 6, 3) := by decide +kernel
theorem dX12_against_22 : decode cX12_against 22 = .ok (.bipush 8, 2) := by decide +kernel
theorem dX12_against_24 : decode cX12_against 24 = .ok (.ireturn, 1) := by decide +kernel
theorem dX12_against_25 : decode cX12_against 25 = .ok (.aload_n 0, 1) := by decide +kernel
theorem dX12_against_26 : decode cX12_against 26 = .ok (.getfield 154, 3) := by decide +kernel
theorem dX12_against_29 : decode cX12_against 29 = .ok (.iload_n 3, 1) := by decide +kernel
theorem dX12_against_30 : decode cX12_against 30 = .ok (.baload, 1) := by decide +kernel
theorem dX12_against_31 : decode cX12_against 31 = .ok (.ifCond .eq 26, 3) := by decide +kernel
theorem dX12_against_34 : decode cX12_against 34 = .ok (.iload 4, 2) := by decide +kernel
theorem dX12_against_36 : decode cX12_against 36 = .ok (.invokestatic 269, 3) := by decide +kernel
theorem dX12_against_39 : decode cX12_against 39 = .ok (.ifCond .ne 15, 3) := by decide +kernel
theorem dX12_against_42 : decode cX12_against 42 = .ok (.iload 4, 2) := by decide +kernel
theorem dX12_against_44 : decode cX12_against 44 = .ok (.iconst 1, 1) := by decide +kernel
theorem dX12_against_45 : decode cX12_against 45 = .ok (.if_icmp .eq 9, 3) := by decide +kernel
theorem dX12_against_48 : decode cX12_against 48 = .ok (.iload 4, 2) := by decide +kernel
theorem dX12_against_50 : decode cX12_against 50 = .ok (.iconst 2, 1) := by decide +kernel
theorem dX12_against_51 : decode cX12_against 51 = .ok (.if_icmp .ne 6, 3) := by decide +kernel
theorem dX12_against_54 : decode cX12_against 54 = .ok (.bipush 9, 2) := by decide +kernel
theorem dX12_against_56 : decode cX12_against 56 = .ok (.ireturn, 1) := by decide +kernel
theorem dX12_against_57 : decode cX12_against 57 = .ok (.iload 4, 2) := by decide +kernel
theorem dX12_against_59 : decode cX12_against 59 = .ok (.bipush 8, 2) := by decide +kernel
theorem dX12_against_61 : decode cX12_against 61 = .ok (.if_icmp .ne 36, 3) := by decide +kernel
theorem dX12_against_64 : decode cX12_against 64 = .ok (.aload_n 0, 1) := by decide +kernel
theorem dX12_against_65 : decode cX12_against 65 = .ok (.getfield 19, 3) := by decide +kernel
theorem dX12_against_68 : decode cX12_against 68 = .ok (.iload_n 1, 1) := by decide +kernel
theorem dX12_against_69 : decode cX12_against 69 = .ok (.iaload, 1) := by decide +kernel
theorem dX12_against_70 : decode cX12_against 70 = .ok (.iconst 2, 1) := by decide +kernel
theorem dX12_against_71 : decode cX12_against 71 = .ok (.if_icmp .eq 21, 3) := by decide +kernel
theorem dX12_against_74 : decode cX12_against 74 = .ok (.aload_n 0, 1) := by decide +kernel
theorem dX12_against_75 : decode cX12_against 75 = .ok (.getfield 87, 3) := by decide +kernel
theorem dX12_against_78 : decode cX12_against 78 = .ok (.iload_n 2, 1) := by decide +kernel
theorem dX12_against_79 : decode cX12_against 79 = .ok (.iaload, 1) := by decide +kernel
theorem dX12_against_80 : decode cX12_against 80 = .ok (.iload 5, 2) := by decide +kernel
theorem dX12_against_82 : decode cX12_against 82 = .ok (.isub, 1) := by decide +kernel
theorem dX12_against_83 : decode cX12_against 83 = .ok (.aload_n 0, 1) := by decide +kernel
theorem dX12_against_84 : decode cX12_against 84 = .ok (.getfield 99, 3) := by decide +kernel
theorem dX12_against_87 : decode cX12_against 87 = .ok (.iload_n 2, 1) := by decide +kernel
theorem dX12_against_88 : decode cX12_against 88 = .ok (.iaload, 1) := by decide +kernel
theorem dX12_against_89 : decode cX12_against 89 = .ok (.if_icmp .ge 8, 3) := by decide +kernel
theorem dX12_against_92 : decode cX12_against 92 = .ok (.bipush 10, 2) := by decide +kernel
theorem dX12_against_94 : decode cX12_against 94 = .ok (.goto 4, 3) := by decide +kernel
theorem dX12_against_97 : decode cX12_against 97 = .ok (.iconst 0, 1) := by decide +kernel
theorem dX12_against_98 : decode cX12_against 98 = .ok (.ireturn, 1) := by decide +kernel
theorem dX12_hit_0 : decode cX12_hit 0 = .ok (.aload_n 0, 1) := by decide +kernel
theorem dX12_hit_1 : decode cX12_hit 1 = .ok (.getfield 127, 3) := by decide +kernel
theorem dX12_hit_4 : decode cX12_hit 4 = .ok (.bipush 11, 2) := by decide +kernel
theorem dX12_hit_6 : decode cX12_hit 6 = .ok (.iload_n 1, 1) := by decide +kernel
theorem dX12_hit_7 : decode cX12_hit 7 = .ok (.imul, 1) := by decide +kernel
theorem dX12_hit_8 : decode cX12_hit 8 = .ok (.aload_n 0, 1) := by decide +kernel
theorem dX12_hit_9 : decode cX12_hit 9 = .ok (.getfield 102, 3) := by decide +kernel
theorem dX12_hit_12 : decode cX12_hit 12 = .ok (.iload_n 1, 1) := by decide +kernel
theorem dX12_hit_13 : decode cX12_hit 13 = .ok (.iaload, 1) := by decide +kernel
theorem dX12_hit_14 : decode cX12_hit 14 = .ok (.iadd, 1) := by decide +kernel
theorem dX12_hit_15 : decode cX12_hit 15 = .ok (.dup2, 1) := by decide +kernel
theorem dX12_hit_16 : decode cX12_hit 16 = .ok (.iaload, 1) := by decide +kernel
theorem dX12_hit_17 : decode cX12_hit 17 = .ok (.iload_n 3, 1) := by decide +kernel
theorem dX12_hit_18 : decode cX12_hit 18 = .ok (.iadd, 1) := by decide +kernel
theorem dX12_hit_19 : decode cX12_hit 19 = .ok (.iastore, 1) := by decide +kernel
theorem dX12_hit_20 : decode cX12_hit 20 = .ok (.aload_n 0, 1) := by decide +kernel
theorem dX12_hit_21 : decode cX12_hit 21 = .ok (.getfield 139, 3) := by decide +kernel
theorem dX12_hit_24 : decode cX12_hit 24 = .ok (.bipush 11, 2) := by decide +kernel
theorem dX12_hit_26 : decode cX12_hit 26 = .ok (.iload_n 1, 1) := by decide +kernel
theorem dX12_hit_27 : decode cX12_hit 27 = .ok (.imul, 1) := by decide +kernel
theorem dX12_hit_28 : decode cX12_hit 28 = .ok (.aload_n 0, 1) := by decide +kernel
theorem dX12_hit_29 : decode cX12_hit 29 = .ok (.getfield 120, 3) := by decide +kernel
theorem dX12_hit_32 : decode cX12_hit 32 = .ok (.iload_n 1, 1) := by decide +kernel
theorem dX12_hit_33 : decode cX12_hit 33 = .ok (.iaload, 1) := by decide +kernel
theorem dX12_hit_34 : decode cX12_hit 34 = .ok (.iadd, 1) := by decide +kernel
theorem dX12_hit_35 : decode cX12_hit 35 = .ok (.dup2, 1) := by decide +kernel
theorem dX12_hit_36 : decode cX12_hit 36 = .ok (.iaload, 1) := by decide +kernel
theorem dX12_hit_37 : decode cX12_hit 37 = .ok (.iload_n 3, 1) := by decide +kernel
theorem dX12_hit_38 : decode cX12_hit 38 = .ok (.iadd, 1) := by decide +kernel
theorem dX12_hit_39 : decode cX12_hit 39 = .ok (.iastore, 1) := by decide +kernel
theorem dX12_hit_40 : decode cX12_hit 40 = .ok (.aload_n 0, 1) := by decide +kernel
theorem dX12_hit_41 : decode cX12_hit 41 = .ok (.iload_n 1, 1) := by decide +kernel
theorem dX12_hit_42 : decode cX12_hit 42 = .ok (.iload_n 2, 1) := by decide +kernel
theorem dX12_hit_43 : decode cX12_hit 43 = .ok (.iload_n 3, 1) := by decide +kernel
theorem dX12_hit_44 : decode cX12_hit 44 = .ok (.invokevirtual 272, 3) := by decide +kernel
theorem dX12_hit_47 : decode cX12_hit 47 = .ok (.return_, 1) := by decide +kernel
theorem dX12_adds_0 : decode cX12_adds 0 = .ok (.aload_n 0, 1) := by decide +kernel
theorem dX12_adds_1 : decode cX12_adds 1 = .ok (.getfield 72, 3) := by decide +kernel
theorem dX12_adds_4 : decode cX12_adds 4 = .ok (.iload_n 1, 1) := by decide +kernel
theorem dX12_adds_5 : decode cX12_adds 5 = .ok (.dup2, 1) := by decide +kernel
theorem dX12_adds_6 : decode cX12_adds 6 = .ok (.iaload, 1) := by decide +kernel
theorem dX12_adds_7 : decode cX12_adds 7 = .ok (.iload_n 3, 1) := by decide +kernel
theorem dX12_adds_8 : decode cX12_adds 8 = .ok (.iadd, 1) := by decide +kernel
theorem dX12_adds_9 : decode cX12_adds 9 = .ok (.iastore, 1) := by decide +kernel
theorem dX12_adds_10 : decode cX12_adds 10 = .ok (.aload_n 0, 1) := by decide +kernel
theorem dX12_adds_11 : decode cX12_adds 11 = .ok (.getfield 145, 3) := by decide +kernel
theorem dX12_adds_14 : decode cX12_adds 14 = .ok (.iload_n 2, 1) := by decide +kernel
theorem dX12_adds_15 : decode cX12_adds 15 = .ok (.dup2, 1) := by decide +kernel
theorem dX12_adds_16 : decode cX12_adds 16 = .ok (.iaload, 1) := by decide +kernel
theorem dX12_adds_17 : decode cX12_adds 17 = .ok (.iload_n 3, 1) := by decide +kernel
theorem dX12_adds_18 : decode cX12_adds 18 = .ok (.iadd, 1) := by decide +kernel
theorem dX12_adds_19 : decode cX12_adds 19 = .ok (.iastore, 1) := by decide +kernel
theorem dX12_adds_20 : decode cX12_adds 20 = .ok (.return_, 1) := by decide +kernel
theorem dX12_crosses_0 : decode cX12_crosses 0 = .ok (.iload_n 2, 1) := by decide +kernel
theorem dX12_crosses_1 : decode cX12_crosses 1 = .ok (.iconst 2, 1) := by decide +kernel
theorem dX12_crosses_2 : decode cX12_crosses 2 = .ok (.irem, 1) := by decide +kernel
theorem dX12_crosses_3 : decode cX12_crosses 3 = .ok (.iconst 1, 1) := by decide +kernel
theorem dX12_crosses_4 : decode cX12_crosses 4 = .ok (.if_icmp .ne 8, 3) := by decide +kernel
theorem dX12_crosses_7 : decode cX12_crosses 7 = .ok (.aload_n 0, 1) := by decide +kernel
theorem dX12_crosses_8 : decode cX12_crosses 8 = .ok (.iload_n 1, 1) := by decide +kernel
theorem dX12_crosses_9 : decode cX12_crosses 9 = .ok (.invokevirtual 251, 3) := by decide +kernel
theorem dX12_crosses_12 : decode cX12_crosses 12 = .ok (.return_, 1) := by decide +kernel
theorem dX12_leaves_0 : decode cX12_leaves 0 = .ok (.iload_n 3, 1) := by decide +kernel
theorem dX12_leaves_1 : decode cX12_leaves 1 = .ok (.ifCond .eq 12, 3) := by decide +kernel
theorem dX12_leaves_4 : decode cX12_leaves 4 = .ok (.aload_n 0, 1) := by decide +kernel
theorem dX12_leaves_5 : decode cX12_leaves 5 = .ok (.getfield 102, 3) := by decide +kernel
theorem dX12_leaves_8 : decode cX12_leaves 8 = .ok (.iload_n 1, 1) := by decide +kernel
theorem dX12_leaves_9 : decode cX12_leaves 9 = .ok (.iaload, 1) := by decide +kernel
theorem dX12_leaves_10 : decode cX12_leaves 10 = .ok (.goto 9, 3) := by decide +kernel
theorem dX12_leaves_13 : decode cX12_leaves 13 = .ok (.aload_n 0, 1) := by decide +kernel
theorem dX12_leaves_14 : decode cX12_leaves 14 = .ok (.getfield 105, 3) := by decide +kernel
theorem dX12_leaves_17 : decode cX12_leaves 17 = .ok (.iload_n 1, 1) := by decide +kernel
theorem dX12_leaves_18 : decode cX12_leaves 18 = .ok (.iaload, 1) := by decide +kernel
theorem dX12_leaves_19 : decode cX12_leaves 19 = .ok (.istore 5, 2) := by decide +kernel
theorem dX12_leaves_21 : decode cX12_leaves 21 = .ok (.aload_n 0, 1) := by decide +kernel
theorem dX12_leaves_22 : decode cX12_leaves 22 = .ok (.getfield 133, 3) := by decide +kernel
theorem dX12_leaves_25 : decode cX12_leaves 25 = .ok (.bipush 11, 2) := by decide +kernel
theorem dX12_leaves_27 : decode cX12_leaves 27 = .ok (.iload_n 1, 1) := by decide +kernel
theorem dX12_leaves_28 : decode cX12_leaves 28 = .ok (.imul, 1) := by decide +kernel
theorem dX12_leaves_29 : decode cX12_leaves 29 = .ok (.iload 5, 2) := by decide +kernel
theorem dX12_leaves_31 : decode cX12_leaves 31 = .ok (.iadd, 1) := by decide +kernel
theorem dX12_leaves_32 : decode cX12_leaves 32 = .ok (.iload 4, 2) := by decide +kernel
theorem dX12_leaves_34 : decode cX12_leaves 34 = .ok (.iastore, 1) := by decide +kernel
theorem dX12_leaves_35 : decode cX12_leaves 35 = .ok (.aload_n 0, 1) := by decide +kernel
theorem dX12_leaves_36 : decode cX12_leaves 36 = .ok (.getfield 75, 3) := by decide +kernel
theorem dX12_leaves_39 : decode cX12_leaves 39 = .ok (.iload_n 1, 1) := by decide +kernel
theorem dX12_leaves_40 : decode cX12_leaves 40 = .ok (.dup2, 1) := by decide +kernel
theorem dX12_leaves_41 : decode cX12_leaves 41 = .ok (.iaload, 1) := by decide +kernel
theorem dX12_leaves_42 : decode cX12_leaves 42 = .ok (.iconst 1, 1) := by decide +kernel
theorem dX12_leaves_43 : decode cX12_leaves 43 = .ok (.iadd, 1) := by decide +kernel
theorem dX12_leaves_44 : decode cX12_leaves 44 = .ok (.iastore, 1) := by decide +kernel
theorem dX12_leaves_45 : decode cX12_leaves 45 = .ok (.aload_n 0, 1) := by decide +kernel
theorem dX12_leaves_46 : decode cX12_leaves 46 = .ok (.getfield 148, 3) := by decide +kernel
theorem dX12_leaves_49 : decode cX12_leaves 49 = .ok (.iload_n 2, 1) := by decide +kernel
theorem dX12_leaves_50 : decode cX12_leaves 50 = .ok (.dup2, 1) := by decide +kernel
theorem dX12_leaves_51 : decode cX12_leaves 51 = .ok (.iaload, 1) := by decide +kernel
theorem dX12_leaves_52 : decode cX12_leaves 52 = .ok (.iconst 1, 1) := by decide +kernel
theorem dX12_leaves_53 : decode cX12_leaves 53 = .ok (.iadd, 1) := by decide +kernel
theorem dX12_leaves_54 : decode cX12_leaves 54 = .ok (.iastore, 1) := by decide +kernel
theorem dX12_leaves_55 : decode cX12_leaves 55 = .ok (.iconst (-1), 1) := by decide +kernel
theorem dX12_leaves_56 : decode cX12_leaves 56 = .ok (.istore 6, 2) := by decide +kernel
theorem dX12_leaves_58 : decode cX12_leaves 58 = .ok (.aload_n 0, 1) := by decide +kernel
theorem dX12_leaves_59 : decode cX12_leaves 59 = .ok (.getfield 75, 3) := by decide +kernel
theorem dX12_leaves_62 : decode cX12_leaves 62 = .ok (.iload_n 1, 1) := by decide +kernel
theorem dX12_leaves_63 : decode cX12_leaves 63 = .ok (.iaload, 1) := by decide +kernel
theorem dX12_leaves_64 : decode cX12_leaves 64 = .ok (.bipush 10, 2) := by decide +kernel
theorem dX12_leaves_66 : decode cX12_leaves 66 = .ok (.if_icmp .ge 34, 3) := by decide +kernel
theorem dX12_leaves_69 : decode cX12_leaves 69 = .ok (.aload_n 0, 1) := by decide +kernel
theorem dX12_leaves_70 : decode cX12_leaves 70 = .ok (.getfield 108, 3) := by decide +kernel
theorem dX12_leaves_73 : decode cX12_leaves 73 = .ok (.iload_n 1, 1) := by decide +kernel
theorem dX12_leaves_74 : decode cX12_leaves 74 = .ok (.iaload, 1) := by decide +kernel
theorem dX12_leaves_75 : decode cX12_leaves 75 = .ok (.istore 6, 2) := by decide +kernel
theorem dX12_leaves_77 : decode cX12_leaves 77 = .ok (.aload_n 0, 1) := by decide +kernel
theorem dX12_leaves_78 : decode cX12_leaves 78 = .ok (.getfield 108, 3) := by decide +kernel
theorem dX12_leaves_81 : decode cX12_leaves 81 = .ok (.iload_n 1, 1) := by decide +kernel
theorem dX12_leaves_82 : decode cX12_leaves 82 = .ok (.dup2, 1) := by decide +kernel
theorem dX12_leaves_83 : decode cX12_leaves 83 = .ok (.iaload, 1) := by decide +kernel
theorem dX12_leaves_84 : decode cX12_leaves 84 = .ok (.iconst 1, 1) := by decide +kernel
theorem dX12_leaves_85 : decode cX12_leaves 85 = .ok (.iadd, 1) := by decide +kernel
theorem dX12_leaves_86 : decode cX12_leaves 86 = .ok (.iastore, 1) := by decide +kernel
theorem dX12_leaves_87 : decode cX12_leaves 87 = .ok (.aload_n 0, 1) := by decide +kernel
theorem dX12_leaves_88 : decode cX12_leaves 88 = .ok (.getfield 133, 3) := by decide +kernel
theorem dX12_leaves_91 : decode cX12_leaves 91 = .ok (.bipush 11, 2) := by decide +kernel
theorem dX12_leaves_93 : decode cX12_leaves 93 = .ok (.iload_n 1, 1) := by decide +kernel
theorem dX12_leaves_94 : decode cX12_leaves 94 = .ok (.imul, 1) := by decide +kernel
theorem dX12_leaves_95 : decode cX12_leaves 95 = .ok (.iload 6, 2) := by decide +kernel
theorem dX12_leaves_97 : decode cX12_leaves 97 = .ok (.iadd, 1) := by decide +kernel
theorem dX12_leaves_98 : decode cX12_leaves 98 = .ok (.iconst 1, 1) := by decide +kernel
theorem dX12_leaves_99 : decode cX12_leaves 99 = .ok (.iastore, 1) := by decide +kernel
theorem dX12_leaves_100 : decode cX12_leaves 100 = .ok (.iload_n 3, 1) := by decide +kernel
theorem dX12_leaves_101 : decode cX12_leaves 101 = .ok (.ifCond .eq 14, 3) := by decide +kernel
theorem dX12_leaves_104 : decode cX12_leaves 104 = .ok (.aload_n 0, 1) := by decide +kernel
theorem dX12_leaves_105 : decode cX12_leaves 105 = .ok (.getfield 102, 3) := by decide +kernel
theorem dX12_leaves_108 : decode cX12_leaves 108 = .ok (.iload_n 1, 1) := by decide +kernel
theorem dX12_leaves_109 : decode cX12_leaves 109 = .ok (.iload 6, 2) := by decide +kernel
theorem dX12_leaves_111 : decode cX12_leaves 111 = .ok (.iastore, 1) := by decide +kernel
theorem dX12_leaves_112 : decode cX12_leaves 112 = .ok (.goto 11, 3) := by decide +kernel
theorem dX12_leaves_115 : decode cX12_leaves 115 = .ok (.aload_n 0, 1) := by decide +kernel
theorem dX12_leaves_116 : decode cX12_leaves 116 = .ok (.getfield 105, 3) := by decide +kernel
theorem dX12_leaves_119 : decode cX12_leaves 119 = .ok (.iload_n 1, 1) := by decide +kernel
theorem dX12_leaves_120 : decode cX12_leaves 120 = .ok (.iload 6, 2) := by decide +kernel
theorem dX12_leaves_122 : decode cX12_leaves 122 = .ok (.iastore, 1) := by decide +kernel
theorem dX12_leaves_123 : decode cX12_leaves 123 = .ok (.return_, 1) := by decide +kernel
theorem dX12_playEntry_0 : decode cX12_playEntry 0 = .ok (.bipush 11, 2) := by decide +kernel
theorem dX12_playEntry_2 : decode cX12_playEntry 2 = .ok (.iload_n 2, 1) := by decide +kernel
theorem dX12_playEntry_3 : decode cX12_playEntry 3 = .ok (.imul, 1) := by decide +kernel
theorem dX12_playEntry_4 : decode cX12_playEntry 4 = .ok (.aload_n 0, 1) := by decide +kernel
theorem dX12_playEntry_5 : decode cX12_playEntry 5 = .ok (.getfield 102, 3) := by decide +kernel
theorem dX12_playEntry_8 : decode cX12_playEntry 8 = .ok (.iload_n 2, 1) := by decide +kernel
theorem dX12_playEntry_9 : decode cX12_playEntry 9 = .ok (.iaload, 1) := by decide +kernel
theorem dX12_playEntry_10 : decode cX12_playEntry 10 = .ok (.iadd, 1) := by decide +kernel
theorem dX12_playEntry_11 : decode cX12_playEntry 11 = .ok (.istore 6, 2) := by decide +kernel
theorem dX12_playEntry_13 : decode cX12_playEntry 13 = .ok (.iload 4, 2) := by decide +kernel
theorem dX12_playEntry_15 : decode cX12_playEntry 15 = .ok (.invokestatic 269, 3) := by decide +kernel
theorem dX12_playEntry_18 : decode cX12_playEntry 18 = .ok (.ifCond .ne 9, 3) := by decide +kernel
theorem dX12_playEntry_21 : decode cX12_playEntry 21 = .ok (.iload 4, 2) := by decide +kernel
theorem dX12_playEntry_23 : decode cX12_playEntry 23 = .ok (.iconst 2, 1) := by decide +kernel
theorem dX12_playEntry_24 : decode cX12_playEntry 24 = .ok (.if_icmp .ne 14, 3) := by decide +kernel
theorem dX12_playEntry_27 : decode cX12_playEntry 27 = .ok (.aload_n 0, 1) := by decide +kernel
theorem dX12_playEntry_28 : decode cX12_playEntry 28 = .ok (.getfield 130, 3) := by decide +kernel
theorem dX12_playEntry_31 : decode cX12_playEntry 31 = .ok (.iload 6, 2) := by decide +kernel
theorem dX12_playEntry_33 : decode cX12_playEntry 33 = .ok (.dup2, 1) := by decide +kernel
theorem dX12_playEntry_34 : decode cX12_playEntry 34 = .ok (.iaload, 1) := by decide +kernel
theorem dX12_playEntry_35 : decode cX12_playEntry 35 = .ok (.iconst 1, 1) := by decide +kernel
theorem dX12_playEntry_36 : decode cX12_playEntry 36 = .ok (.iadd, 1) := by decide +kernel
theorem dX12_playEntry_37 : decode cX12_playEntry 37 = .ok (.iastore, 1) := by decide +kernel
theorem dX12_playEntry_38 : decode cX12_playEntry 38 = .ok (.iload 4, 2) := by decide +kernel
theorem dX12_playEntry_40 : decode cX12_playEntry 40 = .ok (.tableswitch 381 0 8 #[52, 70, 134, 189, 233, 381, 285, 381, 325], 52) := by decide +kernel
theorem dX12_playEntry_92 : decode cX12_playEntry 92 = .ok (.aload_n 0, 1) := by decide +kernel
theorem dX12_playEntry_93 : decode cX12_playEntry 93 = .ok (.iload_n 2, 1) := by decide +kernel
theorem dX12_playEntry_94 : decode cX12_playEntry 94 = .ok (.iload_n 3, 1) := by decide +kernel
theorem dX12_playEntry_95 : decode cX12_playEntry 95 = .ok (.iload 5, 2) := by decide +kernel
theorem dX12_playEntry_97 : decode cX12_playEntry 97 = .ok (.invokevirtual 275, 3) := by decide +kernel
theorem dX12_playEntry_100 : decode cX12_playEntry 100 = .ok (.aload_n 0, 1) := by decide +kernel
theorem dX12_playEntry_101 : decode cX12_playEntry 101 = .ok (.iload_n 2, 1) := by decide +kernel
theorem dX12_playEntry_102 : decode cX12_playEntry 102 = .ok (.iload 5, 2) := by decide +kernel
theorem dX12_playEntry_104 : decode cX12_playEntry 104 = .ok (.invokevirtual 278, 3) := by decide +kernel
theorem dX12_playEntry_107 : decode cX12_playEntry 107 = .ok (.goto 314, 3) := by decide +kernel
theorem dX12_playEntry_110 : decode cX12_playEntry 110 = .ok (.aload_n 0, 1) := by decide +kernel
theorem dX12_playEntry_111 : decode cX12_playEntry 111 = .ok (.getfield 139, 3) := by decide +kernel
theorem dX12_playEntry_114 : decode cX12_playEntry 114 = .ok (.bipush 11, 2) := by decide +kernel
theorem dX12_playEntry_116 : decode cX12_playEntry 116 = .ok (.iload_n 2, 1) := by decide +kernel
theorem dX12_playEntry_117 : decode cX12_playEntry 117 = .ok (.imul, 1) := by decide +kernel
theorem dX12_playEntry_118 : decode cX12_playEntry 118 = .ok (.aload_n 0, 1) := by decide +kernel
theorem dX12_playEntry_119 : decode cX12_playEntry 119 = .ok (.getfield 120, 3) := by decide +kernel
theorem dX12_playEntry_122 : decode cX12_playEntry 122 = .ok (.iload_n 2, 1) := by decide +kernel
theorem dX12_playEntry_123 : decode cX12_playEntry 123 = .ok (.iaload, 1) := by decide +kernel
theorem dX12_playEntry_124 : decode cX12_playEntry 124 = .ok (.iadd, 1) := by decide +kernel
theorem dX12_playEntry_125 : decode cX12_playEntry 125 = .ok (.dup2, 1) := by decide +kernel
theorem dX12_playEntry_126 : decode cX12_playEntry 126 = .ok (.iaload, 1) := by decide +kernel
theorem dX12_playEntry_127 : decode cX12_playEntry 127 = .ok (.iconst 1, 1) := by decide +kernel
theorem dX12_playEntry_128 : decode cX12_playEntry 128 = .ok (.iadd, 1) := by decide +kernel
theorem dX12_playEntry_129 : decode cX12_playEntry 129 = .ok (.iastore, 1) := by decide +kernel
theorem dX12_playEntry_130 : decode cX12_playEntry 130 = .ok (.aload_n 0, 1) := by decide +kernel
theorem dX12_playEntry_131 : decode cX12_playEntry 131 = .ok (.getfield 111, 3) := by decide +kernel
theorem dX12_playEntry_134 : decode cX12_playEntry 134 = .ok (.iload_n 2, 1) := by decide +kernel
theorem dX12_playEntry_135 : decode cX12_playEntry 135 = .ok (.dup2, 1) := by decide +kernel
theorem dX12_playEntry_136 : decode cX12_playEntry 136 = .ok (.iaload, 1) := by decide +kernel
theorem dX12_playEntry_137 : decode cX12_playEntry 137 = .ok (.iload 5, 2) := by decide +kernel
theorem dX12_playEntry_139 : decode cX12_playEntry 139 = .ok (.iadd, 1) := by decide +kernel
theorem dX12_playEntry_140 : decode cX12_playEntry 140 = .ok (.iastore, 1) := by decide +kernel
theorem dX12_playEntry_141 : decode cX12_playEntry 141 = .ok (.aload_n 0, 1) := by decide +kernel
theorem dX12_playEntry_142 : decode cX12_playEntry 142 = .ok (.getfield 84, 3) := by decide +kernel
theorem dX12_playEntry_145 : decode cX12_playEntry 145 = .ok (.iload_n 2, 1) := by decide +kernel
theorem dX12_playEntry_146 : decode cX12_playEntry 146 = .ok (.dup2, 1) := by decide +kernel
theorem dX12_playEntry_147 : decode cX12_playEntry 147 = .ok (.iaload, 1) := by decide +kernel
theorem dX12_playEntry_148 : decode cX12_playEntry 148 = .ok (.iload 5, 2) := by decide +kernel
theorem dX12_playEntry_150 : decode cX12_playEntry 150 = .ok (.iconst 1, 1) := by decide +kernel
theorem dX12_playEntry_151 : decode cX12_playEntry 151 = .ok (.iadd, 1) := by decide +kernel
theorem dX12_playEntry_152 : decode cX12_playEntry 152 = .ok (.iadd, 1) := by decide +kernel
theorem dX12_playEntry_153 : decode cX12_playEntry 153 = .ok (.iastore, 1) := by decide +kernel
theorem dX12_playEntry_154 : decode cX12_playEntry 154 = .ok (.aload_n 0, 1) := by decide +kernel
theorem dX12_playEntry_155 : decode cX12_playEntry 155 = .ok (.iload_n 2, 1) := by decide +kernel
theorem dX12_playEntry_156 : decode cX12_playEntry 156 = .ok (.iload_n 3, 1) := by decide +kernel
theorem dX12_playEntry_157 : decode cX12_playEntry 157 = .ok (.iload 5, 2) := by decide +kernel
theorem dX12_playEntry_159 : decode cX12_playEntry 159 = .ok (.iconst 1, 1) := by decide +kernel
theorem dX12_playEntry_160 : decode cX12_playEntry 160 = .ok (.iadd, 1) := by decide +kernel
theorem dX12_playEntry_161 : decode cX12_playEntry 161 = .ok (.invokevirtual 272, 3) := by decide +kernel
theorem dX12_playEntry_164 : decode cX12_playEntry 164 = .ok (.aload_n 0, 1) := by decide +kernel
theorem dX12_playEntry_165 : decode cX12_playEntry 165 = .ok (.iload_n 2, 1) := by decide +kernel
theorem dX12_playEntry_166 : decode cX12_playEntry 166 = .ok (.iload 5, 2) := by decide +kernel
theorem dX12_playEntry_168 : decode cX12_playEntry 168 = .ok (.invokevirtual 278, 3) := by decide +kernel
theorem dX12_playEntry_171 : decode cX12_playEntry 171 = .ok (.goto 250, 3) := by decide +kernel
theorem dX12_playEntry_174 : decode cX12_playEntry 174 = .ok (.aload_n 0, 1) := by decide +kernel
theorem dX12_playEntry_175 : decode cX12_playEntry 175 = .ok (.iload_n 2, 1) := by decide +kernel
theorem dX12_playEntry_176 : decode cX12_playEntry 176 = .ok (.iload_n 3, 1) := by decide +kernel
theorem dX12_playEntry_177 : decode cX12_playEntry 177 = .ok (.iload 5, 2) := by decide +kernel
theorem dX12_playEntry_179 : decode cX12_playEntry 179 = .ok (.invokevirtual 275, 3) := by decide +kernel
theorem dX12_playEntry_182 : decode cX12_playEntry 182 = .ok (.aload_n 0, 1) := by decide +kernel
theorem dX12_playEntry_183 : decode cX12_playEntry 183 = .ok (.getfield 139, 3) := by decide +kernel
theorem dX12_playEntry_186 : decode cX12_playEntry 186 = .ok (.bipush 11, 2) := by decide +kernel
theorem dX12_playEntry_188 : decode cX12_playEntry 188 = .ok (.iload_n 2, 1) := by decide +kernel
theorem dX12_playEntry_189 : decode cX12_playEntry 189 = .ok (.imul, 1) := by decide +kernel
theorem dX12_playEntry_190 : decode cX12_playEntry 190 = .ok (.aload_n 0, 1) := by decide +kernel
theorem dX12_playEntry_191 : decode cX12_playEntry 191 = .ok (.getfield 120, 3) := by decide +kernel
theorem dX12_playEntry_194 : decode cX12_playEntry 194 = .ok (.iload_n 2, 1) := by decide +kernel
theorem dX12_playEntry_195 : decode cX12_playEntry 195 = .ok (.iaload, 1) := by decide +kernel
theorem dX12_playEntry_196 : decode cX12_playEntry 196 = .ok (.iadd, 1) := by decide +kernel
theorem dX12_playEntry_197 : decode cX12_playEntry 197 = .ok (.dup2, 1) := by decide +kernel
theorem dX12_playEntry_198 : decode cX12_playEntry 198 = .ok (.iaload, 1) := by decide +kernel
theorem dX12_playEntry_199 : decode cX12_playEntry 199 = .ok (.iconst 1, 1) := by decide +kernel
theorem dX12_playEntry_200 : decode cX12_playEntry 200 = .ok (.iadd, 1) := by decide +kernel
theorem dX12_playEntry_201 : decode cX12_playEntry 201 = .ok (.iastore, 1) := by decide +kernel
theorem dX12_playEntry_202 : decode cX12_playEntry 202 = .ok (.aload_n 0, 1) := by decide +kernel
theorem dX12_playEntry_203 : decode cX12_playEntry 203 = .ok (.getfield 84, 3) := by decide +kernel
theorem dX12_playEntry_206 : decode cX12_playEntry 206 = .ok (.iload_n 2, 1) := by decide +kernel
theorem dX12_playEntry_207 : decode cX12_playEntry 207 = .ok (.dup2, 1) := by decide +kernel
theorem dX12_playEntry_208 : decode cX12_playEntry 208 = .ok (.iaload, 1) := by decide +kernel
theorem dX12_playEntry_209 : decode cX12_playEntry 209 = .ok (.iconst 1, 1) := by decide +kernel
theorem dX12_playEntry_210 : decode cX12_playEntry 210 = .ok (.iadd, 1) := by decide +kernel
theorem dX12_playEntry_211 : decode cX12_playEntry 211 = .ok (.iastore, 1) := by decide +kernel
theorem dX12_playEntry_212 : decode cX12_playEntry 212 = .ok (.aload_n 0, 1) := by decide +kernel
theorem dX12_playEntry_213 : decode cX12_playEntry 213 = .ok (.iload_n 2, 1) := by decide +kernel
theorem dX12_playEntry_214 : decode cX12_playEntry 214 = .ok (.iload_n 3, 1) := by decide +kernel
theorem dX12_playEntry_215 : decode cX12_playEntry 215 = .ok (.iconst 1, 1) := by decide +kernel
theorem dX12_playEntry_216 : decode cX12_playEntry 216 = .ok (.invokevirtual 272, 3) := by decide +kernel
theorem dX12_playEntry_219 : decode cX12_playEntry 219 = .ok (.aload_n 0, 1) := by decide +kernel
theorem dX12_playEntry_220 : decode cX12_playEntry 220 = .ok (.iload_n 2, 1) := by decide +kernel
theorem dX12_playEntry_221 : decode cX12_playEntry 221 = .ok (.iload 5, 2) := by decide +kernel
theorem dX12_playEntry_223 : decode cX12_playEntry 223 = .ok (.invokevirtual 278, 3) := by decide +kernel
theorem dX12_playEntry_226 : decode cX12_playEntry 226 = .ok (.goto 195, 3) := by decide +kernel
theorem dX12_playEntry_229 : decode cX12_playEntry 229 = .ok (.aload_n 0, 1) := by decide +kernel
theorem dX12_playEntry_230 : decode cX12_playEntry 230 = .ok (.getfield 142, 3) := by decide +kernel
theorem dX12_playEntry_233 : decode cX12_playEntry 233 = .ok (.bipush 11, 2) := by decide +kernel
theorem dX12_playEntry_235 : decode cX12_playEntry 235 = .ok (.iload_n 2, 1) := by decide +kernel
theorem dX12_playEntry_236 : decode cX12_playEntry 236 = .ok (.imul, 1) := by decide +kernel
theorem dX12_playEntry_237 : decode cX12_playEntry 237 = .ok (.aload_n 0, 1) := by decide +kernel
theorem dX12_playEntry_238 : decode cX12_playEntry 238 = .ok (.getfield 120, 3) := by decide +kernel
theorem dX12_playEntry_241 : decode cX12_playEntry 241 = .ok (.iload_n 2, 1) := by decide +kernel
theorem dX12_playEntry_242 : decode cX12_playEntry 242 = .ok (.iaload, 1) := by decide +kernel
theorem dX12_playEntry_243 : decode cX12_playEntry 243 = .ok (.iadd, 1) := by decide +kernel
theorem dX12_playEntry_244 : decode cX12_playEntry 244 = .ok (.dup2, 1) := by decide +kernel
theorem dX12_playEntry_245 : decode cX12_playEntry 245 = .ok (.iaload, 1) := by decide +kernel
theorem dX12_playEntry_246 : decode cX12_playEntry 246 = .ok (.iconst 1, 1) := by decide +kernel
theorem dX12_playEntry_247 : decode cX12_playEntry 247 = .ok (.iadd, 1) := by decide +kernel
theorem dX12_playEntry_248 : decode cX12_playEntry 248 = .ok (.iastore, 1) := by decide +kernel
theorem dX12_playEntry_249 : decode cX12_playEntry 249 = .ok (.aload_n 0, 1) := by decide +kernel
theorem dX12_playEntry_250 : decode cX12_playEntry 250 = .ok (.getfield 114, 3) := by decide +kernel
theorem dX12_playEntry_253 : decode cX12_playEntry 253 = .ok (.iload_n 2, 1) := by decide +kernel
theorem dX12_playEntry_254 : decode cX12_playEntry 254 = .ok (.dup2, 1) := by decide +kernel
theorem dX12_playEntry_255 : decode cX12_playEntry 255 = .ok (.iaload, 1) := by decide +kernel
theorem dX12_playEntry_256 : decode cX12_playEntry 256 = .ok (.iconst 1, 1) := by decide +kernel
theorem dX12_playEntry_257 : decode cX12_playEntry 257 = .ok (.iadd, 1) := by decide +kernel
theorem dX12_playEntry_258 : decode cX12_playEntry 258 = .ok (.iastore, 1) := by decide +kernel
theorem dX12_playEntry_259 : decode cX12_playEntry 259 = .ok (.aload_n 0, 1) := by decide +kernel
theorem dX12_playEntry_260 : decode cX12_playEntry 260 = .ok (.iload_n 2, 1) := by decide +kernel
theorem dX12_playEntry_261 : decode cX12_playEntry 261 = .ok (.iload_n 3, 1) := by decide +kernel
theorem dX12_playEntry_262 : decode cX12_playEntry 262 = .ok (.iconst 1, 1) := by decide +kernel
theorem dX12_playEntry_263 : decode cX12_playEntry 263 = .ok (.iconst 2, 1) := by decide +kernel
theorem dX12_playEntry_264 : decode cX12_playEntry 264 = .ok (.iload 5, 2) := by decide +kernel
theorem dX12_playEntry_266 : decode cX12_playEntry 266 = .ok (.iadd, 1) := by decide +kernel
theorem dX12_playEntry_267 : decode cX12_playEntry 267 = .ok (.invokevirtual 281, 3) := by decide +kernel
theorem dX12_playEntry_270 : decode cX12_playEntry 270 = .ok (.goto 151, 3) := by decide +kernel
theorem dX12_playEntry_273 : decode cX12_playEntry 273 = .ok (.aload_n 0, 1) := by decide +kernel
theorem dX12_playEntry_274 : decode cX12_playEntry 274 = .ok (.iload_n 2, 1) := by decide +kernel
theorem dX12_playEntry_275 : decode cX12_playEntry 275 = .ok (.iload_n 3, 1) := by decide +kernel
theorem dX12_playEntry_276 : decode cX12_playEntry 276 = .ok (.iload 5, 2) := by decide +kernel
theorem dX12_playEntry_278 : decode cX12_playEntry 278 = .ok (.iconst 2, 1) := by decide +kernel
theorem dX12_playEntry_279 : decode cX12_playEntry 279 = .ok (.idiv, 1) := by decide +kernel
theorem dX12_playEntry_280 : decode cX12_playEntry 280 = .ok (.invokevirtual 275, 3) := by decide +kernel
theorem dX12_playEntry_283 : decode cX12_playEntry 283 = .ok (.aload_n 0, 1) := by decide +kernel
theorem dX12_playEntry_284 : decode cX12_playEntry 284 = .ok (.iload_n 2, 1) := by decide +kernel
theorem dX12_playEntry_285 : decode cX12_playEntry 285 = .ok (.iload 5, 2) := by decide +kernel
theorem dX12_playEntry_287 : decode cX12_playEntry 287 = .ok (.iconst 2, 1) := by decide +kernel
theorem dX12_playEntry_288 : decode cX12_playEntry 288 = .ok (.idiv, 1) := by decide +kernel
theorem dX12_playEntry_289 : decode cX12_playEntry 289 = .ok (.invokevirtual 278, 3) := by decide +kernel
theorem dX12_playEntry_292 : decode cX12_playEntry 292 = .ok (.aload_n 0, 1) := by decide +kernel
theorem dX12_playEntry_293 : decode cX12_playEntry 293 = .ok (.getfield 117, 3) := by decide +kernel
theorem dX12_playEntry_296 : decode cX12_playEntry 296 = .ok (.iload_n 2, 1) := by decide +kernel
theorem dX12_playEntry_297 : decode cX12_playEntry 297 = .ok (.dup2, 1) := by decide +kernel
theorem dX12_playEntry_298 : decode cX12_playEntry 298 = .ok (.iaload, 1) := by decide +kernel
theorem dX12_playEntry_299 : decode cX12_playEntry 299 = .ok (.iconst 1, 1) := by decide +kernel
theorem dX12_playEntry_300 : decode cX12_playEntry 300 = .ok (.iadd, 1) := by decide +kernel
theorem dX12_playEntry_301 : decode cX12_playEntry 301 = .ok (.iastore, 1) := by decide +kernel
theorem dX12_playEntry_302 : decode cX12_playEntry 302 = .ok (.aload_n 0, 1) := by decide +kernel
theorem dX12_playEntry_303 : decode cX12_playEntry 303 = .ok (.iload_n 2, 1) := by decide +kernel
theorem dX12_playEntry_304 : decode cX12_playEntry 304 = .ok (.iload_n 3, 1) := by decide +kernel
theorem dX12_playEntry_305 : decode cX12_playEntry 305 = .ok (.iload 5, 2) := by decide +kernel
theorem dX12_playEntry_307 : decode cX12_playEntry 307 = .ok (.iconst 2, 1) := by decide +kernel
theorem dX12_playEntry_308 : decode cX12_playEntry 308 = .ok (.irem, 1) := by decide +kernel
theorem dX12_playEntry_309 : decode cX12_playEntry 309 = .ok (.ifCond .ne 7, 3) := by decide +kernel
theorem dX12_playEntry_312 : decode cX12_playEntry 312 = .ok (.iconst 1, 1) := by decide +kernel
theorem dX12_playEntry_313 : decode cX12_playEntry 313 = .ok (.goto 4, 3) := by decide +kernel
theorem dX12_playEntry_316 : decode cX12_playEntry 316 = .ok (.iconst 0, 1) := by decide +kernel
theorem dX12_playEntry_317 : decode cX12_playEntry 317 = .ok (.bipush 6, 2) := by decide +kernel
theorem dX12_playEntry_319 : decode cX12_playEntry 319 = .ok (.invokevirtual 281, 3) := by decide +kernel
theorem dX12_playEntry_322 : decode cX12_playEntry 322 = .ok (.goto 99, 3) := by decide +kernel
theorem dX12_playEntry_325 : decode cX12_playEntry 325 = .ok (.aload_n 0, 1) := by decide +kernel
theorem dX12_playEntry_326 : decode cX12_playEntry 326 = .ok (.getfield 111, 3) := by decide +kernel
theorem dX12_playEntry_329 : decode cX12_playEntry 329 = .ok (.iload_n 2, 1) := by decide +kernel
theorem dX12_playEntry_330 : decode cX12_playEntry 330 = .ok (.dup2, 1) := by decide +kernel
theorem dX12_playEntry_331 : decode cX12_playEntry 331 = .ok (.iaload, 1) := by decide +kernel
theorem dX12_playEntry_332 : decode cX12_playEntry 332 = .ok (.iload 5, 2) := by decide +kernel
theorem dX12_playEntry_334 : decode cX12_playEntry 334 = .ok (.iadd, 1) := by decide +kernel
theorem dX12_playEntry_335 : decode cX12_playEntry 335 = .ok (.iastore, 1) := by decide +kernel
theorem dX12_playEntry_336 : decode cX12_playEntry 336 = .ok (.aload_n 0, 1) := by decide +kernel
theorem dX12_playEntry_337 : decode cX12_playEntry 337 = .ok (.getfield 84, 3) := by decide +kernel
theorem dX12_playEntry_340 : decode cX12_playEntry 340 = .ok (.iload_n 2, 1) := by decide +kernel
theorem dX12_playEntry_341 : decode cX12_playEntry 341 = .ok (.dup2, 1) := by decide +kernel
theorem dX12_playEntry_342 : decode cX12_playEntry 342 = .ok (.iaload, 1) := by decide +kernel
theorem dX12_playEntry_343 : decode cX12_playEntry 343 = .ok (.iload 5, 2) := by decide +kernel
theorem dX12_playEntry_345 : decode cX12_playEntry 345 = .ok (.iadd, 1) := by decide +kernel
theorem dX12_playEntry_346 : decode cX12_playEntry 346 = .ok (.iastore, 1) := by decide +kernel
theorem dX12_playEntry_347 : decode cX12_playEntry 347 = .ok (.aload_n 0, 1) := by decide +kernel
theorem dX12_playEntry_348 : decode cX12_playEntry 348 = .ok (.iload_n 2, 1) := by decide +kernel
theorem dX12_playEntry_349 : decode cX12_playEntry 349 = .ok (.iload_n 3, 1) := by decide +kernel
theorem dX12_playEntry_350 : decode cX12_playEntry 350 = .ok (.iload 5, 2) := by decide +kernel
theorem dX12_playEntry_352 : decode cX12_playEntry 352 = .ok (.invokevirtual 272, 3) := by decide +kernel
theorem dX12_playEntry_355 : decode cX12_playEntry 355 = .ok (.aload_n 0, 1) := by decide +kernel
theorem dX12_playEntry_356 : decode cX12_playEntry 356 = .ok (.iload_n 2, 1) := by decide +kernel
theorem dX12_playEntry_357 : decode cX12_playEntry 357 = .ok (.iload 5, 2) := by decide +kernel
theorem dX12_playEntry_359 : decode cX12_playEntry 359 = .ok (.invokevirtual 278, 3) := by decide +kernel
theorem dX12_playEntry_362 : decode cX12_playEntry 362 = .ok (.goto 59, 3) := by decide +kernel
theorem dX12_playEntry_365 : decode cX12_playEntry 365 = .ok (.aload_n 0, 1) := by decide +kernel
theorem dX12_playEntry_366 : decode cX12_playEntry 366 = .ok (.iload_n 2, 1) := by decide +kernel
theorem dX12_playEntry_367 : decode cX12_playEntry 367 = .ok (.invokevirtual 285, 3) := by decide +kernel
theorem dX12_playEntry_370 : decode cX12_playEntry 370 = .ok (.aload_n 0, 1) := by decide +kernel
theorem dX12_playEntry_371 : decode cX12_playEntry 371 = .ok (.getfield 75, 3) := by decide +kernel
theorem dX12_playEntry_374 : decode cX12_playEntry 374 = .ok (.iload_n 2, 1) := by decide +kernel
theorem dX12_playEntry_375 : decode cX12_playEntry 375 = .ok (.iaload, 1) := by decide +kernel
theorem dX12_playEntry_376 : decode cX12_playEntry 376 = .ok (.invokestatic 236, 3) := by decide +kernel
theorem dX12_playEntry_379 : decode cX12_playEntry 379 = .ok (.istore 7, 2) := by decide +kernel
theorem dX12_playEntry_381 : decode cX12_playEntry 381 = .ok (.aload_n 0, 1) := by decide +kernel
theorem dX12_playEntry_382 : decode cX12_playEntry 382 = .ok (.getfield 87, 3) := by decide +kernel
theorem dX12_playEntry_385 : decode cX12_playEntry 385 = .ok (.iload_n 2, 1) := by decide +kernel
theorem dX12_playEntry_386 : decode cX12_playEntry 386 = .ok (.dup2, 1) := by decide +kernel
theorem dX12_playEntry_387 : decode cX12_playEntry 387 = .ok (.iaload, 1) := by decide +kernel
theorem dX12_playEntry_388 : decode cX12_playEntry 388 = .ok (.iload 5, 2) := by decide +kernel
theorem dX12_playEntry_390 : decode cX12_playEntry 390 = .ok (.isub, 1) := by decide +kernel
theorem dX12_playEntry_391 : decode cX12_playEntry 391 = .ok (.iastore, 1) := by decide +kernel
theorem dX12_playEntry_392 : decode cX12_playEntry 392 = .ok (.aload_n 0, 1) := by decide +kernel
theorem dX12_playEntry_393 : decode cX12_playEntry 393 = .ok (.getfield 96, 3) := by decide +kernel
theorem dX12_playEntry_396 : decode cX12_playEntry 396 = .ok (.iload_n 2, 1) := by decide +kernel
theorem dX12_playEntry_397 : decode cX12_playEntry 397 = .ok (.dup2, 1) := by decide +kernel
theorem dX12_playEntry_398 : decode cX12_playEntry 398 = .ok (.iaload, 1) := by decide +kernel
theorem dX12_playEntry_399 : decode cX12_playEntry 399 = .ok (.iload 7, 2) := by decide +kernel
theorem dX12_playEntry_401 : decode cX12_playEntry 401 = .ok (.aload_n 0, 1) := by decide +kernel
theorem dX12_playEntry_402 : decode cX12_playEntry 402 = .ok (.iload_n 2, 1) := by decide +kernel
theorem dX12_playEntry_403 : decode cX12_playEntry 403 = .ok (.invokevirtual 285, 3) := by decide +kernel
theorem dX12_playEntry_406 : decode cX12_playEntry 406 = .ok (.aload_n 0, 1) := by decide +kernel
theorem dX12_playEntry_407 : decode cX12_playEntry 407 = .ok (.getfield 75, 3) := by decide +kernel
theorem dX12_playEntry_410 : decode cX12_playEntry 410 = .ok (.iload_n 2, 1) := by decide +kernel
theorem dX12_playEntry_411 : decode cX12_playEntry 411 = .ok (.iaload, 1) := by decide +kernel
theorem dX12_playEntry_412 : decode cX12_playEntry 412 = .ok (.invokestatic 236, 3) := by decide +kernel
theorem dX12_playEntry_415 : decode cX12_playEntry 415 = .ok (.isub, 1) := by decide +kernel
theorem dX12_playEntry_416 : decode cX12_playEntry 416 = .ok (.isub, 1) := by decide +kernel
theorem dX12_playEntry_417 : decode cX12_playEntry 417 = .ok (.iastore, 1) := by decide +kernel
theorem dX12_playEntry_418 : decode cX12_playEntry 418 = .ok (.goto 3, 3) := by decide +kernel
theorem dX12_playEntry_421 : decode cX12_playEntry 421 = .ok (.iload 4, 2) := by decide +kernel
theorem dX12_playEntry_423 : decode cX12_playEntry 423 = .ok (.invokestatic 269, 3) := by decide +kernel
theorem dX12_playEntry_426 : decode cX12_playEntry 426 = .ok (.ifCond .eq 40, 3) := by decide +kernel
theorem dX12_playEntry_429 : decode cX12_playEntry 429 = .ok (.aload_n 0, 1) := by decide +kernel
theorem dX12_playEntry_430 : decode cX12_playEntry 430 = .ok (.getfield 151, 3) := by decide +kernel
theorem dX12_playEntry_433 : decode cX12_playEntry 433 = .ok (.iload_n 3, 1) := by decide +kernel
theorem dX12_playEntry_434 : decode cX12_playEntry 434 = .ok (.dup2, 1) := by decide +kernel
theorem dX12_playEntry_435 : decode cX12_playEntry 435 = .ok (.iaload, 1) := by decide +kernel
theorem dX12_playEntry_436 : decode cX12_playEntry 436 = .ok (.iconst 1, 1) := by decide +kernel
theorem dX12_playEntry_437 : decode cX12_playEntry 437 = .ok (.iadd, 1) := by decide +kernel
theorem dX12_playEntry_438 : decode cX12_playEntry 438 = .ok (.iastore, 1) := by decide +kernel
theorem dX12_playEntry_439 : decode cX12_playEntry 439 = .ok (.aload_n 0, 1) := by decide +kernel
theorem dX12_playEntry_440 : decode cX12_playEntry 440 = .ok (.getfield 81, 3) := by decide +kernel
theorem dX12_playEntry_443 : decode cX12_playEntry 443 = .ok (.iload_n 2, 1) := by decide +kernel
theorem dX12_playEntry_444 : decode cX12_playEntry 444 = .ok (.dup2, 1) := by decide +kernel
theorem dX12_playEntry_445 : decode cX12_playEntry 445 = .ok (.iaload, 1) := by decide +kernel
theorem dX12_playEntry_446 : decode cX12_playEntry 446 = .ok (.iconst 1, 1) := by decide +kernel
theorem dX12_playEntry_447 : decode cX12_playEntry 447 = .ok (.iadd, 1) := by decide +kernel
theorem dX12_playEntry_448 : decode cX12_playEntry 448 = .ok (.iastore, 1) := by decide +kernel
theorem dX12_playEntry_449 : decode cX12_playEntry 449 = .ok (.aload_n 0, 1) := by decide +kernel
theorem dX12_playEntry_450 : decode cX12_playEntry 450 = .ok (.getfield 151, 3) := by decide +kernel
theorem dX12_playEntry_453 : decode cX12_playEntry 453 = .ok (.iload_n 3, 1) := by decide +kernel
theorem dX12_playEntry_454 : decode cX12_playEntry 454 = .ok (.iaload, 1) := by decide +kernel
theorem dX12_playEntry_455 : decode cX12_playEntry 455 = .ok (.bipush 6, 2) := by decide +kernel
theorem dX12_playEntry_457 : decode cX12_playEntry 457 = .ok (.if_icmp .ne 9, 3) := by decide +kernel
theorem dX12_playEntry_460 : decode cX12_playEntry 460 = .ok (.aload_n 0, 1) := by decide +kernel
theorem dX12_playEntry_461 : decode cX12_playEntry 461 = .ok (.iload_n 2, 1) := by decide +kernel
theorem dX12_playEntry_462 : decode cX12_playEntry 462 = .ok (.iload_n 3, 1) := by decide +kernel
theorem dX12_playEntry_463 : decode cX12_playEntry 463 = .ok (.invokevirtual 254, 3) := by decide +kernel
theorem dX12_playEntry_466 : decode cX12_playEntry 466 = .ok (.iload_n 2, 1) := by decide +kernel
theorem dX12_playEntry_467 : decode cX12_playEntry 467 = .ok (.aload_n 0, 1) := by decide +kernel
theorem dX12_playEntry_468 : decode cX12_playEntry 468 = .ok (.iload_n 1, 1) := by decide +kernel
theorem dX12_playEntry_469 : decode cX12_playEntry 469 = .ok (.invokevirtual 240, 3) := by decide +kernel
theorem dX12_playEntry_472 : decode cX12_playEntry 472 = .ok (.if_icmp .ne 9, 3) := by decide +kernel
theorem dX12_playEntry_475 : decode cX12_playEntry 475 = .ok (.aload_n 0, 1) := by decide +kernel
theorem dX12_playEntry_476 : decode cX12_playEntry 476 = .ok (.iload_n 1, 1) := by decide +kernel
theorem dX12_playEntry_477 : decode cX12_playEntry 477 = .ok (.iload_n 2, 1) := by decide +kernel
theorem dX12_playEntry_478 : decode cX12_playEntry 478 = .ok (.invokevirtual 244, 3) := by decide +kernel
theorem dX12_playEntry_481 : decode cX12_playEntry 481 = .ok (.aload_n 0, 1) := by decide +kernel
theorem dX12_playEntry_482 : decode cX12_playEntry 482 = .ok (.iload_n 1, 1) := by decide +kernel
theorem dX12_playEntry_483 : decode cX12_playEntry 483 = .ok (.iload_n 2, 1) := by decide +kernel
theorem dX12_playEntry_484 : decode cX12_playEntry 484 = .ok (.iload 4, 2) := by decide +kernel
theorem dX12_playEntry_486 : decode cX12_playEntry 486 = .ok (.invokevirtual 288, 3) := by decide +kernel
theorem dX12_playEntry_489 : decode cX12_playEntry 489 = .ok (.return_, 1) := by decide +kernel
theorem dX12_ends_0 : decode cX12_ends 0 = .ok (.iload_n 2, 1) := by decide +kernel
theorem dX12_ends_1 : decode cX12_ends 1 = .ok (.aload_n 0, 1) := by decide +kernel
theorem dX12_ends_2 : decode cX12_ends 2 = .ok (.iload_n 1, 1) := by decide +kernel
theorem dX12_ends_3 : decode cX12_ends 3 = .ok (.invokevirtual 240, 3) := by decide +kernel
theorem dX12_ends_6 : decode cX12_ends 6 = .ok (.if_icmp .ne 31, 3) := by decide +kernel
theorem dX12_ends_9 : decode cX12_ends 9 = .ok (.aload_n 0, 1) := by decide +kernel
theorem dX12_ends_10 : decode cX12_ends 10 = .ok (.getfield 72, 3) := by decide +kernel
theorem dX12_ends_13 : decode cX12_ends 13 = .ok (.iload_n 2, 1) := by decide +kernel
theorem dX12_ends_14 : decode cX12_ends 14 = .ok (.iaload, 1) := by decide +kernel
theorem dX12_ends_15 : decode cX12_ends 15 = .ok (.aload_n 0, 1) := by decide +kernel
theorem dX12_ends_16 : decode cX12_ends 16 = .ok (.getfield 221, 3) := by decide +kernel
theorem dX12_ends_19 : decode cX12_ends 19 = .ok (.if_icmp .lt 18, 3) := by decide +kernel
theorem dX12_ends_22 : decode cX12_ends 22 = .ok (.aload_n 0, 1) := by decide +kernel
theorem dX12_ends_23 : decode cX12_ends 23 = .ok (.getfield 90, 3) := by decide +kernel
theorem dX12_ends_26 : decode cX12_ends 26 = .ok (.iload_n 2, 1) := by decide +kernel
theorem dX12_ends_27 : decode cX12_ends 27 = .ok (.iconst 4, 1) := by decide +kernel
theorem dX12_ends_28 : decode cX12_ends 28 = .ok (.iastore, 1) := by decide +kernel
theorem dX12_ends_29 : decode cX12_ends 29 = .ok (.aload_n 0, 1) := by decide +kernel
theorem dX12_ends_30 : decode cX12_ends 30 = .ok (.iconst 2, 1) := by decide +kernel
theorem dX12_ends_31 : decode cX12_ends 31 = .ok (.putfield 218, 3) := by decide +kernel
theorem dX12_ends_34 : decode cX12_ends 34 = .ok (.goto 62, 3) := by decide +kernel
theorem dX12_ends_37 : decode cX12_ends 37 = .ok (.aload_n 0, 1) := by decide +kernel
theorem dX12_ends_38 : decode cX12_ends 38 = .ok (.getfield 75, 3) := by decide +kernel
theorem dX12_ends_41 : decode cX12_ends 41 = .ok (.iload_n 2, 1) := by decide +kernel
theorem dX12_ends_42 : decode cX12_ends 42 = .ok (.iaload, 1) := by decide +kernel
theorem dX12_ends_43 : decode cX12_ends 43 = .ok (.bipush 10, 2) := by decide +kernel
theorem dX12_ends_45 : decode cX12_ends 45 = .ok (.if_icmp .ne 13, 3) := by decide +kernel
theorem dX12_ends_48 : decode cX12_ends 48 = .ok (.aload_n 0, 1) := by decide +kernel
theorem dX12_ends_49 : decode cX12_ends 49 = .ok (.getfield 90, 3) := by decide +kernel
theorem dX12_ends_52 : decode cX12_ends 52 = .ok (.iload_n 2, 1) := by decide +kernel
theorem dX12_ends_53 : decode cX12_ends 53 = .ok (.iconst 1, 1) := by decide +kernel
theorem dX12_ends_54 : decode cX12_ends 54 = .ok (.iastore, 1) := by decide +kernel
theorem dX12_ends_55 : decode cX12_ends 55 = .ok (.goto 41, 3) := by decide +kernel
theorem dX12_ends_58 : decode cX12_ends 58 = .ok (.iload_n 3, 1) := by decide +kernel
theorem dX12_ends_59 : decode cX12_ends 59 = .ok (.bipush 9, 2) := by decide +kernel
theorem dX12_ends_61 : decode cX12_ends 61 = .ok (.if_icmp .ne 13, 3) := by decide +kernel
theorem dX12_ends_64 : decode cX12_ends 64 = .ok (.aload_n 0, 1) := by decide +kernel
theorem dX12_ends_65 : decode cX12_ends 65 = .ok (.getfield 90, 3) := by decide +kernel
theorem dX12_ends_68 : decode cX12_ends 68 = .ok (.iload_n 2, 1) := by decide +kernel
theorem dX12_ends_69 : decode cX12_ends 69 = .ok (.iconst 3, 1) := by decide +kernel
theorem dX12_ends_70 : decode cX12_ends 70 = .ok (.iastore, 1) := by decide +kernel
theorem dX12_ends_71 : decode cX12_ends 71 = .ok (.goto 25, 3) := by decide +kernel
theorem dX12_ends_74 : decode cX12_ends 74 = .ok (.aload_n 0, 1) := by decide +kernel
theorem dX12_ends_75 : decode cX12_ends 75 = .ok (.getfield 78, 3) := by decide +kernel
theorem dX12_ends_78 : decode cX12_ends 78 = .ok (.iload_n 2, 1) := by decide +kernel
theorem dX12_ends_79 : decode cX12_ends 79 = .ok (.iaload, 1) := by decide +kernel
theorem dX12_ends_80 : decode cX12_ends 80 = .ok (.aload_n 0, 1) := by decide +kernel
theorem dX12_ends_81 : decode cX12_ends 81 = .ok (.getfield 87, 3) := by decide +kernel
theorem dX12_ends_84 : decode cX12_ends 84 = .ok (.iload_n 2, 1) := by decide +kernel
theorem dX12_ends_85 : decode cX12_ends 85 = .ok (.iaload, 1) := by decide +kernel
theorem dX12_ends_86 : decode cX12_ends 86 = .ok (.if_icmp .ne 10, 3) := by decide +kernel
theorem dX12_ends_89 : decode cX12_ends 89 = .ok (.aload_n 0, 1) := by decide +kernel
theorem dX12_ends_90 : decode cX12_ends 90 = .ok (.getfield 90, 3) := by decide +kernel
theorem dX12_ends_93 : decode cX12_ends 93 = .ok (.iload_n 2, 1) := by decide +kernel
theorem dX12_ends_94 : decode cX12_ends 94 = .ok (.iconst 2, 1) := by decide +kernel
theorem dX12_ends_95 : decode cX12_ends 95 = .ok (.iastore, 1) := by decide +kernel
theorem dX12_ends_96 : decode cX12_ends 96 = .ok (.return_, 1) := by decide +kernel
theorem dX12_done_0 : decode cX12_done 0 = .ok (.aload_n 0, 1) := by decide +kernel
theorem dX12_done_1 : decode cX12_done 1 = .ok (.getfield 291, 3) := by decide +kernel
theorem dX12_done_4 : decode cX12_done 4 = .ok (.bipush 40, 2) := by decide +kernel
theorem dX12_done_6 : decode cX12_done 6 = .ok (.if_icmp .ne 169, 3) := by decide +kernel
theorem dX12_done_9 : decode cX12_done 9 = .ok (.iconst 1, 1) := by decide +kernel
theorem dX12_done_10 : decode cX12_done 10 = .ok (.istore 6, 2) := by decide +kernel
theorem dX12_done_12 : decode cX12_done 12 = .ok (.iload 6, 2) := by decide +kernel
theorem dX12_done_14 : decode cX12_done 14 = .ok (.bipush 40, 2) := by decide +kernel
theorem dX12_done_16 : decode cX12_done 16 = .ok (.if_icmp .ge 149, 3) := by decide +kernel
theorem dX12_done_19 : decode cX12_done 19 = .ok (.aload_n 0, 1) := by decide +kernel
theorem dX12_done_20 : decode cX12_done 20 = .ok (.getfield 51, 3) := by decide +kernel
theorem dX12_done_23 : decode cX12_done 23 = .ok (.iload 6, 2) := by decide +kernel
theorem dX12_done_25 : decode cX12_done 25 = .ok (.iconst 1, 1) := by decide +kernel
theorem dX12_done_26 : decode cX12_done 26 = .ok (.isub, 1) := by decide +kernel
theorem dX12_done_27 : decode cX12_done 27 = .ok (.aload_n 0, 1) := by decide +kernel
theorem dX12_done_28 : decode cX12_done 28 = .ok (.getfield 51, 3) := by decide +kernel
theorem dX12_done_31 : decode cX12_done 31 = .ok (.iload 6, 2) := by decide +kernel
theorem dX12_done_33 : decode cX12_done 33 = .ok (.iaload, 1) := by decide +kernel
theorem dX12_done_34 : decode cX12_done 34 = .ok (.iastore, 1) := by decide +kernel
theorem dX12_done_35 : decode cX12_done 35 = .ok (.aload_n 0, 1) := by decide +kernel
theorem dX12_done_36 : decode cX12_done 36 = .ok (.getfield 54, 3) := by decide +kernel
theorem dX12_done_39 : decode cX12_done 39 = .ok (.iload 6, 2) := by decide +kernel
theorem dX12_done_41 : decode cX12_done 41 = .ok (.iconst 1, 1) := by decide +kernel
theorem dX12_done_42 : decode cX12_done 42 = .ok (.isub, 1) := by decide +kernel
theorem dX12_done_43 : decode cX12_done 43 = .ok (.aload_n 0, 1) := by decide +kernel
theorem dX12_done_44 : decode cX12_done 44 = .ok (.getfield 54, 3) := by decide +kernel
theorem dX12_done_47 : decode cX12_done 47 = .ok (.iload 6, 2) := by decide +kernel
theorem dX12_done_49 : decode cX12_done 49 = .ok (.iaload, 1) := by decide +kernel
theorem dX12_done_50 : decode cX12_done 50 = .ok (.iastore, 1) := by decide +kernel
theorem dX12_done_51 : decode cX12_done 51 = .ok (.aload_n 0, 1) := by decide +kernel
theorem dX12_done_52 : decode cX12_done 52 = .ok (.getfield 57, 3) := by decide +kernel
theorem dX12_done_55 : decode cX12_done 55 = .ok (.iload 6, 2) := by decide +kernel
theorem dX12_done_57 : decode cX12_done 57 = .ok (.iconst 1, 1) := by decide +kernel
theorem dX12_done_58 : decode cX12_done 58 = .ok (.isub, 1) := by decide +kernel
theorem dX12_done_59 : decode cX12_done 59 = .ok (.aload_n 0, 1) := by decide +kernel
theorem dX12_done_60 : decode cX12_done 60 = .ok (.getfield 57, 3) := by decide +kernel
theorem dX12_done_63 : decode cX12_done 63 = .ok (.iload 6, 2) := by decide +kernel
theorem dX12_done_65 : decode cX12_done 65 = .ok (.iaload, 1) := by decide +kernel
theorem dX12_done_66 : decode cX12_done 66 = .ok (.iastore, 1) := by decide +kernel
theorem dX12_done_67 : decode cX12_done 67 = .ok (.aload_n 0, 1) := by decide +kernel
theorem dX12_done_68 : decode cX12_done 68 = .ok (.getfield 60, 3) := by decide +kernel
theorem dX12_done_71 : decode cX12_done 71 = .ok (.iload 6, 2) := by decide +kernel
theorem dX12_done_73 : decode cX12_done 73 = .ok (.iconst 1, 1) := by decide +kernel
theorem dX12_done_74 : decode cX12_done 74 = .ok (.isub, 1) := by decide +kernel
theorem dX12_done_75 : decode cX12_done 75 = .ok (.aload_n 0, 1) := by decide +kernel
theorem dX12_done_76 : decode cX12_done 76 = .ok (.getfield 60, 3) := by decide +kernel
theorem dX12_done_79 : decode cX12_done 79 = .ok (.iload 6, 2) := by decide +kernel
theorem dX12_done_81 : decode cX12_done 81 = .ok (.iaload, 1) := by decide +kernel
theorem dX12_done_82 : decode cX12_done 82 = .ok (.iastore, 1) := by decide +kernel
theorem dX12_done_83 : decode cX12_done 83 = .ok (.aload_n 0, 1) := by decide +kernel
theorem dX12_done_84 : decode cX12_done 84 = .ok (.getfield 63, 3) := by decide +kernel
theorem dX12_done_87 : decode cX12_done 87 = .ok (.iload 6, 2) := by decide +kernel
theorem dX12_done_89 : decode cX12_done 89 = .ok (.iconst 1, 1) := by decide +kernel
theorem dX12_done_90 : decode cX12_done 90 = .ok (.isub, 1) := by decide +kernel
theorem dX12_done_91 : decode cX12_done 91 = .ok (.aload_n 0, 1) := by decide +kernel
theorem dX12_done_92 : decode cX12_done 92 = .ok (.getfield 63, 3) := by decide +kernel
theorem dX12_done_95 : decode cX12_done 95 = .ok (.iload 6, 2) := by decide +kernel
theorem dX12_done_97 : decode cX12_done 97 = .ok (.iaload, 1) := by decide +kernel
theorem dX12_done_98 : decode cX12_done 98 = .ok (.iastore, 1) := by decide +kernel
theorem dX12_done_99 : decode cX12_done 99 = .ok (.aload_n 0, 1) := by decide +kernel
theorem dX12_done_100 : decode cX12_done 100 = .ok (.getfield 66, 3) := by decide +kernel
theorem dX12_done_103 : decode cX12_done 103 = .ok (.iload 6, 2) := by decide +kernel
theorem dX12_done_105 : decode cX12_done 105 = .ok (.iconst 1, 1) := by decide +kernel
theorem dX12_done_106 : decode cX12_done 106 = .ok (.isub, 1) := by decide +kernel
theorem dX12_done_107 : decode cX12_done 107 = .ok (.aload_n 0, 1) := by decide +kernel
theorem dX12_done_108 : decode cX12_done 108 = .ok (.getfield 66, 3) := by decide +kernel
theorem dX12_done_111 : decode cX12_done 111 = .ok (.iload 6, 2) := by decide +kernel
theorem dX12_done_113 : decode cX12_done 113 = .ok (.iaload, 1) := by decide +kernel
theorem dX12_done_114 : decode cX12_done 114 = .ok (.iastore, 1) := by decide +kernel
theorem dX12_done_115 : decode cX12_done 115 = .ok (.iconst 0, 1) := by decide +kernel
theorem dX12_done_116 : decode cX12_done 116 = .ok (.istore 7, 2) := by decide +kernel
theorem dX12_done_118 : decode cX12_done 118 = .ok (.iload 7, 2) := by decide +kernel
theorem dX12_done_120 : decode cX12_done 120 = .ok (.bipush 40, 2) := by decide +kernel
theorem dX12_done_122 : decode cX12_done 122 = .ok (.if_icmp .ge 37, 3) := by decide +kernel
theorem dX12_done_125 : decode cX12_done 125 = .ok (.aload_n 0, 1) := by decide +kernel
theorem dX12_done_126 : decode cX12_done 126 = .ok (.getfield 69, 3) := by decide +kernel
theorem dX12_done_129 : decode cX12_done 129 = .ok (.bipush 40, 2) := by decide +kernel
theorem dX12_done_131 : decode cX12_done 131 = .ok (.iload 6, 2) := by decide +kernel
theorem dX12_done_133 : decode cX12_done 133 = .ok (.iconst 1, 1) := by decide +kernel
theorem dX12_done_134 : decode cX12_done 134 = .ok (.isub, 1) := by decide +kernel
theorem dX12_done_135 : decode cX12_done 135 = .ok (.imul, 1) := by decide +kernel
theorem dX12_done_136 : decode cX12_done 136 = .ok (.iload 7, 2) := by decide +kernel
theorem dX12_done_138 : decode cX12_done 138 = .ok (.iadd, 1) := by decide +kernel
theorem dX12_done_139 : decode cX12_done 139 = .ok (.aload_n 0, 1) := by decide +kernel
theorem dX12_done_140 : decode cX12_done 140 = .ok (.getfield 69, 3) := by decide +kernel
theorem dX12_done_143 : decode cX12_done 143 = .ok (.bipush 40, 2) := by decide +kernel
theorem dX12_done_145 : decode cX12_done 145 = .ok (.iload 6, 2) := by decide +kernel
theorem dX12_done_147 : decode cX12_done 147 = .ok (.imul, 1) := by decide +kernel
theorem dX12_done_148 : decode cX12_done 148 = .ok (.iload 7, 2) := by decide +kernel
theorem dX12_done_150 : decode cX12_done 150 = .ok (.iadd, 1) := by decide +kernel
theorem dX12_done_151 : decode cX12_done 151 = .ok (.iaload, 1) := by decide +kernel
theorem dX12_done_152 : decode cX12_done 152 = .ok (.iastore, 1) := by decide +kernel
theorem dX12_done_153 : decode cX12_done 153 = .ok (.iinc 7 1, 3) := by decide +kernel
theorem dX12_done_156 : decode cX12_done 156 = .ok (.goto (-38), 3) := by decide +kernel
theorem dX12_done_159 : decode cX12_done 159 = .ok (.iinc 6 1, 3) := by decide +kernel
theorem dX12_done_162 : decode cX12_done 162 = .ok (.goto (-150), 3) := by decide +kernel
theorem dX12_done_165 : decode cX12_done 165 = .ok (.aload_n 0, 1) := by decide +kernel
theorem dX12_done_166 : decode cX12_done 166 = .ok (.dup, 1) := by decide +kernel
theorem dX12_done_167 : decode cX12_done 167 = .ok (.getfield 291, 3) := by decide +kernel
theorem dX12_done_170 : decode cX12_done 170 = .ok (.iconst 1, 1) := by decide +kernel
theorem dX12_done_171 : decode cX12_done 171 = .ok (.isub, 1) := by decide +kernel
theorem dX12_done_172 : decode cX12_done 172 = .ok (.putfield 291, 3) := by decide +kernel
theorem dX12_done_175 : decode cX12_done 175 = .ok (.aload_n 0, 1) := by decide +kernel
theorem dX12_done_176 : decode cX12_done 176 = .ok (.getfield 51, 3) := by decide +kernel
theorem dX12_done_179 : decode cX12_done 179 = .ok (.aload_n 0, 1) := by decide +kernel
theorem dX12_done_180 : decode cX12_done 180 = .ok (.getfield 291, 3) := by decide +kernel
theorem dX12_done_183 : decode cX12_done 183 = .ok (.iload_n 1, 1) := by decide +kernel
theorem dX12_done_184 : decode cX12_done 184 = .ok (.iastore, 1) := by decide +kernel
theorem dX12_done_185 : decode cX12_done 185 = .ok (.aload_n 0, 1) := by decide +kernel
theorem dX12_done_186 : decode cX12_done 186 = .ok (.getfield 54, 3) := by decide +kernel
theorem dX12_done_189 : decode cX12_done 189 = .ok (.aload_n 0, 1) := by decide +kernel
theorem dX12_done_190 : decode cX12_done 190 = .ok (.getfield 291, 3) := by decide +kernel
theorem dX12_done_193 : decode cX12_done 193 = .ok (.iload_n 2, 1) := by decide +kernel
theorem dX12_done_194 : decode cX12_done 194 = .ok (.iastore, 1) := by decide +kernel
theorem dX12_done_195 : decode cX12_done 195 = .ok (.aload_n 0, 1) := by decide +kernel
theorem dX12_done_196 : decode cX12_done 196 = .ok (.getfield 57, 3) := by decide +kernel
theorem dX12_done_199 : decode cX12_done 199 = .ok (.aload_n 0, 1) := by decide +kernel
theorem dX12_done_200 : decode cX12_done 200 = .ok (.getfield 291, 3) := by decide +kernel
theorem dX12_done_203 : decode cX12_done 203 = .ok (.iload_n 3, 1) := by decide +kernel
theorem dX12_done_204 : decode cX12_done 204 = .ok (.iastore, 1) := by decide +kernel
theorem dX12_done_205 : decode cX12_done 205 = .ok (.aload_n 0, 1) := by decide +kernel
theorem dX12_done_206 : decode cX12_done 206 = .ok (.getfield 60, 3) := by decide +kernel
theorem dX12_done_209 : decode cX12_done 209 = .ok (.aload_n 0, 1) := by decide +kernel
theorem dX12_done_210 : decode cX12_done 210 = .ok (.getfield 291, 3) := by decide +kernel
theorem dX12_done_213 : decode cX12_done 213 = .ok (.iload 4, 2) := by decide +kernel
theorem dX12_done_215 : decode cX12_done 215 = .ok (.iastore, 1) := by decide +kernel
theorem dX12_done_216 : decode cX12_done 216 = .ok (.aload_n 0, 1) := by decide +kernel
theorem dX12_done_217 : decode cX12_done 217 = .ok (.getfield 63, 3) := by decide +kernel
theorem dX12_done_220 : decode cX12_done 220 = .ok (.aload_n 0, 1) := by decide +kernel
theorem dX12_done_221 : decode cX12_done 221 = .ok (.getfield 291, 3) := by decide +kernel
theorem dX12_done_224 : decode cX12_done 224 = .ok (.iload 5, 2) := by decide +kernel
theorem dX12_done_226 : decode cX12_done 226 = .ok (.iastore, 1) := by decide +kernel
theorem dX12_done_227 : decode cX12_done 227 = .ok (.aload_n 0, 1) := by decide +kernel
theorem dX12_done_228 : decode cX12_done 228 = .ok (.dup, 1) := by decide +kernel
theorem dX12_done_229 : decode cX12_done 229 = .ok (.getfield 291, 3) := by decide +kernel
theorem dX12_done_232 : decode cX12_done 232 = .ok (.iconst 1, 1) := by decide +kernel
theorem dX12_done_233 : decode cX12_done 233 = .ok (.iadd, 1) := by decide +kernel
theorem dX12_done_234 : decode cX12_done 234 = .ok (.putfield 291, 3) := by decide +kernel
theorem dX12_done_237 : decode cX12_done 237 = .ok (.return_, 1) := by decide +kernel
theorem dX12_keepRow_0 : decode cX12_keepRow 0 = .ok (.aload_n 0, 1) := by decide +kernel
theorem dX12_keepRow_1 : decode cX12_keepRow 1 = .ok (.getfield 66, 3) := by decide +kernel
theorem dX12_keepRow_4 : decode cX12_keepRow 4 = .ok (.aload_n 0, 1) := by decide +kernel
theorem dX12_keepRow_5 : decode cX12_keepRow 5 = .ok (.getfield 291, 3) := by decide +kernel
theorem dX12_keepRow_8 : decode cX12_keepRow 8 = .ok (.iconst 1, 1) := by decide +kernel
theorem dX12_keepRow_9 : decode cX12_keepRow 9 = .ok (.isub, 1) := by decide +kernel
theorem dX12_keepRow_10 : decode cX12_keepRow 10 = .ok (.aload_n 0, 1) := by decide +kernel
theorem dX12_keepRow_11 : decode cX12_keepRow 11 = .ok (.getfield 38, 3) := by decide +kernel
theorem dX12_keepRow_14 : decode cX12_keepRow 14 = .ok (.iload_n 1, 1) := by decide +kernel
theorem dX12_keepRow_15 : decode cX12_keepRow 15 = .ok (.iaload, 1) := by decide +kernel
theorem dX12_keepRow_16 : decode cX12_keepRow 16 = .ok (.iastore, 1) := by decide +kernel
theorem dX12_keepRow_17 : decode cX12_keepRow 17 = .ok (.iconst 0, 1) := by decide +kernel
theorem dX12_keepRow_18 : decode cX12_keepRow 18 = .ok (.istore_n 2, 1) := by decide +kernel
theorem dX12_keepRow_19 : decode cX12_keepRow 19 = .ok (.iload_n 2, 1) := by decide +kernel
theorem dX12_keepRow_20 : decode cX12_keepRow 20 = .ok (.aload_n 0, 1) := by decide +kernel
theorem dX12_keepRow_21 : decode cX12_keepRow 21 = .ok (.getfield 38, 3) := by decide +kernel
theorem dX12_keepRow_24 : decode cX12_keepRow 24 = .ok (.iload_n 1, 1) := by decide +kernel
theorem dX12_keepRow_25 : decode cX12_keepRow 25 = .ok (.iaload, 1) := by decide +kernel
theorem dX12_keepRow_26 : decode cX12_keepRow 26 = .ok (.if_icmp .ge 36, 3) := by decide +kernel
theorem dX12_keepRow_29 : decode cX12_keepRow 29 = .ok (.aload_n 0, 1) := by decide +kernel
theorem dX12_keepRow_30 : decode cX12_keepRow 30 = .ok (.getfield 69, 3) := by decide +kernel
theorem dX12_keepRow_33 : decode cX12_keepRow 33 = .ok (.bipush 40, 2) := by decide +kernel
theorem dX12_keepRow_35 : decode cX12_keepRow 35 = .ok (.aload_n 0, 1) := by decide +kernel
theorem dX12_keepRow_36 : decode cX12_keepRow 36 = .ok (.getfield 291, 3) := by decide +kernel
theorem dX12_keepRow_39 : decode cX12_keepRow 39 = .ok (.iconst 1, 1) := by decide +kernel
theorem dX12_keepRow_40 : decode cX12_keepRow 40 = .ok (.isub, 1) := by decide +kernel
theorem dX12_keepRow_41 : decode cX12_keepRow 41 = .ok (.imul, 1) := by decide +kernel
theorem dX12_keepRow_42 : decode cX12_keepRow 42 = .ok (.iload_n 2, 1) := by decide +kernel
theorem dX12_keepRow_43 : decode cX12_keepRow 43 = .ok (.iadd, 1) := by decide +kernel
theorem dX12_keepRow_44 : decode cX12_keepRow 44 = .ok (.aload_n 0, 1) := by decide +kernel
theorem dX12_keepRow_45 : decode cX12_keepRow 45 = .ok (.getfield 42, 3) := by decide +kernel
theorem dX12_keepRow_48 : decode cX12_keepRow 48 = .ok (.bipush 40, 2) := by decide +kernel
theorem dX12_keepRow_50 : decode cX12_keepRow 50 = .ok (.iload_n 1, 1) := by decide +kernel
theorem dX12_keepRow_51 : decode cX12_keepRow 51 = .ok (.imul, 1) := by decide +kernel
theorem dX12_keepRow_52 : decode cX12_keepRow 52 = .ok (.iload_n 2, 1) := by decide +kernel
theorem dX12_keepRow_53 : decode cX12_keepRow 53 = .ok (.iadd, 1) := by decide +kernel
theorem dX12_keepRow_54 : decode cX12_keepRow 54 = .ok (.iaload, 1) := by decide +kernel
theorem dX12_keepRow_55 : decode cX12_keepRow 55 = .ok (.iastore, 1) := by decide +kernel
theorem dX12_keepRow_56 : decode cX12_keepRow 56 = .ok (.iinc 2 1, 3) := by decide +kernel
theorem dX12_keepRow_59 : decode cX12_keepRow 59 = .ok (.goto (-40), 3) := by decide +kernel
theorem dX12_keepRow_62 : decode cX12_keepRow 62 = .ok (.return_, 1) := by decide +kernel
theorem dX12_newRow_0 : decode cX12_newRow 0 = .ok (.aload_n 0, 1) := by decide +kernel
theorem dX12_newRow_1 : decode cX12_newRow 1 = .ok (.getfield 35, 3) := by decide +kernel
theorem dX12_newRow_4 : decode cX12_newRow 4 = .ok (.aload_n 0, 1) := by decide +kernel
theorem dX12_newRow_5 : decode cX12_newRow 5 = .ok (.getfield 294, 3) := by decide +kernel
theorem dX12_newRow_8 : decode cX12_newRow 8 = .ok (.iload_n 1, 1) := by decide +kernel
theorem dX12_newRow_9 : decode cX12_newRow 9 = .ok (.iastore, 1) := by decide +kernel
theorem dX12_newRow_10 : decode cX12_newRow 10 = .ok (.aload_n 0, 1) := by decide +kernel
theorem dX12_newRow_11 : decode cX12_newRow 11 = .ok (.getfield 38, 3) := by decide +kernel
theorem dX12_newRow_14 : decode cX12_newRow 14 = .ok (.aload_n 0, 1) := by decide +kernel
theorem dX12_newRow_15 : decode cX12_newRow 15 = .ok (.getfield 294, 3) := by decide +kernel
theorem dX12_newRow_18 : decode cX12_newRow 18 = .ok (.iload_n 2, 1) := by decide +kernel
theorem dX12_newRow_19 : decode cX12_newRow 19 = .ok (.iastore, 1) := by decide +kernel
theorem dX12_newRow_20 : decode cX12_newRow 20 = .ok (.aload_n 0, 1) := by decide +kernel
theorem dX12_newRow_21 : decode cX12_newRow 21 = .ok (.dup, 1) := by decide +kernel
theorem dX12_newRow_22 : decode cX12_newRow 22 = .ok (.getfield 294, 3) := by decide +kernel
theorem dX12_newRow_25 : decode cX12_newRow 25 = .ok (.iconst 1, 1) := by decide +kernel
theorem dX12_newRow_26 : decode cX12_newRow 26 = .ok (.iadd, 1) := by decide +kernel
theorem dX12_newRow_27 : decode cX12_newRow 27 = .ok (.putfield 294, 3) := by decide +kernel
theorem dX12_newRow_30 : decode cX12_newRow 30 = .ok (.aload_n 0, 1) := by decide +kernel
theorem dX12_newRow_31 : decode cX12_newRow 31 = .ok (.getfield 294, 3) := by decide +kernel
theorem dX12_newRow_34 : decode cX12_newRow 34 = .ok (.iconst 1, 1) := by decide +kernel
theorem dX12_newRow_35 : decode cX12_newRow 35 = .ok (.isub, 1) := by decide +kernel
theorem dX12_newRow_36 : decode cX12_newRow 36 = .ok (.ireturn, 1) := by decide +kernel
theorem dX12_turn_0 : decode cX12_turn 0 = .ok (.aload_n 0, 1) := by decide +kernel
theorem dX12_turn_1 : decode cX12_turn 1 = .ok (.iconst 0, 1) := by decide +kernel
theorem dX12_turn_2 : decode cX12_turn 2 = .ok (.putfield 175, 3) := by decide +kernel
theorem dX12_turn_5 : decode cX12_turn 5 = .ok (.aload_n 0, 1) := by decide +kernel
theorem dX12_turn_6 : decode cX12_turn 6 = .ok (.iconst 0, 1) := by decide +kernel
theorem dX12_turn_7 : decode cX12_turn 7 = .ok (.putfield 297, 3) := by decide +kernel
theorem dX12_turn_10 : decode cX12_turn 10 = .ok (.aload_n 0, 1) := by decide +kernel
theorem dX12_turn_11 : decode cX12_turn 11 = .ok (.iload_n 1, 1) := by decide +kernel
theorem dX12_turn_12 : decode cX12_turn 12 = .ok (.invokevirtual 193, 3) := by decide +kernel
theorem dX12_turn_15 : decode cX12_turn 15 = .ok (.ifCond .ne 5, 3) := by decide +kernel
theorem dX12_turn_18 : decode cX12_turn 18 = .ok (.iconst 0, 1) := by decide +kernel
theorem dX12_turn_19 : decode cX12_turn 19 = .ok (.ireturn, 1) := by decide +kernel
theorem dX12_turn_20 : decode cX12_turn 20 = .ok (.aload_n 0, 1) := by decide +kernel
theorem dX12_turn_21 : decode cX12_turn 21 = .ok (.iload_n 1, 1) := by decide +kernel
theorem dX12_turn_22 : decode cX12_turn 22 = .ok (.invokevirtual 300, 3) := by decide +kernel
theorem dX12_turn_25 : decode cX12_turn 25 = .ok (.aload_n 0, 1) := by decide +kernel
theorem dX12_turn_26 : decode cX12_turn 26 = .ok (.getfield 200, 3) := by decide +kernel
theorem dX12_turn_29 : decode cX12_turn 29 = .ok (.ifCond .ne 48, 3) := by decide +kernel
theorem dX12_turn_32 : decode cX12_turn 32 = .ok (.aload_n 0, 1) := by decide +kernel
theorem dX12_turn_33 : decode cX12_turn 33 = .ok (.getfield 25, 3) := by decide +kernel
theorem dX12_turn_36 : decode cX12_turn 36 = .ok (.iload_n 1, 1) := by decide +kernel
theorem dX12_turn_37 : decode cX12_turn 37 = .ok (.iaload, 1) := by decide +kernel
theorem dX12_turn_38 : decode cX12_turn 38 = .ok (.istore_n 2, 1) := by decide +kernel
theorem dX12_turn_39 : decode cX12_turn 39 = .ok (.iload_n 2, 1) := by decide +kernel
theorem dX12_turn_40 : decode cX12_turn 40 = .ok (.ifCond .le 22, 3) := by decide +kernel
theorem dX12_turn_43 : decode cX12_turn 43 = .ok (.aload_n 0, 1) := by decide +kernel
theorem dX12_turn_44 : decode cX12_turn 44 = .ok (.getfield 90, 3) := by decide +kernel
theorem dX12_turn_47 : decode cX12_turn 47 = .ok (.iload_n 2, 1) := by decide +kernel
theorem dX12_turn_48 : decode cX12_turn 48 = .ok (.iconst 1, 1) := by decide +kernel
theorem dX12_turn_49 : decode cX12_turn 49 = .ok (.isub, 1) := by decide +kernel
theorem dX12_turn_50 : decode cX12_turn 50 = .ok (.iaload, 1) := by decide +kernel
theorem dX12_turn_51 : decode cX12_turn 51 = .ok (.ifCond .ne 11, 3) := by decide +kernel
theorem dX12_turn_54 : decode cX12_turn 54 = .ok (.aload_n 0, 1) := by decide +kernel
theorem dX12_turn_55 : decode cX12_turn 55 = .ok (.iconst 1, 1) := by decide +kernel
theorem dX12_turn_56 : decode cX12_turn 56 = .ok (.putfield 297, 3) := by decide +kernel
theorem dX12_turn_59 : decode cX12_turn 59 = .ok (.goto 15, 3) := by decide +kernel
theorem dX12_turn_62 : decode cX12_turn 62 = .ok (.aload_n 0, 1) := by decide +kernel
theorem dX12_turn_63 : decode cX12_turn 63 = .ok (.getfield 218, 3) := by decide +kernel
theorem dX12_turn_66 : decode cX12_turn 66 = .ok (.ifCond .eq 8, 3) := by decide +kernel
theorem dX12_turn_69 : decode cX12_turn 69 = .ok (.aload_n 0, 1) := by decide +kernel
theorem dX12_turn_70 : decode cX12_turn 70 = .ok (.iconst 2, 1) := by decide +kernel
theorem dX12_turn_71 : decode cX12_turn 71 = .ok (.putfield 297, 3) := by decide +kernel
theorem dX12_turn_74 : decode cX12_turn 74 = .ok (.goto 11, 3) := by decide +kernel
theorem dX12_turn_77 : decode cX12_turn 77 = .ok (.aload_n 0, 1) := by decide +kernel
theorem dX12_turn_78 : decode cX12_turn 78 = .ok (.aload_n 0, 1) := by decide +kernel
theorem dX12_turn_79 : decode cX12_turn 79 = .ok (.getfield 200, 3) := by decide +kernel
theorem dX12_turn_82 : decode cX12_turn 82 = .ok (.putfield 297, 3) := by decide +kernel
theorem dX12_turn_85 : decode cX12_turn 85 = .ok (.aload_n 0, 1) := by decide +kernel
theorem dX12_turn_86 : decode cX12_turn 86 = .ok (.getfield 297, 3) := by decide +kernel
theorem dX12_turn_89 : decode cX12_turn 89 = .ok (.ifCond .eq 5, 3) := by decide +kernel
theorem dX12_turn_92 : decode cX12_turn 92 = .ok (.iconst 0, 1) := by decide +kernel
theorem dX12_turn_93 : decode cX12_turn 93 = .ok (.ireturn, 1) := by decide +kernel
theorem dX12_turn_94 : decode cX12_turn 94 = .ok (.aload_n 0, 1) := by decide +kernel
theorem dX12_turn_95 : decode cX12_turn 95 = .ok (.getfield 28, 3) := by decide +kernel
theorem dX12_turn_98 : decode cX12_turn 98 = .ok (.iconst 4, 1) := by decide +kernel
theorem dX12_turn_99 : decode cX12_turn 99 = .ok (.iload_n 1, 1) := by decide +kernel
theorem dX12_turn_100 : decode cX12_turn 100 = .ok (.imul, 1) := by decide +kernel
theorem dX12_turn_101 : decode cX12_turn 101 = .ok (.aload_n 0, 1) := by decide +kernel
theorem dX12_turn_102 : decode cX12_turn 102 = .ok (.getfield 25, 3) := by decide +kernel
theorem dX12_turn_105 : decode cX12_turn 105 = .ok (.iload_n 1, 1) := by decide +kernel
theorem dX12_turn_106 : decode cX12_turn 106 = .ok (.iaload, 1) := by decide +kernel
theorem dX12_turn_107 : decode cX12_turn 107 = .ok (.iadd, 1) := by decide +kernel
theorem dX12_turn_108 : decode cX12_turn 108 = .ok (.iconst 0, 1) := by decide +kernel
theorem dX12_turn_109 : decode cX12_turn 109 = .ok (.iastore, 1) := by decide +kernel
theorem dX12_turn_110 : decode cX12_turn 110 = .ok (.aload_n 0, 1) := by decide +kernel
theorem dX12_turn_111 : decode cX12_turn 111 = .ok (.getfield 25, 3) := by decide +kernel
theorem dX12_turn_114 : decode cX12_turn 114 = .ok (.iload_n 1, 1) := by decide +kernel
theorem dX12_turn_115 : decode cX12_turn 115 = .ok (.dup2, 1) := by decide +kernel
theorem dX12_turn_116 : decode cX12_turn 116 = .ok (.iaload, 1) := by decide +kernel
theorem dX12_turn_117 : decode cX12_turn 117 = .ok (.iconst 1, 1) := by decide +kernel
theorem dX12_turn_118 : decode cX12_turn 118 = .ok (.iadd, 1) := by decide +kernel
theorem dX12_turn_119 : decode cX12_turn 119 = .ok (.iastore, 1) := by decide +kernel
theorem dX12_turn_120 : decode cX12_turn 120 = .ok (.aload_n 0, 1) := by decide +kernel
theorem dX12_turn_121 : decode cX12_turn 121 = .ok (.iconst 0, 1) := by decide +kernel
theorem dX12_turn_122 : decode cX12_turn 122 = .ok (.iload_n 1, 1) := by decide +kernel
theorem dX12_turn_123 : decode cX12_turn 123 = .ok (.iconst (-1), 1) := by decide +kernel
theorem dX12_turn_124 : decode cX12_turn 124 = .ok (.iconst 0, 1) := by decide +kernel
theorem dX12_turn_125 : decode cX12_turn 125 = .ok (.iconst 0, 1) := by decide +kernel
theorem dX12_turn_126 : decode cX12_turn 126 = .ok (.invokevirtual 303, 3) := by decide +kernel
theorem dX12_turn_129 : decode cX12_turn 129 = .ok (.iconst 1, 1) := by decide +kernel
theorem dX12_turn_130 : decode cX12_turn 130 = .ok (.ireturn, 1) := by decide +kernel
theorem dX12_over_0 : decode cX12_over 0 = .ok (.aload_n 0, 1) := by decide +kernel
theorem dX12_over_1 : decode cX12_over 1 = .ok (.iconst 0, 1) := by decide +kernel
theorem dX12_over_2 : decode cX12_over 2 = .ok (.putfield 175, 3) := by decide +kernel
theorem dX12_over_5 : decode cX12_over 5 = .ok (.aload_n 0, 1) := by decide +kernel
theorem dX12_over_6 : decode cX12_over 6 = .ok (.iconst 0, 1) := by decide +kernel
theorem dX12_over_7 : decode cX12_over 7 = .ok (.putfield 297, 3) := by decide +kernel
theorem dX12_over_10 : decode cX12_over 10 = .ok (.aload_n 0, 1) := by decide +kernel
theorem dX12_over_11 : decode cX12_over 11 = .ok (.iload_n 1, 1) := by decide +kernel
theorem dX12_over_12 : decode cX12_over 12 = .ok (.invokevirtual 193, 3) := by decide +kernel
theorem dX12_over_15 : decode cX12_over 15 = .ok (.ifCond .ne 5, 3) := by decide +kernel
theorem dX12_over_18 : decode cX12_over 18 = .ok (.iconst 0, 1) := by decide +kernel
theorem dX12_over_19 : decode cX12_over 19 = .ok (.ireturn, 1) := by decide +kernel
theorem dX12_over_20 : decode cX12_over 20 = .ok (.aload_n 0, 1) := by decide +kernel
theorem dX12_over_21 : decode cX12_over 21 = .ok (.iload_n 1, 1) := by decide +kernel
theorem dX12_over_22 : decode cX12_over 22 = .ok (.invokevirtual 300, 3) := by decide +kernel
theorem dX12_over_25 : decode cX12_over 25 = .ok (.aload_n 0, 1) := by decide +kernel
theorem dX12_over_26 : decode cX12_over 26 = .ok (.getfield 25, 3) := by decide +kernel
theorem dX12_over_29 : decode cX12_over 29 = .ok (.iload_n 1, 1) := by decide +kernel
theorem dX12_over_30 : decode cX12_over 30 = .ok (.iaload, 1) := by decide +kernel
theorem dX12_over_31 : decode cX12_over 31 = .ok (.iconst 1, 1) := by decide +kernel
theorem dX12_over_32 : decode cX12_over 32 = .ok (.isub, 1) := by decide +kernel
theorem dX12_over_33 : decode cX12_over 33 = .ok (.istore_n 3, 1) := by decide +kernel
theorem dX12_over_34 : decode cX12_over 34 = .ok (.aload_n 0, 1) := by decide +kernel
theorem dX12_over_35 : decode cX12_over 35 = .ok (.getfield 200, 3) := by decide +kernel
theorem dX12_over_38 : decode cX12_over 38 = .ok (.ifCond .eq 14, 3) := by decide +kernel
theorem dX12_over_41 : decode cX12_over 41 = .ok (.aload_n 0, 1) := by decide +kernel
theorem dX12_over_42 : decode cX12_over 42 = .ok (.aload_n 0, 1) := by decide +kernel
theorem dX12_over_43 : decode cX12_over 43 = .ok (.getfield 200, 3) := by decide +kernel
theorem dX12_over_46 : decode cX12_over 46 = .ok (.putfield 297, 3) := by decide +kernel
theorem dX12_over_49 : decode cX12_over 49 = .ok (.goto 114, 3) := by decide +kernel
theorem dX12_over_52 : decode cX12_over 52 = .ok (.iload_n 3, 1) := by decide +kernel
theorem dX12_over_53 : decode cX12_over 53 = .ok (.ifCond .ge 12, 3) := by decide +kernel
theorem dX12_over_56 : decode cX12_over 56 = .ok (.aload_n 0, 1) := by decide +kernel
theorem dX12_over_57 : decode cX12_over 57 = .ok (.bipush 11, 2) := by decide +kernel
theorem dX12_over_59 : decode cX12_over 59 = .ok (.putfield 297, 3) := by decide +kernel
theorem dX12_over_62 : decode cX12_over 62 = .ok (.goto 101, 3) := by decide +kernel
theorem dX12_over_65 : decode cX12_over 65 = .ok (.aload_n 0, 1) := by decide +kernel
theorem dX12_over_66 : decode cX12_over 66 = .ok (.getfield 90, 3) := by decide +kernel
theorem dX12_over_69 : decode cX12_over 69 = .ok (.iload_n 3, 1) := by decide +kernel
theorem dX12_over_70 : decode cX12_over 70 = .ok (.iaload, 1) := by decide +kernel
theorem dX12_over_71 : decode cX12_over 71 = .ok (.ifCond .ne 18, 3) := by decide +kernel
theorem dX12_over_74 : decode cX12_over 74 = .ok (.aload_n 0, 1) := by decide +kernel
theorem dX12_over_75 : decode cX12_over 75 = .ok (.getfield 99, 3) := by decide +kernel
theorem dX12_over_78 : decode cX12_over 78 = .ok (.iload_n 3, 1) := by decide +kernel
theorem dX12_over_79 : decode cX12_over 79 = .ok (.iaload, 1) := by decide +kernel
theorem dX12_over_80 : decode cX12_over 80 = .ok (.aload_n 0, 1) := by decide +kernel
theorem dX12_over_81 : decode cX12_over 81 = .ok (.getfield 87, 3) := by decide +kernel
theorem dX12_over_84 : decode cX12_over 84 = .ok (.iload_n 3, 1) := by decide +kernel
theorem dX12_over_85 : decode cX12_over 85 = .ok (.iaload, 1) := by decide +kernel
theorem dX12_over_86 : decode cX12_over 86 = .ok (.if_icmp .ne 11, 3) := by decide +kernel
theorem dX12_over_89 : decode cX12_over 89 = .ok (.aload_n 0, 1) := by decide +kernel
theorem dX12_over_90 : decode cX12_over 90 = .ok (.iconst 3, 1) := by decide +kernel
theorem dX12_over_91 : decode cX12_over 91 = .ok (.putfield 297, 3) := by decide +kernel
theorem dX12_over_94 : decode cX12_over 94 = .ok (.goto 69, 3) := by decide +kernel
theorem dX12_over_97 : decode cX12_over 97 = .ok (.iload_n 2, 1) := by decide +kernel
theorem dX12_over_98 : decode cX12_over 98 = .ok (.ifCond .lt 9, 3) := by decide +kernel
theorem dX12_over_101 : decode cX12_over 101 = .ok (.iload_n 2, 1) := by decide +kernel
theorem dX12_over_102 : decode cX12_over 102 = .ok (.bipush 10, 2) := by decide +kernel
theorem dX12_over_104 : decode cX12_over 104 = .ok (.if_icmp .le 11, 3) := by decide +kernel
theorem dX12_over_107 : decode cX12_over 107 = .ok (.aload_n 0, 1) := by decide +kernel
theorem dX12_over_108 : decode cX12_over 108 = .ok (.iconst 4, 1) := by decide +kernel
theorem dX12_over_109 : decode cX12_over 109 = .ok (.putfield 297, 3) := by decide +kernel
theorem dX12_over_112 : decode cX12_over 112 = .ok (.goto 51, 3) := by decide +kernel
theorem dX12_over_115 : decode cX12_over 115 = .ok (.iload_n 2, 1) := by decide +kernel
theorem dX12_over_116 : decode cX12_over 116 = .ok (.aload_n 0, 1) := by decide +kernel
theorem dX12_over_117 : decode cX12_over 117 = .ok (.getfield 120, 3) := by decide +kernel
theorem dX12_over_120 : decode cX12_over 120 = .ok (.iload_n 3, 1) := by decide +kernel
theorem dX12_over_121 : decode cX12_over 121 = .ok (.iaload, 1) := by decide +kernel
theorem dX12_over_122 : decode cX12_over 122 = .ok (.if_icmp .ne 11, 3) := by decide +kernel
theorem dX12_over_125 : decode cX12_over 125 = .ok (.aload_n 0, 1) := by decide +kernel
theorem dX12_over_126 : decode cX12_over 126 = .ok (.iconst 5, 1) := by decide +kernel
theorem dX12_over_127 : decode cX12_over 127 = .ok (.putfield 297, 3) := by decide +kernel
theorem dX12_over_130 : decode cX12_over 130 = .ok (.goto 33, 3) := by decide +kernel
theorem dX12_over_133 : decode cX12_over 133 = .ok (.aload_n 0, 1) := by decide +kernel
theorem dX12_over_134 : decode cX12_over 134 = .ok (.getfield 136, 3) := by decide +kernel
theorem dX12_over_137 : decode cX12_over 137 = .ok (.bipush 11, 2) := by decide +kernel
theorem dX12_over_139 : decode cX12_over 139 = .ok (.iload_n 3, 1) := by decide +kernel
theorem dX12_over_140 : decode cX12_over 140 = .ok (.imul, 1) := by decide +kernel
theorem dX12_over_141 : decode cX12_over 141 = .ok (.iload_n 2, 1) := by decide +kernel
theorem dX12_over_142 : decode cX12_over 142 = .ok (.iadd, 1) := by decide +kernel
theorem dX12_over_143 : decode cX12_over 143 = .ok (.iaload, 1) := by decide +kernel
theorem dX12_over_144 : decode cX12_over 144 = .ok (.aload_n 0, 1) := by decide +kernel
theorem dX12_over_145 : decode cX12_over 145 = .ok (.getfield 16, 3) := by decide +kernel
theorem dX12_over_148 : decode cX12_over 148 = .ok (.iload_n 1, 1) := by decide +kernel
theorem dX12_over_149 : decode cX12_over 149 = .ok (.iaload, 1) := by decide +kernel
theorem dX12_over_150 : decode cX12_over 150 = .ok (.iconst 4, 1) := by decide +kernel
theorem dX12_over_151 : decode cX12_over 151 = .ok (.iadd, 1) := by decide +kernel
theorem dX12_over_152 : decode cX12_over 152 = .ok (.iconst 5, 1) := by decide +kernel
theorem dX12_over_153 : decode cX12_over 153 = .ok (.idiv, 1) := by decide +kernel
theorem dX12_over_154 : decode cX12_over 154 = .ok (.if_icmp .ne 9, 3) := by decide +kernel
theorem dX12_over_157 : decode cX12_over 157 = .ok (.aload_n 0, 1) := by decide +kernel
theorem dX12_over_158 : decode cX12_over 158 = .ok (.bipush 6, 2) := by decide +kernel
theorem dX12_over_160 : decode cX12_over 160 = .ok (.putfield 297, 3) := by decide +kernel
theorem dX12_over_163 : decode cX12_over 163 = .ok (.aload_n 0, 1) := by decide +kernel
theorem dX12_over_164 : decode cX12_over 164 = .ok (.getfield 297, 3) := by decide +kernel
theorem dX12_over_167 : decode cX12_over 167 = .ok (.ifCond .eq 5, 3) := by decide +kernel
theorem dX12_over_170 : decode cX12_over 170 = .ok (.iconst 0, 1) := by decide +kernel
theorem dX12_over_171 : decode cX12_over 171 = .ok (.ireturn, 1) := by decide +kernel
theorem dX12_over_172 : decode cX12_over 172 = .ok (.aload_n 0, 1) := by decide +kernel
theorem dX12_over_173 : decode cX12_over 173 = .ok (.getfield 32, 3) := by decide +kernel
theorem dX12_over_176 : decode cX12_over 176 = .ok (.sipush 130, 3) := by decide +kernel
theorem dX12_over_179 : decode cX12_over 179 = .ok (.iconst 4, 1) := by decide +kernel
theorem dX12_over_180 : decode cX12_over 180 = .ok (.iload_n 1, 1) := by decide +kernel
theorem dX12_over_181 : decode cX12_over 181 = .ok (.imul, 1) := by decide +kernel
theorem dX12_over_182 : decode cX12_over 182 = .ok (.iload_n 3, 1) := by decide +kernel
theorem dX12_over_183 : decode cX12_over 183 = .ok (.iadd, 1) := by decide +kernel
theorem dX12_over_184 : decode cX12_over 184 = .ok (.imul, 1) := by decide +kernel
theorem dX12_over_185 : decode cX12_over 185 = .ok (.aload_n 0, 1) := by decide +kernel
theorem dX12_over_186 : decode cX12_over 186 = .ok (.getfield 28, 3) := by decide +kernel
theorem dX12_over_189 : decode cX12_over 189 = .ok (.iconst 4, 1) := by decide +kernel
theorem dX12_over_190 : decode cX12_over 190 = .ok (.iload_n 1, 1) := by decide +kernel
theorem dX12_over_191 : decode cX12_over 191 = .ok (.imul, 1) := by decide +kernel
theorem dX12_over_192 : decode cX12_over 192 = .ok (.iload_n 3, 1) := by decide +kernel
theorem dX12_over_193 : decode cX12_over 193 = .ok (.iadd, 1) := by decide +kernel
theorem dX12_over_194 : decode cX12_over 194 = .ok (.iaload, 1) := by decide +kernel
theorem dX12_over_195 : decode cX12_over 195 = .ok (.iadd, 1) := by decide +kernel
theorem dX12_over_196 : decode cX12_over 196 = .ok (.aload_n 0, 1) := by decide +kernel
theorem dX12_over_197 : decode cX12_over 197 = .ok (.iload_n 2, 1) := by decide +kernel
theorem dX12_over_198 : decode cX12_over 198 = .ok (.iconst 0, 1) := by decide +kernel
theorem dX12_over_199 : decode cX12_over 199 = .ok (.invokevirtual 306, 3) := by decide +kernel
theorem dX12_over_202 : decode cX12_over 202 = .ok (.iastore, 1) := by decide +kernel
theorem dX12_over_203 : decode cX12_over 203 = .ok (.aload_n 0, 1) := by decide +kernel
theorem dX12_over_204 : decode cX12_over 204 = .ok (.getfield 28, 3) := by decide +kernel
theorem dX12_over_207 : decode cX12_over 207 = .ok (.iconst 4, 1) := by decide +kernel
theorem dX12_over_208 : decode cX12_over 208 = .ok (.iload_n 1, 1) := by decide +kernel
theorem dX12_over_209 : decode cX12_over 209 = .ok (.imul, 1) := by decide +kernel
theorem dX12_over_210 : decode cX12_over 210 = .ok (.iload_n 3, 1) := by decide +kernel
theorem dX12_over_211 : decode cX12_over 211 = .ok (.iadd, 1) := by decide +kernel
theorem dX12_over_212 : decode cX12_over 212 = .ok (.dup2, 1) := by decide +kernel
theorem dX12_over_213 : decode cX12_over 213 = .ok (.iaload, 1) := by decide +kernel
theorem dX12_over_214 : decode cX12_over 214 = .ok (.iconst 1, 1) := by decide +kernel
theorem dX12_over_215 : decode cX12_over 215 = .ok (.iadd, 1) := by decide +kernel
theorem dX12_over_216 : decode cX12_over 216 = .ok (.iastore, 1) := by decide +kernel
theorem dX12_over_217 : decode cX12_over 217 = .ok (.aload_n 0, 1) := by decide +kernel
theorem dX12_over_218 : decode cX12_over 218 = .ok (.iconst 1, 1) := by decide +kernel
theorem dX12_over_219 : decode cX12_over 219 = .ok (.iload_n 1, 1) := by decide +kernel
theorem dX12_over_220 : decode cX12_over 220 = .ok (.iconst (-1), 1) := by decide +kernel
theorem dX12_over_221 : decode cX12_over 221 = .ok (.iload_n 3, 1) := by decide +kernel
theorem dX12_over_222 : decode cX12_over 222 = .ok (.iconst 0, 1) := by decide +kernel
theorem dX12_over_223 : decode cX12_over 223 = .ok (.invokevirtual 303, 3) := by decide +kernel
theorem dX12_over_226 : decode cX12_over 226 = .ok (.iconst 1, 1) := by decide +kernel
theorem dX12_over_227 : decode cX12_over 227 = .ok (.ireturn, 1) := by decide +kernel
theorem dX12_ball_0 : decode cX12_ball 0 = .ok (.aload_n 0, 1) := by decide +kernel
theorem dX12_ball_1 : decode cX12_ball 1 = .ok (.iconst 0, 1) := by decide +kernel
theorem dX12_ball_2 : decode cX12_ball 2 = .ok (.putfield 175, 3) := by decide +kernel
theorem dX12_ball_5 : decode cX12_ball 5 = .ok (.aload_n 0, 1) := by decide +kernel
theorem dX12_ball_6 : decode cX12_ball 6 = .ok (.iconst 0, 1) := by decide +kernel
theorem dX12_ball_7 : decode cX12_ball 7 = .ok (.putfield 297, 3) := by decide +kernel
theorem dX12_ball_10 : decode cX12_ball 10 = .ok (.aload_n 0, 1) := by decide +kernel
theorem dX12_ball_11 : decode cX12_ball 11 = .ok (.iload_n 1, 1) := by decide +kernel
theorem dX12_ball_12 : decode cX12_ball 12 = .ok (.invokevirtual 193, 3) := by decide +kernel
theorem dX12_ball_15 : decode cX12_ball 15 = .ok (.ifCond .ne 5, 3) := by decide +kernel
theorem dX12_ball_18 : decode cX12_ball 18 = .ok (.iconst 0, 1) := by decide +kernel
theorem dX12_ball_19 : decode cX12_ball 19 = .ok (.ireturn, 1) := by decide +kernel
theorem dX12_ball_20 : decode cX12_ball 20 = .ok (.aload_n 0, 1) := by decide +kernel
theorem dX12_ball_21 : decode cX12_ball 21 = .ok (.iload_n 1, 1) := by decide +kernel
theorem dX12_ball_22 : decode cX12_ball 22 = .ok (.invokevirtual 300, 3) := by decide +kernel
theorem dX12_ball_25 : decode cX12_ball 25 = .ok (.aload_n 0, 1) := by decide +kernel
theorem dX12_ball_26 : decode cX12_ball 26 = .ok (.getfield 25, 3) := by decide +kernel
theorem dX12_ball_29 : decode cX12_ball 29 = .ok (.iload_n 1, 1) := by decide +kernel
theorem dX12_ball_30 : decode cX12_ball 30 = .ok (.iaload, 1) := by decide +kernel
theorem dX12_ball_31 : decode cX12_ball 31 = .ok (.iconst 1, 1) := by decide +kernel
theorem dX12_ball_32 : decode cX12_ball 32 = .ok (.isub, 1) := by decide +kernel
theorem dX12_ball_33 : decode cX12_ball 33 = .ok (.istore_n 3, 1) := by decide +kernel
theorem dX12_ball_34 : decode cX12_ball 34 = .ok (.iload_n 3, 1) := by decide +kernel
theorem dX12_ball_35 : decode cX12_ball 35 = .ok (.ifCond .lt 16, 3) := by decide +kernel
theorem dX12_ball_38 : decode cX12_ball 38 = .ok (.aload_n 0, 1) := by decide +kernel
theorem dX12_ball_39 : decode cX12_ball 39 = .ok (.getfield 28, 3) := by decide +kernel
theorem dX12_ball_42 : decode cX12_ball 42 = .ok (.iconst 4, 1) := by decide +kernel
theorem dX12_ball_43 : decode cX12_ball 43 = .ok (.iload_n 1, 1) := by decide +kernel
theorem dX12_ball_44 : decode cX12_ball 44 = .ok (.imul, 1) := by decide +kernel
theorem dX12_ball_45 : decode cX12_ball 45 = .ok (.iload_n 3, 1) := by decide +kernel
theorem dX12_ball_46 : decode cX12_ball 46 = .ok (.iadd, 1) := by decide +kernel
theorem dX12_ball_47 : decode cX12_ball 47 = .ok (.iaload, 1) := by decide +kernel
theorem dX12_ball_48 : decode cX12_ball 48 = .ok (.ifCond .ne 7, 3) := by decide +kernel
theorem dX12_ball_51 : decode cX12_ball 51 = .ok (.iconst (-1), 1) := by decide +kernel
theorem dX12_ball_52 : decode cX12_ball 52 = .ok (.goto 21, 3) := by decide +kernel
theorem dX12_ball_55 : decode cX12_ball 55 = .ok (.aload_n 0, 1) := by decide +kernel
theorem dX12_ball_56 : decode cX12_ball 56 = .ok (.iload_n 1, 1) := by decide +kernel
theorem dX12_ball_57 : decode cX12_ball 57 = .ok (.iload_n 3, 1) := by decide +kernel
theorem dX12_ball_58 : decode cX12_ball 58 = .ok (.aload_n 0, 1) := by decide +kernel
theorem dX12_ball_59 : decode cX12_ball 59 = .ok (.getfield 28, 3) := by decide +kernel
theorem dX12_ball_62 : decode cX12_ball 62 = .ok (.iconst 4, 1) := by decide +kernel
theorem dX12_ball_63 : decode cX12_ball 63 = .ok (.iload_n 1, 1) := by decide +kernel
theorem dX12_ball_64 : decode cX12_ball 64 = .ok (.imul, 1) := by decide +kernel
theorem dX12_ball_65 : decode cX12_ball 65 = .ok (.iload_n 3, 1) := by decide +kernel
theorem dX12_ball_66 : decode cX12_ball 66 = .ok (.iadd, 1) := by decide +kernel
theorem dX12_ball_67 : decode cX12_ball 67 = .ok (.iaload, 1) := by decide +kernel
theorem dX12_ball_68 : decode cX12_ball 68 = .ok (.iconst 1, 1) := by decide +kernel
theorem dX12_ball_69 : decode cX12_ball 69 = .ok (.isub, 1) := by decide +kernel
theorem dX12_ball_70 : decode cX12_ball 70 = .ok (.invokevirtual 228, 3) := by decide +kernel
theorem dX12_ball_73 : decode cX12_ball 73 = .ok (.istore 4, 2) := by decide +kernel
theorem dX12_ball_75 : decode cX12_ball 75 = .ok (.iload_n 2, 1) := by decide +kernel
theorem dX12_ball_76 : decode cX12_ball 76 = .ok (.sipush 255, 3) := by decide +kernel
theorem dX12_ball_79 : decode cX12_ball 79 = .ok (.iand, 1) := by decide +kernel
theorem dX12_ball_80 : decode cX12_ball 80 = .ok (.istore 5, 2) := by decide +kernel
theorem dX12_ball_82 : decode cX12_ball 82 = .ok (.aload_n 0, 1) := by decide +kernel
theorem dX12_ball_83 : decode cX12_ball 83 = .ok (.getfield 200, 3) := by decide +kernel
theorem dX12_ball_86 : decode cX12_ball 86 = .ok (.ifCond .eq 14, 3) := by decide +kernel
theorem dX12_ball_89 : decode cX12_ball 89 = .ok (.aload_n 0, 1) := by decide +kernel
theorem dX12_ball_90 : decode cX12_ball 90 = .ok (.aload_n 0, 1) := by decide +kernel
theorem dX12_ball_91 : decode cX12_ball 91 = .ok (.getfield 200, 3) := by decide +kernel
theorem dX12_ball_94 : decode cX12_ball 94 = .ok (.putfield 297, 3) := by decide +kernel
theorem dX12_ball_97 : decode cX12_ball 97 = .ok (.goto 72, 3) := by decide +kernel
theorem dX12_ball_100 : decode cX12_ball 100 = .ok (.iload 4, 2) := by decide +kernel
theorem dX12_ball_102 : decode cX12_ball 102 = .ok (.iconst (-1), 1) := by decide +kernel
theorem dX12_ball_103 : decode cX12_ball 103 = .ok (.if_icmp .eq 14, 3) := by decide +kernel
theorem dX12_ball_106 : decode cX12_ball 106 = .ok (.aload_n 0, 1) := by decide +kernel
theorem dX12_ball_107 : decode cX12_ball 107 = .ok (.getfield 38, 3) := by decide +kernel
theorem dX12_ball_110 : decode cX12_ball 110 = .ok (.iload 4, 2) := by decide +kernel
theorem dX12_ball_112 : decode cX12_ball 112 = .ok (.iaload, 1) := by decide +kernel
theorem dX12_ball_113 : decode cX12_ball 113 = .ok (.iconst (-1), 1) := by decide +kernel
theorem dX12_ball_114 : decode cX12_ball 114 = .ok (.if_icmp .ne 12, 3) := by decide +kernel
theorem dX12_ball_117 : decode cX12_ball 117 = .ok (.aload_n 0, 1) := by decide +kernel
theorem dX12_ball_118 : decode cX12_ball 118 = .ok (.bipush 11, 2) := by decide +kernel
theorem dX12_ball_120 : decode cX12_ball 120 = .ok (.putfield 297, 3) := by decide +kernel
theorem dX12_ball_123 : decode cX12_ball 123 = .ok (.goto 46, 3) := by decide +kernel
theorem dX12_ball_126 : decode cX12_ball 126 = .ok (.aload_n 0, 1) := by decide +kernel
theorem dX12_ball_127 : decode cX12_ball 127 = .ok (.getfield 38, 3) := by decide +kernel
theorem dX12_ball_130 : decode cX12_ball 130 = .ok (.iload 4, 2) := by decide +kernel
theorem dX12_ball_132 : decode cX12_ball 132 = .ok (.iaload, 1) := by decide +kernel
theorem dX12_ball_133 : decode cX12_ball 133 = .ok (.bipush 40, 2) := by decide +kernel
theorem dX12_ball_135 : decode cX12_ball 135 = .ok (.if_icmp .ne 12, 3) := by decide +kernel
theorem dX12_ball_138 : decode cX12_ball 138 = .ok (.aload_n 0, 1) := by decide +kernel
theorem dX12_ball_139 : decode cX12_ball 139 = .ok (.bipush 12, 2) := by decide +kernel
theorem dX12_ball_141 : decode cX12_ball 141 = .ok (.putfield 297, 3) := by decide +kernel
theorem dX12_ball_144 : decode cX12_ball 144 = .ok (.goto 25, 3) := by decide +kernel
theorem dX12_ball_147 : decode cX12_ball 147 = .ok (.aload_n 0, 1) := by decide +kernel
theorem dX12_ball_148 : decode cX12_ball 148 = .ok (.aload_n 0, 1) := by decide +kernel
theorem dX12_ball_149 : decode cX12_ball 149 = .ok (.iload_n 1, 1) := by decide +kernel
theorem dX12_ball_150 : decode cX12_ball 150 = .ok (.iload_n 3, 1) := by decide +kernel
theorem dX12_ball_151 : decode cX12_ball 151 = .ok (.iload 4, 2) := by decide +kernel
theorem dX12_ball_153 : decode cX12_ball 153 = .ok (.iload 5, 2) := by decide +kernel
theorem dX12_ball_155 : decode cX12_ball 155 = .ok (.bipush 16, 2) := by decide +kernel
theorem dX12_ball_157 : decode cX12_ball 157 = .ok (.idiv, 1) := by decide +kernel
theorem dX12_ball_158 : decode cX12_ball 158 = .ok (.iload 5, 2) := by decide +kernel
theorem dX12_ball_160 : decode cX12_ball 160 = .ok (.bipush 16, 2) := by decide +kernel
theorem dX12_ball_162 : decode cX12_ball 162 = .ok (.irem, 1) := by decide +kernel
theorem dX12_ball_163 : decode cX12_ball 163 = .ok (.invokevirtual 257, 3) := by decide +kernel
theorem dX12_ball_166 : decode cX12_ball 166 = .ok (.putfield 297, 3) := by decide +kernel
theorem dX12_ball_169 : decode cX12_ball 169 = .ok (.aload_n 0, 1) := by decide +kernel
theorem dX12_ball_170 : decode cX12_ball 170 = .ok (.getfield 297, 3) := by decide +kernel
theorem dX12_ball_173 : decode cX12_ball 173 = .ok (.ifCond .eq 5, 3) := by decide +kernel
theorem dX12_ball_176 : decode cX12_ball 176 = .ok (.iconst 0, 1) := by decide +kernel
theorem dX12_ball_177 : decode cX12_ball 177 = .ok (.ireturn, 1) := by decide +kernel
theorem dX12_ball_178 : decode cX12_ball 178 = .ok (.aload_n 0, 1) := by decide +kernel
theorem dX12_ball_179 : decode cX12_ball 179 = .ok (.getfield 42, 3) := by decide +kernel
theorem dX12_ball_182 : decode cX12_ball 182 = .ok (.bipush 40, 2) := by decide +kernel
theorem dX12_ball_184 : decode cX12_ball 184 = .ok (.iload 4, 2) := by decide +kernel
theorem dX12_ball_186 : decode cX12_ball 186 = .ok (.imul, 1) := by decide +kernel
theorem dX12_ball_187 : decode cX12_ball 187 = .ok (.aload_n 0, 1) := by decide +kernel
theorem dX12_ball_188 : decode cX12_ball 188 = .ok (.getfield 38, 3) := by decide +kernel
theorem dX12_ball_191 : decode cX12_ball 191 = .ok (.iload 4, 2) := by decide +kernel
theorem dX12_ball_193 : decode cX12_ball 193 = .ok (.iaload, 1) := by decide +kernel
theorem dX12_ball_194 : decode cX12_ball 194 = .ok (.iadd, 1) := by decide +kernel
theorem dX12_ball_195 : decode cX12_ball 195 = .ok (.iload 5, 2) := by decide +kernel
theorem dX12_ball_197 : decode cX12_ball 197 = .ok (.iastore, 1) := by decide +kernel
theorem dX12_ball_198 : decode cX12_ball 198 = .ok (.aload_n 0, 1) := by decide +kernel
theorem dX12_ball_199 : decode cX12_ball 199 = .ok (.getfield 38, 3) := by decide +kernel
theorem dX12_ball_202 : decode cX12_ball 202 = .ok (.iload 4, 2) := by decide +kernel
theorem dX12_ball_204 : decode cX12_ball 204 = .ok (.dup2, 1) := by decide +kernel
theorem dX12_ball_205 : decode cX12_ball 205 = .ok (.iaload, 1) := by decide +kernel
theorem dX12_ball_206 : decode cX12_ball 206 = .ok (.iconst 1, 1) := by decide +kernel
theorem dX12_ball_207 : decode cX12_ball 207 = .ok (.iadd, 1) := by decide +kernel
theorem dX12_ball_208 : decode cX12_ball 208 = .ok (.iastore, 1) := by decide +kernel
theorem dX12_ball_209 : decode cX12_ball 209 = .ok (.aload_n 0, 1) := by decide +kernel
theorem dX12_ball_210 : decode cX12_ball 210 = .ok (.iconst 2, 1) := by decide +kernel
theorem dX12_ball_211 : decode cX12_ball 211 = .ok (.iload_n 1, 1) := by decide +kernel
theorem dX12_ball_212 : decode cX12_ball 212 = .ok (.iload 4, 2) := by decide +kernel
theorem dX12_ball_214 : decode cX12_ball 214 = .ok (.aload_n 0, 1) := by decide +kernel
theorem dX12_ball_215 : decode cX12_ball 215 = .ok (.getfield 38, 3) := by decide +kernel
theorem dX12_ball_218 : decode cX12_ball 218 = .ok (.iload 4, 2) := by decide +kernel
theorem dX12_ball_220 : decode cX12_ball 220 = .ok (.iaload, 1) := by decide +kernel
theorem dX12_ball_221 : decode cX12_ball 221 = .ok (.iconst 1, 1) := by decide +kernel
theorem dX12_ball_222 : decode cX12_ball 222 = .ok (.isub, 1) := by decide +kernel
theorem dX12_ball_223 : decode cX12_ball 223 = .ok (.iconst 0, 1) := by decide +kernel
theorem dX12_ball_224 : decode cX12_ball 224 = .ok (.invokevirtual 303, 3) := by decide +kernel
theorem dX12_ball_227 : decode cX12_ball 227 = .ok (.iconst 1, 1) := by decide +kernel
theorem dX12_ball_228 : decode cX12_ball 228 = .ok (.ireturn, 1) := by decide +kernel
theorem dX12_feed_0 : decode cX12_feed 0 = .ok (.aload_n 0, 1) := by decide +kernel
theorem dX12_feed_1 : decode cX12_feed 1 = .ok (.iconst 0, 1) := by decide +kernel
theorem dX12_feed_2 : decode cX12_feed 2 = .ok (.putfield 175, 3) := by decide +kernel
theorem dX12_feed_5 : decode cX12_feed 5 = .ok (.aload_n 0, 1) := by decide +kernel
theorem dX12_feed_6 : decode cX12_feed 6 = .ok (.getfield 309, 3) := by decide +kernel
theorem dX12_feed_9 : decode cX12_feed 9 = .ok (.bipush 20, 2) := by decide +kernel
theorem dX12_feed_11 : decode cX12_feed 11 = .ok (.iadd, 1) := by decide +kernel
theorem dX12_feed_12 : decode cX12_feed 12 = .ok (.sipush 6000, 3) := by decide +kernel
theorem dX12_feed_15 : decode cX12_feed 15 = .ok (.if_icmp .le 5, 3) := by decide +kernel
theorem dX12_feed_18 : decode cX12_feed 18 = .ok (.iconst (-1), 1) := by decide +kernel
theorem dX12_feed_19 : decode cX12_feed 19 = .ok (.ireturn, 1) := by decide +kernel
theorem dX12_feed_20 : decode cX12_feed 20 = .ok (.iconst 0, 1) := by decide +kernel
theorem dX12_feed_21 : decode cX12_feed 21 = .ok (.istore 6, 2) := by decide +kernel
theorem dX12_feed_23 : decode cX12_feed 23 = .ok (.iload 6, 2) := by decide +kernel
theorem dX12_feed_25 : decode cX12_feed 25 = .ok (.bipush 20, 2) := by decide +kernel
theorem dX12_feed_27 : decode cX12_feed 27 = .ok (.if_icmp .ge 93, 3) := by decide +kernel
theorem dX12_feed_30 : decode cX12_feed 30 = .ok (.iload 6, 2) := by decide +kernel
theorem dX12_feed_32 : decode cX12_feed 32 = .ok (.iconst 4, 1) := by decide +kernel
theorem dX12_feed_33 : decode cX12_feed 33 = .ok (.if_icmp .ge 7, 3) := by decide +kernel
theorem dX12_feed_36 : decode cX12_feed 36 = .ok (.iload_n 1, 1) := by decide +kernel
theorem dX12_feed_37 : decode cX12_feed 37 = .ok (.goto 39, 3) := by decide +kernel
theorem dX12_feed_40 : decode cX12_feed 40 = .ok (.iload 6, 2) := by decide +kernel
theorem dX12_feed_42 : decode cX12_feed 42 = .ok (.bipush 8, 2) := by decide +kernel
theorem dX12_feed_44 : decode cX12_feed 44 = .ok (.if_icmp .ge 7, 3) := by decide +kernel
theorem dX12_feed_47 : decode cX12_feed 47 = .ok (.iload_n 2, 1) := by decide +kernel
theorem dX12_feed_48 : decode cX12_feed 48 = .ok (.goto 28, 3) := by decide +kernel
theorem dX12_feed_51 : decode cX12_feed 51 = .ok (.iload 6, 2) := by decide +kernel
theorem dX12_feed_53 : decode cX12_feed 53 = .ok (.bipush 12, 2) := by decide +kernel
theorem dX12_feed_55 : decode cX12_feed 55 = .ok (.if_icmp .ge 7, 3) := by decide +kernel
theorem dX12_feed_58 : decode cX12_feed 58 = .ok (.iload_n 3, 1) := by decide +kernel
theorem dX12_feed_59 : decode cX12_feed 59 = .ok (.goto 17, 3) := by decide +kernel
theorem dX12_feed_62 : decode cX12_feed 62 = .ok (.iload 6, 2) := by decide +kernel
theorem dX12_feed_64 : decode cX12_feed 64 = .ok (.bipush 16, 2) := by decide +kernel
theorem dX12_feed_66 : decode cX12_feed 66 = .ok (.if_icmp .ge 8, 3) := by decide +kernel
theorem dX12_feed_69 : decode cX12_feed 69 = .ok (.iload 4, 2) := by decide +kernel
theorem dX12_feed_71 : decode cX12_feed 71 = .ok (.goto 5, 3) := by decide +kernel
theorem dX12_feed_74 : decode cX12_feed 74 = .ok (.iload 5, 2) := by decide +kernel
theorem dX12_feed_76 : decode cX12_feed 76 = .ok (.istore 7, 2) := by decide +kernel
theorem dX12_feed_78 : decode cX12_feed 78 = .ok (.aload_n 0, 1) := by decide +kernel
theorem dX12_feed_79 : decode cX12_feed 79 = .ok (.getfield 45, 3) := by decide +kernel
theorem dX12_feed_82 : decode cX12_feed 82 = .ok (.aload_n 0, 1) := by decide +kernel
theorem dX12_feed_83 : decode cX12_feed 83 = .ok (.getfield 309, 3) := by decide +kernel
theorem dX12_feed_86 : decode cX12_feed 86 = .ok (.iload 7, 2) := by decide +kernel
theorem dX12_feed_88 : decode cX12_feed 88 = .ok (.bipush 24, 2) := by decide +kernel
theorem dX12_feed_90 : decode cX12_feed 90 = .ok (.bipush 8, 2) := by decide +kernel
theorem dX12_feed_92 : decode cX12_feed 92 = .ok (.iload 6, 2) := by decide +kernel
theorem dX12_feed_94 : decode cX12_feed 94 = .ok (.iconst 4, 1) := by decide +kernel
theorem dX12_feed_95 : decode cX12_feed 95 = .ok (.irem, 1) := by decide +kernel
theorem dX12_feed_96 : decode cX12_feed 96 = .ok (.imul, 1) := by decide +kernel
theorem dX12_feed_97 : decode cX12_feed 97 = .ok (.isub, 1) := by decide +kernel
theorem dX12_feed_98 : decode cX12_feed 98 = .ok (.ishr, 1) := by decide +kernel
theorem dX12_feed_99 : decode cX12_feed 99 = .ok (.sipush 255, 3) := by decide +kernel
theorem dX12_feed_102 : decode cX12_feed 102 = .ok (.iand, 1) := by decide +kernel
theorem dX12_feed_103 : decode cX12_feed 103 = .ok (.iastore, 1) := by decide +kernel
theorem dX12_feed_104 : decode cX12_feed 104 = .ok (.aload_n 0, 1) := by decide +kernel
theorem dX12_feed_105 : decode cX12_feed 105 = .ok (.dup, 1) := by decide +kernel
theorem dX12_feed_106 : decode cX12_feed 106 = .ok (.getfield 309, 3) := by decide +kernel
theorem dX12_feed_109 : decode cX12_feed 109 = .ok (.iconst 1, 1) := by decide +kernel
theorem dX12_feed_110 : decode cX12_feed 110 = .ok (.iadd, 1) := by decide +kernel
theorem dX12_feed_111 : decode cX12_feed 111 = .ok (.putfield 309, 3) := by decide +kernel
theorem dX12_feed_114 : decode cX12_feed 114 = .ok (.iinc 6 1, 3) := by decide +kernel
theorem dX12_feed_117 : decode cX12_feed 117 = .ok (.goto (-94), 3) := by decide +kernel
theorem dX12_feed_120 : decode cX12_feed 120 = .ok (.aload_n 0, 1) := by decide +kernel
theorem dX12_feed_121 : decode cX12_feed 121 = .ok (.getfield 309, 3) := by decide +kernel
theorem dX12_feed_124 : decode cX12_feed 124 = .ok (.ireturn, 1) := by decide +kernel
theorem dX12_find_0 : decode cX12_find 0 = .ok (.aload_n 0, 1) := by decide +kernel
theorem dX12_find_1 : decode cX12_find 1 = .ok (.iload_n 1, 1) := by decide +kernel
theorem dX12_find_2 : decode cX12_find 2 = .ok (.invokevirtual 193, 3) := by decide +kernel
theorem dX12_find_5 : decode cX12_find 5 = .ok (.ifCond .eq 45, 3) := by decide +kernel
theorem dX12_find_8 : decode cX12_find 8 = .ok (.iload_n 2, 1) := by decide +kernel
theorem dX12_find_9 : decode cX12_find 9 = .ok (.ifCond .lt 41, 3) := by decide +kernel
theorem dX12_find_12 : decode cX12_find 12 = .ok (.iload_n 2, 1) := by decide +kernel
theorem dX12_find_13 : decode cX12_find 13 = .ok (.aload_n 0, 1) := by decide +kernel
theorem dX12_find_14 : decode cX12_find 14 = .ok (.getfield 25, 3) := by decide +kernel
theorem dX12_find_17 : decode cX12_find 17 = .ok (.iload_n 1, 1) := by decide +kernel
theorem dX12_find_18 : decode cX12_find 18 = .ok (.iaload, 1) := by decide +kernel
theorem dX12_find_19 : decode cX12_find 19 = .ok (.if_icmp .ge 31, 3) := by decide +kernel
theorem dX12_find_22 : decode cX12_find 22 = .ok (.iload_n 3, 1) := by decide +kernel
theorem dX12_find_23 : decode cX12_find 23 = .ok (.ifCond .lt 27, 3) := by decide +kernel
theorem dX12_find_26 : decode cX12_find 26 = .ok (.iload_n 3, 1) := by decide +kernel
theorem dX12_find_27 : decode cX12_find 27 = .ok (.aload_n 0, 1) := by decide +kernel
theorem dX12_find_28 : decode cX12_find 28 = .ok (.getfield 28, 3) := by decide +kernel
theorem dX12_find_31 : decode cX12_find 31 = .ok (.iconst 4, 1) := by decide +kernel
theorem dX12_find_32 : decode cX12_find 32 = .ok (.iload_n 1, 1) := by decide +kernel
theorem dX12_find_33 : decode cX12_find 33 = .ok (.imul, 1) := by decide +kernel
theorem dX12_find_34 : decode cX12_find 34 = .ok (.iload_n 2, 1) := by decide +kernel
theorem dX12_find_35 : decode cX12_find 35 = .ok (.iadd, 1) := by decide +kernel
theorem dX12_find_36 : decode cX12_find 36 = .ok (.iaload, 1) := by decide +kernel
theorem dX12_find_37 : decode cX12_find 37 = .ok (.if_icmp .ge 13, 3) := by decide +kernel
theorem dX12_find_40 : decode cX12_find 40 = .ok (.aload_n 0, 1) := by decide +kernel
theorem dX12_find_41 : decode cX12_find 41 = .ok (.iload_n 1, 1) := by decide +kernel
theorem dX12_find_42 : decode cX12_find 42 = .ok (.iload_n 2, 1) := by decide +kernel
theorem dX12_find_43 : decode cX12_find 43 = .ok (.iload_n 3, 1) := by decide +kernel
theorem dX12_find_44 : decode cX12_find 44 = .ok (.invokevirtual 228, 3) := by decide +kernel
theorem dX12_find_47 : decode cX12_find 47 = .ok (.goto 4, 3) := by decide +kernel
theorem dX12_find_50 : decode cX12_find 50 = .ok (.iconst (-1), 1) := by decide +kernel
theorem dX12_find_51 : decode cX12_find 51 = .ok (.ireturn, 1) := by decide +kernel
theorem dX12_open_0 : decode cX12_open 0 = .ok (.aload_n 0, 1) := by decide +kernel
theorem dX12_open_1 : decode cX12_open 1 = .ok (.iconst 0, 1) := by decide +kernel
theorem dX12_open_2 : decode cX12_open 2 = .ok (.putfield 175, 3) := by decide +kernel
theorem dX12_open_5 : decode cX12_open 5 = .ok (.aload_n 0, 1) := by decide +kernel
theorem dX12_open_6 : decode cX12_open 6 = .ok (.iload_n 1, 1) := by decide +kernel
theorem dX12_open_7 : decode cX12_open 7 = .ok (.iload_n 2, 1) := by decide +kernel
theorem dX12_open_8 : decode cX12_open 8 = .ok (.iload_n 3, 1) := by decide +kernel
theorem dX12_open_9 : decode cX12_open 9 = .ok (.invokevirtual 312, 3) := by decide +kernel
theorem dX12_open_12 : decode cX12_open 12 = .ok (.istore 5, 2) := by decide +kernel
theorem dX12_open_14 : decode cX12_open 14 = .ok (.iload 5, 2) := by decide +kernel
theorem dX12_open_16 : decode cX12_open 16 = .ok (.iconst (-1), 1) := by decide +kernel
theorem dX12_open_17 : decode cX12_open 17 = .ok (.if_icmp .eq 24, 3) := by decide +kernel
theorem dX12_open_20 : decode cX12_open 20 = .ok (.iload 4, 2) := by decide +kernel
theorem dX12_open_22 : decode cX12_open 22 = .ok (.ifCond .lt 19, 3) := by decide +kernel
theorem dX12_open_25 : decode cX12_open 25 = .ok (.iload 4, 2) := by decide +kernel
theorem dX12_open_27 : decode cX12_open 27 = .ok (.bipush 40, 2) := by decide +kernel
theorem dX12_open_29 : decode cX12_open 29 = .ok (.if_icmp .gt 12, 3) := by decide +kernel
theorem dX12_open_32 : decode cX12_open 32 = .ok (.iload 4, 2) := by decide +kernel
theorem dX12_open_34 : decode cX12_open 34 = .ok (.aload_n 0, 1) := by decide +kernel
theorem dX12_open_35 : decode cX12_open 35 = .ok (.getfield 309, 3) := by decide +kernel
theorem dX12_open_38 : decode cX12_open 38 = .ok (.if_icmp .le 5, 3) := by decide +kernel
theorem dX12_open_41 : decode cX12_open 41 = .ok (.iconst 0, 1) := by decide +kernel
theorem dX12_open_42 : decode cX12_open 42 = .ok (.ireturn, 1) := by decide +kernel
theorem dX12_open_43 : decode cX12_open 43 = .ok (.aload_n 0, 1) := by decide +kernel
theorem dX12_open_44 : decode cX12_open 44 = .ok (.iconst 3, 1) := by decide +kernel
theorem dX12_open_45 : decode cX12_open 45 = .ok (.iload_n 1, 1) := by decide +kernel
theorem dX12_open_46 : decode cX12_open 46 = .ok (.iload 5, 2) := by decide +kernel
theorem dX12_open_48 : decode cX12_open 48 = .ok (.iconst 0, 1) := by decide +kernel
theorem dX12_open_49 : decode cX12_open 49 = .ok (.iconst 0, 1) := by decide +kernel
theorem dX12_open_50 : decode cX12_open 50 = .ok (.invokevirtual 303, 3) := by decide +kernel
theorem dX12_open_53 : decode cX12_open 53 = .ok (.aload_n 0, 1) := by decide +kernel
theorem dX12_open_54 : decode cX12_open 54 = .ok (.iload 5, 2) := by decide +kernel
theorem dX12_open_56 : decode cX12_open 56 = .ok (.invokevirtual 315, 3) := by decide +kernel
theorem dX12_open_59 : decode cX12_open 59 = .ok (.aload_n 0, 1) := by decide +kernel
theorem dX12_open_60 : decode cX12_open 60 = .ok (.getfield 38, 3) := by decide +kernel
theorem dX12_open_63 : decode cX12_open 63 = .ok (.iload 5, 2) := by decide +kernel
theorem dX12_open_65 : decode cX12_open 65 = .ok (.iload 4, 2) := by decide +kernel
theorem dX12_open_67 : decode cX12_open 67 = .ok (.iastore, 1) := by decide +kernel
theorem dX12_open_68 : decode cX12_open 68 = .ok (.iconst 0, 1) := by decide +kernel
theorem dX12_open_69 : decode cX12_open 69 = .ok (.istore 6, 2) := by decide +kernel
theorem dX12_open_71 : decode cX12_open 71 = .ok (.iload 6, 2) := by decide +kernel
theorem dX12_open_73 : decode cX12_open 73 = .ok (.iload 4, 2) := by decide +kernel
theorem dX12_open_75 : decode cX12_open 75 = .ok (.if_icmp .ge 29, 3) := by decide +kernel
theorem dX12_open_78 : decode cX12_open 78 = .ok (.aload_n 0, 1) := by decide +kernel
theorem dX12_open_79 : decode cX12_open 79 = .ok (.getfield 42, 3) := by decide +kernel
theorem dX12_open_82 : decode cX12_open 82 = .ok (.bipush 40, 2) := by decide +kernel
theorem dX12_open_84 : decode cX12_open 84 = .ok (.iload 5, 2) := by decide +kernel
theorem dX12_open_86 : decode cX12_open 86 = .ok (.imul, 1) := by decide +kernel
theorem dX12_open_87 : decode cX12_open 87 = .ok (.iload 6, 2) := by decide +kernel
theorem dX12_open_89 : decode cX12_open 89 = .ok (.iadd, 1) := by decide +kernel
theorem dX12_open_90 : decode cX12_open 90 = .ok (.aload_n 0, 1) := by decide +kernel
theorem dX12_open_91 : decode cX12_open 91 = .ok (.getfield 45, 3) := by decide +kernel
theorem dX12_open_94 : decode cX12_open 94 = .ok (.iload 6, 2) := by decide +kernel
theorem dX12_open_96 : decode cX12_open 96 = .ok (.iaload, 1) := by decide +kernel
theorem dX12_open_97 : decode cX12_open 97 = .ok (.iastore, 1) := by decide +kernel
theorem dX12_open_98 : decode cX12_open 98 = .ok (.iinc 6 1, 3) := by decide +kernel
theorem dX12_open_101 : decode cX12_open 101 = .ok (.goto (-30), 3) := by decide +kernel
theorem dX12_open_104 : decode cX12_open 104 = .ok (.aload_n 0, 1) := by decide +kernel
theorem dX12_open_105 : decode cX12_open 105 = .ok (.iconst 0, 1) := by decide +kernel
theorem dX12_open_106 : decode cX12_open 106 = .ok (.putfield 309, 3) := by decide +kernel
theorem dX12_open_109 : decode cX12_open 109 = .ok (.iconst 1, 1) := by decide +kernel
theorem dX12_open_110 : decode cX12_open 110 = .ok (.ireturn, 1) := by decide +kernel
theorem dX12_tear_0 : decode cX12_tear 0 = .ok (.aload_n 0, 1) := by decide +kernel
theorem dX12_tear_1 : decode cX12_tear 1 = .ok (.iconst 0, 1) := by decide +kernel
theorem dX12_tear_2 : decode cX12_tear 2 = .ok (.putfield 175, 3) := by decide +kernel
theorem dX12_tear_5 : decode cX12_tear 5 = .ok (.aload_n 0, 1) := by decide +kernel
theorem dX12_tear_6 : decode cX12_tear 6 = .ok (.iload_n 1, 1) := by decide +kernel
theorem dX12_tear_7 : decode cX12_tear 7 = .ok (.iload_n 2, 1) := by decide +kernel
theorem dX12_tear_8 : decode cX12_tear 8 = .ok (.iload_n 3, 1) := by decide +kernel
theorem dX12_tear_9 : decode cX12_tear 9 = .ok (.invokevirtual 312, 3) := by decide +kernel
theorem dX12_tear_12 : decode cX12_tear 12 = .ok (.istore 4, 2) := by decide +kernel
theorem dX12_tear_14 : decode cX12_tear 14 = .ok (.iload 4, 2) := by decide +kernel
theorem dX12_tear_16 : decode cX12_tear 16 = .ok (.iconst (-1), 1) := by decide +kernel
theorem dX12_tear_17 : decode cX12_tear 17 = .ok (.if_icmp .eq 14, 3) := by decide +kernel
theorem dX12_tear_20 : decode cX12_tear 20 = .ok (.aload_n 0, 1) := by decide +kernel
theorem dX12_tear_21 : decode cX12_tear 21 = .ok (.getfield 38, 3) := by decide +kernel
theorem dX12_tear_24 : decode cX12_tear 24 = .ok (.iload 4, 2) := by decide +kernel
theorem dX12_tear_26 : decode cX12_tear 26 = .ok (.iaload, 1) := by decide +kernel
theorem dX12_tear_27 : decode cX12_tear 27 = .ok (.iconst (-1), 1) := by decide +kernel
theorem dX12_tear_28 : decode cX12_tear 28 = .ok (.if_icmp .ne 5, 3) := by decide +kernel
theorem dX12_tear_31 : decode cX12_tear 31 = .ok (.iconst 0, 1) := by decide +kernel
theorem dX12_tear_32 : decode cX12_tear 32 = .ok (.ireturn, 1) := by decide +kernel
theorem dX12_tear_33 : decode cX12_tear 33 = .ok (.aload_n 0, 1) := by decide +kernel
theorem dX12_tear_34 : decode cX12_tear 34 = .ok (.iconst 3, 1) := by decide +kernel
theorem dX12_tear_35 : decode cX12_tear 35 = .ok (.iload_n 1, 1) := by decide +kernel
theorem dX12_tear_36 : decode cX12_tear 36 = .ok (.iload 4, 2) := by decide +kernel
theorem dX12_tear_38 : decode cX12_tear 38 = .ok (.iconst 0, 1) := by decide +kernel
theorem dX12_tear_39 : decode cX12_tear 39 = .ok (.iconst 0, 1) := by decide +kernel
theorem dX12_tear_40 : decode cX12_tear 40 = .ok (.invokevirtual 303, 3) := by decide +kernel
theorem dX12_tear_43 : decode cX12_tear 43 = .ok (.aload_n 0, 1) := by decide +kernel
theorem dX12_tear_44 : decode cX12_tear 44 = .ok (.iload 4, 2) := by decide +kernel
theorem dX12_tear_46 : decode cX12_tear 46 = .ok (.invokevirtual 315, 3) := by decide +kernel
theorem dX12_tear_49 : decode cX12_tear 49 = .ok (.aload_n 0, 1) := by decide +kernel
theorem dX12_tear_50 : decode cX12_tear 50 = .ok (.getfield 38, 3) := by decide +kernel
theorem dX12_tear_53 : decode cX12_tear 53 = .ok (.iload 4, 2) := by decide +kernel
theorem dX12_tear_55 : decode cX12_tear 55 = .ok (.iconst (-1), 1) := by decide +kernel
theorem dX12_tear_56 : decode cX12_tear 56 = .ok (.iastore, 1) := by decide +kernel
theorem dX12_tear_57 : decode cX12_tear 57 = .ok (.iconst 1, 1) := by decide +kernel
theorem dX12_tear_58 : decode cX12_tear 58 = .ok (.ireturn, 1) := by decide +kernel
theorem dX12_insert_0 : decode cX12_insert 0 = .ok (.aload_n 0, 1) := by decide +kernel
theorem dX12_insert_1 : decode cX12_insert 1 = .ok (.getfield 38, 3) := by decide +kernel
theorem dX12_insert_4 : decode cX12_insert 4 = .ok (.iload_n 1, 1) := by decide +kernel
theorem dX12_insert_5 : decode cX12_insert 5 = .ok (.iaload, 1) := by decide +kernel
theorem dX12_insert_6 : decode cX12_insert 6 = .ok (.istore 4, 2) := by decide +kernel
theorem dX12_insert_8 : decode cX12_insert 8 = .ok (.iload 4, 2) := by decide +kernel
theorem dX12_insert_10 : decode cX12_insert 10 = .ok (.iload_n 2, 1) := by decide +kernel
theorem dX12_insert_11 : decode cX12_insert 11 = .ok (.if_icmp .le 35, 3) := by decide +kernel
theorem dX12_insert_14 : decode cX12_insert 14 = .ok (.aload_n 0, 1) := by decide +kernel
theorem dX12_insert_15 : decode cX12_insert 15 = .ok (.getfield 42, 3) := by decide +kernel
theorem dX12_insert_18 : decode cX12_insert 18 = .ok (.bipush 40, 2) := by decide +kernel
theorem dX12_insert_20 : decode cX12_insert 20 = .ok (.iload_n 1, 1) := by decide +kernel
theorem dX12_insert_21 : decode cX12_insert 21 = .ok (.imul, 1) := by decide +kernel
theorem dX12_insert_22 : decode cX12_insert 22 = .ok (.iload 4, 2) := by decide +kernel
theorem dX12_insert_24 : decode cX12_insert 24 = .ok (.iadd, 1) := by decide +kernel
theorem dX12_insert_25 : decode cX12_insert 25 = .ok (.aload_n 0, 1) := by decide +kernel
theorem dX12_insert_26 : decode cX12_insert 26 = .ok (.getfield 42, 3) := by decide +kernel
theorem dX12_insert_29 : decode cX12_insert 29 = .ok (.bipush 40, 2) := by decide +kernel
theorem dX12_insert_31 : decode cX12_insert 31 = .ok (.iload_n 1, 1) := by decide +kernel
theorem dX12_insert_32 : decode cX12_insert 32 = .ok (.imul, 1) := by decide +kernel
theorem dX12_insert_33 : decode cX12_insert 33 = .ok (.iload 4, 2) := by decide +kernel
theorem dX12_insert_35 : decode cX12_insert 35 = .ok (.iadd, 1) := by decide +kernel
theorem dX12_insert_36 : decode cX12_insert 36 = .ok (.iconst 1, 1) := by decide +kernel
theorem dX12_insert_37 : decode cX12_insert 37 = .ok (.isub, 1) := by decide +kernel
theorem dX12_insert_38 : decode cX12_insert 38 = .ok (.iaload, 1) := by decide +kernel
theorem dX12_insert_39 : decode cX12_insert 39 = .ok (.iastore, 1) := by decide +kernel
theorem dX12_insert_40 : decode cX12_insert 40 = .ok (.iinc 4 (-1), 3) := by decide +kernel
theorem dX12_insert_43 : decode cX12_insert 43 = .ok (.goto (-35), 3) := by decide +kernel
theorem dX12_insert_46 : decode cX12_insert 46 = .ok (.aload_n 0, 1) := by decide +kernel
theorem dX12_insert_47 : decode cX12_insert 47 = .ok (.getfield 42, 3) := by decide +kernel
theorem dX12_insert_50 : decode cX12_insert 50 = .ok (.bipush 40, 2) := by decide +kernel
theorem dX12_insert_52 : decode cX12_insert 52 = .ok (.iload_n 1, 1) := by decide +kernel
theorem dX12_insert_53 : decode cX12_insert 53 = .ok (.imul, 1) := by decide +kernel
theorem dX12_insert_54 : decode cX12_insert 54 = .ok (.iload_n 2, 1) := by decide +kernel
theorem dX12_insert_55 : decode cX12_insert 55 = .ok (.iadd, 1) := by decide +kernel
theorem dX12_insert_56 : decode cX12_insert 56 = .ok (.iload_n 3, 1) := by decide +kernel
theorem dX12_insert_57 : decode cX12_insert 57 = .ok (.iastore, 1) := by decide +kernel
theorem dX12_insert_58 : decode cX12_insert 58 = .ok (.aload_n 0, 1) := by decide +kernel
theorem dX12_insert_59 : decode cX12_insert 59 = .ok (.getfield 38, 3) := by decide +kernel
theorem dX12_insert_62 : decode cX12_insert 62 = .ok (.iload_n 1, 1) := by decide +kernel
theorem dX12_insert_63 : decode cX12_insert 63 = .ok (.dup2, 1) := by decide +kernel
theorem dX12_insert_64 : decode cX12_insert 64 = .ok (.iaload, 1) := by decide +kernel
theorem dX12_insert_65 : decode cX12_insert 65 = .ok (.iconst 1, 1) := by decide +kernel
theorem dX12_insert_66 : decode cX12_insert 66 = .ok (.iadd, 1) := by decide +kernel
theorem dX12_insert_67 : decode cX12_insert 67 = .ok (.iastore, 1) := by decide +kernel
theorem dX12_insert_68 : decode cX12_insert 68 = .ok (.return_, 1) := by decide +kernel
theorem dX12_remove_0 : decode cX12_remove 0 = .ok (.iload_n 2, 1) := by decide +kernel
theorem dX12_remove_1 : decode cX12_remove 1 = .ok (.istore_n 3, 1) := by decide +kernel
theorem dX12_remove_2 : decode cX12_remove 2 = .ok (.iload_n 3, 1) := by decide +kernel
theorem dX12_remove_3 : decode cX12_remove 3 = .ok (.aload_n 0, 1) := by decide +kernel
theorem dX12_remove_4 : decode cX12_remove 4 = .ok (.getfield 38, 3) := by decide +kernel
theorem dX12_remove_7 : decode cX12_remove 7 = .ok (.iload_n 1, 1) := by decide +kernel
theorem dX12_remove_8 : decode cX12_remove 8 = .ok (.iaload, 1) := by decide +kernel
theorem dX12_remove_9 : decode cX12_remove 9 = .ok (.iconst 1, 1) := by decide +kernel
theorem dX12_remove_10 : decode cX12_remove 10 = .ok (.isub, 1) := by decide +kernel
theorem dX12_remove_11 : decode cX12_remove 11 = .ok (.if_icmp .ge 33, 3) := by decide +kernel
theorem dX12_remove_14 : decode cX12_remove 14 = .ok (.aload_n 0, 1) := by decide +kernel
theorem dX12_remove_15 : decode cX12_remove 15 = .ok (.getfield 42, 3) := by decide +kernel
theorem dX12_remove_18 : decode cX12_remove 18 = .ok (.bipush 40, 2) := by decide +kernel
theorem dX12_remove_20 : decode cX12_remove 20 = .ok (.iload_n 1, 1) := by decide +kernel
theorem dX12_remove_21 : decode cX12_remove 21 = .ok (.imul, 1) := by decide +kernel
theorem dX12_remove_22 : decode cX12_remove 22 = .ok (.iload_n 3, 1) := by decide +kernel
theorem dX12_remove_23 : decode cX12_remove 23 = .ok (.iadd, 1) := by decide +kernel
theorem dX12_remove_24 : decode cX12_remove 24 = .ok (.aload_n 0, 1) := by decide +kernel
theorem dX12_remove_25 : decode cX12_remove 25 = .ok (.getfield 42, 3) := by decide +kernel
theorem dX12_remove_28 : decode cX12_remove 28 = .ok (.bipush 40, 2) := by decide +kernel
theorem dX12_remove_30 : decode cX12_remove 30 = .ok (.iload_n 1, 1) := by decide +kernel
theorem dX12_remove_31 : decode cX12_remove 31 = .ok (.imul, 1) := by decide +kernel
theorem dX12_remove_32 : decode cX12_remove 32 = .ok (.iload_n 3, 1) := by decide +kernel
theorem dX12_remove_33 : decode cX12_remove 33 = .ok (.iadd, 1) := by decide +kernel
theorem dX12_remove_34 : decode cX12_remove 34 = .ok (.iconst 1, 1) := by decide +kernel
theorem dX12_remove_35 : decode cX12_remove 35 = .ok (.iadd, 1) := by decide +kernel
theorem dX12_remove_36 : decode cX12_remove 36 = .ok (.iaload, 1) := by decide +kernel
theorem dX12_remove_37 : decode cX12_remove 37 = .ok (.iastore, 1) := by decide +kernel
theorem dX12_remove_38 : decode cX12_remove 38 = .ok (.iinc 3 1, 3) := by decide +kernel
theorem dX12_remove_41 : decode cX12_remove 41 = .ok (.goto (-39), 3) := by decide +kernel
theorem dX12_remove_44 : decode cX12_remove 44 = .ok (.aload_n 0, 1) := by decide +kernel
theorem dX12_remove_45 : decode cX12_remove 45 = .ok (.getfield 38, 3) := by decide +kernel
theorem dX12_remove_48 : decode cX12_remove 48 = .ok (.iload_n 1, 1) := by decide +kernel
theorem dX12_remove_49 : decode cX12_remove 49 = .ok (.dup2, 1) := by decide +kernel
theorem dX12_remove_50 : decode cX12_remove 50 = .ok (.iaload, 1) := by decide +kernel
theorem dX12_remove_51 : decode cX12_remove 51 = .ok (.iconst 1, 1) := by decide +kernel
theorem dX12_remove_52 : decode cX12_remove 52 = .ok (.isub, 1) := by decide +kernel
theorem dX12_remove_53 : decode cX12_remove 53 = .ok (.iastore, 1) := by decide +kernel
theorem dX12_remove_54 : decode cX12_remove 54 = .ok (.return_, 1) := by decide +kernel
theorem dX12_put_0 : decode cX12_put 0 = .ok (.aload_n 0, 1) := by decide +kernel
theorem dX12_put_1 : decode cX12_put 1 = .ok (.iconst 0, 1) := by decide +kernel
theorem dX12_put_2 : decode cX12_put 2 = .ok (.putfield 175, 3) := by decide +kernel
theorem dX12_put_5 : decode cX12_put 5 = .ok (.aload_n 0, 1) := by decide +kernel
theorem dX12_put_6 : decode cX12_put 6 = .ok (.iload_n 1, 1) := by decide +kernel
theorem dX12_put_7 : decode cX12_put 7 = .ok (.iload_n 2, 1) := by decide +kernel
theorem dX12_put_8 : decode cX12_put 8 = .ok (.iload_n 3, 1) := by decide +kernel
theorem dX12_put_9 : decode cX12_put 9 = .ok (.invokevirtual 312, 3) := by decide +kernel
theorem dX12_put_12 : decode cX12_put 12 = .ok (.istore 6, 2) := by decide +kernel
theorem dX12_put_14 : decode cX12_put 14 = .ok (.iload 6, 2) := by decide +kernel
theorem dX12_put_16 : decode cX12_put 16 = .ok (.iconst (-1), 1) := by decide +kernel
theorem dX12_put_17 : decode cX12_put 17 = .ok (.if_icmp .eq 43, 3) := by decide +kernel
theorem dX12_put_20 : decode cX12_put 20 = .ok (.aload_n 0, 1) := by decide +kernel
theorem dX12_put_21 : decode cX12_put 21 = .ok (.getfield 38, 3) := by decide +kernel
theorem dX12_put_24 : decode cX12_put 24 = .ok (.iload 6, 2) := by decide +kernel
theorem dX12_put_26 : decode cX12_put 26 = .ok (.iaload, 1) := by decide +kernel
theorem dX12_put_27 : decode cX12_put 27 = .ok (.iconst (-1), 1) := by decide +kernel
theorem dX12_put_28 : decode cX12_put 28 = .ok (.if_icmp .eq 32, 3) := by decide +kernel
theorem dX12_put_31 : decode cX12_put 31 = .ok (.iload 4, 2) := by decide +kernel
theorem dX12_put_33 : decode cX12_put 33 = .ok (.ifCond .lt 27, 3) := by decide +kernel
theorem dX12_put_36 : decode cX12_put 36 = .ok (.iload 4, 2) := by decide +kernel
theorem dX12_put_38 : decode cX12_put 38 = .ok (.aload_n 0, 1) := by decide +kernel
theorem dX12_put_39 : decode cX12_put 39 = .ok (.getfield 38, 3) := by decide +kernel
theorem dX12_put_42 : decode cX12_put 42 = .ok (.iload 6, 2) := by decide +kernel
theorem dX12_put_44 : decode cX12_put 44 = .ok (.iaload, 1) := by decide +kernel
theorem dX12_put_45 : decode cX12_put 45 = .ok (.if_icmp .gt 15, 3) := by decide +kernel
theorem dX12_put_48 : decode cX12_put 48 = .ok (.aload_n 0, 1) := by decide +kernel
theorem dX12_put_49 : decode cX12_put 49 = .ok (.getfield 38, 3) := by decide +kernel
theorem dX12_put_52 : decode cX12_put 52 = .ok (.iload 6, 2) := by decide +kernel
theorem dX12_put_54 : decode cX12_put 54 = .ok (.iaload, 1) := by decide +kernel
theorem dX12_put_55 : decode cX12_put 55 = .ok (.bipush 40, 2) := by decide +kernel
theorem dX12_put_57 : decode cX12_put 57 = .ok (.if_icmp .ne 5, 3) := by decide +kernel
theorem dX12_put_60 : decode cX12_put 60 = .ok (.iconst 0, 1) := by decide +kernel
theorem dX12_put_61 : decode cX12_put 61 = .ok (.ireturn, 1) := by decide +kernel
theorem dX12_put_62 : decode cX12_put 62 = .ok (.aload_n 0, 1) := by decide +kernel
theorem dX12_put_63 : decode cX12_put 63 = .ok (.iload 6, 2) := by decide +kernel
theorem dX12_put_65 : decode cX12_put 65 = .ok (.iload 4, 2) := by decide +kernel
theorem dX12_put_67 : decode cX12_put 67 = .ok (.iload 5, 2) := by decide +kernel
theorem dX12_put_69 : decode cX12_put 69 = .ok (.sipush 255, 3) := by decide +kernel
theorem dX12_put_72 : decode cX12_put 72 = .ok (.iand, 1) := by decide +kernel
theorem dX12_put_73 : decode cX12_put 73 = .ok (.invokevirtual 318, 3) := by decide +kernel
theorem dX12_put_76 : decode cX12_put 76 = .ok (.aload_n 0, 1) := by decide +kernel
theorem dX12_put_77 : decode cX12_put 77 = .ok (.iconst 4, 1) := by decide +kernel
theorem dX12_put_78 : decode cX12_put 78 = .ok (.iload_n 1, 1) := by decide +kernel
theorem dX12_put_79 : decode cX12_put 79 = .ok (.iload 6, 2) := by decide +kernel
theorem dX12_put_81 : decode cX12_put 81 = .ok (.iload 4, 2) := by decide +kernel
theorem dX12_put_83 : decode cX12_put 83 = .ok (.iconst 0, 1) := by decide +kernel
theorem dX12_put_84 : decode cX12_put 84 = .ok (.invokevirtual 303, 3) := by decide +kernel
theorem dX12_put_87 : decode cX12_put 87 = .ok (.iconst 1, 1) := by decide +kernel
theorem dX12_put_88 : decode cX12_put 88 = .ok (.ireturn, 1) := by decide +kernel
theorem dX12_mend_0 : decode cX12_mend 0 = .ok (.aload_n 0, 1) := by decide +kernel
theorem dX12_mend_1 : decode cX12_mend 1 = .ok (.iconst 0, 1) := by decide +kernel
theorem dX12_mend_2 : decode cX12_mend 2 = .ok (.putfield 175, 3) := by decide +kernel
theorem dX12_mend_5 : decode cX12_mend 5 = .ok (.aload_n 0, 1) := by decide +kernel
theorem dX12_mend_6 : decode cX12_mend 6 = .ok (.iload_n 1, 1) := by decide +kernel
theorem dX12_mend_7 : decode cX12_mend 7 = .ok (.iload_n 2, 1) := by decide +kernel
theorem dX12_mend_8 : decode cX12_mend 8 = .ok (.iload_n 3, 1) := by decide +kernel
theorem dX12_mend_9 : decode cX12_mend 9 = .ok (.invokevirtual 312, 3) := by decide +kernel
theorem dX12_mend_12 : decode cX12_mend 12 = .ok (.istore 6, 2) := by decide +kernel
theorem dX12_mend_14 : decode cX12_mend 14 = .ok (.iload 6, 2) := by decide +kernel
theorem dX12_mend_16 : decode cX12_mend 16 = .ok (.iconst (-1), 1) := by decide +kernel
theorem dX12_mend_17 : decode cX12_mend 17 = .ok (.if_icmp .eq 20, 3) := by decide +kernel
theorem dX12_mend_20 : decode cX12_mend 20 = .ok (.iload 4, 2) := by decide +kernel
theorem dX12_mend_22 : decode cX12_mend 22 = .ok (.ifCond .lt 15, 3) := by decide +kernel
theorem dX12_mend_25 : decode cX12_mend 25 = .ok (.iload 4, 2) := by decide +kernel
theorem dX12_mend_27 : decode cX12_mend 27 = .ok (.aload_n 0, 1) := by decide +kernel
theorem dX12_mend_28 : decode cX12_mend 28 = .ok (.getfield 38, 3) := by decide +kernel
theorem dX12_mend_31 : decode cX12_mend 31 = .ok (.iload 6, 2) := by decide +kernel
theorem dX12_mend_33 : decode cX12_mend 33 = .ok (.iaload, 1) := by decide +kernel
theorem dX12_mend_34 : decode cX12_mend 34 = .ok (.if_icmp .lt 5, 3) := by decide +kernel
theorem dX12_mend_37 : decode cX12_mend 37 = .ok (.iconst (-1), 1) := by decide +kernel
theorem dX12_mend_38 : decode cX12_mend 38 = .ok (.ireturn, 1) := by decide +kernel
theorem dX12_mend_39 : decode cX12_mend 39 = .ok (.aload_n 0, 1) := by decide +kernel
theorem dX12_mend_40 : decode cX12_mend 40 = .ok (.getfield 42, 3) := by decide +kernel
theorem dX12_mend_43 : decode cX12_mend 43 = .ok (.bipush 40, 2) := by decide +kernel
theorem dX12_mend_45 : decode cX12_mend 45 = .ok (.iload 6, 2) := by decide +kernel
theorem dX12_mend_47 : decode cX12_mend 47 = .ok (.imul, 1) := by decide +kernel
theorem dX12_mend_48 : decode cX12_mend 48 = .ok (.iload 4, 2) := by decide +kernel
theorem dX12_mend_50 : decode cX12_mend 50 = .ok (.iadd, 1) := by decide +kernel
theorem dX12_mend_51 : decode cX12_mend 51 = .ok (.iaload, 1) := by decide +kernel
theorem dX12_mend_52 : decode cX12_mend 52 = .ok (.istore 7, 2) := by decide +kernel
theorem dX12_mend_54 : decode cX12_mend 54 = .ok (.aload_n 0, 1) := by decide +kernel
theorem dX12_mend_55 : decode cX12_mend 55 = .ok (.getfield 42, 3) := by decide +kernel
theorem dX12_mend_58 : decode cX12_mend 58 = .ok (.bipush 40, 2) := by decide +kernel
theorem dX12_mend_60 : decode cX12_mend 60 = .ok (.iload 6, 2) := by decide +kernel
theorem dX12_mend_62 : decode cX12_mend 62 = .ok (.imul, 1) := by decide +kernel
theorem dX12_mend_63 : decode cX12_mend 63 = .ok (.iload 4, 2) := by decide +kernel
theorem dX12_mend_65 : decode cX12_mend 65 = .ok (.iadd, 1) := by decide +kernel
theorem dX12_mend_66 : decode cX12_mend 66 = .ok (.iload 5, 2) := by decide +kernel
theorem dX12_mend_68 : decode cX12_mend 68 = .ok (.sipush 255, 3) := by decide +kernel
theorem dX12_mend_71 : decode cX12_mend 71 = .ok (.iand, 1) := by decide +kernel
theorem dX12_mend_72 : decode cX12_mend 72 = .ok (.iastore, 1) := by decide +kernel
theorem dX12_mend_73 : decode cX12_mend 73 = .ok (.aload_n 0, 1) := by decide +kernel
theorem dX12_mend_74 : decode cX12_mend 74 = .ok (.iconst 5, 1) := by decide +kernel
theorem dX12_mend_75 : decode cX12_mend 75 = .ok (.iload_n 1, 1) := by decide +kernel
theorem dX12_mend_76 : decode cX12_mend 76 = .ok (.iload 6, 2) := by decide +kernel
theorem dX12_mend_78 : decode cX12_mend 78 = .ok (.iload 4, 2) := by decide +kernel
theorem dX12_mend_80 : decode cX12_mend 80 = .ok (.iload 7, 2) := by decide +kernel
theorem dX12_mend_82 : decode cX12_mend 82 = .ok (.invokevirtual 303, 3) := by decide +kernel
theorem dX12_mend_85 : decode cX12_mend 85 = .ok (.iload 7, 2) := by decide +kernel
theorem dX12_mend_87 : decode cX12_mend 87 = .ok (.ireturn, 1) := by decide +kernel
theorem dX12_out_0 : decode cX12_out 0 = .ok (.aload_n 0, 1) := by decide +kernel
theorem dX12_out_1 : decode cX12_out 1 = .ok (.iconst 0, 1) := by decide +kernel
theorem dX12_out_2 : decode cX12_out 2 = .ok (.putfield 175, 3) := by decide +kernel
theorem dX12_out_5 : decode cX12_out 5 = .ok (.aload_n 0, 1) := by decide +kernel
theorem dX12_out_6 : decode cX12_out 6 = .ok (.iload_n 1, 1) := by decide +kernel
theorem dX12_out_7 : decode cX12_out 7 = .ok (.iload_n 2, 1) := by decide +kernel
theorem dX12_out_8 : decode cX12_out 8 = .ok (.iload_n 3, 1) := by decide +kernel
theorem dX12_out_9 : decode cX12_out 9 = .ok (.invokevirtual 312, 3) := by decide +kernel
theorem dX12_out_12 : decode cX12_out 12 = .ok (.istore 5, 2) := by decide +kernel
theorem dX12_out_14 : decode cX12_out 14 = .ok (.iload 5, 2) := by decide +kernel
theorem dX12_out_16 : decode cX12_out 16 = .ok (.iconst (-1), 1) := by decide +kernel
theorem dX12_out_17 : decode cX12_out 17 = .ok (.if_icmp .eq 20, 3) := by decide +kernel
theorem dX12_out_20 : decode cX12_out 20 = .ok (.iload 4, 2) := by decide +kernel
theorem dX12_out_22 : decode cX12_out 22 = .ok (.ifCond .lt 15, 3) := by decide +kernel
theorem dX12_out_25 : decode cX12_out 25 = .ok (.iload 4, 2) := by decide +kernel
theorem dX12_out_27 : decode cX12_out 27 = .ok (.aload_n 0, 1) := by decide +kernel
theorem dX12_out_28 : decode cX12_out 28 = .ok (.getfield 38, 3) := by decide +kernel
theorem dX12_out_31 : decode cX12_out 31 = .ok (.iload 5, 2) := by decide +kernel
theorem dX12_out_33 : decode cX12_out 33 = .ok (.iaload, 1) := by decide +kernel
theorem dX12_out_34 : decode cX12_out 34 = .ok (.if_icmp .lt 5, 3) := by decide +kernel
theorem dX12_out_37 : decode cX12_out 37 = .ok (.iconst (-1), 1) := by decide +kernel
theorem dX12_out_38 : decode cX12_out 38 = .ok (.ireturn, 1) := by decide +kernel
theorem dX12_out_39 : decode cX12_out 39 = .ok (.aload_n 0, 1) := by decide +kernel
theorem dX12_out_40 : decode cX12_out 40 = .ok (.getfield 42, 3) := by decide +kernel
theorem dX12_out_43 : decode cX12_out 43 = .ok (.bipush 40, 2) := by decide +kernel
theorem dX12_out_45 : decode cX12_out 45 = .ok (.iload 5, 2) := by decide +kernel
theorem dX12_out_47 : decode cX12_out 47 = .ok (.imul, 1) := by decide +kernel
theorem dX12_out_48 : decode cX12_out 48 = .ok (.iload 4, 2) := by decide +kernel
theorem dX12_out_50 : decode cX12_out 50 = .ok (.iadd, 1) := by decide +kernel
theorem dX12_out_51 : decode cX12_out 51 = .ok (.iaload, 1) := by decide +kernel
theorem dX12_out_52 : decode cX12_out 52 = .ok (.istore 6, 2) := by decide +kernel
theorem dX12_out_54 : decode cX12_out 54 = .ok (.aload_n 0, 1) := by decide +kernel
theorem dX12_out_55 : decode cX12_out 55 = .ok (.iload 5, 2) := by decide +kernel
theorem dX12_out_57 : decode cX12_out 57 = .ok (.iload 4, 2) := by decide +kernel
theorem dX12_out_59 : decode cX12_out 59 = .ok (.invokevirtual 321, 3) := by decide +kernel
theorem dX12_out_62 : decode cX12_out 62 = .ok (.aload_n 0, 1) := by decide +kernel
theorem dX12_out_63 : decode cX12_out 63 = .ok (.bipush 6, 2) := by decide +kernel
theorem dX12_out_65 : decode cX12_out 65 = .ok (.iload_n 1, 1) := by decide +kernel
theorem dX12_out_66 : decode cX12_out 66 = .ok (.iload 5, 2) := by decide +kernel
theorem dX12_out_68 : decode cX12_out 68 = .ok (.iload 4, 2) := by decide +kernel
theorem dX12_out_70 : decode cX12_out 70 = .ok (.iload 6, 2) := by decide +kernel
theorem dX12_out_72 : decode cX12_out 72 = .ok (.invokevirtual 303, 3) := by decide +kernel
theorem dX12_out_75 : decode cX12_out 75 = .ok (.iload 6, 2) := by decide +kernel
theorem dX12_out_77 : decode cX12_out 77 = .ok (.ireturn, 1) := by decide +kernel
theorem dX12_bowls_0 : decode cX12_bowls 0 = .ok (.aload_n 0, 1) := by decide +kernel
theorem dX12_bowls_1 : decode cX12_bowls 1 = .ok (.iconst 0, 1) := by decide +kernel
theorem dX12_bowls_2 : decode cX12_bowls 2 = .ok (.putfield 175, 3) := by decide +kernel
theorem dX12_bowls_5 : decode cX12_bowls 5 = .ok (.aload_n 0, 1) := by decide +kernel
theorem dX12_bowls_6 : decode cX12_bowls 6 = .ok (.iload_n 1, 1) := by decide +kernel
theorem dX12_bowls_7 : decode cX12_bowls 7 = .ok (.iload_n 2, 1) := by decide +kernel
theorem dX12_bowls_8 : decode cX12_bowls 8 = .ok (.iload_n 3, 1) := by decide +kernel
theorem dX12_bowls_9 : decode cX12_bowls 9 = .ok (.invokevirtual 312, 3) := by decide +kernel
theorem dX12_bowls_12 : decode cX12_bowls 12 = .ok (.istore 5, 2) := by decide +kernel
theorem dX12_bowls_14 : decode cX12_bowls 14 = .ok (.iload 5, 2) := by decide +kernel
theorem dX12_bowls_16 : decode cX12_bowls 16 = .ok (.iconst (-1), 1) := by decide +kernel
theorem dX12_bowls_17 : decode cX12_bowls 17 = .ok (.if_icmp .ne 5, 3) := by decide +kernel
theorem dX12_bowls_20 : decode cX12_bowls 20 = .ok (.iconst (-1), 1) := by decide +kernel
theorem dX12_bowls_21 : decode cX12_bowls 21 = .ok (.ireturn, 1) := by decide +kernel
theorem dX12_bowls_22 : decode cX12_bowls 22 = .ok (.aload_n 0, 1) := by decide +kernel
theorem dX12_bowls_23 : decode cX12_bowls 23 = .ok (.getfield 35, 3) := by decide +kernel
theorem dX12_bowls_26 : decode cX12_bowls 26 = .ok (.iload 5, 2) := by decide +kernel
theorem dX12_bowls_28 : decode cX12_bowls 28 = .ok (.iaload, 1) := by decide +kernel
theorem dX12_bowls_29 : decode cX12_bowls 29 = .ok (.istore 6, 2) := by decide +kernel
theorem dX12_bowls_31 : decode cX12_bowls 31 = .ok (.aload_n 0, 1) := by decide +kernel
theorem dX12_bowls_32 : decode cX12_bowls 32 = .ok (.getfield 35, 3) := by decide +kernel
theorem dX12_bowls_35 : decode cX12_bowls 35 = .ok (.iload 5, 2) := by decide +kernel
theorem dX12_bowls_37 : decode cX12_bowls 37 = .ok (.iload 4, 2) := by decide +kernel
theorem dX12_bowls_39 : decode cX12_bowls 39 = .ok (.bipush 15, 2) := by decide +kernel
theorem dX12_bowls_41 : decode cX12_bowls 41 = .ok (.iand, 1) := by decide +kernel
theorem dX12_bowls_42 : decode cX12_bowls 42 = .ok (.iastore, 1) := by decide +kernel
theorem dX12_bowls_43 : decode cX12_bowls 43 = .ok (.aload_n 0, 1) := by decide +kernel
theorem dX12_bowls_44 : decode cX12_bowls 44 = .ok (.bipush 7, 2) := by decide +kernel
theorem dX12_bowls_46 : decode cX12_bowls 46 = .ok (.iload_n 1, 1) := by decide +kernel
theorem dX12_bowls_47 : decode cX12_bowls 47 = .ok (.iload 5, 2) := by decide +kernel
theorem dX12_bowls_49 : decode cX12_bowls 49 = .ok (.iconst 0, 1) := by decide +kernel
theorem dX12_bowls_50 : decode cX12_bowls 50 = .ok (.iload 6, 2) := by decide +kernel
theorem dX12_bowls_52 : decode cX12_bowls 52 = .ok (.invokevirtual 303, 3) := by decide +kernel
theorem dX12_bowls_55 : decode cX12_bowls 55 = .ok (.iload 6, 2) := by decide +kernel
theorem dX12_bowls_57 : decode cX12_bowls 57 = .ok (.ireturn, 1) := by decide +kernel
theorem dX12_undo_0 : decode cX12_undo 0 = .ok (.aload_n 0, 1) := by decide +kernel
theorem dX12_undo_1 : decode cX12_undo 1 = .ok (.iconst 0, 1) := by decide +kernel
theorem dX12_undo_2 : decode cX12_undo 2 = .ok (.putfield 175, 3) := by decide +kernel
theorem dX12_undo_5 : decode cX12_undo 5 = .ok (.aload_n 0, 1) := by decide +kernel
theorem dX12_undo_6 : decode cX12_undo 6 = .ok (.getfield 291, 3) := by decide +kernel
theorem dX12_undo_9 : decode cX12_undo 9 = .ok (.ifCond .ne 5, 3) := by decide +kernel
theorem dX12_undo_12 : decode cX12_undo 12 = .ok (.iconst (-1), 1) := by decide +kernel
theorem dX12_undo_13 : decode cX12_undo 13 = .ok (.ireturn, 1) := by decide +kernel
theorem dX12_undo_14 : decode cX12_undo 14 = .ok (.aload_n 0, 1) := by decide +kernel
theorem dX12_undo_15 : decode cX12_undo 15 = .ok (.dup, 1) := by decide +kernel
theorem dX12_undo_16 : decode cX12_undo 16 = .ok (.getfield 291, 3) := by decide +kernel
theorem dX12_undo_19 : decode cX12_undo 19 = .ok (.iconst 1, 1) := by decide +kernel
theorem dX12_undo_20 : decode cX12_undo 20 = .ok (.isub, 1) := by decide +kernel
theorem dX12_undo_21 : decode cX12_undo 21 = .ok (.putfield 291, 3) := by decide +kernel
theorem dX12_undo_24 : decode cX12_undo 24 = .ok (.aload_n 0, 1) := by decide +kernel
theorem dX12_undo_25 : decode cX12_undo 25 = .ok (.getfield 291, 3) := by decide +kernel
theorem dX12_undo_28 : decode cX12_undo 28 = .ok (.istore_n 1, 1) := by decide +kernel
theorem dX12_undo_29 : decode cX12_undo 29 = .ok (.aload_n 0, 1) := by decide +kernel
theorem dX12_undo_30 : decode cX12_undo 30 = .ok (.getfield 54, 3) := by decide +kernel
theorem dX12_undo_33 : decode cX12_undo 33 = .ok (.iload_n 1, 1) := by decide +kernel
theorem dX12_undo_34 : decode cX12_undo 34 = .ok (.iaload, 1) := by decide +kernel
theorem dX12_undo_35 : decode cX12_undo 35 = .ok (.istore_n 2, 1) := by decide +kernel
theorem dX12_undo_36 : decode cX12_undo 36 = .ok (.aload_n 0, 1) := by decide +kernel
theorem dX12_undo_37 : decode cX12_undo 37 = .ok (.getfield 57, 3) := by decide +kernel
theorem dX12_undo_40 : decode cX12_undo 40 = .ok (.iload_n 1, 1) := by decide +kernel
theorem dX12_undo_41 : decode cX12_undo 41 = .ok (.iaload, 1) := by decide +kernel
theorem dX12_undo_42 : decode cX12_undo 42 = .ok (.istore_n 3, 1) := by decide +kernel
theorem dX12_undo_43 : decode cX12_undo 43 = .ok (.aload_n 0, 1) := by decide +kernel
theorem dX12_undo_44 : decode cX12_undo 44 = .ok (.getfield 51, 3) := by decide +kernel
theorem dX12_undo_47 : decode cX12_undo 47 = .ok (.iload_n 1, 1) := by decide +kernel
theorem dX12_undo_48 : decode cX12_undo 48 = .ok (.iaload, 1) := by decide +kernel
theorem dX12_undo_49 : decode cX12_undo 49 = .ok (.tableswitch 196 0 6 #[43, 56, 78, 92, 78, 151, 176], 43) := by decide +kernel
theorem dX12_undo_92 : decode cX12_undo 92 = .ok (.aload_n 0, 1) := by decide +kernel
theorem dX12_undo_93 : decode cX12_undo 93 = .ok (.getfield 25, 3) := by decide +kernel
theorem dX12_undo_96 : decode cX12_undo 96 = .ok (.iload_n 2, 1) := by decide +kernel
theorem dX12_undo_97 : decode cX12_undo 97 = .ok (.dup2, 1) := by decide +kernel
theorem dX12_undo_98 : decode cX12_undo 98 = .ok (.iaload, 1) := by decide +kernel
theorem dX12_undo_99 : decode cX12_undo 99 = .ok (.iconst 1, 1) := by decide +kernel
theorem dX12_undo_100 : decode cX12_undo 100 = .ok (.isub, 1) := by decide +kernel
theorem dX12_undo_101 : decode cX12_undo 101 = .ok (.iastore, 1) := by decide +kernel
theorem dX12_undo_102 : decode cX12_undo 102 = .ok (.goto 155, 3) := by decide +kernel
theorem dX12_undo_105 : decode cX12_undo 105 = .ok (.aload_n 0, 1) := by decide +kernel
theorem dX12_undo_106 : decode cX12_undo 106 = .ok (.getfield 28, 3) := by decide +kernel
theorem dX12_undo_109 : decode cX12_undo 109 = .ok (.iconst 4, 1) := by decide +kernel
theorem dX12_undo_110 : decode cX12_undo 110 = .ok (.iload_n 2, 1) := by decide +kernel
theorem dX12_undo_111 : decode cX12_undo 111 = .ok (.imul, 1) := by decide +kernel
theorem dX12_undo_112 : decode cX12_undo 112 = .ok (.aload_n 0, 1) := by decide +kernel
theorem dX12_undo_113 : decode cX12_undo 113 = .ok (.getfield 60, 3) := by decide +kernel
theorem dX12_undo_116 : decode cX12_undo 116 = .ok (.iload_n 1, 1) := by decide +kernel
theorem dX12_undo_117 : decode cX12_undo 117 = .ok (.iaload, 1) := by decide +kernel
theorem dX12_undo_118 : decode cX12_undo 118 = .ok (.iadd, 1) := by decide +kernel
theorem dX12_undo_119 : decode cX12_undo 119 = .ok (.dup2, 1) := by decide +kernel
theorem dX12_undo_120 : decode cX12_undo 120 = .ok (.iaload, 1) := by decide +kernel
theorem dX12_undo_121 : decode cX12_undo 121 = .ok (.iconst 1, 1) := by decide +kernel
theorem dX12_undo_122 : decode cX12_undo 122 = .ok (.isub, 1) := by decide +kernel
theorem dX12_undo_123 : decode cX12_undo 123 = .ok (.iastore, 1) := by decide +kernel
theorem dX12_undo_124 : decode cX12_undo 124 = .ok (.goto 133, 3) := by decide +kernel
theorem dX12_undo_127 : decode cX12_undo 127 = .ok (.aload_n 0, 1) := by decide +kernel
theorem dX12_undo_128 : decode cX12_undo 128 = .ok (.iload_n 3, 1) := by decide +kernel
theorem dX12_undo_129 : decode cX12_undo 129 = .ok (.aload_n 0, 1) := by decide +kernel
theorem dX12_undo_130 : decode cX12_undo 130 = .ok (.getfield 60, 3) := by decide +kernel
theorem dX12_undo_133 : decode cX12_undo 133 = .ok (.iload_n 1, 1) := by decide +kernel
theorem dX12_undo_134 : decode cX12_undo 134 = .ok (.iaload, 1) := by decide +kernel
theorem dX12_undo_135 : decode cX12_undo 135 = .ok (.invokevirtual 321, 3) := by decide +kernel
theorem dX12_undo_138 : decode cX12_undo 138 = .ok (.goto 119, 3) := by decide +kernel
theorem dX12_undo_141 : decode cX12_undo 141 = .ok (.aload_n 0, 1) := by decide +kernel
theorem dX12_undo_142 : decode cX12_undo 142 = .ok (.getfield 38, 3) := by decide +kernel
theorem dX12_undo_145 : decode cX12_undo 145 = .ok (.iload_n 3, 1) := by decide +kernel
theorem dX12_undo_146 : decode cX12_undo 146 = .ok (.aload_n 0, 1) := by decide +kernel
theorem dX12_undo_147 : decode cX12_undo 147 = .ok (.getfield 66, 3) := by decide +kernel
theorem dX12_undo_150 : decode cX12_undo 150 = .ok (.iload_n 1, 1) := by decide +kernel
theorem dX12_undo_151 : decode cX12_undo 151 = .ok (.iaload, 1) := by decide +kernel
theorem dX12_undo_152 : decode cX12_undo 152 = .ok (.iastore, 1) := by decide +kernel
theorem dX12_undo_153 : decode cX12_undo 153 = .ok (.iconst 0, 1) := by decide +kernel
theorem dX12_undo_154 : decode cX12_undo 154 = .ok (.istore 4, 2) := by decide +kernel
theorem dX12_undo_156 : decode cX12_undo 156 = .ok (.iload 4, 2) := by decide +kernel
theorem dX12_undo_158 : decode cX12_undo 158 = .ok (.aload_n 0, 1) := by decide +kernel
theorem dX12_undo_159 : decode cX12_undo 159 = .ok (.getfield 38, 3) := by decide +kernel
theorem dX12_undo_162 : decode cX12_undo 162 = .ok (.iload_n 3, 1) := by decide +kernel
theorem dX12_undo_163 : decode cX12_undo 163 = .ok (.iaload, 1) := by decide +kernel
theorem dX12_undo_164 : decode cX12_undo 164 = .ok (.if_icmp .ge 33, 3) := by decide +kernel
theorem dX12_undo_167 : decode cX12_undo 167 = .ok (.aload_n 0, 1) := by decide +kernel
theorem dX12_undo_168 : decode cX12_undo 168 = .ok (.getfield 42, 3) := by decide +kernel
theorem dX12_undo_171 : decode cX12_undo 171 = .ok (.bipush 40, 2) := by decide +kernel
theorem dX12_undo_173 : decode cX12_undo 173 = .ok (.iload_n 3, 1) := by decide +kernel
theorem dX12_undo_174 : decode cX12_undo 174 = .ok (.imul, 1) := by decide +kernel
theorem dX12_undo_175 : decode cX12_undo 175 = .ok (.iload 4, 2) := by decide +kernel
theorem dX12_undo_177 : decode cX12_undo 177 = .ok (.iadd, 1) := by decide +kernel
theorem dX12_undo_178 : decode cX12_undo 178 = .ok (.aload_n 0, 1) := by decide +kernel
theorem dX12_undo_179 : decode cX12_undo 179 = .ok (.getfield 69, 3) := by decide +kernel
theorem dX12_undo_182 : decode cX12_undo 182 = .ok (.bipush 40, 2) := by decide +kernel
theorem dX12_undo_184 : decode cX12_undo 184 = .ok (.iload_n 1, 1) := by decide +kernel
theorem dX12_undo_185 : decode cX12_undo 185 = .ok (.imul, 1) := by decide +kernel
theorem dX12_undo_186 : decode cX12_undo 186 = .ok (.iload 4, 2) := by decide +kernel
theorem dX12_undo_188 : decode cX12_undo 188 = .ok (.iadd, 1) := by decide +kernel
theorem dX12_undo_189 : decode cX12_undo 189 = .ok (.iaload, 1) := by decide +kernel
theorem dX12_undo_190 : decode cX12_undo 190 = .ok (.iastore, 1) := by decide +kernel
theorem dX12_undo_191 : decode cX12_undo 191 = .ok (.iinc 4 1, 3) := by decide +kernel
theorem dX12_undo_194 : decode cX12_undo 194 = .ok (.goto (-38), 3) := by decide +kernel
theorem dX12_undo_197 : decode cX12_undo 197 = .ok (.goto 60, 3) := by decide +kernel
theorem dX12_undo_200 : decode cX12_undo 200 = .ok (.aload_n 0, 1) := by decide +kernel
theorem dX12_undo_201 : decode cX12_undo 201 = .ok (.getfield 42, 3) := by decide +kernel
theorem dX12_undo_204 : decode cX12_undo 204 = .ok (.bipush 40, 2) := by decide +kernel
theorem dX12_undo_206 : decode cX12_undo 206 = .ok (.iload_n 3, 1) := by decide +kernel
theorem dX12_undo_207 : decode cX12_undo 207 = .ok (.imul, 1) := by decide +kernel
theorem dX12_undo_208 : decode cX12_undo 208 = .ok (.aload_n 0, 1) := by decide +kernel
theorem dX12_undo_209 : decode cX12_undo 209 = .ok (.getfield 60, 3) := by decide +kernel
theorem dX12_undo_212 : decode cX12_undo 212 = .ok (.iload_n 1, 1) := by decide +kernel
theorem dX12_undo_213 : decode cX12_undo 213 = .ok (.iaload, 1) := by decide +kernel
theorem dX12_undo_214 : decode cX12_undo 214 = .ok (.iadd, 1) := by decide +kernel
theorem dX12_undo_215 : decode cX12_undo 215 = .ok (.aload_n 0, 1) := by decide +kernel
theorem dX12_undo_216 : decode cX12_undo 216 = .ok (.getfield 63, 3) := by decide +kernel
theorem dX12_undo_219 : decode cX12_undo 219 = .ok (.iload_n 1, 1) := by decide +kernel
theorem dX12_undo_220 : decode cX12_undo 220 = .ok (.iaload, 1) := by decide +kernel
theorem dX12_undo_221 : decode cX12_undo 221 = .ok (.iastore, 1) := by decide +kernel
theorem dX12_undo_222 : decode cX12_undo 222 = .ok (.goto 35, 3) := by decide +kernel
theorem dX12_undo_225 : decode cX12_undo 225 = .ok (.aload_n 0, 1) := by decide +kernel
theorem dX12_undo_226 : decode cX12_undo 226 = .ok (.iload_n 3, 1) := by decide +kernel
theorem dX12_undo_227 : decode cX12_undo 227 = .ok (.aload_n 0, 1) := by decide +kernel
theorem dX12_undo_228 : decode cX12_undo 228 = .ok (.getfield 60, 3) := by decide +kernel
theorem dX12_undo_231 : decode cX12_undo 231 = .ok (.iload_n 1, 1) := by decide +kernel
theorem dX12_undo_232 : decode cX12_undo 232 = .ok (.iaload, 1) := by decide +kernel
theorem dX12_undo_233 : decode cX12_undo 233 = .ok (.aload_n 0, 1) := by decide +kernel
theorem dX12_undo_234 : decode cX12_undo 234 = .ok (.getfield 63, 3) := by decide +kernel
theorem dX12_undo_237 : decode cX12_undo 237 = .ok (.iload_n 1, 1) := by decide +kernel
theorem dX12_undo_238 : decode cX12_undo 238 = .ok (.iaload, 1) := by decide +kernel
theorem dX12_undo_239 : decode cX12_undo 239 = .ok (.invokevirtual 318, 3) := by decide +kernel
theorem dX12_undo_242 : decode cX12_undo 242 = .ok (.goto 15, 3) := by decide +kernel
theorem dX12_undo_245 : decode cX12_undo 245 = .ok (.aload_n 0, 1) := by decide +kernel
theorem dX12_undo_246 : decode cX12_undo 246 = .ok (.getfield 35, 3) := by decide +kernel
theorem dX12_undo_249 : decode cX12_undo 249 = .ok (.iload_n 3, 1) := by decide +kernel
theorem dX12_undo_250 : decode cX12_undo 250 = .ok (.aload_n 0, 1) := by decide +kernel
theorem dX12_undo_251 : decode cX12_undo 251 = .ok (.getfield 63, 3) := by decide +kernel
theorem dX12_undo_254 : decode cX12_undo 254 = .ok (.iload_n 1, 1) := by decide +kernel
theorem dX12_undo_255 : decode cX12_undo 255 = .ok (.iaload, 1) := by decide +kernel
theorem dX12_undo_256 : decode cX12_undo 256 = .ok (.iastore, 1) := by decide +kernel
theorem dX12_undo_257 : decode cX12_undo 257 = .ok (.iload_n 2, 1) := by decide +kernel
theorem dX12_undo_258 : decode cX12_undo 258 = .ok (.ireturn, 1) := by decide +kernel
theorem dX12_why_0 : decode cX12_why 0 = .ok (.aload_n 0, 1) := by decide +kernel
theorem dX12_why_1 : decode cX12_why 1 = .ok (.iconst 0, 1) := by decide +kernel
theorem dX12_why_2 : decode cX12_why 2 = .ok (.putfield 175, 3) := by decide +kernel
theorem dX12_why_5 : decode cX12_why 5 = .ok (.aload_n 0, 1) := by decide +kernel
theorem dX12_why_6 : decode cX12_why 6 = .ok (.getfield 297, 3) := by decide +kernel
theorem dX12_why_9 : decode cX12_why 9 = .ok (.ireturn, 1) := by decide +kernel
theorem dX12_more_0 : decode cX12_more 0 = .ok (.aload_n 0, 1) := by decide +kernel
theorem dX12_more_1 : decode cX12_more 1 = .ok (.getfield 90, 3) := by decide +kernel
theorem dX12_more_4 : decode cX12_more 4 = .ok (.iload_n 1, 1) := by decide +kernel
theorem dX12_more_5 : decode cX12_more 5 = .ok (.iaload, 1) := by decide +kernel
theorem dX12_more_6 : decode cX12_more 6 = .ok (.ifCond .eq 7, 3) := by decide +kernel
theorem dX12_more_9 : decode cX12_more 9 = .ok (.iconst 0, 1) := by decide +kernel
theorem dX12_more_10 : decode cX12_more 10 = .ok (.goto 11, 3) := by decide +kernel
theorem dX12_more_13 : decode cX12_more 13 = .ok (.bipush 6, 2) := by decide +kernel
theorem dX12_more_15 : decode cX12_more 15 = .ok (.aload_n 0, 1) := by decide +kernel
theorem dX12_more_16 : decode cX12_more 16 = .ok (.iload_n 1, 1) := by decide +kernel
theorem dX12_more_17 : decode cX12_more 17 = .ok (.invokevirtual 285, 3) := by decide +kernel
theorem dX12_more_20 : decode cX12_more 20 = .ok (.imul, 1) := by decide +kernel
theorem dX12_more_21 : decode cX12_more 21 = .ok (.ireturn, 1) := by decide +kernel
theorem dX12_nowOf_0 : decode cX12_nowOf 0 = .ok (.aload_n 0, 1) := by decide +kernel
theorem dX12_nowOf_1 : decode cX12_nowOf 1 = .ok (.getfield 215, 3) := by decide +kernel
theorem dX12_nowOf_4 : decode cX12_nowOf 4 = .ok (.istore_n 3, 1) := by decide +kernel
theorem dX12_nowOf_5 : decode cX12_nowOf 5 = .ok (.iload_n 2, 1) := by decide +kernel
theorem dX12_nowOf_6 : decode cX12_nowOf 6 = .ok (.tableswitch 272 0 13 #[70, 72, 87, 102, 117, 131, 146, 164, 193, 231, 252, 257, 262, 267], 70) := by decide +kernel
theorem dX12_nowOf_76 : decode cX12_nowOf 76 = .ok (.iload_n 3, 1) := by decide +kernel
theorem dX12_nowOf_77 : decode cX12_nowOf 77 = .ok (.ireturn, 1) := by decide +kernel
theorem dX12_nowOf_78 : decode cX12_nowOf 78 = .ok (.iload_n 3, 1) := by decide +kernel
theorem dX12_nowOf_79 : decode cX12_nowOf 79 = .ok (.ifCond .ge 7, 3) := by decide +kernel
theorem dX12_nowOf_82 : decode cX12_nowOf 82 = .ok (.iconst (-1), 1) := by decide +kernel
theorem dX12_nowOf_83 : decode cX12_nowOf 83 = .ok (.goto 9, 3) := by decide +kernel
theorem dX12_nowOf_86 : decode cX12_nowOf 86 = .ok (.aload_n 0, 1) := by decide +kernel
theorem dX12_nowOf_87 : decode cX12_nowOf 87 = .ok (.getfield 102, 3) := by decide +kernel
theorem dX12_nowOf_90 : decode cX12_nowOf 90 = .ok (.iload_n 3, 1) := by decide +kernel
theorem dX12_nowOf_91 : decode cX12_nowOf 91 = .ok (.iaload, 1) := by decide +kernel
theorem dX12_nowOf_92 : decode cX12_nowOf 92 = .ok (.ireturn, 1) := by decide +kernel
theorem dX12_nowOf_93 : decode cX12_nowOf 93 = .ok (.iload_n 3, 1) := by decide +kernel
theorem dX12_nowOf_94 : decode cX12_nowOf 94 = .ok (.ifCond .ge 7, 3) := by decide +kernel
theorem dX12_nowOf_97 : decode cX12_nowOf 97 = .ok (.iconst (-1), 1) := by decide +kernel
theorem dX12_nowOf_98 : decode cX12_nowOf 98 = .ok (.goto 9, 3) := by decide +kernel
theorem dX12_nowOf_101 : decode cX12_nowOf 101 = .ok (.aload_n 0, 1) := by decide +kernel
theorem dX12_nowOf_102 : decode cX12_nowOf 102 = .ok (.getfield 105, 3) := by decide +kernel
theorem dX12_nowOf_105 : decode cX12_nowOf 105 = .ok (.iload_n 3, 1) := by decide +kernel
theorem dX12_nowOf_106 : decode cX12_nowOf 106 = .ok (.iaload, 1) := by decide +kernel
theorem dX12_nowOf_107 : decode cX12_nowOf 107 = .ok (.ireturn, 1) := by decide +kernel
theorem dX12_nowOf_108 : decode cX12_nowOf 108 = .ok (.iload_n 3, 1) := by decide +kernel
theorem dX12_nowOf_109 : decode cX12_nowOf 109 = .ok (.ifCond .ge 7, 3) := by decide +kernel
theorem dX12_nowOf_112 : decode cX12_nowOf 112 = .ok (.iconst (-1), 1) := by decide +kernel
theorem dX12_nowOf_113 : decode cX12_nowOf 113 = .ok (.goto 9, 3) := by decide +kernel
theorem dX12_nowOf_116 : decode cX12_nowOf 116 = .ok (.aload_n 0, 1) := by decide +kernel
theorem dX12_nowOf_117 : decode cX12_nowOf 117 = .ok (.getfield 120, 3) := by decide +kernel
theorem dX12_nowOf_120 : decode cX12_nowOf 120 = .ok (.iload_n 3, 1) := by decide +kernel
theorem dX12_nowOf_121 : decode cX12_nowOf 121 = .ok (.iaload, 1) := by decide +kernel
theorem dX12_nowOf_122 : decode cX12_nowOf 122 = .ok (.ireturn, 1) := by decide +kernel
theorem dX12_nowOf_123 : decode cX12_nowOf 123 = .ok (.iload_n 3, 1) := by decide +kernel
theorem dX12_nowOf_124 : decode cX12_nowOf 124 = .ok (.ifCond .ge 7, 3) := by decide +kernel
theorem dX12_nowOf_127 : decode cX12_nowOf 127 = .ok (.iconst (-1), 1) := by decide +kernel
theorem dX12_nowOf_128 : decode cX12_nowOf 128 = .ok (.goto 8, 3) := by decide +kernel
theorem dX12_nowOf_131 : decode cX12_nowOf 131 = .ok (.aload_n 0, 1) := by decide +kernel
theorem dX12_nowOf_132 : decode cX12_nowOf 132 = .ok (.iload_n 3, 1) := by decide +kernel
theorem dX12_nowOf_133 : decode cX12_nowOf 133 = .ok (.invokevirtual 285, 3) := by decide +kernel
theorem dX12_nowOf_136 : decode cX12_nowOf 136 = .ok (.ireturn, 1) := by decide +kernel
theorem dX12_nowOf_137 : decode cX12_nowOf 137 = .ok (.iload_n 3, 1) := by decide +kernel
theorem dX12_nowOf_138 : decode cX12_nowOf 138 = .ok (.ifCond .ge 7, 3) := by decide +kernel
theorem dX12_nowOf_141 : decode cX12_nowOf 141 = .ok (.iconst (-1), 1) := by decide +kernel
theorem dX12_nowOf_142 : decode cX12_nowOf 142 = .ok (.goto 9, 3) := by decide +kernel
theorem dX12_nowOf_145 : decode cX12_nowOf 145 = .ok (.aload_n 0, 1) := by decide +kernel
theorem dX12_nowOf_146 : decode cX12_nowOf 146 = .ok (.getfield 90, 3) := by decide +kernel
theorem dX12_nowOf_149 : decode cX12_nowOf 149 = .ok (.iload_n 3, 1) := by decide +kernel
theorem dX12_nowOf_150 : decode cX12_nowOf 150 = .ok (.iaload, 1) := by decide +kernel
theorem dX12_nowOf_151 : decode cX12_nowOf 151 = .ok (.ireturn, 1) := by decide +kernel
theorem dX12_nowOf_152 : decode cX12_nowOf 152 = .ok (.iload_n 3, 1) := by decide +kernel
theorem dX12_nowOf_153 : decode cX12_nowOf 153 = .ok (.aload_n 0, 1) := by decide +kernel
theorem dX12_nowOf_154 : decode cX12_nowOf 154 = .ok (.iload_n 1, 1) := by decide +kernel
theorem dX12_nowOf_155 : decode cX12_nowOf 155 = .ok (.invokevirtual 240, 3) := by decide +kernel
theorem dX12_nowOf_158 : decode cX12_nowOf 158 = .ok (.if_icmp .ne 10, 3) := by decide +kernel
theorem dX12_nowOf_161 : decode cX12_nowOf 161 = .ok (.aload_n 0, 1) := by decide +kernel
theorem dX12_nowOf_162 : decode cX12_nowOf 162 = .ok (.getfield 221, 3) := by decide +kernel
theorem dX12_nowOf_165 : decode cX12_nowOf 165 = .ok (.goto 4, 3) := by decide +kernel
theorem dX12_nowOf_168 : decode cX12_nowOf 168 = .ok (.iconst (-1), 1) := by decide +kernel
theorem dX12_nowOf_169 : decode cX12_nowOf 169 = .ok (.ireturn, 1) := by decide +kernel
theorem dX12_nowOf_170 : decode cX12_nowOf 170 = .ok (.iload_n 3, 1) := by decide +kernel
theorem dX12_nowOf_171 : decode cX12_nowOf 171 = .ok (.aload_n 0, 1) := by decide +kernel
theorem dX12_nowOf_172 : decode cX12_nowOf 172 = .ok (.iload_n 1, 1) := by decide +kernel
theorem dX12_nowOf_173 : decode cX12_nowOf 173 = .ok (.invokevirtual 240, 3) := by decide +kernel
theorem dX12_nowOf_176 : decode cX12_nowOf 176 = .ok (.if_icmp .ne 21, 3) := by decide +kernel
theorem dX12_nowOf_179 : decode cX12_nowOf 179 = .ok (.iconst 0, 1) := by decide +kernel
theorem dX12_nowOf_180 : decode cX12_nowOf 180 = .ok (.aload_n 0, 1) := by decide +kernel
theorem dX12_nowOf_181 : decode cX12_nowOf 181 = .ok (.getfield 221, 3) := by decide +kernel
theorem dX12_nowOf_184 : decode cX12_nowOf 184 = .ok (.aload_n 0, 1) := by decide +kernel
theorem dX12_nowOf_185 : decode cX12_nowOf 185 = .ok (.getfield 72, 3) := by decide +kernel
theorem dX12_nowOf_188 : decode cX12_nowOf 188 = .ok (.iload_n 3, 1) := by decide +kernel
theorem dX12_nowOf_189 : decode cX12_nowOf 189 = .ok (.iaload, 1) := by decide +kernel
theorem dX12_nowOf_190 : decode cX12_nowOf 190 = .ok (.isub, 1) := by decide +kernel
theorem dX12_nowOf_191 : decode cX12_nowOf 191 = .ok (.invokestatic 324, 3) := by decide +kernel
theorem dX12_nowOf_194 : decode cX12_nowOf 194 = .ok (.goto 4, 3) := by decide +kernel
theorem dX12_nowOf_197 : decode cX12_nowOf 197 = .ok (.iconst (-1), 1) := by decide +kernel
theorem dX12_nowOf_198 : decode cX12_nowOf 198 = .ok (.ireturn, 1) := by decide +kernel
theorem dX12_nowOf_199 : decode cX12_nowOf 199 = .ok (.iload_n 3, 1) := by decide +kernel
theorem dX12_nowOf_200 : decode cX12_nowOf 200 = .ok (.aload_n 0, 1) := by decide +kernel
theorem dX12_nowOf_201 : decode cX12_nowOf 201 = .ok (.iload_n 1, 1) := by decide +kernel
theorem dX12_nowOf_202 : decode cX12_nowOf 202 = .ok (.invokevirtual 240, 3) := by decide +kernel
theorem dX12_nowOf_205 : decode cX12_nowOf 205 = .ok (.if_icmp .ne 30, 3) := by decide +kernel
theorem dX12_nowOf_208 : decode cX12_nowOf 208 = .ok (.aload_n 0, 1) := by decide +kernel
theorem dX12_nowOf_209 : decode cX12_nowOf 209 = .ok (.getfield 221, 3) := by decide +kernel
theorem dX12_nowOf_212 : decode cX12_nowOf 212 = .ok (.aload_n 0, 1) := by decide +kernel
theorem dX12_nowOf_213 : decode cX12_nowOf 213 = .ok (.getfield 72, 3) := by decide +kernel
theorem dX12_nowOf_216 : decode cX12_nowOf 216 = .ok (.iload_n 3, 1) := by decide +kernel
theorem dX12_nowOf_217 : decode cX12_nowOf 217 = .ok (.iaload, 1) := by decide +kernel
theorem dX12_nowOf_218 : decode cX12_nowOf 218 = .ok (.isub, 1) := by decide +kernel
theorem dX12_nowOf_219 : decode cX12_nowOf 219 = .ok (.aload_n 0, 1) := by decide +kernel
theorem dX12_nowOf_220 : decode cX12_nowOf 220 = .ok (.iload_n 3, 1) := by decide +kernel
theorem dX12_nowOf_221 : decode cX12_nowOf 221 = .ok (.invokevirtual 329, 3) := by decide +kernel
theorem dX12_nowOf_224 : decode cX12_nowOf 224 = .ok (.if_icmp .gt 7, 3) := by decide +kernel
theorem dX12_nowOf_227 : decode cX12_nowOf 227 = .ok (.iconst 1, 1) := by decide +kernel
theorem dX12_nowOf_228 : decode cX12_nowOf 228 = .ok (.goto 8, 3) := by decide +kernel
theorem dX12_nowOf_231 : decode cX12_nowOf 231 = .ok (.iconst 0, 1) := by decide +kernel
theorem dX12_nowOf_232 : decode cX12_nowOf 232 = .ok (.goto 4, 3) := by decide +kernel
theorem dX12_nowOf_235 : decode cX12_nowOf 235 = .ok (.iconst (-1), 1) := by decide +kernel
theorem dX12_nowOf_236 : decode cX12_nowOf 236 = .ok (.ireturn, 1) := by decide +kernel
theorem dX12_nowOf_237 : decode cX12_nowOf 237 = .ok (.iload_n 3, 1) := by decide +kernel
theorem dX12_nowOf_238 : decode cX12_nowOf 238 = .ok (.ifCond .ge 7, 3) := by decide +kernel
theorem dX12_nowOf_241 : decode cX12_nowOf 241 = .ok (.iconst (-1), 1) := by decide +kernel
theorem dX12_nowOf_242 : decode cX12_nowOf 242 = .ok (.goto 15, 3) := by decide +kernel
theorem dX12_nowOf_245 : decode cX12_nowOf 245 = .ok (.aload_n 0, 1) := by decide +kernel
theorem dX12_nowOf_246 : decode cX12_nowOf 246 = .ok (.getfield 72, 3) := by decide +kernel
theorem dX12_nowOf_249 : decode cX12_nowOf 249 = .ok (.iload_n 3, 1) := by decide +kernel
theorem dX12_nowOf_250 : decode cX12_nowOf 250 = .ok (.iaload, 1) := by decide +kernel
theorem dX12_nowOf_251 : decode cX12_nowOf 251 = .ok (.aload_n 0, 1) := by decide +kernel
theorem dX12_nowOf_252 : decode cX12_nowOf 252 = .ok (.iload_n 3, 1) := by decide +kernel
theorem dX12_nowOf_253 : decode cX12_nowOf 253 = .ok (.invokevirtual 329, 3) := by decide +kernel
theorem dX12_nowOf_256 : decode cX12_nowOf 256 = .ok (.iadd, 1) := by decide +kernel
theorem dX12_nowOf_257 : decode cX12_nowOf 257 = .ok (.ireturn, 1) := by decide +kernel
theorem dX12_nowOf_258 : decode cX12_nowOf 258 = .ok (.aload_n 0, 1) := by decide +kernel
theorem dX12_nowOf_259 : decode cX12_nowOf 259 = .ok (.getfield 218, 3) := by decide +kernel
theorem dX12_nowOf_262 : decode cX12_nowOf 262 = .ok (.ireturn, 1) := by decide +kernel
theorem dX12_nowOf_263 : decode cX12_nowOf 263 = .ok (.aload_n 0, 1) := by decide +kernel
theorem dX12_nowOf_264 : decode cX12_nowOf 264 = .ok (.getfield 200, 3) := by decide +kernel
theorem dX12_nowOf_267 : decode cX12_nowOf 267 = .ok (.ireturn, 1) := by decide +kernel
theorem dX12_nowOf_268 : decode cX12_nowOf 268 = .ok (.aload_n 0, 1) := by decide +kernel
theorem dX12_nowOf_269 : decode cX12_nowOf 269 = .ok (.getfield 203, 3) := by decide +kernel
theorem dX12_nowOf_272 : decode cX12_nowOf 272 = .ok (.ireturn, 1) := by decide +kernel
theorem dX12_nowOf_273 : decode cX12_nowOf 273 = .ok (.aload_n 0, 1) := by decide +kernel
theorem dX12_nowOf_274 : decode cX12_nowOf 274 = .ok (.getfield 206, 3) := by decide +kernel
theorem dX12_nowOf_277 : decode cX12_nowOf 277 = .ok (.ireturn, 1) := by decide +kernel
theorem dX12_nowOf_278 : decode cX12_nowOf 278 = .ok (.aload_n 0, 1) := by decide +kernel
theorem dX12_nowOf_279 : decode cX12_nowOf 279 = .ok (.getfield 209, 3) := by decide +kernel
theorem dX12_nowOf_282 : decode cX12_nowOf 282 = .ok (.ireturn, 1) := by decide +kernel
theorem dX12_now_0 : decode cX12_now 0 = .ok (.aload_n 0, 1) := by decide +kernel
theorem dX12_now_1 : decode cX12_now 1 = .ok (.iconst 0, 1) := by decide +kernel
theorem dX12_now_2 : decode cX12_now 2 = .ok (.putfield 175, 3) := by decide +kernel
theorem dX12_now_5 : decode cX12_now 5 = .ok (.aload_n 0, 1) := by decide +kernel
theorem dX12_now_6 : decode cX12_now 6 = .ok (.iload_n 1, 1) := by decide +kernel
theorem dX12_now_7 : decode cX12_now 7 = .ok (.invokevirtual 193, 3) := by decide +kernel
theorem dX12_now_10 : decode cX12_now 10 = .ok (.ifCond .eq 13, 3) := by decide +kernel
theorem dX12_now_13 : decode cX12_now 13 = .ok (.iload_n 2, 1) := by decide +kernel
theorem dX12_now_14 : decode cX12_now 14 = .ok (.ifCond .lt 9, 3) := by decide +kernel
theorem dX12_now_17 : decode cX12_now 17 = .ok (.iload_n 2, 1) := by decide +kernel
theorem dX12_now_18 : decode cX12_now 18 = .ok (.bipush 14, 2) := by decide +kernel
theorem dX12_now_20 : decode cX12_now 20 = .ok (.if_icmp .le 8, 3) := by decide +kernel
theorem dX12_now_23 : decode cX12_now 23 = .ok (.aload_n 0, 1) := by decide +kernel
theorem dX12_now_24 : decode cX12_now 24 = .ok (.invokevirtual 332, 3) := by decide +kernel
theorem dX12_now_27 : decode cX12_now 27 = .ok (.ireturn, 1) := by decide +kernel
theorem dX12_now_28 : decode cX12_now 28 = .ok (.aload_n 0, 1) := by decide +kernel
theorem dX12_now_29 : decode cX12_now 29 = .ok (.iload_n 1, 1) := by decide +kernel
theorem dX12_now_30 : decode cX12_now 30 = .ok (.invokevirtual 300, 3) := by decide +kernel
theorem dX12_now_33 : decode cX12_now 33 = .ok (.aload_n 0, 1) := by decide +kernel
theorem dX12_now_34 : decode cX12_now 34 = .ok (.iload_n 1, 1) := by decide +kernel
theorem dX12_now_35 : decode cX12_now 35 = .ok (.iload_n 2, 1) := by decide +kernel
theorem dX12_now_36 : decode cX12_now 36 = .ok (.invokevirtual 336, 3) := by decide +kernel
theorem dX12_now_39 : decode cX12_now 39 = .ok (.ireturn, 1) := by decide +kernel
theorem dX12_sumOf_0 : decode cX12_sumOf 0 = .ok (.iload_n 3, 1) := by decide +kernel
theorem dX12_sumOf_1 : decode cX12_sumOf 1 = .ok (.bipush 11, 2) := by decide +kernel
theorem dX12_sumOf_3 : decode cX12_sumOf 3 = .ok (.if_icmp .ne 12, 3) := by decide +kernel
theorem dX12_sumOf_6 : decode cX12_sumOf 6 = .ok (.aload_n 0, 1) := by decide +kernel
theorem dX12_sumOf_7 : decode cX12_sumOf 7 = .ok (.getfield 84, 3) := by decide +kernel
theorem dX12_sumOf_10 : decode cX12_sumOf 10 = .ok (.iload_n 2, 1) := by decide +kernel
theorem dX12_sumOf_11 : decode cX12_sumOf 11 = .ok (.iaload, 1) := by decide +kernel
theorem dX12_sumOf_12 : decode cX12_sumOf 12 = .ok (.goto 19, 3) := by decide +kernel
theorem dX12_sumOf_15 : decode cX12_sumOf 15 = .ok (.iload_n 3, 1) := by decide +kernel
theorem dX12_sumOf_16 : decode cX12_sumOf 16 = .ok (.bipush 12, 2) := by decide +kernel
theorem dX12_sumOf_18 : decode cX12_sumOf 18 = .ok (.if_icmp .ne 12, 3) := by decide +kernel
theorem dX12_sumOf_21 : decode cX12_sumOf 21 = .ok (.aload_n 0, 1) := by decide +kernel
theorem dX12_sumOf_22 : decode cX12_sumOf 22 = .ok (.getfield 111, 3) := by decide +kernel
theorem dX12_sumOf_25 : decode cX12_sumOf 25 = .ok (.iload_n 2, 1) := by decide +kernel
theorem dX12_sumOf_26 : decode cX12_sumOf 26 = .ok (.iaload, 1) := by decide +kernel
theorem dX12_sumOf_27 : decode cX12_sumOf 27 = .ok (.goto 4, 3) := by decide +kernel
theorem dX12_sumOf_30 : decode cX12_sumOf 30 = .ok (.iconst 0, 1) := by decide +kernel
theorem dX12_sumOf_31 : decode cX12_sumOf 31 = .ok (.istore 4, 2) := by decide +kernel
theorem dX12_sumOf_33 : decode cX12_sumOf 33 = .ok (.bipush 11, 2) := by decide +kernel
theorem dX12_sumOf_35 : decode cX12_sumOf 35 = .ok (.iload_n 2, 1) := by decide +kernel
theorem dX12_sumOf_36 : decode cX12_sumOf 36 = .ok (.imul, 1) := by decide +kernel
theorem dX12_sumOf_37 : decode cX12_sumOf 37 = .ok (.istore 5, 2) := by decide +kernel
theorem dX12_sumOf_39 : decode cX12_sumOf 39 = .ok (.iload 5, 2) := by decide +kernel
theorem dX12_sumOf_41 : decode cX12_sumOf 41 = .ok (.bipush 11, 2) := by decide +kernel
theorem dX12_sumOf_43 : decode cX12_sumOf 43 = .ok (.iload_n 2, 1) := by decide +kernel
theorem dX12_sumOf_44 : decode cX12_sumOf 44 = .ok (.imul, 1) := by decide +kernel
theorem dX12_sumOf_45 : decode cX12_sumOf 45 = .ok (.bipush 11, 2) := by decide +kernel
theorem dX12_sumOf_47 : decode cX12_sumOf 47 = .ok (.iadd, 1) := by decide +kernel
theorem dX12_sumOf_48 : decode cX12_sumOf 48 = .ok (.if_icmp .ge 47, 3) := by decide +kernel
theorem dX12_sumOf_51 : decode cX12_sumOf 51 = .ok (.iload 4, 2) := by decide +kernel
theorem dX12_sumOf_53 : decode cX12_sumOf 53 = .ok (.iload_n 3, 1) := by decide +kernel
theorem dX12_sumOf_54 : decode cX12_sumOf 54 = .ok (.bipush 11, 2) := by decide +kernel
theorem dX12_sumOf_56 : decode cX12_sumOf 56 = .ok (.if_icmp .ne 13, 3) := by decide +kernel
theorem dX12_sumOf_59 : decode cX12_sumOf 59 = .ok (.aload_n 0, 1) := by decide +kernel
theorem dX12_sumOf_60 : decode cX12_sumOf 60 = .ok (.getfield 127, 3) := by decide +kernel
theorem dX12_sumOf_63 : decode cX12_sumOf 63 = .ok (.iload 5, 2) := by decide +kernel
theorem dX12_sumOf_65 : decode cX12_sumOf 65 = .ok (.iaload, 1) := by decide +kernel
theorem dX12_sumOf_66 : decode cX12_sumOf 66 = .ok (.goto 20, 3) := by decide +kernel
theorem dX12_sumOf_69 : decode cX12_sumOf 69 = .ok (.iload_n 3, 1) := by decide +kernel
theorem dX12_sumOf_70 : decode cX12_sumOf 70 = .ok (.bipush 12, 2) := by decide +kernel
theorem dX12_sumOf_72 : decode cX12_sumOf 72 = .ok (.if_icmp .ne 13, 3) := by decide +kernel
theorem dX12_sumOf_75 : decode cX12_sumOf 75 = .ok (.aload_n 0, 1) := by decide +kernel
theorem dX12_sumOf_76 : decode cX12_sumOf 76 = .ok (.getfield 139, 3) := by decide +kernel
theorem dX12_sumOf_79 : decode cX12_sumOf 79 = .ok (.iload 5, 2) := by decide +kernel
theorem dX12_sumOf_81 : decode cX12_sumOf 81 = .ok (.iaload, 1) := by decide +kernel
theorem dX12_sumOf_82 : decode cX12_sumOf 82 = .ok (.goto 4, 3) := by decide +kernel
theorem dX12_sumOf_85 : decode cX12_sumOf 85 = .ok (.iconst 0, 1) := by decide +kernel
theorem dX12_sumOf_86 : decode cX12_sumOf 86 = .ok (.iadd, 1) := by decide +kernel
theorem dX12_sumOf_87 : decode cX12_sumOf 87 = .ok (.istore 4, 2) := by decide +kernel
theorem dX12_sumOf_89 : decode cX12_sumOf 89 = .ok (.iinc 5 1, 3) := by decide +kernel
theorem dX12_sumOf_92 : decode cX12_sumOf 92 = .ok (.goto (-53), 3) := by decide +kernel
theorem dX12_sumOf_95 : decode cX12_sumOf 95 = .ok (.iconst 0, 1) := by decide +kernel
theorem dX12_sumOf_96 : decode cX12_sumOf 96 = .ok (.istore 5, 2) := by decide +kernel
theorem dX12_sumOf_98 : decode cX12_sumOf 98 = .ok (.iload 5, 2) := by decide +kernel
theorem dX12_sumOf_100 : decode cX12_sumOf 100 = .ok (.aload_n 0, 1) := by decide +kernel
theorem dX12_sumOf_101 : decode cX12_sumOf 101 = .ok (.getfield 28, 3) := by decide +kernel
theorem dX12_sumOf_104 : decode cX12_sumOf 104 = .ok (.iconst 4, 1) := by decide +kernel
theorem dX12_sumOf_105 : decode cX12_sumOf 105 = .ok (.iload_n 1, 1) := by decide +kernel
theorem dX12_sumOf_106 : decode cX12_sumOf 106 = .ok (.imul, 1) := by decide +kernel
theorem dX12_sumOf_107 : decode cX12_sumOf 107 = .ok (.iload_n 2, 1) := by decide +kernel
theorem dX12_sumOf_108 : decode cX12_sumOf 108 = .ok (.iadd, 1) := by decide +kernel
theorem dX12_sumOf_109 : decode cX12_sumOf 109 = .ok (.iaload, 1) := by decide +kernel
theorem dX12_sumOf_110 : decode cX12_sumOf 110 = .ok (.if_icmp .ge 33, 3) := by decide +kernel
theorem dX12_sumOf_113 : decode cX12_sumOf 113 = .ok (.iload_n 3, 1) := by decide +kernel
theorem dX12_sumOf_114 : decode cX12_sumOf 114 = .ok (.bipush 13, 2) := by decide +kernel
theorem dX12_sumOf_116 : decode cX12_sumOf 116 = .ok (.if_icmp .ne 27, 3) := by decide +kernel
theorem dX12_sumOf_119 : decode cX12_sumOf 119 = .ok (.iload 4, 2) := by decide +kernel
theorem dX12_sumOf_121 : decode cX12_sumOf 121 = .ok (.aload_n 0, 1) := by decide +kernel
theorem dX12_sumOf_122 : decode cX12_sumOf 122 = .ok (.getfield 145, 3) := by decide +kernel
theorem dX12_sumOf_125 : decode cX12_sumOf 125 = .ok (.aload_n 0, 1) := by decide +kernel
theorem dX12_sumOf_126 : decode cX12_sumOf 126 = .ok (.iload_n 1, 1) := by decide +kernel
theorem dX12_sumOf_127 : decode cX12_sumOf 127 = .ok (.iload_n 2, 1) := by decide +kernel
theorem dX12_sumOf_128 : decode cX12_sumOf 128 = .ok (.iload 5, 2) := by decide +kernel
theorem dX12_sumOf_130 : decode cX12_sumOf 130 = .ok (.invokevirtual 228, 3) := by decide +kernel
theorem dX12_sumOf_133 : decode cX12_sumOf 133 = .ok (.iaload, 1) := by decide +kernel
theorem dX12_sumOf_134 : decode cX12_sumOf 134 = .ok (.iadd, 1) := by decide +kernel
theorem dX12_sumOf_135 : decode cX12_sumOf 135 = .ok (.istore 4, 2) := by decide +kernel
theorem dX12_sumOf_137 : decode cX12_sumOf 137 = .ok (.iinc 5 1, 3) := by decide +kernel
theorem dX12_sumOf_140 : decode cX12_sumOf 140 = .ok (.goto (-42), 3) := by decide +kernel
theorem dX12_sumOf_143 : decode cX12_sumOf 143 = .ok (.iload 4, 2) := by decide +kernel
theorem dX12_sumOf_145 : decode cX12_sumOf 145 = .ok (.ireturn, 1) := by decide +kernel
theorem dX12_scoreOf_0 : decode cX12_scoreOf 0 = .ok (.iload_n 3, 1) := by decide +kernel
theorem dX12_scoreOf_1 : decode cX12_scoreOf 1 = .ok (.tableswitch 179 0 14 #[75, 82, 89, 96, 103, 110, 117, 124, 131, 138, 153, 164, 164, 164, 172], 75) := by decide +kernel
theorem dX12_scoreOf_76 : decode cX12_scoreOf 76 = .ok (.aload_n 0, 1) := by decide +kernel
theorem dX12_scoreOf_77 : decode cX12_scoreOf 77 = .ok (.getfield 72, 3) := by decide +kernel
theorem dX12_scoreOf_80 : decode cX12_scoreOf 80 = .ok (.iload_n 2, 1) := by decide +kernel
theorem dX12_scoreOf_81 : decode cX12_scoreOf 81 = .ok (.iaload, 1) := by decide +kernel
theorem dX12_scoreOf_82 : decode cX12_scoreOf 82 = .ok (.ireturn, 1) := by decide +kernel
theorem dX12_scoreOf_83 : decode cX12_scoreOf 83 = .ok (.aload_n 0, 1) := by decide +kernel
theorem dX12_scoreOf_84 : decode cX12_scoreOf 84 = .ok (.getfield 75, 3) := by decide +kernel
theorem dX12_scoreOf_87 : decode cX12_scoreOf 87 = .ok (.iload_n 2, 1) := by decide +kernel
theorem dX12_scoreOf_88 : decode cX12_scoreOf 88 = .ok (.iaload, 1) := by decide +kernel
theorem dX12_scoreOf_89 : decode cX12_scoreOf 89 = .ok (.ireturn, 1) := by decide +kernel
theorem dX12_scoreOf_90 : decode cX12_scoreOf 90 = .ok (.aload_n 0, 1) := by decide +kernel
theorem dX12_scoreOf_91 : decode cX12_scoreOf 91 = .ok (.getfield 78, 3) := by decide +kernel
theorem dX12_scoreOf_94 : decode cX12_scoreOf 94 = .ok (.iload_n 2, 1) := by decide +kernel
theorem dX12_scoreOf_95 : decode cX12_scoreOf 95 = .ok (.iaload, 1) := by decide +kernel
theorem dX12_scoreOf_96 : decode cX12_scoreOf 96 = .ok (.ireturn, 1) := by decide +kernel
theorem dX12_scoreOf_97 : decode cX12_scoreOf 97 = .ok (.aload_n 0, 1) := by decide +kernel
theorem dX12_scoreOf_98 : decode cX12_scoreOf 98 = .ok (.getfield 81, 3) := by decide +kernel
theorem dX12_scoreOf_101 : decode cX12_scoreOf 101 = .ok (.iload_n 2, 1) := by decide +kernel
theorem dX12_scoreOf_102 : decode cX12_scoreOf 102 = .ok (.iaload, 1) := by decide +kernel
theorem dX12_scoreOf_103 : decode cX12_scoreOf 103 = .ok (.ireturn, 1) := by decide +kernel
theorem dX12_scoreOf_104 : decode cX12_scoreOf 104 = .ok (.aload_n 0, 1) := by decide +kernel
theorem dX12_scoreOf_105 : decode cX12_scoreOf 105 = .ok (.getfield 84, 3) := by decide +kernel
theorem dX12_scoreOf_108 : decode cX12_scoreOf 108 = .ok (.iload_n 2, 1) := by decide +kernel
theorem dX12_scoreOf_109 : decode cX12_scoreOf 109 = .ok (.iaload, 1) := by decide +kernel
theorem dX12_scoreOf_110 : decode cX12_scoreOf 110 = .ok (.ireturn, 1) := by decide +kernel
theorem dX12_scoreOf_111 : decode cX12_scoreOf 111 = .ok (.aload_n 0, 1) := by decide +kernel
theorem dX12_scoreOf_112 : decode cX12_scoreOf 112 = .ok (.getfield 87, 3) := by decide +kernel
theorem dX12_scoreOf_115 : decode cX12_scoreOf 115 = .ok (.iload_n 2, 1) := by decide +kernel
theorem dX12_scoreOf_116 : decode cX12_scoreOf 116 = .ok (.iaload, 1) := by decide +kernel
theorem dX12_scoreOf_117 : decode cX12_scoreOf 117 = .ok (.ireturn, 1) := by decide +kernel
theorem dX12_scoreOf_118 : decode cX12_scoreOf 118 = .ok (.aload_n 0, 1) := by decide +kernel
theorem dX12_scoreOf_119 : decode cX12_scoreOf 119 = .ok (.getfield 90, 3) := by decide +kernel
theorem dX12_scoreOf_122 : decode cX12_scoreOf 122 = .ok (.iload_n 2, 1) := by decide +kernel
theorem dX12_scoreOf_123 : decode cX12_scoreOf 123 = .ok (.iaload, 1) := by decide +kernel
theorem dX12_scoreOf_124 : decode cX12_scoreOf 124 = .ok (.ireturn, 1) := by decide +kernel
theorem dX12_scoreOf_125 : decode cX12_scoreOf 125 = .ok (.aload_n 0, 1) := by decide +kernel
theorem dX12_scoreOf_126 : decode cX12_scoreOf 126 = .ok (.getfield 93, 3) := by decide +kernel
theorem dX12_scoreOf_129 : decode cX12_scoreOf 129 = .ok (.iload_n 2, 1) := by decide +kernel
theorem dX12_scoreOf_130 : decode cX12_scoreOf 130 = .ok (.iaload, 1) := by decide +kernel
theorem dX12_scoreOf_131 : decode cX12_scoreOf 131 = .ok (.ireturn, 1) := by decide +kernel
theorem dX12_scoreOf_132 : decode cX12_scoreOf 132 = .ok (.aload_n 0, 1) := by decide +kernel
theorem dX12_scoreOf_133 : decode cX12_scoreOf 133 = .ok (.getfield 96, 3) := by decide +kernel
theorem dX12_scoreOf_136 : decode cX12_scoreOf 136 = .ok (.iload_n 2, 1) := by decide +kernel
theorem dX12_scoreOf_137 : decode cX12_scoreOf 137 = .ok (.iaload, 1) := by decide +kernel
theorem dX12_scoreOf_138 : decode cX12_scoreOf 138 = .ok (.ireturn, 1) := by decide +kernel
theorem dX12_scoreOf_139 : decode cX12_scoreOf 139 = .ok (.aload_n 0, 1) := by decide +kernel
theorem dX12_scoreOf_140 : decode cX12_scoreOf 140 = .ok (.getfield 123, 3) := by decide +kernel
theorem dX12_scoreOf_143 : decode cX12_scoreOf 143 = .ok (.iload_n 2, 1) := by decide +kernel
theorem dX12_scoreOf_144 : decode cX12_scoreOf 144 = .ok (.baload, 1) := by decide +kernel
theorem dX12_scoreOf_145 : decode cX12_scoreOf 145 = .ok (.ifCond .eq 7, 3) := by decide +kernel
theorem dX12_scoreOf_148 : decode cX12_scoreOf 148 = .ok (.iconst 1, 1) := by decide +kernel
theorem dX12_scoreOf_149 : decode cX12_scoreOf 149 = .ok (.goto 4, 3) := by decide +kernel
theorem dX12_scoreOf_152 : decode cX12_scoreOf 152 = .ok (.iconst 0, 1) := by decide +kernel
theorem dX12_scoreOf_153 : decode cX12_scoreOf 153 = .ok (.ireturn, 1) := by decide +kernel
theorem dX12_scoreOf_154 : decode cX12_scoreOf 154 = .ok (.aload_n 0, 1) := by decide +kernel
theorem dX12_scoreOf_155 : decode cX12_scoreOf 155 = .ok (.getfield 28, 3) := by decide +kernel
theorem dX12_scoreOf_158 : decode cX12_scoreOf 158 = .ok (.iconst 4, 1) := by decide +kernel
theorem dX12_scoreOf_159 : decode cX12_scoreOf 159 = .ok (.iload_n 1, 1) := by decide +kernel
theorem dX12_scoreOf_160 : decode cX12_scoreOf 160 = .ok (.imul, 1) := by decide +kernel
theorem dX12_scoreOf_161 : decode cX12_scoreOf 161 = .ok (.iload_n 2, 1) := by decide +kernel
theorem dX12_scoreOf_162 : decode cX12_scoreOf 162 = .ok (.iadd, 1) := by decide +kernel
theorem dX12_scoreOf_163 : decode cX12_scoreOf 163 = .ok (.iaload, 1) := by decide +kernel
theorem dX12_scoreOf_164 : decode cX12_scoreOf 164 = .ok (.ireturn, 1) := by decide +kernel
theorem dX12_scoreOf_165 : decode cX12_scoreOf 165 = .ok (.aload_n 0, 1) := by decide +kernel
theorem dX12_scoreOf_166 : decode cX12_scoreOf 166 = .ok (.iload_n 1, 1) := by decide +kernel
theorem dX12_scoreOf_167 : decode cX12_scoreOf 167 = .ok (.iload_n 2, 1) := by decide +kernel
theorem dX12_scoreOf_168 : decode cX12_scoreOf 168 = .ok (.iload_n 3, 1) := by decide +kernel
theorem dX12_scoreOf_169 : decode cX12_scoreOf 169 = .ok (.invokevirtual 339, 3) := by decide +kernel
theorem dX12_scoreOf_172 : decode cX12_scoreOf 172 = .ok (.ireturn, 1) := by decide +kernel
theorem dX12_scoreOf_173 : decode cX12_scoreOf 173 = .ok (.aload_n 0, 1) := by decide +kernel
theorem dX12_scoreOf_174 : decode cX12_scoreOf 174 = .ok (.getfield 114, 3) := by decide +kernel
theorem dX12_scoreOf_177 : decode cX12_scoreOf 177 = .ok (.iload_n 2, 1) := by decide +kernel
theorem dX12_scoreOf_178 : decode cX12_scoreOf 178 = .ok (.iaload, 1) := by decide +kernel
theorem dX12_scoreOf_179 : decode cX12_scoreOf 179 = .ok (.ireturn, 1) := by decide +kernel
theorem dX12_scoreOf_180 : decode cX12_scoreOf 180 = .ok (.aload_n 0, 1) := by decide +kernel
theorem dX12_scoreOf_181 : decode cX12_scoreOf 181 = .ok (.getfield 117, 3) := by decide +kernel
theorem dX12_scoreOf_184 : decode cX12_scoreOf 184 = .ok (.iload_n 2, 1) := by decide +kernel
theorem dX12_scoreOf_185 : decode cX12_scoreOf 185 = .ok (.iaload, 1) := by decide +kernel
theorem dX12_scoreOf_186 : decode cX12_scoreOf 186 = .ok (.ireturn, 1) := by decide +kernel
theorem dX12_isTurn_0 : decode cX12_isTurn 0 = .ok (.aload_n 0, 1) := by decide +kernel
theorem dX12_isTurn_1 : decode cX12_isTurn 1 = .ok (.iload_n 1, 1) := by decide +kernel
theorem dX12_isTurn_2 : decode cX12_isTurn 2 = .ok (.invokevirtual 193, 3) := by decide +kernel
theorem dX12_isTurn_5 : decode cX12_isTurn 5 = .ok (.ifCond .eq 21, 3) := by decide +kernel
theorem dX12_isTurn_8 : decode cX12_isTurn 8 = .ok (.iload_n 2, 1) := by decide +kernel
theorem dX12_isTurn_9 : decode cX12_isTurn 9 = .ok (.ifCond .lt 17, 3) := by decide +kernel
theorem dX12_isTurn_12 : decode cX12_isTurn 12 = .ok (.iload_n 2, 1) := by decide +kernel
theorem dX12_isTurn_13 : decode cX12_isTurn 13 = .ok (.aload_n 0, 1) := by decide +kernel
theorem dX12_isTurn_14 : decode cX12_isTurn 14 = .ok (.getfield 25, 3) := by decide +kernel
theorem dX12_isTurn_17 : decode cX12_isTurn 17 = .ok (.iload_n 1, 1) := by decide +kernel
theorem dX12_isTurn_18 : decode cX12_isTurn 18 = .ok (.iaload, 1) := by decide +kernel
theorem dX12_isTurn_19 : decode cX12_isTurn 19 = .ok (.if_icmp .ge 7, 3) := by decide +kernel
theorem dX12_isTurn_22 : decode cX12_isTurn 22 = .ok (.iconst 1, 1) := by decide +kernel
theorem dX12_isTurn_23 : decode cX12_isTurn 23 = .ok (.goto 4, 3) := by decide +kernel
theorem dX12_isTurn_26 : decode cX12_isTurn 26 = .ok (.iconst 0, 1) := by decide +kernel
theorem dX12_isTurn_27 : decode cX12_isTurn 27 = .ok (.ireturn, 1) := by decide +kernel
theorem dX12_score_0 : decode cX12_score 0 = .ok (.aload_n 0, 1) := by decide +kernel
theorem dX12_score_1 : decode cX12_score 1 = .ok (.iconst 0, 1) := by decide +kernel
theorem dX12_score_2 : decode cX12_score 2 = .ok (.putfield 175, 3) := by decide +kernel
theorem dX12_score_5 : decode cX12_score 5 = .ok (.aload_n 0, 1) := by decide +kernel
theorem dX12_score_6 : decode cX12_score 6 = .ok (.iload_n 1, 1) := by decide +kernel
theorem dX12_score_7 : decode cX12_score 7 = .ok (.iload_n 2, 1) := by decide +kernel
theorem dX12_score_8 : decode cX12_score 8 = .ok (.invokevirtual 342, 3) := by decide +kernel
theorem dX12_score_11 : decode cX12_score 11 = .ok (.ifCond .eq 13, 3) := by decide +kernel
theorem dX12_score_14 : decode cX12_score 14 = .ok (.iload_n 3, 1) := by decide +kernel
theorem dX12_score_15 : decode cX12_score 15 = .ok (.ifCond .lt 9, 3) := by decide +kernel
theorem dX12_score_18 : decode cX12_score 18 = .ok (.iload_n 3, 1) := by decide +kernel
theorem dX12_score_19 : decode cX12_score 19 = .ok (.bipush 15, 2) := by decide +kernel
theorem dX12_score_21 : decode cX12_score 21 = .ok (.if_icmp .le 8, 3) := by decide +kernel
theorem dX12_score_24 : decode cX12_score 24 = .ok (.aload_n 0, 1) := by decide +kernel
theorem dX12_score_25 : decode cX12_score 25 = .ok (.invokevirtual 332, 3) := by decide +kernel
theorem dX12_score_28 : decode cX12_score 28 = .ok (.ireturn, 1) := by decide +kernel
theorem dX12_score_29 : decode cX12_score 29 = .ok (.aload_n 0, 1) := by decide +kernel
theorem dX12_score_30 : decode cX12_score 30 = .ok (.iload_n 1, 1) := by decide +kernel
theorem dX12_score_31 : decode cX12_score 31 = .ok (.invokevirtual 300, 3) := by decide +kernel
theorem dX12_score_34 : decode cX12_score 34 = .ok (.aload_n 0, 1) := by decide +kernel
theorem dX12_score_35 : decode cX12_score 35 = .ok (.iload_n 1, 1) := by decide +kernel
theorem dX12_score_36 : decode cX12_score 36 = .ok (.iload_n 2, 1) := by decide +kernel
theorem dX12_score_37 : decode cX12_score 37 = .ok (.iload_n 3, 1) := by decide +kernel
theorem dX12_score_38 : decode cX12_score 38 = .ok (.invokevirtual 345, 3) := by decide +kernel
theorem dX12_score_41 : decode cX12_score 41 = .ok (.ireturn, 1) := by decide +kernel
theorem dX12_overs_0 : decode cX12_overs 0 = .ok (.aload_n 0, 1) := by decide +kernel
theorem dX12_overs_1 : decode cX12_overs 1 = .ok (.iconst 0, 1) := by decide +kernel
theorem dX12_overs_2 : decode cX12_overs 2 = .ok (.putfield 175, 3) := by decide +kernel
theorem dX12_overs_5 : decode cX12_overs 5 = .ok (.aload_n 0, 1) := by decide +kernel
theorem dX12_overs_6 : decode cX12_overs 6 = .ok (.iload_n 1, 1) := by decide +kernel
theorem dX12_overs_7 : decode cX12_overs 7 = .ok (.iload_n 2, 1) := by decide +kernel
theorem dX12_overs_8 : decode cX12_overs 8 = .ok (.iload_n 3, 1) := by decide +kernel
theorem dX12_overs_9 : decode cX12_overs 9 = .ok (.invokevirtual 312, 3) := by decide +kernel
theorem dX12_overs_12 : decode cX12_overs 12 = .ok (.istore 5, 2) := by decide +kernel
theorem dX12_overs_14 : decode cX12_overs 14 = .ok (.iload 5, 2) := by decide +kernel
theorem dX12_overs_16 : decode cX12_overs 16 = .ok (.iconst (-1), 1) := by decide +kernel
theorem dX12_overs_17 : decode cX12_overs 17 = .ok (.if_icmp .eq 15, 3) := by decide +kernel
theorem dX12_overs_20 : decode cX12_overs 20 = .ok (.iload 4, 2) := by decide +kernel
theorem dX12_overs_22 : decode cX12_overs 22 = .ok (.ifCond .lt 10, 3) := by decide +kernel
theorem dX12_overs_25 : decode cX12_overs 25 = .ok (.iload 4, 2) := by decide +kernel
theorem dX12_overs_27 : decode cX12_overs 27 = .ok (.bipush 7, 2) := by decide +kernel
theorem dX12_overs_29 : decode cX12_overs 29 = .ok (.if_icmp .le 8, 3) := by decide +kernel
theorem dX12_overs_32 : decode cX12_overs 32 = .ok (.aload_n 0, 1) := by decide +kernel
theorem dX12_overs_33 : decode cX12_overs 33 = .ok (.invokevirtual 332, 3) := by decide +kernel
theorem dX12_overs_36 : decode cX12_overs 36 = .ok (.ireturn, 1) := by decide +kernel
theorem dX12_overs_37 : decode cX12_overs 37 = .ok (.aload_n 0, 1) := by decide +kernel
theorem dX12_overs_38 : decode cX12_overs 38 = .ok (.iload_n 1, 1) := by decide +kernel
theorem dX12_overs_39 : decode cX12_overs 39 = .ok (.invokevirtual 300, 3) := by decide +kernel
theorem dX12_overs_42 : decode cX12_overs 42 = .ok (.iload 4, 2) := by decide +kernel
theorem dX12_overs_44 : decode cX12_overs 44 = .ok (.tableswitch 116 0 6 #[44, 52, 60, 68, 76, 84, 100], 44) := by decide +kernel
theorem dX12_overs_88 : decode cX12_overs 88 = .ok (.aload_n 0, 1) := by decide +kernel
theorem dX12_overs_89 : decode cX12_overs 89 = .ok (.getfield 35, 3) := by decide +kernel
theorem dX12_overs_92 : decode cX12_overs 92 = .ok (.iload 5, 2) := by decide +kernel
theorem dX12_overs_94 : decode cX12_overs 94 = .ok (.iaload, 1) := by decide +kernel
theorem dX12_overs_95 : decode cX12_overs 95 = .ok (.ireturn, 1) := by decide +kernel
theorem dX12_overs_96 : decode cX12_overs 96 = .ok (.aload_n 0, 1) := by decide +kernel
theorem dX12_overs_97 : decode cX12_overs 97 = .ok (.getfield 38, 3) := by decide +kernel
theorem dX12_overs_100 : decode cX12_overs 100 = .ok (.iload 5, 2) := by decide +kernel
theorem dX12_overs_102 : decode cX12_overs 102 = .ok (.iaload, 1) := by decide +kernel
theorem dX12_overs_103 : decode cX12_overs 103 = .ok (.ireturn, 1) := by decide +kernel
theorem dX12_overs_104 : decode cX12_overs 104 = .ok (.aload_n 0, 1) := by decide +kernel
theorem dX12_overs_105 : decode cX12_overs 105 = .ok (.getfield 145, 3) := by decide +kernel
theorem dX12_overs_108 : decode cX12_overs 108 = .ok (.iload 5, 2) := by decide +kernel
theorem dX12_overs_110 : decode cX12_overs 110 = .ok (.iaload, 1) := by decide +kernel
theorem dX12_overs_111 : decode cX12_overs 111 = .ok (.ireturn, 1) := by decide +kernel
theorem dX12_overs_112 : decode cX12_overs 112 = .ok (.aload_n 0, 1) := by decide +kernel
theorem dX12_overs_113 : decode cX12_overs 113 = .ok (.getfield 148, 3) := by decide +kernel
theorem dX12_overs_116 : decode cX12_overs 116 = .ok (.iload 5, 2) := by decide +kernel
theorem dX12_overs_118 : decode cX12_overs 118 = .ok (.iaload, 1) := by decide +kernel
theorem dX12_overs_119 : decode cX12_overs 119 = .ok (.ireturn, 1) := by decide +kernel
theorem dX12_overs_120 : decode cX12_overs 120 = .ok (.aload_n 0, 1) := by decide +kernel
theorem dX12_overs_121 : decode cX12_overs 121 = .ok (.getfield 151, 3) := by decide +kernel
theorem dX12_overs_124 : decode cX12_overs 124 = .ok (.iload 5, 2) := by decide +kernel
theorem dX12_overs_126 : decode cX12_overs 126 = .ok (.iaload, 1) := by decide +kernel
theorem dX12_overs_127 : decode cX12_overs 127 = .ok (.ireturn, 1) := by decide +kernel
theorem dX12_overs_128 : decode cX12_overs 128 = .ok (.aload_n 0, 1) := by decide +kernel
theorem dX12_overs_129 : decode cX12_overs 129 = .ok (.getfield 154, 3) := by decide +kernel
theorem dX12_overs_132 : decode cX12_overs 132 = .ok (.iload 5, 2) := by decide +kernel
theorem dX12_overs_134 : decode cX12_overs 134 = .ok (.baload, 1) := by decide +kernel
theorem dX12_overs_135 : decode cX12_overs 135 = .ok (.ifCond .eq 7, 3) := by decide +kernel
theorem dX12_overs_138 : decode cX12_overs 138 = .ok (.iconst 1, 1) := by decide +kernel
theorem dX12_overs_139 : decode cX12_overs 139 = .ok (.goto 4, 3) := by decide +kernel
theorem dX12_overs_142 : decode cX12_overs 142 = .ok (.iconst 0, 1) := by decide +kernel
theorem dX12_overs_143 : decode cX12_overs 143 = .ok (.ireturn, 1) := by decide +kernel
theorem dX12_overs_144 : decode cX12_overs 144 = .ok (.aload_n 0, 1) := by decide +kernel
theorem dX12_overs_145 : decode cX12_overs 145 = .ok (.getfield 157, 3) := by decide +kernel
theorem dX12_overs_148 : decode cX12_overs 148 = .ok (.iload 5, 2) := by decide +kernel
theorem dX12_overs_150 : decode cX12_overs 150 = .ok (.baload, 1) := by decide +kernel
theorem dX12_overs_151 : decode cX12_overs 151 = .ok (.ifCond .eq 7, 3) := by decide +kernel
theorem dX12_overs_154 : decode cX12_overs 154 = .ok (.iconst 1, 1) := by decide +kernel
theorem dX12_overs_155 : decode cX12_overs 155 = .ok (.goto 4, 3) := by decide +kernel
theorem dX12_overs_158 : decode cX12_overs 158 = .ok (.iconst 0, 1) := by decide +kernel
theorem dX12_overs_159 : decode cX12_overs 159 = .ok (.ireturn, 1) := by decide +kernel
theorem dX12_overs_160 : decode cX12_overs 160 = .ok (.aload_n 0, 1) := by decide +kernel
theorem dX12_overs_161 : decode cX12_overs 161 = .ok (.getfield 160, 3) := by decide +kernel
theorem dX12_overs_164 : decode cX12_overs 164 = .ok (.iload 5, 2) := by decide +kernel
theorem dX12_overs_166 : decode cX12_overs 166 = .ok (.baload, 1) := by decide +kernel
theorem dX12_overs_167 : decode cX12_overs 167 = .ok (.ifCond .eq 7, 3) := by decide +kernel
theorem dX12_overs_170 : decode cX12_overs 170 = .ok (.iconst 1, 1) := by decide +kernel
theorem dX12_overs_171 : decode cX12_overs 171 = .ok (.goto 4, 3) := by decide +kernel
theorem dX12_overs_174 : decode cX12_overs 174 = .ok (.iconst 0, 1) := by decide +kernel
theorem dX12_overs_175 : decode cX12_overs 175 = .ok (.ireturn, 1) := by decide +kernel
theorem dX12_entry_0 : decode cX12_entry 0 = .ok (.aload_n 0, 1) := by decide +kernel
theorem dX12_entry_1 : decode cX12_entry 1 = .ok (.iconst 0, 1) := by decide +kernel
theorem dX12_entry_2 : decode cX12_entry 2 = .ok (.putfield 175, 3) := by decide +kernel
theorem dX12_entry_5 : decode cX12_entry 5 = .ok (.aload_n 0, 1) := by decide +kernel
theorem dX12_entry_6 : decode cX12_entry 6 = .ok (.iload_n 1, 1) := by decide +kernel
theorem dX12_entry_7 : decode cX12_entry 7 = .ok (.iload_n 2, 1) := by decide +kernel
theorem dX12_entry_8 : decode cX12_entry 8 = .ok (.iload_n 3, 1) := by decide +kernel
theorem dX12_entry_9 : decode cX12_entry 9 = .ok (.invokevirtual 312, 3) := by decide +kernel
theorem dX12_entry_12 : decode cX12_entry 12 = .ok (.istore 5, 2) := by decide +kernel
theorem dX12_entry_14 : decode cX12_entry 14 = .ok (.iload 5, 2) := by decide +kernel
theorem dX12_entry_16 : decode cX12_entry 16 = .ok (.iconst (-1), 1) := by decide +kernel
theorem dX12_entry_17 : decode cX12_entry 17 = .ok (.if_icmp .eq 20, 3) := by decide +kernel
theorem dX12_entry_20 : decode cX12_entry 20 = .ok (.iload 4, 2) := by decide +kernel
theorem dX12_entry_22 : decode cX12_entry 22 = .ok (.ifCond .lt 15, 3) := by decide +kernel
theorem dX12_entry_25 : decode cX12_entry 25 = .ok (.iload 4, 2) := by decide +kernel
theorem dX12_entry_27 : decode cX12_entry 27 = .ok (.aload_n 0, 1) := by decide +kernel
theorem dX12_entry_28 : decode cX12_entry 28 = .ok (.getfield 38, 3) := by decide +kernel
theorem dX12_entry_31 : decode cX12_entry 31 = .ok (.iload 5, 2) := by decide +kernel
theorem dX12_entry_33 : decode cX12_entry 33 = .ok (.iaload, 1) := by decide +kernel
theorem dX12_entry_34 : decode cX12_entry 34 = .ok (.if_icmp .lt 8, 3) := by decide +kernel
theorem dX12_entry_37 : decode cX12_entry 37 = .ok (.aload_n 0, 1) := by decide +kernel
theorem dX12_entry_38 : decode cX12_entry 38 = .ok (.invokevirtual 332, 3) := by decide +kernel
theorem dX12_entry_41 : decode cX12_entry 41 = .ok (.ireturn, 1) := by decide +kernel
theorem dX12_entry_42 : decode cX12_entry 42 = .ok (.aload_n 0, 1) := by decide +kernel
theorem dX12_entry_43 : decode cX12_entry 43 = .ok (.getfield 42, 3) := by decide +kernel
theorem dX12_entry_46 : decode cX12_entry 46 = .ok (.bipush 40, 2) := by decide +kernel
theorem dX12_entry_48 : decode cX12_entry 48 = .ok (.iload 5, 2) := by decide +kernel
theorem dX12_entry_50 : decode cX12_entry 50 = .ok (.imul, 1) := by decide +kernel
theorem dX12_entry_51 : decode cX12_entry 51 = .ok (.iload 4, 2) := by decide +kernel
theorem dX12_entry_53 : decode cX12_entry 53 = .ok (.iadd, 1) := by decide +kernel
theorem dX12_entry_54 : decode cX12_entry 54 = .ok (.iaload, 1) := by decide +kernel
theorem dX12_entry_55 : decode cX12_entry 55 = .ok (.ireturn, 1) := by decide +kernel
theorem dX12_batsOf_0 : decode cX12_batsOf 0 = .ok (.bipush 11, 2) := by decide +kernel
theorem dX12_batsOf_2 : decode cX12_batsOf 2 = .ok (.iload_n 2, 1) := by decide +kernel
theorem dX12_batsOf_3 : decode cX12_batsOf 3 = .ok (.imul, 1) := by decide +kernel
theorem dX12_batsOf_4 : decode cX12_batsOf 4 = .ok (.iload_n 3, 1) := by decide +kernel
theorem dX12_batsOf_5 : decode cX12_batsOf 5 = .ok (.iadd, 1) := by decide +kernel
theorem dX12_batsOf_6 : decode cX12_batsOf 6 = .ok (.istore 5, 2) := by decide +kernel
theorem dX12_batsOf_8 : decode cX12_batsOf 8 = .ok (.iload 4, 2) := by decide +kernel
theorem dX12_batsOf_10 : decode cX12_batsOf 10 = .ok (.ifCond .ne 13, 3) := by decide +kernel
theorem dX12_batsOf_13 : decode cX12_batsOf 13 = .ok (.aload_n 0, 1) := by decide +kernel
theorem dX12_batsOf_14 : decode cX12_batsOf 14 = .ok (.getfield 127, 3) := by decide +kernel
theorem dX12_batsOf_17 : decode cX12_batsOf 17 = .ok (.iload 5, 2) := by decide +kernel
theorem dX12_batsOf_19 : decode cX12_batsOf 19 = .ok (.iaload, 1) := by decide +kernel
theorem dX12_batsOf_20 : decode cX12_batsOf 20 = .ok (.goto 53, 3) := by decide +kernel
theorem dX12_batsOf_23 : decode cX12_batsOf 23 = .ok (.iload 4, 2) := by decide +kernel
theorem dX12_batsOf_25 : decode cX12_batsOf 25 = .ok (.iconst 1, 1) := by decide +kernel
theorem dX12_batsOf_26 : decode cX12_batsOf 26 = .ok (.if_icmp .ne 13, 3) := by decide +kernel
theorem dX12_batsOf_29 : decode cX12_batsOf 29 = .ok (.aload_n 0, 1) := by decide +kernel
theorem dX12_batsOf_30 : decode cX12_batsOf 30 = .ok (.getfield 130, 3) := by decide +kernel
theorem dX12_batsOf_33 : decode cX12_batsOf 33 = .ok (.iload 5, 2) := by decide +kernel
theorem dX12_batsOf_35 : decode cX12_batsOf 35 = .ok (.iaload, 1) := by decide +kernel
theorem dX12_batsOf_36 : decode cX12_batsOf 36 = .ok (.goto 37, 3) := by decide +kernel
theorem dX12_batsOf_39 : decode cX12_batsOf 39 = .ok (.iload 4, 2) := by decide +kernel
theorem dX12_batsOf_41 : decode cX12_batsOf 41 = .ok (.iconst 2, 1) := by decide +kernel
theorem dX12_batsOf_42 : decode cX12_batsOf 42 = .ok (.if_icmp .ne 13, 3) := by decide +kernel
theorem dX12_batsOf_45 : decode cX12_batsOf 45 = .ok (.aload_n 0, 1) := by decide +kernel
theorem dX12_batsOf_46 : decode cX12_batsOf 46 = .ok (.getfield 133, 3) := by decide +kernel
theorem dX12_batsOf_49 : decode cX12_batsOf 49 = .ok (.iload 5, 2) := by decide +kernel
theorem dX12_batsOf_51 : decode cX12_batsOf 51 = .ok (.iaload, 1) := by decide +kernel
theorem dX12_batsOf_52 : decode cX12_batsOf 52 = .ok (.goto 21, 3) := by decide +kernel
theorem dX12_batsOf_55 : decode cX12_batsOf 55 = .ok (.aload_n 0, 1) := by decide +kernel
theorem dX12_batsOf_56 : decode cX12_batsOf 56 = .ok (.getfield 22, 3) := by decide +kernel
theorem dX12_batsOf_59 : decode cX12_batsOf 59 = .ok (.bipush 22, 2) := by decide +kernel
theorem dX12_batsOf_61 : decode cX12_batsOf 61 = .ok (.iload_n 1, 1) := by decide +kernel
theorem dX12_batsOf_62 : decode cX12_batsOf 62 = .ok (.imul, 1) := by decide +kernel
theorem dX12_batsOf_63 : decode cX12_batsOf 63 = .ok (.bipush 11, 2) := by decide +kernel
theorem dX12_batsOf_65 : decode cX12_batsOf 65 = .ok (.iload_n 2, 1) := by decide +kernel
theorem dX12_batsOf_66 : decode cX12_batsOf 66 = .ok (.iconst 2, 1) := by decide +kernel
theorem dX12_batsOf_67 : decode cX12_batsOf 67 = .ok (.irem, 1) := by decide +kernel
theorem dX12_batsOf_68 : decode cX12_batsOf 68 = .ok (.imul, 1) := by decide +kernel
theorem dX12_batsOf_69 : decode cX12_batsOf 69 = .ok (.iadd, 1) := by decide +kernel
theorem dX12_batsOf_70 : decode cX12_batsOf 70 = .ok (.iload_n 3, 1) := by decide +kernel
theorem dX12_batsOf_71 : decode cX12_batsOf 71 = .ok (.iadd, 1) := by decide +kernel
theorem dX12_batsOf_72 : decode cX12_batsOf 72 = .ok (.iaload, 1) := by decide +kernel
theorem dX12_batsOf_73 : decode cX12_batsOf 73 = .ok (.ireturn, 1) := by decide +kernel
theorem dX12_fieldsOf_0 : decode cX12_fieldsOf 0 = .ok (.bipush 11, 2) := by decide +kernel
theorem dX12_fieldsOf_2 : decode cX12_fieldsOf 2 = .ok (.iload_n 2, 1) := by decide +kernel
theorem dX12_fieldsOf_3 : decode cX12_fieldsOf 3 = .ok (.imul, 1) := by decide +kernel
theorem dX12_fieldsOf_4 : decode cX12_fieldsOf 4 = .ok (.iload_n 3, 1) := by decide +kernel
theorem dX12_fieldsOf_5 : decode cX12_fieldsOf 5 = .ok (.iadd, 1) := by decide +kernel
theorem dX12_fieldsOf_6 : decode cX12_fieldsOf 6 = .ok (.istore 5, 2) := by decide +kernel
theorem dX12_fieldsOf_8 : decode cX12_fieldsOf 8 = .ok (.iload 4, 2) := by decide +kernel
theorem dX12_fieldsOf_10 : decode cX12_fieldsOf 10 = .ok (.ifCond .ne 13, 3) := by decide +kernel
theorem dX12_fieldsOf_13 : decode cX12_fieldsOf 13 = .ok (.aload_n 0, 1) := by decide +kernel
theorem dX12_fieldsOf_14 : decode cX12_fieldsOf 14 = .ok (.getfield 136, 3) := by decide +kernel
theorem dX12_fieldsOf_17 : decode cX12_fieldsOf 17 = .ok (.iload 5, 2) := by decide +kernel
theorem dX12_fieldsOf_19 : decode cX12_fieldsOf 19 = .ok (.iaload, 1) := by decide +kernel
theorem dX12_fieldsOf_20 : decode cX12_fieldsOf 20 = .ok (.goto 55, 3) := by decide +kernel
theorem dX12_fieldsOf_23 : decode cX12_fieldsOf 23 = .ok (.iload 4, 2) := by decide +kernel
theorem dX12_fieldsOf_25 : decode cX12_fieldsOf 25 = .ok (.iconst 1, 1) := by decide +kernel
theorem dX12_fieldsOf_26 : decode cX12_fieldsOf 26 = .ok (.if_icmp .ne 13, 3) := by decide +kernel
theorem dX12_fieldsOf_29 : decode cX12_fieldsOf 29 = .ok (.aload_n 0, 1) := by decide +kernel
theorem dX12_fieldsOf_30 : decode cX12_fieldsOf 30 = .ok (.getfield 139, 3) := by decide +kernel
theorem dX12_fieldsOf_33 : decode cX12_fieldsOf 33 = .ok (.iload 5, 2) := by decide +kernel
theorem dX12_fieldsOf_35 : decode cX12_fieldsOf 35 = .ok (.iaload, 1) := by decide +kernel
theorem dX12_fieldsOf_36 : decode cX12_fieldsOf 36 = .ok (.goto 39, 3) := by decide +kernel
theorem dX12_fieldsOf_39 : decode cX12_fieldsOf 39 = .ok (.iload 4, 2) := by decide +kernel
theorem dX12_fieldsOf_41 : decode cX12_fieldsOf 41 = .ok (.iconst 2, 1) := by decide +kernel
theorem dX12_fieldsOf_42 : decode cX12_fieldsOf 42 = .ok (.if_icmp .ne 13, 3) := by decide +kernel
theorem dX12_fieldsOf_45 : decode cX12_fieldsOf 45 = .ok (.aload_n 0, 1) := by decide +kernel
theorem dX12_fieldsOf_46 : decode cX12_fieldsOf 46 = .ok (.getfield 142, 3) := by decide +kernel
theorem dX12_fieldsOf_49 : decode cX12_fieldsOf 49 = .ok (.iload 5, 2) := by decide +kernel
theorem dX12_fieldsOf_51 : decode cX12_fieldsOf 51 = .ok (.iaload, 1) := by decide +kernel
theorem dX12_fieldsOf_52 : decode cX12_fieldsOf 52 = .ok (.goto 23, 3) := by decide +kernel
theorem dX12_fieldsOf_55 : decode cX12_fieldsOf 55 = .ok (.aload_n 0, 1) := by decide +kernel
theorem dX12_fieldsOf_56 : decode cX12_fieldsOf 56 = .ok (.getfield 22, 3) := by decide +kernel
theorem dX12_fieldsOf_59 : decode cX12_fieldsOf 59 = .ok (.bipush 22, 2) := by decide +kernel
theorem dX12_fieldsOf_61 : decode cX12_fieldsOf 61 = .ok (.iload_n 1, 1) := by decide +kernel
theorem dX12_fieldsOf_62 : decode cX12_fieldsOf 62 = .ok (.imul, 1) := by decide +kernel
theorem dX12_fieldsOf_63 : decode cX12_fieldsOf 63 = .ok (.bipush 11, 2) := by decide +kernel
theorem dX12_fieldsOf_65 : decode cX12_fieldsOf 65 = .ok (.iconst 1, 1) := by decide +kernel
theorem dX12_fieldsOf_66 : decode cX12_fieldsOf 66 = .ok (.iload_n 2, 1) := by decide +kernel
theorem dX12_fieldsOf_67 : decode cX12_fieldsOf 67 = .ok (.iconst 2, 1) := by decide +kernel
theorem dX12_fieldsOf_68 : decode cX12_fieldsOf 68 = .ok (.irem, 1) := by decide +kernel
theorem dX12_fieldsOf_69 : decode cX12_fieldsOf 69 = .ok (.isub, 1) := by decide +kernel
theorem dX12_fieldsOf_70 : decode cX12_fieldsOf 70 = .ok (.imul, 1) := by decide +kernel
theorem dX12_fieldsOf_71 : decode cX12_fieldsOf 71 = .ok (.iadd, 1) := by decide +kernel
theorem dX12_fieldsOf_72 : decode cX12_fieldsOf 72 = .ok (.iload_n 3, 1) := by decide +kernel
theorem dX12_fieldsOf_73 : decode cX12_fieldsOf 73 = .ok (.iadd, 1) := by decide +kernel
theorem dX12_fieldsOf_74 : decode cX12_fieldsOf 74 = .ok (.iaload, 1) := by decide +kernel
theorem dX12_fieldsOf_75 : decode cX12_fieldsOf 75 = .ok (.ireturn, 1) := by decide +kernel
theorem dX12_bats_0 : decode cX12_bats 0 = .ok (.aload_n 0, 1) := by decide +kernel
theorem dX12_bats_1 : decode cX12_bats 1 = .ok (.iconst 0, 1) := by decide +kernel
theorem dX12_bats_2 : decode cX12_bats 2 = .ok (.putfield 175, 3) := by decide +kernel
theorem dX12_bats_5 : decode cX12_bats 5 = .ok (.aload_n 0, 1) := by decide +kernel
theorem dX12_bats_6 : decode cX12_bats 6 = .ok (.iload_n 1, 1) := by decide +kernel
theorem dX12_bats_7 : decode cX12_bats 7 = .ok (.iload_n 2, 1) := by decide +kernel
theorem dX12_bats_8 : decode cX12_bats 8 = .ok (.invokevirtual 342, 3) := by decide +kernel
theorem dX12_bats_11 : decode cX12_bats 11 = .ok (.ifCond .eq 24, 3) := by decide +kernel
theorem dX12_bats_14 : decode cX12_bats 14 = .ok (.iload_n 3, 1) := by decide +kernel
theorem dX12_bats_15 : decode cX12_bats 15 = .ok (.ifCond .lt 20, 3) := by decide +kernel
theorem dX12_bats_18 : decode cX12_bats 18 = .ok (.iload_n 3, 1) := by decide +kernel
theorem dX12_bats_19 : decode cX12_bats 19 = .ok (.bipush 10, 2) := by decide +kernel
theorem dX12_bats_21 : decode cX12_bats 21 = .ok (.if_icmp .gt 14, 3) := by decide +kernel
theorem dX12_bats_24 : decode cX12_bats 24 = .ok (.iload 4, 2) := by decide +kernel
theorem dX12_bats_26 : decode cX12_bats 26 = .ok (.ifCond .lt 9, 3) := by decide +kernel
theorem dX12_bats_29 : decode cX12_bats 29 = .ok (.iload 4, 2) := by decide +kernel
theorem dX12_bats_31 : decode cX12_bats 31 = .ok (.iconst 3, 1) := by decide +kernel
theorem dX12_bats_32 : decode cX12_bats 32 = .ok (.if_icmp .le 8, 3) := by decide +kernel
theorem dX12_bats_35 : decode cX12_bats 35 = .ok (.aload_n 0, 1) := by decide +kernel
theorem dX12_bats_36 : decode cX12_bats 36 = .ok (.invokevirtual 332, 3) := by decide +kernel
theorem dX12_bats_39 : decode cX12_bats 39 = .ok (.ireturn, 1) := by decide +kernel
theorem dX12_bats_40 : decode cX12_bats 40 = .ok (.aload_n 0, 1) := by decide +kernel
theorem dX12_bats_41 : decode cX12_bats 41 = .ok (.iload_n 1, 1) := by decide +kernel
theorem dX12_bats_42 : decode cX12_bats 42 = .ok (.invokevirtual 300, 3) := by decide +kernel
theorem dX12_bats_45 : decode cX12_bats 45 = .ok (.aload_n 0, 1) := by decide +kernel
theorem dX12_bats_46 : decode cX12_bats 46 = .ok (.iload_n 1, 1) := by decide +kernel
theorem dX12_bats_47 : decode cX12_bats 47 = .ok (.iload_n 2, 1) := by decide +kernel
theorem dX12_bats_48 : decode cX12_bats 48 = .ok (.iload_n 3, 1) := by decide +kernel
theorem dX12_bats_49 : decode cX12_bats 49 = .ok (.iload 4, 2) := by decide +kernel
theorem dX12_bats_51 : decode cX12_bats 51 = .ok (.invokevirtual 348, 3) := by decide +kernel
theorem dX12_bats_54 : decode cX12_bats 54 = .ok (.ireturn, 1) := by decide +kernel
theorem dX12_fields_0 : decode cX12_fields 0 = .ok (.aload_n 0, 1) := by decide +kernel
theorem dX12_fields_1 : decode cX12_fields 1 = .ok (.iconst 0, 1) := by decide +kernel
theorem dX12_fields_2 : decode cX12_fields 2 = .ok (.putfield 175, 3) := by decide +kernel
theorem dX12_fields_5 : decode cX12_fields 5 = .ok (.aload_n 0, 1) := by decide +kernel
theorem dX12_fields_6 : decode cX12_fields 6 = .ok (.iload_n 1, 1) := by decide +kernel
theorem dX12_fields_7 : decode cX12_fields 7 = .ok (.iload_n 2, 1) := by decide +kernel
theorem dX12_fields_8 : decode cX12_fields 8 = .ok (.invokevirtual 342, 3) := by decide +kernel
theorem dX12_fields_11 : decode cX12_fields 11 = .ok (.ifCond .eq 24, 3) := by decide +kernel
theorem dX12_fields_14 : decode cX12_fields 14 = .ok (.iload_n 3, 1) := by decide +kernel
theorem dX12_fields_15 : decode cX12_fields 15 = .ok (.ifCond .lt 20, 3) := by decide +kernel
theorem dX12_fields_18 : decode cX12_fields 18 = .ok (.iload_n 3, 1) := by decide +kernel
theorem dX12_fields_19 : decode cX12_fields 19 = .ok (.bipush 10, 2) := by decide +kernel
theorem dX12_fields_21 : decode cX12_fields 21 = .ok (.if_icmp .gt 14, 3) := by decide +kernel
theorem dX12_fields_24 : decode cX12_fields 24 = .ok (.iload 4, 2) := by decide +kernel
theorem dX12_fields_26 : decode cX12_fields 26 = .ok (.ifCond .lt 9, 3) := by decide +kernel
theorem dX12_fields_29 : decode cX12_fields 29 = .ok (.iload 4, 2) := by decide +kernel
theorem dX12_fields_31 : decode cX12_fields 31 = .ok (.iconst 3, 1) := by decide +kernel
theorem dX12_fields_32 : decode cX12_fields 32 = .ok (.if_icmp .le 8, 3) := by decide +kernel
theorem dX12_fields_35 : decode cX12_fields 35 = .ok (.aload_n 0, 1) := by decide +kernel
theorem dX12_fields_36 : decode cX12_fields 36 = .ok (.invokevirtual 332, 3) := by decide +kernel
theorem dX12_fields_39 : decode cX12_fields 39 = .ok (.ireturn, 1) := by decide +kernel
theorem dX12_fields_40 : decode cX12_fields 40 = .ok (.aload_n 0, 1) := by decide +kernel
theorem dX12_fields_41 : decode cX12_fields 41 = .ok (.iload_n 1, 1) := by decide +kernel
theorem dX12_fields_42 : decode cX12_fields 42 = .ok (.invokevirtual 300, 3) := by decide +kernel
theorem dX12_fields_45 : decode cX12_fields 45 = .ok (.aload_n 0, 1) := by decide +kernel
theorem dX12_fields_46 : decode cX12_fields 46 = .ok (.iload_n 1, 1) := by decide +kernel
theorem dX12_fields_47 : decode cX12_fields 47 = .ok (.iload_n 2, 1) := by decide +kernel
theorem dX12_fields_48 : decode cX12_fields 48 = .ok (.iload_n 3, 1) := by decide +kernel
theorem dX12_fields_49 : decode cX12_fields 49 = .ok (.iload 4, 2) := by decide +kernel
theorem dX12_fields_51 : decode cX12_fields 51 = .ok (.invokevirtual 352, 3) := by decide +kernel
theorem dX12_fields_54 : decode cX12_fields 54 = .ok (.ireturn, 1) := by decide +kernel
theorem dX12_better_0 : decode cX12_better 0 = .ok (.aload_n 0, 1) := by decide +kernel
theorem dX12_better_1 : decode cX12_better 1 = .ok (.getfield 163, 3) := by decide +kernel
theorem dX12_better_4 : decode cX12_better 4 = .ok (.iconst 0, 1) := by decide +kernel
theorem dX12_better_5 : decode cX12_better 5 = .ok (.iload_n 1, 1) := by decide +kernel
theorem dX12_better_6 : decode cX12_better 6 = .ok (.iastore, 1) := by decide +kernel
theorem dX12_better_7 : decode cX12_better 7 = .ok (.aload_n 0, 1) := by decide +kernel
theorem dX12_better_8 : decode cX12_better 8 = .ok (.getfield 163, 3) := by decide +kernel
theorem dX12_better_11 : decode cX12_better 11 = .ok (.iconst 1, 1) := by decide +kernel
theorem dX12_better_12 : decode cX12_better 12 = .ok (.iload_n 2, 1) := by decide +kernel
theorem dX12_better_13 : decode cX12_better 13 = .ok (.iastore, 1) := by decide +kernel
theorem dX12_better_14 : decode cX12_better 14 = .ok (.aload_n 0, 1) := by decide +kernel
theorem dX12_better_15 : decode cX12_better 15 = .ok (.getfield 163, 3) := by decide +kernel
theorem dX12_better_18 : decode cX12_better 18 = .ok (.iconst 2, 1) := by decide +kernel
theorem dX12_better_19 : decode cX12_better 19 = .ok (.iload_n 3, 1) := by decide +kernel
theorem dX12_better_20 : decode cX12_better 20 = .ok (.iastore, 1) := by decide +kernel
theorem dX12_better_21 : decode cX12_better 21 = .ok (.aload_n 0, 1) := by decide +kernel
theorem dX12_better_22 : decode cX12_better 22 = .ok (.getfield 163, 3) := by decide +kernel
theorem dX12_better_25 : decode cX12_better 25 = .ok (.iconst 3, 1) := by decide +kernel
theorem dX12_better_26 : decode cX12_better 26 = .ok (.iload 4, 2) := by decide +kernel
theorem dX12_better_28 : decode cX12_better 28 = .ok (.iastore, 1) := by decide +kernel
theorem dX12_better_29 : decode cX12_better 29 = .ok (.aload_n 0, 1) := by decide +kernel
theorem dX12_better_30 : decode cX12_better 30 = .ok (.getfield 163, 3) := by decide +kernel
theorem dX12_better_33 : decode cX12_better 33 = .ok (.iconst 4, 1) := by decide +kernel
theorem dX12_better_34 : decode cX12_better 34 = .ok (.iload 5, 2) := by decide +kernel
theorem dX12_better_36 : decode cX12_better 36 = .ok (.iastore, 1) := by decide +kernel
theorem dX12_better_37 : decode cX12_better 37 = .ok (.aload_n 0, 1) := by decide +kernel
theorem dX12_better_38 : decode cX12_better 38 = .ok (.getfield 163, 3) := by decide +kernel
theorem dX12_better_41 : decode cX12_better 41 = .ok (.iconst 5, 1) := by decide +kernel
theorem dX12_better_42 : decode cX12_better 42 = .ok (.iload 6, 2) := by decide +kernel
theorem dX12_better_44 : decode cX12_better 44 = .ok (.iastore, 1) := by decide +kernel
theorem dX12_better_45 : decode cX12_better 45 = .ok (.return_, 1) := by decide +kernel
theorem dX12_recordOf_0 : decode cX12_recordOf 0 = .ok (.aload_n 0, 1) := by decide +kernel
theorem dX12_recordOf_1 : decode cX12_recordOf 1 = .ok (.iload_n 2, 1) := by decide +kernel
theorem dX12_recordOf_2 : decode cX12_recordOf 2 = .ok (.invokevirtual 300, 3) := by decide +kernel
theorem dX12_recordOf_5 : decode cX12_recordOf 5 = .ok (.iconst 0, 1) := by decide +kernel
theorem dX12_recordOf_6 : decode cX12_recordOf 6 = .ok (.istore_n 3, 1) := by decide +kernel
theorem dX12_recordOf_7 : decode cX12_recordOf 7 = .ok (.iload_n 3, 1) := by decide +kernel
theorem dX12_recordOf_8 : decode cX12_recordOf 8 = .ok (.aload_n 0, 1) := by decide +kernel
theorem dX12_recordOf_9 : decode cX12_recordOf 9 = .ok (.getfield 25, 3) := by decide +kernel
theorem dX12_recordOf_12 : decode cX12_recordOf 12 = .ok (.iload_n 2, 1) := by decide +kernel
theorem dX12_recordOf_13 : decode cX12_recordOf 13 = .ok (.iaload, 1) := by decide +kernel
theorem dX12_recordOf_14 : decode cX12_recordOf 14 = .ok (.if_icmp .ge 275, 3) := by decide +kernel
theorem dX12_recordOf_17 : decode cX12_recordOf 17 = .ok (.aload_n 0, 1) := by decide +kernel
theorem dX12_recordOf_18 : decode cX12_recordOf 18 = .ok (.getfield 123, 3) := by decide +kernel
theorem dX12_recordOf_21 : decode cX12_recordOf 21 = .ok (.iload_n 3, 1) := by decide +kernel
theorem dX12_recordOf_22 : decode cX12_recordOf 22 = .ok (.baload, 1) := by decide +kernel
theorem dX12_recordOf_23 : decode cX12_recordOf 23 = .ok (.ifCond .eq 266, 3) := by decide +kernel
theorem dX12_recordOf_26 : decode cX12_recordOf 26 = .ok (.aload_n 0, 1) := by decide +kernel
theorem dX12_recordOf_27 : decode cX12_recordOf 27 = .ok (.getfield 13, 3) := by decide +kernel
theorem dX12_recordOf_30 : decode cX12_recordOf 30 = .ok (.iconst 2, 1) := by decide +kernel
theorem dX12_recordOf_31 : decode cX12_recordOf 31 = .ok (.iload_n 2, 1) := by decide +kernel
theorem dX12_recordOf_32 : decode cX12_recordOf 32 = .ok (.imul, 1) := by decide +kernel
theorem dX12_recordOf_33 : decode cX12_recordOf 33 = .ok (.iload_n 3, 1) := by decide +kernel
theorem dX12_recordOf_34 : decode cX12_recordOf 34 = .ok (.iconst 2, 1) := by decide +kernel
theorem dX12_recordOf_35 : decode cX12_recordOf 35 = .ok (.irem, 1) := by decide +kernel
theorem dX12_recordOf_36 : decode cX12_recordOf 36 = .ok (.iadd, 1) := by decide +kernel
theorem dX12_recordOf_37 : decode cX12_recordOf 37 = .ok (.iaload, 1) := by decide +kernel
theorem dX12_recordOf_38 : decode cX12_recordOf 38 = .ok (.istore 4, 2) := by decide +kernel
theorem dX12_recordOf_40 : decode cX12_recordOf 40 = .ok (.aload_n 0, 1) := by decide +kernel
theorem dX12_recordOf_41 : decode cX12_recordOf 41 = .ok (.getfield 13, 3) := by decide +kernel
theorem dX12_recordOf_44 : decode cX12_recordOf 44 = .ok (.iconst 2, 1) := by decide +kernel
theorem dX12_recordOf_45 : decode cX12_recordOf 45 = .ok (.iload_n 2, 1) := by decide +kernel
theorem dX12_recordOf_46 : decode cX12_recordOf 46 = .ok (.imul, 1) := by decide +kernel
theorem dX12_recordOf_47 : decode cX12_recordOf 47 = .ok (.iconst 1, 1) := by decide +kernel
theorem dX12_recordOf_48 : decode cX12_recordOf 48 = .ok (.iadd, 1) := by decide +kernel
theorem dX12_recordOf_49 : decode cX12_recordOf 49 = .ok (.iload_n 3, 1) := by decide +kernel
theorem dX12_recordOf_50 : decode cX12_recordOf 50 = .ok (.iconst 2, 1) := by decide +kernel
theorem dX12_recordOf_51 : decode cX12_recordOf 51 = .ok (.irem, 1) := by decide +kernel
theorem dX12_recordOf_52 : decode cX12_recordOf 52 = .ok (.isub, 1) := by decide +kernel
theorem dX12_recordOf_53 : decode cX12_recordOf 53 = .ok (.iaload, 1) := by decide +kernel
theorem dX12_recordOf_54 : decode cX12_recordOf 54 = .ok (.istore 5, 2) := by decide +kernel
theorem dX12_recordOf_56 : decode cX12_recordOf 56 = .ok (.iload_n 1, 1) := by decide +kernel
theorem dX12_recordOf_57 : decode cX12_recordOf 57 = .ok (.iconst 2, 1) := by decide +kernel
theorem dX12_recordOf_58 : decode cX12_recordOf 58 = .ok (.if_icmp .ne 34, 3) := by decide +kernel
theorem dX12_recordOf_61 : decode cX12_recordOf 61 = .ok (.aload_n 0, 1) := by decide +kernel
theorem dX12_recordOf_62 : decode cX12_recordOf 62 = .ok (.getfield 72, 3) := by decide +kernel
theorem dX12_recordOf_65 : decode cX12_recordOf 65 = .ok (.iload_n 3, 1) := by decide +kernel
theorem dX12_recordOf_66 : decode cX12_recordOf 66 = .ok (.iaload, 1) := by decide +kernel
theorem dX12_recordOf_67 : decode cX12_recordOf 67 = .ok (.aload_n 0, 1) := by decide +kernel
theorem dX12_recordOf_68 : decode cX12_recordOf 68 = .ok (.getfield 163, 3) := by decide +kernel
theorem dX12_recordOf_71 : decode cX12_recordOf 71 = .ok (.iconst 0, 1) := by decide +kernel
theorem dX12_recordOf_72 : decode cX12_recordOf 72 = .ok (.iaload, 1) := by decide +kernel
theorem dX12_recordOf_73 : decode cX12_recordOf 73 = .ok (.if_icmp .le 19, 3) := by decide +kernel
theorem dX12_recordOf_76 : decode cX12_recordOf 76 = .ok (.aload_n 0, 1) := by decide +kernel
theorem dX12_recordOf_77 : decode cX12_recordOf 77 = .ok (.aload_n 0, 1) := by decide +kernel
theorem dX12_recordOf_78 : decode cX12_recordOf 78 = .ok (.getfield 72, 3) := by decide +kernel
theorem dX12_recordOf_81 : decode cX12_recordOf 81 = .ok (.iload_n 3, 1) := by decide +kernel
theorem dX12_recordOf_82 : decode cX12_recordOf 82 = .ok (.iaload, 1) := by decide +kernel
theorem dX12_recordOf_83 : decode cX12_recordOf 83 = .ok (.iload_n 2, 1) := by decide +kernel
theorem dX12_recordOf_84 : decode cX12_recordOf 84 = .ok (.iload_n 3, 1) := by decide +kernel
theorem dX12_recordOf_85 : decode cX12_recordOf 85 = .ok (.iload 4, 2) := by decide +kernel
theorem dX12_recordOf_87 : decode cX12_recordOf 87 = .ok (.iconst (-1), 1) := by decide +kernel
theorem dX12_recordOf_88 : decode cX12_recordOf 88 = .ok (.iconst 0, 1) := by decide +kernel
theorem dX12_recordOf_89 : decode cX12_recordOf 89 = .ok (.invokevirtual 355, 3) := by decide +kernel
theorem dX12_recordOf_92 : decode cX12_recordOf 92 = .ok (.iconst 0, 1) := by decide +kernel
theorem dX12_recordOf_93 : decode cX12_recordOf 93 = .ok (.istore 6, 2) := by decide +kernel
theorem dX12_recordOf_95 : decode cX12_recordOf 95 = .ok (.iload 6, 2) := by decide +kernel
theorem dX12_recordOf_97 : decode cX12_recordOf 97 = .ok (.bipush 11, 2) := by decide +kernel
theorem dX12_recordOf_99 : decode cX12_recordOf 99 = .ok (.if_icmp .ge 184, 3) := by decide +kernel
theorem dX12_recordOf_102 : decode cX12_recordOf 102 = .ok (.bipush 11, 2) := by decide +kernel
theorem dX12_recordOf_104 : decode cX12_recordOf 104 = .ok (.iload_n 3, 1) := by decide +kernel
theorem dX12_recordOf_105 : decode cX12_recordOf 105 = .ok (.imul, 1) := by decide +kernel
theorem dX12_recordOf_106 : decode cX12_recordOf 106 = .ok (.iload 6, 2) := by decide +kernel
theorem dX12_recordOf_108 : decode cX12_recordOf 108 = .ok (.iadd, 1) := by decide +kernel
theorem dX12_recordOf_109 : decode cX12_recordOf 109 = .ok (.istore 7, 2) := by decide +kernel
theorem dX12_recordOf_111 : decode cX12_recordOf 111 = .ok (.aload_n 0, 1) := by decide +kernel
theorem dX12_recordOf_112 : decode cX12_recordOf 112 = .ok (.iload_n 2, 1) := by decide +kernel
theorem dX12_recordOf_113 : decode cX12_recordOf 113 = .ok (.iload_n 3, 1) := by decide +kernel
theorem dX12_recordOf_114 : decode cX12_recordOf 114 = .ok (.iload 6, 2) := by decide +kernel
theorem dX12_recordOf_116 : decode cX12_recordOf 116 = .ok (.iconst 3, 1) := by decide +kernel
theorem dX12_recordOf_117 : decode cX12_recordOf 117 = .ok (.invokevirtual 348, 3) := by decide +kernel
theorem dX12_recordOf_120 : decode cX12_recordOf 120 = .ok (.istore 8, 2) := by decide +kernel
theorem dX12_recordOf_122 : decode cX12_recordOf 122 = .ok (.iload_n 1, 1) := by decide +kernel
theorem dX12_recordOf_123 : decode cX12_recordOf 123 = .ok (.ifCond .ne 37, 3) := by decide +kernel
theorem dX12_recordOf_126 : decode cX12_recordOf 126 = .ok (.aload_n 0, 1) := by decide +kernel
theorem dX12_recordOf_127 : decode cX12_recordOf 127 = .ok (.getfield 127, 3) := by decide +kernel
theorem dX12_recordOf_130 : decode cX12_recordOf 130 = .ok (.iload 7, 2) := by decide +kernel
theorem dX12_recordOf_132 : decode cX12_recordOf 132 = .ok (.iaload, 1) := by decide +kernel
theorem dX12_recordOf_133 : decode cX12_recordOf 133 = .ok (.aload_n 0, 1) := by decide +kernel
theorem dX12_recordOf_134 : decode cX12_recordOf 134 = .ok (.getfield 163, 3) := by decide +kernel
theorem dX12_recordOf_137 : decode cX12_recordOf 137 = .ok (.iconst 0, 1) := by decide +kernel
theorem dX12_recordOf_138 : decode cX12_recordOf 138 = .ok (.iaload, 1) := by decide +kernel
theorem dX12_recordOf_139 : decode cX12_recordOf 139 = .ok (.if_icmp .le 21, 3) := by decide +kernel
theorem dX12_recordOf_142 : decode cX12_recordOf 142 = .ok (.aload_n 0, 1) := by decide +kernel
theorem dX12_recordOf_143 : decode cX12_recordOf 143 = .ok (.aload_n 0, 1) := by decide +kernel
theorem dX12_recordOf_144 : decode cX12_recordOf 144 = .ok (.getfield 127, 3) := by decide +kernel
theorem dX12_recordOf_147 : decode cX12_recordOf 147 = .ok (.iload 7, 2) := by decide +kernel
theorem dX12_recordOf_149 : decode cX12_recordOf 149 = .ok (.iaload, 1) := by decide +kernel
theorem dX12_recordOf_150 : decode cX12_recordOf 150 = .ok (.iload_n 2, 1) := by decide +kernel
theorem dX12_recordOf_151 : decode cX12_recordOf 151 = .ok (.iload_n 3, 1) := by decide +kernel
theorem dX12_recordOf_152 : decode cX12_recordOf 152 = .ok (.iload 4, 2) := by decide +kernel
theorem dX12_recordOf_154 : decode cX12_recordOf 154 = .ok (.iload 8, 2) := by decide +kernel
theorem dX12_recordOf_156 : decode cX12_recordOf 156 = .ok (.iconst 0, 1) := by decide +kernel
theorem dX12_recordOf_157 : decode cX12_recordOf 157 = .ok (.invokevirtual 355, 3) := by decide +kernel
theorem dX12_recordOf_160 : decode cX12_recordOf 160 = .ok (.iload_n 1, 1) := by decide +kernel
theorem dX12_recordOf_161 : decode cX12_recordOf 161 = .ok (.iconst 1, 1) := by decide +kernel
theorem dX12_recordOf_162 : decode cX12_recordOf 162 = .ok (.if_icmp .ne 92, 3) := by decide +kernel
theorem dX12_recordOf_165 : decode cX12_recordOf 165 = .ok (.aload_n 0, 1) := by decide +kernel
theorem dX12_recordOf_166 : decode cX12_recordOf 166 = .ok (.getfield 136, 3) := by decide +kernel
theorem dX12_recordOf_169 : decode cX12_recordOf 169 = .ok (.iload 7, 2) := by decide +kernel
theorem dX12_recordOf_171 : decode cX12_recordOf 171 = .ok (.iaload, 1) := by decide +kernel
theorem dX12_recordOf_172 : decode cX12_recordOf 172 = .ok (.ifCond .le 82, 3) := by decide +kernel
theorem dX12_recordOf_175 : decode cX12_recordOf 175 = .ok (.aload_n 0, 1) := by decide +kernel
theorem dX12_recordOf_176 : decode cX12_recordOf 176 = .ok (.getfield 142, 3) := by decide +kernel
theorem dX12_recordOf_179 : decode cX12_recordOf 179 = .ok (.iload 7, 2) := by decide +kernel
theorem dX12_recordOf_181 : decode cX12_recordOf 181 = .ok (.iaload, 1) := by decide +kernel
theorem dX12_recordOf_182 : decode cX12_recordOf 182 = .ok (.aload_n 0, 1) := by decide +kernel
theorem dX12_recordOf_183 : decode cX12_recordOf 183 = .ok (.getfield 163, 3) := by decide +kernel
theorem dX12_recordOf_186 : decode cX12_recordOf 186 = .ok (.iconst 0, 1) := by decide +kernel
theorem dX12_recordOf_187 : decode cX12_recordOf 187 = .ok (.iaload, 1) := by decide +kernel
theorem dX12_recordOf_188 : decode cX12_recordOf 188 = .ok (.if_icmp .gt 35, 3) := by decide +kernel
theorem dX12_recordOf_191 : decode cX12_recordOf 191 = .ok (.aload_n 0, 1) := by decide +kernel
theorem dX12_recordOf_192 : decode cX12_recordOf 192 = .ok (.getfield 142, 3) := by decide +kernel
theorem dX12_recordOf_195 : decode cX12_recordOf 195 = .ok (.iload 7, 2) := by decide +kernel
theorem dX12_recordOf_197 : decode cX12_recordOf 197 = .ok (.iaload, 1) := by decide +kernel
theorem dX12_recordOf_198 : decode cX12_recordOf 198 = .ok (.aload_n 0, 1) := by decide +kernel
theorem dX12_recordOf_199 : decode cX12_recordOf 199 = .ok (.getfield 163, 3) := by decide +kernel
theorem dX12_recordOf_202 : decode cX12_recordOf 202 = .ok (.iconst 0, 1) := by decide +kernel
theorem dX12_recordOf_203 : decode cX12_recordOf 203 = .ok (.iaload, 1) := by decide +kernel
theorem dX12_recordOf_204 : decode cX12_recordOf 204 = .ok (.if_icmp .ne 50, 3) := by decide +kernel
theorem dX12_recordOf_207 : decode cX12_recordOf 207 = .ok (.aload_n 0, 1) := by decide +kernel
theorem dX12_recordOf_208 : decode cX12_recordOf 208 = .ok (.getfield 139, 3) := by decide +kernel
theorem dX12_recordOf_211 : decode cX12_recordOf 211 = .ok (.iload 7, 2) := by decide +kernel
theorem dX12_recordOf_213 : decode cX12_recordOf 213 = .ok (.iaload, 1) := by decide +kernel
theorem dX12_recordOf_214 : decode cX12_recordOf 214 = .ok (.aload_n 0, 1) := by decide +kernel
theorem dX12_recordOf_215 : decode cX12_recordOf 215 = .ok (.getfield 163, 3) := by decide +kernel
theorem dX12_recordOf_218 : decode cX12_recordOf 218 = .ok (.iconst 5, 1) := by decide +kernel
theorem dX12_recordOf_219 : decode cX12_recordOf 219 = .ok (.iaload, 1) := by decide +kernel
theorem dX12_recordOf_220 : decode cX12_recordOf 220 = .ok (.if_icmp .ge 34, 3) := by decide +kernel
theorem dX12_recordOf_223 : decode cX12_recordOf 223 = .ok (.aload_n 0, 1) := by decide +kernel
theorem dX12_recordOf_224 : decode cX12_recordOf 224 = .ok (.aload_n 0, 1) := by decide +kernel
theorem dX12_recordOf_225 : decode cX12_recordOf 225 = .ok (.getfield 142, 3) := by decide +kernel
theorem dX12_recordOf_228 : decode cX12_recordOf 228 = .ok (.iload 7, 2) := by decide +kernel
theorem dX12_recordOf_230 : decode cX12_recordOf 230 = .ok (.iaload, 1) := by decide +kernel
theorem dX12_recordOf_231 : decode cX12_recordOf 231 = .ok (.iload_n 2, 1) := by decide +kernel
theorem dX12_recordOf_232 : decode cX12_recordOf 232 = .ok (.iload_n 3, 1) := by decide +kernel
theorem dX12_recordOf_233 : decode cX12_recordOf 233 = .ok (.iload 5, 2) := by decide +kernel
theorem dX12_recordOf_235 : decode cX12_recordOf 235 = .ok (.aload_n 0, 1) := by decide +kernel
theorem dX12_recordOf_236 : decode cX12_recordOf 236 = .ok (.iload_n 2, 1) := by decide +kernel
theorem dX12_recordOf_237 : decode cX12_recordOf 237 = .ok (.iload_n 3, 1) := by decide +kernel
theorem dX12_recordOf_238 : decode cX12_recordOf 238 = .ok (.iload 6, 2) := by decide +kernel
theorem dX12_recordOf_240 : decode cX12_recordOf 240 = .ok (.iconst 3, 1) := by decide +kernel
theorem dX12_recordOf_241 : decode cX12_recordOf 241 = .ok (.invokevirtual 352, 3) := by decide +kernel
theorem dX12_recordOf_244 : decode cX12_recordOf 244 = .ok (.aload_n 0, 1) := by decide +kernel
theorem dX12_recordOf_245 : decode cX12_recordOf 245 = .ok (.getfield 139, 3) := by decide +kernel
theorem dX12_recordOf_248 : decode cX12_recordOf 248 = .ok (.iload 7, 2) := by decide +kernel
theorem dX12_recordOf_250 : decode cX12_recordOf 250 = .ok (.iaload, 1) := by decide +kernel
theorem dX12_recordOf_251 : decode cX12_recordOf 251 = .ok (.invokevirtual 355, 3) := by decide +kernel
theorem dX12_recordOf_254 : decode cX12_recordOf 254 = .ok (.aload_n 0, 1) := by decide +kernel
theorem dX12_recordOf_255 : decode cX12_recordOf 255 = .ok (.getfield 166, 3) := by decide +kernel
theorem dX12_recordOf_258 : decode cX12_recordOf 258 = .ok (.bipush 30, 2) := by decide +kernel
theorem dX12_recordOf_260 : decode cX12_recordOf 260 = .ok (.iload 4, 2) := by decide +kernel
theorem dX12_recordOf_262 : decode cX12_recordOf 262 = .ok (.imul, 1) := by decide +kernel
theorem dX12_recordOf_263 : decode cX12_recordOf 263 = .ok (.iload 8, 2) := by decide +kernel
theorem dX12_recordOf_265 : decode cX12_recordOf 265 = .ok (.iadd, 1) := by decide +kernel
theorem dX12_recordOf_266 : decode cX12_recordOf 266 = .ok (.dup2, 1) := by decide +kernel
theorem dX12_recordOf_267 : decode cX12_recordOf 267 = .ok (.iaload, 1) := by decide +kernel
theorem dX12_recordOf_268 : decode cX12_recordOf 268 = .ok (.aload_n 0, 1) := by decide +kernel
theorem dX12_recordOf_269 : decode cX12_recordOf 269 = .ok (.getfield 127, 3) := by decide +kernel
theorem dX12_recordOf_272 : decode cX12_recordOf 272 = .ok (.iload 7, 2) := by decide +kernel
theorem dX12_recordOf_274 : decode cX12_recordOf 274 = .ok (.iaload, 1) := by decide +kernel
theorem dX12_recordOf_275 : decode cX12_recordOf 275 = .ok (.iadd, 1) := by decide +kernel
theorem dX12_recordOf_276 : decode cX12_recordOf 276 = .ok (.iastore, 1) := by decide +kernel
theorem dX12_recordOf_277 : decode cX12_recordOf 277 = .ok (.iinc 6 1, 3) := by decide +kernel
theorem dX12_recordOf_280 : decode cX12_recordOf 280 = .ok (.goto (-185), 3) := by decide +kernel
theorem dX12_recordOf_283 : decode cX12_recordOf 283 = .ok (.iinc 3 1, 3) := by decide +kernel
theorem dX12_recordOf_286 : decode cX12_recordOf 286 = .ok (.goto (-279), 3) := by decide +kernel
theorem dX12_recordOf_289 : decode cX12_recordOf 289 = .ok (.return_, 1) := by decide +kernel
theorem dX12_record_0 : decode cX12_record 0 = .ok (.aload_n 0, 1) := by decide +kernel
theorem dX12_record_1 : decode cX12_record 1 = .ok (.iconst 0, 1) := by decide +kernel
theorem dX12_record_2 : decode cX12_record 2 = .ok (.putfield 175, 3) := by decide +kernel
theorem dX12_record_5 : decode cX12_record 5 = .ok (.iload_n 1, 1) := by decide +kernel
theorem dX12_record_6 : decode cX12_record 6 = .ok (.ifCond .lt 17, 3) := by decide +kernel
theorem dX12_record_9 : decode cX12_record 9 = .ok (.iload_n 1, 1) := by decide +kernel
theorem dX12_record_10 : decode cX12_record 10 = .ok (.iconst 3, 1) := by decide +kernel
theorem dX12_record_11 : decode cX12_record 11 = .ok (.if_icmp .gt 12, 3) := by decide +kernel
theorem dX12_record_14 : decode cX12_record 14 = .ok (.iload_n 2, 1) := by decide +kernel
theorem dX12_record_15 : decode cX12_record 15 = .ok (.ifCond .lt 8, 3) := by decide +kernel
theorem dX12_record_18 : decode cX12_record 18 = .ok (.iload_n 2, 1) := by decide +kernel
theorem dX12_record_19 : decode cX12_record 19 = .ok (.iconst 5, 1) := by decide +kernel
theorem dX12_record_20 : decode cX12_record 20 = .ok (.if_icmp .le 8, 3) := by decide +kernel
theorem dX12_record_23 : decode cX12_record 23 = .ok (.aload_n 0, 1) := by decide +kernel
theorem dX12_record_24 : decode cX12_record 24 = .ok (.invokevirtual 332, 3) := by decide +kernel
theorem dX12_record_27 : decode cX12_record 27 = .ok (.ireturn, 1) := by decide +kernel
theorem dX12_record_28 : decode cX12_record 28 = .ok (.aload_n 0, 1) := by decide +kernel
theorem dX12_record_29 : decode cX12_record 29 = .ok (.iconst (-1), 1) := by decide +kernel
theorem dX12_record_30 : decode cX12_record 30 = .ok (.iconst (-1), 1) := by decide +kernel
theorem dX12_record_31 : decode cX12_record 31 = .ok (.iconst (-1), 1) := by decide +kernel
theorem dX12_record_32 : decode cX12_record 32 = .ok (.iconst (-1), 1) := by decide +kernel
theorem dX12_record_33 : decode cX12_record 33 = .ok (.iconst (-1), 1) := by decide +kernel
theorem dX12_record_34 : decode cX12_record 34 = .ok (.iconst (-1), 1) := by decide +kernel
theorem dX12_record_35 : decode cX12_record 35 = .ok (.invokevirtual 355, 3) := by decide +kernel
theorem dX12_record_38 : decode cX12_record 38 = .ok (.iconst 0, 1) := by decide +kernel
theorem dX12_record_39 : decode cX12_record 39 = .ok (.istore_n 3, 1) := by decide +kernel
theorem dX12_record_40 : decode cX12_record 40 = .ok (.iload_n 3, 1) := by decide +kernel
theorem dX12_record_41 : decode cX12_record 41 = .ok (.sipush 1800, 3) := by decide +kernel
theorem dX12_record_44 : decode cX12_record 44 = .ok (.if_icmp .ge 16, 3) := by decide +kernel
theorem dX12_record_47 : decode cX12_record 47 = .ok (.aload_n 0, 1) := by decide +kernel
theorem dX12_record_48 : decode cX12_record 48 = .ok (.getfield 166, 3) := by decide +kernel
theorem dX12_record_51 : decode cX12_record 51 = .ok (.iload_n 3, 1) := by decide +kernel
theorem dX12_record_52 : decode cX12_record 52 = .ok (.iconst 0, 1) := by decide +kernel
theorem dX12_record_53 : decode cX12_record 53 = .ok (.iastore, 1) := by decide +kernel
theorem dX12_record_54 : decode cX12_record 54 = .ok (.iinc 3 1, 3) := by decide +kernel
theorem dX12_record_57 : decode cX12_record 57 = .ok (.goto (-17), 3) := by decide +kernel
theorem dX12_record_60 : decode cX12_record 60 = .ok (.iconst 0, 1) := by decide +kernel
theorem dX12_record_61 : decode cX12_record 61 = .ok (.istore_n 3, 1) := by decide +kernel
theorem dX12_record_62 : decode cX12_record 62 = .ok (.iload_n 3, 1) := by decide +kernel
theorem dX12_record_63 : decode cX12_record 63 = .ok (.aload_n 0, 1) := by decide +kernel
theorem dX12_record_64 : decode cX12_record 64 = .ok (.getfield 182, 3) := by decide +kernel
theorem dX12_record_67 : decode cX12_record 67 = .ok (.if_icmp .ge 15, 3) := by decide +kernel
theorem dX12_record_70 : decode cX12_record 70 = .ok (.aload_n 0, 1) := by decide +kernel
theorem dX12_record_71 : decode cX12_record 71 = .ok (.iload_n 1, 1) := by decide +kernel
theorem dX12_record_72 : decode cX12_record 72 = .ok (.iload_n 3, 1) := by decide +kernel
theorem dX12_record_73 : decode cX12_record 73 = .ok (.invokevirtual 359, 3) := by decide +kernel
theorem dX12_record_76 : decode cX12_record 76 = .ok (.iinc 3 1, 3) := by decide +kernel
theorem dX12_record_79 : decode cX12_record 79 = .ok (.goto (-17), 3) := by decide +kernel
theorem dX12_record_82 : decode cX12_record 82 = .ok (.iconst 0, 1) := by decide +kernel
theorem dX12_record_83 : decode cX12_record 83 = .ok (.istore_n 3, 1) := by decide +kernel
theorem dX12_record_84 : decode cX12_record 84 = .ok (.iload_n 3, 1) := by decide +kernel
theorem dX12_record_85 : decode cX12_record 85 = .ok (.aload_n 0, 1) := by decide +kernel
theorem dX12_record_86 : decode cX12_record 86 = .ok (.getfield 179, 3) := by decide +kernel
theorem dX12_record_89 : decode cX12_record 89 = .ok (.if_icmp .ge 77, 3) := by decide +kernel
theorem dX12_record_92 : decode cX12_record 92 = .ok (.iload_n 1, 1) := by decide +kernel
theorem dX12_record_93 : decode cX12_record 93 = .ok (.iconst 3, 1) := by decide +kernel
theorem dX12_record_94 : decode cX12_record 94 = .ok (.if_icmp .ne 72, 3) := by decide +kernel
theorem dX12_record_97 : decode cX12_record 97 = .ok (.iconst 0, 1) := by decide +kernel
theorem dX12_record_98 : decode cX12_record 98 = .ok (.istore 4, 2) := by decide +kernel
theorem dX12_record_100 : decode cX12_record 100 = .ok (.iload 4, 2) := by decide +kernel
theorem dX12_record_102 : decode cX12_record 102 = .ok (.aload_n 0, 1) := by decide +kernel
theorem dX12_record_103 : decode cX12_record 103 = .ok (.getfield 9, 3) := by decide +kernel
theorem dX12_record_106 : decode cX12_record 106 = .ok (.iload_n 3, 1) := by decide +kernel
theorem dX12_record_107 : decode cX12_record 107 = .ok (.iaload, 1) := by decide +kernel
theorem dX12_record_108 : decode cX12_record 108 = .ok (.if_icmp .ge 52, 3) := by decide +kernel
theorem dX12_record_111 : decode cX12_record 111 = .ok (.aload_n 0, 1) := by decide +kernel
theorem dX12_record_112 : decode cX12_record 112 = .ok (.getfield 166, 3) := by decide +kernel
theorem dX12_record_115 : decode cX12_record 115 = .ok (.bipush 30, 2) := by decide +kernel
theorem dX12_record_117 : decode cX12_record 117 = .ok (.iload_n 3, 1) := by decide +kernel
theorem dX12_record_118 : decode cX12_record 118 = .ok (.imul, 1) := by decide +kernel
theorem dX12_record_119 : decode cX12_record 119 = .ok (.iload 4, 2) := by decide +kernel
theorem dX12_record_121 : decode cX12_record 121 = .ok (.iadd, 1) := by decide +kernel
theorem dX12_record_122 : decode cX12_record 122 = .ok (.iaload, 1) := by decide +kernel
theorem dX12_record_123 : decode cX12_record 123 = .ok (.aload_n 0, 1) := by decide +kernel
theorem dX12_record_124 : decode cX12_record 124 = .ok (.getfield 163, 3) := by decide +kernel
theorem dX12_record_127 : decode cX12_record 127 = .ok (.iconst 0, 1) := by decide +kernel
theorem dX12_record_128 : decode cX12_record 128 = .ok (.iaload, 1) := by decide +kernel
theorem dX12_record_129 : decode cX12_record 129 = .ok (.if_icmp .le 25, 3) := by decide +kernel
theorem dX12_record_132 : decode cX12_record 132 = .ok (.aload_n 0, 1) := by decide +kernel
theorem dX12_record_133 : decode cX12_record 133 = .ok (.aload_n 0, 1) := by decide +kernel
theorem dX12_record_134 : decode cX12_record 134 = .ok (.getfield 166, 3) := by decide +kernel
theorem dX12_record_137 : decode cX12_record 137 = .ok (.bipush 30, 2) := by decide +kernel
theorem dX12_record_139 : decode cX12_record 139 = .ok (.iload_n 3, 1) := by decide +kernel
theorem dX12_record_140 : decode cX12_record 140 = .ok (.imul, 1) := by decide +kernel
theorem dX12_record_141 : decode cX12_record 141 = .ok (.iload 4, 2) := by decide +kernel
theorem dX12_record_143 : decode cX12_record 143 = .ok (.iadd, 1) := by decide +kernel
theorem dX12_record_144 : decode cX12_record 144 = .ok (.iaload, 1) := by decide +kernel
theorem dX12_record_145 : decode cX12_record 145 = .ok (.iconst (-1), 1) := by decide +kernel
theorem dX12_record_146 : decode cX12_record 146 = .ok (.iconst (-1), 1) := by decide +kernel
theorem dX12_record_147 : decode cX12_record 147 = .ok (.iload_n 3, 1) := by decide +kernel
theorem dX12_record_148 : decode cX12_record 148 = .ok (.iload 4, 2) := by decide +kernel
theorem dX12_record_150 : decode cX12_record 150 = .ok (.iconst 0, 1) := by decide +kernel
theorem dX12_record_151 : decode cX12_record 151 = .ok (.invokevirtual 355, 3) := by decide +kernel
theorem dX12_record_154 : decode cX12_record 154 = .ok (.iinc 4 1, 3) := by decide +kernel
theorem dX12_record_157 : decode cX12_record 157 = .ok (.goto (-57), 3) := by decide +kernel
theorem dX12_record_160 : decode cX12_record 160 = .ok (.iinc 3 1, 3) := by decide +kernel
theorem dX12_record_163 : decode cX12_record 163 = .ok (.goto (-79), 3) := by decide +kernel
theorem dX12_record_166 : decode cX12_record 166 = .ok (.aload_n 0, 1) := by decide +kernel
theorem dX12_record_167 : decode cX12_record 167 = .ok (.getfield 163, 3) := by decide +kernel
theorem dX12_record_170 : decode cX12_record 170 = .ok (.iload_n 2, 1) := by decide +kernel
theorem dX12_record_171 : decode cX12_record 171 = .ok (.iaload, 1) := by decide +kernel
theorem dX12_record_172 : decode cX12_record 172 = .ok (.ireturn, 1) := by decide +kernel
theorem dX12_say_0 : decode cX12_say 0 = .ok (.aload_n 0, 1) := by decide +kernel
theorem dX12_say_1 : decode cX12_say 1 = .ok (.getfield 362, 3) := by decide +kernel
theorem dX12_say_4 : decode cX12_say 4 = .ok (.sipush 8000, 3) := by decide +kernel
theorem dX12_say_7 : decode cX12_say 7 = .ok (.if_icmp .ge 13, 3) := by decide +kernel
theorem dX12_say_10 : decode cX12_say 10 = .ok (.aload_n 0, 1) := by decide +kernel
theorem dX12_say_11 : decode cX12_say 11 = .ok (.getfield 48, 3) := by decide +kernel
theorem dX12_say_14 : decode cX12_say 14 = .ok (.aload_n 0, 1) := by decide +kernel
theorem dX12_say_15 : decode cX12_say 15 = .ok (.getfield 362, 3) := by decide +kernel
theorem dX12_say_18 : decode cX12_say 18 = .ok (.iload_n 1, 1) := by decide +kernel
theorem dX12_say_19 : decode cX12_say 19 = .ok (.iastore, 1) := by decide +kernel
theorem dX12_say_20 : decode cX12_say 20 = .ok (.aload_n 0, 1) := by decide +kernel
theorem dX12_say_21 : decode cX12_say 21 = .ok (.dup, 1) := by decide +kernel
theorem dX12_say_22 : decode cX12_say 22 = .ok (.getfield 362, 3) := by decide +kernel
theorem dX12_say_25 : decode cX12_say 25 = .ok (.iconst 1, 1) := by decide +kernel
theorem dX12_say_26 : decode cX12_say 26 = .ok (.iadd, 1) := by decide +kernel
theorem dX12_say_27 : decode cX12_say 27 = .ok (.putfield 362, 3) := by decide +kernel
theorem dX12_say_30 : decode cX12_say 30 = .ok (.return_, 1) := by decide +kernel
theorem dX12_image_0 : decode cX12_image 0 = .ok (.aload_n 0, 1) := by decide +kernel
theorem dX12_image_1 : decode cX12_image 1 = .ok (.iconst 0, 1) := by decide +kernel
theorem dX12_image_2 : decode cX12_image 2 = .ok (.putfield 175, 3) := by decide +kernel
theorem dX12_image_5 : decode cX12_image 5 = .ok (.aload_n 0, 1) := by decide +kernel
theorem dX12_image_6 : decode cX12_image 6 = .ok (.iload_n 1, 1) := by decide +kernel
theorem dX12_image_7 : decode cX12_image 7 = .ok (.invokevirtual 193, 3) := by decide +kernel
theorem dX12_image_10 : decode cX12_image 10 = .ok (.ifCond .ne 5, 3) := by decide +kernel
theorem dX12_image_13 : decode cX12_image 13 = .ok (.iconst (-1), 1) := by decide +kernel
theorem dX12_image_14 : decode cX12_image 14 = .ok (.ireturn, 1) := by decide +kernel
theorem dX12_image_15 : decode cX12_image 15 = .ok (.aload_n 0, 1) := by decide +kernel
theorem dX12_image_16 : decode cX12_image 16 = .ok (.iload_n 1, 1) := by decide +kernel
theorem dX12_image_17 : decode cX12_image 17 = .ok (.invokevirtual 300, 3) := by decide +kernel
theorem dX12_image_20 : decode cX12_image 20 = .ok (.aload_n 0, 1) := by decide +kernel
theorem dX12_image_21 : decode cX12_image 21 = .ok (.iconst 0, 1) := by decide +kernel
theorem dX12_image_22 : decode cX12_image 22 = .ok (.putfield 362, 3) := by decide +kernel
theorem dX12_image_25 : decode cX12_image 25 = .ok (.aload_n 0, 1) := by decide +kernel
theorem dX12_image_26 : decode cX12_image 26 = .ok (.bipush 66, 2) := by decide +kernel
theorem dX12_image_28 : decode cX12_image 28 = .ok (.invokevirtual 365, 3) := by decide +kernel
theorem dX12_image_31 : decode cX12_image 31 = .ok (.aload_n 0, 1) := by decide +kernel
theorem dX12_image_32 : decode cX12_image 32 = .ok (.aload_n 0, 1) := by decide +kernel
theorem dX12_image_33 : decode cX12_image 33 = .ok (.getfield 13, 3) := by decide +kernel
theorem dX12_image_36 : decode cX12_image 36 = .ok (.iconst 2, 1) := by decide +kernel
theorem dX12_image_37 : decode cX12_image 37 = .ok (.iload_n 1, 1) := by decide +kernel
theorem dX12_image_38 : decode cX12_image 38 = .ok (.imul, 1) := by decide +kernel
theorem dX12_image_39 : decode cX12_image 39 = .ok (.iaload, 1) := by decide +kernel
theorem dX12_image_40 : decode cX12_image 40 = .ok (.invokevirtual 365, 3) := by decide +kernel
theorem dX12_image_43 : decode cX12_image 43 = .ok (.aload_n 0, 1) := by decide +kernel
theorem dX12_image_44 : decode cX12_image 44 = .ok (.aload_n 0, 1) := by decide +kernel
theorem dX12_image_45 : decode cX12_image 45 = .ok (.getfield 13, 3) := by decide +kernel
theorem dX12_image_48 : decode cX12_image 48 = .ok (.iconst 2, 1) := by decide +kernel
theorem dX12_image_49 : decode cX12_image 49 = .ok (.iload_n 1, 1) := by decide +kernel
theorem dX12_image_50 : decode cX12_image 50 = .ok (.imul, 1) := by decide +kernel
theorem dX12_image_51 : decode cX12_image 51 = .ok (.iconst 1, 1) := by decide +kernel
theorem dX12_image_52 : decode cX12_image 52 = .ok (.iadd, 1) := by decide +kernel
theorem dX12_image_53 : decode cX12_image 53 = .ok (.iaload, 1) := by decide +kernel
theorem dX12_image_54 : decode cX12_image 54 = .ok (.invokevirtual 365, 3) := by decide +kernel
theorem dX12_image_57 : decode cX12_image 57 = .ok (.aload_n 0, 1) := by decide +kernel
theorem dX12_image_58 : decode cX12_image 58 = .ok (.aload_n 0, 1) := by decide +kernel
theorem dX12_image_59 : decode cX12_image 59 = .ok (.getfield 16, 3) := by decide +kernel
theorem dX12_image_62 : decode cX12_image 62 = .ok (.iload_n 1, 1) := by decide +kernel
theorem dX12_image_63 : decode cX12_image 63 = .ok (.iaload, 1) := by decide +kernel
theorem dX12_image_64 : decode cX12_image 64 = .ok (.invokevirtual 365, 3) := by decide +kernel
