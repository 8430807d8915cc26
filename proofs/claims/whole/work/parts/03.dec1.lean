theorem dX11_player_5 : decode cX11_player 5 = .ok (.ifCond .eq 14, 3) := by decide +kernel
theorem dX11_player_8 : decode cX11_player 8 = .ok (.aload_n 0, 1) := by decide +kernel
theorem dX11_player_9 : decode cX11_player 9 = .ok (.getfield 9, 3) := by decide +kernel
theorem dX11_player_12 : decode cX11_player 12 = .ok (.iload_n 1, 1) := by decide +kernel
theorem dX11_player_13 : decode cX11_player 13 = .ok (.iaload, 1) := by decide +kernel
theorem dX11_player_14 : decode cX11_player 14 = .ok (.bipush 30, 2) := by decide +kernel
theorem dX11_player_16 : decode cX11_player 16 = .ok (.if_icmp .lt 5, 3) := by decide +kernel
theorem dX11_player_19 : decode cX11_player 19 = .ok (.iconst (-1), 1) := by decide +kernel
theorem dX11_player_20 : decode cX11_player 20 = .ok (.ireturn, 1) := by decide +kernel
theorem dX11_player_21 : decode cX11_player 21 = .ok (.aload_n 0, 1) := by decide +kernel
theorem dX11_player_22 : decode cX11_player 22 = .ok (.getfield 9, 3) := by decide +kernel
theorem dX11_player_25 : decode cX11_player 25 = .ok (.iload_n 1, 1) := by decide +kernel
theorem dX11_player_26 : decode cX11_player 26 = .ok (.dup2, 1) := by decide +kernel
theorem dX11_player_27 : decode cX11_player 27 = .ok (.iaload, 1) := by decide +kernel
theorem dX11_player_28 : decode cX11_player 28 = .ok (.iconst 1, 1) := by decide +kernel
theorem dX11_player_29 : decode cX11_player 29 = .ok (.iadd, 1) := by decide +kernel
theorem dX11_player_30 : decode cX11_player 30 = .ok (.iastore, 1) := by decide +kernel
theorem dX11_player_31 : decode cX11_player 31 = .ok (.aload_n 0, 1) := by decide +kernel
theorem dX11_player_32 : decode cX11_player 32 = .ok (.iconst 1, 1) := by decide +kernel
theorem dX11_player_33 : decode cX11_player 33 = .ok (.putfield 70, 3) := by decide +kernel
theorem dX11_player_36 : decode cX11_player 36 = .ok (.aload_n 0, 1) := by decide +kernel
theorem dX11_player_37 : decode cX11_player 37 = .ok (.getfield 9, 3) := by decide +kernel
theorem dX11_player_40 : decode cX11_player 40 = .ok (.iload_n 1, 1) := by decide +kernel
theorem dX11_player_41 : decode cX11_player 41 = .ok (.iaload, 1) := by decide +kernel
theorem dX11_player_42 : decode cX11_player 42 = .ok (.iconst 1, 1) := by decide +kernel
theorem dX11_player_43 : decode cX11_player 43 = .ok (.isub, 1) := by decide +kernel
theorem dX11_player_44 : decode cX11_player 44 = .ok (.ireturn, 1) := by decide +kernel
theorem dX11_toss_0 : decode cX11_toss 0 = .ok (.aload_n 0, 1) := by decide +kernel
theorem dX11_toss_1 : decode cX11_toss 1 = .ok (.getfield 16, 3) := by decide +kernel
theorem dX11_toss_4 : decode cX11_toss 4 = .ok (.invokevirtual 78, 3) := by decide +kernel
theorem dX11_toss_7 : decode cX11_toss 7 = .ok (.sipush 400, 3) := by decide +kernel
theorem dX11_toss_10 : decode cX11_toss 10 = .ok (.if_icmp .ge 24, 3) := by decide +kernel
theorem dX11_toss_13 : decode cX11_toss 13 = .ok (.aload_n 0, 1) := by decide +kernel
theorem dX11_toss_14 : decode cX11_toss 14 = .ok (.iload_n 1, 1) := by decide +kernel
theorem dX11_toss_15 : decode cX11_toss 15 = .ok (.invokevirtual 74, 3) := by decide +kernel
theorem dX11_toss_18 : decode cX11_toss 18 = .ok (.ifCond .eq 16, 3) := by decide +kernel
theorem dX11_toss_21 : decode cX11_toss 21 = .ok (.aload_n 0, 1) := by decide +kernel
theorem dX11_toss_22 : decode cX11_toss 22 = .ok (.iload_n 2, 1) := by decide +kernel
theorem dX11_toss_23 : decode cX11_toss 23 = .ok (.invokevirtual 74, 3) := by decide +kernel
theorem dX11_toss_26 : decode cX11_toss 26 = .ok (.ifCond .eq 8, 3) := by decide +kernel
theorem dX11_toss_29 : decode cX11_toss 29 = .ok (.iload_n 1, 1) := by decide +kernel
theorem dX11_toss_30 : decode cX11_toss 30 = .ok (.iload_n 2, 1) := by decide +kernel
theorem dX11_toss_31 : decode cX11_toss 31 = .ok (.if_icmp .ne 5, 3) := by decide +kernel
theorem dX11_toss_34 : decode cX11_toss 34 = .ok (.iconst (-1), 1) := by decide +kernel
theorem dX11_toss_35 : decode cX11_toss 35 = .ok (.ireturn, 1) := by decide +kernel
theorem dX11_toss_36 : decode cX11_toss 36 = .ok (.iload_n 3, 1) := by decide +kernel
theorem dX11_toss_37 : decode cX11_toss 37 = .ok (.iconst 1, 1) := by decide +kernel
theorem dX11_toss_38 : decode cX11_toss 38 = .ok (.if_icmp .lt 21, 3) := by decide +kernel
theorem dX11_toss_41 : decode cX11_toss 41 = .ok (.iload_n 3, 1) := by decide +kernel
theorem dX11_toss_42 : decode cX11_toss 42 = .ok (.bipush 120, 2) := by decide +kernel
theorem dX11_toss_44 : decode cX11_toss 44 = .ok (.if_icmp .gt 15, 3) := by decide +kernel
theorem dX11_toss_47 : decode cX11_toss 47 = .ok (.iload 4, 2) := by decide +kernel
theorem dX11_toss_49 : decode cX11_toss 49 = .ok (.iconst 1, 1) := by decide +kernel
theorem dX11_toss_50 : decode cX11_toss 50 = .ok (.if_icmp .lt 9, 3) := by decide +kernel
theorem dX11_toss_53 : decode cX11_toss 53 = .ok (.iload 4, 2) := by decide +kernel
theorem dX11_toss_55 : decode cX11_toss 55 = .ok (.iconst 2, 1) := by decide +kernel
theorem dX11_toss_56 : decode cX11_toss 56 = .ok (.if_icmp .le 5, 3) := by decide +kernel
theorem dX11_toss_59 : decode cX11_toss 59 = .ok (.iconst (-1), 1) := by decide +kernel
theorem dX11_toss_60 : decode cX11_toss 60 = .ok (.ireturn, 1) := by decide +kernel
theorem dX11_toss_61 : decode cX11_toss 61 = .ok (.aload_n 0, 1) := by decide +kernel
theorem dX11_toss_62 : decode cX11_toss 62 = .ok (.new 82, 3) := by decide +kernel
theorem dX11_toss_65 : decode cX11_toss 65 = .ok (.dup, 1) := by decide +kernel
theorem dX11_toss_66 : decode cX11_toss 66 = .ok (.iload_n 1, 1) := by decide +kernel
theorem dX11_toss_67 : decode cX11_toss 67 = .ok (.iload_n 2, 1) := by decide +kernel
theorem dX11_toss_68 : decode cX11_toss 68 = .ok (.iload_n 3, 1) := by decide +kernel
theorem dX11_toss_69 : decode cX11_toss 69 = .ok (.iload 4, 2) := by decide +kernel
theorem dX11_toss_71 : decode cX11_toss 71 = .ok (.invokespecial 84, 3) := by decide +kernel
theorem dX11_toss_74 : decode cX11_toss 74 = .ok (.invokevirtual 87, 3) := by decide +kernel
theorem dX11_toss_77 : decode cX11_toss 77 = .ok (.ireturn, 1) := by decide +kernel
theorem dX11_seat_0 : decode cX11_seat 0 = .ok (.aload_n 0, 1) := by decide +kernel
theorem dX11_seat_1 : decode cX11_seat 1 = .ok (.iload_n 1, 1) := by decide +kernel
theorem dX11_seat_2 : decode cX11_seat 2 = .ok (.invokevirtual 91, 3) := by decide +kernel
theorem dX11_seat_5 : decode cX11_seat 5 = .ok (.astore 5, 2) := by decide +kernel
theorem dX11_seat_7 : decode cX11_seat 7 = .ok (.aload 5, 2) := by decide +kernel
theorem dX11_seat_9 : decode cX11_seat 9 = .ok (.ifnull 22, 3) := by decide +kernel
theorem dX11_seat_12 : decode cX11_seat 12 = .ok (.iload_n 2, 1) := by decide +kernel
theorem dX11_seat_13 : decode cX11_seat 13 = .ok (.ifCond .lt 18, 3) := by decide +kernel
theorem dX11_seat_16 : decode cX11_seat 16 = .ok (.iload_n 2, 1) := by decide +kernel
theorem dX11_seat_17 : decode cX11_seat 17 = .ok (.iconst 1, 1) := by decide +kernel
theorem dX11_seat_18 : decode cX11_seat 18 = .ok (.if_icmp .gt 13, 3) := by decide +kernel
theorem dX11_seat_21 : decode cX11_seat 21 = .ok (.iload_n 3, 1) := by decide +kernel
theorem dX11_seat_22 : decode cX11_seat 22 = .ok (.ifCond .lt 9, 3) := by decide +kernel
theorem dX11_seat_25 : decode cX11_seat 25 = .ok (.iload_n 3, 1) := by decide +kernel
theorem dX11_seat_26 : decode cX11_seat 26 = .ok (.bipush 11, 2) := by decide +kernel
theorem dX11_seat_28 : decode cX11_seat 28 = .ok (.if_icmp .lt 5, 3) := by decide +kernel
theorem dX11_seat_31 : decode cX11_seat 31 = .ok (.iconst 0, 1) := by decide +kernel
theorem dX11_seat_32 : decode cX11_seat 32 = .ok (.ireturn, 1) := by decide +kernel
theorem dX11_seat_33 : decode cX11_seat 33 = .ok (.iload 4, 2) := by decide +kernel
theorem dX11_seat_35 : decode cX11_seat 35 = .ok (.ifCond .lt 26, 3) := by decide +kernel
theorem dX11_seat_38 : decode cX11_seat 38 = .ok (.iload 4, 2) := by decide +kernel
theorem dX11_seat_40 : decode cX11_seat 40 = .ok (.aload_n 0, 1) := by decide +kernel
theorem dX11_seat_41 : decode cX11_seat 41 = .ok (.aload 5, 2) := by decide +kernel
theorem dX11_seat_43 : decode cX11_seat 43 = .ok (.iload_n 2, 1) := by decide +kernel
theorem dX11_seat_44 : decode cX11_seat 44 = .ok (.invokevirtual 95, 3) := by decide +kernel
theorem dX11_seat_47 : decode cX11_seat 47 = .ok (.invokevirtual 99, 3) := by decide +kernel
theorem dX11_seat_50 : decode cX11_seat 50 = .ok (.if_icmp .ge 11, 3) := by decide +kernel
theorem dX11_seat_53 : decode cX11_seat 53 = .ok (.aload 5, 2) := by decide +kernel
theorem dX11_seat_55 : decode cX11_seat 55 = .ok (.invokevirtual 102, 3) := by decide +kernel
theorem dX11_seat_58 : decode cX11_seat 58 = .ok (.ifCond .le 5, 3) := by decide +kernel
theorem dX11_seat_61 : decode cX11_seat 61 = .ok (.iconst 0, 1) := by decide +kernel
theorem dX11_seat_62 : decode cX11_seat 62 = .ok (.ireturn, 1) := by decide +kernel
theorem dX11_seat_63 : decode cX11_seat 63 = .ok (.aload 5, 2) := by decide +kernel
theorem dX11_seat_65 : decode cX11_seat 65 = .ok (.iload_n 2, 1) := by decide +kernel
theorem dX11_seat_66 : decode cX11_seat 66 = .ok (.iload_n 3, 1) := by decide +kernel
theorem dX11_seat_67 : decode cX11_seat 67 = .ok (.iload 4, 2) := by decide +kernel
theorem dX11_seat_69 : decode cX11_seat 69 = .ok (.invokevirtual 105, 3) := by decide +kernel
theorem dX11_seat_72 : decode cX11_seat 72 = .ok (.aload_n 0, 1) := by decide +kernel
theorem dX11_seat_73 : decode cX11_seat 73 = .ok (.invokevirtual 109, 3) := by decide +kernel
theorem dX11_seat_76 : decode cX11_seat 76 = .ok (.iconst 1, 1) := by decide +kernel
theorem dX11_seat_77 : decode cX11_seat 77 = .ok (.ireturn, 1) := by decide +kernel
theorem dX11_turn_0 : decode cX11_turn 0 = .ok (.aload_n 0, 1) := by decide +kernel
theorem dX11_turn_1 : decode cX11_turn 1 = .ok (.iload_n 1, 1) := by decide +kernel
theorem dX11_turn_2 : decode cX11_turn 2 = .ok (.invokevirtual 91, 3) := by decide +kernel
theorem dX11_turn_5 : decode cX11_turn 5 = .ok (.astore_n 2, 1) := by decide +kernel
theorem dX11_turn_6 : decode cX11_turn 6 = .ok (.aload_n 2, 1) := by decide +kernel
theorem dX11_turn_7 : decode cX11_turn 7 = .ok (.ifnonnull 9, 3) := by decide +kernel
theorem dX11_turn_10 : decode cX11_turn 10 = .ok (.aload_n 0, 1) := by decide +kernel
theorem dX11_turn_11 : decode cX11_turn 11 = .ok (.iconst 0, 1) := by decide +kernel
theorem dX11_turn_12 : decode cX11_turn 12 = .ok (.invokevirtual 112, 3) := by decide +kernel
theorem dX11_turn_15 : decode cX11_turn 15 = .ok (.ireturn, 1) := by decide +kernel
theorem dX11_turn_16 : decode cX11_turn 16 = .ok (.aload_n 0, 1) := by decide +kernel
theorem dX11_turn_17 : decode cX11_turn 17 = .ok (.iload_n 1, 1) := by decide +kernel
theorem dX11_turn_18 : decode cX11_turn 18 = .ok (.aload_n 2, 1) := by decide +kernel
theorem dX11_turn_19 : decode cX11_turn 19 = .ok (.invokevirtual 115, 3) := by decide +kernel
theorem dX11_turn_22 : decode cX11_turn 22 = .ok (.aload_n 0, 1) := by decide +kernel
theorem dX11_turn_23 : decode cX11_turn 23 = .ok (.getfield 42, 3) := by decide +kernel
theorem dX11_turn_26 : decode cX11_turn 26 = .ok (.getfield 119, 3) := by decide +kernel
theorem dX11_turn_29 : decode cX11_turn 29 = .ok (.ifCond .eq 13, 3) := by decide +kernel
theorem dX11_turn_32 : decode cX11_turn 32 = .ok (.aload_n 0, 1) := by decide +kernel
theorem dX11_turn_33 : decode cX11_turn 33 = .ok (.getfield 42, 3) := by decide +kernel
theorem dX11_turn_36 : decode cX11_turn 36 = .ok (.getfield 119, 3) := by decide +kernel
theorem dX11_turn_39 : decode cX11_turn 39 = .ok (.goto 14, 3) := by decide +kernel
theorem dX11_turn_42 : decode cX11_turn 42 = .ok (.aload_n 0, 1) := by decide +kernel
theorem dX11_turn_43 : decode cX11_turn 43 = .ok (.getfield 42, 3) := by decide +kernel
theorem dX11_turn_46 : decode cX11_turn 46 = .ok (.aload_n 2, 1) := by decide +kernel
theorem dX11_turn_47 : decode cX11_turn 47 = .ok (.invokevirtual 102, 3) := by decide +kernel
theorem dX11_turn_50 : decode cX11_turn 50 = .ok (.invokevirtual 122, 3) := by decide +kernel
theorem dX11_turn_53 : decode cX11_turn 53 = .ok (.istore_n 3, 1) := by decide +kernel
theorem dX11_turn_54 : decode cX11_turn 54 = .ok (.iload_n 3, 1) := by decide +kernel
theorem dX11_turn_55 : decode cX11_turn 55 = .ok (.ifCond .eq 9, 3) := by decide +kernel
theorem dX11_turn_58 : decode cX11_turn 58 = .ok (.aload_n 0, 1) := by decide +kernel
theorem dX11_turn_59 : decode cX11_turn 59 = .ok (.iload_n 3, 1) := by decide +kernel
theorem dX11_turn_60 : decode cX11_turn 60 = .ok (.invokevirtual 112, 3) := by decide +kernel
theorem dX11_turn_63 : decode cX11_turn 63 = .ok (.ireturn, 1) := by decide +kernel
theorem dX11_turn_64 : decode cX11_turn 64 = .ok (.aload_n 0, 1) := by decide +kernel
theorem dX11_turn_65 : decode cX11_turn 65 = .ok (.getfield 35, 3) := by decide +kernel
theorem dX11_turn_68 : decode cX11_turn 68 = .ok (.iload_n 1, 1) := by decide +kernel
theorem dX11_turn_69 : decode cX11_turn 69 = .ok (.iconst 0, 1) := by decide +kernel
theorem dX11_turn_70 : decode cX11_turn 70 = .ok (.aload_n 2, 1) := by decide +kernel
theorem dX11_turn_71 : decode cX11_turn 71 = .ok (.invokevirtual 102, 3) := by decide +kernel
theorem dX11_turn_74 : decode cX11_turn 74 = .ok (.iconst (-1), 1) := by decide +kernel
theorem dX11_turn_75 : decode cX11_turn 75 = .ok (.aconst_null, 1) := by decide +kernel
theorem dX11_turn_76 : decode cX11_turn 76 = .ok (.invokevirtual 125, 3) := by decide +kernel
theorem dX11_turn_79 : decode cX11_turn 79 = .ok (.aload_n 2, 1) := by decide +kernel
theorem dX11_turn_80 : decode cX11_turn 80 = .ok (.new 129, 3) := by decide +kernel
theorem dX11_turn_83 : decode cX11_turn 83 = .ok (.dup, 1) := by decide +kernel
theorem dX11_turn_84 : decode cX11_turn 84 = .ok (.invokespecial 131, 3) := by decide +kernel
theorem dX11_turn_87 : decode cX11_turn 87 = .ok (.invokevirtual 132, 3) := by decide +kernel
theorem dX11_turn_90 : decode cX11_turn 90 = .ok (.aload_n 0, 1) := by decide +kernel
theorem dX11_turn_91 : decode cX11_turn 91 = .ok (.invokevirtual 136, 3) := by decide +kernel
theorem dX11_turn_94 : decode cX11_turn 94 = .ok (.ireturn, 1) := by decide +kernel
theorem dX11_over_0 : decode cX11_over 0 = .ok (.aload_n 0, 1) := by decide +kernel
theorem dX11_over_1 : decode cX11_over 1 = .ok (.iload_n 1, 1) := by decide +kernel
theorem dX11_over_2 : decode cX11_over 2 = .ok (.invokevirtual 91, 3) := by decide +kernel
theorem dX11_over_5 : decode cX11_over 5 = .ok (.astore_n 3, 1) := by decide +kernel
theorem dX11_over_6 : decode cX11_over 6 = .ok (.aload_n 3, 1) := by decide +kernel
theorem dX11_over_7 : decode cX11_over 7 = .ok (.ifnonnull 9, 3) := by decide +kernel
theorem dX11_over_10 : decode cX11_over 10 = .ok (.aload_n 0, 1) := by decide +kernel
theorem dX11_over_11 : decode cX11_over 11 = .ok (.iconst 0, 1) := by decide +kernel
theorem dX11_over_12 : decode cX11_over 12 = .ok (.invokevirtual 112, 3) := by decide +kernel
theorem dX11_over_15 : decode cX11_over 15 = .ok (.ireturn, 1) := by decide +kernel
theorem dX11_over_16 : decode cX11_over 16 = .ok (.aload_n 0, 1) := by decide +kernel
theorem dX11_over_17 : decode cX11_over 17 = .ok (.iload_n 1, 1) := by decide +kernel
theorem dX11_over_18 : decode cX11_over 18 = .ok (.aload_n 3, 1) := by decide +kernel
theorem dX11_over_19 : decode cX11_over 19 = .ok (.invokevirtual 115, 3) := by decide +kernel
theorem dX11_over_22 : decode cX11_over 22 = .ok (.aload_n 0, 1) := by decide +kernel
theorem dX11_over_23 : decode cX11_over 23 = .ok (.getfield 42, 3) := by decide +kernel
theorem dX11_over_26 : decode cX11_over 26 = .ok (.getfield 119, 3) := by decide +kernel
theorem dX11_over_29 : decode cX11_over 29 = .ok (.ifCond .eq 15, 3) := by decide +kernel
theorem dX11_over_32 : decode cX11_over 32 = .ok (.aload_n 0, 1) := by decide +kernel
theorem dX11_over_33 : decode cX11_over 33 = .ok (.aload_n 0, 1) := by decide +kernel
theorem dX11_over_34 : decode cX11_over 34 = .ok (.getfield 42, 3) := by decide +kernel
theorem dX11_over_37 : decode cX11_over 37 = .ok (.getfield 119, 3) := by decide +kernel
theorem dX11_over_40 : decode cX11_over 40 = .ok (.invokevirtual 112, 3) := by decide +kernel
theorem dX11_over_43 : decode cX11_over 43 = .ok (.ireturn, 1) := by decide +kernel
theorem dX11_over_44 : decode cX11_over 44 = .ok (.aload_n 3, 1) := by decide +kernel
theorem dX11_over_45 : decode cX11_over 45 = .ok (.aload_n 3, 1) := by decide +kernel
theorem dX11_over_46 : decode cX11_over 46 = .ok (.invokevirtual 102, 3) := by decide +kernel
theorem dX11_over_49 : decode cX11_over 49 = .ok (.iconst 1, 1) := by decide +kernel
theorem dX11_over_50 : decode cX11_over 50 = .ok (.isub, 1) := by decide +kernel
theorem dX11_over_51 : decode cX11_over 51 = .ok (.invokevirtual 140, 3) := by decide +kernel
theorem dX11_over_54 : decode cX11_over 54 = .ok (.astore 4, 2) := by decide +kernel
theorem dX11_over_56 : decode cX11_over 56 = .ok (.aload 4, 2) := by decide +kernel
theorem dX11_over_58 : decode cX11_over 58 = .ok (.ifnonnull 10, 3) := by decide +kernel
theorem dX11_over_61 : decode cX11_over 61 = .ok (.aload_n 0, 1) := by decide +kernel
theorem dX11_over_62 : decode cX11_over 62 = .ok (.bipush 11, 2) := by decide +kernel
theorem dX11_over_64 : decode cX11_over 64 = .ok (.invokevirtual 112, 3) := by decide +kernel
theorem dX11_over_67 : decode cX11_over 67 = .ok (.ireturn, 1) := by decide +kernel
theorem dX11_over_68 : decode cX11_over 68 = .ok (.aload_n 0, 1) := by decide +kernel
theorem dX11_over_69 : decode cX11_over 69 = .ok (.getfield 42, 3) := by decide +kernel
theorem dX11_over_72 : decode cX11_over 72 = .ok (.iload_n 2, 1) := by decide +kernel
theorem dX11_over_73 : decode cX11_over 73 = .ok (.invokevirtual 144, 3) := by decide +kernel
theorem dX11_over_76 : decode cX11_over 76 = .ok (.istore 5, 2) := by decide +kernel
theorem dX11_over_78 : decode cX11_over 78 = .ok (.iload 5, 2) := by decide +kernel
theorem dX11_over_80 : decode cX11_over 80 = .ok (.ifCond .eq 10, 3) := by decide +kernel
theorem dX11_over_83 : decode cX11_over 83 = .ok (.aload_n 0, 1) := by decide +kernel
theorem dX11_over_84 : decode cX11_over 84 = .ok (.iload 5, 2) := by decide +kernel
theorem dX11_over_86 : decode cX11_over 86 = .ok (.invokevirtual 112, 3) := by decide +kernel
theorem dX11_over_89 : decode cX11_over 89 = .ok (.ireturn, 1) := by decide +kernel
theorem dX11_over_90 : decode cX11_over 90 = .ok (.aload_n 0, 1) := by decide +kernel
theorem dX11_over_91 : decode cX11_over 91 = .ok (.getfield 35, 3) := by decide +kernel
theorem dX11_over_94 : decode cX11_over 94 = .ok (.iload_n 1, 1) := by decide +kernel
theorem dX11_over_95 : decode cX11_over 95 = .ok (.iconst 1, 1) := by decide +kernel
theorem dX11_over_96 : decode cX11_over 96 = .ok (.aload_n 3, 1) := by decide +kernel
theorem dX11_over_97 : decode cX11_over 97 = .ok (.invokevirtual 102, 3) := by decide +kernel
theorem dX11_over_100 : decode cX11_over 100 = .ok (.iconst 1, 1) := by decide +kernel
theorem dX11_over_101 : decode cX11_over 101 = .ok (.isub, 1) := by decide +kernel
theorem dX11_over_102 : decode cX11_over 102 = .ok (.aload 4, 2) := by decide +kernel
theorem dX11_over_104 : decode cX11_over 104 = .ok (.invokevirtual 147, 3) := by decide +kernel
theorem dX11_over_107 : decode cX11_over 107 = .ok (.aconst_null, 1) := by decide +kernel
theorem dX11_over_108 : decode cX11_over 108 = .ok (.invokevirtual 125, 3) := by decide +kernel
theorem dX11_over_111 : decode cX11_over 111 = .ok (.aload 4, 2) := by decide +kernel
theorem dX11_over_113 : decode cX11_over 113 = .ok (.new 150, 3) := by decide +kernel
theorem dX11_over_116 : decode cX11_over 116 = .ok (.dup, 1) := by decide +kernel
theorem dX11_over_117 : decode cX11_over 117 = .ok (.iload_n 2, 1) := by decide +kernel
theorem dX11_over_118 : decode cX11_over 118 = .ok (.iconst 0, 1) := by decide +kernel
theorem dX11_over_119 : decode cX11_over 119 = .ok (.invokespecial 152, 3) := by decide +kernel
theorem dX11_over_122 : decode cX11_over 122 = .ok (.invokevirtual 155, 3) := by decide +kernel
theorem dX11_over_125 : decode cX11_over 125 = .ok (.aload_n 0, 1) := by decide +kernel
theorem dX11_over_126 : decode cX11_over 126 = .ok (.invokevirtual 136, 3) := by decide +kernel
theorem dX11_over_129 : decode cX11_over 129 = .ok (.ireturn, 1) := by decide +kernel
theorem dX11_ball_0 : decode cX11_ball 0 = .ok (.aload_n 0, 1) := by decide +kernel
theorem dX11_ball_1 : decode cX11_ball 1 = .ok (.iload_n 1, 1) := by decide +kernel
theorem dX11_ball_2 : decode cX11_ball 2 = .ok (.invokevirtual 91, 3) := by decide +kernel
theorem dX11_ball_5 : decode cX11_ball 5 = .ok (.astore_n 3, 1) := by decide +kernel
theorem dX11_ball_6 : decode cX11_ball 6 = .ok (.aload_n 3, 1) := by decide +kernel
theorem dX11_ball_7 : decode cX11_ball 7 = .ok (.ifnonnull 9, 3) := by decide +kernel
theorem dX11_ball_10 : decode cX11_ball 10 = .ok (.aload_n 0, 1) := by decide +kernel
theorem dX11_ball_11 : decode cX11_ball 11 = .ok (.iconst 0, 1) := by decide +kernel
theorem dX11_ball_12 : decode cX11_ball 12 = .ok (.invokevirtual 112, 3) := by decide +kernel
theorem dX11_ball_15 : decode cX11_ball 15 = .ok (.ireturn, 1) := by decide +kernel
theorem dX11_ball_16 : decode cX11_ball 16 = .ok (.aload_n 0, 1) := by decide +kernel
theorem dX11_ball_17 : decode cX11_ball 17 = .ok (.iload_n 1, 1) := by decide +kernel
theorem dX11_ball_18 : decode cX11_ball 18 = .ok (.aload_n 3, 1) := by decide +kernel
theorem dX11_ball_19 : decode cX11_ball 19 = .ok (.invokevirtual 115, 3) := by decide +kernel
theorem dX11_ball_22 : decode cX11_ball 22 = .ok (.aload_n 0, 1) := by decide +kernel
theorem dX11_ball_23 : decode cX11_ball 23 = .ok (.getfield 42, 3) := by decide +kernel
theorem dX11_ball_26 : decode cX11_ball 26 = .ok (.getfield 119, 3) := by decide +kernel
theorem dX11_ball_29 : decode cX11_ball 29 = .ok (.ifCond .eq 15, 3) := by decide +kernel
theorem dX11_ball_32 : decode cX11_ball 32 = .ok (.aload_n 0, 1) := by decide +kernel
theorem dX11_ball_33 : decode cX11_ball 33 = .ok (.aload_n 0, 1) := by decide +kernel
theorem dX11_ball_34 : decode cX11_ball 34 = .ok (.getfield 42, 3) := by decide +kernel
theorem dX11_ball_37 : decode cX11_ball 37 = .ok (.getfield 119, 3) := by decide +kernel
theorem dX11_ball_40 : decode cX11_ball 40 = .ok (.invokevirtual 112, 3) := by decide +kernel
theorem dX11_ball_43 : decode cX11_ball 43 = .ok (.ireturn, 1) := by decide +kernel
theorem dX11_ball_44 : decode cX11_ball 44 = .ok (.aload_n 3, 1) := by decide +kernel
theorem dX11_ball_45 : decode cX11_ball 45 = .ok (.invokevirtual 102, 3) := by decide +kernel
theorem dX11_ball_48 : decode cX11_ball 48 = .ok (.iconst 1, 1) := by decide +kernel
theorem dX11_ball_49 : decode cX11_ball 49 = .ok (.isub, 1) := by decide +kernel
theorem dX11_ball_50 : decode cX11_ball 50 = .ok (.istore 4, 2) := by decide +kernel
theorem dX11_ball_52 : decode cX11_ball 52 = .ok (.aload_n 3, 1) := by decide +kernel
theorem dX11_ball_53 : decode cX11_ball 53 = .ok (.iload 4, 2) := by decide +kernel
theorem dX11_ball_55 : decode cX11_ball 55 = .ok (.invokevirtual 159, 3) := by decide +kernel
theorem dX11_ball_58 : decode cX11_ball 58 = .ok (.iconst 1, 1) := by decide +kernel
theorem dX11_ball_59 : decode cX11_ball 59 = .ok (.isub, 1) := by decide +kernel
theorem dX11_ball_60 : decode cX11_ball 60 = .ok (.istore 5, 2) := by decide +kernel
theorem dX11_ball_62 : decode cX11_ball 62 = .ok (.aload_n 3, 1) := by decide +kernel
theorem dX11_ball_63 : decode cX11_ball 63 = .ok (.iload 4, 2) := by decide +kernel
theorem dX11_ball_65 : decode cX11_ball 65 = .ok (.iload 5, 2) := by decide +kernel
theorem dX11_ball_67 : decode cX11_ball 67 = .ok (.invokevirtual 162, 3) := by decide +kernel
theorem dX11_ball_70 : decode cX11_ball 70 = .ok (.astore 6, 2) := by decide +kernel
theorem dX11_ball_72 : decode cX11_ball 72 = .ok (.aload 6, 2) := by decide +kernel
theorem dX11_ball_74 : decode cX11_ball 74 = .ok (.ifnull 11, 3) := by decide +kernel
theorem dX11_ball_77 : decode cX11_ball 77 = .ok (.aload 6, 2) := by decide +kernel
theorem dX11_ball_79 : decode cX11_ball 79 = .ok (.invokevirtual 166, 3) := by decide +kernel
theorem dX11_ball_82 : decode cX11_ball 82 = .ok (.ifCond .eq 10, 3) := by decide +kernel
theorem dX11_ball_85 : decode cX11_ball 85 = .ok (.aload_n 0, 1) := by decide +kernel
theorem dX11_ball_86 : decode cX11_ball 86 = .ok (.bipush 11, 2) := by decide +kernel
theorem dX11_ball_88 : decode cX11_ball 88 = .ok (.invokevirtual 112, 3) := by decide +kernel
theorem dX11_ball_91 : decode cX11_ball 91 = .ok (.ireturn, 1) := by decide +kernel
theorem dX11_ball_92 : decode cX11_ball 92 = .ok (.aload 6, 2) := by decide +kernel
theorem dX11_ball_94 : decode cX11_ball 94 = .ok (.invokevirtual 169, 3) := by decide +kernel
theorem dX11_ball_97 : decode cX11_ball 97 = .ok (.ifCond .eq 10, 3) := by decide +kernel
theorem dX11_ball_100 : decode cX11_ball 100 = .ok (.aload_n 0, 1) := by decide +kernel
theorem dX11_ball_101 : decode cX11_ball 101 = .ok (.bipush 12, 2) := by decide +kernel
theorem dX11_ball_103 : decode cX11_ball 103 = .ok (.invokevirtual 112, 3) := by decide +kernel
theorem dX11_ball_106 : decode cX11_ball 106 = .ok (.ireturn, 1) := by decide +kernel
theorem dX11_ball_107 : decode cX11_ball 107 = .ok (.aload_n 0, 1) := by decide +kernel
theorem dX11_ball_108 : decode cX11_ball 108 = .ok (.getfield 42, 3) := by decide +kernel
theorem dX11_ball_111 : decode cX11_ball 111 = .ok (.iload_n 2, 1) := by decide +kernel
theorem dX11_ball_112 : decode cX11_ball 112 = .ok (.sipush 255, 3) := by decide +kernel
theorem dX11_ball_115 : decode cX11_ball 115 = .ok (.iand, 1) := by decide +kernel
theorem dX11_ball_116 : decode cX11_ball 116 = .ok (.invokevirtual 172, 3) := by decide +kernel
theorem dX11_ball_119 : decode cX11_ball 119 = .ok (.istore 7, 2) := by decide +kernel
theorem dX11_ball_121 : decode cX11_ball 121 = .ok (.iload 7, 2) := by decide +kernel
theorem dX11_ball_123 : decode cX11_ball 123 = .ok (.ifCond .eq 10, 3) := by decide +kernel
theorem dX11_ball_126 : decode cX11_ball 126 = .ok (.aload_n 0, 1) := by decide +kernel
theorem dX11_ball_127 : decode cX11_ball 127 = .ok (.iload 7, 2) := by decide +kernel
theorem dX11_ball_129 : decode cX11_ball 129 = .ok (.invokevirtual 112, 3) := by decide +kernel
theorem dX11_ball_132 : decode cX11_ball 132 = .ok (.ireturn, 1) := by decide +kernel
theorem dX11_ball_133 : decode cX11_ball 133 = .ok (.aload_n 0, 1) := by decide +kernel
theorem dX11_ball_134 : decode cX11_ball 134 = .ok (.iload_n 1, 1) := by decide +kernel
theorem dX11_ball_135 : decode cX11_ball 135 = .ok (.iload 4, 2) := by decide +kernel
theorem dX11_ball_137 : decode cX11_ball 137 = .ok (.iload 5, 2) := by decide +kernel
theorem dX11_ball_139 : decode cX11_ball 139 = .ok (.aload 6, 2) := by decide +kernel
theorem dX11_ball_141 : decode cX11_ball 141 = .ok (.invokevirtual 175, 3) := by decide +kernel
theorem dX11_ball_144 : decode cX11_ball 144 = .ok (.aload 6, 2) := by decide +kernel
theorem dX11_ball_146 : decode cX11_ball 146 = .ok (.aload 6, 2) := by decide +kernel
theorem dX11_ball_148 : decode cX11_ball 148 = .ok (.getfield 179, 3) := by decide +kernel
theorem dX11_ball_151 : decode cX11_ball 151 = .ok (.iload_n 2, 1) := by decide +kernel
theorem dX11_ball_152 : decode cX11_ball 152 = .ok (.sipush 255, 3) := by decide +kernel
theorem dX11_ball_155 : decode cX11_ball 155 = .ok (.iand, 1) := by decide +kernel
theorem dX11_ball_156 : decode cX11_ball 156 = .ok (.invokevirtual 181, 3) := by decide +kernel
theorem dX11_ball_159 : decode cX11_ball 159 = .ok (.aload_n 0, 1) := by decide +kernel
theorem dX11_ball_160 : decode cX11_ball 160 = .ok (.invokevirtual 136, 3) := by decide +kernel
theorem dX11_ball_163 : decode cX11_ball 163 = .ok (.ireturn, 1) := by decide +kernel
theorem dX11_feed_0 : decode cX11_feed 0 = .ok (.aload_n 0, 1) := by decide +kernel
theorem dX11_feed_1 : decode cX11_feed 1 = .ok (.getfield 25, 3) := by decide +kernel
theorem dX11_feed_4 : decode cX11_feed 4 = .ok (.getfield 184, 3) := by decide +kernel
theorem dX11_feed_7 : decode cX11_feed 7 = .ok (.sipush 5980, 3) := by decide +kernel
theorem dX11_feed_10 : decode cX11_feed 10 = .ok (.if_icmp .le 5, 3) := by decide +kernel
theorem dX11_feed_13 : decode cX11_feed 13 = .ok (.iconst (-1), 1) := by decide +kernel
theorem dX11_feed_14 : decode cX11_feed 14 = .ok (.ireturn, 1) := by decide +kernel
theorem dX11_feed_15 : decode cX11_feed 15 = .ok (.aload_n 0, 1) := by decide +kernel
theorem dX11_feed_16 : decode cX11_feed 16 = .ok (.getfield 25, 3) := by decide +kernel
theorem dX11_feed_19 : decode cX11_feed 19 = .ok (.iload_n 1, 1) := by decide +kernel
theorem dX11_feed_20 : decode cX11_feed 20 = .ok (.invokevirtual 185, 3) := by decide +kernel
theorem dX11_feed_23 : decode cX11_feed 23 = .ok (.aload_n 0, 1) := by decide +kernel
theorem dX11_feed_24 : decode cX11_feed 24 = .ok (.getfield 25, 3) := by decide +kernel
theorem dX11_feed_27 : decode cX11_feed 27 = .ok (.iload_n 2, 1) := by decide +kernel
theorem dX11_feed_28 : decode cX11_feed 28 = .ok (.invokevirtual 185, 3) := by decide +kernel
theorem dX11_feed_31 : decode cX11_feed 31 = .ok (.aload_n 0, 1) := by decide +kernel
theorem dX11_feed_32 : decode cX11_feed 32 = .ok (.getfield 25, 3) := by decide +kernel
theorem dX11_feed_35 : decode cX11_feed 35 = .ok (.iload_n 3, 1) := by decide +kernel
theorem dX11_feed_36 : decode cX11_feed 36 = .ok (.invokevirtual 185, 3) := by decide +kernel
theorem dX11_feed_39 : decode cX11_feed 39 = .ok (.aload_n 0, 1) := by decide +kernel
theorem dX11_feed_40 : decode cX11_feed 40 = .ok (.getfield 25, 3) := by decide +kernel
theorem dX11_feed_43 : decode cX11_feed 43 = .ok (.iload 4, 2) := by decide +kernel
theorem dX11_feed_45 : decode cX11_feed 45 = .ok (.invokevirtual 185, 3) := by decide +kernel
theorem dX11_feed_48 : decode cX11_feed 48 = .ok (.aload_n 0, 1) := by decide +kernel
theorem dX11_feed_49 : decode cX11_feed 49 = .ok (.getfield 25, 3) := by decide +kernel
theorem dX11_feed_52 : decode cX11_feed 52 = .ok (.iload 5, 2) := by decide +kernel
theorem dX11_feed_54 : decode cX11_feed 54 = .ok (.invokevirtual 185, 3) := by decide +kernel
theorem dX11_feed_57 : decode cX11_feed 57 = .ok (.aload_n 0, 1) := by decide +kernel
theorem dX11_feed_58 : decode cX11_feed 58 = .ok (.getfield 25, 3) := by decide +kernel
theorem dX11_feed_61 : decode cX11_feed 61 = .ok (.getfield 184, 3) := by decide +kernel
theorem dX11_feed_64 : decode cX11_feed 64 = .ok (.ireturn, 1) := by decide +kernel
theorem dX11_open_0 : decode cX11_open 0 = .ok (.aload_n 0, 1) := by decide +kernel
theorem dX11_open_1 : decode cX11_open 1 = .ok (.iload_n 1, 1) := by decide +kernel
theorem dX11_open_2 : decode cX11_open 2 = .ok (.iload_n 2, 1) := by decide +kernel
theorem dX11_open_3 : decode cX11_open 3 = .ok (.iload_n 3, 1) := by decide +kernel
theorem dX11_open_4 : decode cX11_open 4 = .ok (.invokevirtual 188, 3) := by decide +kernel
theorem dX11_open_7 : decode cX11_open 7 = .ok (.astore 5, 2) := by decide +kernel
theorem dX11_open_9 : decode cX11_open 9 = .ok (.aload 5, 2) := by decide +kernel
theorem dX11_open_11 : decode cX11_open 11 = .ok (.ifnull 27, 3) := by decide +kernel
theorem dX11_open_14 : decode cX11_open 14 = .ok (.iload 4, 2) := by decide +kernel
theorem dX11_open_16 : decode cX11_open 16 = .ok (.ifCond .lt 22, 3) := by decide +kernel
theorem dX11_open_19 : decode cX11_open 19 = .ok (.iload 4, 2) := by decide +kernel
theorem dX11_open_21 : decode cX11_open 21 = .ok (.bipush 40, 2) := by decide +kernel
theorem dX11_open_23 : decode cX11_open 23 = .ok (.if_icmp .gt 15, 3) := by decide +kernel
theorem dX11_open_26 : decode cX11_open 26 = .ok (.iload 4, 2) := by decide +kernel
theorem dX11_open_28 : decode cX11_open 28 = .ok (.aload_n 0, 1) := by decide +kernel
theorem dX11_open_29 : decode cX11_open 29 = .ok (.getfield 25, 3) := by decide +kernel
theorem dX11_open_32 : decode cX11_open 32 = .ok (.getfield 184, 3) := by decide +kernel
theorem dX11_open_35 : decode cX11_open 35 = .ok (.if_icmp .le 5, 3) := by decide +kernel
theorem dX11_open_38 : decode cX11_open 38 = .ok (.iconst 0, 1) := by decide +kernel
theorem dX11_open_39 : decode cX11_open 39 = .ok (.ireturn, 1) := by decide +kernel
theorem dX11_open_40 : decode cX11_open 40 = .ok (.aload_n 0, 1) := by decide +kernel
theorem dX11_open_41 : decode cX11_open 41 = .ok (.iload_n 1, 1) := by decide +kernel
theorem dX11_open_42 : decode cX11_open 42 = .ok (.iload_n 2, 1) := by decide +kernel
theorem dX11_open_43 : decode cX11_open 43 = .ok (.iload_n 3, 1) := by decide +kernel
theorem dX11_open_44 : decode cX11_open 44 = .ok (.aload 5, 2) := by decide +kernel
theorem dX11_open_46 : decode cX11_open 46 = .ok (.invokevirtual 175, 3) := by decide +kernel
theorem dX11_open_49 : decode cX11_open 49 = .ok (.aload 5, 2) := by decide +kernel
theorem dX11_open_51 : decode cX11_open 51 = .ok (.iconst 0, 1) := by decide +kernel
theorem dX11_open_52 : decode cX11_open 52 = .ok (.putfield 179, 3) := by decide +kernel
theorem dX11_open_55 : decode cX11_open 55 = .ok (.iconst 0, 1) := by decide +kernel
theorem dX11_open_56 : decode cX11_open 56 = .ok (.istore 6, 2) := by decide +kernel
theorem dX11_open_58 : decode cX11_open 58 = .ok (.iload 6, 2) := by decide +kernel
theorem dX11_open_60 : decode cX11_open 60 = .ok (.iload 4, 2) := by decide +kernel
theorem dX11_open_62 : decode cX11_open 62 = .ok (.if_icmp .ge 25, 3) := by decide +kernel
theorem dX11_open_65 : decode cX11_open 65 = .ok (.aload 5, 2) := by decide +kernel
theorem dX11_open_67 : decode cX11_open 67 = .ok (.iload 6, 2) := by decide +kernel
theorem dX11_open_69 : decode cX11_open 69 = .ok (.aload_n 0, 1) := by decide +kernel
theorem dX11_open_70 : decode cX11_open 70 = .ok (.getfield 25, 3) := by decide +kernel
theorem dX11_open_73 : decode cX11_open 73 = .ok (.iload 6, 2) := by decide +kernel
theorem dX11_open_75 : decode cX11_open 75 = .ok (.invokevirtual 192, 3) := by decide +kernel
theorem dX11_open_78 : decode cX11_open 78 = .ok (.invokevirtual 181, 3) := by decide +kernel
theorem dX11_open_81 : decode cX11_open 81 = .ok (.iinc 6 1, 3) := by decide +kernel
theorem dX11_open_84 : decode cX11_open 84 = .ok (.goto (-26), 3) := by decide +kernel
theorem dX11_open_87 : decode cX11_open 87 = .ok (.aload_n 0, 1) := by decide +kernel
theorem dX11_open_88 : decode cX11_open 88 = .ok (.getfield 25, 3) := by decide +kernel
theorem dX11_open_91 : decode cX11_open 91 = .ok (.invokevirtual 195, 3) := by decide +kernel
theorem dX11_open_94 : decode cX11_open 94 = .ok (.iconst 1, 1) := by decide +kernel
theorem dX11_open_95 : decode cX11_open 95 = .ok (.ireturn, 1) := by decide +kernel
theorem dX11_tear_0 : decode cX11_tear 0 = .ok (.aload_n 0, 1) := by decide +kernel
theorem dX11_tear_1 : decode cX11_tear 1 = .ok (.iload_n 1, 1) := by decide +kernel
theorem dX11_tear_2 : decode cX11_tear 2 = .ok (.iload_n 2, 1) := by decide +kernel
theorem dX11_tear_3 : decode cX11_tear 3 = .ok (.iload_n 3, 1) := by decide +kernel
theorem dX11_tear_4 : decode cX11_tear 4 = .ok (.invokevirtual 188, 3) := by decide +kernel
theorem dX11_tear_7 : decode cX11_tear 7 = .ok (.astore 4, 2) := by decide +kernel
theorem dX11_tear_9 : decode cX11_tear 9 = .ok (.aload 4, 2) := by decide +kernel
theorem dX11_tear_11 : decode cX11_tear 11 = .ok (.ifnull 11, 3) := by decide +kernel
theorem dX11_tear_14 : decode cX11_tear 14 = .ok (.aload 4, 2) := by decide +kernel
theorem dX11_tear_16 : decode cX11_tear 16 = .ok (.invokevirtual 166, 3) := by decide +kernel
theorem dX11_tear_19 : decode cX11_tear 19 = .ok (.ifCond .eq 5, 3) := by decide +kernel
theorem dX11_tear_22 : decode cX11_tear 22 = .ok (.iconst 0, 1) := by decide +kernel
theorem dX11_tear_23 : decode cX11_tear 23 = .ok (.ireturn, 1) := by decide +kernel
theorem dX11_tear_24 : decode cX11_tear 24 = .ok (.aload_n 0, 1) := by decide +kernel
theorem dX11_tear_25 : decode cX11_tear 25 = .ok (.iload_n 1, 1) := by decide +kernel
theorem dX11_tear_26 : decode cX11_tear 26 = .ok (.iload_n 2, 1) := by decide +kernel
theorem dX11_tear_27 : decode cX11_tear 27 = .ok (.iload_n 3, 1) := by decide +kernel
theorem dX11_tear_28 : decode cX11_tear 28 = .ok (.aload 4, 2) := by decide +kernel
theorem dX11_tear_30 : decode cX11_tear 30 = .ok (.invokevirtual 175, 3) := by decide +kernel
theorem dX11_tear_33 : decode cX11_tear 33 = .ok (.aload 4, 2) := by decide +kernel
theorem dX11_tear_35 : decode cX11_tear 35 = .ok (.iconst (-1), 1) := by decide +kernel
theorem dX11_tear_36 : decode cX11_tear 36 = .ok (.putfield 179, 3) := by decide +kernel
theorem dX11_tear_39 : decode cX11_tear 39 = .ok (.iconst 1, 1) := by decide +kernel
theorem dX11_tear_40 : decode cX11_tear 40 = .ok (.ireturn, 1) := by decide +kernel
theorem dX11_put_0 : decode cX11_put 0 = .ok (.aload_n 0, 1) := by decide +kernel
theorem dX11_put_1 : decode cX11_put 1 = .ok (.iload_n 1, 1) := by decide +kernel
theorem dX11_put_2 : decode cX11_put 2 = .ok (.iload_n 2, 1) := by decide +kernel
theorem dX11_put_3 : decode cX11_put 3 = .ok (.iload_n 3, 1) := by decide +kernel
theorem dX11_put_4 : decode cX11_put 4 = .ok (.invokevirtual 188, 3) := by decide +kernel
theorem dX11_put_7 : decode cX11_put 7 = .ok (.astore 6, 2) := by decide +kernel
theorem dX11_put_9 : decode cX11_put 9 = .ok (.aload 6, 2) := by decide +kernel
theorem dX11_put_11 : decode cX11_put 11 = .ok (.ifnull 34, 3) := by decide +kernel
theorem dX11_put_14 : decode cX11_put 14 = .ok (.aload 6, 2) := by decide +kernel
theorem dX11_put_16 : decode cX11_put 16 = .ok (.invokevirtual 166, 3) := by decide +kernel
theorem dX11_put_19 : decode cX11_put 19 = .ok (.ifCond .ne 26, 3) := by decide +kernel
theorem dX11_put_22 : decode cX11_put 22 = .ok (.iload 4, 2) := by decide +kernel
theorem dX11_put_24 : decode cX11_put 24 = .ok (.ifCond .lt 21, 3) := by decide +kernel
theorem dX11_put_27 : decode cX11_put 27 = .ok (.iload 4, 2) := by decide +kernel
theorem dX11_put_29 : decode cX11_put 29 = .ok (.aload 6, 2) := by decide +kernel
theorem dX11_put_31 : decode cX11_put 31 = .ok (.getfield 179, 3) := by decide +kernel
theorem dX11_put_34 : decode cX11_put 34 = .ok (.if_icmp .gt 11, 3) := by decide +kernel
theorem dX11_put_37 : decode cX11_put 37 = .ok (.aload 6, 2) := by decide +kernel
theorem dX11_put_39 : decode cX11_put 39 = .ok (.invokevirtual 169, 3) := by decide +kernel
theorem dX11_put_42 : decode cX11_put 42 = .ok (.ifCond .eq 5, 3) := by decide +kernel
theorem dX11_put_45 : decode cX11_put 45 = .ok (.iconst 0, 1) := by decide +kernel
theorem dX11_put_46 : decode cX11_put 46 = .ok (.ireturn, 1) := by decide +kernel
theorem dX11_put_47 : decode cX11_put 47 = .ok (.aload_n 0, 1) := by decide +kernel
theorem dX11_put_48 : decode cX11_put 48 = .ok (.iload_n 1, 1) := by decide +kernel
theorem dX11_put_49 : decode cX11_put 49 = .ok (.iload_n 2, 1) := by decide +kernel
theorem dX11_put_50 : decode cX11_put 50 = .ok (.iload_n 3, 1) := by decide +kernel
theorem dX11_put_51 : decode cX11_put 51 = .ok (.aload 6, 2) := by decide +kernel
theorem dX11_put_53 : decode cX11_put 53 = .ok (.invokevirtual 175, 3) := by decide +kernel
theorem dX11_put_56 : decode cX11_put 56 = .ok (.aload 6, 2) := by decide +kernel
theorem dX11_put_58 : decode cX11_put 58 = .ok (.iload 4, 2) := by decide +kernel
theorem dX11_put_60 : decode cX11_put 60 = .ok (.iload 5, 2) := by decide +kernel
theorem dX11_put_62 : decode cX11_put 62 = .ok (.sipush 255, 3) := by decide +kernel
theorem dX11_put_65 : decode cX11_put 65 = .ok (.iand, 1) := by decide +kernel
theorem dX11_put_66 : decode cX11_put 66 = .ok (.invokevirtual 181, 3) := by decide +kernel
theorem dX11_put_69 : decode cX11_put 69 = .ok (.iconst 1, 1) := by decide +kernel
theorem dX11_put_70 : decode cX11_put 70 = .ok (.ireturn, 1) := by decide +kernel
theorem dX11_mend_0 : decode cX11_mend 0 = .ok (.aload_n 0, 1) := by decide +kernel
theorem dX11_mend_1 : decode cX11_mend 1 = .ok (.iload_n 1, 1) := by decide +kernel
theorem dX11_mend_2 : decode cX11_mend 2 = .ok (.iload_n 2, 1) := by decide +kernel
theorem dX11_mend_3 : decode cX11_mend 3 = .ok (.iload_n 3, 1) := by decide +kernel
theorem dX11_mend_4 : decode cX11_mend 4 = .ok (.invokevirtual 188, 3) := by decide +kernel
theorem dX11_mend_7 : decode cX11_mend 7 = .ok (.astore 6, 2) := by decide +kernel
theorem dX11_mend_9 : decode cX11_mend 9 = .ok (.aload 6, 2) := by decide +kernel
theorem dX11_mend_11 : decode cX11_mend 11 = .ok (.ifnull 13, 3) := by decide +kernel
theorem dX11_mend_14 : decode cX11_mend 14 = .ok (.aload 6, 2) := by decide +kernel
theorem dX11_mend_16 : decode cX11_mend 16 = .ok (.iload 4, 2) := by decide +kernel
theorem dX11_mend_18 : decode cX11_mend 18 = .ok (.invokevirtual 198, 3) := by decide +kernel
theorem dX11_mend_21 : decode cX11_mend 21 = .ok (.ifCond .ne 5, 3) := by decide +kernel
theorem dX11_mend_24 : decode cX11_mend 24 = .ok (.iconst (-1), 1) := by decide +kernel
theorem dX11_mend_25 : decode cX11_mend 25 = .ok (.ireturn, 1) := by decide +kernel
theorem dX11_mend_26 : decode cX11_mend 26 = .ok (.aload_n 0, 1) := by decide +kernel
theorem dX11_mend_27 : decode cX11_mend 27 = .ok (.iload_n 1, 1) := by decide +kernel
theorem dX11_mend_28 : decode cX11_mend 28 = .ok (.iload_n 2, 1) := by decide +kernel
theorem dX11_mend_29 : decode cX11_mend 29 = .ok (.iload_n 3, 1) := by decide +kernel
theorem dX11_mend_30 : decode cX11_mend 30 = .ok (.aload 6, 2) := by decide +kernel
theorem dX11_mend_32 : decode cX11_mend 32 = .ok (.invokevirtual 175, 3) := by decide +kernel
theorem dX11_mend_35 : decode cX11_mend 35 = .ok (.aload 6, 2) := by decide +kernel
theorem dX11_mend_37 : decode cX11_mend 37 = .ok (.iload 4, 2) := by decide +kernel
theorem dX11_mend_39 : decode cX11_mend 39 = .ok (.invokevirtual 201, 3) := by decide +kernel
theorem dX11_mend_42 : decode cX11_mend 42 = .ok (.istore 7, 2) := by decide +kernel
theorem dX11_mend_44 : decode cX11_mend 44 = .ok (.aload 6, 2) := by decide +kernel
theorem dX11_mend_46 : decode cX11_mend 46 = .ok (.iload 4, 2) := by decide +kernel
theorem dX11_mend_48 : decode cX11_mend 48 = .ok (.iload 5, 2) := by decide +kernel
theorem dX11_mend_50 : decode cX11_mend 50 = .ok (.sipush 255, 3) := by decide +kernel
theorem dX11_mend_53 : decode cX11_mend 53 = .ok (.iand, 1) := by decide +kernel
theorem dX11_mend_54 : decode cX11_mend 54 = .ok (.invokevirtual 202, 3) := by decide +kernel
theorem dX11_mend_57 : decode cX11_mend 57 = .ok (.iload 7, 2) := by decide +kernel
theorem dX11_mend_59 : decode cX11_mend 59 = .ok (.ireturn, 1) := by decide +kernel
theorem dX11_out_0 : decode cX11_out 0 = .ok (.aload_n 0, 1) := by decide +kernel
theorem dX11_out_1 : decode cX11_out 1 = .ok (.iload_n 1, 1) := by decide +kernel
theorem dX11_out_2 : decode cX11_out 2 = .ok (.iload_n 2, 1) := by decide +kernel
theorem dX11_out_3 : decode cX11_out 3 = .ok (.iload_n 3, 1) := by decide +kernel
theorem dX11_out_4 : decode cX11_out 4 = .ok (.invokevirtual 188, 3) := by decide +kernel
theorem dX11_out_7 : decode cX11_out 7 = .ok (.astore 5, 2) := by decide +kernel
theorem dX11_out_9 : decode cX11_out 9 = .ok (.aload 5, 2) := by decide +kernel
theorem dX11_out_11 : decode cX11_out 11 = .ok (.ifnull 13, 3) := by decide +kernel
theorem dX11_out_14 : decode cX11_out 14 = .ok (.aload 5, 2) := by decide +kernel
theorem dX11_out_16 : decode cX11_out 16 = .ok (.iload 4, 2) := by decide +kernel
theorem dX11_out_18 : decode cX11_out 18 = .ok (.invokevirtual 198, 3) := by decide +kernel
theorem dX11_out_21 : decode cX11_out 21 = .ok (.ifCond .ne 5, 3) := by decide +kernel
theorem dX11_out_24 : decode cX11_out 24 = .ok (.iconst (-1), 1) := by decide +kernel
theorem dX11_out_25 : decode cX11_out 25 = .ok (.ireturn, 1) := by decide +kernel
theorem dX11_out_26 : decode cX11_out 26 = .ok (.aload_n 0, 1) := by decide +kernel
theorem dX11_out_27 : decode cX11_out 27 = .ok (.iload_n 1, 1) := by decide +kernel
theorem dX11_out_28 : decode cX11_out 28 = .ok (.iload_n 2, 1) := by decide +kernel
theorem dX11_out_29 : decode cX11_out 29 = .ok (.iload_n 3, 1) := by decide +kernel
theorem dX11_out_30 : decode cX11_out 30 = .ok (.aload 5, 2) := by decide +kernel
theorem dX11_out_32 : decode cX11_out 32 = .ok (.invokevirtual 175, 3) := by decide +kernel
theorem dX11_out_35 : decode cX11_out 35 = .ok (.aload 5, 2) := by decide +kernel
theorem dX11_out_37 : decode cX11_out 37 = .ok (.iload 4, 2) := by decide +kernel
theorem dX11_out_39 : decode cX11_out 39 = .ok (.invokevirtual 201, 3) := by decide +kernel
theorem dX11_out_42 : decode cX11_out 42 = .ok (.istore 6, 2) := by decide +kernel
theorem dX11_out_44 : decode cX11_out 44 = .ok (.aload 5, 2) := by decide +kernel
theorem dX11_out_46 : decode cX11_out 46 = .ok (.iload 4, 2) := by decide +kernel
theorem dX11_out_48 : decode cX11_out 48 = .ok (.invokevirtual 205, 3) := by decide +kernel
theorem dX11_out_51 : decode cX11_out 51 = .ok (.iload 6, 2) := by decide +kernel
theorem dX11_out_53 : decode cX11_out 53 = .ok (.ireturn, 1) := by decide +kernel
theorem dX11_bowls_0 : decode cX11_bowls 0 = .ok (.aload_n 0, 1) := by decide +kernel
theorem dX11_bowls_1 : decode cX11_bowls 1 = .ok (.iload_n 1, 1) := by decide +kernel
theorem dX11_bowls_2 : decode cX11_bowls 2 = .ok (.iload_n 2, 1) := by decide +kernel
theorem dX11_bowls_3 : decode cX11_bowls 3 = .ok (.iload_n 3, 1) := by decide +kernel
theorem dX11_bowls_4 : decode cX11_bowls 4 = .ok (.invokevirtual 188, 3) := by decide +kernel
theorem dX11_bowls_7 : decode cX11_bowls 7 = .ok (.astore 5, 2) := by decide +kernel
theorem dX11_bowls_9 : decode cX11_bowls 9 = .ok (.aload 5, 2) := by decide +kernel
theorem dX11_bowls_11 : decode cX11_bowls 11 = .ok (.ifnonnull 5, 3) := by decide +kernel
theorem dX11_bowls_14 : decode cX11_bowls 14 = .ok (.iconst (-1), 1) := by decide +kernel
theorem dX11_bowls_15 : decode cX11_bowls 15 = .ok (.ireturn, 1) := by decide +kernel
theorem dX11_bowls_16 : decode cX11_bowls 16 = .ok (.aload_n 0, 1) := by decide +kernel
theorem dX11_bowls_17 : decode cX11_bowls 17 = .ok (.iload_n 1, 1) := by decide +kernel
theorem dX11_bowls_18 : decode cX11_bowls 18 = .ok (.iload_n 2, 1) := by decide +kernel
theorem dX11_bowls_19 : decode cX11_bowls 19 = .ok (.iload_n 3, 1) := by decide +kernel
theorem dX11_bowls_20 : decode cX11_bowls 20 = .ok (.aload 5, 2) := by decide +kernel
theorem dX11_bowls_22 : decode cX11_bowls 22 = .ok (.invokevirtual 175, 3) := by decide +kernel
theorem dX11_bowls_25 : decode cX11_bowls 25 = .ok (.aload 5, 2) := by decide +kernel
theorem dX11_bowls_27 : decode cX11_bowls 27 = .ok (.getfield 208, 3) := by decide +kernel
theorem dX11_bowls_30 : decode cX11_bowls 30 = .ok (.istore 6, 2) := by decide +kernel
theorem dX11_bowls_32 : decode cX11_bowls 32 = .ok (.aload 5, 2) := by decide +kernel
theorem dX11_bowls_34 : decode cX11_bowls 34 = .ok (.iload 4, 2) := by decide +kernel
theorem dX11_bowls_36 : decode cX11_bowls 36 = .ok (.bipush 15, 2) := by decide +kernel
theorem dX11_bowls_38 : decode cX11_bowls 38 = .ok (.iand, 1) := by decide +kernel
theorem dX11_bowls_39 : decode cX11_bowls 39 = .ok (.putfield 208, 3) := by decide +kernel
theorem dX11_bowls_42 : decode cX11_bowls 42 = .ok (.iload 6, 2) := by decide +kernel
theorem dX11_bowls_44 : decode cX11_bowls 44 = .ok (.ireturn, 1) := by decide +kernel
theorem dX11_undo_0 : decode cX11_undo 0 = .ok (.aload_n 0, 1) := by decide +kernel
theorem dX11_undo_1 : decode cX11_undo 1 = .ok (.getfield 35, 3) := by decide +kernel
theorem dX11_undo_4 : decode cX11_undo 4 = .ok (.invokevirtual 211, 3) := by decide +kernel
theorem dX11_undo_7 : decode cX11_undo 7 = .ok (.astore_n 1, 1) := by decide +kernel
theorem dX11_undo_8 : decode cX11_undo 8 = .ok (.aload_n 1, 1) := by decide +kernel
theorem dX11_undo_9 : decode cX11_undo 9 = .ok (.ifnonnull 5, 3) := by decide +kernel
theorem dX11_undo_12 : decode cX11_undo 12 = .ok (.iconst (-1), 1) := by decide +kernel
theorem dX11_undo_13 : decode cX11_undo 13 = .ok (.ireturn, 1) := by decide +kernel
theorem dX11_undo_14 : decode cX11_undo 14 = .ok (.aload_n 0, 1) := by decide +kernel
theorem dX11_undo_15 : decode cX11_undo 15 = .ok (.aload_n 1, 1) := by decide +kernel
theorem dX11_undo_16 : decode cX11_undo 16 = .ok (.getfield 215, 3) := by decide +kernel
theorem dX11_undo_19 : decode cX11_undo 19 = .ok (.invokevirtual 91, 3) := by decide +kernel
theorem dX11_undo_22 : decode cX11_undo 22 = .ok (.astore_n 2, 1) := by decide +kernel
theorem dX11_undo_23 : decode cX11_undo 23 = .ok (.aload_n 2, 1) := by decide +kernel
theorem dX11_undo_24 : decode cX11_undo 24 = .ok (.ifnonnull 5, 3) := by decide +kernel
theorem dX11_undo_27 : decode cX11_undo 27 = .ok (.iconst (-1), 1) := by decide +kernel
theorem dX11_undo_28 : decode cX11_undo 28 = .ok (.ireturn, 1) := by decide +kernel
theorem dX11_undo_29 : decode cX11_undo 29 = .ok (.aload_n 2, 1) := by decide +kernel
theorem dX11_undo_30 : decode cX11_undo 30 = .ok (.aload_n 1, 1) := by decide +kernel
theorem dX11_undo_31 : decode cX11_undo 31 = .ok (.invokevirtual 220, 3) := by decide +kernel
theorem dX11_undo_34 : decode cX11_undo 34 = .ok (.aload_n 0, 1) := by decide +kernel
theorem dX11_undo_35 : decode cX11_undo 35 = .ok (.invokevirtual 109, 3) := by decide +kernel
theorem dX11_undo_38 : decode cX11_undo 38 = .ok (.aload_n 1, 1) := by decide +kernel
theorem dX11_undo_39 : decode cX11_undo 39 = .ok (.getfield 215, 3) := by decide +kernel
theorem dX11_undo_42 : decode cX11_undo 42 = .ok (.ireturn, 1) := by decide +kernel
theorem dX11_why_0 : decode cX11_why 0 = .ok (.aload_n 0, 1) := by decide +kernel
theorem dX11_why_1 : decode cX11_why 1 = .ok (.getfield 64, 3) := by decide +kernel
theorem dX11_why_4 : decode cX11_why 4 = .ok (.ireturn, 1) := by decide +kernel
theorem dX11_now_0 : decode cX11_now 0 = .ok (.aload_n 0, 1) := by decide +kernel
theorem dX11_now_1 : decode cX11_now 1 = .ok (.iload_n 1, 1) := by decide +kernel
theorem dX11_now_2 : decode cX11_now 2 = .ok (.invokevirtual 91, 3) := by decide +kernel
theorem dX11_now_5 : decode cX11_now 5 = .ok (.astore_n 3, 1) := by decide +kernel
theorem dX11_now_6 : decode cX11_now 6 = .ok (.aload_n 3, 1) := by decide +kernel
theorem dX11_now_7 : decode cX11_now 7 = .ok (.ifnull 13, 3) := by decide +kernel
theorem dX11_now_10 : decode cX11_now 10 = .ok (.iload_n 2, 1) := by decide +kernel
theorem dX11_now_11 : decode cX11_now 11 = .ok (.ifCond .lt 9, 3) := by decide +kernel
theorem dX11_now_14 : decode cX11_now 14 = .ok (.iload_n 2, 1) := by decide +kernel
theorem dX11_now_15 : decode cX11_now 15 = .ok (.bipush 15, 2) := by decide +kernel
theorem dX11_now_17 : decode cX11_now 17 = .ok (.if_icmp .lt 13, 3) := by decide +kernel
theorem dX11_now_20 : decode cX11_now 20 = .ok (.new 224, 3) := by decide +kernel
theorem dX11_now_23 : decode cX11_now 23 = .ok (.dup, 1) := by decide +kernel
theorem dX11_now_24 : decode cX11_now 24 = .ok (.ldc 226, 2) := by decide +kernel
theorem dX11_now_26 : decode cX11_now 26 = .ok (.invokespecial 228, 3) := by decide +kernel
theorem dX11_now_29 : decode cX11_now 29 = .ok (.athrow, 1) := by decide +kernel
theorem dX11_now_30 : decode cX11_now 30 = .ok (.aload_n 0, 1) := by decide +kernel
theorem dX11_now_31 : decode cX11_now 31 = .ok (.iload_n 1, 1) := by decide +kernel
theorem dX11_now_32 : decode cX11_now 32 = .ok (.aload_n 3, 1) := by decide +kernel
theorem dX11_now_33 : decode cX11_now 33 = .ok (.invokevirtual 115, 3) := by decide +kernel
theorem dX11_now_36 : decode cX11_now 36 = .ok (.aload_n 0, 1) := by decide +kernel
theorem dX11_now_37 : decode cX11_now 37 = .ok (.getfield 42, 3) := by decide +kernel
theorem dX11_now_40 : decode cX11_now 40 = .ok (.iload_n 2, 1) := by decide +kernel
theorem dX11_now_41 : decode cX11_now 41 = .ok (.invokevirtual 231, 3) := by decide +kernel
theorem dX11_now_44 : decode cX11_now 44 = .ok (.ireturn, 1) := by decide +kernel
theorem dX11_score_0 : decode cX11_score 0 = .ok (.aload_n 0, 1) := by decide +kernel
theorem dX11_score_1 : decode cX11_score 1 = .ok (.iload_n 1, 1) := by decide +kernel
theorem dX11_score_2 : decode cX11_score 2 = .ok (.invokevirtual 91, 3) := by decide +kernel
theorem dX11_score_5 : decode cX11_score 5 = .ok (.astore 4, 2) := by decide +kernel
theorem dX11_score_7 : decode cX11_score 7 = .ok (.aload 4, 2) := by decide +kernel
theorem dX11_score_9 : decode cX11_score 9 = .ok (.ifnull 22, 3) := by decide +kernel
theorem dX11_score_12 : decode cX11_score 12 = .ok (.aload 4, 2) := by decide +kernel
theorem dX11_score_14 : decode cX11_score 14 = .ok (.iload_n 2, 1) := by decide +kernel
theorem dX11_score_15 : decode cX11_score 15 = .ok (.invokevirtual 140, 3) := by decide +kernel
theorem dX11_score_18 : decode cX11_score 18 = .ok (.ifnull 13, 3) := by decide +kernel
theorem dX11_score_21 : decode cX11_score 21 = .ok (.iload_n 3, 1) := by decide +kernel
theorem dX11_score_22 : decode cX11_score 22 = .ok (.ifCond .lt 9, 3) := by decide +kernel
theorem dX11_score_25 : decode cX11_score 25 = .ok (.iload_n 3, 1) := by decide +kernel
theorem dX11_score_26 : decode cX11_score 26 = .ok (.bipush 16, 2) := by decide +kernel
theorem dX11_score_28 : decode cX11_score 28 = .ok (.if_icmp .lt 13, 3) := by decide +kernel
theorem dX11_score_31 : decode cX11_score 31 = .ok (.new 224, 3) := by decide +kernel
theorem dX11_score_34 : decode cX11_score 34 = .ok (.dup, 1) := by decide +kernel
theorem dX11_score_35 : decode cX11_score 35 = .ok (.ldc 234, 2) := by decide +kernel
theorem dX11_score_37 : decode cX11_score 37 = .ok (.invokespecial 228, 3) := by decide +kernel
theorem dX11_score_40 : decode cX11_score 40 = .ok (.athrow, 1) := by decide +kernel
theorem dX11_score_41 : decode cX11_score 41 = .ok (.aload_n 0, 1) := by decide +kernel
theorem dX11_score_42 : decode cX11_score 42 = .ok (.iload_n 1, 1) := by decide +kernel
theorem dX11_score_43 : decode cX11_score 43 = .ok (.aload 4, 2) := by decide +kernel
theorem dX11_score_45 : decode cX11_score 45 = .ok (.invokevirtual 115, 3) := by decide +kernel
theorem dX11_score_48 : decode cX11_score 48 = .ok (.aload_n 0, 1) := by decide +kernel
theorem dX11_score_49 : decode cX11_score 49 = .ok (.aload 4, 2) := by decide +kernel
theorem dX11_score_51 : decode cX11_score 51 = .ok (.iload_n 2, 1) := by decide +kernel
theorem dX11_score_52 : decode cX11_score 52 = .ok (.iload_n 3, 1) := by decide +kernel
theorem dX11_score_53 : decode cX11_score 53 = .ok (.invokevirtual 236, 3) := by decide +kernel
theorem dX11_score_56 : decode cX11_score 56 = .ok (.ireturn, 1) := by decide +kernel
theorem dX11_overs_0 : decode cX11_overs 0 = .ok (.aload_n 0, 1) := by decide +kernel
theorem dX11_overs_1 : decode cX11_overs 1 = .ok (.iload_n 1, 1) := by decide +kernel
theorem dX11_overs_2 : decode cX11_overs 2 = .ok (.iload_n 2, 1) := by decide +kernel
theorem dX11_overs_3 : decode cX11_overs 3 = .ok (.iload_n 3, 1) := by decide +kernel
theorem dX11_overs_4 : decode cX11_overs 4 = .ok (.invokevirtual 188, 3) := by decide +kernel
theorem dX11_overs_7 : decode cX11_overs 7 = .ok (.astore 5, 2) := by decide +kernel
theorem dX11_overs_9 : decode cX11_overs 9 = .ok (.aload 5, 2) := by decide +kernel
theorem dX11_overs_11 : decode cX11_overs 11 = .ok (.ifnull 15, 3) := by decide +kernel
theorem dX11_overs_14 : decode cX11_overs 14 = .ok (.iload 4, 2) := by decide +kernel
theorem dX11_overs_16 : decode cX11_overs 16 = .ok (.ifCond .lt 10, 3) := by decide +kernel
theorem dX11_overs_19 : decode cX11_overs 19 = .ok (.iload 4, 2) := by decide +kernel
theorem dX11_overs_21 : decode cX11_overs 21 = .ok (.bipush 8, 2) := by decide +kernel
theorem dX11_overs_23 : decode cX11_overs 23 = .ok (.if_icmp .lt 13, 3) := by decide +kernel
theorem dX11_overs_26 : decode cX11_overs 26 = .ok (.new 224, 3) := by decide +kernel
theorem dX11_overs_29 : decode cX11_overs 29 = .ok (.dup, 1) := by decide +kernel
theorem dX11_overs_30 : decode cX11_overs 30 = .ok (.ldc 240, 2) := by decide +kernel
theorem dX11_overs_32 : decode cX11_overs 32 = .ok (.invokespecial 228, 3) := by decide +kernel
theorem dX11_overs_35 : decode cX11_overs 35 = .ok (.athrow, 1) := by decide +kernel
theorem dX11_overs_36 : decode cX11_overs 36 = .ok (.aload_n 0, 1) := by decide +kernel
theorem dX11_overs_37 : decode cX11_overs 37 = .ok (.iload_n 1, 1) := by decide +kernel
theorem dX11_overs_38 : decode cX11_overs 38 = .ok (.aload_n 0, 1) := by decide +kernel
theorem dX11_overs_39 : decode cX11_overs 39 = .ok (.iload_n 1, 1) := by decide +kernel
theorem dX11_overs_40 : decode cX11_overs 40 = .ok (.invokevirtual 91, 3) := by decide +kernel
theorem dX11_overs_43 : decode cX11_overs 43 = .ok (.invokevirtual 115, 3) := by decide +kernel
theorem dX11_overs_46 : decode cX11_overs 46 = .ok (.iload 4, 2) := by decide +kernel
theorem dX11_overs_48 : decode cX11_overs 48 = .ok (.lookupswitch 40 #[(0, 28), (1, 34)], 28) := by decide +kernel
theorem dX11_overs_76 : decode cX11_overs 76 = .ok (.aload 5, 2) := by decide +kernel
theorem dX11_overs_78 : decode cX11_overs 78 = .ok (.getfield 208, 3) := by decide +kernel
theorem dX11_overs_81 : decode cX11_overs 81 = .ok (.ireturn, 1) := by decide +kernel
theorem dX11_overs_82 : decode cX11_overs 82 = .ok (.aload 5, 2) := by decide +kernel
theorem dX11_overs_84 : decode cX11_overs 84 = .ok (.getfield 179, 3) := by decide +kernel
theorem dX11_overs_87 : decode cX11_overs 87 = .ok (.ireturn, 1) := by decide +kernel
theorem dX11_overs_88 : decode cX11_overs 88 = .ok (.aload_n 0, 1) := by decide +kernel
theorem dX11_overs_89 : decode cX11_overs 89 = .ok (.getfield 42, 3) := by decide +kernel
theorem dX11_overs_92 : decode cX11_overs 92 = .ok (.iload_n 2, 1) := by decide +kernel
theorem dX11_overs_93 : decode cX11_overs 93 = .ok (.invokevirtual 242, 3) := by decide +kernel
theorem dX11_overs_96 : decode cX11_overs 96 = .ok (.iload_n 3, 1) := by decide +kernel
theorem dX11_overs_97 : decode cX11_overs 97 = .ok (.iload 4, 2) := by decide +kernel
theorem dX11_overs_99 : decode cX11_overs 99 = .ok (.invokevirtual 246, 3) := by decide +kernel
theorem dX11_overs_102 : decode cX11_overs 102 = .ok (.ireturn, 1) := by decide +kernel
theorem dX11_entry_0 : decode cX11_entry 0 = .ok (.aload_n 0, 1) := by decide +kernel
theorem dX11_entry_1 : decode cX11_entry 1 = .ok (.iload_n 1, 1) := by decide +kernel
theorem dX11_entry_2 : decode cX11_entry 2 = .ok (.iload_n 2, 1) := by decide +kernel
theorem dX11_entry_3 : decode cX11_entry 3 = .ok (.iload_n 3, 1) := by decide +kernel
theorem dX11_entry_4 : decode cX11_entry 4 = .ok (.invokevirtual 188, 3) := by decide +kernel
theorem dX11_entry_7 : decode cX11_entry 7 = .ok (.astore 5, 2) := by decide +kernel
theorem dX11_entry_9 : decode cX11_entry 9 = .ok (.aload 5, 2) := by decide +kernel
theorem dX11_entry_11 : decode cX11_entry 11 = .ok (.ifnull 13, 3) := by decide +kernel
theorem dX11_entry_14 : decode cX11_entry 14 = .ok (.aload 5, 2) := by decide +kernel
theorem dX11_entry_16 : decode cX11_entry 16 = .ok (.iload 4, 2) := by decide +kernel
theorem dX11_entry_18 : decode cX11_entry 18 = .ok (.invokevirtual 198, 3) := by decide +kernel
theorem dX11_entry_21 : decode cX11_entry 21 = .ok (.ifCond .ne 13, 3) := by decide +kernel
theorem dX11_entry_24 : decode cX11_entry 24 = .ok (.new 224, 3) := by decide +kernel
theorem dX11_entry_27 : decode cX11_entry 27 = .ok (.dup, 1) := by decide +kernel
theorem dX11_entry_28 : decode cX11_entry 28 = .ok (.ldc 252, 2) := by decide +kernel
theorem dX11_entry_30 : decode cX11_entry 30 = .ok (.invokespecial 228, 3) := by decide +kernel
theorem dX11_entry_33 : decode cX11_entry 33 = .ok (.athrow, 1) := by decide +kernel
theorem dX11_entry_34 : decode cX11_entry 34 = .ok (.aload 5, 2) := by decide +kernel
theorem dX11_entry_36 : decode cX11_entry 36 = .ok (.iload 4, 2) := by decide +kernel
theorem dX11_entry_38 : decode cX11_entry 38 = .ok (.invokevirtual 201, 3) := by decide +kernel
theorem dX11_entry_41 : decode cX11_entry 41 = .ok (.ireturn, 1) := by decide +kernel
theorem dX11_bats_0 : decode cX11_bats 0 = .ok (.aload_n 0, 1) := by decide +kernel
theorem dX11_bats_1 : decode cX11_bats 1 = .ok (.iload_n 1, 1) := by decide +kernel
theorem dX11_bats_2 : decode cX11_bats 2 = .ok (.invokevirtual 91, 3) := by decide +kernel
theorem dX11_bats_5 : decode cX11_bats 5 = .ok (.astore 5, 2) := by decide +kernel
theorem dX11_bats_7 : decode cX11_bats 7 = .ok (.aload 5, 2) := by decide +kernel
theorem dX11_bats_9 : decode cX11_bats 9 = .ok (.ifnull 21, 3) := by decide +kernel
theorem dX11_bats_12 : decode cX11_bats 12 = .ok (.aload 5, 2) := by decide +kernel
theorem dX11_bats_14 : decode cX11_bats 14 = .ok (.iload_n 2, 1) := by decide +kernel
theorem dX11_bats_15 : decode cX11_bats 15 = .ok (.invokevirtual 140, 3) := by decide +kernel
theorem dX11_bats_18 : decode cX11_bats 18 = .ok (.ifnull 12, 3) := by decide +kernel
theorem dX11_bats_21 : decode cX11_bats 21 = .ok (.iload_n 3, 1) := by decide +kernel
theorem dX11_bats_22 : decode cX11_bats 22 = .ok (.iload 4, 2) := by decide +kernel
theorem dX11_bats_24 : decode cX11_bats 24 = .ok (.invokestatic 254, 3) := by decide +kernel
theorem dX11_bats_27 : decode cX11_bats 27 = .ok (.ifCond .ne 14, 3) := by decide +kernel
theorem dX11_bats_30 : decode cX11_bats 30 = .ok (.new 224, 3) := by decide +kernel
theorem dX11_bats_33 : decode cX11_bats 33 = .ok (.dup, 1) := by decide +kernel
theorem dX11_bats_34 : decode cX11_bats 34 = .ok (.ldc_w 258, 3) := by decide +kernel
theorem dX11_bats_37 : decode cX11_bats 37 = .ok (.invokespecial 228, 3) := by decide +kernel
theorem dX11_bats_40 : decode cX11_bats 40 = .ok (.athrow, 1) := by decide +kernel
theorem dX11_bats_41 : decode cX11_bats 41 = .ok (.aload_n 0, 1) := by decide +kernel
theorem dX11_bats_42 : decode cX11_bats 42 = .ok (.iload_n 1, 1) := by decide +kernel
theorem dX11_bats_43 : decode cX11_bats 43 = .ok (.aload 5, 2) := by decide +kernel
theorem dX11_bats_45 : decode cX11_bats 45 = .ok (.invokevirtual 115, 3) := by decide +kernel
theorem dX11_bats_48 : decode cX11_bats 48 = .ok (.aload_n 0, 1) := by decide +kernel
theorem dX11_bats_49 : decode cX11_bats 49 = .ok (.aload 5, 2) := by decide +kernel
theorem dX11_bats_51 : decode cX11_bats 51 = .ok (.iload_n 2, 1) := by decide +kernel
theorem dX11_bats_52 : decode cX11_bats 52 = .ok (.iload_n 3, 1) := by decide +kernel
theorem dX11_bats_53 : decode cX11_bats 53 = .ok (.iload 4, 2) := by decide +kernel
theorem dX11_bats_55 : decode cX11_bats 55 = .ok (.invokevirtual 260, 3) := by decide +kernel
theorem dX11_bats_58 : decode cX11_bats 58 = .ok (.ireturn, 1) := by decide +kernel
theorem dX11_fields_0 : decode cX11_fields 0 = .ok (.aload_n 0, 1) := by decide +kernel
theorem dX11_fields_1 : decode cX11_fields 1 = .ok (.iload_n 1, 1) := by decide +kernel
theorem dX11_fields_2 : decode cX11_fields 2 = .ok (.invokevirtual 91, 3) := by decide +kernel
theorem dX11_fields_5 : decode cX11_fields 5 = .ok (.astore 5, 2) := by decide +kernel
theorem dX11_fields_7 : decode cX11_fields 7 = .ok (.aload 5, 2) := by decide +kernel
theorem dX11_fields_9 : decode cX11_fields 9 = .ok (.ifnull 21, 3) := by decide +kernel
theorem dX11_fields_12 : decode cX11_fields 12 = .ok (.aload 5, 2) := by decide +kernel
theorem dX11_fields_14 : decode cX11_fields 14 = .ok (.iload_n 2, 1) := by decide +kernel
theorem dX11_fields_15 : decode cX11_fields 15 = .ok (.invokevirtual 140, 3) := by decide +kernel
theorem dX11_fields_18 : decode cX11_fields 18 = .ok (.ifnull 12, 3) := by decide +kernel
theorem dX11_fields_21 : decode cX11_fields 21 = .ok (.iload_n 3, 1) := by decide +kernel
theorem dX11_fields_22 : decode cX11_fields 22 = .ok (.iload 4, 2) := by decide +kernel
theorem dX11_fields_24 : decode cX11_fields 24 = .ok (.invokestatic 254, 3) := by decide +kernel
theorem dX11_fields_27 : decode cX11_fields 27 = .ok (.ifCond .ne 14, 3) := by decide +kernel
theorem dX11_fields_30 : decode cX11_fields 30 = .ok (.new 224, 3) := by decide +kernel
theorem dX11_fields_33 : decode cX11_fields 33 = .ok (.dup, 1) := by decide +kernel
theorem dX11_fields_34 : decode cX11_fields 34 = .ok (.ldc_w 258, 3) := by decide +kernel
theorem dX11_fields_37 : decode cX11_fields 37 = .ok (.invokespecial 228, 3) := by decide +kernel
theorem dX11_fields_40 : decode cX11_fields 40 = .ok (.athrow, 1) := by decide +kernel
theorem dX11_fields_41 : decode cX11_fields 41 = .ok (.aload_n 0, 1) := by decide +kernel
theorem dX11_fields_42 : decode cX11_fields 42 = .ok (.iload_n 1, 1) := by decide +kernel
theorem dX11_fields_43 : decode cX11_fields 43 = .ok (.aload 5, 2) := by decide +kernel
theorem dX11_fields_45 : decode cX11_fields 45 = .ok (.invokevirtual 115, 3) := by decide +kernel
theorem dX11_fields_48 : decode cX11_fields 48 = .ok (.aload_n 0, 1) := by decide +kernel
theorem dX11_fields_49 : decode cX11_fields 49 = .ok (.aload 5, 2) := by decide +kernel
theorem dX11_fields_51 : decode cX11_fields 51 = .ok (.iload_n 2, 1) := by decide +kernel
theorem dX11_fields_52 : decode cX11_fields 52 = .ok (.iload_n 3, 1) := by decide +kernel
theorem dX11_fields_53 : decode cX11_fields 53 = .ok (.iload 4, 2) := by decide +kernel
theorem dX11_fields_55 : decode cX11_fields 55 = .ok (.invokevirtual 264, 3) := by decide +kernel
theorem dX11_fields_58 : decode cX11_fields 58 = .ok (.ireturn, 1) := by decide +kernel
theorem dX11_record_0 : decode cX11_record 0 = .ok (.iload_n 1, 1) := by decide +kernel
theorem dX11_record_1 : decode cX11_record 1 = .ok (.ifCond .lt 18, 3) := by decide +kernel
theorem dX11_record_4 : decode cX11_record 4 = .ok (.iload_n 1, 1) := by decide +kernel
theorem dX11_record_5 : decode cX11_record 5 = .ok (.iconst 4, 1) := by decide +kernel
theorem dX11_record_6 : decode cX11_record 6 = .ok (.if_icmp .ge 13, 3) := by decide +kernel
theorem dX11_record_9 : decode cX11_record 9 = .ok (.iload_n 2, 1) := by decide +kernel
theorem dX11_record_10 : decode cX11_record 10 = .ok (.ifCond .lt 9, 3) := by decide +kernel
theorem dX11_record_13 : decode cX11_record 13 = .ok (.iload_n 2, 1) := by decide +kernel
theorem dX11_record_14 : decode cX11_record 14 = .ok (.bipush 6, 2) := by decide +kernel
theorem dX11_record_16 : decode cX11_record 16 = .ok (.if_icmp .lt 14, 3) := by decide +kernel
theorem dX11_record_19 : decode cX11_record 19 = .ok (.new 224, 3) := by decide +kernel
theorem dX11_record_22 : decode cX11_record 22 = .ok (.dup, 1) := by decide +kernel
theorem dX11_record_23 : decode cX11_record 23 = .ok (.ldc_w 267, 3) := by decide +kernel
theorem dX11_record_26 : decode cX11_record 26 = .ok (.invokespecial 228, 3) := by decide +kernel
theorem dX11_record_29 : decode cX11_record 29 = .ok (.athrow, 1) := by decide +kernel
theorem dX11_record_30 : decode cX11_record 30 = .ok (.aload_n 0, 1) := by decide +kernel
theorem dX11_record_31 : decode cX11_record 31 = .ok (.getfield 70, 3) := by decide +kernel
theorem dX11_record_34 : decode cX11_record 34 = .ok (.ifCond .eq 7, 3) := by decide +kernel
theorem dX11_record_37 : decode cX11_record 37 = .ok (.aload_n 0, 1) := by decide +kernel
theorem dX11_record_38 : decode cX11_record 38 = .ok (.invokevirtual 269, 3) := by decide +kernel
theorem dX11_record_41 : decode cX11_record 41 = .ok (.aload_n 0, 1) := by decide +kernel
theorem dX11_record_42 : decode cX11_record 42 = .ok (.getfield 49, 3) := by decide +kernel
theorem dX11_record_45 : decode cX11_record 45 = .ok (.getfield 272, 3) := by decide +kernel
theorem dX11_record_48 : decode cX11_record 48 = .ok (.iload_n 1, 1) := by decide +kernel
theorem dX11_record_49 : decode cX11_record 49 = .ok (.iload_n 2, 1) := by decide +kernel
theorem dX11_record_50 : decode cX11_record 50 = .ok (.invokevirtual 276, 3) := by decide +kernel
theorem dX11_record_53 : decode cX11_record 53 = .ok (.ireturn, 1) := by decide +kernel
theorem dX11_image_0 : decode cX11_image 0 = .ok (.aload_n 0, 1) := by decide +kernel
theorem dX11_image_1 : decode cX11_image 1 = .ok (.iload_n 1, 1) := by decide +kernel
theorem dX11_image_2 : decode cX11_image 2 = .ok (.invokevirtual 91, 3) := by decide +kernel
theorem dX11_image_5 : decode cX11_image 5 = .ok (.astore_n 2, 1) := by decide +kernel
theorem dX11_image_6 : decode cX11_image 6 = .ok (.aload_n 2, 1) := by decide +kernel
theorem dX11_image_7 : decode cX11_image 7 = .ok (.ifnonnull 5, 3) := by decide +kernel
theorem dX11_image_10 : decode cX11_image 10 = .ok (.iconst (-1), 1) := by decide +kernel
theorem dX11_image_11 : decode cX11_image 11 = .ok (.ireturn, 1) := by decide +kernel
theorem dX11_image_12 : decode cX11_image 12 = .ok (.aload_n 0, 1) := by decide +kernel
theorem dX11_image_13 : decode cX11_image 13 = .ok (.getfield 29, 3) := by decide +kernel
theorem dX11_image_16 : decode cX11_image 16 = .ok (.invokevirtual 195, 3) := by decide +kernel
theorem dX11_image_19 : decode cX11_image 19 = .ok (.aload_n 2, 1) := by decide +kernel
theorem dX11_image_20 : decode cX11_image 20 = .ok (.invokevirtual 280, 3) := by decide +kernel
theorem dX11_image_23 : decode cX11_image 23 = .ok (.sipush 8000, 3) := by decide +kernel
theorem dX11_image_26 : decode cX11_image 26 = .ok (.if_icmp .le 5, 3) := by decide +kernel
theorem dX11_image_29 : decode cX11_image 29 = .ok (.iconst (-1), 1) := by decide +kernel
theorem dX11_image_30 : decode cX11_image 30 = .ok (.ireturn, 1) := by decide +kernel
theorem dX11_image_31 : decode cX11_image 31 = .ok (.aload_n 0, 1) := by decide +kernel
theorem dX11_image_32 : decode cX11_image 32 = .ok (.iload_n 1, 1) := by decide +kernel
theorem dX11_image_33 : decode cX11_image 33 = .ok (.aload_n 2, 1) := by decide +kernel
theorem dX11_image_34 : decode cX11_image 34 = .ok (.invokevirtual 115, 3) := by decide +kernel
theorem dX11_image_37 : decode cX11_image 37 = .ok (.aload_n 0, 1) := by decide +kernel
theorem dX11_image_38 : decode cX11_image 38 = .ok (.aload_n 2, 1) := by decide +kernel
theorem dX11_image_39 : decode cX11_image 39 = .ok (.invokevirtual 283, 3) := by decide +kernel
theorem dX11_image_42 : decode cX11_image 42 = .ok (.iconst 0, 1) := by decide +kernel
theorem dX11_image_43 : decode cX11_image 43 = .ok (.istore_n 3, 1) := by decide +kernel
theorem dX11_image_44 : decode cX11_image 44 = .ok (.iload_n 3, 1) := by decide +kernel
theorem dX11_image_45 : decode cX11_image 45 = .ok (.aload_n 2, 1) := by decide +kernel
theorem dX11_image_46 : decode cX11_image 46 = .ok (.invokevirtual 102, 3) := by decide +kernel
theorem dX11_image_49 : decode cX11_image 49 = .ok (.if_icmp .ge 15, 3) := by decide +kernel
theorem dX11_image_52 : decode cX11_image 52 = .ok (.aload_n 0, 1) := by decide +kernel
theorem dX11_image_53 : decode cX11_image 53 = .ok (.aload_n 2, 1) := by decide +kernel
theorem dX11_image_54 : decode cX11_image 54 = .ok (.iload_n 3, 1) := by decide +kernel
theorem dX11_image_55 : decode cX11_image 55 = .ok (.invokevirtual 287, 3) := by decide +kernel
theorem dX11_image_58 : decode cX11_image 58 = .ok (.iinc 3 1, 3) := by decide +kernel
theorem dX11_image_61 : decode cX11_image 61 = .ok (.goto (-17), 3) := by decide +kernel
theorem dX11_image_64 : decode cX11_image 64 = .ok (.aload_n 0, 1) := by decide +kernel
theorem dX11_image_65 : decode cX11_image 65 = .ok (.getfield 29, 3) := by decide +kernel
theorem dX11_image_68 : decode cX11_image 68 = .ok (.getfield 184, 3) := by decide +kernel
theorem dX11_image_71 : decode cX11_image 71 = .ok (.ireturn, 1) := by decide +kernel
theorem dX11_told_0 : decode cX11_told 0 = .ok (.iload_n 1, 1) := by decide +kernel
theorem dX11_told_1 : decode cX11_told 1 = .ok (.ifCond .lt 14, 3) := by decide +kernel
theorem dX11_told_4 : decode cX11_told 4 = .ok (.iload_n 1, 1) := by decide +kernel
theorem dX11_told_5 : decode cX11_told 5 = .ok (.aload_n 0, 1) := by decide +kernel
theorem dX11_told_6 : decode cX11_told 6 = .ok (.getfield 29, 3) := by decide +kernel
theorem dX11_told_9 : decode cX11_told 9 = .ok (.getfield 184, 3) := by decide +kernel
theorem dX11_told_12 : decode cX11_told 12 = .ok (.if_icmp .lt 14, 3) := by decide +kernel
theorem dX11_told_15 : decode cX11_told 15 = .ok (.new 224, 3) := by decide +kernel
theorem dX11_told_18 : decode cX11_told 18 = .ok (.dup, 1) := by decide +kernel
theorem dX11_told_19 : decode cX11_told 19 = .ok (.ldc_w 291, 3) := by decide +kernel
theorem dX11_told_22 : decode cX11_told 22 = .ok (.invokespecial 228, 3) := by decide +kernel
theorem dX11_told_25 : decode cX11_told 25 = .ok (.athrow, 1) := by decide +kernel
theorem dX11_told_26 : decode cX11_told 26 = .ok (.aload_n 0, 1) := by decide +kernel
theorem dX11_told_27 : decode cX11_told 27 = .ok (.getfield 29, 3) := by decide +kernel
theorem dX11_told_30 : decode cX11_told 30 = .ok (.iload_n 1, 1) := by decide +kernel
theorem dX11_told_31 : decode cX11_told 31 = .ok (.invokevirtual 192, 3) := by decide +kernel
theorem dX11_told_34 : decode cX11_told 34 = .ok (.ireturn, 1) := by decide +kernel
theorem dX11_check_0 : decode cX11_check 0 = .ok (.iload_n 1, 1) := by decide +kernel
theorem dX11_check_1 : decode cX11_check 1 = .ok (.ifCond .lt 14, 3) := by decide +kernel
theorem dX11_check_4 : decode cX11_check 4 = .ok (.iload_n 1, 1) := by decide +kernel
theorem dX11_check_5 : decode cX11_check 5 = .ok (.aload_n 0, 1) := by decide +kernel
theorem dX11_check_6 : decode cX11_check 6 = .ok (.getfield 25, 3) := by decide +kernel
theorem dX11_check_9 : decode cX11_check 9 = .ok (.getfield 184, 3) := by decide +kernel
theorem dX11_check_12 : decode cX11_check 12 = .ok (.if_icmp .le 5, 3) := by decide +kernel
theorem dX11_check_15 : decode cX11_check 15 = .ok (.iconst (-1), 1) := by decide +kernel
theorem dX11_check_16 : decode cX11_check 16 = .ok (.ireturn, 1) := by decide +kernel
theorem dX11_check_17 : decode cX11_check 17 = .ok (.aload_n 0, 1) := by decide +kernel
theorem dX11_check_18 : decode cX11_check 18 = .ok (.iload_n 1, 1) := by decide +kernel
theorem dX11_check_19 : decode cX11_check 19 = .ok (.invokevirtual 293, 3) := by decide +kernel
theorem dX11_check_22 : decode cX11_check 22 = .ok (.pop, 1) := by decide +kernel
theorem dX11_check_23 : decode cX11_check 23 = .ok (.aload_n 0, 1) := by decide +kernel
theorem dX11_check_24 : decode cX11_check 24 = .ok (.getfield 56, 3) := by decide +kernel
theorem dX11_check_27 : decode cX11_check 27 = .ok (.getfield 296, 3) := by decide +kernel
theorem dX11_check_30 : decode cX11_check 30 = .ok (.iconst 1, 1) := by decide +kernel
theorem dX11_check_31 : decode cX11_check 31 = .ok (.iadd, 1) := by decide +kernel
theorem dX11_check_32 : decode cX11_check 32 = .ok (.ireturn, 1) := by decide +kernel
theorem dX11_take_0 : decode cX11_take 0 = .ok (.iload_n 1, 1) := by decide +kernel
theorem dX11_take_1 : decode cX11_take 1 = .ok (.ifCond .lt 27, 3) := by decide +kernel
theorem dX11_take_4 : decode cX11_take 4 = .ok (.iload_n 1, 1) := by decide +kernel
theorem dX11_take_5 : decode cX11_take 5 = .ok (.aload_n 0, 1) := by decide +kernel
theorem dX11_take_6 : decode cX11_take 6 = .ok (.getfield 25, 3) := by decide +kernel
theorem dX11_take_9 : decode cX11_take 9 = .ok (.getfield 184, 3) := by decide +kernel
theorem dX11_take_12 : decode cX11_take 12 = .ok (.if_icmp .gt 16, 3) := by decide +kernel
theorem dX11_take_15 : decode cX11_take 15 = .ok (.aload_n 0, 1) := by decide +kernel
theorem dX11_take_16 : decode cX11_take 16 = .ok (.getfield 16, 3) := by decide +kernel
theorem dX11_take_19 : decode cX11_take 19 = .ok (.invokevirtual 78, 3) := by decide +kernel
theorem dX11_take_22 : decode cX11_take 22 = .ok (.sipush 400, 3) := by decide +kernel
theorem dX11_take_25 : decode cX11_take 25 = .ok (.if_icmp .lt 5, 3) := by decide +kernel
theorem dX11_take_28 : decode cX11_take 28 = .ok (.iconst (-1), 1) := by decide +kernel
theorem dX11_take_29 : decode cX11_take 29 = .ok (.ireturn, 1) := by decide +kernel
theorem dX11_take_30 : decode cX11_take 30 = .ok (.aload_n 0, 1) := by decide +kernel
theorem dX11_take_31 : decode cX11_take 31 = .ok (.iload_n 1, 1) := by decide +kernel
theorem dX11_take_32 : decode cX11_take 32 = .ok (.invokevirtual 293, 3) := by decide +kernel
theorem dX11_take_35 : decode cX11_take 35 = .ok (.astore_n 2, 1) := by decide +kernel
theorem dX11_take_36 : decode cX11_take 36 = .ok (.aload_n 0, 1) := by decide +kernel
theorem dX11_take_37 : decode cX11_take 37 = .ok (.getfield 56, 3) := by decide +kernel
theorem dX11_take_40 : decode cX11_take 40 = .ok (.invokevirtual 299, 3) := by decide +kernel
theorem dX11_take_43 : decode cX11_take 43 = .ok (.ifCond .eq 11, 3) := by decide +kernel
theorem dX11_take_46 : decode cX11_take 46 = .ok (.aload_n 0, 1) := by decide +kernel
theorem dX11_take_47 : decode cX11_take 47 = .ok (.aload_n 2, 1) := by decide +kernel
theorem dX11_take_48 : decode cX11_take 48 = .ok (.invokevirtual 87, 3) := by decide +kernel
theorem dX11_take_51 : decode cX11_take 51 = .ok (.goto 13, 3) := by decide +kernel
theorem dX11_take_54 : decode cX11_take 54 = .ok (.bipush (-2), 2) := by decide +kernel
theorem dX11_take_56 : decode cX11_take 56 = .ok (.aload_n 0, 1) := by decide +kernel
theorem dX11_take_57 : decode cX11_take 57 = .ok (.getfield 56, 3) := by decide +kernel
theorem dX11_take_60 : decode cX11_take 60 = .ok (.getfield 296, 3) := by decide +kernel
theorem dX11_take_63 : decode cX11_take 63 = .ok (.isub, 1) := by decide +kernel
theorem dX11_take_64 : decode cX11_take 64 = .ok (.ireturn, 1) := by decide +kernel
theorem dX11_list_0 : decode cX11_list 0 = .ok (.iload_n 1, 1) := by decide +kernel
theorem dX11_list_1 : decode cX11_list 1 = .ok (.tableswitch 72 0 4 #[35, 40, 48, 56, 64], 35) := by decide +kernel
theorem dX11_list_36 : decode cX11_list 36 = .ok (.aload_n 0, 1) := by decide +kernel
theorem dX11_list_37 : decode cX11_list 37 = .ok (.getfield 60, 3) := by decide +kernel
theorem dX11_list_40 : decode cX11_list 40 = .ok (.ireturn, 1) := by decide +kernel
theorem dX11_list_41 : decode cX11_list 41 = .ok (.aload_n 0, 1) := by decide +kernel
theorem dX11_list_42 : decode cX11_list 42 = .ok (.getfield 16, 3) := by decide +kernel
theorem dX11_list_45 : decode cX11_list 45 = .ok (.invokevirtual 78, 3) := by decide +kernel
theorem dX11_list_48 : decode cX11_list 48 = .ok (.ireturn, 1) := by decide +kernel
theorem dX11_list_49 : decode cX11_list 49 = .ok (.aload_n 0, 1) := by decide +kernel
theorem dX11_list_50 : decode cX11_list 50 = .ok (.getfield 25, 3) := by decide +kernel
theorem dX11_list_53 : decode cX11_list 53 = .ok (.getfield 184, 3) := by decide +kernel
theorem dX11_list_56 : decode cX11_list 56 = .ok (.ireturn, 1) := by decide +kernel
theorem dX11_list_57 : decode cX11_list 57 = .ok (.aload_n 0, 1) := by decide +kernel
theorem dX11_list_58 : decode cX11_list 58 = .ok (.getfield 35, 3) := by decide +kernel
theorem dX11_list_61 : decode cX11_list 61 = .ok (.getfield 302, 3) := by decide +kernel
theorem dX11_list_64 : decode cX11_list 64 = .ok (.ireturn, 1) := by decide +kernel
theorem dX11_list_65 : decode cX11_list 65 = .ok (.aload_n 0, 1) := by decide +kernel
theorem dX11_list_66 : decode cX11_list 66 = .ok (.getfield 29, 3) := by decide +kernel
theorem dX11_list_69 : decode cX11_list 69 = .ok (.getfield 184, 3) := by decide +kernel
theorem dX11_list_72 : decode cX11_list 72 = .ok (.ireturn, 1) := by decide +kernel
theorem dX11_list_73 : decode cX11_list 73 = .ok (.iload_n 1, 1) := by decide +kernel
theorem dX11_list_74 : decode cX11_list 74 = .ok (.ifCond .lt 13, 3) := by decide +kernel
theorem dX11_list_77 : decode cX11_list 77 = .ok (.aload_n 0, 1) := by decide +kernel
theorem dX11_list_78 : decode cX11_list 78 = .ok (.iload_n 1, 1) := by decide +kernel
theorem dX11_list_79 : decode cX11_list 79 = .ok (.iconst 5, 1) := by decide +kernel
theorem dX11_list_80 : decode cX11_list 80 = .ok (.isub, 1) := by decide +kernel
theorem dX11_list_81 : decode cX11_list 81 = .ok (.invokevirtual 74, 3) := by decide +kernel
theorem dX11_list_84 : decode cX11_list 84 = .ok (.ifCond .ne 14, 3) := by decide +kernel
theorem dX11_list_87 : decode cX11_list 87 = .ok (.new 224, 3) := by decide +kernel
theorem dX11_list_90 : decode cX11_list 90 = .ok (.dup, 1) := by decide +kernel
theorem dX11_list_91 : decode cX11_list 91 = .ok (.ldc_w 305, 3) := by decide +kernel
theorem dX11_list_94 : decode cX11_list 94 = .ok (.invokespecial 228, 3) := by decide +kernel
theorem dX11_list_97 : decode cX11_list 97 = .ok (.athrow, 1) := by decide +kernel
theorem dX11_list_98 : decode cX11_list 98 = .ok (.aload_n 0, 1) := by decide +kernel
theorem dX11_list_99 : decode cX11_list 99 = .ok (.iload_n 1, 1) := by decide +kernel
theorem dX11_list_100 : decode cX11_list 100 = .ok (.iconst 5, 1) := by decide +kernel
theorem dX11_list_101 : decode cX11_list 101 = .ok (.isub, 1) := by decide +kernel
theorem dX11_list_102 : decode cX11_list 102 = .ok (.invokevirtual 99, 3) := by decide +kernel
theorem dX11_list_105 : decode cX11_list 105 = .ok (.ireturn, 1) := by decide +kernel
theorem dX11_sum_0 : decode cX11_sum 0 = .ok (.aload_n 0, 1) := by decide +kernel
theorem dX11_sum_1 : decode cX11_sum 1 = .ok (.iload_n 1, 1) := by decide +kernel
theorem dX11_sum_2 : decode cX11_sum 2 = .ok (.invokevirtual 91, 3) := by decide +kernel
theorem dX11_sum_5 : decode cX11_sum 5 = .ok (.astore_n 2, 1) := by decide +kernel
theorem dX11_sum_6 : decode cX11_sum 6 = .ok (.aload_n 2, 1) := by decide +kernel
theorem dX11_sum_7 : decode cX11_sum 7 = .ok (.ifnonnull 14, 3) := by decide +kernel
theorem dX11_sum_10 : decode cX11_sum 10 = .ok (.new 224, 3) := by decide +kernel
theorem dX11_sum_13 : decode cX11_sum 13 = .ok (.dup, 1) := by decide +kernel
theorem dX11_sum_14 : decode cX11_sum 14 = .ok (.ldc_w 307, 3) := by decide +kernel
theorem dX11_sum_17 : decode cX11_sum 17 = .ok (.invokespecial 228, 3) := by decide +kernel
theorem dX11_sum_20 : decode cX11_sum 20 = .ok (.athrow, 1) := by decide +kernel
theorem dX11_sum_21 : decode cX11_sum 21 = .ok (.aload_n 0, 1) := by decide +kernel
theorem dX11_sum_22 : decode cX11_sum 22 = .ok (.iload_n 1, 1) := by decide +kernel
theorem dX11_sum_23 : decode cX11_sum 23 = .ok (.aload_n 2, 1) := by decide +kernel
theorem dX11_sum_24 : decode cX11_sum 24 = .ok (.invokevirtual 115, 3) := by decide +kernel
theorem dX11_sum_27 : decode cX11_sum 27 = .ok (.lconst 0, 1) := by decide +kernel
theorem dX11_sum_28 : decode cX11_sum 28 = .ok (.lstore_n 3, 1) := by decide +kernel
theorem dX11_sum_29 : decode cX11_sum 29 = .ok (.iconst 0, 1) := by decide +kernel
theorem dX11_sum_30 : decode cX11_sum 30 = .ok (.istore 5, 2) := by decide +kernel
theorem dX11_sum_32 : decode cX11_sum 32 = .ok (.iload 5, 2) := by decide +kernel
theorem dX11_sum_34 : decode cX11_sum 34 = .ok (.bipush 15, 2) := by decide +kernel
theorem dX11_sum_36 : decode cX11_sum 36 = .ok (.if_icmp .ge 26, 3) := by decide +kernel
theorem dX11_sum_39 : decode cX11_sum 39 = .ok (.ldc2_w 309, 3) := by decide +kernel
theorem dX11_sum_42 : decode cX11_sum 42 = .ok (.lload_n 3, 1) := by decide +kernel
theorem dX11_sum_43 : decode cX11_sum 43 = .ok (.lmul, 1) := by decide +kernel
theorem dX11_sum_44 : decode cX11_sum 44 = .ok (.aload_n 0, 1) := by decide +kernel
theorem dX11_sum_45 : decode cX11_sum 45 = .ok (.getfield 42, 3) := by decide +kernel
theorem dX11_sum_48 : decode cX11_sum 48 = .ok (.iload 5, 2) := by decide +kernel
theorem dX11_sum_50 : decode cX11_sum 50 = .ok (.invokevirtual 231, 3) := by decide +kernel
theorem dX11_sum_53 : decode cX11_sum 53 = .ok (.i2l, 1) := by decide +kernel
theorem dX11_sum_54 : decode cX11_sum 54 = .ok (.ladd, 1) := by decide +kernel
theorem dX11_sum_55 : decode cX11_sum 55 = .ok (.lstore_n 3, 1) := by decide +kernel
theorem dX11_sum_56 : decode cX11_sum 56 = .ok (.iinc 5 1, 3) := by decide +kernel
theorem dX11_sum_59 : decode cX11_sum 59 = .ok (.goto (-27), 3) := by decide +kernel
theorem dX11_sum_62 : decode cX11_sum 62 = .ok (.iconst 0, 1) := by decide +kernel
theorem dX11_sum_63 : decode cX11_sum 63 = .ok (.istore 5, 2) := by decide +kernel
theorem dX11_sum_65 : decode cX11_sum 65 = .ok (.iload 5, 2) := by decide +kernel
theorem dX11_sum_67 : decode cX11_sum 67 = .ok (.aload_n 2, 1) := by decide +kernel
theorem dX11_sum_68 : decode cX11_sum 68 = .ok (.invokevirtual 102, 3) := by decide +kernel
theorem dX11_sum_71 : decode cX11_sum 71 = .ok (.if_icmp .ge 18, 3) := by decide +kernel
theorem dX11_sum_74 : decode cX11_sum 74 = .ok (.aload_n 0, 1) := by decide +kernel
theorem dX11_sum_75 : decode cX11_sum 75 = .ok (.lload_n 3, 1) := by decide +kernel
theorem dX11_sum_76 : decode cX11_sum 76 = .ok (.aload_n 2, 1) := by decide +kernel
theorem dX11_sum_77 : decode cX11_sum 77 = .ok (.iload 5, 2) := by decide +kernel
theorem dX11_sum_79 : decode cX11_sum 79 = .ok (.invokevirtual 311, 3) := by decide +kernel
theorem dX11_sum_82 : decode cX11_sum 82 = .ok (.lstore_n 3, 1) := by decide +kernel
theorem dX11_sum_83 : decode cX11_sum 83 = .ok (.iinc 5 1, 3) := by decide +kernel
theorem dX11_sum_86 : decode cX11_sum 86 = .ok (.goto (-21), 3) := by decide +kernel
theorem dX11_sum_89 : decode cX11_sum 89 = .ok (.lload_n 3, 1) := by decide +kernel
theorem dX11_sum_90 : decode cX11_sum 90 = .ok (.lreturn, 1) := by decide +kernel
theorem dX11_hasSide_0 : decode cX11_hasSide 0 = .ok (.iload_n 1, 1) := by decide +kernel
theorem dX11_hasSide_1 : decode cX11_hasSide 1 = .ok (.ifCond .lt 21, 3) := by decide +kernel
theorem dX11_hasSide_4 : decode cX11_hasSide 4 = .ok (.iload_n 1, 1) := by decide +kernel
theorem dX11_hasSide_5 : decode cX11_hasSide 5 = .ok (.aload_n 0, 1) := by decide +kernel
theorem dX11_hasSide_6 : decode cX11_hasSide 6 = .ok (.getfield 60, 3) := by decide +kernel
theorem dX11_hasSide_9 : decode cX11_hasSide 9 = .ok (.if_icmp .ge 13, 3) := by decide +kernel
theorem dX11_hasSide_12 : decode cX11_hasSide 12 = .ok (.iload_n 1, 1) := by decide +kernel
theorem dX11_hasSide_13 : decode cX11_hasSide 13 = .ok (.bipush 60, 2) := by decide +kernel
theorem dX11_hasSide_15 : decode cX11_hasSide 15 = .ok (.if_icmp .ge 7, 3) := by decide +kernel
theorem dX11_hasSide_18 : decode cX11_hasSide 18 = .ok (.iconst 1, 1) := by decide +kernel
theorem dX11_hasSide_19 : decode cX11_hasSide 19 = .ok (.goto 4, 3) := by decide +kernel
theorem dX11_hasSide_22 : decode cX11_hasSide 22 = .ok (.iconst 0, 1) := by decide +kernel
theorem dX11_hasSide_23 : decode cX11_hasSide 23 = .ok (.ireturn, 1) := by decide +kernel
theorem dX11_playersOf_0 : decode cX11_playersOf 0 = .ok (.aload_n 0, 1) := by decide +kernel
theorem dX11_playersOf_1 : decode cX11_playersOf 1 = .ok (.iload_n 1, 1) := by decide +kernel
theorem dX11_playersOf_2 : decode cX11_playersOf 2 = .ok (.invokevirtual 74, 3) := by decide +kernel
theorem dX11_playersOf_5 : decode cX11_playersOf 5 = .ok (.ifCond .eq 12, 3) := by decide +kernel
theorem dX11_playersOf_8 : decode cX11_playersOf 8 = .ok (.aload_n 0, 1) := by decide +kernel
theorem dX11_playersOf_9 : decode cX11_playersOf 9 = .ok (.getfield 9, 3) := by decide +kernel
theorem dX11_playersOf_12 : decode cX11_playersOf 12 = .ok (.iload_n 1, 1) := by decide +kernel
theorem dX11_playersOf_13 : decode cX11_playersOf 13 = .ok (.iaload, 1) := by decide +kernel
theorem dX11_playersOf_14 : decode cX11_playersOf 14 = .ok (.goto 4, 3) := by decide +kernel
theorem dX11_playersOf_17 : decode cX11_playersOf 17 = .ok (.iconst 0, 1) := by decide +kernel
theorem dX11_playersOf_18 : decode cX11_playersOf 18 = .ok (.ireturn, 1) := by decide +kernel
theorem dX11_gameAt_0 : decode cX11_gameAt 0 = .ok (.iload_n 1, 1) := by decide +kernel
theorem dX11_gameAt_1 : decode cX11_gameAt 1 = .ok (.ifCond .lt 28, 3) := by decide +kernel
theorem dX11_gameAt_4 : decode cX11_gameAt 4 = .ok (.iload_n 1, 1) := by decide +kernel
theorem dX11_gameAt_5 : decode cX11_gameAt 5 = .ok (.aload_n 0, 1) := by decide +kernel
theorem dX11_gameAt_6 : decode cX11_gameAt 6 = .ok (.getfield 16, 3) := by decide +kernel
theorem dX11_gameAt_9 : decode cX11_gameAt 9 = .ok (.invokevirtual 78, 3) := by decide +kernel
theorem dX11_gameAt_12 : decode cX11_gameAt 12 = .ok (.if_icmp .ge 17, 3) := by decide +kernel
theorem dX11_gameAt_15 : decode cX11_gameAt 15 = .ok (.aload_n 0, 1) := by decide +kernel
theorem dX11_gameAt_16 : decode cX11_gameAt 16 = .ok (.getfield 16, 3) := by decide +kernel
theorem dX11_gameAt_19 : decode cX11_gameAt 19 = .ok (.iload_n 1, 1) := by decide +kernel
theorem dX11_gameAt_20 : decode cX11_gameAt 20 = .ok (.invokevirtual 315, 3) := by decide +kernel
theorem dX11_gameAt_23 : decode cX11_gameAt 23 = .ok (.checkcast 82, 3) := by decide +kernel
theorem dX11_gameAt_26 : decode cX11_gameAt 26 = .ok (.goto 4, 3) := by decide +kernel
theorem dX11_gameAt_29 : decode cX11_gameAt 29 = .ok (.aconst_null, 1) := by decide +kernel
theorem dX11_gameAt_30 : decode cX11_gameAt 30 = .ok (.areturn, 1) := by decide +kernel
theorem dX11_overOf_0 : decode cX11_overOf 0 = .ok (.aload_n 0, 1) := by decide +kernel
theorem dX11_overOf_1 : decode cX11_overOf 1 = .ok (.iload_n 1, 1) := by decide +kernel
theorem dX11_overOf_2 : decode cX11_overOf 2 = .ok (.invokevirtual 91, 3) := by decide +kernel
theorem dX11_overOf_5 : decode cX11_overOf 5 = .ok (.astore 4, 2) := by decide +kernel
theorem dX11_overOf_7 : decode cX11_overOf 7 = .ok (.aload 4, 2) := by decide +kernel
theorem dX11_overOf_9 : decode cX11_overOf 9 = .ok (.ifnonnull 7, 3) := by decide +kernel
theorem dX11_overOf_12 : decode cX11_overOf 12 = .ok (.aconst_null, 1) := by decide +kernel
theorem dX11_overOf_13 : decode cX11_overOf 13 = .ok (.goto 10, 3) := by decide +kernel
theorem dX11_overOf_16 : decode cX11_overOf 16 = .ok (.aload 4, 2) := by decide +kernel
theorem dX11_overOf_18 : decode cX11_overOf 18 = .ok (.iload_n 2, 1) := by decide +kernel
theorem dX11_overOf_19 : decode cX11_overOf 19 = .ok (.iload_n 3, 1) := by decide +kernel
theorem dX11_overOf_20 : decode cX11_overOf 20 = .ok (.invokevirtual 162, 3) := by decide +kernel
theorem dX11_overOf_23 : decode cX11_overOf 23 = .ok (.areturn, 1) := by decide +kernel
theorem dX11_addGame_0 : decode cX11_addGame 0 = .ok (.aload_n 0, 1) := by decide +kernel
theorem dX11_addGame_1 : decode cX11_addGame 1 = .ok (.getfield 16, 3) := by decide +kernel
theorem dX11_addGame_4 : decode cX11_addGame 4 = .ok (.aload_n 1, 1) := by decide +kernel
theorem dX11_addGame_5 : decode cX11_addGame 5 = .ok (.invokevirtual 319, 3) := by decide +kernel
theorem dX11_addGame_8 : decode cX11_addGame 8 = .ok (.pop, 1) := by decide +kernel
theorem dX11_addGame_9 : decode cX11_addGame 9 = .ok (.aload_n 0, 1) := by decide +kernel
theorem dX11_addGame_10 : decode cX11_addGame 10 = .ok (.iconst 1, 1) := by decide +kernel
theorem dX11_addGame_11 : decode cX11_addGame 11 = .ok (.putfield 70, 3) := by decide +kernel
theorem dX11_addGame_14 : decode cX11_addGame 14 = .ok (.aload_n 0, 1) := by decide +kernel
theorem dX11_addGame_15 : decode cX11_addGame 15 = .ok (.getfield 16, 3) := by decide +kernel
theorem dX11_addGame_18 : decode cX11_addGame 18 = .ok (.invokevirtual 78, 3) := by decide +kernel
theorem dX11_addGame_21 : decode cX11_addGame 21 = .ok (.iconst 1, 1) := by decide +kernel
theorem dX11_addGame_22 : decode cX11_addGame 22 = .ok (.isub, 1) := by decide +kernel
theorem dX11_addGame_23 : decode cX11_addGame 23 = .ok (.ireturn, 1) := by decide +kernel
theorem dX11_refused_0 : decode cX11_refused 0 = .ok (.aload_n 0, 1) := by decide +kernel
theorem dX11_refused_1 : decode cX11_refused 1 = .ok (.iload_n 1, 1) := by decide +kernel
theorem dX11_refused_2 : decode cX11_refused 2 = .ok (.putfield 64, 3) := by decide +kernel
theorem dX11_refused_5 : decode cX11_refused 5 = .ok (.iconst 0, 1) := by decide +kernel
theorem dX11_refused_6 : decode cX11_refused 6 = .ok (.ireturn, 1) := by decide +kernel
theorem dX11_done_0 : decode cX11_done 0 = .ok (.aload_n 0, 1) := by decide +kernel
theorem dX11_done_1 : decode cX11_done 1 = .ok (.iconst 0, 1) := by decide +kernel
theorem dX11_done_2 : decode cX11_done 2 = .ok (.putfield 64, 3) := by decide +kernel
theorem dX11_done_5 : decode cX11_done 5 = .ok (.aload_n 0, 1) := by decide +kernel
theorem dX11_done_6 : decode cX11_done 6 = .ok (.invokevirtual 109, 3) := by decide +kernel
theorem dX11_done_9 : decode cX11_done 9 = .ok (.iconst 1, 1) := by decide +kernel
theorem dX11_done_10 : decode cX11_done 10 = .ok (.ireturn, 1) := by decide +kernel
theorem dX11_forgetPlay_0 : decode cX11_forgetPlay 0 = .ok (.aload_n 0, 1) := by decide +kernel
theorem dX11_forgetPlay_1 : decode cX11_forgetPlay 1 = .ok (.iconst (-1), 1) := by decide +kernel
theorem dX11_forgetPlay_2 : decode cX11_forgetPlay 2 = .ok (.putfield 67, 3) := by decide +kernel
theorem dX11_forgetPlay_5 : decode cX11_forgetPlay 5 = .ok (.aload_n 0, 1) := by decide +kernel
theorem dX11_forgetPlay_6 : decode cX11_forgetPlay 6 = .ok (.iconst 1, 1) := by decide +kernel
theorem dX11_forgetPlay_7 : decode cX11_forgetPlay 7 = .ok (.putfield 70, 3) := by decide +kernel
theorem dX11_forgetPlay_10 : decode cX11_forgetPlay 10 = .ok (.return_, 1) := by decide +kernel
theorem dX11_playOver_0 : decode cX11_playOver 0 = .ok (.aload_n 0, 1) := by decide +kernel
theorem dX11_playOver_1 : decode cX11_playOver 1 = .ok (.getfield 67, 3) := by decide +kernel
theorem dX11_playOver_4 : decode cX11_playOver 4 = .ok (.iload_n 1, 1) := by decide +kernel
theorem dX11_playOver_5 : decode cX11_playOver 5 = .ok (.if_icmp .eq 20, 3) := by decide +kernel
theorem dX11_playOver_8 : decode cX11_playOver 8 = .ok (.aload_n 2, 1) := by decide +kernel
theorem dX11_playOver_9 : decode cX11_playOver 9 = .ok (.ifnull 16, 3) := by decide +kernel
theorem dX11_playOver_12 : decode cX11_playOver 12 = .ok (.aload_n 0, 1) := by decide +kernel
theorem dX11_playOver_13 : decode cX11_playOver 13 = .ok (.getfield 42, 3) := by decide +kernel
theorem dX11_playOver_16 : decode cX11_playOver 16 = .ok (.aload_n 2, 1) := by decide +kernel
theorem dX11_playOver_17 : decode cX11_playOver 17 = .ok (.invokevirtual 323, 3) := by decide +kernel
theorem dX11_playOver_20 : decode cX11_playOver 20 = .ok (.aload_n 0, 1) := by decide +kernel
theorem dX11_playOver_21 : decode cX11_playOver 21 = .ok (.iload_n 1, 1) := by decide +kernel
theorem dX11_playOver_22 : decode cX11_playOver 22 = .ok (.putfield 67, 3) := by decide +kernel
theorem dX11_playOver_25 : decode cX11_playOver 25 = .ok (.return_, 1) := by decide +kernel
theorem dX11_keep_0 : decode cX11_keep 0 = .ok (.aload_n 0, 1) := by decide +kernel
theorem dX11_keep_1 : decode cX11_keep 1 = .ok (.getfield 35, 3) := by decide +kernel
theorem dX11_keep_4 : decode cX11_keep 4 = .ok (.iload_n 1, 1) := by decide +kernel
theorem dX11_keep_5 : decode cX11_keep 5 = .ok (.iconst 2, 1) := by decide +kernel
theorem dX11_keep_6 : decode cX11_keep 6 = .ok (.iload_n 2, 1) := by decide +kernel
theorem dX11_keep_7 : decode cX11_keep 7 = .ok (.iload_n 3, 1) := by decide +kernel
theorem dX11_keep_8 : decode cX11_keep 8 = .ok (.aload 4, 2) := by decide +kernel
theorem dX11_keep_10 : decode cX11_keep 10 = .ok (.invokevirtual 125, 3) := by decide +kernel
theorem dX11_keep_13 : decode cX11_keep 13 = .ok (.aload_n 0, 1) := by decide +kernel
theorem dX11_keep_14 : decode cX11_keep 14 = .ok (.invokevirtual 109, 3) := by decide +kernel
theorem dX11_keep_17 : decode cX11_keep 17 = .ok (.return_, 1) := by decide +kernel
theorem dX11_isSeatFigure_0 : decode cX11_isSeatFigure 0 = .ok (.iload_n 0, 1) := by decide +kernel
theorem dX11_isSeatFigure_1 : decode cX11_isSeatFigure 1 = .ok (.ifCond .lt 22, 3) := by decide +kernel
theorem dX11_isSeatFigure_4 : decode cX11_isSeatFigure 4 = .ok (.iload_n 0, 1) := by decide +kernel
theorem dX11_isSeatFigure_5 : decode cX11_isSeatFigure 5 = .ok (.bipush 11, 2) := by decide +kernel
theorem dX11_isSeatFigure_7 : decode cX11_isSeatFigure 7 = .ok (.if_icmp .ge 16, 3) := by decide +kernel
theorem dX11_isSeatFigure_10 : decode cX11_isSeatFigure 10 = .ok (.iload_n 1, 1) := by decide +kernel
theorem dX11_isSeatFigure_11 : decode cX11_isSeatFigure 11 = .ok (.ifCond .lt 12, 3) := by decide +kernel
theorem dX11_isSeatFigure_14 : decode cX11_isSeatFigure 14 = .ok (.iload_n 1, 1) := by decide +kernel
theorem dX11_isSeatFigure_15 : decode cX11_isSeatFigure 15 = .ok (.iconst 4, 1) := by decide +kernel
theorem dX11_isSeatFigure_16 : decode cX11_isSeatFigure 16 = .ok (.if_icmp .ge 7, 3) := by decide +kernel
theorem dX11_isSeatFigure_19 : decode cX11_isSeatFigure 19 = .ok (.iconst 1, 1) := by decide +kernel
theorem dX11_isSeatFigure_20 : decode cX11_isSeatFigure 20 = .ok (.goto 4, 3) := by decide +kernel
theorem dX11_isSeatFigure_23 : decode cX11_isSeatFigure 23 = .ok (.iconst 0, 1) := by decide +kernel
theorem dX11_isSeatFigure_24 : decode cX11_isSeatFigure 24 = .ok (.ireturn, 1) := by decide +kernel
theorem dX11_scoreFigure_0 : decode cX11_scoreFigure 0 = .ok (.iload_n 3, 1) := by decide +kernel
theorem dX11_scoreFigure_1 : decode cX11_scoreFigure 1 = .ok (.bipush 10, 2) := by decide +kernel
theorem dX11_scoreFigure_3 : decode cX11_scoreFigure 3 = .ok (.if_icmp .ne 11, 3) := by decide +kernel
theorem dX11_scoreFigure_6 : decode cX11_scoreFigure 6 = .ok (.aload_n 1, 1) := by decide +kernel
theorem dX11_scoreFigure_7 : decode cX11_scoreFigure 7 = .ok (.iload_n 2, 1) := by decide +kernel
theorem dX11_scoreFigure_8 : decode cX11_scoreFigure 8 = .ok (.invokevirtual 159, 3) := by decide +kernel
theorem dX11_scoreFigure_11 : decode cX11_scoreFigure 11 = .ok (.goto 15, 3) := by decide +kernel
theorem dX11_scoreFigure_14 : decode cX11_scoreFigure 14 = .ok (.aload_n 0, 1) := by decide +kernel
theorem dX11_scoreFigure_15 : decode cX11_scoreFigure 15 = .ok (.getfield 42, 3) := by decide +kernel
theorem dX11_scoreFigure_18 : decode cX11_scoreFigure 18 = .ok (.iload_n 2, 1) := by decide +kernel
theorem dX11_scoreFigure_19 : decode cX11_scoreFigure 19 = .ok (.invokevirtual 242, 3) := by decide +kernel
theorem dX11_scoreFigure_22 : decode cX11_scoreFigure 22 = .ok (.iload_n 3, 1) := by decide +kernel
theorem dX11_scoreFigure_23 : decode cX11_scoreFigure 23 = .ok (.invokevirtual 326, 3) := by decide +kernel
theorem dX11_scoreFigure_26 : decode cX11_scoreFigure 26 = .ok (.ireturn, 1) := by decide +kernel
theorem dX11_batsFigure_0 : decode cX11_batsFigure 0 = .ok (.iload 4, 2) := by decide +kernel
theorem dX11_batsFigure_2 : decode cX11_batsFigure 2 = .ok (.iconst 3, 1) := by decide +kernel
theorem dX11_batsFigure_3 : decode cX11_batsFigure 3 = .ok (.if_icmp .ne 14, 3) := by decide +kernel
theorem dX11_batsFigure_6 : decode cX11_batsFigure 6 = .ok (.aload_n 1, 1) := by decide +kernel
theorem dX11_batsFigure_7 : decode cX11_batsFigure 7 = .ok (.iload_n 2, 1) := by decide +kernel
theorem dX11_batsFigure_8 : decode cX11_batsFigure 8 = .ok (.iconst 2, 1) := by decide +kernel
theorem dX11_batsFigure_9 : decode cX11_batsFigure 9 = .ok (.irem, 1) := by decide +kernel
theorem dX11_batsFigure_10 : decode cX11_batsFigure 10 = .ok (.iload_n 3, 1) := by decide +kernel
theorem dX11_batsFigure_11 : decode cX11_batsFigure 11 = .ok (.invokevirtual 327, 3) := by decide +kernel
theorem dX11_batsFigure_14 : decode cX11_batsFigure 14 = .ok (.goto 20, 3) := by decide +kernel
theorem dX11_batsFigure_17 : decode cX11_batsFigure 17 = .ok (.aload_n 0, 1) := by decide +kernel
theorem dX11_batsFigure_18 : decode cX11_batsFigure 18 = .ok (.getfield 42, 3) := by decide +kernel
theorem dX11_batsFigure_21 : decode cX11_batsFigure 21 = .ok (.iload_n 2, 1) := by decide +kernel
theorem dX11_batsFigure_22 : decode cX11_batsFigure 22 = .ok (.invokevirtual 242, 3) := by decide +kernel
theorem dX11_batsFigure_25 : decode cX11_batsFigure 25 = .ok (.getfield 330, 3) := by decide +kernel
theorem dX11_batsFigure_28 : decode cX11_batsFigure 28 = .ok (.iload_n 3, 1) := by decide +kernel
theorem dX11_batsFigure_29 : decode cX11_batsFigure 29 = .ok (.iload 4, 2) := by decide +kernel
theorem dX11_batsFigure_31 : decode cX11_batsFigure 31 = .ok (.invokevirtual 276, 3) := by decide +kernel
theorem dX11_batsFigure_34 : decode cX11_batsFigure 34 = .ok (.ireturn, 1) := by decide +kernel
theorem dX11_fieldsFigure_0 : decode cX11_fieldsFigure 0 = .ok (.iload 4, 2) := by decide +kernel
theorem dX11_fieldsFigure_2 : decode cX11_fieldsFigure 2 = .ok (.iconst 3, 1) := by decide +kernel
theorem dX11_fieldsFigure_3 : decode cX11_fieldsFigure 3 = .ok (.if_icmp .ne 16, 3) := by decide +kernel
theorem dX11_fieldsFigure_6 : decode cX11_fieldsFigure 6 = .ok (.aload_n 1, 1) := by decide +kernel
theorem dX11_fieldsFigure_7 : decode cX11_fieldsFigure 7 = .ok (.iconst 1, 1) := by decide +kernel
theorem dX11_fieldsFigure_8 : decode cX11_fieldsFigure 8 = .ok (.iload_n 2, 1) := by decide +kernel
theorem dX11_fieldsFigure_9 : decode cX11_fieldsFigure 9 = .ok (.iconst 2, 1) := by decide +kernel
theorem dX11_fieldsFigure_10 : decode cX11_fieldsFigure 10 = .ok (.irem, 1) := by decide +kernel
theorem dX11_fieldsFigure_11 : decode cX11_fieldsFigure 11 = .ok (.isub, 1) := by decide +kernel
theorem dX11_fieldsFigure_12 : decode cX11_fieldsFigure 12 = .ok (.iload_n 3, 1) := by decide +kernel
theorem dX11_fieldsFigure_13 : decode cX11_fieldsFigure 13 = .ok (.invokevirtual 327, 3) := by decide +kernel
theorem dX11_fieldsFigure_16 : decode cX11_fieldsFigure 16 = .ok (.goto 20, 3) := by decide +kernel
theorem dX11_fieldsFigure_19 : decode cX11_fieldsFigure 19 = .ok (.aload_n 0, 1) := by decide +kernel
theorem dX11_fieldsFigure_20 : decode cX11_fieldsFigure 20 = .ok (.getfield 42, 3) := by decide +kernel
theorem dX11_fieldsFigure_23 : decode cX11_fieldsFigure 23 = .ok (.iload_n 2, 1) := by decide +kernel
theorem dX11_fieldsFigure_24 : decode cX11_fieldsFigure 24 = .ok (.invokevirtual 242, 3) := by decide +kernel
theorem dX11_fieldsFigure_27 : decode cX11_fieldsFigure 27 = .ok (.getfield 333, 3) := by decide +kernel
theorem dX11_fieldsFigure_30 : decode cX11_fieldsFigure 30 = .ok (.iload_n 3, 1) := by decide +kernel
theorem dX11_fieldsFigure_31 : decode cX11_fieldsFigure 31 = .ok (.iload 4, 2) := by decide +kernel
theorem dX11_fieldsFigure_33 : decode cX11_fieldsFigure 33 = .ok (.invokevirtual 276, 3) := by decide +kernel
theorem dX11_fieldsFigure_36 : decode cX11_fieldsFigure 36 = .ok (.ireturn, 1) := by decide +kernel
theorem dX11_addTurnFigures_0 : decode cX11_addTurnFigures 0 = .ok (.lload_n 1, 1) := by decide +kernel
theorem dX11_addTurnFigures_1 : decode cX11_addTurnFigures 1 = .ok (.lstore 5, 2) := by decide +kernel
theorem dX11_addTurnFigures_3 : decode cX11_addTurnFigures 3 = .ok (.iconst 0, 1) := by decide +kernel
theorem dX11_addTurnFigures_4 : decode cX11_addTurnFigures 4 = .ok (.istore 7, 2) := by decide +kernel
theorem dX11_addTurnFigures_6 : decode cX11_addTurnFigures 6 = .ok (.iload 7, 2) := by decide +kernel
theorem dX11_addTurnFigures_8 : decode cX11_addTurnFigures 8 = .ok (.bipush 16, 2) := by decide +kernel
theorem dX11_addTurnFigures_10 : decode cX11_addTurnFigures 10 = .ok (.if_icmp .ge 28, 3) := by decide +kernel
theorem dX11_addTurnFigures_13 : decode cX11_addTurnFigures 13 = .ok (.ldc2_w 309, 3) := by decide +kernel
theorem dX11_addTurnFigures_16 : decode cX11_addTurnFigures 16 = .ok (.lload 5, 2) := by decide +kernel
theorem dX11_addTurnFigures_18 : decode cX11_addTurnFigures 18 = .ok (.lmul, 1) := by decide +kernel
theorem dX11_addTurnFigures_19 : decode cX11_addTurnFigures 19 = .ok (.aload_n 0, 1) := by decide +kernel
theorem dX11_addTurnFigures_20 : decode cX11_addTurnFigures 20 = .ok (.aload_n 3, 1) := by decide +kernel
theorem dX11_addTurnFigures_21 : decode cX11_addTurnFigures 21 = .ok (.iload 4, 2) := by decide +kernel
theorem dX11_addTurnFigures_23 : decode cX11_addTurnFigures 23 = .ok (.iload 7, 2) := by decide +kernel
theorem dX11_addTurnFigures_25 : decode cX11_addTurnFigures 25 = .ok (.invokevirtual 236, 3) := by decide +kernel
theorem dX11_addTurnFigures_28 : decode cX11_addTurnFigures 28 = .ok (.i2l, 1) := by decide +kernel
theorem dX11_addTurnFigures_29 : decode cX11_addTurnFigures 29 = .ok (.ladd, 1) := by decide +kernel
theorem dX11_addTurnFigures_30 : decode cX11_addTurnFigures 30 = .ok (.lstore 5, 2) := by decide +kernel
theorem dX11_addTurnFigures_32 : decode cX11_addTurnFigures 32 = .ok (.iinc 7 1, 3) := by decide +kernel
theorem dX11_addTurnFigures_35 : decode cX11_addTurnFigures 35 = .ok (.goto (-29), 3) := by decide +kernel
theorem dX11_addTurnFigures_38 : decode cX11_addTurnFigures 38 = .ok (.iconst 0, 1) := by decide +kernel
theorem dX11_addTurnFigures_39 : decode cX11_addTurnFigures 39 = .ok (.istore 7, 2) := by decide +kernel
theorem dX11_addTurnFigures_41 : decode cX11_addTurnFigures 41 = .ok (.iload 7, 2) := by decide +kernel
theorem dX11_addTurnFigures_43 : decode cX11_addTurnFigures 43 = .ok (.bipush 11, 2) := by decide +kernel
theorem dX11_addTurnFigures_45 : decode cX11_addTurnFigures 45 = .ok (.if_icmp .ge 81, 3) := by decide +kernel
theorem dX11_addTurnFigures_48 : decode cX11_addTurnFigures 48 = .ok (.iconst 0, 1) := by decide +kernel
theorem dX11_addTurnFigures_49 : decode cX11_addTurnFigures 49 = .ok (.istore 8, 2) := by decide +kernel
theorem dX11_addTurnFigures_51 : decode cX11_addTurnFigures 51 = .ok (.iload 8, 2) := by decide +kernel
theorem dX11_addTurnFigures_53 : decode cX11_addTurnFigures 53 = .ok (.iconst 4, 1) := by decide +kernel
theorem dX11_addTurnFigures_54 : decode cX11_addTurnFigures 54 = .ok (.if_icmp .ge 30, 3) := by decide +kernel
theorem dX11_addTurnFigures_57 : decode cX11_addTurnFigures 57 = .ok (.ldc2_w 309, 3) := by decide +kernel
theorem dX11_addTurnFigures_60 : decode cX11_addTurnFigures 60 = .ok (.lload 5, 2) := by decide +kernel
theorem dX11_addTurnFigures_62 : decode cX11_addTurnFigures 62 = .ok (.lmul, 1) := by decide +kernel
theorem dX11_addTurnFigures_63 : decode cX11_addTurnFigures 63 = .ok (.aload_n 0, 1) := by decide +kernel
theorem dX11_addTurnFigures_64 : decode cX11_addTurnFigures 64 = .ok (.aload_n 3, 1) := by decide +kernel
theorem dX11_addTurnFigures_65 : decode cX11_addTurnFigures 65 = .ok (.iload 4, 2) := by decide +kernel
theorem dX11_addTurnFigures_67 : decode cX11_addTurnFigures 67 = .ok (.iload 7, 2) := by decide +kernel
theorem dX11_addTurnFigures_69 : decode cX11_addTurnFigures 69 = .ok (.iload 8, 2) := by decide +kernel
theorem dX11_addTurnFigures_71 : decode cX11_addTurnFigures 71 = .ok (.invokevirtual 260, 3) := by decide +kernel
theorem dX11_addTurnFigures_74 : decode cX11_addTurnFigures 74 = .ok (.i2l, 1) := by decide +kernel
theorem dX11_addTurnFigures_75 : decode cX11_addTurnFigures 75 = .ok (.ladd, 1) := by decide +kernel
theorem dX11_addTurnFigures_76 : decode cX11_addTurnFigures 76 = .ok (.lstore 5, 2) := by decide +kernel
theorem dX11_addTurnFigures_78 : decode cX11_addTurnFigures 78 = .ok (.iinc 8 1, 3) := by decide +kernel
theorem dX11_addTurnFigures_81 : decode cX11_addTurnFigures 81 = .ok (.goto (-30), 3) := by decide +kernel
theorem dX11_addTurnFigures_84 : decode cX11_addTurnFigures 84 = .ok (.iconst 0, 1) := by decide +kernel
theorem dX11_addTurnFigures_85 : decode cX11_addTurnFigures 85 = .ok (.istore 8, 2) := by decide +kernel
theorem dX11_addTurnFigures_87 : decode cX11_addTurnFigures 87 = .ok (.iload 8, 2) := by decide +kernel
theorem dX11_addTurnFigures_89 : decode cX11_addTurnFigures 89 = .ok (.iconst 4, 1) := by decide +kernel
theorem dX11_addTurnFigures_90 : decode cX11_addTurnFigures 90 = .ok (.if_icmp .ge 30, 3) := by decide +kernel
theorem dX11_addTurnFigures_93 : decode cX11_addTurnFigures 93 = .ok (.ldc2_w 309, 3) := by decide +kernel
theorem dX11_addTurnFigures_96 : decode cX11_addTurnFigures 96 = .ok (.lload 5, 2) := by decide +kernel
theorem dX11_addTurnFigures_98 : decode cX11_addTurnFigures 98 = .ok (.lmul, 1) := by decide +kernel
theorem dX11_addTurnFigures_99 : decode cX11_addTurnFigures 99 = .ok (.aload_n 0, 1) := by decide +kernel
theorem dX11_addTurnFigures_100 : decode cX11_addTurnFigures 100 = .ok (.aload_n 3, 1) := by decide +kernel
theorem dX11_addTurnFigures_101 : decode cX11_addTurnFigures 101 = .ok (.iload 4, 2) := by decide +kernel
theorem dX11_addTurnFigures_103 : decode cX11_addTurnFigures 103 = .ok (.iload 7, 2) := by decide +kernel
theorem dX11_addTurnFigures_105 : decode cX11_addTurnFigures 105 = .ok (.iload 8, 2) := by decide +kernel
theorem dX11_addTurnFigures_107 : decode cX11_addTurnFigures 107 = .ok (.invokevirtual 264, 3) := by decide +kernel
theorem dX11_addTurnFigures_110 : decode cX11_addTurnFigures 110 = .ok (.i2l, 1) := by decide +kernel
theorem dX11_addTurnFigures_111 : decode cX11_addTurnFigures 111 = .ok (.ladd, 1) := by decide +kernel
theorem dX11_addTurnFigures_112 : decode cX11_addTurnFigures 112 = .ok (.lstore 5, 2) := by decide +kernel
theorem dX11_addTurnFigures_114 : decode cX11_addTurnFigures 114 = .ok (.iinc 8 1, 3) := by decide +kernel
theorem dX11_addTurnFigures_117 : decode cX11_addTurnFigures 117 = .ok (.goto (-30), 3) := by decide +kernel
theorem dX11_addTurnFigures_120 : decode cX11_addTurnFigures 120 = .ok (.iinc 7 1, 3) := by decide +kernel
theorem dX11_addTurnFigures_123 : decode cX11_addTurnFigures 123 = .ok (.goto (-82), 3) := by decide +kernel
theorem dX11_addTurnFigures_126 : decode cX11_addTurnFigures 126 = .ok (.lload 5, 2) := by decide +kernel
theorem dX11_addTurnFigures_128 : decode cX11_addTurnFigures 128 = .ok (.lreturn, 1) := by decide +kernel
theorem dX11_findRecords_0 : decode cX11_findRecords 0 = .ok (.aload_n 0, 1) := by decide +kernel
theorem dX11_findRecords_1 : decode cX11_findRecords 1 = .ok (.getfield 49, 3) := by decide +kernel
theorem dX11_findRecords_4 : decode cX11_findRecords 4 = .ok (.invokevirtual 336, 3) := by decide +kernel
theorem dX11_findRecords_7 : decode cX11_findRecords 7 = .ok (.iconst 0, 1) := by decide +kernel
theorem dX11_findRecords_8 : decode cX11_findRecords 8 = .ok (.istore_n 1, 1) := by decide +kernel
theorem dX11_findRecords_9 : decode cX11_findRecords 9 = .ok (.iload_n 1, 1) := by decide +kernel
theorem dX11_findRecords_10 : decode cX11_findRecords 10 = .ok (.aload_n 0, 1) := by decide +kernel
theorem dX11_findRecords_11 : decode cX11_findRecords 11 = .ok (.getfield 16, 3) := by decide +kernel
theorem dX11_findRecords_14 : decode cX11_findRecords 14 = .ok (.invokevirtual 78, 3) := by decide +kernel
theorem dX11_findRecords_17 : decode cX11_findRecords 17 = .ok (.if_icmp .ge 68, 3) := by decide +kernel
theorem dX11_findRecords_20 : decode cX11_findRecords 20 = .ok (.aload_n 0, 1) := by decide +kernel
theorem dX11_findRecords_21 : decode cX11_findRecords 21 = .ok (.getfield 16, 3) := by decide +kernel
theorem dX11_findRecords_24 : decode cX11_findRecords 24 = .ok (.iload_n 1, 1) := by decide +kernel
theorem dX11_findRecords_25 : decode cX11_findRecords 25 = .ok (.invokevirtual 315, 3) := by decide +kernel
theorem dX11_findRecords_28 : decode cX11_findRecords 28 = .ok (.checkcast 82, 3) := by decide +kernel
theorem dX11_findRecords_31 : decode cX11_findRecords 31 = .ok (.astore_n 2, 1) := by decide +kernel
theorem dX11_findRecords_32 : decode cX11_findRecords 32 = .ok (.aload_n 0, 1) := by decide +kernel
theorem dX11_findRecords_33 : decode cX11_findRecords 33 = .ok (.getfield 42, 3) := by decide +kernel
theorem dX11_findRecords_36 : decode cX11_findRecords 36 = .ok (.aload_n 2, 1) := by decide +kernel
theorem dX11_findRecords_37 : decode cX11_findRecords 37 = .ok (.invokevirtual 323, 3) := by decide +kernel
theorem dX11_findRecords_40 : decode cX11_findRecords 40 = .ok (.aload_n 0, 1) := by decide +kernel
theorem dX11_findRecords_41 : decode cX11_findRecords 41 = .ok (.iload_n 1, 1) := by decide +kernel
theorem dX11_findRecords_42 : decode cX11_findRecords 42 = .ok (.putfield 67, 3) := by decide +kernel
theorem dX11_findRecords_45 : decode cX11_findRecords 45 = .ok (.iconst 0, 1) := by decide +kernel
theorem dX11_findRecords_46 : decode cX11_findRecords 46 = .ok (.istore_n 3, 1) := by decide +kernel
theorem dX11_findRecords_47 : decode cX11_findRecords 47 = .ok (.iload_n 3, 1) := by decide +kernel
theorem dX11_findRecords_48 : decode cX11_findRecords 48 = .ok (.aload_n 2, 1) := by decide +kernel
theorem dX11_findRecords_49 : decode cX11_findRecords 49 = .ok (.invokevirtual 102, 3) := by decide +kernel
theorem dX11_findRecords_52 : decode cX11_findRecords 52 = .ok (.if_icmp .ge 27, 3) := by decide +kernel
theorem dX11_findRecords_55 : decode cX11_findRecords 55 = .ok (.aload_n 0, 1) := by decide +kernel
theorem dX11_findRecords_56 : decode cX11_findRecords 56 = .ok (.getfield 49, 3) := by decide +kernel
theorem dX11_findRecords_59 : decode cX11_findRecords 59 = .ok (.iload_n 1, 1) := by decide +kernel
theorem dX11_findRecords_60 : decode cX11_findRecords 60 = .ok (.iload_n 3, 1) := by decide +kernel
theorem dX11_findRecords_61 : decode cX11_findRecords 61 = .ok (.aload_n 2, 1) := by decide +kernel
theorem dX11_findRecords_62 : decode cX11_findRecords 62 = .ok (.aload_n 0, 1) := by decide +kernel
theorem dX11_findRecords_63 : decode cX11_findRecords 63 = .ok (.getfield 42, 3) := by decide +kernel
theorem dX11_findRecords_66 : decode cX11_findRecords 66 = .ok (.iload_n 3, 1) := by decide +kernel
theorem dX11_findRecords_67 : decode cX11_findRecords 67 = .ok (.invokevirtual 242, 3) := by decide +kernel
theorem dX11_findRecords_70 : decode cX11_findRecords 70 = .ok (.invokevirtual 337, 3) := by decide +kernel
theorem dX11_findRecords_73 : decode cX11_findRecords 73 = .ok (.iinc 3 1, 3) := by decide +kernel
theorem dX11_findRecords_76 : decode cX11_findRecords 76 = .ok (.goto (-29), 3) := by decide +kernel
theorem dX11_findRecords_79 : decode cX11_findRecords 79 = .ok (.iinc 1 1, 3) := by decide +kernel
theorem dX11_findRecords_82 : decode cX11_findRecords 82 = .ok (.goto (-73), 3) := by decide +kernel
theorem dX11_findRecords_85 : decode cX11_findRecords 85 = .ok (.iconst 0, 1) := by decide +kernel
theorem dX11_findRecords_86 : decode cX11_findRecords 86 = .ok (.istore_n 1, 1) := by decide +kernel
theorem dX11_findRecords_87 : decode cX11_findRecords 87 = .ok (.iload_n 1, 1) := by decide +kernel
theorem dX11_findRecords_88 : decode cX11_findRecords 88 = .ok (.aload_n 0, 1) := by decide +kernel
theorem dX11_findRecords_89 : decode cX11_findRecords 89 = .ok (.getfield 60, 3) := by decide +kernel
theorem dX11_findRecords_92 : decode cX11_findRecords 92 = .ok (.if_icmp .ge 22, 3) := by decide +kernel
theorem dX11_findRecords_95 : decode cX11_findRecords 95 = .ok (.aload_n 0, 1) := by decide +kernel
theorem dX11_findRecords_96 : decode cX11_findRecords 96 = .ok (.getfield 49, 3) := by decide +kernel
theorem dX11_findRecords_99 : decode cX11_findRecords 99 = .ok (.iload_n 1, 1) := by decide +kernel
theorem dX11_findRecords_100 : decode cX11_findRecords 100 = .ok (.aload_n 0, 1) := by decide +kernel
theorem dX11_findRecords_101 : decode cX11_findRecords 101 = .ok (.iload_n 1, 1) := by decide +kernel
theorem dX11_findRecords_102 : decode cX11_findRecords 102 = .ok (.invokevirtual 99, 3) := by decide +kernel
theorem dX11_findRecords_105 : decode cX11_findRecords 105 = .ok (.invokevirtual 340, 3) := by decide +kernel
theorem dX11_findRecords_108 : decode cX11_findRecords 108 = .ok (.iinc 1 1, 3) := by decide +kernel
theorem dX11_findRecords_111 : decode cX11_findRecords 111 = .ok (.goto (-24), 3) := by decide +kernel
theorem dX11_findRecords_114 : decode cX11_findRecords 114 = .ok (.aload_n 0, 1) := by decide +kernel
theorem dX11_findRecords_115 : decode cX11_findRecords 115 = .ok (.iconst 0, 1) := by decide +kernel
theorem dX11_findRecords_116 : decode cX11_findRecords 116 = .ok (.putfield 70, 3) := by decide +kernel
theorem dX11_findRecords_119 : decode cX11_findRecords 119 = .ok (.return_, 1) := by decide +kernel
theorem dX11_writeHead_0 : decode cX11_writeHead 0 = .ok (.aload_n 0, 1) := by decide +kernel
theorem dX11_writeHead_1 : decode cX11_writeHead 1 = .ok (.getfield 29, 3) := by decide +kernel
theorem dX11_writeHead_4 : decode cX11_writeHead 4 = .ok (.bipush 66, 2) := by decide +kernel
theorem dX11_writeHead_6 : decode cX11_writeHead 6 = .ok (.invokevirtual 343, 3) := by decide +kernel
theorem dX11_writeHead_9 : decode cX11_writeHead 9 = .ok (.aload_n 0, 1) := by decide +kernel
theorem dX11_writeHead_10 : decode cX11_writeHead 10 = .ok (.getfield 29, 3) := by decide +kernel
theorem dX11_writeHead_13 : decode cX11_writeHead 13 = .ok (.aload_n 1, 1) := by decide +kernel
theorem dX11_writeHead_14 : decode cX11_writeHead 14 = .ok (.iconst 0, 1) := by decide +kernel
theorem dX11_writeHead_15 : decode cX11_writeHead 15 = .ok (.invokevirtual 95, 3) := by decide +kernel
theorem dX11_writeHead_18 : decode cX11_writeHead 18 = .ok (.invokevirtual 343, 3) := by decide +kernel
theorem dX11_writeHead_21 : decode cX11_writeHead 21 = .ok (.aload_n 0, 1) := by decide +kernel
theorem dX11_writeHead_22 : decode cX11_writeHead 22 = .ok (.getfield 29, 3) := by decide +kernel
theorem dX11_writeHead_25 : decode cX11_writeHead 25 = .ok (.aload_n 1, 1) := by decide +kernel
theorem dX11_writeHead_26 : decode cX11_writeHead 26 = .ok (.iconst 1, 1) := by decide +kernel
theorem dX11_writeHead_27 : decode cX11_writeHead 27 = .ok (.invokevirtual 95, 3) := by decide +kernel
theorem dX11_writeHead_30 : decode cX11_writeHead 30 = .ok (.invokevirtual 343, 3) := by decide +kernel
theorem dX11_writeHead_33 : decode cX11_writeHead 33 = .ok (.aload_n 0, 1) := by decide +kernel
theorem dX11_writeHead_34 : decode cX11_writeHead 34 = .ok (.getfield 29, 3) := by decide +kernel
theorem dX11_writeHead_37 : decode cX11_writeHead 37 = .ok (.aload_n 1, 1) := by decide +kernel
theorem dX11_writeHead_38 : decode cX11_writeHead 38 = .ok (.getfield 345, 3) := by decide +kernel
theorem dX11_writeHead_41 : decode cX11_writeHead 41 = .ok (.invokevirtual 343, 3) := by decide +kernel
theorem dX11_writeHead_44 : decode cX11_writeHead 44 = .ok (.aload_n 0, 1) := by decide +kernel
theorem dX11_writeHead_45 : decode cX11_writeHead 45 = .ok (.getfield 29, 3) := by decide +kernel
theorem dX11_writeHead_48 : decode cX11_writeHead 48 = .ok (.aload_n 1, 1) := by decide +kernel
theorem dX11_writeHead_49 : decode cX11_writeHead 49 = .ok (.getfield 348, 3) := by decide +kernel
theorem dX11_writeHead_52 : decode cX11_writeHead 52 = .ok (.invokevirtual 343, 3) := by decide +kernel
theorem dX11_writeHead_55 : decode cX11_writeHead 55 = .ok (.iconst 0, 1) := by decide +kernel
theorem dX11_writeHead_56 : decode cX11_writeHead 56 = .ok (.istore_n 2, 1) := by decide +kernel
theorem dX11_writeHead_57 : decode cX11_writeHead 57 = .ok (.iload_n 2, 1) := by decide +kernel
theorem dX11_writeHead_58 : decode cX11_writeHead 58 = .ok (.iconst 2, 1) := by decide +kernel
theorem dX11_writeHead_59 : decode cX11_writeHead 59 = .ok (.if_icmp .ge 36, 3) := by decide +kernel
theorem dX11_writeHead_62 : decode cX11_writeHead 62 = .ok (.iconst 0, 1) := by decide +kernel
theorem dX11_writeHead_63 : decode cX11_writeHead 63 = .ok (.istore_n 3, 1) := by decide +kernel
theorem dX11_writeHead_64 : decode cX11_writeHead 64 = .ok (.iload_n 3, 1) := by decide +kernel
theorem dX11_writeHead_65 : decode cX11_writeHead 65 = .ok (.bipush 11, 2) := by decide +kernel
theorem dX11_writeHead_67 : decode cX11_writeHead 67 = .ok (.if_icmp .ge 22, 3) := by decide +kernel
theorem dX11_writeHead_70 : decode cX11_writeHead 70 = .ok (.aload_n 0, 1) := by decide +kernel
theorem dX11_writeHead_71 : decode cX11_writeHead 71 = .ok (.getfield 29, 3) := by decide +kernel
theorem dX11_writeHead_74 : decode cX11_writeHead 74 = .ok (.aload_n 1, 1) := by decide +kernel
theorem dX11_writeHead_75 : decode cX11_writeHead 75 = .ok (.iload_n 2, 1) := by decide +kernel
theorem dX11_writeHead_76 : decode cX11_writeHead 76 = .ok (.iload_n 3, 1) := by decide +kernel
theorem dX11_writeHead_77 : decode cX11_writeHead 77 = .ok (.invokevirtual 327, 3) := by decide +kernel
theorem dX11_writeHead_80 : decode cX11_writeHead 80 = .ok (.invokevirtual 343, 3) := by decide +kernel
theorem dX11_writeHead_83 : decode cX11_writeHead 83 = .ok (.iinc 3 1, 3) := by decide +kernel
theorem dX11_writeHead_86 : decode cX11_writeHead 86 = .ok (.goto (-22), 3) := by decide +kernel
theorem dX11_writeHead_89 : decode cX11_writeHead 89 = .ok (.iinc 2 1, 3) := by decide +kernel
theorem dX11_writeHead_92 : decode cX11_writeHead 92 = .ok (.goto (-35), 3) := by decide +kernel
theorem dX11_writeHead_95 : decode cX11_writeHead 95 = .ok (.aload_n 0, 1) := by decide +kernel
theorem dX11_writeHead_96 : decode cX11_writeHead 96 = .ok (.getfield 29, 3) := by decide +kernel
theorem dX11_writeHead_99 : decode cX11_writeHead 99 = .ok (.aload_n 1, 1) := by decide +kernel
theorem dX11_writeHead_100 : decode cX11_writeHead 100 = .ok (.invokevirtual 102, 3) := by decide +kernel
theorem dX11_writeHead_103 : decode cX11_writeHead 103 = .ok (.invokevirtual 343, 3) := by decide +kernel
theorem dX11_writeHead_106 : decode cX11_writeHead 106 = .ok (.return_, 1) := by decide +kernel
theorem dX11_writeTurn_0 : decode cX11_writeTurn 0 = .ok (.aload_n 1, 1) := by decide +kernel
theorem dX11_writeTurn_1 : decode cX11_writeTurn 1 = .ok (.iload_n 2, 1) := by decide +kernel
theorem dX11_writeTurn_2 : decode cX11_writeTurn 2 = .ok (.invokevirtual 159, 3) := by decide +kernel
theorem dX11_writeTurn_5 : decode cX11_writeTurn 5 = .ok (.istore_n 3, 1) := by decide +kernel
theorem dX11_writeTurn_6 : decode cX11_writeTurn 6 = .ok (.aload_n 0, 1) := by decide +kernel
theorem dX11_writeTurn_7 : decode cX11_writeTurn 7 = .ok (.getfield 29, 3) := by decide +kernel
theorem dX11_writeTurn_10 : decode cX11_writeTurn 10 = .ok (.iload_n 3, 1) := by decide +kernel
theorem dX11_writeTurn_11 : decode cX11_writeTurn 11 = .ok (.invokevirtual 343, 3) := by decide +kernel
theorem dX11_writeTurn_14 : decode cX11_writeTurn 14 = .ok (.iconst 0, 1) := by decide +kernel
theorem dX11_writeTurn_15 : decode cX11_writeTurn 15 = .ok (.istore 4, 2) := by decide +kernel
theorem dX11_writeTurn_17 : decode cX11_writeTurn 17 = .ok (.iload 4, 2) := by decide +kernel
theorem dX11_writeTurn_19 : decode cX11_writeTurn 19 = .ok (.iload_n 3, 1) := by decide +kernel
theorem dX11_writeTurn_20 : decode cX11_writeTurn 20 = .ok (.if_icmp .ge 82, 3) := by decide +kernel
theorem dX11_writeTurn_23 : decode cX11_writeTurn 23 = .ok (.aload_n 1, 1) := by decide +kernel
theorem dX11_writeTurn_24 : decode cX11_writeTurn 24 = .ok (.iload_n 2, 1) := by decide +kernel
theorem dX11_writeTurn_25 : decode cX11_writeTurn 25 = .ok (.iload 4, 2) := by decide +kernel
theorem dX11_writeTurn_27 : decode cX11_writeTurn 27 = .ok (.invokevirtual 162, 3) := by decide +kernel
theorem dX11_writeTurn_30 : decode cX11_writeTurn 30 = .ok (.astore 5, 2) := by decide +kernel
theorem dX11_writeTurn_32 : decode cX11_writeTurn 32 = .ok (.aload 5, 2) := by decide +kernel
theorem dX11_writeTurn_34 : decode cX11_writeTurn 34 = .ok (.ifnull 62, 3) := by decide +kernel
theorem dX11_writeTurn_37 : decode cX11_writeTurn 37 = .ok (.aload_n 0, 1) := by decide +kernel
theorem dX11_writeTurn_38 : decode cX11_writeTurn 38 = .ok (.getfield 29, 3) := by decide +kernel
theorem dX11_writeTurn_41 : decode cX11_writeTurn 41 = .ok (.aload 5, 2) := by decide +kernel
theorem dX11_writeTurn_43 : decode cX11_writeTurn 43 = .ok (.getfield 208, 3) := by decide +kernel
theorem dX11_writeTurn_46 : decode cX11_writeTurn 46 = .ok (.invokevirtual 343, 3) := by decide +kernel
theorem dX11_writeTurn_49 : decode cX11_writeTurn 49 = .ok (.aload_n 0, 1) := by decide +kernel
theorem dX11_writeTurn_50 : decode cX11_writeTurn 50 = .ok (.getfield 29, 3) := by decide +kernel
theorem dX11_writeTurn_53 : decode cX11_writeTurn 53 = .ok (.aload 5, 2) := by decide +kernel
theorem dX11_writeTurn_55 : decode cX11_writeTurn 55 = .ok (.getfield 179, 3) := by decide +kernel
theorem dX11_writeTurn_58 : decode cX11_writeTurn 58 = .ok (.iconst 1, 1) := by decide +kernel
theorem dX11_writeTurn_59 : decode cX11_writeTurn 59 = .ok (.iadd, 1) := by decide +kernel
theorem dX11_writeTurn_60 : decode cX11_writeTurn 60 = .ok (.invokevirtual 343, 3) := by decide +kernel
theorem dX11_writeTurn_63 : decode cX11_writeTurn 63 = .ok (.iconst 0, 1) := by decide +kernel
theorem dX11_writeTurn_64 : decode cX11_writeTurn 64 = .ok (.istore 6, 2) := by decide +kernel
theorem dX11_writeTurn_66 : decode cX11_writeTurn 66 = .ok (.iload 6, 2) := by decide +kernel
theorem dX11_writeTurn_68 : decode cX11_writeTurn 68 = .ok (.aload 5, 2) := by decide +kernel
theorem dX11_writeTurn_70 : decode cX11_writeTurn 70 = .ok (.getfield 179, 3) := by decide +kernel
theorem dX11_writeTurn_73 : decode cX11_writeTurn 73 = .ok (.if_icmp .ge 23, 3) := by decide +kernel
theorem dX11_writeTurn_76 : decode cX11_writeTurn 76 = .ok (.aload_n 0, 1) := by decide +kernel
theorem dX11_writeTurn_77 : decode cX11_writeTurn 77 = .ok (.getfield 29, 3) := by decide +kernel
theorem dX11_writeTurn_80 : decode cX11_writeTurn 80 = .ok (.aload 5, 2) := by decide +kernel
theorem dX11_writeTurn_82 : decode cX11_writeTurn 82 = .ok (.iload 6, 2) := by decide +kernel
theorem dX11_writeTurn_84 : decode cX11_writeTurn 84 = .ok (.invokevirtual 201, 3) := by decide +kernel
theorem dX11_writeTurn_87 : decode cX11_writeTurn 87 = .ok (.invokevirtual 343, 3) := by decide +kernel
theorem dX11_writeTurn_90 : decode cX11_writeTurn 90 = .ok (.iinc 6 1, 3) := by decide +kernel
theorem dX11_writeTurn_93 : decode cX11_writeTurn 93 = .ok (.goto (-27), 3) := by decide +kernel
theorem dX11_writeTurn_96 : decode cX11_writeTurn 96 = .ok (.iinc 4 1, 3) := by decide +kernel
theorem dX11_writeTurn_99 : decode cX11_writeTurn 99 = .ok (.goto (-82), 3) := by decide +kernel
theorem dX11_writeTurn_102 : decode cX11_writeTurn 102 = .ok (.aload_n 0, 1) := by decide +kernel
theorem dX11_writeTurn_103 : decode cX11_writeTurn 103 = .ok (.getfield 42, 3) := by decide +kernel
theorem dX11_writeTurn_106 : decode cX11_writeTurn 106 = .ok (.iload_n 2, 1) := by decide +kernel
theorem dX11_writeTurn_107 : decode cX11_writeTurn 107 = .ok (.invokevirtual 242, 3) := by decide +kernel
theorem dX11_writeTurn_110 : decode cX11_writeTurn 110 = .ok (.getfield 351, 3) := by decide +kernel
theorem dX11_writeTurn_113 : decode cX11_writeTurn 113 = .ok (.istore 4, 2) := by decide +kernel
theorem dX11_writeTurn_115 : decode cX11_writeTurn 115 = .ok (.aload_n 0, 1) := by decide +kernel
theorem dX11_writeTurn_116 : decode cX11_writeTurn 116 = .ok (.getfield 29, 3) := by decide +kernel
theorem dX11_writeTurn_119 : decode cX11_writeTurn 119 = .ok (.iload 4, 2) := by decide +kernel
theorem dX11_writeTurn_121 : decode cX11_writeTurn 121 = .ok (.bipush 8, 2) := by decide +kernel
theorem dX11_writeTurn_123 : decode cX11_writeTurn 123 = .ok (.ishr, 1) := by decide +kernel
theorem dX11_writeTurn_124 : decode cX11_writeTurn 124 = .ok (.invokevirtual 343, 3) := by decide +kernel
theorem dX11_writeTurn_127 : decode cX11_writeTurn 127 = .ok (.aload_n 0, 1) := by decide +kernel
theorem dX11_writeTurn_128 : decode cX11_writeTurn 128 = .ok (.getfield 29, 3) := by decide +kernel
theorem dX11_writeTurn_131 : decode cX11_writeTurn 131 = .ok (.iload 4, 2) := by decide +kernel
theorem dX11_writeTurn_133 : decode cX11_writeTurn 133 = .ok (.invokevirtual 343, 3) := by decide +kernel
theorem dX11_writeTurn_136 : decode cX11_writeTurn 136 = .ok (.return_, 1) := by decide +kernel
theorem dX11_judge_0 : decode cX11_judge 0 = .ok (.aload_n 0, 1) := by decide +kernel
theorem dX11_judge_1 : decode cX11_judge 1 = .ok (.getfield 56, 3) := by decide +kernel
theorem dX11_judge_4 : decode cX11_judge 4 = .ok (.aload_n 0, 1) := by decide +kernel
theorem dX11_judge_5 : decode cX11_judge 5 = .ok (.getfield 25, 3) := by decide +kernel
theorem dX11_judge_8 : decode cX11_judge 8 = .ok (.iload_n 1, 1) := by decide +kernel
theorem dX11_judge_9 : decode cX11_judge 9 = .ok (.invokevirtual 354, 3) := by decide +kernel
theorem dX11_judge_12 : decode cX11_judge 12 = .ok (.aload_n 0, 1) := by decide +kernel
theorem dX11_judge_13 : decode cX11_judge 13 = .ok (.getfield 56, 3) := by decide +kernel
theorem dX11_judge_16 : decode cX11_judge 16 = .ok (.aload_n 0, 1) := by decide +kernel
theorem dX11_judge_17 : decode cX11_judge 17 = .ok (.getfield 9, 3) := by decide +kernel
theorem dX11_judge_20 : decode cX11_judge 20 = .ok (.aload_n 0, 1) := by decide +kernel
theorem dX11_judge_21 : decode cX11_judge 21 = .ok (.getfield 60, 3) := by decide +kernel
theorem dX11_judge_24 : decode cX11_judge 24 = .ok (.invokevirtual 358, 3) := by decide +kernel
theorem dX11_judge_27 : decode cX11_judge 27 = .ok (.astore_n 2, 1) := by decide +kernel
theorem dX11_judge_28 : decode cX11_judge 28 = .ok (.aload_n 0, 1) := by decide +kernel
theorem dX11_judge_29 : decode cX11_judge 29 = .ok (.getfield 56, 3) := by decide +kernel
theorem dX11_judge_32 : decode cX11_judge 32 = .ok (.aload_n 2, 1) := by decide +kernel
theorem dX11_judge_33 : decode cX11_judge 33 = .ok (.invokevirtual 362, 3) := by decide +kernel
theorem dX11_judge_36 : decode cX11_judge 36 = .ok (.aload_n 0, 1) := by decide +kernel
theorem dX11_judge_37 : decode cX11_judge 37 = .ok (.getfield 56, 3) := by decide +kernel
theorem dX11_judge_40 : decode cX11_judge 40 = .ok (.invokevirtual 365, 3) := by decide +kernel
theorem dX11_judge_43 : decode cX11_judge 43 = .ok (.aload_n 0, 1) := by decide +kernel
theorem dX11_judge_44 : decode cX11_judge 44 = .ok (.getfield 25, 3) := by decide +kernel
theorem dX11_judge_47 : decode cX11_judge 47 = .ok (.invokevirtual 195, 3) := by decide +kernel
theorem dX11_judge_50 : decode cX11_judge 50 = .ok (.aload_n 0, 1) := by decide +kernel
theorem dX11_judge_51 : decode cX11_judge 51 = .ok (.getfield 56, 3) := by decide +kernel
theorem dX11_judge_54 : decode cX11_judge 54 = .ok (.invokevirtual 299, 3) := by decide +kernel
theorem dX11_judge_57 : decode cX11_judge 57 = .ok (.ifCond .eq 28, 3) := by decide +kernel
theorem dX11_judge_60 : decode cX11_judge 60 = .ok (.aload_n 0, 1) := by decide +kernel
theorem dX11_judge_61 : decode cX11_judge 61 = .ok (.getfield 42, 3) := by decide +kernel
theorem dX11_judge_64 : decode cX11_judge 64 = .ok (.aload_n 2, 1) := by decide +kernel
theorem dX11_judge_65 : decode cX11_judge 65 = .ok (.invokevirtual 323, 3) := by decide +kernel
theorem dX11_judge_68 : decode cX11_judge 68 = .ok (.aload_n 0, 1) := by decide +kernel
theorem dX11_judge_69 : decode cX11_judge 69 = .ok (.iconst (-1), 1) := by decide +kernel
theorem dX11_judge_70 : decode cX11_judge 70 = .ok (.putfield 67, 3) := by decide +kernel
theorem dX11_judge_73 : decode cX11_judge 73 = .ok (.aload_n 0, 1) := by decide +kernel
theorem dX11_judge_74 : decode cX11_judge 74 = .ok (.getfield 56, 3) := by decide +kernel
theorem dX11_judge_77 : decode cX11_judge 77 = .ok (.aload_n 2, 1) := by decide +kernel
theorem dX11_judge_78 : decode cX11_judge 78 = .ok (.aload_n 0, 1) := by decide +kernel
theorem dX11_judge_79 : decode cX11_judge 79 = .ok (.getfield 42, 3) := by decide +kernel
theorem dX11_judge_82 : decode cX11_judge 82 = .ok (.invokevirtual 368, 3) := by decide +kernel
theorem dX11_judge_85 : decode cX11_judge 85 = .ok (.aload_n 2, 1) := by decide +kernel
theorem dX11_judge_86 : decode cX11_judge 86 = .ok (.areturn, 1) := by decide +kernel
theorem dX11_table_0 : decode cX11_table 0 = .ok (.ldc2_w 372, 3) := by decide +kernel
theorem dX11_table_3 : decode cX11_table 3 = .ok (.bipush 100, 2) := by decide +kernel
theorem dX11_table_5 : decode cX11_table 5 = .ok (.iload_n 1, 1) := by decide +kernel
theorem dX11_table_6 : decode cX11_table 6 = .ok (.iload_n 1, 1) := by decide +kernel
theorem dX11_table_7 : decode cX11_table 7 = .ok (.imul, 1) := by decide +kernel
theorem dX11_table_8 : decode cX11_table 8 = .ok (.isub, 1) := by decide +kernel
theorem dX11_table_9 : decode cX11_table 9 = .ok (.i2l, 1) := by decide +kernel
theorem dX11_table_10 : decode cX11_table 10 = .ok (.lmul, 1) := by decide +kernel
theorem dX11_table_11 : decode cX11_table 11 = .ok (.iload_n 0, 1) := by decide +kernel
theorem dX11_table_12 : decode cX11_table 12 = .ok (.i2l, 1) := by decide +kernel
theorem dX11_table_13 : decode cX11_table 13 = .ok (.lmul, 1) := by decide +kernel
theorem dX11_table_14 : decode cX11_table 14 = .ok (.sipush 1440, 3) := by decide +kernel
theorem dX11_table_17 : decode cX11_table 17 = .ok (.iload_n 0, 1) := by decide +kernel
theorem dX11_table_18 : decode cX11_table 18 = .ok (.isub, 1) := by decide +kernel
theorem dX11_table_19 : decode cX11_table 19 = .ok (.i2l, 1) := by decide +kernel
theorem dX11_table_20 : decode cX11_table 20 = .ok (.lmul, 1) := by decide +kernel
theorem dX11_table_21 : decode cX11_table 21 = .ok (.ldc2_w 374, 3) := by decide +kernel
theorem dX11_table_24 : decode cX11_table 24 = .ok (.ldiv, 1) := by decide +kernel
theorem dX11_table_25 : decode cX11_table 25 = .ok (.l2i, 1) := by decide +kernel
theorem dX11_table_26 : decode cX11_table 26 = .ok (.ireturn, 1) := by decide +kernel
theorem dX11_counts_0 : decode cX11_counts 0 = .ok (.iload_n 0, 1) := by decide +kernel
theorem dX11_counts_1 : decode cX11_counts 1 = .ok (.ifCond .eq 19, 3) := by decide +kernel
theorem dX11_counts_4 : decode cX11_counts 4 = .ok (.iload_n 0, 1) := by decide +kernel
theorem dX11_counts_5 : decode cX11_counts 5 = .ok (.iconst 3, 1) := by decide +kernel
theorem dX11_counts_6 : decode cX11_counts 6 = .ok (.if_icmp .eq 14, 3) := by decide +kernel
theorem dX11_counts_9 : decode cX11_counts 9 = .ok (.iload_n 0, 1) := by decide +kernel
theorem dX11_counts_10 : decode cX11_counts 10 = .ok (.iconst 4, 1) := by decide +kernel
theorem dX11_counts_11 : decode cX11_counts 11 = .ok (.if_icmp .eq 9, 3) := by decide +kernel
theorem dX11_counts_14 : decode cX11_counts 14 = .ok (.iload_n 0, 1) := by decide +kernel
theorem dX11_counts_15 : decode cX11_counts 15 = .ok (.bipush 6, 2) := by decide +kernel
theorem dX11_counts_17 : decode cX11_counts 17 = .ok (.if_icmp .ne 7, 3) := by decide +kernel
theorem dX11_counts_20 : decode cX11_counts 20 = .ok (.iconst 1, 1) := by decide +kernel
theorem dX11_counts_21 : decode cX11_counts 21 = .ok (.goto 4, 3) := by decide +kernel
theorem dX11_counts_24 : decode cX11_counts 24 = .ok (.iconst 0, 1) := by decide +kernel
theorem dX11_counts_25 : decode cX11_counts 25 = .ok (.ireturn, 1) := by decide +kernel
theorem dX12_init_0 : decode cX12_init 0 = .ok (.aload_n 0, 1) := by decide +kernel
theorem dX12_init_1 : decode cX12_init 1 = .ok (.invokespecial 1, 3) := by decide +kernel
theorem dX12_init_4 : decode cX12_init 4 = .ok (.aload_n 0, 1) := by decide +kernel
theorem dX12_init_5 : decode cX12_init 5 = .ok (.bipush 60, 2) := by decide +kernel
theorem dX12_init_7 : decode cX12_init 7 = .ok (.newarray .int, 2) := by decide +kernel
theorem dX12_init_9 : decode cX12_init 9 = .ok (.putfield 9, 3) := by decide +kernel
theorem dX12_init_12 : decode cX12_init 12 = .ok (.aload_n 0, 1) := by decide +kernel
theorem dX12_init_13 : decode cX12_init 13 = .ok (.sipush 800, 3) := by decide +kernel
theorem dX12_init_16 : decode cX12_init 16 = .ok (.newarray .int, 2) := by decide +kernel
theorem dX12_init_18 : decode cX12_init 18 = .ok (.putfield 13, 3) := by decide +kernel
theorem dX12_init_21 : decode cX12_init 21 = .ok (.aload_n 0, 1) := by decide +kernel
theorem dX12_init_22 : decode cX12_init 22 = .ok (.sipush 400, 3) := by decide +kernel
theorem dX12_init_25 : decode cX12_init 25 = .ok (.newarray .int, 2) := by decide +kernel
theorem dX12_init_27 : decode cX12_init 27 = .ok (.putfield 16, 3) := by decide +kernel
theorem dX12_init_30 : decode cX12_init 30 = .ok (.aload_n 0, 1) := by decide +kernel
theorem dX12_init_31 : decode cX12_init 31 = .ok (.sipush 400, 3) := by decide +kernel
theorem dX12_init_34 : decode cX12_init 34 = .ok (.newarray .int, 2) := by decide +kernel
theorem dX12_init_36 : decode cX12_init 36 = .ok (.putfield 19, 3) := by decide +kernel
theorem dX12_init_39 : decode cX12_init 39 = .ok (.aload_n 0, 1) := by decide +kernel
theorem dX12_init_40 : decode cX12_init 40 = .ok (.sipush 8800, 3) := by decide +kernel
theorem dX12_init_43 : decode cX12_init 43 = .ok (.newarray .int, 2) := by decide +kernel
theorem dX12_init_45 : decode cX12_init 45 = .ok (.putfield 22, 3) := by decide +kernel
theorem dX12_init_48 : decode cX12_init 48 = .ok (.aload_n 0, 1) := by decide +kernel
theorem dX12_init_49 : decode cX12_init 49 = .ok (.sipush 400, 3) := by decide +kernel
theorem dX12_init_52 : decode cX12_init 52 = .ok (.newarray .int, 2) := by decide +kernel
theorem dX12_init_54 : decode cX12_init 54 = .ok (.putfield 25, 3) := by decide +kernel
theorem dX12_init_57 : decode cX12_init 57 = .ok (.aload_n 0, 1) := by decide +kernel
theorem dX12_init_58 : decode cX12_init 58 = .ok (.sipush 1600, 3) := by decide +kernel
theorem dX12_init_61 : decode cX12_init 61 = .ok (.newarray .int, 2) := by decide +kernel
theorem dX12_init_63 : decode cX12_init 63 = .ok (.putfield 28, 3) := by decide +kernel
theorem dX12_init_66 : decode cX12_init 66 = .ok (.aload_n 0, 1) := by decide +kernel
theorem dX12_init_67 : decode cX12_init 67 = .ok (.ldc 31, 2) := by decide +kernel
theorem dX12_init_69 : decode cX12_init 69 = .ok (.newarray .int, 2) := by decide +kernel
theorem dX12_init_71 : decode cX12_init 71 = .ok (.putfield 32, 3) := by decide +kernel
theorem dX12_init_74 : decode cX12_init 74 = .ok (.aload_n 0, 1) := by decide +kernel
theorem dX12_init_75 : decode cX12_init 75 = .ok (.sipush 6000, 3) := by decide +kernel
theorem dX12_init_78 : decode cX12_init 78 = .ok (.newarray .int, 2) := by decide +kernel
theorem dX12_init_80 : decode cX12_init 80 = .ok (.putfield 35, 3) := by decide +kernel
theorem dX12_init_83 : decode cX12_init 83 = .ok (.aload_n 0, 1) := by decide +kernel
theorem dX12_init_84 : decode cX12_init 84 = .ok (.sipush 6000, 3) := by decide +kernel
theorem dX12_init_87 : decode cX12_init 87 = .ok (.newarray .int, 2) := by decide +kernel
theorem dX12_init_89 : decode cX12_init 89 = .ok (.putfield 38, 3) := by decide +kernel
theorem dX12_init_92 : decode cX12_init 92 = .ok (.aload_n 0, 1) := by decide +kernel
theorem dX12_init_93 : decode cX12_init 93 = .ok (.ldc 41, 2) := by decide +kernel
theorem dX12_init_95 : decode cX12_init 95 = .ok (.newarray .int, 2) := by decide +kernel
theorem dX12_init_97 : decode cX12_init 97 = .ok (.putfield 42, 3) := by decide +kernel
theorem dX12_init_100 : decode cX12_init 100 = .ok (.aload_n 0, 1) := by decide +kernel
theorem dX12_init_101 : decode cX12_init 101 = .ok (.sipush 6000, 3) := by decide +kernel
theorem dX12_init_104 : decode cX12_init 104 = .ok (.newarray .int, 2) := by decide +kernel
theorem dX12_init_106 : decode cX12_init 106 = .ok (.putfield 45, 3) := by decide +kernel
theorem dX12_init_109 : decode cX12_init 109 = .ok (.aload_n 0, 1) := by decide +kernel
theorem dX12_init_110 : decode cX12_init 110 = .ok (.sipush 8000, 3) := by decide +kernel
theorem dX12_init_113 : decode cX12_init 113 = .ok (.newarray .int, 2) := by decide +kernel
theorem dX12_init_115 : decode cX12_init 115 = .ok (.putfield 48, 3) := by decide +kernel
theorem dX12_init_118 : decode cX12_init 118 = .ok (.aload_n 0, 1) := by decide +kernel
theorem dX12_init_119 : decode cX12_init 119 = .ok (.bipush 40, 2) := by decide +kernel
theorem dX12_init_121 : decode cX12_init 121 = .ok (.newarray .int, 2) := by decide +kernel
theorem dX12_init_123 : decode cX12_init 123 = .ok (.putfield 51, 3) := by decide +kernel
theorem dX12_init_126 : decode cX12_init 126 = .ok (.aload_n 0, 1) := by decide +kernel
theorem dX12_init_127 : decode cX12_init 127 = .ok (.bipush 40, 2) := by decide +kernel
theorem dX12_init_129 : decode cX12_init 129 = .ok (.newarray .int, 2) := by decide +kernel
theorem dX12_init_131 : decode cX12_init 131 = .ok (.putfield 54, 3) := by decide +kernel
theorem dX12_init_134 : decode cX12_init 134 = .ok (.aload_n 0, 1) := by decide +kernel
theorem dX12_init_135 : decode cX12_init 135 = .ok (.bipush 40, 2) := by decide +kernel
theorem dX12_init_137 : decode cX12_init 137 = .ok (.newarray .int, 2) := by decide +kernel
theorem dX12_init_139 : decode cX12_init 139 = .ok (.putfield 57, 3) := by decide +kernel
theorem dX12_init_142 : decode cX12_init 142 = .ok (.aload_n 0, 1) := by decide +kernel
theorem dX12_init_143 : decode cX12_init 143 = .ok (.bipush 40, 2) := by decide +kernel
theorem dX12_init_145 : decode cX12_init 145 = .ok (.newarray .int, 2) := by decide +kernel
theorem dX12_init_147 : decode cX12_init 147 = .ok (.putfield 60, 3) := by decide +kernel
theorem dX12_init_150 : decode cX12_init 150 = .ok (.aload_n 0, 1) := by decide +kernel
theorem dX12_init_151 : decode cX12_init 151 = .ok (.bipush 40, 2) := by decide +kernel
theorem dX12_init_153 : decode cX12_init 153 = .ok (.newarray .int, 2) := by decide +kernel
theorem dX12_init_155 : decode cX12_init 155 = .ok (.putfield 63, 3) := by decide +kernel
theorem dX12_init_158 : decode cX12_init 158 = .ok (.aload_n 0, 1) := by decide +kernel
theorem dX12_init_159 : decode cX12_init 159 = .ok (.bipush 40, 2) := by decide +kernel
theorem dX12_init_161 : decode cX12_init 161 = .ok (.newarray .int, 2) := by decide +kernel
theorem dX12_init_163 : decode cX12_init 163 = .ok (.putfield 66, 3) := by decide +kernel
theorem dX12_init_166 : decode cX12_init 166 = .ok (.aload_n 0, 1) := by decide +kernel
theorem dX12_init_167 : decode cX12_init 167 = .ok (.sipush 1600, 3) := by decide +kernel
theorem dX12_init_170 : decode cX12_init 170 = .ok (.newarray .int, 2) := by decide +kernel
theorem dX12_init_172 : decode cX12_init 172 = .ok (.putfield 69, 3) := by decide +kernel
theorem dX12_init_175 : decode cX12_init 175 = .ok (.aload_n 0, 1) := by decide +kernel
theorem dX12_init_176 : decode cX12_init 176 = .ok (.iconst 4, 1) := by decide +kernel
theorem dX12_init_177 : decode cX12_init 177 = .ok (.newarray .int, 2) := by decide +kernel
theorem dX12_init_179 : decode cX12_init 179 = .ok (.putfield 72, 3) := by decide +kernel
theorem dX12_init_182 : decode cX12_init 182 = .ok (.aload_n 0, 1) := by decide +kernel
theorem dX12_init_183 : decode cX12_init 183 = .ok (.iconst 4, 1) := by decide +kernel
theorem dX12_init_184 : decode cX12_init 184 = .ok (.newarray .int, 2) := by decide +kernel
theorem dX12_init_186 : decode cX12_init 186 = .ok (.putfield 75, 3) := by decide +kernel
theorem dX12_init_189 : decode cX12_init 189 = .ok (.aload_n 0, 1) := by decide +kernel
theorem dX12_init_190 : decode cX12_init 190 = .ok (.iconst 4, 1) := by decide +kernel
theorem dX12_init_191 : decode cX12_init 191 = .ok (.newarray .int, 2) := by decide +kernel
theorem dX12_init_193 : decode cX12_init 193 = .ok (.putfield 78, 3) := by decide +kernel
theorem dX12_init_196 : decode cX12_init 196 = .ok (.aload_n 0, 1) := by decide +kernel
theorem dX12_init_197 : decode cX12_init 197 = .ok (.iconst 4, 1) := by decide +kernel
theorem dX12_init_198 : decode cX12_init 198 = .ok (.newarray .int, 2) := by decide +kernel
theorem dX12_init_200 : decode cX12_init 200 = .ok (.putfield 81, 3) := by decide +kernel
theorem dX12_init_203 : decode cX12_init 203 = .ok (.aload_n 0, 1) := by decide +kernel
theorem dX12_init_204 : decode cX12_init 204 = .ok (.iconst 4, 1) := by decide +kernel
theorem dX12_init_205 : decode cX12_init 205 = .ok (.newarray .int, 2) := by decide +kernel
theorem dX12_init_207 : decode cX12_init 207 = .ok (.putfield 84, 3) := by decide +kernel
theorem dX12_init_210 : decode cX12_init 210 = .ok (.aload_n 0, 1) := by decide +kernel
theorem dX12_init_211 : decode cX12_init 211 = .ok (.iconst 4, 1) := by decide +kernel
theorem dX12_init_212 : decode cX12_init 212 = .ok (.newarray .int, 2) := by decide +kernel
theorem dX12_init_214 : decode cX12_init 214 = .ok (.putfield 87, 3) := by decide +kernel
theorem dX12_init_217 : decode cX12_init 217 = .ok (.aload_n 0, 1) := by decide +kernel
theorem dX12_init_218 : decode cX12_init 218 = .ok (.iconst 4, 1) := by decide +kernel
theorem dX12_init_219 : decode cX12_init 219 = .ok (.newarray .int, 2) := by decide +kernel
theorem dX12_init_221 : decode cX12_init 221 = .ok (.putfield 90, 3) := by decide +kernel
theorem dX12_init_224 : decode cX12_init 224 = .ok (.aload_n 0, 1) := by decide +kernel
theorem dX12_init_225 : decode cX12_init 225 = .ok (.iconst 4, 1) := by decide +kernel
theorem dX12_init_226 : decode cX12_init 226 = .ok (.newarray .int, 2) := by decide +kernel
theorem dX12_init_228 : decode cX12_init 228 = .ok (.putfield 93, 3) := by decide +kernel
theorem dX12_init_231 : decode cX12_init 231 = .ok (.aload_n 0, 1) := by decide +kernel
theorem dX12_init_232 : decode cX12_init 232 = .ok (.iconst 4, 1) := by decide +kernel
theorem dX12_init_233 : decode cX12_init 233 = .ok (.newarray .int, 2) := by decide +kernel
theorem dX12_init_235 : decode cX12_init 235 = .ok (.putfield 96, 3) := by decide +kernel
theorem dX12_init_238 : decode cX12_init 238 = .ok (.aload_n 0, 1) := by decide +kernel
theorem dX12_init_239 : decode cX12_init 239 = .ok (.iconst 4, 1) := by decide +kernel
theorem dX12_init_240 : decode cX12_init 240 = .ok (.newarray .int, 2) := by decide +kernel
theorem dX12_init_242 : decode cX12_init 242 = .ok (.putfield 99, 3) := by decide +kernel
theorem dX12_init_245 : decode cX12_init 245 = .ok (.aload_n 0, 1) := by decide +kernel
theorem dX12_init_246 : decode cX12_init 246 = .ok (.iconst 4, 1) := by decide +kernel
theorem dX12_init_247 : decode cX12_init 247 = .ok (.newarray .int, 2) := by decide +kernel
theorem dX12_init_249 : decode cX12_init 249 = .ok (.putfield 102, 3) := by decide +kernel
theorem dX12_init_252 : decode cX12_init 252 = .ok (.aload_n 0, 1) := by decide +kernel
theorem dX12_init_253 : decode cX12_init 253 = .ok (.iconst 4, 1) := by decide +kernel
theorem dX12_init_254 : decode cX12_init 254 = .ok (.newarray .int, 2) := by decide +kernel
theorem dX12_init_256 : decode cX12_init 256 = .ok (.putfield 105, 3) := by decide +kernel
theorem dX12_init_259 : decode cX12_init 259 = .ok (.aload_n 0, 1) := by decide +kernel
theorem dX12_init_260 : decode cX12_init 260 = .ok (.iconst 4, 1) := by decide +kernel
theorem dX12_init_261 : decode cX12_init 261 = .ok (.newarray .int, 2) := by decide +kernel
theorem dX12_init_263 : decode cX12_init 263 = .ok (.putfield 108, 3) := by decide +kernel
theorem dX12_init_266 : decode cX12_init 266 = .ok (.aload_n 0, 1) := by decide +kernel
theorem dX12_init_267 : decode cX12_init 267 = .ok (.iconst 4, 1) := by decide +kernel
theorem dX12_init_268 : decode cX12_init 268 = .ok (.newarray .int, 2) := by decide +kernel
theorem dX12_init_270 : decode cX12_init 270 = .ok (.putfield 111, 3) := by decide +kernel
theorem dX12_init_273 : decode cX12_init 273 = .ok (.aload_n 0, 1) := by decide +kernel
theorem dX12_init_274 : decode cX12_init 274 = .ok (.iconst 4, 1) := by decide +kernel
theorem dX12_init_275 : decode cX12_init 275 = .ok (.newarray .int, 2) := by decide +kernel
theorem dX12_init_277 : decode cX12_init 277 = .ok (.putfield 114, 3) := by decide +kernel
theorem dX12_init_280 : decode cX12_init 280 = .ok (.aload_n 0, 1) := by decide +kernel
theorem dX12_init_281 : decode cX12_init 281 = .ok (.iconst 4, 1) := by decide +kernel
theorem dX12_init_282 : decode cX12_init 282 = .ok (.newarray .int, 2) := by decide +kernel
theorem dX12_init_284 : decode cX12_init 284 = .ok (.putfield 117, 3) := by decide +kernel
theorem dX12_init_287 : decode cX12_init 287 = .ok (.aload_n 0, 1) := by decide +kernel
theorem dX12_init_288 : decode cX12_init 288 = .ok (.iconst 4, 1) := by decide +kernel
theorem dX12_init_289 : decode cX12_init 289 = .ok (.newarray .int, 2) := by decide +kernel
theorem dX12_init_291 : decode cX12_init 291 = .ok (.putfield 120, 3) := by decide +kernel
theorem dX12_init_294 : decode cX12_init 294 = .ok (.aload_n 0, 1) := by decide +kernel
theorem dX12_init_295 : decode cX12_init 295 = .ok (.iconst 4, 1) := by decide +kernel
theorem dX12_init_296 : decode cX12_init 296 = .ok (.newarray .boolean, 2) := by decide +kernel
theorem dX12_init_298 : decode cX12_init 298 = .ok (.putfield 123, 3) := by decide +kernel
theorem dX12_init_301 : decode cX12_init 301 = .ok (.aload_n 0, 1) := by decide +kernel
theorem dX12_init_302 : decode cX12_init 302 = .ok (.bipush 44, 2) := by decide +kernel
theorem dX12_init_304 : decode cX12_init 304 = .ok (.newarray .int, 2) := by decide +kernel
theorem dX12_init_306 : decode cX12_init 306 = .ok (.putfield 127, 3) := by decide +kernel
theorem dX12_init_309 : decode cX12_init 309 = .ok (.aload_n 0, 1) := by decide +kernel
theorem dX12_init_310 : decode cX12_init 310 = .ok (.bipush 44, 2) := by decide +kernel
theorem dX12_init_312 : decode cX12_init 312 = .ok (.newarray .int, 2) := by decide +kernel
theorem dX12_init_314 : decode cX12_init 314 = .ok (.putfield 130, 3) := by decide +kernel
theorem dX12_init_317 : decode cX12_init 317 = .ok (.aload_n 0, 1) := by decide +kernel
theorem dX12_init_318 : decode cX12_init 318 = .ok (.bipush 44, 2) := by decide +kernel
theorem dX12_init_320 : decode cX12_init 320 = .ok (.newarray .int, 2) := by decide +kernel
theorem dX12_init_322 : decode cX12_init 322 = .ok (.putfield 133, 3) := by decide +kernel
theorem dX12_init_325 : decode cX12_init 325 = .ok (.aload_n 0, 1) := by decide +kernel
theorem dX12_init_326 : decode cX12_init 326 = .ok (.bipush 44, 2) := by decide +kernel
theorem dX12_init_328 : decode cX12_init 328 = .ok (.newarray .int, 2) := by decide +kernel
theorem dX12_init_330 : decode cX12_init 330 = .ok (.putfield 136, 3) := by decide +kernel
theorem dX12_init_333 : decode cX12_init 333 = .ok (.aload_n 0, 1) := by decide +kernel
theorem dX12_init_334 : decode cX12_init 334 = .ok (.bipush 44, 2) := by decide +kernel
theorem dX12_init_336 : decode cX12_init 336 = .ok (.newarray .int, 2) := by decide +kernel
theorem dX12_init_338 : decode cX12_init 338 = .ok (.putfield 139, 3) := by decide +kernel
theorem dX12_init_341 : decode cX12_init 341 = .ok (.aload_n 0, 1) := by decide +kernel
theorem dX12_init_342 : decode cX12_init 342 = .ok (.bipush 44, 2) := by decide +kernel
theorem dX12_init_344 : decode cX12_init 344 = .ok (.newarray .int, 2) := by decide +kernel
theorem dX12_init_346 : decode cX12_init 346 = .ok (.putfield 142, 3) := by decide +kernel
theorem dX12_init_349 : decode cX12_init 349 = .ok (.aload_n 0, 1) := by decide +kernel
theorem dX12_init_350 : decode cX12_init 350 = .ok (.sipush 6000, 3) := by decide +kernel
theorem dX12_init_353 : decode cX12_init 353 = .ok (.newarray .int, 2) := by decide +kernel
theorem dX12_init_355 : decode cX12_init 355 = .ok (.putfield 145, 3) := by decide +kernel
theorem dX12_init_358 : decode cX12_init 358 = .ok (.aload_n 0, 1) := by decide +kernel
theorem dX12_init_359 : decode cX12_init 359 = .ok (.sipush 6000, 3) := by decide +kernel
theorem dX12_init_362 : decode cX12_init 362 = .ok (.newarray .int, 2) := by decide +kernel
theorem dX12_init_364 : decode cX12_init 364 = .ok (.putfield 148, 3) := by decide +kernel
theorem dX12_init_367 : decode cX12_init 367 = .ok (.aload_n 0, 1) := by decide +kernel
theorem dX12_init_368 : decode cX12_init 368 = .ok (.sipush 6000, 3) := by decide +kernel
theorem dX12_init_371 : decode cX12_init 371 = .ok (.newarray .int, 2) := by decide +kernel
theorem dX12_init_373 : decode cX12_init 373 = .ok (.putfield 151, 3) := by decide +kernel
theorem dX12_init_376 : decode cX12_init 376 = .ok (.aload_n 0, 1) := by decide +kernel
theorem dX12_init_377 : decode cX12_init 377 = .ok (.sipush 6000, 3) := by decide +kernel
theorem dX12_init_380 : decode cX12_init 380 = .ok (.newarray .boolean, 2) := by decide +kernel
theorem dX12_init_382 : decode cX12_init 382 = .ok (.putfield 154, 3) := by decide +kernel
theorem dX12_init_385 : decode cX12_init 385 = .ok (.aload_n 0, 1) := by decide +kernel
theorem dX12_init_386 : decode cX12_init 386 = .ok (.sipush 6000, 3) := by decide +kernel
theorem dX12_init_389 : decode cX12_init 389 = .ok (.newarray .boolean, 2) := by decide +kernel
theorem dX12_init_391 : decode cX12_init 391 = .ok (.putfield 157, 3) := by decide +kernel
theorem dX12_init_394 : decode cX12_init 394 = .ok (.aload_n 0, 1) := by decide +kernel
theorem dX12_init_395 : decode cX12_init 395 = .ok (.sipush 6000, 3) := by decide +kernel
theorem dX12_init_398 : decode cX12_init 398 = .ok (.newarray .boolean, 2) := by decide +kernel
theorem dX12_init_400 : decode cX12_init 400 = .ok (.putfield 160, 3) := by decide +kernel
theorem dX12_init_403 : decode cX12_init 403 = .ok (.aload_n 0, 1) := by decide +kernel
theorem dX12_init_404 : decode cX12_init 404 = .ok (.bipush 6, 2) := by decide +kernel
theorem dX12_init_406 : decode cX12_init 406 = .ok (.newarray .int, 2) := by decide +kernel
theorem dX12_init_408 : decode cX12_init 408 = .ok (.putfield 163, 3) := by decide +kernel
theorem dX12_init_411 : decode cX12_init 411 = .ok (.aload_n 0, 1) := by decide +kernel
theorem dX12_init_412 : decode cX12_init 412 = .ok (.sipush 1800, 3) := by decide +kernel
theorem dX12_init_415 : decode cX12_init 415 = .ok (.newarray .int, 2) := by decide +kernel
theorem dX12_init_417 : decode cX12_init 417 = .ok (.putfield 166, 3) := by decide +kernel
theorem dX12_init_420 : decode cX12_init 420 = .ok (.aload_n 0, 1) := by decide +kernel
theorem dX12_init_421 : decode cX12_init 421 = .ok (.iconst 4, 1) := by decide +kernel
theorem dX12_init_422 : decode cX12_init 422 = .ok (.newarray .int, 2) := by decide +kernel
theorem dX12_init_424 : decode cX12_init 424 = .ok (.putfield 169, 3) := by decide +kernel
theorem dX12_init_427 : decode cX12_init 427 = .ok (.aload_n 0, 1) := by decide +kernel
theorem dX12_init_428 : decode cX12_init 428 = .ok (.sipush 600, 3) := by decide +kernel
theorem dX12_init_431 : decode cX12_init 431 = .ok (.newarray .int, 2) := by decide +kernel
theorem dX12_init_433 : decode cX12_init 433 = .ok (.putfield 172, 3) := by decide +kernel
theorem dX12_init_436 : decode cX12_init 436 = .ok (.return_, 1) := by decide +kernel
theorem dX12_thrown_0 : decode cX12_thrown 0 = .ok (.aload_n 0, 1) := by decide +kernel
theorem dX12_thrown_1 : decode cX12_thrown 1 = .ok (.getfield 175, 3) := by decide +kernel
theorem dX12_thrown_4 : decode cX12_thrown 4 = .ok (.ireturn, 1) := by decide +kernel
theorem dX12_fail_0 : decode cX12_fail 0 = .ok (.aload_n 0, 1) := by decide +kernel
theorem dX12_fail_1 : decode cX12_fail 1 = .ok (.iconst 1, 1) := by decide +kernel
theorem dX12_fail_2 : decode cX12_fail 2 = .ok (.putfield 175, 3) := by decide +kernel
theorem dX12_fail_5 : decode cX12_fail 5 = .ok (.iconst 0, 1) := by decide +kernel
theorem dX12_fail_6 : decode cX12_fail 6 = .ok (.ireturn, 1) := by decide +kernel
theorem dX12_side_0 : decode cX12_side 0 = .ok (.aload_n 0, 1) := by decide +kernel
theorem dX12_side_1 : decode cX12_side 1 = .ok (.iconst 0, 1) := by decide +kernel
theorem dX12_side_2 : decode cX12_side 2 = .ok (.putfield 175, 3) := by decide +kernel
theorem dX12_side_5 : decode cX12_side 5 = .ok (.aload_n 0, 1) := by decide +kernel
theorem dX12_side_6 : decode cX12_side 6 = .ok (.getfield 179, 3) := by decide +kernel
theorem dX12_side_9 : decode cX12_side 9 = .ok (.bipush 60, 2) := by decide +kernel
theorem dX12_side_11 : decode cX12_side 11 = .ok (.if_icmp .eq 15, 3) := by decide +kernel
theorem dX12_side_14 : decode cX12_side 14 = .ok (.iload_n 1, 1) := by decide +kernel
theorem dX12_side_15 : decode cX12_side 15 = .ok (.bipush 11, 2) := by decide +kernel
theorem dX12_side_17 : decode cX12_side 17 = .ok (.if_icmp .lt 9, 3) := by decide +kernel
theorem dX12_side_20 : decode cX12_side 20 = .ok (.iload_n 1, 1) := by decide +kernel
theorem dX12_side_21 : decode cX12_side 21 = .ok (.bipush 30, 2) := by decide +kernel
theorem dX12_side_23 : decode cX12_side 23 = .ok (.if_icmp .le 5, 3) := by decide +kernel
theorem dX12_side_26 : decode cX12_side 26 = .ok (.iconst (-1), 1) := by decide +kernel
theorem dX12_side_27 : decode cX12_side 27 = .ok (.ireturn, 1) := by decide +kernel
theorem dX12_side_28 : decode cX12_side 28 = .ok (.aload_n 0, 1) := by decide +kernel
theorem dX12_side_29 : decode cX12_side 29 = .ok (.getfield 9, 3) := by decide +kernel
theorem dX12_side_32 : decode cX12_side 32 = .ok (.aload_n 0, 1) := by decide +kernel
theorem dX12_side_33 : decode cX12_side 33 = .ok (.getfield 179, 3) := by decide +kernel
theorem dX12_side_36 : decode cX12_side 36 = .ok (.iload_n 1, 1) := by decide +kernel
theorem dX12_side_37 : decode cX12_side 37 = .ok (.iastore, 1) := by decide +kernel
theorem dX12_side_38 : decode cX12_side 38 = .ok (.aload_n 0, 1) := by decide +kernel
theorem dX12_side_39 : decode cX12_side 39 = .ok (.dup, 1) := by decide +kernel
theorem dX12_side_40 : decode cX12_side 40 = .ok (.getfield 179, 3) := by decide +kernel
theorem dX12_side_43 : decode cX12_side 43 = .ok (.iconst 1, 1) := by decide +kernel
theorem dX12_side_44 : decode cX12_side 44 = .ok (.iadd, 1) := by decide +kernel
theorem dX12_side_45 : decode cX12_side 45 = .ok (.putfield 179, 3) := by decide +kernel
theorem dX12_side_48 : decode cX12_side 48 = .ok (.aload_n 0, 1) := by decide +kernel
theorem dX12_side_49 : decode cX12_side 49 = .ok (.getfield 179, 3) := by decide +kernel
theorem dX12_side_52 : decode cX12_side 52 = .ok (.iconst 1, 1) := by decide +kernel
theorem dX12_side_53 : decode cX12_side 53 = .ok (.isub, 1) := by decide +kernel
theorem dX12_side_54 : decode cX12_side 54 = .ok (.ireturn, 1) := by decide +kernel
theorem dX12_isSide_0 : decode cX12_isSide 0 = .ok (.iload_n 1, 1) := by decide +kernel
theorem dX12_isSide_1 : decode cX12_isSide 1 = .ok (.ifCond .lt 15, 3) := by decide +kernel
theorem dX12_isSide_4 : decode cX12_isSide 4 = .ok (.iload_n 1, 1) := by decide +kernel
theorem dX12_isSide_5 : decode cX12_isSide 5 = .ok (.aload_n 0, 1) := by decide +kernel
theorem dX12_isSide_6 : decode cX12_isSide 6 = .ok (.getfield 179, 3) := by decide +kernel
theorem dX12_isSide_9 : decode cX12_isSide 9 = .ok (.if_icmp .ge 7, 3) := by decide +kernel
theorem dX12_isSide_12 : decode cX12_isSide 12 = .ok (.iconst 1, 1) := by decide +kernel
theorem dX12_isSide_13 : decode cX12_isSide 13 = .ok (.goto 4, 3) := by decide +kernel
theorem dX12_isSide_16 : decode cX12_isSide 16 = .ok (.iconst 0, 1) := by decide +kernel
theorem dX12_isSide_17 : decode cX12_isSide 17 = .ok (.ireturn, 1) := by decide +kernel
theorem dX12_isGame_0 : decode cX12_isGame 0 = .ok (.iload_n 1, 1) := by decide +kernel
theorem dX12_isGame_1 : decode cX12_isGame 1 = .ok (.ifCond .lt 15, 3) := by decide +kernel
theorem dX12_isGame_4 : decode cX12_isGame 4 = .ok (.iload_n 1, 1) := by decide +kernel
theorem dX12_isGame_5 : decode cX12_isGame 5 = .ok (.aload_n 0, 1) := by decide +kernel
theorem dX12_isGame_6 : decode cX12_isGame 6 = .ok (.getfield 182, 3) := by decide +kernel
theorem dX12_isGame_9 : decode cX12_isGame 9 = .ok (.if_icmp .ge 7, 3) := by decide +kernel
theorem dX12_isGame_12 : decode cX12_isGame 12 = .ok (.iconst 1, 1) := by decide +kernel
theorem dX12_isGame_13 : decode cX12_isGame 13 = .ok (.goto 4, 3) := by decide +kernel
theorem dX12_isGame_16 : decode cX12_isGame 16 = .ok (.iconst 0, 1) := by decide +kernel
theorem dX12_isGame_17 : decode cX12_isGame 17 = .ok (.ireturn, 1) := by decide +kernel
theorem dX12_player_0 : decode cX12_player 0 = .ok (.aload_n 0, 1) := by decide +kernel
theorem dX12_player_1 : decode cX12_player 1 = .ok (.iconst 0, 1) := by decide +kernel
theorem dX12_player_2 : decode cX12_player 2 = .ok (.putfield 175, 3) := by decide +kernel
theorem dX12_player_5 : decode cX12_player 5 = .ok (.aload_n 0, 1) := by decide +kernel
theorem dX12_player_6 : decode cX12_player 6 = .ok (.iload_n 1, 1) := by decide +kernel
theorem dX12_player_7 : decode cX12_player 7 = .ok (.invokevirtual 185, 3) := by decide +kernel
theorem dX12_player_10 : decode cX12_player 10 = .ok (.ifCond .eq 14, 3) := by decide +kernel
theorem dX12_player_13 : decode cX12_player 13 = .ok (.aload_n 0, 1) := by decide +kernel
theorem dX12_player_14 : decode cX12_player 14 = .ok (.getfield 9, 3) := by decide +kernel
theorem dX12_player_17 : decode cX12_player 17 = .ok (.iload_n 1, 1) := by decide +kernel
theorem dX12_player_18 : decode cX12_player 18 = .ok (.iaload, 1) := by decide +kernel
theorem dX12_player_19 : decode cX12_player 19 = .ok (.bipush 30, 2) := by decide +kernel
theorem dX12_player_21 : decode cX12_player 21 = .ok (.if_icmp .ne 5, 3) := by decide +kernel
theorem dX12_player_24 : decode cX12_player 24 = .ok (.iconst (-1), 1) := by decide +kernel
theorem dX12_player_25 : decode cX12_player 25 = .ok (.ireturn, 1) := by decide +kernel
theorem dX12_player_26 : decode cX12_player 26 = .ok (.aload_n 0, 1) := by decide +kernel
theorem dX12_player_27 : decode cX12_player 27 = .ok (.getfield 9, 3) := by decide +kernel
theorem dX12_player_30 : decode cX12_player 30 = .ok (.iload_n 1, 1) := by decide +kernel
theorem dX12_player_31 : decode cX12_player 31 = .ok (.dup2, 1) := by decide +kernel
theorem dX12_player_32 : decode cX12_player 32 = .ok (.iaload, 1) := by decide +kernel
theorem dX12_player_33 : decode cX12_player 33 = .ok (.iconst 1, 1) := by decide +kernel
theorem dX12_player_34 : decode cX12_player 34 = .ok (.iadd, 1) := by decide +kernel
theorem dX12_player_35 : decode cX12_player 35 = .ok (.iastore, 1) := by decide +kernel
theorem dX12_player_36 : decode cX12_player 36 = .ok (.aload_n 0, 1) := by decide +kernel
theorem dX12_player_37 : decode cX12_player 37 = .ok (.getfield 9, 3) := by decide +kernel
theorem dX12_player_40 : decode cX12_player 40 = .ok (.iload_n 1, 1) := by decide +kernel
theorem dX12_player_41 : decode cX12_player 41 = .ok (.iaload, 1) := by decide +kernel
theorem dX12_player_42 : decode cX12_player 42 = .ok (.iconst 1, 1) := by decide +kernel
theorem dX12_player_43 : decode cX12_player 43 = .ok (.isub, 1) := by decide +kernel
theorem dX12_player_44 : decode cX12_player 44 = .ok (.ireturn, 1) := by decide +kernel
theorem dX12_newGame_0 : decode cX12_newGame 0 = .ok (.aload_n 0, 1) := by decide +kernel
theorem dX12_newGame_1 : decode cX12_newGame 1 = .ok (.getfield 13, 3) := by decide +kernel
theorem dX12_newGame_4 : decode cX12_newGame 4 = .ok (.iconst 2, 1) := by decide +kernel
theorem dX12_newGame_5 : decode cX12_newGame 5 = .ok (.aload_n 0, 1) := by decide +kernel
theorem dX12_newGame_6 : decode cX12_newGame 6 = .ok (.getfield 182, 3) := by decide +kernel
theorem dX12_newGame_9 : decode cX12_newGame 9 = .ok (.imul, 1) := by decide +kernel
theorem dX12_newGame_10 : decode cX12_newGame 10 = .ok (.iload_n 1, 1) := by decide +kernel
theorem dX12_newGame_11 : decode cX12_newGame 11 = .ok (.iastore, 1) := by decide +kernel
theorem dX12_newGame_12 : decode cX12_newGame 12 = .ok (.aload_n 0, 1) := by decide +kernel
theorem dX12_newGame_13 : decode cX12_newGame 13 = .ok (.getfield 13, 3) := by decide +kernel
theorem dX12_newGame_16 : decode cX12_newGame 16 = .ok (.iconst 2, 1) := by decide +kernel
theorem dX12_newGame_17 : decode cX12_newGame 17 = .ok (.aload_n 0, 1) := by decide +kernel
theorem dX12_newGame_18 : decode cX12_newGame 18 = .ok (.getfield 182, 3) := by decide +kernel
theorem dX12_newGame_21 : decode cX12_newGame 21 = .ok (.imul, 1) := by decide +kernel
theorem dX12_newGame_22 : decode cX12_newGame 22 = .ok (.iconst 1, 1) := by decide +kernel
theorem dX12_newGame_23 : decode cX12_newGame 23 = .ok (.iadd, 1) := by decide +kernel
theorem dX12_newGame_24 : decode cX12_newGame 24 = .ok (.iload_n 2, 1) := by decide +kernel
theorem dX12_newGame_25 : decode cX12_newGame 25 = .ok (.iastore, 1) := by decide +kernel
theorem dX12_newGame_26 : decode cX12_newGame 26 = .ok (.aload_n 0, 1) := by decide +kernel
theorem dX12_newGame_27 : decode cX12_newGame 27 = .ok (.getfield 16, 3) := by decide +kernel
theorem dX12_newGame_30 : decode cX12_newGame 30 = .ok (.aload_n 0, 1) := by decide +kernel
theorem dX12_newGame_31 : decode cX12_newGame 31 = .ok (.getfield 182, 3) := by decide +kernel
theorem dX12_newGame_34 : decode cX12_newGame 34 = .ok (.iload_n 3, 1) := by decide +kernel
theorem dX12_newGame_35 : decode cX12_newGame 35 = .ok (.iastore, 1) := by decide +kernel
theorem dX12_newGame_36 : decode cX12_newGame 36 = .ok (.aload_n 0, 1) := by decide +kernel
theorem dX12_newGame_37 : decode cX12_newGame 37 = .ok (.getfield 19, 3) := by decide +kernel
theorem dX12_newGame_40 : decode cX12_newGame 40 = .ok (.aload_n 0, 1) := by decide +kernel
theorem dX12_newGame_41 : decode cX12_newGame 41 = .ok (.getfield 182, 3) := by decide +kernel
theorem dX12_newGame_44 : decode cX12_newGame 44 = .ok (.iload 4, 2) := by decide +kernel
theorem dX12_newGame_46 : decode cX12_newGame 46 = .ok (.iastore, 1) := by decide +kernel
theorem dX12_newGame_47 : decode cX12_newGame 47 = .ok (.aload_n 0, 1) := by decide +kernel
theorem dX12_newGame_48 : decode cX12_newGame 48 = .ok (.getfield 25, 3) := by decide +kernel
theorem dX12_newGame_51 : decode cX12_newGame 51 = .ok (.aload_n 0, 1) := by decide +kernel
theorem dX12_newGame_52 : decode cX12_newGame 52 = .ok (.getfield 182, 3) := by decide +kernel
theorem dX12_newGame_55 : decode cX12_newGame 55 = .ok (.iconst 0, 1) := by decide +kernel
theorem dX12_newGame_56 : decode cX12_newGame 56 = .ok (.iastore, 1) := by decide +kernel
theorem dX12_newGame_57 : decode cX12_newGame 57 = .ok (.iconst 0, 1) := by decide +kernel
theorem dX12_newGame_58 : decode cX12_newGame 58 = .ok (.istore 5, 2) := by decide +kernel
theorem dX12_newGame_60 : decode cX12_newGame 60 = .ok (.iload 5, 2) := by decide +kernel
theorem dX12_newGame_62 : decode cX12_newGame 62 = .ok (.bipush 22, 2) := by decide +kernel
theorem dX12_newGame_64 : decode cX12_newGame 64 = .ok (.if_icmp .ge 29, 3) := by decide +kernel
theorem dX12_newGame_67 : decode cX12_newGame 67 = .ok (.aload_n 0, 1) := by decide +kernel
theorem dX12_newGame_68 : decode cX12_newGame 68 = .ok (.getfield 22, 3) := by decide +kernel
theorem dX12_newGame_71 : decode cX12_newGame 71 = .ok (.bipush 22, 2) := by decide +kernel
theorem dX12_newGame_73 : decode cX12_newGame 73 = .ok (.aload_n 0, 1) := by decide +kernel
theorem dX12_newGame_74 : decode cX12_newGame 74 = .ok (.getfield 182, 3) := by decide +kernel
theorem dX12_newGame_77 : decode cX12_newGame 77 = .ok (.imul, 1) := by decide +kernel
theorem dX12_newGame_78 : decode cX12_newGame 78 = .ok (.iload 5, 2) := by decide +kernel
theorem dX12_newGame_80 : decode cX12_newGame 80 = .ok (.iadd, 1) := by decide +kernel
theorem dX12_newGame_81 : decode cX12_newGame 81 = .ok (.iload 5, 2) := by decide +kernel
theorem dX12_newGame_83 : decode cX12_newGame 83 = .ok (.bipush 11, 2) := by decide +kernel
theorem dX12_newGame_85 : decode cX12_newGame 85 = .ok (.irem, 1) := by decide +kernel
theorem dX12_newGame_86 : decode cX12_newGame 86 = .ok (.iastore, 1) := by decide +kernel
theorem dX12_newGame_87 : decode cX12_newGame 87 = .ok (.iinc 5 1, 3) := by decide +kernel
theorem dX12_newGame_90 : decode cX12_newGame 90 = .ok (.goto (-30), 3) := by decide +kernel
theorem dX12_newGame_93 : decode cX12_newGame 93 = .ok (.aload_n 0, 1) := by decide +kernel
theorem dX12_newGame_94 : decode cX12_newGame 94 = .ok (.dup, 1) := by decide +kernel
theorem dX12_newGame_95 : decode cX12_newGame 95 = .ok (.getfield 182, 3) := by decide +kernel
theorem dX12_newGame_98 : decode cX12_newGame 98 = .ok (.iconst 1, 1) := by decide +kernel
theorem dX12_newGame_99 : decode cX12_newGame 99 = .ok (.iadd, 1) := by decide +kernel
theorem dX12_newGame_100 : decode cX12_newGame 100 = .ok (.putfield 182, 3) := by decide +kernel
theorem dX12_newGame_103 : decode cX12_newGame 103 = .ok (.return_, 1) := by decide +kernel
theorem dX12_toss_0 : decode cX12_toss 0 = .ok (.aload_n 0, 1) := by decide +kernel
theorem dX12_toss_1 : decode cX12_toss 1 = .ok (.iconst 0, 1) := by decide +kernel
theorem dX12_toss_2 : decode cX12_toss 2 = .ok (.putfield 175, 3) := by decide +kernel
theorem dX12_toss_5 : decode cX12_toss 5 = .ok (.aload_n 0, 1) := by decide +kernel
theorem dX12_toss_6 : decode cX12_toss 6 = .ok (.getfield 182, 3) := by decide +kernel
theorem dX12_toss_9 : decode cX12_toss 9 = .ok (.sipush 400, 3) := by decide +kernel
theorem dX12_toss_12 : decode cX12_toss 12 = .ok (.if_icmp .eq 47, 3) := by decide +kernel
theorem dX12_toss_15 : decode cX12_toss 15 = .ok (.aload_n 0, 1) := by decide +kernel
theorem dX12_toss_16 : decode cX12_toss 16 = .ok (.iload_n 1, 1) := by decide +kernel
theorem dX12_toss_17 : decode cX12_toss 17 = .ok (.invokevirtual 185, 3) := by decide +kernel
theorem dX12_toss_20 : decode cX12_toss 20 = .ok (.ifCond .eq 39, 3) := by decide +kernel
theorem dX12_toss_23 : decode cX12_toss 23 = .ok (.aload_n 0, 1) := by decide +kernel
theorem dX12_toss_24 : decode cX12_toss 24 = .ok (.iload_n 2, 1) := by decide +kernel
theorem dX12_toss_25 : decode cX12_toss 25 = .ok (.invokevirtual 185, 3) := by decide +kernel
theorem dX12_toss_28 : decode cX12_toss 28 = .ok (.ifCond .eq 31, 3) := by decide +kernel
theorem dX12_toss_31 : decode cX12_toss 31 = .ok (.iload_n 1, 1) := by decide +kernel
theorem dX12_toss_32 : decode cX12_toss 32 = .ok (.iload_n 2, 1) := by decide +kernel
theorem dX12_toss_33 : decode cX12_toss 33 = .ok (.if_icmp .eq 26, 3) := by decide +kernel
theorem dX12_toss_36 : decode cX12_toss 36 = .ok (.iload_n 3, 1) := by decide +kernel
theorem dX12_toss_37 : decode cX12_toss 37 = .ok (.iconst 1, 1) := by decide +kernel
theorem dX12_toss_38 : decode cX12_toss 38 = .ok (.if_icmp .lt 21, 3) := by decide +kernel
theorem dX12_toss_41 : decode cX12_toss 41 = .ok (.iload_n 3, 1) := by decide +kernel
theorem dX12_toss_42 : decode cX12_toss 42 = .ok (.bipush 120, 2) := by decide +kernel
theorem dX12_toss_44 : decode cX12_toss 44 = .ok (.if_icmp .gt 15, 3) := by decide +kernel
theorem dX12_toss_47 : decode cX12_toss 47 = .ok (.iload 4, 2) := by decide +kernel
theorem dX12_toss_49 : decode cX12_toss 49 = .ok (.iconst 1, 1) := by decide +kernel
theorem dX12_toss_50 : decode cX12_toss 50 = .ok (.if_icmp .lt 9, 3) := by decide +kernel
theorem dX12_toss_53 : decode cX12_toss 53 = .ok (.iload 4, 2) := by decide +kernel
theorem dX12_toss_55 : decode cX12_toss 55 = .ok (.iconst 2, 1) := by decide +kernel
theorem dX12_toss_56 : decode cX12_toss 56 = .ok (.if_icmp .le 5, 3) := by decide +kernel
theorem dX12_toss_59 : decode cX12_toss 59 = .ok (.iconst (-1), 1) := by decide +kernel
theorem dX12_toss_60 : decode cX12_toss 60 = .ok (.ireturn, 1) := by decide +kernel
theorem dX12_toss_61 : decode cX12_toss 61 = .ok (.aload_n 0, 1) := by decide +kernel
theorem dX12_toss_62 : decode cX12_toss 62 = .ok (.iload_n 1, 1) := by decide +kernel
theorem dX12_toss_63 : decode cX12_toss 63 = .ok (.iload_n 2, 1) := by decide +kernel
theorem dX12_toss_64 : decode cX12_toss 64 = .ok (.iload_n 3, 1) := by decide +kernel
theorem dX12_toss_65 : decode cX12_toss 65 = .ok (.iload 4, 2) := by decide +kernel
theorem dX12_toss_67 : decode cX12_toss 67 = .ok (.invokevirtual 189, 3) := by decide +kernel
theorem dX12_toss_70 : decode cX12_toss 70 = .ok (.aload_n 0, 1) := by decide +kernel
theorem dX12_toss_71 : decode cX12_toss 71 = .ok (.getfield 182, 3) := by decide +kernel
theorem dX12_toss_74 : decode cX12_toss 74 = .ok (.iconst 1, 1) := by decide +kernel
theorem dX12_toss_75 : decode cX12_toss 75 = .ok (.isub, 1) := by decide +kernel
theorem dX12_toss_76 : decode cX12_toss 76 = .ok (.ireturn, 1) := by decide +kernel
theorem dX12_seat_0 : decode cX12_seat 0 = .ok (.aload_n 0, 1) := by decide +kernel
theorem dX12_seat_1 : decode cX12_seat 1 = .ok (.iconst 0, 1) := by decide +kernel
theorem dX12_seat_2 : decode cX12_seat 2 = .ok (.putfield 175, 3) := by decide +kernel
theorem dX12_seat_5 : decode cX12_seat 5 = .ok (.aload_n 0, 1) := by decide +kernel
theorem dX12_seat_6 : decode cX12_seat 6 = .ok (.iload_n 1, 1) := by decide +kernel
theorem dX12_seat_7 : decode cX12_seat 7 = .ok (.invokevirtual 193, 3) := by decide +kernel
theorem dX12_seat_10 : decode cX12_seat 10 = .ok (.ifCond .eq 56, 3) := by decide +kernel
theorem dX12_seat_13 : decode cX12_seat 13 = .ok (.iload_n 2, 1) := by decide +kernel
theorem dX12_seat_14 : decode cX12_seat 14 = .ok (.ifCond .lt 52, 3) := by decide +kernel
theorem dX12_seat_17 : decode cX12_seat 17 = .ok (.iload_n 2, 1) := by decide +kernel
theorem dX12_seat_18 : decode cX12_seat 18 = .ok (.iconst 1, 1) := by decide +kernel
theorem dX12_seat_19 : decode cX12_seat 19 = .ok (.if_icmp .gt 47, 3) := by decide +kernel
theorem dX12_seat_22 : decode cX12_seat 22 = .ok (.iload_n 3, 1) := by decide +kernel
theorem dX12_seat_23 : decode cX12_seat 23 = .ok (.ifCond .lt 43, 3) := by decide +kernel
theorem dX12_seat_26 : decode cX12_seat 26 = .ok (.iload_n 3, 1) := by decide +kernel
theorem dX12_seat_27 : decode cX12_seat 27 = .ok (.bipush 10, 2) := by decide +kernel
theorem dX12_seat_29 : decode cX12_seat 29 = .ok (.if_icmp .gt 37, 3) := by decide +kernel
theorem dX12_seat_32 : decode cX12_seat 32 = .ok (.iload 4, 2) := by decide +kernel
theorem dX12_seat_34 : decode cX12_seat 34 = .ok (.ifCond .lt 32, 3) := by decide +kernel
theorem dX12_seat_37 : decode cX12_seat 37 = .ok (.iload 4, 2) := by decide +kernel
theorem dX12_seat_39 : decode cX12_seat 39 = .ok (.aload_n 0, 1) := by decide +kernel
theorem dX12_seat_40 : decode cX12_seat 40 = .ok (.getfield 9, 3) := by decide +kernel
theorem dX12_seat_43 : decode cX12_seat 43 = .ok (.aload_n 0, 1) := by decide +kernel
theorem dX12_seat_44 : decode cX12_seat 44 = .ok (.getfield 13, 3) := by decide +kernel
theorem dX12_seat_47 : decode cX12_seat 47 = .ok (.iconst 2, 1) := by decide +kernel
theorem dX12_seat_48 : decode cX12_seat 48 = .ok (.iload_n 1, 1) := by decide +kernel
theorem dX12_seat_49 : decode cX12_seat 49 = .ok (.imul, 1) := by decide +kernel
theorem dX12_seat_50 : decode cX12_seat 50 = .ok (.iload_n 2, 1) := by decide +kernel
theorem dX12_seat_51 : decode cX12_seat 51 = .ok (.iadd, 1) := by decide +kernel
theorem dX12_seat_52 : decode cX12_seat 52 = .ok (.iaload, 1) := by decide +kernel
theorem dX12_seat_53 : decode cX12_seat 53 = .ok (.iaload, 1) := by decide +kernel
theorem dX12_seat_54 : decode cX12_seat 54 = .ok (.if_icmp .ge 12, 3) := by decide +kernel
theorem dX12_seat_57 : decode cX12_seat 57 = .ok (.aload_n 0, 1) := by decide +kernel
theorem dX12_seat_58 : decode cX12_seat 58 = .ok (.getfield 25, 3) := by decide +kernel
theorem dX12_seat_61 : decode cX12_seat 61 = .ok (.iload_n 1, 1) := by decide +kernel
theorem dX12_seat_62 : decode cX12_seat 62 = .ok (.iaload, 1) := by decide +kernel
theorem dX12_seat_63 : decode cX12_seat 63 = .ok (.ifCond .le 5, 3) := by decide +kernel
theorem dX12_seat_66 : decode cX12_seat 66 = .ok (.iconst 0, 1) := by decide +kernel
theorem dX12_seat_67 : decode cX12_seat 67 = .ok (.ireturn, 1) := by decide +kernel
theorem dX12_seat_68 : decode cX12_seat 68 = .ok (.bipush 22, 2) := by decide +kernel
theorem dX12_seat_70 : decode cX12_seat 70 = .ok (.iload_n 1, 1) := by decide +kernel
theorem dX12_seat_71 : decode cX12_seat 71 = .ok (.imul, 1) := by decide +kernel
theorem dX12_seat_72 : decode cX12_seat 72 = .ok (.bipush 11, 2) := by decide +kernel
theorem dX12_seat_74 : decode cX12_seat 74 = .ok (.iload_n 2, 1) := by decide +kernel
theorem dX12_seat_75 : decode cX12_seat 75 = .ok (.imul, 1) := by decide +kernel
theorem dX12_seat_76 : decode cX12_seat 76 = .ok (.iadd, 1) := by decide +kernel
theorem dX12_seat_77 : decode cX12_seat 77 = .ok (.istore 5, 2) := by decide +kernel
theorem dX12_seat_79 : decode cX12_seat 79 = .ok (.iconst 0, 1) := by decide +kernel
theorem dX12_seat_80 : decode cX12_seat 80 = .ok (.istore 6, 2) := by decide +kernel
theorem dX12_seat_82 : decode cX12_seat 82 = .ok (.iload 6, 2) := by decide +kernel
theorem dX12_seat_84 : decode cX12_seat 84 = .ok (.bipush 11, 2) := by decide +kernel
theorem dX12_seat_86 : decode cX12_seat 86 = .ok (.if_icmp .ge 43, 3) := by decide +kernel
theorem dX12_seat_89 : decode cX12_seat 89 = .ok (.aload_n 0, 1) := by decide +kernel
theorem dX12_seat_90 : decode cX12_seat 90 = .ok (.getfield 22, 3) := by decide +kernel
theorem dX12_seat_93 : decode cX12_seat 93 = .ok (.iload 5, 2) := by decide +kernel
theorem dX12_seat_95 : decode cX12_seat 95 = .ok (.iload 6, 2) := by decide +kernel
theorem dX12_seat_97 : decode cX12_seat 97 = .ok (.iadd, 1) := by decide +kernel
theorem dX12_seat_98 : decode cX12_seat 98 = .ok (.iaload, 1) := by decide +kernel
theorem dX12_seat_99 : decode cX12_seat 99 = .ok (.iload 4, 2) := by decide +kernel
theorem dX12_seat_101 : decode cX12_seat 101 = .ok (.if_icmp .ne 22, 3) := by decide +kernel
theorem dX12_seat_104 : decode cX12_seat 104 = .ok (.aload_n 0, 1) := by decide +kernel
theorem dX12_seat_105 : decode cX12_seat 105 = .ok (.getfield 22, 3) := by decide +kernel
theorem dX12_seat_108 : decode cX12_seat 108 = .ok (.iload 5, 2) := by decide +kernel
theorem dX12_seat_110 : decode cX12_seat 110 = .ok (.iload 6, 2) := by decide +kernel
theorem dX12_seat_112 : decode cX12_seat 112 = .ok (.iadd, 1) := by decide +kernel
theorem dX12_seat_113 : decode cX12_seat 113 = .ok (.aload_n 0, 1) := by decide +kernel
theorem dX12_seat_114 : decode cX12_seat 114 = .ok (.getfield 22, 3) := by decide +kernel
theorem dX12_seat_117 : decode cX12_seat 117 = .ok (.iload 5, 2) := by decide +kernel
theorem dX12_seat_119 : decode cX12_seat 119 = .ok (.iload_n 3, 1) := by decide +kernel
theorem dX12_seat_120 : decode cX12_seat 120 = .ok (.iadd, 1) := by decide +kernel
theorem dX12_seat_121 : decode cX12_seat 121 = .ok (.iaload, 1) := by decide +kernel
theorem dX12_seat_122 : decode cX12_seat 122 = .ok (.iastore, 1) := by decide +kernel
theorem dX12_seat_123 : decode cX12_seat 123 = .ok (.iinc 6 1, 3) := by decide +kernel
theorem dX12_seat_126 : decode cX12_seat 126 = .ok (.goto (-44), 3) := by decide +kernel
theorem dX12_seat_129 : decode cX12_seat 129 = .ok (.aload_n 0, 1) := by decide +kernel
theorem dX12_seat_130 : decode cX12_seat 130 = .ok (.getfield 22, 3) := by decide +kernel
theorem dX12_seat_133 : decode cX12_seat 133 = .ok (.iload 5, 2) := by decide +kernel
theorem dX12_seat_135 : decode cX12_seat 135 = .ok (.iload_n 3, 1) := by decide +kernel
theorem dX12_seat_136 : decode cX12_seat 136 = .ok (.iadd, 1) := by decide +kernel
theorem dX12_seat_137 : decode cX12_seat 137 = .ok (.iload 4, 2) := by decide +kernel
theorem dX12_seat_139 : decode cX12_seat 139 = .ok (.iastore, 1) := by decide +kernel
theorem dX12_seat_140 : decode cX12_seat 140 = .ok (.iconst 1, 1) := by decide +kernel
theorem dX12_seat_141 : decode cX12_seat 141 = .ok (.ireturn, 1) := by decide +kernel
theorem dX12_table_0 : decode cX12_table 0 = .ok (.ldc2_w 196, 3) := by decide +kernel
theorem dX12_table_3 : decode cX12_table 3 = .ok (.bipush 100, 2) := by decide +kernel
theorem dX12_table_5 : decode cX12_table 5 = .ok (.iload_n 1, 1) := by decide +kernel
theorem dX12_table_6 : decode cX12_table 6 = .ok (.iload_n 1, 1) := by decide +kernel
theorem dX12_table_7 : decode cX12_table 7 = .ok (.imul, 1) := by decide +kernel
theorem dX12_table_8 : decode cX12_table 8 = .ok (.isub, 1) := by decide +kernel
theorem dX12_table_9 : decode cX12_table 9 = .ok (.i2l, 1) := by decide +kernel
theorem dX12_table_10 : decode cX12_table 10 = .ok (.lmul, 1) := by decide +kernel
theorem dX12_table_11 : decode cX12_table 11 = .ok (.iload_n 0, 1) := by decide +kernel
theorem dX12_table_12 : decode cX12_table 12 = .ok (.i2l, 1) := by decide +kernel
theorem dX12_table_13 : decode cX12_table 13 = .ok (.lmul, 1) := by decide +kernel
theorem dX12_table_14 : decode cX12_table 14 = .ok (.sipush 1440, 3) := by decide +kernel
theorem dX12_table_17 : decode cX12_table 17 = .ok (.iload_n 0, 1) := by decide +kernel
theorem dX12_table_18 : decode cX12_table 18 = .ok (.isub, 1) := by decide +kernel
theorem dX12_table_19 : decode cX12_table 19 = .ok (.i2l, 1) := by decide +kernel
theorem dX12_table_20 : decode cX12_table 20 = .ok (.lmul, 1) := by decide +kernel
theorem dX12_table_21 : decode cX12_table 21 = .ok (.ldc2_w 198, 3) := by decide +kernel
theorem dX12_table_24 : decode cX12_table 24 = .ok (.ldiv, 1) := by decide +kernel
theorem dX12_table_25 : decode cX12_table 25 = .ok (.l2i, 1) := by decide +kernel
theorem dX12_table_26 : decode cX12_table 26 = .ok (.ireturn, 1) := by decide +kernel
theorem dX12_left_0 : decode cX12_left 0 = .ok (.bipush 6, 2) := by decide +kernel
theorem dX12_left_2 : decode cX12_left 2 = .ok (.aload_n 0, 1) := by decide +kernel
theorem dX12_left_3 : decode cX12_left 3 = .ok (.getfield 87, 3) := by decide +kernel
theorem dX12_left_6 : decode cX12_left 6 = .ok (.iload_n 1, 1) := by decide +kernel
theorem dX12_left_7 : decode cX12_left 7 = .ok (.iaload, 1) := by decide +kernel
theorem dX12_left_8 : decode cX12_left 8 = .ok (.imul, 1) := by decide +kernel
theorem dX12_left_9 : decode cX12_left 9 = .ok (.bipush 6, 2) := by decide +kernel
theorem dX12_left_11 : decode cX12_left 11 = .ok (.aload_n 0, 1) := by decide +kernel
theorem dX12_left_12 : decode cX12_left 12 = .ok (.getfield 78, 3) := by decide +kernel
theorem dX12_left_15 : decode cX12_left 15 = .ok (.iload_n 1, 1) := by decide +kernel
theorem dX12_left_16 : decode cX12_left 16 = .ok (.iaload, 1) := by decide +kernel
theorem dX12_left_17 : decode cX12_left 17 = .ok (.imul, 1) := by decide +kernel
theorem dX12_left_18 : decode cX12_left 18 = .ok (.isub, 1) := by decide +kernel
theorem dX12_left_19 : decode cX12_left 19 = .ok (.aload_n 0, 1) := by decide +kernel
theorem dX12_left_20 : decode cX12_left 20 = .ok (.getfield 81, 3) := by decide +kernel
theorem dX12_left_23 : decode cX12_left 23 = .ok (.iload_n 1, 1) := by decide +kernel
theorem dX12_left_24 : decode cX12_left 24 = .ok (.iaload, 1) := by decide +kernel
theorem dX12_left_25 : decode cX12_left 25 = .ok (.isub, 1) := by decide +kernel
theorem dX12_left_26 : decode cX12_left 26 = .ok (.ireturn, 1) := by decide +kernel
theorem dX12_lastTurn_0 : decode cX12_lastTurn 0 = .ok (.iconst 2, 1) := by decide +kernel
theorem dX12_lastTurn_1 : decode cX12_lastTurn 1 = .ok (.aload_n 0, 1) := by decide +kernel
theorem dX12_lastTurn_2 : decode cX12_lastTurn 2 = .ok (.getfield 19, 3) := by decide +kernel
theorem dX12_lastTurn_5 : decode cX12_lastTurn 5 = .ok (.iload_n 1, 1) := by decide +kernel
theorem dX12_lastTurn_6 : decode cX12_lastTurn 6 = .ok (.iaload, 1) := by decide +kernel
theorem dX12_lastTurn_7 : decode cX12_lastTurn 7 = .ok (.imul, 1) := by decide +kernel
theorem dX12_lastTurn_8 : decode cX12_lastTurn 8 = .ok (.iconst 1, 1) := by decide +kernel
theorem dX12_lastTurn_9 : decode cX12_lastTurn 9 = .ok (.isub, 1) := by decide +kernel
theorem dX12_lastTurn_10 : decode cX12_lastTurn 10 = .ok (.ireturn, 1) := by decide +kernel
theorem dX12_stop_0 : decode cX12_stop 0 = .ok (.aload_n 0, 1) := by decide +kernel
theorem dX12_stop_1 : decode cX12_stop 1 = .ok (.iload_n 1, 1) := by decide +kernel
theorem dX12_stop_2 : decode cX12_stop 2 = .ok (.putfield 200, 3) := by decide +kernel
theorem dX12_stop_5 : decode cX12_stop 5 = .ok (.aload_n 0, 1) := by decide +kernel
theorem dX12_stop_6 : decode cX12_stop 6 = .ok (.iload_n 2, 1) := by decide +kernel
theorem dX12_stop_7 : decode cX12_stop 7 = .ok (.putfield 203, 3) := by decide +kernel
theorem dX12_stop_10 : decode cX12_stop 10 = .ok (.aload_n 0, 1) := by decide +kernel
theorem dX12_stop_11 : decode cX12_stop 11 = .ok (.iload_n 3, 1) := by decide +kernel
theorem dX12_stop_12 : decode cX12_stop 12 = .ok (.putfield 206, 3) := by decide +kernel
theorem dX12_stop_15 : decode cX12_stop 15 = .ok (.aload_n 0, 1) := by decide +kernel
theorem dX12_stop_16 : decode cX12_stop 16 = .ok (.iload 4, 2) := by decide +kernel
theorem dX12_stop_18 : decode cX12_stop 18 = .ok (.putfield 209, 3) := by decide +kernel
theorem dX12_stop_21 : decode cX12_stop 21 = .ok (.return_, 1) := by decide +kernel
theorem dX12_clearTurn_0 : decode cX12_clearTurn 0 = .ok (.aload_n 0, 1) := by decide +kernel
theorem dX12_clearTurn_1 : decode cX12_clearTurn 1 = .ok (.getfield 72, 3) := by decide +kernel
theorem dX12_clearTurn_4 : decode cX12_clearTurn 4 = .ok (.iload_n 1, 1) := by decide +kernel
theorem dX12_clearTurn_5 : decode cX12_clearTurn 5 = .ok (.iconst 0, 1) := by decide +kernel
theorem dX12_clearTurn_6 : decode cX12_clearTurn 6 = .ok (.iastore, 1) := by decide +kernel
theorem dX12_clearTurn_7 : decode cX12_clearTurn 7 = .ok (.aload_n 0, 1) := by decide +kernel
theorem dX12_clearTurn_8 : decode cX12_clearTurn 8 = .ok (.getfield 75, 3) := by decide +kernel
theorem dX12_clearTurn_11 : decode cX12_clearTurn 11 = .ok (.iload_n 1, 1) := by decide +kernel
theorem dX12_clearTurn_12 : decode cX12_clearTurn 12 = .ok (.iconst 0, 1) := by decide +kernel
theorem dX12_clearTurn_13 : decode cX12_clearTurn 13 = .ok (.iastore, 1) := by decide +kernel
theorem dX12_clearTurn_14 : decode cX12_clearTurn 14 = .ok (.aload_n 0, 1) := by decide +kernel
theorem dX12_clearTurn_15 : decode cX12_clearTurn 15 = .ok (.getfield 78, 3) := by decide +kernel
theorem dX12_clearTurn_18 : decode cX12_clearTurn 18 = .ok (.iload_n 1, 1) := by decide +kernel
theorem dX12_clearTurn_19 : decode cX12_clearTurn 19 = .ok (.iconst 0, 1) := by decide +kernel
theorem dX12_clearTurn_20 : decode cX12_clearTurn 20 = .ok (.iastore, 1) := by decide +kernel
theorem dX12_clearTurn_21 : decode cX12_clearTurn 21 = .ok (.aload_n 0, 1) := by decide +kernel
theorem dX12_clearTurn_22 : decode cX12_clearTurn 22 = .ok (.getfield 81, 3) := by decide +kernel
theorem dX12_clearTurn_25 : decode cX12_clearTurn 25 = .ok (.iload_n 1, 1) := by decide +kernel
theorem dX12_clearTurn_26 : decode cX12_clearTurn 26 = .ok (.iconst 0, 1) := by decide +kernel
theorem dX12_clearTurn_27 : decode cX12_clearTurn 27 = .ok (.iastore, 1) := by decide +kernel
theorem dX12_clearTurn_28 : decode cX12_clearTurn 28 = .ok (.aload_n 0, 1) := by decide +kernel
theorem dX12_clearTurn_29 : decode cX12_clearTurn 29 = .ok (.getfield 84, 3) := by decide +kernel
theorem dX12_clearTurn_32 : decode cX12_clearTurn 32 = .ok (.iload_n 1, 1) := by decide +kernel
theorem dX12_clearTurn_33 : decode cX12_clearTurn 33 = .ok (.iconst 0, 1) := by decide +kernel
theorem dX12_clearTurn_34 : decode cX12_clearTurn 34 = .ok (.iastore, 1) := by decide +kernel
theorem dX12_clearTurn_35 : decode cX12_clearTurn 35 = .ok (.aload_n 0, 1) := by decide +kernel
theorem dX12_clearTurn_36 : decode cX12_clearTurn 36 = .ok (.getfield 87, 3) := by decide +kernel
theorem dX12_clearTurn_39 : decode cX12_clearTurn 39 = .ok (.iload_n 1, 1) := by decide +kernel
theorem dX12_clearTurn_40 : decode cX12_clearTurn 40 = .ok (.iconst 0, 1) := by decide +kernel
theorem dX12_clearTurn_41 : decode cX12_clearTurn 41 = .ok (.iastore, 1) := by decide +kernel
theorem dX12_clearTurn_42 : decode cX12_clearTurn 42 = .ok (.aload_n 0, 1) := by decide +kernel
theorem dX12_clearTurn_43 : decode cX12_clearTurn 43 = .ok (.getfield 90, 3) := by decide +kernel
theorem dX12_clearTurn_46 : decode cX12_clearTurn 46 = .ok (.iload_n 1, 1) := by decide +kernel
theorem dX12_clearTurn_47 : decode cX12_clearTurn 47 = .ok (.iconst 0, 1) := by decide +kernel
theorem dX12_clearTurn_48 : decode cX12_clearTurn 48 = .ok (.iastore, 1) := by decide +kernel
theorem dX12_clearTurn_49 : decode cX12_clearTurn 49 = .ok (.aload_n 0, 1) := by decide +kernel
theorem dX12_clearTurn_50 : decode cX12_clearTurn 50 = .ok (.getfield 93, 3) := by decide +kernel
theorem dX12_clearTurn_53 : decode cX12_clearTurn 53 = .ok (.iload_n 1, 1) := by decide +kernel
theorem dX12_clearTurn_54 : decode cX12_clearTurn 54 = .ok (.iconst 0, 1) := by decide +kernel
theorem dX12_clearTurn_55 : decode cX12_clearTurn 55 = .ok (.iastore, 1) := by decide +kernel
theorem dX12_clearTurn_56 : decode cX12_clearTurn 56 = .ok (.aload_n 0, 1) := by decide +kernel
theorem dX12_clearTurn_57 : decode cX12_clearTurn 57 = .ok (.getfield 96, 3) := by decide +kernel
theorem dX12_clearTurn_60 : decode cX12_clearTurn 60 = .ok (.iload_n 1, 1) := by decide +kernel
theorem dX12_clearTurn_61 : decode cX12_clearTurn 61 = .ok (.iconst 0, 1) := by decide +kernel
theorem dX12_clearTurn_62 : decode cX12_clearTurn 62 = .ok (.iastore, 1) := by decide +kernel
theorem dX12_clearTurn_63 : decode cX12_clearTurn 63 = .ok (.aload_n 0, 1) := by decide +kernel
theorem dX12_clearTurn_64 : decode cX12_clearTurn 64 = .ok (.getfield 99, 3) := by decide +kernel
theorem dX12_clearTurn_67 : decode cX12_clearTurn 67 = .ok (.iload_n 1, 1) := by decide +kernel
theorem dX12_clearTurn_68 : decode cX12_clearTurn 68 = .ok (.iconst 0, 1) := by decide +kernel
theorem dX12_clearTurn_69 : decode cX12_clearTurn 69 = .ok (.iastore, 1) := by decide +kernel
theorem dX12_clearTurn_70 : decode cX12_clearTurn 70 = .ok (.aload_n 0, 1) := by decide +kernel
theorem dX12_clearTurn_71 : decode cX12_clearTurn 71 = .ok (.getfield 102, 3) := by decide +kernel
theorem dX12_clearTurn_74 : decode cX12_clearTurn 74 = .ok (.iload_n 1, 1) := by decide +kernel
theorem dX12_clearTurn_75 : decode cX12_clearTurn 75 = .ok (.iconst (-1), 1) := by decide +kernel
theorem dX12_clearTurn_76 : decode cX12_clearTurn 76 = .ok (.iastore, 1) := by decide +kernel
theorem dX12_clearTurn_77 : decode cX12_clearTurn 77 = .ok (.aload_n 0, 1) := by decide +kernel
theorem dX12_clearTurn_78 : decode cX12_clearTurn 78 = .ok (.getfield 105, 3) := by decide +kernel
theorem dX12_clearTurn_81 : decode cX12_clearTurn 81 = .ok (.iload_n 1, 1) := by decide +kernel
theorem dX12_clearTurn_82 : decode cX12_clearTurn 82 = .ok (.iconst (-1), 1) := by decide +kernel
theorem dX12_clearTurn_83 : decode cX12_clearTurn 83 = .ok (.iastore, 1) := by decide +kernel
theorem dX12_clearTurn_84 : decode cX12_clearTurn 84 = .ok (.aload_n 0, 1) := by decide +kernel
theorem dX12_clearTurn_85 : decode cX12_clearTurn 85 = .ok (.getfield 108, 3) := by decide +kernel
theorem dX12_clearTurn_88 : decode cX12_clearTurn 88 = .ok (.iload_n 1, 1) := by decide +kernel
theorem dX12_clearTurn_89 : decode cX12_clearTurn 89 = .ok (.iconst 2, 1) := by decide +kernel
theorem dX12_clearTurn_90 : decode cX12_clearTurn 90 = .ok (.iastore, 1) := by decide +kernel
theorem dX12_clearTurn_91 : decode cX12_clearTurn 91 = .ok (.aload_n 0, 1) := by decide +kernel
theorem dX12_clearTurn_92 : decode cX12_clearTurn 92 = .ok (.getfield 111, 3) := by decide +kernel
theorem dX12_clearTurn_95 : decode cX12_clearTurn 95 = .ok (.iload_n 1, 1) := by decide +kernel
theorem dX12_clearTurn_96 : decode cX12_clearTurn 96 = .ok (.iconst 0, 1) := by decide +kernel
theorem dX12_clearTurn_97 : decode cX12_clearTurn 97 = .ok (.iastore, 1) := by decide +kernel
theorem dX12_clearTurn_98 : decode cX12_clearTurn 98 = .ok (.aload_n 0, 1) := by decide +kernel
theorem dX12_clearTurn_99 : decode cX12_clearTurn 99 = .ok (.getfield 114, 3) := by decide +kernel
theorem dX12_clearTurn_102 : decode cX12_clearTurn 102 = .ok (.iload_n 1, 1) := by decide +kernel
theorem dX12_clearTurn_103 : decode cX12_clearTurn 103 = .ok (.iconst 0, 1) := by decide +kernel
theorem dX12_clearTurn_104 : decode cX12_clearTurn 104 = .ok (.iastore, 1) := by decide +kernel
theorem dX12_clearTurn_105 : decode cX12_clearTurn 105 = .ok (.aload_n 0, 1) := by decide +kernel
theorem dX12_clearTurn_106 : decode cX12_clearTurn 106 = .ok (.getfield 117, 3) := by decide +kernel
theorem dX12_clearTurn_109 : decode cX12_clearTurn 109 = .ok (.iload_n 1, 1) := by decide +kernel
theorem dX12_clearTurn_110 : decode cX12_clearTurn 110 = .ok (.iconst 0, 1) := by decide +kernel
theorem dX12_clearTurn_111 : decode cX12_clearTurn 111 = .ok (.iastore, 1) := by decide +kernel
theorem dX12_clearTurn_112 : decode cX12_clearTurn 112 = .ok (.aload_n 0, 1) := by decide +kernel
theorem dX12_clearTurn_113 : decode cX12_clearTurn 113 = .ok (.getfield 120, 3) := by decide +kernel
theorem dX12_clearTurn_116 : decode cX12_clearTurn 116 = .ok (.iload_n 1, 1) := by decide +kernel
theorem dX12_clearTurn_117 : decode cX12_clearTurn 117 = .ok (.iconst (-1), 1) := by decide +kernel
theorem dX12_clearTurn_118 : decode cX12_clearTurn 118 = .ok (.iastore, 1) := by decide +kernel
theorem dX12_clearTurn_119 : decode cX12_clearTurn 119 = .ok (.aload_n 0, 1) := by decide +kernel
theorem dX12_clearTurn_120 : decode cX12_clearTurn 120 = .ok (.getfield 123, 3) := by decide +kernel
theorem dX12_clearTurn_123 : decode cX12_clearTurn 123 = .ok (.iload_n 1, 1) := by decide +kernel
theorem dX12_clearTurn_124 : decode cX12_clearTurn 124 = .ok (.iconst 0, 1) := by decide +kernel
theorem dX12_clearTurn_125 : decode cX12_clearTurn 125 = .ok (.bastore, 1) := by decide +kernel
theorem dX12_clearTurn_126 : decode cX12_clearTurn 126 = .ok (.bipush 11, 2) := by decide +kernel
theorem dX12_clearTurn_128 : decode cX12_clearTurn 128 = .ok (.iload_n 1, 1) := by decide +kernel
theorem dX12_clearTurn_129 : decode cX12_clearTurn 129 = .ok (.imul, 1) := by decide +kernel
theorem dX12_clearTurn_130 : decode cX12_clearTurn 130 = .ok (.istore_n 2, 1) := by decide +kernel
theorem dX12_clearTurn_131 : decode cX12_clearTurn 131 = .ok (.iload_n 2, 1) := by decide +kernel
theorem dX12_clearTurn_132 : decode cX12_clearTurn 132 = .ok (.bipush 11, 2) := by decide +kernel
theorem dX12_clearTurn_134 : decode cX12_clearTurn 134 = .ok (.iload_n 1, 1) := by decide +kernel
theorem dX12_clearTurn_135 : decode cX12_clearTurn 135 = .ok (.imul, 1) := by decide +kernel
theorem dX12_clearTurn_136 : decode cX12_clearTurn 136 = .ok (.bipush 11, 2) := by decide +kernel
theorem dX12_clearTurn_138 : decode cX12_clearTurn 138 = .ok (.iadd, 1) := by decide +kernel
theorem dX12_clearTurn_139 : decode cX12_clearTurn 139 = .ok (.if_icmp .ge 51, 3) := by decide +kernel
theorem dX12_clearTurn_142 : decode cX12_clearTurn 142 = .ok (.aload_n 0, 1) := by decide +kernel
theorem dX12_clearTurn_143 : decode cX12_clearTurn 143 = .ok (.getfield 127, 3) := by decide +kernel
theorem dX12_clearTurn_146 : decode cX12_clearTurn 146 = .ok (.iload_n 2, 1) := by decide +kernel
theorem dX12_clearTurn_147 : decode cX12_clearTurn 147 = .ok (.iconst 0, 1) := by decide +kernel
theorem dX12_clearTurn_148 : decode cX12_clearTurn 148 = .ok (.iastore, 1) := by decide +kernel
theorem dX12_clearTurn_149 : decode cX12_clearTurn 149 = .ok (.aload_n 0, 1) := by decide +kernel
theorem dX12_clearTurn_150 : decode cX12_clearTurn 150 = .ok (.getfield 130, 3) := by decide +kernel
theorem dX12_clearTurn_153 : decode cX12_clearTurn 153 = .ok (.iload_n 2, 1) := by decide +kernel
theorem dX12_clearTurn_154 : decode cX12_clearTurn 154 = .ok (.iconst 0, 1) := by decide +kernel
theorem dX12_clearTurn_155 : decode cX12_clearTurn 155 = .ok (.iastore, 1) := by decide +kernel
theorem dX12_clearTurn_156 : decode cX12_clearTurn 156 = .ok (.aload_n 0, 1) := by decide +kernel
theorem dX12_clearTurn_157 : decode cX12_clearTurn 157 = .ok (.getfield 133, 3) := by decide +kernel
theorem dX12_clearTurn_160 : decode cX12_clearTurn 160 = .ok (.iload_n 2, 1) := by decide +kernel
theorem dX12_clearTurn_161 : decode cX12_clearTurn 161 = .ok (.iconst 0, 1) := by decide +kernel
theorem dX12_clearTurn_162 : decode cX12_clearTurn 162 = .ok (.iastore, 1) := by decide +kernel
theorem dX12_clearTurn_163 : decode cX12_clearTurn 163 = .ok (.aload_n 0, 1) := by decide +kernel
theorem dX12_clearTurn_164 : decode cX12_clearTurn 164 = .ok (.getfield 136, 3) := by decide +kernel
theorem dX12_clearTurn_167 : decode cX12_clearTurn 167 = .ok (.iload_n 2, 1) := by decide +kernel
theorem dX12_clearTurn_168 : decode cX12_clearTurn 168 = .ok (.iconst 0, 1) := by decide +kernel
theorem dX12_clearTurn_169 : decode cX12_clearTurn 169 = .ok (.iastore, 1) := by decide +kernel
theorem dX12_clearTurn_170 : decode cX12_clearTurn 170 = .ok (.aload_n 0, 1) := by decide +kernel
theorem dX12_clearTurn_171 : decode cX12_clearTurn 171 = .ok (.getfield 139, 3) := by decide +kernel
theorem dX12_clearTurn_174 : decode cX12_clearTurn 174 = .ok (.iload_n 2, 1) := by decide +kernel
theorem dX12_clearTurn_175 : decode cX12_clearTurn 175 = .ok (.iconst 0, 1) := by decide +kernel
theorem dX12_clearTurn_176 : decode cX12_clearTurn 176 = .ok (.iastore, 1) := by decide +kernel
theorem dX12_clearTurn_177 : decode cX12_clearTurn 177 = .ok (.aload_n 0, 1) := by decide +kernel
theorem dX12_clearTurn_178 : decode cX12_clearTurn 178 = .ok (.getfield 142, 3) := by decide +kernel
theorem dX12_clearTurn_181 : decode cX12_clearTurn 181 = .ok (.iload_n 2, 1) := by decide +kernel
theorem dX12_clearTurn_182 : decode cX12_clearTurn 182 = .ok (.iconst 0, 1) := by decide +kernel
theorem dX12_clearTurn_183 : decode cX12_clearTurn 183 = .ok (.iastore, 1) := by decide +kernel
theorem dX12_clearTurn_184 : decode cX12_clearTurn 184 = .ok (.iinc 2 1, 3) := by decide +kernel
theorem dX12_clearTurn_187 : decode cX12_clearTurn 187 = .ok (.goto (-56), 3) := by decide +kernel
theorem dX12_clearTurn_190 : decode cX12_clearTurn 190 = .ok (.return_, 1) := by decide +kernel
theorem dX12_rowOf_0 : decode cX12_rowOf 0 = .ok (.aload_n 0, 1) := by decide +kernel
theorem dX12_rowOf_1 : decode cX12_rowOf 1 = .ok (.getfield 32, 3) := by decide +kernel
theorem dX12_rowOf_4 : decode cX12_rowOf 4 = .ok (.sipush 130, 3) := by decide +kernel
theorem dX12_rowOf_7 : decode cX12_rowOf 7 = .ok (.iconst 4, 1) := by decide +kernel
theorem dX12_rowOf_8 : decode cX12_rowOf 8 = .ok (.iload_n 1, 1) := by decide +kernel
theorem dX12_rowOf_9 : decode cX12_rowOf 9 = .ok (.imul, 1) := by decide +kernel
theorem dX12_rowOf_10 : decode cX12_rowOf 10 = .ok (.iload_n 2, 1) := by decide +kernel
theorem dX12_rowOf_11 : decode cX12_rowOf 11 = .ok (.iadd, 1) := by decide +kernel
theorem dX12_rowOf_12 : decode cX12_rowOf 12 = .ok (.imul, 1) := by decide +kernel
theorem dX12_rowOf_13 : decode cX12_rowOf 13 = .ok (.iload_n 3, 1) := by decide +kernel
theorem dX12_rowOf_14 : decode cX12_rowOf 14 = .ok (.iadd, 1) := by decide +kernel
theorem dX12_rowOf_15 : decode cX12_rowOf 15 = .ok (.iaload, 1) := by decide +kernel
theorem dX12_rowOf_16 : decode cX12_rowOf 16 = .ok (.ireturn, 1) := by decide +kernel
theorem dX12_play_0 : decode cX12_play 0 = .ok (.aload_n 0, 1) := by decide +kernel
theorem dX12_play_1 : decode cX12_play 1 = .ok (.iconst 0, 1) := by decide +kernel
theorem dX12_play_2 : decode cX12_play 2 = .ok (.iconst (-1), 1) := by decide +kernel
theorem dX12_play_3 : decode cX12_play 3 = .ok (.iconst (-1), 1) := by decide +kernel
theorem dX12_play_4 : decode cX12_play 4 = .ok (.iconst (-1), 1) := by decide +kernel
theorem dX12_play_5 : decode cX12_play 5 = .ok (.invokevirtual 212, 3) := by decide +kernel
theorem dX12_play_8 : decode cX12_play 8 = .ok (.aload_n 0, 1) := by decide +kernel
theorem dX12_play_9 : decode cX12_play 9 = .ok (.iconst (-1), 1) := by decide +kernel
theorem dX12_play_10 : decode cX12_play 10 = .ok (.putfield 215, 3) := by decide +kernel
theorem dX12_play_13 : decode cX12_play 13 = .ok (.aload_n 0, 1) := by decide +kernel
theorem dX12_play_14 : decode cX12_play 14 = .ok (.iconst 0, 1) := by decide +kernel
theorem dX12_play_15 : decode cX12_play 15 = .ok (.putfield 218, 3) := by decide +kernel
theorem dX12_play_18 : decode cX12_play 18 = .ok (.aload_n 0, 1) := by decide +kernel
theorem dX12_play_19 : decode cX12_play 19 = .ok (.iconst (-1), 1) := by decide +kernel
theorem dX12_play_20 : decode cX12_play 20 = .ok (.putfield 221, 3) := by decide +kernel
theorem dX12_play_23 : decode cX12_play 23 = .ok (.iconst 0, 1) := by decide +kernel
theorem dX12_play_24 : decode cX12_play 24 = .ok (.istore_n 2, 1) := by decide +kernel
theorem dX12_play_25 : decode cX12_play 25 = .ok (.iload_n 2, 1) := by decide +kernel
theorem dX12_play_26 : decode cX12_play 26 = .ok (.iconst 4, 1) := by decide +kernel
theorem dX12_play_27 : decode cX12_play 27 = .ok (.if_icmp .ge 14, 3) := by decide +kernel
theorem dX12_play_30 : decode cX12_play 30 = .ok (.aload_n 0, 1) := by decide +kernel
theorem dX12_play_31 : decode cX12_play 31 = .ok (.iload_n 2, 1) := by decide +kernel
theorem dX12_play_32 : decode cX12_play 32 = .ok (.invokevirtual 224, 3) := by decide +kernel
theorem dX12_play_35 : decode cX12_play 35 = .ok (.iinc 2 1, 3) := by decide +kernel
theorem dX12_play_38 : decode cX12_play 38 = .ok (.goto (-13), 3) := by decide +kernel
theorem dX12_play_41 : decode cX12_play 41 = .ok (.iconst 0, 1) := by decide +kernel
theorem dX12_play_42 : decode cX12_play 42 = .ok (.istore_n 2, 1) := by decide +kernel
theorem dX12_play_43 : decode cX12_play 43 = .ok (.iload_n 2, 1) := by decide +kernel
theorem dX12_play_44 : decode cX12_play 44 = .ok (.aload_n 0, 1) := by decide +kernel
theorem dX12_play_45 : decode cX12_play 45 = .ok (.getfield 25, 3) := by decide +kernel
theorem dX12_play_48 : decode cX12_play 48 = .ok (.iload_n 1, 1) := by decide +kernel
theorem dX12_play_49 : decode cX12_play 49 = .ok (.iaload, 1) := by decide +kernel
theorem dX12_play_50 : decode cX12_play 50 = .ok (.if_icmp .ge 88, 3) := by decide +kernel
theorem dX12_play_53 : decode cX12_play 53 = .ok (.iconst 0, 1) := by decide +kernel
theorem dX12_play_54 : decode cX12_play 54 = .ok (.istore_n 3, 1) := by decide +kernel
theorem dX12_play_55 : decode cX12_play 55 = .ok (.iload_n 3, 1) := by decide +kernel
theorem dX12_play_56 : decode cX12_play 56 = .ok (.aload_n 0, 1) := by decide +kernel
theorem dX12_play_57 : decode cX12_play 57 = .ok (.getfield 28, 3) := by decide +kernel
theorem dX12_play_60 : decode cX12_play 60 = .ok (.iconst 4, 1) := by decide +kernel
theorem dX12_play_61 : decode cX12_play 61 = .ok (.iload_n 1, 1) := by decide +kernel
theorem dX12_play_62 : decode cX12_play 62 = .ok (.imul, 1) := by decide +kernel
theorem dX12_play_63 : decode cX12_play 63 = .ok (.iload_n 2, 1) := by decide +kernel
theorem dX12_play_64 : decode cX12_play 64 = .ok (.iadd, 1) := by decide +kernel
theorem dX12_play_65 : decode cX12_play 65 = .ok (.iaload, 1) := by decide +kernel
theorem dX12_play_66 : decode cX12_play 66 = .ok (.if_icmp .ge 66, 3) := by decide +kernel
theorem dX12_play_69 : decode cX12_play 69 = .ok (.aload_n 0, 1) := by decide +kernel
theorem dX12_play_70 : decode cX12_play 70 = .ok (.iload_n 1, 1) := by decide +kernel
theorem dX12_play_71 : decode cX12_play 71 = .ok (.iload_n 2, 1) := by decide +kernel
theorem dX12_play_72 : decode cX12_play 72 = .ok (.iload_n 3, 1) := by decide +kernel
theorem dX12_play_73 : decode cX12_play 73 = .ok (.invokevirtual 228, 3) := by decide +kernel
theorem dX12_play_76 : decode cX12_play 76 = .ok (.istore 4, 2) := by decide +kernel
theorem dX12_play_78 : decode cX12_play 78 = .ok (.aload_n 0, 1) := by decide +kernel
theorem dX12_play_79 : decode cX12_play 79 = .ok (.getfield 145, 3) := by decide +kernel
theorem dX12_play_82 : decode cX12_play 82 = .ok (.iload 4, 2) := by decide +kernel
theorem dX12_play_84 : decode cX12_play 84 = .ok (.iconst 0, 1) := by decide +kernel
theorem dX12_play_85 : decode cX12_play 85 = .ok (.iastore, 1) := by decide +kernel
theorem dX12_play_86 : decode cX12_play 86 = .ok (.aload_n 0, 1) := by decide +kernel
theorem dX12_play_87 : decode cX12_play 87 = .ok (.getfield 148, 3) := by decide +kernel
theorem dX12_play_90 : decode cX12_play 90 = .ok (.iload 4, 2) := by decide +kernel
theorem dX12_play_92 : decode cX12_play 92 = .ok (.iconst 0, 1) := by decide +kernel
theorem dX12_play_93 : decode cX12_play 93 = .ok (.iastore, 1) := by decide +kernel
theorem dX12_play_94 : decode cX12_play 94 = .ok (.aload_n 0, 1) := by decide +kernel
theorem dX12_play_95 : decode cX12_play 95 = .ok (.getfield 151, 3) := by decide +kernel
theorem dX12_play_98 : decode cX12_play 98 = .ok (.iload 4, 2) := by decide +kernel
theorem dX12_play_100 : decode cX12_play 100 = .ok (.iconst 0, 1) := by decide +kernel
theorem dX12_play_101 : decode cX12_play 101 = .ok (.iastore, 1) := by decide +kernel
theorem dX12_play_102 : decode cX12_play 102 = .ok (.aload_n 0, 1) := by decide +kernel
theorem dX12_play_103 : decode cX12_play 103 = .ok (.getfield 154, 3) := by decide +kernel
theorem dX12_play_106 : decode cX12_play 106 = .ok (.iload 4, 2) := by decide +kernel
theorem dX12_play_108 : decode cX12_play 108 = .ok (.iconst 0, 1) := by decide +kernel
theorem dX12_play_109 : decode cX12_play 109 = .ok (.bastore, 1) := by decide +kernel
theorem dX12_play_110 : decode cX12_play 110 = .ok (.aload_n 0, 1) := by decide +kernel
theorem dX12_play_111 : decode cX12_play 111 = .ok (.getfield 157, 3) := by decide +kernel
theorem dX12_play_114 : decode cX12_play 114 = .ok (.iload 4, 2) := by decide +kernel
theorem dX12_play_116 : decode cX12_play 116 = .ok (.iconst 0, 1) := by decide +kernel
theorem dX12_play_117 : decode cX12_play 117 = .ok (.bastore, 1) := by decide +kernel
theorem dX12_play_118 : decode cX12_play 118 = .ok (.aload_n 0, 1) := by decide +kernel
theorem dX12_play_119 : decode cX12_play 119 = .ok (.getfield 160, 3) := by decide +kernel
theorem dX12_play_122 : decode cX12_play 122 = .ok (.iload 4, 2) := by decide +kernel
theorem dX12_play_124 : decode cX12_play 124 = .ok (.iconst 0, 1) := by decide +kernel
theorem dX12_play_125 : decode cX12_play 125 = .ok (.bastore, 1) := by decide +kernel
theorem dX12_play_126 : decode cX12_play 126 = .ok (.iinc 3 1, 3) := by decide +kernel
theorem dX12_play_129 : decode cX12_play 129 = .ok (.goto (-74), 3) := by decide +kernel
theorem dX12_play_132 : decode cX12_play 132 = .ok (.iinc 2 1, 3) := by decide +kernel
theorem dX12_play_135 : decode cX12_play 135 = .ok (.goto (-92), 3) := by decide +kernel
theorem dX12_play_138 : decode cX12_play 138 = .ok (.iconst 0, 1) := by decide +kernel
theorem dX12_play_139 : decode cX12_play 139 = .ok (.istore_n 2, 1) := by decide +kernel
theorem dX12_play_140 : decode cX12_play 140 = .ok (.iload_n 2, 1) := by decide +kernel
theorem dX12_play_141 : decode cX12_play 141 = .ok (.aload_n 0, 1) := by decide +kernel
theorem dX12_play_142 : decode cX12_play 142 = .ok (.getfield 25, 3) := by decide +kernel
theorem dX12_play_145 : decode cX12_play 145 = .ok (.iload_n 1, 1) := by decide +kernel
theorem dX12_play_146 : decode cX12_play 146 = .ok (.iaload, 1) := by decide +kernel
theorem dX12_play_147 : decode cX12_play 147 = .ok (.if_icmp .ge 66, 3) := by decide +kernel
theorem dX12_play_150 : decode cX12_play 150 = .ok (.aload_n 0, 1) := by decide +kernel
theorem dX12_play_151 : decode cX12_play 151 = .ok (.getfield 200, 3) := by decide +kernel
theorem dX12_play_154 : decode cX12_play 154 = .ok (.ifCond .ne 59, 3) := by decide +kernel
theorem dX12_play_157 : decode cX12_play 157 = .ok (.iload_n 2, 1) := by decide +kernel
theorem dX12_play_158 : decode cX12_play 158 = .ok (.ifCond .le 25, 3) := by decide +kernel
theorem dX12_play_161 : decode cX12_play 161 = .ok (.aload_n 0, 1) := by decide +kernel
theorem dX12_play_162 : decode cX12_play 162 = .ok (.getfield 90, 3) := by decide +kernel
theorem dX12_play_165 : decode cX12_play 165 = .ok (.iload_n 2, 1) := by decide +kernel
theorem dX12_play_166 : decode cX12_play 166 = .ok (.iconst 1, 1) := by decide +kernel
theorem dX12_play_167 : decode cX12_play 167 = .ok (.isub, 1) := by decide +kernel
theorem dX12_play_168 : decode cX12_play 168 = .ok (.iaload, 1) := by decide +kernel
theorem dX12_play_169 : decode cX12_play 169 = .ok (.ifCond .ne 14, 3) := by decide +kernel
theorem dX12_play_172 : decode cX12_play 172 = .ok (.aload_n 0, 1) := by decide +kernel
theorem dX12_play_173 : decode cX12_play 173 = .ok (.iconst 1, 1) := by decide +kernel
theorem dX12_play_174 : decode cX12_play 174 = .ok (.iload_n 2, 1) := by decide +kernel
theorem dX12_play_175 : decode cX12_play 175 = .ok (.iconst (-1), 1) := by decide +kernel
theorem dX12_play_176 : decode cX12_play 176 = .ok (.iconst (-1), 1) := by decide +kernel
theorem dX12_play_177 : decode cX12_play 177 = .ok (.invokevirtual 212, 3) := by decide +kernel
theorem dX12_play_180 : decode cX12_play 180 = .ok (.goto 27, 3) := by decide +kernel
theorem dX12_play_183 : decode cX12_play 183 = .ok (.aload_n 0, 1) := by decide +kernel
theorem dX12_play_184 : decode cX12_play 184 = .ok (.getfield 218, 3) := by decide +kernel
theorem dX12_play_187 : decode cX12_play 187 = .ok (.ifCond .eq 14, 3) := by decide +kernel
theorem dX12_play_190 : decode cX12_play 190 = .ok (.aload_n 0, 1) := by decide +kernel
theorem dX12_play_191 : decode cX12_play 191 = .ok (.iconst 2, 1) := by decide +kernel
theorem dX12_play_192 : decode cX12_play 192 = .ok (.iload_n 2, 1) := by decide +kernel
theorem dX12_play_193 : decode cX12_play 193 = .ok (.iconst (-1), 1) := by decide +kernel
theorem dX12_play_194 : decode cX12_play 194 = .ok (.iconst (-1), 1) := by decide +kernel
theorem dX12_play_195 : decode cX12_play 195 = .ok (.invokevirtual 212, 3) := by decide +kernel
theorem dX12_play_198 : decode cX12_play 198 = .ok (.goto 9, 3) := by decide +kernel
theorem dX12_play_201 : decode cX12_play 201 = .ok (.aload_n 0, 1) := by decide +kernel
theorem dX12_play_202 : decode cX12_play 202 = .ok (.iload_n 1, 1) := by decide +kernel
theorem dX12_play_203 : decode cX12_play 203 = .ok (.iload_n 2, 1) := by decide +kernel
theorem dX12_play_204 : decode cX12_play 204 = .ok (.invokevirtual 232, 3) := by decide +kernel
theorem dX12_play_207 : decode cX12_play 207 = .ok (.iinc 2 1, 3) := by decide +kernel
theorem dX12_play_210 : decode cX12_play 210 = .ok (.goto (-70), 3) := by decide +kernel
theorem dX12_play_213 : decode cX12_play 213 = .ok (.return_, 1) := by decide +kernel
theorem dX12_playTurn_0 : decode cX12_playTurn 0 = .ok (.aload_n 0, 1) := by decide +kernel
theorem dX12_playTurn_1 : decode cX12_playTurn 1 = .ok (.iload_n 2, 1) := by decide +kernel
theorem dX12_playTurn_2 : decode cX12_playTurn 2 = .ok (.putfield 215, 3) := by decide +kernel
theorem dX12_playTurn_5 : decode cX12_playTurn 5 = .ok (.aload_n 0, 1) := by decide +kernel
theorem dX12_playTurn_6 : decode cX12_playTurn 6 = .ok (.getfield 123, 3) := by decide +kernel
theorem dX12_playTurn_9 : decode cX12_playTurn 9 = .ok (.iload_n 2, 1) := by decide +kernel
theorem dX12_playTurn_10 : decode cX12_playTurn 10 = .ok (.iconst 1, 1) := by decide +kernel
theorem dX12_playTurn_11 : decode cX12_playTurn 11 = .ok (.bastore, 1) := by decide +kernel
theorem dX12_playTurn_12 : decode cX12_playTurn 12 = .ok (.aload_n 0, 1) := by decide +kernel
theorem dX12_playTurn_13 : decode cX12_playTurn 13 = .ok (.getfield 87, 3) := by decide +kernel
theorem dX12_playTurn_16 : decode cX12_playTurn 16 = .ok (.iload_n 2, 1) := by decide +kernel
theorem dX12_playTurn_17 : decode cX12_playTurn 17 = .ok (.iload_n 2, 1) := by decide +kernel
theorem dX12_playTurn_18 : decode cX12_playTurn 18 = .ok (.iconst 1, 1) := by decide +kernel
theorem dX12_playTurn_19 : decode cX12_playTurn 19 = .ok (.if_icmp .ne 22, 3) := by decide +kernel
theorem dX12_playTurn_22 : decode cX12_playTurn 22 = .ok (.aload_n 0, 1) := by decide +kernel
theorem dX12_playTurn_23 : decode cX12_playTurn 23 = .ok (.getfield 19, 3) := by decide +kernel
theorem dX12_playTurn_26 : decode cX12_playTurn 26 = .ok (.iload_n 1, 1) := by decide +kernel
theorem dX12_playTurn_27 : decode cX12_playTurn 27 = .ok (.iaload, 1) := by decide +kernel
theorem dX12_playTurn_28 : decode cX12_playTurn 28 = .ok (.iconst 1, 1) := by decide +kernel
theorem dX12_playTurn_29 : decode cX12_playTurn 29 = .ok (.if_icmp .ne 12, 3) := by decide +kernel
theorem dX12_playTurn_32 : decode cX12_playTurn 32 = .ok (.aload_n 0, 1) := by decide +kernel
theorem dX12_playTurn_33 : decode cX12_playTurn 33 = .ok (.getfield 87, 3) := by decide +kernel
theorem dX12_playTurn_36 : decode cX12_playTurn 36 = .ok (.iconst 0, 1) := by decide +kernel
theorem dX12_playTurn_37 : decode cX12_playTurn 37 = .ok (.iaload, 1) := by decide +kernel
theorem dX12_playTurn_38 : decode cX12_playTurn 38 = .ok (.goto 9, 3) := by decide +kernel
theorem dX12_playTurn_41 : decode cX12_playTurn 41 = .ok (.aload_n 0, 1) := by decide +kernel
theorem dX12_playTurn_42 : decode cX12_playTurn 42 = .ok (.getfield 16, 3) := by decide +kernel
theorem dX12_playTurn_45 : decode cX12_playTurn 45 = .ok (.iload_n 1, 1) := by decide +kernel
theorem dX12_playTurn_46 : decode cX12_playTurn 46 = .ok (.iaload, 1) := by decide +kernel
theorem dX12_playTurn_47 : decode cX12_playTurn 47 = .ok (.iastore, 1) := by decide +kernel
theorem dX12_playTurn_48 : decode cX12_playTurn 48 = .ok (.aload_n 0, 1) := by decide +kernel
theorem dX12_playTurn_49 : decode cX12_playTurn 49 = .ok (.getfield 96, 3) := by decide +kernel
theorem dX12_playTurn_52 : decode cX12_playTurn 52 = .ok (.iload_n 2, 1) := by decide +kernel
theorem dX12_playTurn_53 : decode cX12_playTurn 53 = .ok (.bipush 6, 2) := by decide +kernel
theorem dX12_playTurn_55 : decode cX12_playTurn 55 = .ok (.aload_n 0, 1) := by decide +kernel
theorem dX12_playTurn_56 : decode cX12_playTurn 56 = .ok (.getfield 87, 3) := by decide +kernel
theorem dX12_playTurn_59 : decode cX12_playTurn 59 = .ok (.iload_n 2, 1) := by decide +kernel
theorem dX12_playTurn_60 : decode cX12_playTurn 60 = .ok (.iaload, 1) := by decide +kernel
theorem dX12_playTurn_61 : decode cX12_playTurn 61 = .ok (.imul, 1) := by decide +kernel
theorem dX12_playTurn_62 : decode cX12_playTurn 62 = .ok (.iconst 0, 1) := by decide +kernel
theorem dX12_playTurn_63 : decode cX12_playTurn 63 = .ok (.invokestatic 236, 3) := by decide +kernel
theorem dX12_playTurn_66 : decode cX12_playTurn 66 = .ok (.iastore, 1) := by decide +kernel
theorem dX12_playTurn_67 : decode cX12_playTurn 67 = .ok (.aload_n 0, 1) := by decide +kernel
theorem dX12_playTurn_68 : decode cX12_playTurn 68 = .ok (.getfield 102, 3) := by decide +kernel
theorem dX12_playTurn_71 : decode cX12_playTurn 71 = .ok (.iload_n 2, 1) := by decide +kernel
theorem dX12_playTurn_72 : decode cX12_playTurn 72 = .ok (.iconst 0, 1) := by decide +kernel
theorem dX12_playTurn_73 : decode cX12_playTurn 73 = .ok (.iastore, 1) := by decide +kernel
theorem dX12_playTurn_74 : decode cX12_playTurn 74 = .ok (.aload_n 0, 1) := by decide +kernel
theorem dX12_playTurn_75 : decode cX12_playTurn 75 = .ok (.getfield 105, 3) := by decide +kernel
theorem dX12_playTurn_78 : decode cX12_playTurn 78 = .ok (.iload_n 2, 1) := by decide +kernel
theorem dX12_playTurn_79 : decode cX12_playTurn 79 = .ok (.iconst 1, 1) := by decide +kernel
theorem dX12_playTurn_80 : decode cX12_playTurn 80 = .ok (.iastore, 1) := by decide +kernel
theorem dX12_playTurn_81 : decode cX12_playTurn 81 = .ok (.aload_n 0, 1) := by decide +kernel
theorem dX12_playTurn_82 : decode cX12_playTurn 82 = .ok (.getfield 133, 3) := by decide +kernel
theorem dX12_playTurn_85 : decode cX12_playTurn 85 = .ok (.bipush 11, 2) := by decide +kernel
theorem dX12_playTurn_87 : decode cX12_playTurn 87 = .ok (.iload_n 2, 1) := by decide +kernel
theorem dX12_playTurn_88 : decode cX12_playTurn 88 = .ok (.imul, 1) := by decide +kernel
theorem dX12_playTurn_89 : decode cX12_playTurn 89 = .ok (.iconst 1, 1) := by decide +kernel
theorem dX12_playTurn_90 : decode cX12_playTurn 90 = .ok (.iastore, 1) := by decide +kernel
theorem dX12_playTurn_91 : decode cX12_playTurn 91 = .ok (.aload_n 0, 1) := by decide +kernel
theorem dX12_playTurn_92 : decode cX12_playTurn 92 = .ok (.getfield 133, 3) := by decide +kernel
theorem dX12_playTurn_95 : decode cX12_playTurn 95 = .ok (.bipush 11, 2) := by decide +kernel
theorem dX12_playTurn_97 : decode cX12_playTurn 97 = .ok (.iload_n 2, 1) := by decide +kernel
theorem dX12_playTurn_98 : decode cX12_playTurn 98 = .ok (.imul, 1) := by decide +kernel
theorem dX12_playTurn_99 : decode cX12_playTurn 99 = .ok (.iconst 1, 1) := by decide +kernel
theorem dX12_playTurn_100 : decode cX12_playTurn 100 = .ok (.iadd, 1) := by decide +kernel
theorem dX12_playTurn_101 : decode cX12_playTurn 101 = .ok (.iconst 1, 1) := by decide +kernel
theorem dX12_playTurn_102 : decode cX12_playTurn 102 = .ok (.iastore, 1) := by decide +kernel
theorem dX12_playTurn_103 : decode cX12_playTurn 103 = .ok (.iload_n 2, 1) := by decide +kernel
theorem dX12_playTurn_104 : decode cX12_playTurn 104 = .ok (.aload_n 0, 1) := by decide +kernel
theorem dX12_playTurn_105 : decode cX12_playTurn 105 = .ok (.iload_n 1, 1) := by decide +kernel
theorem dX12_playTurn_106 : decode cX12_playTurn 106 = .ok (.invokevirtual 240, 3) := by decide +kernel
theorem dX12_playTurn_109 : decode cX12_playTurn 109 = .ok (.if_icmp .ne 9, 3) := by decide +kernel
theorem dX12_playTurn_112 : decode cX12_playTurn 112 = .ok (.aload_n 0, 1) := by decide +kernel
theorem dX12_playTurn_113 : decode cX12_playTurn 113 = .ok (.iload_n 1, 1) := by decide +kernel
theorem dX12_playTurn_114 : decode cX12_playTurn 114 = .ok (.iload_n 2, 1) := by decide +kernel
theorem dX12_playTurn_115 : decode cX12_playTurn 115 = .ok (.invokevirtual 244, 3) := by decide +kernel
theorem dX12_playTurn_118 : decode cX12_playTurn 118 = .ok (.iconst 0, 1) := by decide +kernel
theorem dX12_playTurn_119 : decode cX12_playTurn 119 = .ok (.istore_n 3, 1) := by decide +kernel
theorem dX12_playTurn_120 : decode cX12_playTurn 120 = .ok (.iload_n 3, 1) := by decide +kernel
theorem dX12_playTurn_121 : decode cX12_playTurn 121 = .ok (.aload_n 0, 1) := by decide +kernel
theorem dX12_playTurn_122 : decode cX12_playTurn 122 = .ok (.getfield 28, 3) := by decide +kernel
theorem dX12_playTurn_125 : decode cX12_playTurn 125 = .ok (.iconst 4, 1) := by decide +kernel
theorem dX12_playTurn_126 : decode cX12_playTurn 126 = .ok (.iload_n 1, 1) := by decide +kernel
theorem dX12_playTurn_127 : decode cX12_playTurn 127 = .ok (.imul, 1) := by decide +kernel
theorem dX12_playTurn_128 : decode cX12_playTurn 128 = .ok (.iload_n 2, 1) := by decide +kernel
theorem dX12_playTurn_129 : decode cX12_playTurn 129 = .ok (.iadd, 1) := by decide +kernel
theorem dX12_playTurn_130 : decode cX12_playTurn 130 = .ok (.iaload, 1) := by decide +kernel
theorem dX12_playTurn_131 : decode cX12_playTurn 131 = .ok (.if_icmp .ge 23, 3) := by decide +kernel
theorem dX12_playTurn_134 : decode cX12_playTurn 134 = .ok (.aload_n 0, 1) := by decide +kernel
theorem dX12_playTurn_135 : decode cX12_playTurn 135 = .ok (.getfield 200, 3) := by decide +kernel
theorem dX12_playTurn_138 : decode cX12_playTurn 138 = .ok (.ifCond .ne 16, 3) := by decide +kernel
theorem dX12_playTurn_141 : decode cX12_playTurn 141 = .ok (.aload_n 0, 1) := by decide +kernel
theorem dX12_playTurn_142 : decode cX12_playTurn 142 = .ok (.iload_n 1, 1) := by decide +kernel
theorem dX12_playTurn_143 : decode cX12_playTurn 143 = .ok (.iload_n 2, 1) := by decide +kernel
theorem dX12_playTurn_144 : decode cX12_playTurn 144 = .ok (.iload_n 3, 1) := by decide +kernel
theorem dX12_playTurn_145 : decode cX12_playTurn 145 = .ok (.invokevirtual 247, 3) := by decide +kernel
theorem dX12_playTurn_148 : decode cX12_playTurn 148 = .ok (.iinc 3 1, 3) := by decide +kernel
theorem dX12_playTurn_151 : decode cX12_playTurn 151 = .ok (.goto (-31), 3) := by decide +kernel
theorem dX12_playTurn_154 : decode cX12_playTurn 154 = .ok (.aload_n 0, 1) := by decide +kernel
theorem dX12_playTurn_155 : decode cX12_playTurn 155 = .ok (.getfield 90, 3) := by decide +kernel
theorem dX12_playTurn_158 : decode cX12_playTurn 158 = .ok (.iload_n 2, 1) := by decide +kernel
theorem dX12_playTurn_159 : decode cX12_playTurn 159 = .ok (.iaload, 1) := by decide +kernel
theorem dX12_playTurn_160 : decode cX12_playTurn 160 = .ok (.ifCond .ne 4, 3) := by decide +kernel
theorem dX12_playTurn_163 : decode cX12_playTurn 163 = .ok (.return_, 1) := by decide +kernel
theorem dX12_playTurn_164 : decode cX12_playTurn 164 = .ok (.iload_n 2, 1) := by decide +kernel
theorem dX12_playTurn_165 : decode cX12_playTurn 165 = .ok (.aload_n 0, 1) := by decide +kernel
theorem dX12_playTurn_166 : decode cX12_playTurn 166 = .ok (.iload_n 1, 1) := by decide +kernel
theorem dX12_playTurn_167 : decode cX12_playTurn 167 = .ok (.invokevirtual 240, 3) := by decide +kernel
theorem dX12_playTurn_170 : decode cX12_playTurn 170 = .ok (.if_icmp .ne 37, 3) := by decide +kernel
theorem dX12_playTurn_173 : decode cX12_playTurn 173 = .ok (.aload_n 0, 1) := by decide +kernel
theorem dX12_playTurn_174 : decode cX12_playTurn 174 = .ok (.getfield 218, 3) := by decide +kernel
theorem dX12_playTurn_177 : decode cX12_playTurn 177 = .ok (.ifCond .ne 76, 3) := by decide +kernel
theorem dX12_playTurn_180 : decode cX12_playTurn 180 = .ok (.aload_n 0, 1) := by decide +kernel
theorem dX12_playTurn_181 : decode cX12_playTurn 181 = .ok (.aload_n 0, 1) := by decide +kernel
theorem dX12_playTurn_182 : decode cX12_playTurn 182 = .ok (.getfield 72, 3) := by decide +kernel
theorem dX12_playTurn_185 : decode cX12_playTurn 185 = .ok (.iload_n 2, 1) := by decide +kernel
theorem dX12_playTurn_186 : decode cX12_playTurn 186 = .ok (.iaload, 1) := by decide +kernel
theorem dX12_playTurn_187 : decode cX12_playTurn 187 = .ok (.aload_n 0, 1) := by decide +kernel
theorem dX12_playTurn_188 : decode cX12_playTurn 188 = .ok (.getfield 221, 3) := by decide +kernel
theorem dX12_playTurn_191 : decode cX12_playTurn 191 = .ok (.iconst 1, 1) := by decide +kernel
theorem dX12_playTurn_192 : decode cX12_playTurn 192 = .ok (.isub, 1) := by decide +kernel
theorem dX12_playTurn_193 : decode cX12_playTurn 193 = .ok (.if_icmp .ne 7, 3) := by decide +kernel
theorem dX12_playTurn_196 : decode cX12_playTurn 196 = .ok (.iconst 3, 1) := by decide +kernel
theorem dX12_playTurn_197 : decode cX12_playTurn 197 = .ok (.goto 4, 3) := by decide +kernel
theorem dX12_playTurn_200 : decode cX12_playTurn 200 = .ok (.iconst 1, 1) := by decide +kernel
theorem dX12_playTurn_201 : decode cX12_playTurn 201 = .ok (.putfield 218, 3) := by decide +kernel
theorem dX12_playTurn_204 : decode cX12_playTurn 204 = .ok (.goto 49, 3) := by decide +kernel
theorem dX12_playTurn_207 : decode cX12_playTurn 207 = .ok (.aload_n 0, 1) := by decide +kernel
theorem dX12_playTurn_208 : decode cX12_playTurn 208 = .ok (.getfield 19, 3) := by decide +kernel
theorem dX12_playTurn_211 : decode cX12_playTurn 211 = .ok (.iload_n 1, 1) := by decide +kernel
theorem dX12_playTurn_212 : decode cX12_playTurn 212 = .ok (.iaload, 1) := by decide +kernel
theorem dX12_playTurn_213 : decode cX12_playTurn 213 = .ok (.iconst 2, 1) := by decide +kernel
theorem dX12_playTurn_214 : decode cX12_playTurn 214 = .ok (.if_icmp .ne 39, 3) := by decide +kernel
theorem dX12_playTurn_217 : decode cX12_playTurn 217 = .ok (.iload_n 2, 1) := by decide +kernel
theorem dX12_playTurn_218 : decode cX12_playTurn 218 = .ok (.iconst 2, 1) := by decide +kernel
theorem dX12_playTurn_219 : decode cX12_playTurn 219 = .ok (.if_icmp .ne 34, 3) := by decide +kernel
theorem dX12_playTurn_222 : decode cX12_playTurn 222 = .ok (.aload_n 0, 1) := by decide +kernel
theorem dX12_playTurn_223 : decode cX12_playTurn 223 = .ok (.getfield 72, 3) := by decide +kernel
theorem dX12_playTurn_226 : decode cX12_playTurn 226 = .ok (.iconst 0, 1) := by decide +kernel
theorem dX12_playTurn_227 : decode cX12_playTurn 227 = .ok (.iaload, 1) := by decide +kernel
theorem dX12_playTurn_228 : decode cX12_playTurn 228 = .ok (.aload_n 0, 1) := by decide +kernel
theorem dX12_playTurn_229 : decode cX12_playTurn 229 = .ok (.getfield 72, 3) := by decide +kernel
theorem dX12_playTurn_232 : decode cX12_playTurn 232 = .ok (.iconst 2, 1) := by decide +kernel
theorem dX12_playTurn_233 : decode cX12_playTurn 233 = .ok (.iaload, 1) := by decide +kernel
theorem dX12_playTurn_234 : decode cX12_playTurn 234 = .ok (.iadd, 1) := by decide +kernel
theorem dX12_playTurn_235 : decode cX12_playTurn 235 = .ok (.aload_n 0, 1) := by decide +kernel
theorem dX12_playTurn_236 : decode cX12_playTurn 236 = .ok (.getfield 72, 3) := by decide +kernel
theorem dX12_playTurn_239 : decode cX12_playTurn 239 = .ok (.iconst 1, 1) := by decide +kernel
theorem dX12_playTurn_240 : decode cX12_playTurn 240 = .ok (.iaload, 1) := by decide +kernel
theorem dX12_playTurn_241 : decode cX12_playTurn 241 = .ok (.isub, 1) := by decide +kernel
theorem dX12_playTurn_242 : decode cX12_playTurn 242 = .ok (.iconst 1, 1) := by decide +kernel
theorem dX12_playTurn_243 : decode cX12_playTurn 243 = .ok (.iadd, 1) := by decide +kernel
theorem dX12_playTurn_244 : decode cX12_playTurn 244 = .ok (.iconst 1, 1) := by decide +kernel
theorem dX12_playTurn_245 : decode cX12_playTurn 245 = .ok (.if_icmp .ge 8, 3) := by decide +kernel
theorem dX12_playTurn_248 : decode cX12_playTurn 248 = .ok (.aload_n 0, 1) := by decide +kernel
theorem dX12_playTurn_249 : decode cX12_playTurn 249 = .ok (.iconst 2, 1) := by decide +kernel
theorem dX12_playTurn_250 : decode cX12_playTurn 250 = .ok (.putfield 218, 3) := by decide +kernel
theorem dX12_playTurn_253 : decode cX12_playTurn 253 = .ok (.return_, 1) := by decide +kernel
theorem dX12_aim_0 : decode cX12_aim 0 = .ok (.iload_n 2, 1) := by decide +kernel
theorem dX12_aim_1 : decode cX12_aim 1 = .ok (.iconst 3, 1) := by decide +kernel
theorem dX12_aim_2 : decode cX12_aim 2 = .ok (.if_icmp .ne 30, 3) := by decide +kernel
theorem dX12_aim_5 : decode cX12_aim 5 = .ok (.aload_n 0, 1) := by decide +kernel
theorem dX12_aim_6 : decode cX12_aim 6 = .ok (.aload_n 0, 1) := by decide +kernel
theorem dX12_aim_7 : decode cX12_aim 7 = .ok (.getfield 72, 3) := by decide +kernel
theorem dX12_aim_10 : decode cX12_aim 10 = .ok (.iconst 0, 1) := by decide +kernel
theorem dX12_aim_11 : decode cX12_aim 11 = .ok (.iaload, 1) := by decide +kernel
theorem dX12_aim_12 : decode cX12_aim 12 = .ok (.aload_n 0, 1) := by decide +kernel
theorem dX12_aim_13 : decode cX12_aim 13 = .ok (.getfield 72, 3) := by decide +kernel
theorem dX12_aim_16 : decode cX12_aim 16 = .ok (.iconst 2, 1) := by decide +kernel
theorem dX12_aim_17 : decode cX12_aim 17 = .ok (.iaload, 1) := by decide +kernel
theorem dX12_aim_18 : decode cX12_aim 18 = .ok (.iadd, 1) := by decide +kernel
theorem dX12_aim_19 : decode cX12_aim 19 = .ok (.aload_n 0, 1) := by decide +kernel
theorem dX12_aim_20 : decode cX12_aim 20 = .ok (.getfield 72, 3) := by decide +kernel
theorem dX12_aim_23 : decode cX12_aim 23 = .ok (.iconst 1, 1) := by decide +kernel
theorem dX12_aim_24 : decode cX12_aim 24 = .ok (.iaload, 1) := by decide +kernel
theorem dX12_aim_25 : decode cX12_aim 25 = .ok (.isub, 1) := by decide +kernel
theorem dX12_aim_26 : decode cX12_aim 26 = .ok (.iconst 1, 1) := by decide +kernel
theorem dX12_aim_27 : decode cX12_aim 27 = .ok (.iadd, 1) := by decide +kernel
theorem dX12_aim_28 : decode cX12_aim 28 = .ok (.putfield 221, 3) := by decide +kernel
theorem dX12_aim_31 : decode cX12_aim 31 = .ok (.return_, 1) := by decide +kernel
theorem dX12_aim_32 : decode cX12_aim 32 = .ok (.aload_n 0, 1) := by decide +kernel
theorem dX12_aim_33 : decode cX12_aim 33 = .ok (.getfield 72, 3) := by decide +kernel
theorem dX12_aim_36 : decode cX12_aim 36 = .ok (.iconst 0, 1) := by decide +kernel
theorem dX12_aim_37 : decode cX12_aim 37 = .ok (.iaload, 1) := by decide +kernel
theorem dX12_aim_38 : decode cX12_aim 38 = .ok (.istore_n 3, 1) := by decide +kernel
theorem dX12_aim_39 : decode cX12_aim 39 = .ok (.aload_n 0, 1) := by decide +kernel
theorem dX12_aim_40 : decode cX12_aim 40 = .ok (.getfield 96, 3) := by decide +kernel
theorem dX12_aim_43 : decode cX12_aim 43 = .ok (.iconst 0, 1) := by decide +kernel
theorem dX12_aim_44 : decode cX12_aim 44 = .ok (.iaload, 1) := by decide +kernel
theorem dX12_aim_45 : decode cX12_aim 45 = .ok (.istore 4, 2) := by decide +kernel
theorem dX12_aim_47 : decode cX12_aim 47 = .ok (.aload_n 0, 1) := by decide +kernel
theorem dX12_aim_48 : decode cX12_aim 48 = .ok (.getfield 96, 3) := by decide +kernel
theorem dX12_aim_51 : decode cX12_aim 51 = .ok (.iconst 1, 1) := by decide +kernel
theorem dX12_aim_52 : decode cX12_aim 52 = .ok (.iaload, 1) := by decide +kernel
theorem dX12_aim_53 : decode cX12_aim 53 = .ok (.istore 5, 2) := by decide +kernel
theorem dX12_aim_55 : decode cX12_aim 55 = .ok (.iload 5, 2) := by decide +kernel
theorem dX12_aim_57 : decode cX12_aim 57 = .ok (.iload 4, 2) := by decide +kernel
theorem dX12_aim_59 : decode cX12_aim 59 = .ok (.if_icmp .le 27, 3) := by decide +kernel
theorem dX12_aim_62 : decode cX12_aim 62 = .ok (.aload_n 0, 1) := by decide +kernel
theorem dX12_aim_63 : decode cX12_aim 63 = .ok (.iload_n 3, 1) := by decide +kernel
theorem dX12_aim_64 : decode cX12_aim 64 = .ok (.sipush 200, 3) := by decide +kernel
theorem dX12_aim_67 : decode cX12_aim 67 = .ok (.iload 5, 2) := by decide +kernel
theorem dX12_aim_69 : decode cX12_aim 69 = .ok (.iload 4, 2) := by decide +kernel
theorem dX12_aim_71 : decode cX12_aim 71 = .ok (.isub, 1) := by decide +kernel
theorem dX12_aim_72 : decode cX12_aim 72 = .ok (.imul, 1) := by decide +kernel
theorem dX12_aim_73 : decode cX12_aim 73 = .ok (.sipush 1000, 3) := by decide +kernel
theorem dX12_aim_76 : decode cX12_aim 76 = .ok (.idiv, 1) := by decide +kernel
theorem dX12_aim_77 : decode cX12_aim 77 = .ok (.iadd, 1) := by decide +kernel
theorem dX12_aim_78 : decode cX12_aim 78 = .ok (.iconst 1, 1) := by decide +kernel
theorem dX12_aim_79 : decode cX12_aim 79 = .ok (.iadd, 1) := by decide +kernel
theorem dX12_aim_80 : decode cX12_aim 80 = .ok (.putfield 221, 3) := by decide +kernel
theorem dX12_aim_83 : decode cX12_aim 83 = .ok (.goto 29, 3) := by decide +kernel
theorem dX12_aim_86 : decode cX12_aim 86 = .ok (.aload_n 0, 1) := by decide +kernel
theorem dX12_aim_87 : decode cX12_aim 87 = .ok (.iload 4, 2) := by decide +kernel
theorem dX12_aim_89 : decode cX12_aim 89 = .ok (.ifCond .ne 7, 3) := by decide +kernel
theorem dX12_aim_92 : decode cX12_aim 92 = .ok (.iconst 1, 1) := by decide +kernel
theorem dX12_aim_93 : decode cX12_aim 93 = .ok (.goto 16, 3) := by decide +kernel
theorem dX12_aim_96 : decode cX12_aim 96 = .ok (.iload_n 3, 1) := by decide +kernel
theorem dX12_aim_97 : decode cX12_aim 97 = .ok (.i2l, 1) := by decide +kernel
theorem dX12_aim_98 : decode cX12_aim 98 = .ok (.iload 5, 2) := by decide +kernel
theorem dX12_aim_100 : decode cX12_aim 100 = .ok (.i2l, 1) := by decide +kernel
theorem dX12_aim_101 : decode cX12_aim 101 = .ok (.lmul, 1) := by decide +kernel
theorem dX12_aim_102 : decode cX12_aim 102 = .ok (.iload 4, 2) := by decide +kernel
theorem dX12_aim_104 : decode cX12_aim 104 = .ok (.i2l, 1) := by decide +kernel
theorem dX12_aim_105 : decode cX12_aim 105 = .ok (.ldiv, 1) := by decide +kernel
theorem dX12_aim_106 : decode cX12_aim 106 = .ok (.l2i, 1) := by decide +kernel
theorem dX12_aim_107 : decode cX12_aim 107 = .ok (.iconst 1, 1) := by decide +kernel
theorem dX12_aim_108 : decode cX12_aim 108 = .ok (.iadd, 1) := by decide +kernel
theorem dX12_aim_109 : decode cX12_aim 109 = .ok (.putfield 221, 3) := by decide +kernel
theorem dX12_aim_112 : decode cX12_aim 112 = .ok (.return_, 1) := by decide +kernel
theorem dX12_change_0 : decode cX12_change 0 = .ok (.aload_n 0, 1) := by decide +kernel
theorem dX12_change_1 : decode cX12_change 1 = .ok (.getfield 102, 3) := by decide +kernel
theorem dX12_change_4 : decode cX12_change 4 = .ok (.iload_n 1, 1) := by decide +kernel
theorem dX12_change_5 : decode cX12_change 5 = .ok (.iaload, 1) := by decide +kernel
theorem dX12_change_6 : decode cX12_change 6 = .ok (.istore_n 2, 1) := by decide +kernel
theorem dX12_change_7 : decode cX12_change 7 = .ok (.aload_n 0, 1) := by decide +kernel
theorem dX12_change_8 : decode cX12_change 8 = .ok (.getfield 102, 3) := by decide +kernel
theorem dX12_change_11 : decode cX12_change 11 = .ok (.iload_n 1, 1) := by decide +kernel
theorem dX12_change_12 : decode cX12_change 12 = .ok (.aload_n 0, 1) := by decide +kernel
theorem dX12_change_13 : decode cX12_change 13 = .ok (.getfield 105, 3) := by decide +kernel
theorem dX12_change_16 : decode cX12_change 16 = .ok (.iload_n 1, 1) := by decide +kernel
theorem dX12_change_17 : decode cX12_change 17 = .ok (.iaload, 1) := by decide +kernel
theorem dX12_change_18 : decode cX12_change 18 = .ok (.iastore, 1) := by decide +kernel
theorem dX12_change_19 : decode cX12_change 19 = .ok (.aload_n 0, 1) := by decide +kernel
theorem dX12_change_20 : decode cX12_change 20 = .ok (.getfield 105, 3) := by decide +kernel
theorem dX12_change_23 : decode cX12_change 23 = .ok (.iload_n 1, 1) := by decide +kernel
theorem dX12_change_24 : decode cX12_change 24 = .ok (.iload_n 2, 1) := by decide +kernel
theorem dX12_change_25 : decode cX12_change 25 = .ok (.iastore, 1) := by decide +kernel
theorem dX12_change_26 : decode cX12_change 26 = .ok (.return_, 1) := by decide +kernel
theorem dX12_becomesWhole_0 : decode cX12_becomesWhole 0 = .ok (.aload_n 0, 1) := by decide +kernel
theorem dX12_becomesWhole_1 : decode cX12_becomesWhole 1 = .ok (.getfield 154, 3) := by decide +kernel
theorem dX12_becomesWhole_4 : decode cX12_becomesWhole 4 = .ok (.iload_n 2, 1) := by decide +kernel
theorem dX12_becomesWhole_5 : decode cX12_becomesWhole 5 = .ok (.iconst 1, 1) := by decide +kernel
theorem dX12_becomesWhole_6 : decode cX12_becomesWhole 6 = .ok (.bastore, 1) := by decide +kernel
theorem dX12_becomesWhole_7 : decode cX12_becomesWhole 7 = .ok (.aload_n 0, 1) := by decide +kernel
theorem dX12_becomesWhole_8 : decode cX12_becomesWhole 8 = .ok (.getfield 78, 3) := by decide +kernel
theorem dX12_becomesWhole_11 : decode cX12_becomesWhole 11 = .ok (.iload_n 1, 1) := by decide +kernel
theorem dX12_becomesWhole_12 : decode cX12_becomesWhole 12 = .ok (.dup2, 1) := by decide +kernel
theorem dX12_becomesWhole_13 : decode cX12_becomesWhole 13 = .ok (.iaload, 1) := by decide +kernel
theorem dX12_becomesWhole_14 : decode cX12_becomesWhole 14 = .ok (.iconst 1, 1) := by decide +kernel
theorem dX12_becomesWhole_15 : decode cX12_becomesWhole 15 = .ok (.iadd, 1) := by decide +kernel
theorem dX12_becomesWhole_16 : decode cX12_becomesWhole 16 = .ok (.iastore, 1) := by decide +kernel
theorem dX12_becomesWhole_17 : decode cX12_becomesWhole 17 = .ok (.aload_n 0, 1) := by decide +kernel
theorem dX12_becomesWhole_18 : decode cX12_becomesWhole 18 = .ok (.getfield 81, 3) := by decide +kernel
theorem dX12_becomesWhole_21 : decode cX12_becomesWhole 21 = .ok (.iload_n 1, 1) := by decide +kernel
theorem dX12_becomesWhole_22 : decode cX12_becomesWhole 22 = .ok (.iconst 0, 1) := by decide +kernel
theorem dX12_becomesWhole_23 : decode cX12_becomesWhole 23 = .ok (.iastore, 1) := by decide +kernel
theorem dX12_becomesWhole_24 : decode cX12_becomesWhole 24 = .ok (.aload_n 0, 1) := by decide +kernel
theorem dX12_becomesWhole_25 : decode cX12_becomesWhole 25 = .ok (.iload_n 1, 1) := by decide +kernel
theorem dX12_becomesWhole_26 : decode cX12_becomesWhole 26 = .ok (.invokevirtual 251, 3) := by decide +kernel
theorem dX12_becomesWhole_29 : decode cX12_becomesWhole 29 = .ok (.return_, 1) := by decide +kernel
theorem dX12_playOver_0 : decode cX12_playOver 0 = .ok (.aload_n 0, 1) := by decide +kernel
theorem dX12_playOver_1 : decode cX12_playOver 1 = .ok (.iload_n 1, 1) := by decide +kernel
theorem dX12_playOver_2 : decode cX12_playOver 2 = .ok (.iload_n 2, 1) := by decide +kernel
theorem dX12_playOver_3 : decode cX12_playOver 3 = .ok (.iload_n 3, 1) := by decide +kernel
theorem dX12_playOver_4 : decode cX12_playOver 4 = .ok (.invokevirtual 228, 3) := by decide +kernel
theorem dX12_playOver_7 : decode cX12_playOver 7 = .ok (.istore 4, 2) := by decide +kernel
theorem dX12_playOver_9 : decode cX12_playOver 9 = .ok (.aload_n 0, 1) := by decide +kernel
theorem dX12_playOver_10 : decode cX12_playOver 10 = .ok (.getfield 35, 3) := by decide +kernel
theorem dX12_playOver_13 : decode cX12_playOver 13 = .ok (.iload 4, 2) := by decide +kernel
theorem dX12_playOver_15 : decode cX12_playOver 15 = .ok (.iaload, 1) := by decide +kernel
theorem dX12_playOver_16 : decode cX12_playOver 16 = .ok (.istore 5, 2) := by decide +kernel
theorem dX12_playOver_18 : decode cX12_playOver 18 = .ok (.aload_n 0, 1) := by decide +kernel
theorem dX12_playOver_19 : decode cX12_playOver 19 = .ok (.getfield 90, 3) := by decide +kernel
theorem dX12_playOver_22 : decode cX12_playOver 22 = .ok (.iload_n 2, 1) := by decide +kernel
theorem dX12_playOver_23 : decode cX12_playOver 23 = .ok (.iaload, 1) := by decide +kernel
theorem dX12_playOver_24 : decode cX12_playOver 24 = .ok (.ifCond .ne 18, 3) := by decide +kernel
theorem dX12_playOver_27 : decode cX12_playOver 27 = .ok (.aload_n 0, 1) := by decide +kernel
theorem dX12_playOver_28 : decode cX12_playOver 28 = .ok (.getfield 99, 3) := by decide +kernel
theorem dX12_playOver_31 : decode cX12_playOver 31 = .ok (.iload_n 2, 1) := by decide +kernel
theorem dX12_playOver_32 : decode cX12_playOver 32 = .ok (.iaload, 1) := by decide +kernel
theorem dX12_playOver_33 : decode cX12_playOver 33 = .ok (.aload_n 0, 1) := by decide +kernel
theorem dX12_playOver_34 : decode cX12_playOver 34 = .ok (.getfield 87, 3) := by decide +kernel
theorem dX12_playOver_37 : decode cX12_playOver 37 = .ok (.iload_n 2, 1) := by decide +kernel
theorem dX12_playOver_38 : decode cX12_playOver 38 = .ok (.iaload, 1) := by decide +kernel
theorem dX12_playOver_39 : decode cX12_playOver 39 = .ok (.if_icmp .ne 7, 3) := by decide +kernel
theorem dX12_playOver_42 : decode cX12_playOver 42 = .ok (.iconst 3, 1) := by decide +kernel
theorem dX12_playOver_43 : decode cX12_playOver 43 = .ok (.goto 60, 3) := by decide +kernel
theorem dX12_playOver_46 : decode cX12_playOver 46 = .ok (.iload 5, 2) := by decide +kernel
theorem dX12_playOver_48 : decode cX12_playOver 48 = .ok (.bipush 10, 2) := by decide +kernel
theorem dX12_playOver_50 : decode cX12_playOver 50 = .ok (.if_icmp .le 7, 3) := by decide +kernel
theorem dX12_playOver_53 : decode cX12_playOver 53 = .ok (.iconst 4, 1) := by decide +kernel
theorem dX12_playOver_54 : decode cX12_playOver 54 = .ok (.goto 49, 3) := by decide +kernel
theorem dX12_playOver_57 : decode cX12_playOver 57 = .ok (.iload 5, 2) := by decide +kernel
theorem dX12_playOver_59 : decode cX12_playOver 59 = .ok (.aload_n 0, 1) := by decide +kernel
theorem dX12_playOver_60 : decode cX12_playOver 60 = .ok (.getfield 120, 3) := by decide +kernel
theorem dX12_playOver_63 : decode cX12_playOver 63 = .ok (.iload_n 2, 1) := by decide +kernel
theorem dX12_playOver_64 : decode cX12_playOver 64 = .ok (.iaload, 1) := by decide +kernel
theorem dX12_playOver_65 : decode cX12_playOver 65 = .ok (.if_icmp .ne 7, 3) := by decide +kernel
theorem dX12_playOver_68 : decode cX12_playOver 68 = .ok (.iconst 5, 1) := by decide +kernel
theorem dX12_playOver_69 : decode cX12_playOver 69 = .ok (.goto 34, 3) := by decide +kernel
theorem dX12_playOver_72 : decode cX12_playOver 72 = .ok (.aload_n 0, 1) := by decide +kernel
theorem dX12_playOver_73 : decode cX12_playOver 73 = .ok (.getfield 136, 3) := by decide +kernel
theorem dX12_playOver_76 : decode cX12_playOver 76 = .ok (.bipush 11, 2) := by decide +kernel
theorem dX12_playOver_78 : decode cX12_playOver 78 = .ok (.iload_n 2, 1) := by decide +kernel
theorem dX12_playOver_79 : decode cX12_playOver 79 = .ok (.imul, 1) := by decide +kernel
theorem dX12_playOver_80 : decode cX12_playOver 80 = .ok (.iload 5, 2) := by decide +kernel
theorem dX12_playOver_82 : decode cX12_playOver 82 = .ok (.iadd, 1) := by decide +kernel
theorem dX12_playOver_83 : decode cX12_playOver 83 = .ok (.iaload, 1) := by decide +kernel
theorem dX12_playOver_84 : decode cX12_playOver 84 = .ok (.aload_n 0, 1) := by decide +kernel
theorem dX12_playOver_85 : decode cX12_playOver 85 = .ok (.getfield 16, 3) := by decide +kernel
theorem dX12_playOver_88 : decode cX12_playOver 88 = .ok (.iload_n 1, 1) := by decide +kernel
theorem dX12_playOver_89 : decode cX12_playOver 89 = .ok (.iaload, 1) := by decide +kernel
theorem dX12_playOver_90 : decode cX12_playOver 90 = .ok (.iconst 4, 1) := by decide +kernel
theorem dX12_playOver_91 : decode cX12_playOver 91 = .ok (.iadd, 1) := by decide +kernel
theorem dX12_playOver_92 : decode cX12_playOver 92 = .ok (.iconst 5, 1) := by decide +kernel
theorem dX12_playOver_93 : decode cX12_playOver 93 = .ok (.idiv, 1) := by decide +kernel
theorem dX12_playOver_94 : decode cX12_playOver 94 = .ok (.if_icmp .ne 8, 3) := by decide +kernel
theorem dX12_playOver_97 : decode cX12_playOver 97 = .ok (.bipush 6, 2) := by decide +kernel
theorem dX12_playOver_99 : decode cX12_playOver 99 = .ok (.goto 4, 3) := by decide +kernel
theorem dX12_playOver_102 : decode cX12_playOver 102 = .ok (.iconst 0, 1) := by decide +kernel
theorem dX12_playOver_103 : decode cX12_playOver 103 = .ok (.istore 6, 2) := by decide +kernel
theorem dX12_playOver_105 : decode cX12_playOver 105 = .ok (.iload 6, 2) := by decide +kernel
theorem dX12_playOver_107 : decode cX12_playOver 107 = .ok (.ifCond .eq 13, 3) := by decide +kernel
theorem dX12_playOver_110 : decode cX12_playOver 110 = .ok (.aload_n 0, 1) := by decide +kernel
theorem dX12_playOver_111 : decode cX12_playOver 111 = .ok (.iload 6, 2) := by decide +kernel
theorem dX12_playOver_113 : decode cX12_playOver 113 = .ok (.iload_n 2, 1) := by decide +kernel
theorem dX12_playOver_114 : decode cX12_playOver 114 = .ok (.iload_n 3, 1) := by decide +kernel
theorem dX12_playOver_115 : decode cX12_playOver 115 = .ok (.iconst (-1), 1) := by decide +kernel
theorem dX12_playOver_116 : decode cX12_playOver 116 = .ok (.invokevirtual 212, 3) := by decide +kernel
theorem dX12_playOver_119 : decode cX12_playOver 119 = .ok (.return_, 1) := by decide +kernel
theorem dX12_playOver_120 : decode cX12_playOver 120 = .ok (.iload_n 3, 1) := by decide +kernel
theorem dX12_playOver_121 : decode cX12_playOver 121 = .ok (.ifCond .le 59, 3) := by decide +kernel
theorem dX12_playOver_124 : decode cX12_playOver 124 = .ok (.aload_n 0, 1) := by decide +kernel
theorem dX12_playOver_125 : decode cX12_playOver 125 = .ok (.getfield 154, 3) := by decide +kernel
theorem dX12_playOver_128 : decode cX12_playOver 128 = .ok (.aload_n 0, 1) := by decide +kernel
theorem dX12_playOver_129 : decode cX12_playOver 129 = .ok (.iload_n 1, 1) := by decide +kernel
theorem dX12_playOver_130 : decode cX12_playOver 130 = .ok (.iload_n 2, 1) := by decide +kernel
theorem dX12_playOver_131 : decode cX12_playOver 131 = .ok (.iload_n 3, 1) := by decide +kernel
theorem dX12_playOver_132 : decode cX12_playOver 132 = .ok (.iconst 1, 1) := by decide +kernel
theorem dX12_playOver_133 : decode cX12_playOver 133 = .ok (.isub, 1) := by decide +kernel
theorem dX12_playOver_134 : decode cX12_playOver 134 = .ok (.invokevirtual 228, 3) := by decide +kernel
theorem dX12_playOver_137 : decode cX12_playOver 137 = .ok (.baload, 1) := by decide +kernel
theorem dX12_playOver_138 : decode cX12_playOver 138 = .ok (.ifCond .ne 42, 3) := by decide +kernel
theorem dX12_playOver_141 : decode cX12_playOver 141 = .ok (.aload_n 0, 1) := by decide +kernel
theorem dX12_playOver_142 : decode cX12_playOver 142 = .ok (.getfield 157, 3) := by decide +kernel
theorem dX12_playOver_145 : decode cX12_playOver 145 = .ok (.aload_n 0, 1) := by decide +kernel
theorem dX12_playOver_146 : decode cX12_playOver 146 = .ok (.iload_n 1, 1) := by decide +kernel
theorem dX12_playOver_147 : decode cX12_playOver 147 = .ok (.iload_n 2, 1) := by decide +kernel
theorem dX12_playOver_148 : decode cX12_playOver 148 = .ok (.iload_n 3, 1) := by decide +kernel
theorem dX12_playOver_149 : decode cX12_playOver 149 = .ok (.iconst 1, 1) := by decide +kernel
theorem dX12_playOver_150 : decode cX12_playOver 150 = .ok (.isub, 1) := by decide +kernel
theorem dX12_playOver_151 : decode cX12_playOver 151 = .ok (.invokevirtual 228, 3) := by decide +kernel
theorem dX12_playOver_154 : decode cX12_playOver 154 = .ok (.iconst 1, 1) := by decide +kernel
theorem dX12_playOver_155 : decode cX12_playOver 155 = .ok (.bastore, 1) := by decide +kernel
theorem dX12_playOver_156 : decode cX12_playOver 156 = .ok (.aload_n 0, 1) := by decide +kernel
theorem dX12_playOver_157 : decode cX12_playOver 157 = .ok (.getfield 93, 3) := by decide +kernel
theorem dX12_playOver_160 : decode cX12_playOver 160 = .ok (.iload_n 2, 1) := by decide +kernel
theorem dX12_playOver_161 : decode cX12_playOver 161 = .ok (.dup2, 1) := by decide +kernel
theorem dX12_playOver_162 : decode cX12_playOver 162 = .ok (.iaload, 1) := by decide +kernel
theorem dX12_playOver_163 : decode cX12_playOver 163 = .ok (.iconst 1, 1) := by decide +kernel
theorem dX12_playOver_164 : decode cX12_playOver 164 = .ok (.iadd, 1) := by decide +kernel
theorem dX12_playOver_165 : decode cX12_playOver 165 = .ok (.iastore, 1) := by decide +kernel
theorem dX12_playOver_166 : decode cX12_playOver 166 = .ok (.aload_n 0, 1) := by decide +kernel
theorem dX12_playOver_167 : decode cX12_playOver 167 = .ok (.iload_n 2, 1) := by decide +kernel
theorem dX12_playOver_168 : decode cX12_playOver 168 = .ok (.aload_n 0, 1) := by decide +kernel
theorem dX12_playOver_169 : decode cX12_playOver 169 = .ok (.iload_n 1, 1) := by decide +kernel
theorem dX12_playOver_170 : decode cX12_playOver 170 = .ok (.iload_n 2, 1) := by decide +kernel
theorem dX12_playOver_171 : decode cX12_playOver 171 = .ok (.iload_n 3, 1) := by decide +kernel
theorem dX12_playOver_172 : decode cX12_playOver 172 = .ok (.iconst 1, 1) := by decide +kernel
theorem dX12_playOver_173 : decode cX12_playOver 173 = .ok (.isub, 1) := by decide +kernel
theorem dX12_playOver_174 : decode cX12_playOver 174 = .ok (.invokevirtual 228, 3) := by decide +kernel
theorem dX12_playOver_177 : decode cX12_playOver 177 = .ok (.invokevirtual 254, 3) := by decide +kernel
theorem dX12_playOver_180 : decode cX12_playOver 180 = .ok (.aload_n 0, 1) := by decide +kernel
theorem dX12_playOver_181 : decode cX12_playOver 181 = .ok (.getfield 99, 3) := by decide +kernel
theorem dX12_playOver_184 : decode cX12_playOver 184 = .ok (.iload_n 2, 1) := by decide +kernel
theorem dX12_playOver_185 : decode cX12_playOver 185 = .ok (.dup2, 1) := by decide +kernel
theorem dX12_playOver_186 : decode cX12_playOver 186 = .ok (.iaload, 1) := by decide +kernel
theorem dX12_playOver_187 : decode cX12_playOver 187 = .ok (.iconst 1, 1) := by decide +kernel
theorem dX12_playOver_188 : decode cX12_playOver 188 = .ok (.iadd, 1) := by decide +kernel
theorem dX12_playOver_189 : decode cX12_playOver 189 = .ok (.iastore, 1) := by decide +kernel
theorem dX12_playOver_190 : decode cX12_playOver 190 = .ok (.aload_n 0, 1) := by decide +kernel
theorem dX12_playOver_191 : decode cX12_playOver 191 = .ok (.getfield 120, 3) := by decide +kernel
theorem dX12_playOver_194 : decode cX12_playOver 194 = .ok (.iload_n 2, 1) := by decide +kernel
theorem dX12_playOver_195 : decode cX12_playOver 195 = .ok (.iload 5, 2) := by decide +kernel
theorem dX12_playOver_197 : decode cX12_playOver 197 = .ok (.iastore, 1) := by decide +kernel
theorem dX12_playOver_198 : decode cX12_playOver 198 = .ok (.aload_n 0, 1) := by decide +kernel
theorem dX12_playOver_199 : decode cX12_playOver 199 = .ok (.getfield 136, 3) := by decide +kernel
theorem dX12_playOver_202 : decode cX12_playOver 202 = .ok (.bipush 11, 2) := by decide +kernel
theorem dX12_playOver_204 : decode cX12_playOver 204 = .ok (.iload_n 2, 1) := by decide +kernel
theorem dX12_playOver_205 : decode cX12_playOver 205 = .ok (.imul, 1) := by decide +kernel
theorem dX12_playOver_206 : decode cX12_playOver 206 = .ok (.iload 5, 2) := by decide +kernel
theorem dX12_playOver_208 : decode cX12_playOver 208 = .ok (.iadd, 1) := by decide +kernel
theorem dX12_playOver_209 : decode cX12_playOver 209 = .ok (.dup2, 1) := by decide +kernel
theorem dX12_playOver_210 : decode cX12_playOver 210 = .ok (.iaload, 1) := by decide +kernel
theorem dX12_playOver_211 : decode cX12_playOver 211 = .ok (.iconst 1, 1) := by decide +kernel
theorem dX12_playOver_212 : decode cX12_playOver 212 = .ok (.iadd, 1) := by decide +kernel
theorem dX12_playOver_213 : decode cX12_playOver 213 = .ok (.iastore, 1) := by decide +kernel
theorem dX12_playOver_214 : decode cX12_playOver 214 = .ok (.aload_n 0, 1) := by decide +kernel
theorem dX12_playOver_215 : decode cX12_playOver 215 = .ok (.getfield 160, 3) := by decide +kernel
theorem dX12_playOver_218 : decode cX12_playOver 218 = .ok (.iload 4, 2) := by decide +kernel
theorem dX12_playOver_220 : decode cX12_playOver 220 = .ok (.iconst 1, 1) := by decide +kernel
theorem dX12_playOver_221 : decode cX12_playOver 221 = .ok (.bastore, 1) := by decide +kernel
theorem dX12_playOver_222 : decode cX12_playOver 222 = .ok (.aload_n 0, 1) := by decide +kernel
theorem dX12_playOver_223 : decode cX12_playOver 223 = .ok (.getfield 38, 3) := by decide +kernel
theorem dX12_playOver_226 : decode cX12_playOver 226 = .ok (.iload 4, 2) := by decide +kernel
theorem dX12_playOver_228 : decode cX12_playOver 228 = .ok (.iaload, 1) := by decide +kernel
theorem dX12_playOver_229 : decode cX12_playOver 229 = .ok (.iconst (-1), 1) := by decide +kernel
theorem dX12_playOver_230 : decode cX12_playOver 230 = .ok (.if_icmp .ne 51, 3) := by decide +kernel
theorem dX12_playOver_233 : decode cX12_playOver 233 = .ok (.aload_n 0, 1) := by decide +kernel
theorem dX12_playOver_234 : decode cX12_playOver 234 = .ok (.getfield 157, 3) := by decide +kernel
theorem dX12_playOver_237 : decode cX12_playOver 237 = .ok (.iload 4, 2) := by decide +kernel
theorem dX12_playOver_239 : decode cX12_playOver 239 = .ok (.iconst 1, 1) := by decide +kernel
theorem dX12_playOver_240 : decode cX12_playOver 240 = .ok (.bastore, 1) := by decide +kernel
theorem dX12_playOver_241 : decode cX12_playOver 241 = .ok (.aload_n 0, 1) := by decide +kernel
theorem dX12_playOver_242 : decode cX12_playOver 242 = .ok (.getfield 93, 3) := by decide +kernel
theorem dX12_playOver_245 : decode cX12_playOver 245 = .ok (.iload_n 2, 1) := by decide +kernel
theorem dX12_playOver_246 : decode cX12_playOver 246 = .ok (.dup2, 1) := by decide +kernel
theorem dX12_playOver_247 : decode cX12_playOver 247 = .ok (.iaload, 1) := by decide +kernel
theorem dX12_playOver_248 : decode cX12_playOver 248 = .ok (.iconst 1, 1) := by decide +kernel
theorem dX12_playOver_249 : decode cX12_playOver 249 = .ok (.iadd, 1) := by decide +kernel
theorem dX12_playOver_250 : decode cX12_playOver 250 = .ok (.iastore, 1) := by decide +kernel
theorem dX12_playOver_251 : decode cX12_playOver 251 = .ok (.aload_n 0, 1) := by decide +kernel
theorem dX12_playOver_252 : decode cX12_playOver 252 = .ok (.iload_n 2, 1) := by decide +kernel
theorem dX12_playOver_253 : decode cX12_playOver 253 = .ok (.iload 4, 2) := by decide +kernel
theorem dX12_playOver_255 : decode cX12_playOver 255 = .ok (.invokevirtual 254, 3) := by decide +kernel
theorem dX12_playOver_258 : decode cX12_playOver 258 = .ok (.aload_n 0, 1) := by decide +kernel
theorem dX12_playOver_259 : decode cX12_playOver 259 = .ok (.getfield 78, 3) := by decide +kernel
theorem dX12_playOver_262 : decode cX12_playOver 262 = .ok (.iload_n 2, 1) := by decide +kernel
theorem dX12_playOver_263 : decode cX12_playOver 263 = .ok (.iaload, 1) := by decide +kernel
theorem dX12_playOver_264 : decode cX12_playOver 264 = .ok (.aload_n 0, 1) := by decide +kernel
theorem dX12_playOver_265 : decode cX12_playOver 265 = .ok (.getfield 87, 3) := by decide +kernel
theorem dX12_playOver_268 : decode cX12_playOver 268 = .ok (.iload_n 2, 1) := by decide +kernel
theorem dX12_playOver_269 : decode cX12_playOver 269 = .ok (.iaload, 1) := by decide +kernel
theorem dX12_playOver_270 : decode cX12_playOver 270 = .ok (.if_icmp .ne 10, 3) := by decide +kernel
theorem dX12_playOver_273 : decode cX12_playOver 273 = .ok (.aload_n 0, 1) := by decide +kernel
theorem dX12_playOver_274 : decode cX12_playOver 274 = .ok (.getfield 90, 3) := by decide +kernel
theorem dX12_playOver_277 : decode cX12_playOver 277 = .ok (.iload_n 2, 1) := by decide +kernel
theorem dX12_playOver_278 : decode cX12_playOver 278 = .ok (.iconst 2, 1) := by decide +kernel
theorem dX12_playOver_279 : decode cX12_playOver 279 = .ok (.iastore, 1) := by decide +kernel
theorem dX12_playOver_280 : decode cX12_playOver 280 = .ok (.return_, 1) := by decide +kernel
theorem dX12_playOver_281 : decode cX12_playOver 281 = .ok (.iconst 0, 1) := by decide +kernel
theorem dX12_playOver_282 : decode cX12_playOver 282 = .ok (.istore 7, 2) := by decide +kernel
theorem dX12_playOver_284 : decode cX12_playOver 284 = .ok (.iload 7, 2) := by decide +kernel
theorem dX12_playOver_286 : decode cX12_playOver 286 = .ok (.aload_n 0, 1) := by decide +kernel
theorem dX12_playOver_287 : decode cX12_playOver 287 = .ok (.getfield 38, 3) := by decide +kernel
theorem dX12_playOver_290 : decode cX12_playOver 290 = .ok (.iload 4, 2) := by decide +kernel
theorem dX12_playOver_292 : decode cX12_playOver 292 = .ok (.iaload, 1) := by decide +kernel
theorem dX12_playOver_293 : decode cX12_playOver 293 = .ok (.if_icmp .ge 87, 3) := by decide +kernel
theorem dX12_playOver_296 : decode cX12_playOver 296 = .ok (.aload_n 0, 1) := by decide +kernel
theorem dX12_playOver_297 : decode cX12_playOver 297 = .ok (.getfield 200, 3) := by decide +kernel
theorem dX12_playOver_300 : decode cX12_playOver 300 = .ok (.ifCond .ne 80, 3) := by decide +kernel
theorem dX12_playOver_303 : decode cX12_playOver 303 = .ok (.aload_n 0, 1) := by decide +kernel
theorem dX12_playOver_304 : decode cX12_playOver 304 = .ok (.getfield 42, 3) := by decide +kernel
theorem dX12_playOver_307 : decode cX12_playOver 307 = .ok (.bipush 40, 2) := by decide +kernel
theorem dX12_playOver_309 : decode cX12_playOver 309 = .ok (.iload 4, 2) := by decide +kernel
theorem dX12_playOver_311 : decode cX12_playOver 311 = .ok (.imul, 1) := by decide +kernel
theorem dX12_playOver_312 : decode cX12_playOver 312 = .ok (.iload 7, 2) := by decide +kernel
theorem dX12_playOver_314 : decode cX12_playOver 314 = .ok (.iadd, 1) := by decide +kernel
theorem dX12_playOver_315 : decode cX12_playOver 315 = .ok (.iaload, 1) := by decide +kernel
theorem dX12_playOver_316 : decode cX12_playOver 316 = .ok (.istore 8, 2) := by decide +kernel
theorem dX12_playOver_318 : decode cX12_playOver 318 = .ok (.aload_n 0, 1) := by decide +kernel
theorem dX12_playOver_319 : decode cX12_playOver 319 = .ok (.iload_n 1, 1) := by decide +kernel
theorem dX12_playOver_320 : decode cX12_playOver 320 = .ok (.iload_n 2, 1) := by decide +kernel
theorem dX12_playOver_321 : decode cX12_playOver 321 = .ok (.iload 4, 2) := by decide +kernel
theorem dX12_playOver_323 : decode cX12_playOver 323 = .ok (.iload 8, 2) := by decide +kernel
theorem dX12_playOver_325 : decode cX12_playOver 325 = .ok (.bipush 16, 2) := by decide +kernel
theorem dX12_playOver_327 : decode cX12_playOver 327 = .ok (.idiv, 1) := by decide +kernel
theorem dX12_playOver_328 : decode cX12_playOver 328 = .ok (.iload 8, 2) := by decide +kernel
theorem dX12_playOver_330 : decode cX12_playOver 330 = .ok (.bipush 16, 2) := by decide +kernel
theorem dX12_playOver_332 : decode cX12_playOver 332 = .ok (.irem, 1) := by decide +kernel
theorem dX12_playOver_333 : decode cX12_playOver 333 = .ok (.invokevirtual 257, 3) := by decide +kernel
theorem dX12_playOver_336 : decode cX12_playOver 336 = .ok (.istore 9, 2) := by decide +kernel
theorem dX12_playOver_338 : decode cX12_playOver 338 = .ok (.iload 9, 2) := by decide +kernel
theorem dX12_playOver_340 : decode cX12_playOver 340 = .ok (.ifCond .eq 16, 3) := by decide +kernel
theorem dX12_playOver_343 : decode cX12_playOver 343 = .ok (.aload_n 0, 1) := by decide +kernel
theorem dX12_playOver_344 : decode cX12_playOver 344 = .ok (.iload 9, 2) := by decide +kernel
theorem dX12_playOver_346 : decode cX12_playOver 346 = .ok (.iload_n 2, 1) := by decide +kernel
theorem dX12_playOver_347 : decode cX12_playOver 347 = .ok (.iload_n 3, 1) := by decide +kernel
theorem dX12_playOver_348 : decode cX12_playOver 348 = .ok (.iload 7, 2) := by decide +kernel
theorem dX12_playOver_350 : decode cX12_playOver 350 = .ok (.invokevirtual 212, 3) := by decide +kernel
