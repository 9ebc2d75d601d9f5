-- decode rows: printed by the TURN, copied
theorem dX7_init_0 : decode cX7_init 0 = .ok (.aload_n 0, 1) := by decide +kernel
theorem dX7_init_1 : decode cX7_init 1 = .ok (.invokespecial 1, 3) := by decide +kernel
theorem dX7_init_4 : decode cX7_init 4 = .ok (.aload_n 0, 1) := by decide +kernel
theorem dX7_init_5 : decode cX7_init 5 = .ok (.iconst 4, 1) := by decide +kernel
theorem dX7_init_6 : decode cX7_init 6 = .ok (.putfield 7, 3) := by decide +kernel
theorem dX7_init_9 : decode cX7_init 9 = .ok (.aload_n 0, 1) := by decide +kernel
theorem dX7_init_10 : decode cX7_init 10 = .ok (.bipush 90, 2) := by decide +kernel
theorem dX7_init_12 : decode cX7_init 12 = .ok (.putfield 13, 3) := by decide +kernel
theorem dX7_init_15 : decode cX7_init 15 = .ok (.aload_n 0, 1) := by decide +kernel
theorem dX7_init_16 : decode cX7_init 16 = .ok (.bipush 6, 2) := by decide +kernel
theorem dX7_init_18 : decode cX7_init 18 = .ok (.newarray .int, 2) := by decide +kernel
theorem dX7_init_20 : decode cX7_init 20 = .ok (.putfield 16, 3) := by decide +kernel
theorem dX7_init_23 : decode cX7_init 23 = .ok (.aload_n 0, 1) := by decide +kernel
theorem dX7_init_24 : decode cX7_init 24 = .ok (.bipush 6, 2) := by decide +kernel
theorem dX7_init_26 : decode cX7_init 26 = .ok (.newarray .int, 2) := by decide +kernel
theorem dX7_init_28 : decode cX7_init 28 = .ok (.putfield 20, 3) := by decide +kernel
theorem dX7_init_31 : decode cX7_init 31 = .ok (.aload_n 0, 1) := by decide +kernel
theorem dX7_init_32 : decode cX7_init 32 = .ok (.bipush 6, 2) := by decide +kernel
theorem dX7_init_34 : decode cX7_init 34 = .ok (.newarray .int, 2) := by decide +kernel
theorem dX7_init_36 : decode cX7_init 36 = .ok (.putfield 23, 3) := by decide +kernel
theorem dX7_init_39 : decode cX7_init 39 = .ok (.aload_n 0, 1) := by decide +kernel
theorem dX7_init_40 : decode cX7_init 40 = .ok (.bipush 6, 2) := by decide +kernel
theorem dX7_init_42 : decode cX7_init 42 = .ok (.newarray .int, 2) := by decide +kernel
theorem dX7_init_44 : decode cX7_init 44 = .ok (.putfield 26, 3) := by decide +kernel
theorem dX7_init_47 : decode cX7_init 47 = .ok (.aload_n 0, 1) := by decide +kernel
theorem dX7_init_48 : decode cX7_init 48 = .ok (.bipush 6, 2) := by decide +kernel
theorem dX7_init_50 : decode cX7_init 50 = .ok (.newarray .int, 2) := by decide +kernel
theorem dX7_init_52 : decode cX7_init 52 = .ok (.putfield 29, 3) := by decide +kernel
theorem dX7_init_55 : decode cX7_init 55 = .ok (.aload_n 0, 1) := by decide +kernel
theorem dX7_init_56 : decode cX7_init 56 = .ok (.bipush 16, 2) := by decide +kernel
theorem dX7_init_58 : decode cX7_init 58 = .ok (.newarray .int, 2) := by decide +kernel
theorem dX7_init_60 : decode cX7_init 60 = .ok (.putfield 32, 3) := by decide +kernel
theorem dX7_init_63 : decode cX7_init 63 = .ok (.aload_n 0, 1) := by decide +kernel
theorem dX7_init_64 : decode cX7_init 64 = .ok (.bipush 60, 2) := by decide +kernel
theorem dX7_init_66 : decode cX7_init 66 = .ok (.newarray .int, 2) := by decide +kernel
theorem dX7_init_68 : decode cX7_init 68 = .ok (.putfield 35, 3) := by decide +kernel
theorem dX7_init_71 : decode cX7_init 71 = .ok (.aload_n 0, 1) := by decide +kernel
theorem dX7_init_72 : decode cX7_init 72 = .ok (.bipush 6, 2) := by decide +kernel
theorem dX7_init_74 : decode cX7_init 74 = .ok (.newarray .int, 2) := by decide +kernel
theorem dX7_init_76 : decode cX7_init 76 = .ok (.putfield 38, 3) := by decide +kernel
theorem dX7_init_79 : decode cX7_init 79 = .ok (.aload_n 0, 1) := by decide +kernel
theorem dX7_init_80 : decode cX7_init 80 = .ok (.bipush 6, 2) := by decide +kernel
theorem dX7_init_82 : decode cX7_init 82 = .ok (.newarray .int, 2) := by decide +kernel
theorem dX7_init_84 : decode cX7_init 84 = .ok (.putfield 41, 3) := by decide +kernel
theorem dX7_init_87 : decode cX7_init 87 = .ok (.aload_n 0, 1) := by decide +kernel
theorem dX7_init_88 : decode cX7_init 88 = .ok (.bipush 6, 2) := by decide +kernel
theorem dX7_init_90 : decode cX7_init 90 = .ok (.newarray .int, 2) := by decide +kernel
theorem dX7_init_92 : decode cX7_init 92 = .ok (.putfield 44, 3) := by decide +kernel
theorem dX7_init_95 : decode cX7_init 95 = .ok (.aload_n 0, 1) := by decide +kernel
theorem dX7_init_96 : decode cX7_init 96 = .ok (.bipush 6, 2) := by decide +kernel
theorem dX7_init_98 : decode cX7_init 98 = .ok (.newarray .int, 2) := by decide +kernel
theorem dX7_init_100 : decode cX7_init 100 = .ok (.putfield 47, 3) := by decide +kernel
theorem dX7_init_103 : decode cX7_init 103 = .ok (.aload_n 0, 1) := by decide +kernel
theorem dX7_init_104 : decode cX7_init 104 = .ok (.bipush 6, 2) := by decide +kernel
theorem dX7_init_106 : decode cX7_init 106 = .ok (.newarray .int, 2) := by decide +kernel
theorem dX7_init_108 : decode cX7_init 108 = .ok (.putfield 50, 3) := by decide +kernel
theorem dX7_init_111 : decode cX7_init 111 = .ok (.aload_n 0, 1) := by decide +kernel
theorem dX7_init_112 : decode cX7_init 112 = .ok (.bipush 6, 2) := by decide +kernel
theorem dX7_init_114 : decode cX7_init 114 = .ok (.newarray .int, 2) := by decide +kernel
theorem dX7_init_116 : decode cX7_init 116 = .ok (.putfield 53, 3) := by decide +kernel
theorem dX7_init_119 : decode cX7_init 119 = .ok (.aload_n 0, 1) := by decide +kernel
theorem dX7_init_120 : decode cX7_init 120 = .ok (.sipush 140, 3) := by decide +kernel
theorem dX7_init_123 : decode cX7_init 123 = .ok (.newarray .int, 2) := by decide +kernel
theorem dX7_init_125 : decode cX7_init 125 = .ok (.putfield 56, 3) := by decide +kernel
theorem dX7_init_128 : decode cX7_init 128 = .ok (.aload_n 0, 1) := by decide +kernel
theorem dX7_init_129 : decode cX7_init 129 = .ok (.iconst 2, 1) := by decide +kernel
theorem dX7_init_130 : decode cX7_init 130 = .ok (.newarray .boolean, 2) := by decide +kernel
theorem dX7_init_132 : decode cX7_init 132 = .ok (.putfield 59, 3) := by decide +kernel
theorem dX7_init_135 : decode cX7_init 135 = .ok (.aload_n 0, 1) := by decide +kernel
theorem dX7_init_136 : decode cX7_init 136 = .ok (.invokevirtual 63, 3) := by decide +kernel
theorem dX7_init_139 : decode cX7_init 139 = .ok (.return_, 1) := by decide +kernel
theorem dX7_clear_0 : decode cX7_clear 0 = .ok (.aload_n 0, 1) := by decide +kernel
theorem dX7_clear_1 : decode cX7_clear 1 = .ok (.iconst 0, 1) := by decide +kernel
theorem dX7_clear_2 : decode cX7_clear 2 = .ok (.putfield 66, 3) := by decide +kernel
theorem dX7_clear_5 : decode cX7_clear 5 = .ok (.aload_n 0, 1) := by decide +kernel
theorem dX7_clear_6 : decode cX7_clear 6 = .ok (.iconst 0, 1) := by decide +kernel
theorem dX7_clear_7 : decode cX7_clear 7 = .ok (.putfield 69, 3) := by decide +kernel
theorem dX7_clear_10 : decode cX7_clear 10 = .ok (.aload_n 0, 1) := by decide +kernel
theorem dX7_clear_11 : decode cX7_clear 11 = .ok (.iconst 0, 1) := by decide +kernel
theorem dX7_clear_12 : decode cX7_clear 12 = .ok (.putfield 72, 3) := by decide +kernel
theorem dX7_clear_15 : decode cX7_clear 15 = .ok (.aload_n 0, 1) := by decide +kernel
theorem dX7_clear_16 : decode cX7_clear 16 = .ok (.iconst 0, 1) := by decide +kernel
theorem dX7_clear_17 : decode cX7_clear 17 = .ok (.putfield 75, 3) := by decide +kernel
theorem dX7_clear_20 : decode cX7_clear 20 = .ok (.iconst 0, 1) := by decide +kernel
theorem dX7_clear_21 : decode cX7_clear 21 = .ok (.istore_n 1, 1) := by decide +kernel
theorem dX7_clear_22 : decode cX7_clear 22 = .ok (.iload_n 1, 1) := by decide +kernel
theorem dX7_clear_23 : decode cX7_clear 23 = .ok (.bipush 6, 2) := by decide +kernel
theorem dX7_clear_25 : decode cX7_clear 25 = .ok (.if_icmp .ge 64, 3) := by decide +kernel
theorem dX7_clear_28 : decode cX7_clear 28 = .ok (.aload_n 0, 1) := by decide +kernel
theorem dX7_clear_29 : decode cX7_clear 29 = .ok (.getfield 16, 3) := by decide +kernel
theorem dX7_clear_32 : decode cX7_clear 32 = .ok (.iload_n 1, 1) := by decide +kernel
theorem dX7_clear_33 : decode cX7_clear 33 = .ok (.iload_n 1, 1) := by decide +kernel
theorem dX7_clear_34 : decode cX7_clear 34 = .ok (.aload_n 0, 1) := by decide +kernel
theorem dX7_clear_35 : decode cX7_clear 35 = .ok (.getfield 7, 3) := by decide +kernel
theorem dX7_clear_38 : decode cX7_clear 38 = .ok (.if_icmp .ge 14, 3) := by decide +kernel
theorem dX7_clear_41 : decode cX7_clear 41 = .ok (.iload_n 1, 1) := by decide +kernel
theorem dX7_clear_42 : decode cX7_clear 42 = .ok (.iconst 1, 1) := by decide +kernel
theorem dX7_clear_43 : decode cX7_clear 43 = .ok (.iadd, 1) := by decide +kernel
theorem dX7_clear_44 : decode cX7_clear 44 = .ok (.aload_n 0, 1) := by decide +kernel
theorem dX7_clear_45 : decode cX7_clear 45 = .ok (.getfield 7, 3) := by decide +kernel
theorem dX7_clear_48 : decode cX7_clear 48 = .ok (.irem, 1) := by decide +kernel
theorem dX7_clear_49 : decode cX7_clear 49 = .ok (.goto 5, 3) := by decide +kernel
theorem dX7_clear_52 : decode cX7_clear 52 = .ok (.bipush (-6), 2) := by decide +kernel
theorem dX7_clear_54 : decode cX7_clear 54 = .ok (.iastore, 1) := by decide +kernel
theorem dX7_clear_55 : decode cX7_clear 55 = .ok (.aload_n 0, 1) := by decide +kernel
theorem dX7_clear_56 : decode cX7_clear 56 = .ok (.getfield 20, 3) := by decide +kernel
theorem dX7_clear_59 : decode cX7_clear 59 = .ok (.iload_n 1, 1) := by decide +kernel
theorem dX7_clear_60 : decode cX7_clear 60 = .ok (.iload_n 1, 1) := by decide +kernel
theorem dX7_clear_61 : decode cX7_clear 61 = .ok (.iastore, 1) := by decide +kernel
theorem dX7_clear_62 : decode cX7_clear 62 = .ok (.aload_n 0, 1) := by decide +kernel
theorem dX7_clear_63 : decode cX7_clear 63 = .ok (.getfield 23, 3) := by decide +kernel
theorem dX7_clear_66 : decode cX7_clear 66 = .ok (.iload_n 1, 1) := by decide +kernel
theorem dX7_clear_67 : decode cX7_clear 67 = .ok (.iconst 0, 1) := by decide +kernel
theorem dX7_clear_68 : decode cX7_clear 68 = .ok (.iastore, 1) := by decide +kernel
theorem dX7_clear_69 : decode cX7_clear 69 = .ok (.aload_n 0, 1) := by decide +kernel
theorem dX7_clear_70 : decode cX7_clear 70 = .ok (.getfield 26, 3) := by decide +kernel
theorem dX7_clear_73 : decode cX7_clear 73 = .ok (.iload_n 1, 1) := by decide +kernel
theorem dX7_clear_74 : decode cX7_clear 74 = .ok (.iconst 0, 1) := by decide +kernel
theorem dX7_clear_75 : decode cX7_clear 75 = .ok (.iastore, 1) := by decide +kernel
theorem dX7_clear_76 : decode cX7_clear 76 = .ok (.aload_n 0, 1) := by decide +kernel
theorem dX7_clear_77 : decode cX7_clear 77 = .ok (.getfield 29, 3) := by decide +kernel
theorem dX7_clear_80 : decode cX7_clear 80 = .ok (.iload_n 1, 1) := by decide +kernel
theorem dX7_clear_81 : decode cX7_clear 81 = .ok (.iconst 0, 1) := by decide +kernel
theorem dX7_clear_82 : decode cX7_clear 82 = .ok (.iastore, 1) := by decide +kernel
theorem dX7_clear_83 : decode cX7_clear 83 = .ok (.iinc 1 1, 3) := by decide +kernel
theorem dX7_clear_86 : decode cX7_clear 86 = .ok (.goto (-64), 3) := by decide +kernel
theorem dX7_clear_89 : decode cX7_clear 89 = .ok (.return_, 1) := by decide +kernel
theorem dX7_in_0 : decode cX7_in 0 = .ok (.iload_n 0, 1) := by decide +kernel
theorem dX7_in_1 : decode cX7_in 1 = .ok (.iload_n 1, 1) := by decide +kernel
theorem dX7_in_2 : decode cX7_in 2 = .ok (.if_icmp .lt 12, 3) := by decide +kernel
theorem dX7_in_5 : decode cX7_in 5 = .ok (.iload_n 0, 1) := by decide +kernel
theorem dX7_in_6 : decode cX7_in 6 = .ok (.iload_n 2, 1) := by decide +kernel
theorem dX7_in_7 : decode cX7_in 7 = .ok (.if_icmp .gt 7, 3) := by decide +kernel
theorem dX7_in_10 : decode cX7_in 10 = .ok (.iconst 1, 1) := by decide +kernel
theorem dX7_in_11 : decode cX7_in 11 = .ok (.goto 4, 3) := by decide +kernel
theorem dX7_in_14 : decode cX7_in 14 = .ok (.iconst 0, 1) := by decide +kernel
theorem dX7_in_15 : decode cX7_in 15 = .ok (.ireturn, 1) := by decide +kernel
theorem dX7_has_0 : decode cX7_has 0 = .ok (.iload_n 0, 1) := by decide +kernel
theorem dX7_has_1 : decode cX7_has 1 = .ok (.iload_n 1, 1) := by decide +kernel
theorem dX7_has_2 : decode cX7_has 2 = .ok (.ishr, 1) := by decide +kernel
theorem dX7_has_3 : decode cX7_has 3 = .ok (.iconst 1, 1) := by decide +kernel
theorem dX7_has_4 : decode cX7_has 4 = .ok (.iand, 1) := by decide +kernel
theorem dX7_has_5 : decode cX7_has 5 = .ok (.iconst 1, 1) := by decide +kernel
theorem dX7_has_6 : decode cX7_has 6 = .ok (.if_icmp .ne 7, 3) := by decide +kernel
theorem dX7_has_9 : decode cX7_has 9 = .ok (.iconst 1, 1) := by decide +kernel
theorem dX7_has_10 : decode cX7_has 10 = .ok (.goto 4, 3) := by decide +kernel
theorem dX7_has_13 : decode cX7_has 13 = .ok (.iconst 0, 1) := by decide +kernel
theorem dX7_has_14 : decode cX7_has 14 = .ok (.ireturn, 1) := by decide +kernel
theorem dX7_isOne_0 : decode cX7_isOne 0 = .ok (.iload_n 1, 1) := by decide +kernel
theorem dX7_isOne_1 : decode cX7_isOne 1 = .ok (.iconst 0, 1) := by decide +kernel
theorem dX7_isOne_2 : decode cX7_isOne 2 = .ok (.aload_n 0, 1) := by decide +kernel
theorem dX7_isOne_3 : decode cX7_isOne 3 = .ok (.getfield 7, 3) := by decide +kernel
theorem dX7_isOne_6 : decode cX7_isOne 6 = .ok (.iconst 1, 1) := by decide +kernel
theorem dX7_isOne_7 : decode cX7_isOne 7 = .ok (.isub, 1) := by decide +kernel
theorem dX7_isOne_8 : decode cX7_isOne 8 = .ok (.invokestatic 78, 3) := by decide +kernel
theorem dX7_isOne_11 : decode cX7_isOne 11 = .ok (.ireturn, 1) := by decide +kernel
theorem dX7_areTwo_0 : decode cX7_areTwo 0 = .ok (.aload_n 0, 1) := by decide +kernel
theorem dX7_areTwo_1 : decode cX7_areTwo 1 = .ok (.iload_n 1, 1) := by decide +kernel
theorem dX7_areTwo_2 : decode cX7_areTwo 2 = .ok (.invokevirtual 82, 3) := by decide +kernel
theorem dX7_areTwo_5 : decode cX7_areTwo 5 = .ok (.ifCond .eq 20, 3) := by decide +kernel
theorem dX7_areTwo_8 : decode cX7_areTwo 8 = .ok (.aload_n 0, 1) := by decide +kernel
theorem dX7_areTwo_9 : decode cX7_areTwo 9 = .ok (.iload_n 2, 1) := by decide +kernel
theorem dX7_areTwo_10 : decode cX7_areTwo 10 = .ok (.invokevirtual 82, 3) := by decide +kernel
theorem dX7_areTwo_13 : decode cX7_areTwo 13 = .ok (.ifCond .eq 12, 3) := by decide +kernel
theorem dX7_areTwo_16 : decode cX7_areTwo 16 = .ok (.iload_n 1, 1) := by decide +kernel
theorem dX7_areTwo_17 : decode cX7_areTwo 17 = .ok (.iload_n 2, 1) := by decide +kernel
theorem dX7_areTwo_18 : decode cX7_areTwo 18 = .ok (.if_icmp .eq 7, 3) := by decide +kernel
theorem dX7_areTwo_21 : decode cX7_areTwo 21 = .ok (.iconst 1, 1) := by decide +kernel
theorem dX7_areTwo_22 : decode cX7_areTwo 22 = .ok (.goto 4, 3) := by decide +kernel
theorem dX7_areTwo_25 : decode cX7_areTwo 25 = .ok (.iconst 0, 1) := by decide +kernel
theorem dX7_areTwo_26 : decode cX7_areTwo 26 = .ok (.ireturn, 1) := by decide +kernel
theorem dX7_lands_0 : decode cX7_lands 0 = .ok (.iload_n 1, 1) := by decide +kernel
theorem dX7_lands_1 : decode cX7_lands 1 = .ok (.iconst 3, 1) := by decide +kernel
theorem dX7_lands_2 : decode cX7_lands 2 = .ok (.bipush 6, 2) := by decide +kernel
theorem dX7_lands_4 : decode cX7_lands 4 = .ok (.invokestatic 78, 3) := by decide +kernel
theorem dX7_lands_7 : decode cX7_lands 7 = .ok (.ifCond .ne 6, 3) := by decide +kernel
theorem dX7_lands_10 : decode cX7_lands 10 = .ok (.bipush (-2), 2) := by decide +kernel
theorem dX7_lands_12 : decode cX7_lands 12 = .ok (.ireturn, 1) := by decide +kernel
theorem dX7_lands_13 : decode cX7_lands 13 = .ok (.aload_n 0, 1) := by decide +kernel
theorem dX7_lands_14 : decode cX7_lands 14 = .ok (.getfield 7, 3) := by decide +kernel
theorem dX7_lands_17 : decode cX7_lands 17 = .ok (.istore_n 2, 1) := by decide +kernel
theorem dX7_lands_18 : decode cX7_lands 18 = .ok (.aload_n 0, 1) := by decide +kernel
theorem dX7_lands_19 : decode cX7_lands 19 = .ok (.iload_n 1, 1) := by decide +kernel
theorem dX7_lands_20 : decode cX7_lands 20 = .ok (.putfield 7, 3) := by decide +kernel
theorem dX7_lands_23 : decode cX7_lands 23 = .ok (.aload_n 0, 1) := by decide +kernel
theorem dX7_lands_24 : decode cX7_lands 24 = .ok (.invokevirtual 63, 3) := by decide +kernel
theorem dX7_lands_27 : decode cX7_lands 27 = .ok (.iload_n 2, 1) := by decide +kernel
theorem dX7_lands_28 : decode cX7_lands 28 = .ok (.ireturn, 1) := by decide +kernel
theorem dX7_season_0 : decode cX7_season 0 = .ok (.iload_n 1, 1) := by decide +kernel
theorem dX7_season_1 : decode cX7_season 1 = .ok (.iconst 1, 1) := by decide +kernel
theorem dX7_season_2 : decode cX7_season 2 = .ok (.bipush 99, 2) := by decide +kernel
theorem dX7_season_4 : decode cX7_season 4 = .ok (.invokestatic 78, 3) := by decide +kernel
theorem dX7_season_7 : decode cX7_season 7 = .ok (.ifCond .ne 6, 3) := by decide +kernel
theorem dX7_season_10 : decode cX7_season 10 = .ok (.bipush (-2), 2) := by decide +kernel
theorem dX7_season_12 : decode cX7_season 12 = .ok (.ireturn, 1) := by decide +kernel
theorem dX7_season_13 : decode cX7_season 13 = .ok (.aload_n 0, 1) := by decide +kernel
theorem dX7_season_14 : decode cX7_season 14 = .ok (.getfield 72, 3) := by decide +kernel
theorem dX7_season_17 : decode cX7_season 17 = .ok (.ifCond .eq 6, 3) := by decide +kernel
theorem dX7_season_20 : decode cX7_season 20 = .ok (.bipush (-3), 2) := by decide +kernel
theorem dX7_season_22 : decode cX7_season 22 = .ok (.ireturn, 1) := by decide +kernel
theorem dX7_season_23 : decode cX7_season 23 = .ok (.aload_n 0, 1) := by decide +kernel
theorem dX7_season_24 : decode cX7_season 24 = .ok (.getfield 13, 3) := by decide +kernel
theorem dX7_season_27 : decode cX7_season 27 = .ok (.istore_n 2, 1) := by decide +kernel
theorem dX7_season_28 : decode cX7_season 28 = .ok (.aload_n 0, 1) := by decide +kernel
theorem dX7_season_29 : decode cX7_season 29 = .ok (.iload_n 1, 1) := by decide +kernel
theorem dX7_season_30 : decode cX7_season 30 = .ok (.putfield 13, 3) := by decide +kernel
theorem dX7_season_33 : decode cX7_season 33 = .ok (.iload_n 2, 1) := by decide +kernel
theorem dX7_season_34 : decode cX7_season 34 = .ok (.ireturn, 1) := by decide +kernel
theorem dX7_set_0 : decode cX7_set 0 = .ok (.aload_n 0, 1) := by decide +kernel
theorem dX7_set_1 : decode cX7_set 1 = .ok (.iload_n 1, 1) := by decide +kernel
theorem dX7_set_2 : decode cX7_set 2 = .ok (.invokevirtual 82, 3) := by decide +kernel
theorem dX7_set_5 : decode cX7_set 5 = .ok (.ifCond .ne 5, 3) := by decide +kernel
theorem dX7_set_8 : decode cX7_set 8 = .ok (.iconst (-1), 1) := by decide +kernel
theorem dX7_set_9 : decode cX7_set 9 = .ok (.ireturn, 1) := by decide +kernel
theorem dX7_set_10 : decode cX7_set 10 = .ok (.iload_n 2, 1) := by decide +kernel
theorem dX7_set_11 : decode cX7_set 11 = .ok (.iconst 0, 1) := by decide +kernel
theorem dX7_set_12 : decode cX7_set 12 = .ok (.iconst 1, 1) := by decide +kernel
theorem dX7_set_13 : decode cX7_set 13 = .ok (.invokestatic 78, 3) := by decide +kernel
theorem dX7_set_16 : decode cX7_set 16 = .ok (.ifCond .eq 21, 3) := by decide +kernel
theorem dX7_set_19 : decode cX7_set 19 = .ok (.iload_n 3, 1) := by decide +kernel
theorem dX7_set_20 : decode cX7_set 20 = .ok (.iconst 0, 1) := by decide +kernel
theorem dX7_set_21 : decode cX7_set 21 = .ok (.iload_n 2, 1) := by decide +kernel
theorem dX7_set_22 : decode cX7_set 22 = .ok (.ifCond .ne 8, 3) := by decide +kernel
theorem dX7_set_25 : decode cX7_set 25 = .ok (.bipush 9, 2) := by decide +kernel
theorem dX7_set_27 : decode cX7_set 27 = .ok (.goto 4, 3) := by decide +kernel
theorem dX7_set_30 : decode cX7_set 30 = .ok (.iconst 1, 1) := by decide +kernel
theorem dX7_set_31 : decode cX7_set 31 = .ok (.invokestatic 78, 3) := by decide +kernel
theorem dX7_set_34 : decode cX7_set 34 = .ok (.ifCond .ne 6, 3) := by decide +kernel
theorem dX7_set_37 : decode cX7_set 37 = .ok (.bipush (-2), 2) := by decide +kernel
theorem dX7_set_39 : decode cX7_set 39 = .ok (.ireturn, 1) := by decide +kernel
theorem dX7_set_40 : decode cX7_set 40 = .ok (.iload_n 2, 1) := by decide +kernel
theorem dX7_set_41 : decode cX7_set 41 = .ok (.ifCond .ne 12, 3) := by decide +kernel
theorem dX7_set_44 : decode cX7_set 44 = .ok (.aload_n 0, 1) := by decide +kernel
theorem dX7_set_45 : decode cX7_set 45 = .ok (.getfield 26, 3) := by decide +kernel
theorem dX7_set_48 : decode cX7_set 48 = .ok (.iload_n 1, 1) := by decide +kernel
theorem dX7_set_49 : decode cX7_set 49 = .ok (.iaload, 1) := by decide +kernel
theorem dX7_set_50 : decode cX7_set 50 = .ok (.goto 9, 3) := by decide +kernel
theorem dX7_set_53 : decode cX7_set 53 = .ok (.aload_n 0, 1) := by decide +kernel
theorem dX7_set_54 : decode cX7_set 54 = .ok (.getfield 29, 3) := by decide +kernel
theorem dX7_set_57 : decode cX7_set 57 = .ok (.iload_n 1, 1) := by decide +kernel
theorem dX7_set_58 : decode cX7_set 58 = .ok (.iaload, 1) := by decide +kernel
theorem dX7_set_59 : decode cX7_set 59 = .ok (.istore 4, 2) := by decide +kernel
theorem dX7_set_61 : decode cX7_set 61 = .ok (.aload_n 0, 1) := by decide +kernel
theorem dX7_set_62 : decode cX7_set 62 = .ok (.getfield 26, 3) := by decide +kernel
theorem dX7_set_65 : decode cX7_set 65 = .ok (.iload_n 1, 1) := by decide +kernel
theorem dX7_set_66 : decode cX7_set 66 = .ok (.iload_n 2, 1) := by decide +kernel
theorem dX7_set_67 : decode cX7_set 67 = .ok (.ifCond .ne 7, 3) := by decide +kernel
theorem dX7_set_70 : decode cX7_set 70 = .ok (.iload_n 3, 1) := by decide +kernel
theorem dX7_set_71 : decode cX7_set 71 = .ok (.goto 9, 3) := by decide +kernel
theorem dX7_set_74 : decode cX7_set 74 = .ok (.aload_n 0, 1) := by decide +kernel
theorem dX7_set_75 : decode cX7_set 75 = .ok (.getfield 26, 3) := by decide +kernel
theorem dX7_set_78 : decode cX7_set 78 = .ok (.iload_n 1, 1) := by decide +kernel
theorem dX7_set_79 : decode cX7_set 79 = .ok (.iaload, 1) := by decide +kernel
theorem dX7_set_80 : decode cX7_set 80 = .ok (.iastore, 1) := by decide +kernel
theorem dX7_set_81 : decode cX7_set 81 = .ok (.aload_n 0, 1) := by decide +kernel
theorem dX7_set_82 : decode cX7_set 82 = .ok (.getfield 29, 3) := by decide +kernel
theorem dX7_set_85 : decode cX7_set 85 = .ok (.iload_n 1, 1) := by decide +kernel
theorem dX7_set_86 : decode cX7_set 86 = .ok (.iload_n 2, 1) := by decide +kernel
theorem dX7_set_87 : decode cX7_set 87 = .ok (.iconst 1, 1) := by decide +kernel
theorem dX7_set_88 : decode cX7_set 88 = .ok (.if_icmp .ne 7, 3) := by decide +kernel
theorem dX7_set_91 : decode cX7_set 91 = .ok (.iload_n 3, 1) := by decide +kernel
theorem dX7_set_92 : decode cX7_set 92 = .ok (.goto 9, 3) := by decide +kernel
theorem dX7_set_95 : decode cX7_set 95 = .ok (.aload_n 0, 1) := by decide +kernel
theorem dX7_set_96 : decode cX7_set 96 = .ok (.getfield 29, 3) := by decide +kernel
theorem dX7_set_99 : decode cX7_set 99 = .ok (.iload_n 1, 1) := by decide +kernel
theorem dX7_set_100 : decode cX7_set 100 = .ok (.iaload, 1) := by decide +kernel
theorem dX7_set_101 : decode cX7_set 101 = .ok (.iastore, 1) := by decide +kernel
theorem dX7_set_102 : decode cX7_set 102 = .ok (.iload 4, 2) := by decide +kernel
theorem dX7_set_104 : decode cX7_set 104 = .ok (.ireturn, 1) := by decide +kernel
theorem dX7_say_0 : decode cX7_say 0 = .ok (.iload_n 1, 1) := by decide +kernel
theorem dX7_say_1 : decode cX7_say 1 = .ok (.bipush 33, 2) := by decide +kernel
theorem dX7_say_3 : decode cX7_say 3 = .ok (.bipush 126, 2) := by decide +kernel
theorem dX7_say_5 : decode cX7_say 5 = .ok (.invokestatic 78, 3) := by decide +kernel
theorem dX7_say_8 : decode cX7_say 8 = .ok (.ifCond .ne 6, 3) := by decide +kernel
theorem dX7_say_11 : decode cX7_say 11 = .ok (.bipush (-2), 2) := by decide +kernel
theorem dX7_say_13 : decode cX7_say 13 = .ok (.ireturn, 1) := by decide +kernel
theorem dX7_say_14 : decode cX7_say 14 = .ok (.aload_n 0, 1) := by decide +kernel
theorem dX7_say_15 : decode cX7_say 15 = .ok (.getfield 86, 3) := by decide +kernel
theorem dX7_say_18 : decode cX7_say 18 = .ok (.bipush 60, 2) := by decide +kernel
theorem dX7_say_20 : decode cX7_say 20 = .ok (.if_icmp .ne 6, 3) := by decide +kernel
theorem dX7_say_23 : decode cX7_say 23 = .ok (.bipush (-4), 2) := by decide +kernel
theorem dX7_say_25 : decode cX7_say 25 = .ok (.ireturn, 1) := by decide +kernel
theorem dX7_say_26 : decode cX7_say 26 = .ok (.aload_n 0, 1) := by decide +kernel
theorem dX7_say_27 : decode cX7_say 27 = .ok (.getfield 35, 3) := by decide +kernel
theorem dX7_say_30 : decode cX7_say 30 = .ok (.aload_n 0, 1) := by decide +kernel
theorem dX7_say_31 : decode cX7_say 31 = .ok (.getfield 86, 3) := by decide +kernel
theorem dX7_say_34 : decode cX7_say 34 = .ok (.iload_n 1, 1) := by decide +kernel
theorem dX7_say_35 : decode cX7_say 35 = .ok (.iastore, 1) := by decide +kernel
theorem dX7_say_36 : decode cX7_say 36 = .ok (.aload_n 0, 1) := by decide +kernel
theorem dX7_say_37 : decode cX7_say 37 = .ok (.dup, 1) := by decide +kernel
theorem dX7_say_38 : decode cX7_say 38 = .ok (.getfield 86, 3) := by decide +kernel
theorem dX7_say_41 : decode cX7_say 41 = .ok (.iconst 1, 1) := by decide +kernel
theorem dX7_say_42 : decode cX7_say 42 = .ok (.iadd, 1) := by decide +kernel
theorem dX7_say_43 : decode cX7_say 43 = .ok (.putfield 86, 3) := by decide +kernel
theorem dX7_say_46 : decode cX7_say 46 = .ok (.aload_n 0, 1) := by decide +kernel
theorem dX7_say_47 : decode cX7_say 47 = .ok (.getfield 86, 3) := by decide +kernel
theorem dX7_say_50 : decode cX7_say 50 = .ok (.ireturn, 1) := by decide +kernel
theorem dX7_wipe_0 : decode cX7_wipe 0 = .ok (.aload_n 0, 1) := by decide +kernel
theorem dX7_wipe_1 : decode cX7_wipe 1 = .ok (.getfield 86, 3) := by decide +kernel
theorem dX7_wipe_4 : decode cX7_wipe 4 = .ok (.istore_n 1, 1) := by decide +kernel
theorem dX7_wipe_5 : decode cX7_wipe 5 = .ok (.aload_n 0, 1) := by decide +kernel
theorem dX7_wipe_6 : decode cX7_wipe 6 = .ok (.iconst 0, 1) := by decide +kernel
theorem dX7_wipe_7 : decode cX7_wipe 7 = .ok (.putfield 86, 3) := by decide +kernel
theorem dX7_wipe_10 : decode cX7_wipe 10 = .ok (.iload_n 1, 1) := by decide +kernel
theorem dX7_wipe_11 : decode cX7_wipe 11 = .ok (.ireturn, 1) := by decide +kernel
theorem dX7_isChild_0 : decode cX7_isChild 0 = .ok (.aload_n 0, 1) := by decide +kernel
theorem dX7_isChild_1 : decode cX7_isChild 1 = .ok (.iload_n 1, 1) := by decide +kernel
theorem dX7_isChild_2 : decode cX7_isChild 2 = .ok (.bipush 65, 2) := by decide +kernel
theorem dX7_isChild_4 : decode cX7_isChild 4 = .ok (.isub, 1) := by decide +kernel
theorem dX7_isChild_5 : decode cX7_isChild 5 = .ok (.invokevirtual 82, 3) := by decide +kernel
theorem dX7_isChild_8 : decode cX7_isChild 8 = .ok (.ireturn, 1) := by decide +kernel
theorem dX7_faultOf_0 : decode cX7_faultOf 0 = .ok (.iconst 0, 1) := by decide +kernel
theorem dX7_faultOf_1 : decode cX7_faultOf 1 = .ok (.istore_n 1, 1) := by decide +kernel
theorem dX7_faultOf_2 : decode cX7_faultOf 2 = .ok (.iconst 0, 1) := by decide +kernel
theorem dX7_faultOf_3 : decode cX7_faultOf 3 = .ok (.istore_n 2, 1) := by decide +kernel
theorem dX7_faultOf_4 : decode cX7_faultOf 4 = .ok (.iload_n 2, 1) := by decide +kernel
theorem dX7_faultOf_5 : decode cX7_faultOf 5 = .ok (.aload_n 0, 1) := by decide +kernel
theorem dX7_faultOf_6 : decode cX7_faultOf 6 = .ok (.getfield 86, 3) := by decide +kernel
theorem dX7_faultOf_9 : decode cX7_faultOf 9 = .ok (.if_icmp .ge 99, 3) := by decide +kernel
theorem dX7_faultOf_12 : decode cX7_faultOf 12 = .ok (.aload_n 0, 1) := by decide +kernel
theorem dX7_faultOf_13 : decode cX7_faultOf 13 = .ok (.getfield 35, 3) := by decide +kernel
theorem dX7_faultOf_16 : decode cX7_faultOf 16 = .ok (.iload_n 2, 1) := by decide +kernel
theorem dX7_faultOf_17 : decode cX7_faultOf 17 = .ok (.iaload, 1) := by decide +kernel
theorem dX7_faultOf_18 : decode cX7_faultOf 18 = .ok (.istore_n 3, 1) := by decide +kernel
theorem dX7_faultOf_19 : decode cX7_faultOf 19 = .ok (.aload_n 0, 1) := by decide +kernel
theorem dX7_faultOf_20 : decode cX7_faultOf 20 = .ok (.iload_n 3, 1) := by decide +kernel
theorem dX7_faultOf_21 : decode cX7_faultOf 21 = .ok (.invokevirtual 89, 3) := by decide +kernel
theorem dX7_faultOf_24 : decode cX7_faultOf 24 = .ok (.ifCond .ne 46, 3) := by decide +kernel
theorem dX7_faultOf_27 : decode cX7_faultOf 27 = .ok (.iload_n 1, 1) := by decide +kernel
theorem dX7_faultOf_28 : decode cX7_faultOf 28 = .ok (.ifCond .eq 24, 3) := by decide +kernel
theorem dX7_faultOf_31 : decode cX7_faultOf 31 = .ok (.iload_n 3, 1) := by decide +kernel
theorem dX7_faultOf_32 : decode cX7_faultOf 32 = .ok (.bipush 115, 2) := by decide +kernel
theorem dX7_faultOf_34 : decode cX7_faultOf 34 = .ok (.if_icmp .eq 36, 3) := by decide +kernel
theorem dX7_faultOf_37 : decode cX7_faultOf 37 = .ok (.iload_n 3, 1) := by decide +kernel
theorem dX7_faultOf_38 : decode cX7_faultOf 38 = .ok (.bipush 100, 2) := by decide +kernel
theorem dX7_faultOf_40 : decode cX7_faultOf 40 = .ok (.if_icmp .eq 30, 3) := by decide +kernel
theorem dX7_faultOf_43 : decode cX7_faultOf 43 = .ok (.iload_n 3, 1) := by decide +kernel
theorem dX7_faultOf_44 : decode cX7_faultOf 44 = .ok (.bipush 109, 2) := by decide +kernel
theorem dX7_faultOf_46 : decode cX7_faultOf 46 = .ok (.if_icmp .ne 28, 3) := by decide +kernel
theorem dX7_faultOf_49 : decode cX7_faultOf 49 = .ok (.goto 21, 3) := by decide +kernel
theorem dX7_faultOf_52 : decode cX7_faultOf 52 = .ok (.iload_n 3, 1) := by decide +kernel
theorem dX7_faultOf_53 : decode cX7_faultOf 53 = .ok (.bipush 46, 2) := by decide +kernel
theorem dX7_faultOf_55 : decode cX7_faultOf 55 = .ok (.if_icmp .eq 15, 3) := by decide +kernel
theorem dX7_faultOf_58 : decode cX7_faultOf 58 = .ok (.iload_n 3, 1) := by decide +kernel
theorem dX7_faultOf_59 : decode cX7_faultOf 59 = .ok (.bipush 58, 2) := by decide +kernel
theorem dX7_faultOf_61 : decode cX7_faultOf 61 = .ok (.if_icmp .eq 9, 3) := by decide +kernel
theorem dX7_faultOf_64 : decode cX7_faultOf 64 = .ok (.iload_n 3, 1) := by decide +kernel
theorem dX7_faultOf_65 : decode cX7_faultOf 65 = .ok (.bipush 59, 2) := by decide +kernel
theorem dX7_faultOf_67 : decode cX7_faultOf 67 = .ok (.if_icmp .ne 7, 3) := by decide +kernel
theorem dX7_faultOf_70 : decode cX7_faultOf 70 = .ok (.iconst 1, 1) := by decide +kernel
theorem dX7_faultOf_71 : decode cX7_faultOf 71 = .ok (.goto 4, 3) := by decide +kernel
theorem dX7_faultOf_74 : decode cX7_faultOf 74 = .ok (.iconst 0, 1) := by decide +kernel
theorem dX7_faultOf_75 : decode cX7_faultOf 75 = .ok (.istore 4, 2) := by decide +kernel
theorem dX7_faultOf_77 : decode cX7_faultOf 77 = .ok (.iload 4, 2) := by decide +kernel
theorem dX7_faultOf_79 : decode cX7_faultOf 79 = .ok (.ifCond .ne 5, 3) := by decide +kernel
theorem dX7_faultOf_82 : decode cX7_faultOf 82 = .ok (.iload_n 2, 1) := by decide +kernel
theorem dX7_faultOf_83 : decode cX7_faultOf 83 = .ok (.ireturn, 1) := by decide +kernel
theorem dX7_faultOf_84 : decode cX7_faultOf 84 = .ok (.iload_n 1, 1) := by decide +kernel
theorem dX7_faultOf_85 : decode cX7_faultOf 85 = .ok (.ifCond .ne 15, 3) := by decide +kernel
theorem dX7_faultOf_88 : decode cX7_faultOf 88 = .ok (.aload_n 0, 1) := by decide +kernel
theorem dX7_faultOf_89 : decode cX7_faultOf 89 = .ok (.iload_n 3, 1) := by decide +kernel
theorem dX7_faultOf_90 : decode cX7_faultOf 90 = .ok (.invokevirtual 89, 3) := by decide +kernel
theorem dX7_faultOf_93 : decode cX7_faultOf 93 = .ok (.ifCond .eq 7, 3) := by decide +kernel
theorem dX7_faultOf_96 : decode cX7_faultOf 96 = .ok (.iconst 1, 1) := by decide +kernel
theorem dX7_faultOf_97 : decode cX7_faultOf 97 = .ok (.goto 4, 3) := by decide +kernel
theorem dX7_faultOf_100 : decode cX7_faultOf 100 = .ok (.iconst 0, 1) := by decide +kernel
theorem dX7_faultOf_101 : decode cX7_faultOf 101 = .ok (.istore_n 1, 1) := by decide +kernel
theorem dX7_faultOf_102 : decode cX7_faultOf 102 = .ok (.iinc 2 1, 3) := by decide +kernel
theorem dX7_faultOf_105 : decode cX7_faultOf 105 = .ok (.goto (-101), 3) := by decide +kernel
theorem dX7_faultOf_108 : decode cX7_faultOf 108 = .ok (.iload_n 1, 1) := by decide +kernel
theorem dX7_faultOf_109 : decode cX7_faultOf 109 = .ok (.ifCond .eq 10, 3) := by decide +kernel
theorem dX7_faultOf_112 : decode cX7_faultOf 112 = .ok (.aload_n 0, 1) := by decide +kernel
theorem dX7_faultOf_113 : decode cX7_faultOf 113 = .ok (.getfield 86, 3) := by decide +kernel
theorem dX7_faultOf_116 : decode cX7_faultOf 116 = .ok (.goto 5, 3) := by decide +kernel
theorem dX7_faultOf_119 : decode cX7_faultOf 119 = .ok (.bipush (-6), 2) := by decide +kernel
theorem dX7_faultOf_121 : decode cX7_faultOf 121 = .ok (.ireturn, 1) := by decide +kernel
theorem dX7_fault_0 : decode cX7_fault 0 = .ok (.aload_n 0, 1) := by decide +kernel
theorem dX7_fault_1 : decode cX7_fault 1 = .ok (.invokevirtual 92, 3) := by decide +kernel
theorem dX7_fault_4 : decode cX7_fault 4 = .ok (.ireturn, 1) := by decide +kernel
theorem dX7_asNow_0 : decode cX7_asNow 0 = .ok (.aload_n 0, 1) := by decide +kernel
theorem dX7_asNow_1 : decode cX7_asNow 1 = .ok (.aload_n 0, 1) := by decide +kernel
theorem dX7_asNow_2 : decode cX7_asNow 2 = .ok (.getfield 66, 3) := by decide +kernel
theorem dX7_asNow_5 : decode cX7_asNow 5 = .ok (.putfield 96, 3) := by decide +kernel
theorem dX7_asNow_8 : decode cX7_asNow 8 = .ok (.aload_n 0, 1) := by decide +kernel
theorem dX7_asNow_9 : decode cX7_asNow 9 = .ok (.aload_n 0, 1) := by decide +kernel
theorem dX7_asNow_10 : decode cX7_asNow 10 = .ok (.getfield 69, 3) := by decide +kernel
theorem dX7_asNow_13 : decode cX7_asNow 13 = .ok (.putfield 99, 3) := by decide +kernel
theorem dX7_asNow_16 : decode cX7_asNow 16 = .ok (.aload_n 0, 1) := by decide +kernel
theorem dX7_asNow_17 : decode cX7_asNow 17 = .ok (.aload_n 0, 1) := by decide +kernel
theorem dX7_asNow_18 : decode cX7_asNow 18 = .ok (.getfield 72, 3) := by decide +kernel
theorem dX7_asNow_21 : decode cX7_asNow 21 = .ok (.putfield 102, 3) := by decide +kernel
theorem dX7_asNow_24 : decode cX7_asNow 24 = .ok (.iconst 0, 1) := by decide +kernel
theorem dX7_asNow_25 : decode cX7_asNow 25 = .ok (.istore_n 1, 1) := by decide +kernel
theorem dX7_asNow_26 : decode cX7_asNow 26 = .ok (.iload_n 1, 1) := by decide +kernel
theorem dX7_asNow_27 : decode cX7_asNow 27 = .ok (.bipush 6, 2) := by decide +kernel
theorem dX7_asNow_29 : decode cX7_asNow 29 = .ok (.if_icmp .ge 52, 3) := by decide +kernel
theorem dX7_asNow_32 : decode cX7_asNow 32 = .ok (.aload_n 0, 1) := by decide +kernel
theorem dX7_asNow_33 : decode cX7_asNow 33 = .ok (.getfield 38, 3) := by decide +kernel
theorem dX7_asNow_36 : decode cX7_asNow 36 = .ok (.iload_n 1, 1) := by decide +kernel
theorem dX7_asNow_37 : decode cX7_asNow 37 = .ok (.aload_n 0, 1) := by decide +kernel
theorem dX7_asNow_38 : decode cX7_asNow 38 = .ok (.getfield 16, 3) := by decide +kernel
theorem dX7_asNow_41 : decode cX7_asNow 41 = .ok (.iload_n 1, 1) := by decide +kernel
theorem dX7_asNow_42 : decode cX7_asNow 42 = .ok (.iaload, 1) := by decide +kernel
theorem dX7_asNow_43 : decode cX7_asNow 43 = .ok (.iastore, 1) := by decide +kernel
theorem dX7_asNow_44 : decode cX7_asNow 44 = .ok (.aload_n 0, 1) := by decide +kernel
theorem dX7_asNow_45 : decode cX7_asNow 45 = .ok (.getfield 41, 3) := by decide +kernel
theorem dX7_asNow_48 : decode cX7_asNow 48 = .ok (.iload_n 1, 1) := by decide +kernel
theorem dX7_asNow_49 : decode cX7_asNow 49 = .ok (.aload_n 0, 1) := by decide +kernel
theorem dX7_asNow_50 : decode cX7_asNow 50 = .ok (.getfield 20, 3) := by decide +kernel
theorem dX7_asNow_53 : decode cX7_asNow 53 = .ok (.iload_n 1, 1) := by decide +kernel
theorem dX7_asNow_54 : decode cX7_asNow 54 = .ok (.iaload, 1) := by decide +kernel
theorem dX7_asNow_55 : decode cX7_asNow 55 = .ok (.iastore, 1) := by decide +kernel
theorem dX7_asNow_56 : decode cX7_asNow 56 = .ok (.aload_n 0, 1) := by decide +kernel
theorem dX7_asNow_57 : decode cX7_asNow 57 = .ok (.getfield 44, 3) := by decide +kernel
theorem dX7_asNow_60 : decode cX7_asNow 60 = .ok (.iload_n 1, 1) := by decide +kernel
theorem dX7_asNow_61 : decode cX7_asNow 61 = .ok (.aload_n 0, 1) := by decide +kernel
theorem dX7_asNow_62 : decode cX7_asNow 62 = .ok (.getfield 23, 3) := by decide +kernel
theorem dX7_asNow_65 : decode cX7_asNow 65 = .ok (.iload_n 1, 1) := by decide +kernel
theorem dX7_asNow_66 : decode cX7_asNow 66 = .ok (.iaload, 1) := by decide +kernel
theorem dX7_asNow_67 : decode cX7_asNow 67 = .ok (.iastore, 1) := by decide +kernel
theorem dX7_asNow_68 : decode cX7_asNow 68 = .ok (.aload_n 0, 1) := by decide +kernel
theorem dX7_asNow_69 : decode cX7_asNow 69 = .ok (.getfield 47, 3) := by decide +kernel
theorem dX7_asNow_72 : decode cX7_asNow 72 = .ok (.iload_n 1, 1) := by decide +kernel
theorem dX7_asNow_73 : decode cX7_asNow 73 = .ok (.iconst 0, 1) := by decide +kernel
theorem dX7_asNow_74 : decode cX7_asNow 74 = .ok (.iastore, 1) := by decide +kernel
theorem dX7_asNow_75 : decode cX7_asNow 75 = .ok (.iinc 1 1, 3) := by decide +kernel
theorem dX7_asNow_78 : decode cX7_asNow 78 = .ok (.goto (-52), 3) := by decide +kernel
theorem dX7_asNow_81 : decode cX7_asNow 81 = .ok (.return_, 1) := by decide +kernel
theorem dX7_equinox_0 : decode cX7_equinox 0 = .ok (.iconst 0, 1) := by decide +kernel
theorem dX7_equinox_1 : decode cX7_equinox 1 = .ok (.istore_n 1, 1) := by decide +kernel
theorem dX7_equinox_2 : decode cX7_equinox 2 = .ok (.iload_n 1, 1) := by decide +kernel
theorem dX7_equinox_3 : decode cX7_equinox 3 = .ok (.aload_n 0, 1) := by decide +kernel
theorem dX7_equinox_4 : decode cX7_equinox 4 = .ok (.getfield 7, 3) := by decide +kernel
theorem dX7_equinox_7 : decode cX7_equinox 7 = .ok (.if_icmp .ge 110, 3) := by decide +kernel
theorem dX7_equinox_10 : decode cX7_equinox 10 = .ok (.aload_n 0, 1) := by decide +kernel
theorem dX7_equinox_11 : decode cX7_equinox 11 = .ok (.getfield 38, 3) := by decide +kernel
theorem dX7_equinox_14 : decode cX7_equinox 14 = .ok (.iload_n 1, 1) := by decide +kernel
theorem dX7_equinox_15 : decode cX7_equinox 15 = .ok (.iaload, 1) := by decide +kernel
theorem dX7_equinox_16 : decode cX7_equinox 16 = .ok (.ifCond .lt 69, 3) := by decide +kernel
theorem dX7_equinox_19 : decode cX7_equinox 19 = .ok (.aload_n 0, 1) := by decide +kernel
theorem dX7_equinox_20 : decode cX7_equinox 20 = .ok (.getfield 44, 3) := by decide +kernel
theorem dX7_equinox_23 : decode cX7_equinox 23 = .ok (.iload_n 1, 1) := by decide +kernel
theorem dX7_equinox_24 : decode cX7_equinox 24 = .ok (.iaload, 1) := by decide +kernel
theorem dX7_equinox_25 : decode cX7_equinox 25 = .ok (.ifCond .ne 60, 3) := by decide +kernel
theorem dX7_equinox_28 : decode cX7_equinox 28 = .ok (.aload_n 0, 1) := by decide +kernel
theorem dX7_equinox_29 : decode cX7_equinox 29 = .ok (.getfield 38, 3) := by decide +kernel
theorem dX7_equinox_32 : decode cX7_equinox 32 = .ok (.iload_n 1, 1) := by decide +kernel
theorem dX7_equinox_33 : decode cX7_equinox 33 = .ok (.aload_n 0, 1) := by decide +kernel
theorem dX7_equinox_34 : decode cX7_equinox 34 = .ok (.getfield 38, 3) := by decide +kernel
theorem dX7_equinox_37 : decode cX7_equinox 37 = .ok (.iload_n 1, 1) := by decide +kernel
theorem dX7_equinox_38 : decode cX7_equinox 38 = .ok (.iaload, 1) := by decide +kernel
theorem dX7_equinox_39 : decode cX7_equinox 39 = .ok (.iconst 1, 1) := by decide +kernel
theorem dX7_equinox_40 : decode cX7_equinox 40 = .ok (.iadd, 1) := by decide +kernel
theorem dX7_equinox_41 : decode cX7_equinox 41 = .ok (.aload_n 0, 1) := by decide +kernel
theorem dX7_equinox_42 : decode cX7_equinox 42 = .ok (.getfield 7, 3) := by decide +kernel
theorem dX7_equinox_45 : decode cX7_equinox 45 = .ok (.irem, 1) := by decide +kernel
theorem dX7_equinox_46 : decode cX7_equinox 46 = .ok (.iload_n 1, 1) := by decide +kernel
theorem dX7_equinox_47 : decode cX7_equinox 47 = .ok (.if_icmp .ne 14, 3) := by decide +kernel
theorem dX7_equinox_50 : decode cX7_equinox 50 = .ok (.iload_n 1, 1) := by decide +kernel
theorem dX7_equinox_51 : decode cX7_equinox 51 = .ok (.iconst 1, 1) := by decide +kernel
theorem dX7_equinox_52 : decode cX7_equinox 52 = .ok (.iadd, 1) := by decide +kernel
theorem dX7_equinox_53 : decode cX7_equinox 53 = .ok (.aload_n 0, 1) := by decide +kernel
theorem dX7_equinox_54 : decode cX7_equinox 54 = .ok (.getfield 7, 3) := by decide +kernel
theorem dX7_equinox_57 : decode cX7_equinox 57 = .ok (.irem, 1) := by decide +kernel
theorem dX7_equinox_58 : decode cX7_equinox 58 = .ok (.goto 16, 3) := by decide +kernel
theorem dX7_equinox_61 : decode cX7_equinox 61 = .ok (.aload_n 0, 1) := by decide +kernel
theorem dX7_equinox_62 : decode cX7_equinox 62 = .ok (.getfield 38, 3) := by decide +kernel
theorem dX7_equinox_65 : decode cX7_equinox 65 = .ok (.iload_n 1, 1) := by decide +kernel
theorem dX7_equinox_66 : decode cX7_equinox 66 = .ok (.iaload, 1) := by decide +kernel
theorem dX7_equinox_67 : decode cX7_equinox 67 = .ok (.iconst 1, 1) := by decide +kernel
theorem dX7_equinox_68 : decode cX7_equinox 68 = .ok (.iadd, 1) := by decide +kernel
theorem dX7_equinox_69 : decode cX7_equinox 69 = .ok (.aload_n 0, 1) := by decide +kernel
theorem dX7_equinox_70 : decode cX7_equinox 70 = .ok (.getfield 7, 3) := by decide +kernel
theorem dX7_equinox_73 : decode cX7_equinox 73 = .ok (.irem, 1) := by decide +kernel
theorem dX7_equinox_74 : decode cX7_equinox 74 = .ok (.iastore, 1) := by decide +kernel
theorem dX7_equinox_75 : decode cX7_equinox 75 = .ok (.aload_n 0, 1) := by decide +kernel
theorem dX7_equinox_76 : decode cX7_equinox 76 = .ok (.getfield 47, 3) := by decide +kernel
theorem dX7_equinox_79 : decode cX7_equinox 79 = .ok (.iload_n 1, 1) := by decide +kernel
theorem dX7_equinox_80 : decode cX7_equinox 80 = .ok (.dup2, 1) := by decide +kernel
theorem dX7_equinox_81 : decode cX7_equinox 81 = .ok (.iaload, 1) := by decide +kernel
theorem dX7_equinox_82 : decode cX7_equinox 82 = .ok (.iconst 1, 1) := by decide +kernel
theorem dX7_equinox_83 : decode cX7_equinox 83 = .ok (.iadd, 1) := by decide +kernel
theorem dX7_equinox_84 : decode cX7_equinox 84 = .ok (.iastore, 1) := by decide +kernel
theorem dX7_equinox_85 : decode cX7_equinox 85 = .ok (.aload_n 0, 1) := by decide +kernel
theorem dX7_equinox_86 : decode cX7_equinox 86 = .ok (.getfield 44, 3) := by decide +kernel
theorem dX7_equinox_89 : decode cX7_equinox 89 = .ok (.iload_n 1, 1) := by decide +kernel
theorem dX7_equinox_90 : decode cX7_equinox 90 = .ok (.aload_n 0, 1) := by decide +kernel
theorem dX7_equinox_91 : decode cX7_equinox 91 = .ok (.getfield 44, 3) := by decide +kernel
theorem dX7_equinox_94 : decode cX7_equinox 94 = .ok (.iload_n 1, 1) := by decide +kernel
theorem dX7_equinox_95 : decode cX7_equinox 95 = .ok (.iaload, 1) := by decide +kernel
theorem dX7_equinox_96 : decode cX7_equinox 96 = .ok (.iconst 1, 1) := by decide +kernel
theorem dX7_equinox_97 : decode cX7_equinox 97 = .ok (.if_icmp .ne 7, 3) := by decide +kernel
theorem dX7_equinox_100 : decode cX7_equinox 100 = .ok (.iconst 0, 1) := by decide +kernel
theorem dX7_equinox_101 : decode cX7_equinox 101 = .ok (.goto 9, 3) := by decide +kernel
theorem dX7_equinox_104 : decode cX7_equinox 104 = .ok (.aload_n 0, 1) := by decide +kernel
theorem dX7_equinox_105 : decode cX7_equinox 105 = .ok (.getfield 44, 3) := by decide +kernel
theorem dX7_equinox_108 : decode cX7_equinox 108 = .ok (.iload_n 1, 1) := by decide +kernel
theorem dX7_equinox_109 : decode cX7_equinox 109 = .ok (.iaload, 1) := by decide +kernel
theorem dX7_equinox_110 : decode cX7_equinox 110 = .ok (.iastore, 1) := by decide +kernel
theorem dX7_equinox_111 : decode cX7_equinox 111 = .ok (.iinc 1 1, 3) := by decide +kernel
theorem dX7_equinox_114 : decode cX7_equinox 114 = .ok (.goto (-112), 3) := by decide +kernel
theorem dX7_equinox_117 : decode cX7_equinox 117 = .ok (.aload_n 0, 1) := by decide +kernel
theorem dX7_equinox_118 : decode cX7_equinox 118 = .ok (.dup, 1) := by decide +kernel
theorem dX7_equinox_119 : decode cX7_equinox 119 = .ok (.getfield 99, 3) := by decide +kernel
theorem dX7_equinox_122 : decode cX7_equinox 122 = .ok (.iconst 1, 1) := by decide +kernel
theorem dX7_equinox_123 : decode cX7_equinox 123 = .ok (.iadd, 1) := by decide +kernel
theorem dX7_equinox_124 : decode cX7_equinox 124 = .ok (.putfield 99, 3) := by decide +kernel
theorem dX7_equinox_127 : decode cX7_equinox 127 = .ok (.aload_n 0, 1) := by decide +kernel
theorem dX7_equinox_128 : decode cX7_equinox 128 = .ok (.iconst 0, 1) := by decide +kernel
theorem dX7_equinox_129 : decode cX7_equinox 129 = .ok (.putfield 102, 3) := by decide +kernel
theorem dX7_equinox_132 : decode cX7_equinox 132 = .ok (.return_, 1) := by decide +kernel
theorem dX7_days_0 : decode cX7_days 0 = .ok (.iconst 0, 1) := by decide +kernel
theorem dX7_days_1 : decode cX7_days 1 = .ok (.istore_n 2, 1) := by decide +kernel
theorem dX7_days_2 : decode cX7_days 2 = .ok (.iload_n 2, 1) := by decide +kernel
theorem dX7_days_3 : decode cX7_days 3 = .ok (.iload_n 1, 1) := by decide +kernel
theorem dX7_days_4 : decode cX7_days 4 = .ok (.if_icmp .ge 44, 3) := by decide +kernel
theorem dX7_days_7 : decode cX7_days 7 = .ok (.aload_n 0, 1) := by decide +kernel
theorem dX7_days_8 : decode cX7_days 8 = .ok (.dup, 1) := by decide +kernel
theorem dX7_days_9 : decode cX7_days 9 = .ok (.getfield 96, 3) := by decide +kernel
theorem dX7_days_12 : decode cX7_days 12 = .ok (.iconst 1, 1) := by decide +kernel
theorem dX7_days_13 : decode cX7_days 13 = .ok (.iadd, 1) := by decide +kernel
theorem dX7_days_14 : decode cX7_days 14 = .ok (.putfield 96, 3) := by decide +kernel
theorem dX7_days_17 : decode cX7_days 17 = .ok (.aload_n 0, 1) := by decide +kernel
theorem dX7_days_18 : decode cX7_days 18 = .ok (.dup, 1) := by decide +kernel
theorem dX7_days_19 : decode cX7_days 19 = .ok (.getfield 102, 3) := by decide +kernel
theorem dX7_days_22 : decode cX7_days 22 = .ok (.iconst 1, 1) := by decide +kernel
theorem dX7_days_23 : decode cX7_days 23 = .ok (.iadd, 1) := by decide +kernel
theorem dX7_days_24 : decode cX7_days 24 = .ok (.putfield 102, 3) := by decide +kernel
theorem dX7_days_27 : decode cX7_days 27 = .ok (.aload_n 0, 1) := by decide +kernel
theorem dX7_days_28 : decode cX7_days 28 = .ok (.getfield 102, 3) := by decide +kernel
theorem dX7_days_31 : decode cX7_days 31 = .ok (.aload_n 0, 1) := by decide +kernel
theorem dX7_days_32 : decode cX7_days 32 = .ok (.getfield 13, 3) := by decide +kernel
theorem dX7_days_35 : decode cX7_days 35 = .ok (.if_icmp .ne 7, 3) := by decide +kernel
theorem dX7_days_38 : decode cX7_days 38 = .ok (.aload_n 0, 1) := by decide +kernel
theorem dX7_days_39 : decode cX7_days 39 = .ok (.invokevirtual 105, 3) := by decide +kernel
theorem dX7_days_42 : decode cX7_days 42 = .ok (.iinc 2 1, 3) := by decide +kernel
theorem dX7_days_45 : decode cX7_days 45 = .ok (.goto (-43), 3) := by decide +kernel
theorem dX7_days_48 : decode cX7_days 48 = .ok (.return_, 1) := by decide +kernel
theorem dX7_whyNoHats_0 : decode cX7_whyNoHats 0 = .ok (.aload_n 0, 1) := by decide +kernel
theorem dX7_whyNoHats_1 : decode cX7_whyNoHats 1 = .ok (.getfield 38, 3) := by decide +kernel
theorem dX7_whyNoHats_4 : decode cX7_whyNoHats 4 = .ok (.iload_n 1, 1) := by decide +kernel
theorem dX7_whyNoHats_5 : decode cX7_whyNoHats 5 = .ok (.iaload, 1) := by decide +kernel
theorem dX7_whyNoHats_6 : decode cX7_whyNoHats 6 = .ok (.ifCond .lt 12, 3) := by decide +kernel
theorem dX7_whyNoHats_9 : decode cX7_whyNoHats 9 = .ok (.aload_n 0, 1) := by decide +kernel
theorem dX7_whyNoHats_10 : decode cX7_whyNoHats 10 = .ok (.getfield 38, 3) := by decide +kernel
theorem dX7_whyNoHats_13 : decode cX7_whyNoHats 13 = .ok (.iload_n 2, 1) := by decide +kernel
theorem dX7_whyNoHats_14 : decode cX7_whyNoHats 14 = .ok (.iaload, 1) := by decide +kernel
theorem dX7_whyNoHats_15 : decode cX7_whyNoHats 15 = .ok (.ifCond .ge 5, 3) := by decide +kernel
theorem dX7_whyNoHats_18 : decode cX7_whyNoHats 18 = .ok (.iconst 1, 1) := by decide +kernel
theorem dX7_whyNoHats_19 : decode cX7_whyNoHats 19 = .ok (.ireturn, 1) := by decide +kernel
theorem dX7_whyNoHats_20 : decode cX7_whyNoHats 20 = .ok (.iload_n 1, 1) := by decide +kernel
theorem dX7_whyNoHats_21 : decode cX7_whyNoHats 21 = .ok (.iload_n 2, 1) := by decide +kernel
theorem dX7_whyNoHats_22 : decode cX7_whyNoHats 22 = .ok (.if_icmp .ne 7, 3) := by decide +kernel
theorem dX7_whyNoHats_25 : decode cX7_whyNoHats 25 = .ok (.iconst 2, 1) := by decide +kernel
theorem dX7_whyNoHats_26 : decode cX7_whyNoHats 26 = .ok (.goto 15, 3) := by decide +kernel
theorem dX7_whyNoHats_29 : decode cX7_whyNoHats 29 = .ok (.aload_n 0, 1) := by decide +kernel
theorem dX7_whyNoHats_30 : decode cX7_whyNoHats 30 = .ok (.getfield 102, 3) := by decide +kernel
theorem dX7_whyNoHats_33 : decode cX7_whyNoHats 33 = .ok (.ifCond .eq 7, 3) := by decide +kernel
theorem dX7_whyNoHats_36 : decode cX7_whyNoHats 36 = .ok (.iconst 3, 1) := by decide +kernel
theorem dX7_whyNoHats_37 : decode cX7_whyNoHats 37 = .ok (.goto 4, 3) := by decide +kernel
theorem dX7_whyNoHats_40 : decode cX7_whyNoHats 40 = .ok (.iconst 0, 1) := by decide +kernel
theorem dX7_whyNoHats_41 : decode cX7_whyNoHats 41 = .ok (.ireturn, 1) := by decide +kernel
theorem dX7_hats_0 : decode cX7_hats 0 = .ok (.aload_n 0, 1) := by decide +kernel
theorem dX7_hats_1 : decode cX7_hats 1 = .ok (.getfield 41, 3) := by decide +kernel
theorem dX7_hats_4 : decode cX7_hats 4 = .ok (.iload_n 1, 1) := by decide +kernel
theorem dX7_hats_5 : decode cX7_hats 5 = .ok (.iaload, 1) := by decide +kernel
theorem dX7_hats_6 : decode cX7_hats 6 = .ok (.istore_n 3, 1) := by decide +kernel
theorem dX7_hats_7 : decode cX7_hats 7 = .ok (.aload_n 0, 1) := by decide +kernel
theorem dX7_hats_8 : decode cX7_hats 8 = .ok (.getfield 41, 3) := by decide +kernel
theorem dX7_hats_11 : decode cX7_hats 11 = .ok (.iload_n 1, 1) := by decide +kernel
theorem dX7_hats_12 : decode cX7_hats 12 = .ok (.aload_n 0, 1) := by decide +kernel
theorem dX7_hats_13 : decode cX7_hats 13 = .ok (.getfield 41, 3) := by decide +kernel
theorem dX7_hats_16 : decode cX7_hats 16 = .ok (.iload_n 2, 1) := by decide +kernel
theorem dX7_hats_17 : decode cX7_hats 17 = .ok (.iaload, 1) := by decide +kernel
theorem dX7_hats_18 : decode cX7_hats 18 = .ok (.iastore, 1) := by decide +kernel
theorem dX7_hats_19 : decode cX7_hats 19 = .ok (.aload_n 0, 1) := by decide +kernel
theorem dX7_hats_20 : decode cX7_hats 20 = .ok (.getfield 41, 3) := by decide +kernel
theorem dX7_hats_23 : decode cX7_hats 23 = .ok (.iload_n 2, 1) := by decide +kernel
theorem dX7_hats_24 : decode cX7_hats 24 = .ok (.iload_n 3, 1) := by decide +kernel
theorem dX7_hats_25 : decode cX7_hats 25 = .ok (.iastore, 1) := by decide +kernel
theorem dX7_hats_26 : decode cX7_hats 26 = .ok (.return_, 1) := by decide +kernel
theorem dX7_whyNot_0 : decode cX7_whyNot 0 = .ok (.aload_n 0, 1) := by decide +kernel
theorem dX7_whyNot_1 : decode cX7_whyNot 1 = .ok (.getfield 38, 3) := by decide +kernel
theorem dX7_whyNot_4 : decode cX7_whyNot 4 = .ok (.iload_n 1, 1) := by decide +kernel
theorem dX7_whyNot_5 : decode cX7_whyNot 5 = .ok (.iaload, 1) := by decide +kernel
theorem dX7_whyNot_6 : decode cX7_whyNot 6 = .ok (.ifCond .ge 7, 3) := by decide +kernel
theorem dX7_whyNot_9 : decode cX7_whyNot 9 = .ok (.iconst 1, 1) := by decide +kernel
theorem dX7_whyNot_10 : decode cX7_whyNot 10 = .ok (.goto 23, 3) := by decide +kernel
theorem dX7_whyNot_13 : decode cX7_whyNot 13 = .ok (.iload_n 2, 1) := by decide +kernel
theorem dX7_whyNot_14 : decode cX7_whyNot 14 = .ok (.bipush 100, 2) := by decide +kernel
theorem dX7_whyNot_16 : decode cX7_whyNot 16 = .ok (.if_icmp .eq 16, 3) := by decide +kernel
theorem dX7_whyNot_19 : decode cX7_whyNot 19 = .ok (.aload_n 0, 1) := by decide +kernel
theorem dX7_whyNot_20 : decode cX7_whyNot 20 = .ok (.getfield 44, 3) := by decide +kernel
theorem dX7_whyNot_23 : decode cX7_whyNot 23 = .ok (.iload_n 1, 1) := by decide +kernel
theorem dX7_whyNot_24 : decode cX7_whyNot 24 = .ok (.iaload, 1) := by decide +kernel
theorem dX7_whyNot_25 : decode cX7_whyNot 25 = .ok (.ifCond .eq 7, 3) := by decide +kernel
theorem dX7_whyNot_28 : decode cX7_whyNot 28 = .ok (.iconst 4, 1) := by decide +kernel
theorem dX7_whyNot_29 : decode cX7_whyNot 29 = .ok (.goto 4, 3) := by decide +kernel
theorem dX7_whyNot_32 : decode cX7_whyNot 32 = .ok (.iconst 0, 1) := by decide +kernel
theorem dX7_whyNot_33 : decode cX7_whyNot 33 = .ok (.ireturn, 1) := by decide +kernel
theorem dX7_goYears_0 : decode cX7_goYears 0 = .ok (.aload_n 0, 1) := by decide +kernel
theorem dX7_goYears_1 : decode cX7_goYears 1 = .ok (.invokevirtual 108, 3) := by decide +kernel
theorem dX7_goYears_4 : decode cX7_goYears 4 = .ok (.aload_n 0, 1) := by decide +kernel
theorem dX7_goYears_5 : decode cX7_goYears 5 = .ok (.iconst 0, 1) := by decide +kernel
theorem dX7_goYears_6 : decode cX7_goYears 6 = .ok (.putfield 111, 3) := by decide +kernel
theorem dX7_goYears_9 : decode cX7_goYears 9 = .ok (.iconst 0, 1) := by decide +kernel
theorem dX7_goYears_10 : decode cX7_goYears 10 = .ok (.istore_n 1, 1) := by decide +kernel
theorem dX7_goYears_11 : decode cX7_goYears 11 = .ok (.iload_n 1, 1) := by decide +kernel
theorem dX7_goYears_12 : decode cX7_goYears 12 = .ok (.aload_n 0, 1) := by decide +kernel
theorem dX7_goYears_13 : decode cX7_goYears 13 = .ok (.getfield 86, 3) := by decide +kernel
theorem dX7_goYears_16 : decode cX7_goYears 16 = .ok (.if_icmp .ge 232, 3) := by decide +kernel
theorem dX7_goYears_19 : decode cX7_goYears 19 = .ok (.aload_n 0, 1) := by decide +kernel
theorem dX7_goYears_20 : decode cX7_goYears 20 = .ok (.getfield 35, 3) := by decide +kernel
theorem dX7_goYears_23 : decode cX7_goYears 23 = .ok (.iload_n 1, 1) := by decide +kernel
theorem dX7_goYears_24 : decode cX7_goYears 24 = .ok (.iaload, 1) := by decide +kernel
theorem dX7_goYears_25 : decode cX7_goYears 25 = .ok (.istore_n 2, 1) := by decide +kernel
theorem dX7_goYears_26 : decode cX7_goYears 26 = .ok (.aload_n 0, 1) := by decide +kernel
theorem dX7_goYears_27 : decode cX7_goYears 27 = .ok (.iconst 0, 1) := by decide +kernel
theorem dX7_goYears_28 : decode cX7_goYears 28 = .ok (.putfield 114, 3) := by decide +kernel
theorem dX7_goYears_31 : decode cX7_goYears 31 = .ok (.aload_n 0, 1) := by decide +kernel
theorem dX7_goYears_32 : decode cX7_goYears 32 = .ok (.iload_n 2, 1) := by decide +kernel
theorem dX7_goYears_33 : decode cX7_goYears 33 = .ok (.invokevirtual 89, 3) := by decide +kernel
theorem dX7_goYears_36 : decode cX7_goYears 36 = .ok (.ifCond .ne 43, 3) := by decide +kernel
theorem dX7_goYears_39 : decode cX7_goYears 39 = .ok (.aload_n 0, 1) := by decide +kernel
theorem dX7_goYears_40 : decode cX7_goYears 40 = .ok (.iload_n 2, 1) := by decide +kernel
theorem dX7_goYears_41 : decode cX7_goYears 41 = .ok (.bipush 46, 2) := by decide +kernel
theorem dX7_goYears_43 : decode cX7_goYears 43 = .ok (.if_icmp .ne 7, 3) := by decide +kernel
theorem dX7_goYears_46 : decode cX7_goYears 46 = .ok (.iconst 1, 1) := by decide +kernel
theorem dX7_goYears_47 : decode cX7_goYears 47 = .ok (.goto 23, 3) := by decide +kernel
theorem dX7_goYears_50 : decode cX7_goYears 50 = .ok (.iload_n 2, 1) := by decide +kernel
theorem dX7_goYears_51 : decode cX7_goYears 51 = .ok (.bipush 58, 2) := by decide +kernel
theorem dX7_goYears_53 : decode cX7_goYears 53 = .ok (.if_icmp .ne 8, 3) := by decide +kernel
theorem dX7_goYears_56 : decode cX7_goYears 56 = .ok (.bipush 10, 2) := by decide +kernel
theorem dX7_goYears_58 : decode cX7_goYears 58 = .ok (.goto 12, 3) := by decide +kernel
theorem dX7_goYears_61 : decode cX7_goYears 61 = .ok (.aload_n 0, 1) := by decide +kernel
theorem dX7_goYears_62 : decode cX7_goYears 62 = .ok (.getfield 13, 3) := by decide +kernel
theorem dX7_goYears_65 : decode cX7_goYears 65 = .ok (.aload_n 0, 1) := by decide +kernel
theorem dX7_goYears_66 : decode cX7_goYears 66 = .ok (.getfield 102, 3) := by decide +kernel
theorem dX7_goYears_69 : decode cX7_goYears 69 = .ok (.isub, 1) := by decide +kernel
theorem dX7_goYears_70 : decode cX7_goYears 70 = .ok (.invokevirtual 117, 3) := by decide +kernel
theorem dX7_goYears_73 : decode cX7_goYears 73 = .ok (.iinc 1 1, 3) := by decide +kernel
theorem dX7_goYears_76 : decode cX7_goYears 76 = .ok (.goto 147, 3) := by decide +kernel
theorem dX7_goYears_79 : decode cX7_goYears 79 = .ok (.iload_n 2, 1) := by decide +kernel
theorem dX7_goYears_80 : decode cX7_goYears 80 = .ok (.bipush 65, 2) := by decide +kernel
theorem dX7_goYears_82 : decode cX7_goYears 82 = .ok (.isub, 1) := by decide +kernel
theorem dX7_goYears_83 : decode cX7_goYears 83 = .ok (.istore_n 3, 1) := by decide +kernel
theorem dX7_goYears_84 : decode cX7_goYears 84 = .ok (.aload_n 0, 1) := by decide +kernel
theorem dX7_goYears_85 : decode cX7_goYears 85 = .ok (.getfield 35, 3) := by decide +kernel
theorem dX7_goYears_88 : decode cX7_goYears 88 = .ok (.iload_n 1, 1) := by decide +kernel
theorem dX7_goYears_89 : decode cX7_goYears 89 = .ok (.iconst 1, 1) := by decide +kernel
theorem dX7_goYears_90 : decode cX7_goYears 90 = .ok (.iadd, 1) := by decide +kernel
theorem dX7_goYears_91 : decode cX7_goYears 91 = .ok (.iaload, 1) := by decide +kernel
theorem dX7_goYears_92 : decode cX7_goYears 92 = .ok (.istore 4, 2) := by decide +kernel
theorem dX7_goYears_94 : decode cX7_goYears 94 = .ok (.aload_n 0, 1) := by decide +kernel
theorem dX7_goYears_95 : decode cX7_goYears 95 = .ok (.iload 4, 2) := by decide +kernel
theorem dX7_goYears_97 : decode cX7_goYears 97 = .ok (.invokevirtual 89, 3) := by decide +kernel
theorem dX7_goYears_100 : decode cX7_goYears 100 = .ok (.ifCond .eq 37, 3) := by decide +kernel
theorem dX7_goYears_103 : decode cX7_goYears 103 = .ok (.aload_n 0, 1) := by decide +kernel
theorem dX7_goYears_104 : decode cX7_goYears 104 = .ok (.aload_n 0, 1) := by decide +kernel
theorem dX7_goYears_105 : decode cX7_goYears 105 = .ok (.iload_n 3, 1) := by decide +kernel
theorem dX7_goYears_106 : decode cX7_goYears 106 = .ok (.iload 4, 2) := by decide +kernel
theorem dX7_goYears_108 : decode cX7_goYears 108 = .ok (.bipush 65, 2) := by decide +kernel
theorem dX7_goYears_110 : decode cX7_goYears 110 = .ok (.isub, 1) := by decide +kernel
theorem dX7_goYears_111 : decode cX7_goYears 111 = .ok (.invokevirtual 121, 3) := by decide +kernel
theorem dX7_goYears_114 : decode cX7_goYears 114 = .ok (.putfield 114, 3) := by decide +kernel
theorem dX7_goYears_117 : decode cX7_goYears 117 = .ok (.aload_n 0, 1) := by decide +kernel
theorem dX7_goYears_118 : decode cX7_goYears 118 = .ok (.getfield 114, 3) := by decide +kernel
theorem dX7_goYears_121 : decode cX7_goYears 121 = .ok (.ifCond .ne 99, 3) := by decide +kernel
theorem dX7_goYears_124 : decode cX7_goYears 124 = .ok (.aload_n 0, 1) := by decide +kernel
theorem dX7_goYears_125 : decode cX7_goYears 125 = .ok (.iload_n 3, 1) := by decide +kernel
theorem dX7_goYears_126 : decode cX7_goYears 126 = .ok (.iload 4, 2) := by decide +kernel
theorem dX7_goYears_128 : decode cX7_goYears 128 = .ok (.bipush 65, 2) := by decide +kernel
theorem dX7_goYears_130 : decode cX7_goYears 130 = .ok (.isub, 1) := by decide +kernel
theorem dX7_goYears_131 : decode cX7_goYears 131 = .ok (.invokevirtual 125, 3) := by decide +kernel
theorem dX7_goYears_134 : decode cX7_goYears 134 = .ok (.goto 86, 3) := by decide +kernel
theorem dX7_goYears_137 : decode cX7_goYears 137 = .ok (.aload_n 0, 1) := by decide +kernel
theorem dX7_goYears_138 : decode cX7_goYears 138 = .ok (.aload_n 0, 1) := by decide +kernel
theorem dX7_goYears_139 : decode cX7_goYears 139 = .ok (.iload_n 3, 1) := by decide +kernel
theorem dX7_goYears_140 : decode cX7_goYears 140 = .ok (.iload 4, 2) := by decide +kernel
theorem dX7_goYears_142 : decode cX7_goYears 142 = .ok (.invokevirtual 129, 3) := by decide +kernel
theorem dX7_goYears_145 : decode cX7_goYears 145 = .ok (.putfield 114, 3) := by decide +kernel
theorem dX7_goYears_148 : decode cX7_goYears 148 = .ok (.aload_n 0, 1) := by decide +kernel
theorem dX7_goYears_149 : decode cX7_goYears 149 = .ok (.getfield 38, 3) := by decide +kernel
theorem dX7_goYears_152 : decode cX7_goYears 152 = .ok (.iload_n 3, 1) := by decide +kernel
theorem dX7_goYears_153 : decode cX7_goYears 153 = .ok (.aload_n 0, 1) := by decide +kernel
theorem dX7_goYears_154 : decode cX7_goYears 154 = .ok (.getfield 114, 3) := by decide +kernel
theorem dX7_goYears_157 : decode cX7_goYears 157 = .ok (.ifCond .ne 15, 3) := by decide +kernel
theorem dX7_goYears_160 : decode cX7_goYears 160 = .ok (.iload 4, 2) := by decide +kernel
theorem dX7_goYears_162 : decode cX7_goYears 162 = .ok (.bipush 100, 2) := by decide +kernel
theorem dX7_goYears_164 : decode cX7_goYears 164 = .ok (.if_icmp .ne 8, 3) := by decide +kernel
theorem dX7_goYears_167 : decode cX7_goYears 167 = .ok (.bipush (-6), 2) := by decide +kernel
theorem dX7_goYears_169 : decode cX7_goYears 169 = .ok (.goto 9, 3) := by decide +kernel
theorem dX7_goYears_172 : decode cX7_goYears 172 = .ok (.aload_n 0, 1) := by decide +kernel
theorem dX7_goYears_173 : decode cX7_goYears 173 = .ok (.getfield 38, 3) := by decide +kernel
theorem dX7_goYears_176 : decode cX7_goYears 176 = .ok (.iload_n 3, 1) := by decide +kernel
theorem dX7_goYears_177 : decode cX7_goYears 177 = .ok (.iaload, 1) := by decide +kernel
theorem dX7_goYears_178 : decode cX7_goYears 178 = .ok (.iastore, 1) := by decide +kernel
theorem dX7_goYears_179 : decode cX7_goYears 179 = .ok (.aload_n 0, 1) := by decide +kernel
theorem dX7_goYears_180 : decode cX7_goYears 180 = .ok (.getfield 44, 3) := by decide +kernel
theorem dX7_goYears_183 : decode cX7_goYears 183 = .ok (.iload_n 3, 1) := by decide +kernel
theorem dX7_goYears_184 : decode cX7_goYears 184 = .ok (.aload_n 0, 1) := by decide +kernel
theorem dX7_goYears_185 : decode cX7_goYears 185 = .ok (.getfield 114, 3) := by decide +kernel
theorem dX7_goYears_188 : decode cX7_goYears 188 = .ok (.ifCond .gt 10, 3) := by decide +kernel
theorem dX7_goYears_191 : decode cX7_goYears 191 = .ok (.iload 4, 2) := by decide +kernel
theorem dX7_goYears_193 : decode cX7_goYears 193 = .ok (.bipush 100, 2) := by decide +kernel
theorem dX7_goYears_195 : decode cX7_goYears 195 = .ok (.if_icmp .ne 12, 3) := by decide +kernel
theorem dX7_goYears_198 : decode cX7_goYears 198 = .ok (.aload_n 0, 1) := by decide +kernel
theorem dX7_goYears_199 : decode cX7_goYears 199 = .ok (.getfield 44, 3) := by decide +kernel
theorem dX7_goYears_202 : decode cX7_goYears 202 = .ok (.iload_n 3, 1) := by decide +kernel
theorem dX7_goYears_203 : decode cX7_goYears 203 = .ok (.iaload, 1) := by decide +kernel
theorem dX7_goYears_204 : decode cX7_goYears 204 = .ok (.goto 15, 3) := by decide +kernel
theorem dX7_goYears_207 : decode cX7_goYears 207 = .ok (.iload 4, 2) := by decide +kernel
theorem dX7_goYears_209 : decode cX7_goYears 209 = .ok (.bipush 115, 2) := by decide +kernel
theorem dX7_goYears_211 : decode cX7_goYears 211 = .ok (.if_icmp .ne 7, 3) := by decide +kernel
theorem dX7_goYears_214 : decode cX7_goYears 214 = .ok (.iconst 1, 1) := by decide +kernel
theorem dX7_goYears_215 : decode cX7_goYears 215 = .ok (.goto 4, 3) := by decide +kernel
theorem dX7_goYears_218 : decode cX7_goYears 218 = .ok (.iconst 2, 1) := by decide +kernel
theorem dX7_goYears_219 : decode cX7_goYears 219 = .ok (.iastore, 1) := by decide +kernel
theorem dX7_goYears_220 : decode cX7_goYears 220 = .ok (.iinc 1 2, 3) := by decide +kernel
theorem dX7_goYears_223 : decode cX7_goYears 223 = .ok (.aload_n 0, 1) := by decide +kernel
theorem dX7_goYears_224 : decode cX7_goYears 224 = .ok (.getfield 114, 3) := by decide +kernel
theorem dX7_goYears_227 : decode cX7_goYears 227 = .ok (.ifCond .le 8, 3) := by decide +kernel
theorem dX7_goYears_230 : decode cX7_goYears 230 = .ok (.aload_n 0, 1) := by decide +kernel
theorem dX7_goYears_231 : decode cX7_goYears 231 = .ok (.getfield 111, 3) := by decide +kernel
theorem dX7_goYears_234 : decode cX7_goYears 234 = .ok (.ireturn, 1) := by decide +kernel
theorem dX7_goYears_235 : decode cX7_goYears 235 = .ok (.aload_n 0, 1) := by decide +kernel
theorem dX7_goYears_236 : decode cX7_goYears 236 = .ok (.dup, 1) := by decide +kernel
theorem dX7_goYears_237 : decode cX7_goYears 237 = .ok (.getfield 111, 3) := by decide +kernel
theorem dX7_goYears_240 : decode cX7_goYears 240 = .ok (.iconst 1, 1) := by decide +kernel
theorem dX7_goYears_241 : decode cX7_goYears 241 = .ok (.iadd, 1) := by decide +kernel
theorem dX7_goYears_242 : decode cX7_goYears 242 = .ok (.putfield 111, 3) := by decide +kernel
theorem dX7_goYears_245 : decode cX7_goYears 245 = .ok (.goto (-234), 3) := by decide +kernel
theorem dX7_goYears_248 : decode cX7_goYears 248 = .ok (.bipush (-6), 2) := by decide +kernel
theorem dX7_goYears_250 : decode cX7_goYears 250 = .ok (.ireturn, 1) := by decide +kernel
theorem dX7_judge_0 : decode cX7_judge 0 = .ok (.iload_n 1, 1) := by decide +kernel
theorem dX7_judge_1 : decode cX7_judge 1 = .ok (.iconst 0, 1) := by decide +kernel
theorem dX7_judge_2 : decode cX7_judge 2 = .ok (.iconst 1, 1) := by decide +kernel
theorem dX7_judge_3 : decode cX7_judge 3 = .ok (.invokestatic 78, 3) := by decide +kernel
theorem dX7_judge_6 : decode cX7_judge 6 = .ok (.ifCond .ne 6, 3) := by decide +kernel
theorem dX7_judge_9 : decode cX7_judge 9 = .ok (.bipush (-2), 2) := by decide +kernel
theorem dX7_judge_11 : decode cX7_judge 11 = .ok (.ireturn, 1) := by decide +kernel
theorem dX7_judge_12 : decode cX7_judge 12 = .ok (.aload_n 0, 1) := by decide +kernel
theorem dX7_judge_13 : decode cX7_judge 13 = .ok (.invokevirtual 92, 3) := by decide +kernel
theorem dX7_judge_16 : decode cX7_judge 16 = .ok (.ifCond .lt 6, 3) := by decide +kernel
theorem dX7_judge_19 : decode cX7_judge 19 = .ok (.bipush (-5), 2) := by decide +kernel
theorem dX7_judge_21 : decode cX7_judge 21 = .ok (.ireturn, 1) := by decide +kernel
theorem dX7_judge_22 : decode cX7_judge 22 = .ok (.aload_n 0, 1) := by decide +kernel
theorem dX7_judge_23 : decode cX7_judge 23 = .ok (.invokevirtual 132, 3) := by decide +kernel
theorem dX7_judge_26 : decode cX7_judge 26 = .ok (.istore_n 2, 1) := by decide +kernel
theorem dX7_judge_27 : decode cX7_judge 27 = .ok (.iload_n 2, 1) := by decide +kernel
theorem dX7_judge_28 : decode cX7_judge 28 = .ok (.ifCond .lt 7, 3) := by decide +kernel
theorem dX7_judge_31 : decode cX7_judge 31 = .ok (.iload_n 1, 1) := by decide +kernel
theorem dX7_judge_32 : decode cX7_judge 32 = .ok (.ifCond .ne 7, 3) := by decide +kernel
theorem dX7_judge_35 : decode cX7_judge 35 = .ok (.iload_n 2, 1) := by decide +kernel
theorem dX7_judge_36 : decode cX7_judge 36 = .ok (.goto 7, 3) := by decide +kernel
theorem dX7_judge_39 : decode cX7_judge 39 = .ok (.aload_n 0, 1) := by decide +kernel
theorem dX7_judge_40 : decode cX7_judge 40 = .ok (.getfield 114, 3) := by decide +kernel
theorem dX7_judge_43 : decode cX7_judge 43 = .ok (.ireturn, 1) := by decide +kernel
theorem dX7_barOfYears_0 : decode cX7_barOfYears 0 = .ok (.aload_n 0, 1) := by decide +kernel
theorem dX7_barOfYears_1 : decode cX7_barOfYears 1 = .ok (.invokevirtual 92, 3) := by decide +kernel
theorem dX7_barOfYears_4 : decode cX7_barOfYears 4 = .ok (.ifCond .ge 10, 3) := by decide +kernel
theorem dX7_barOfYears_7 : decode cX7_barOfYears 7 = .ok (.aload_n 0, 1) := by decide +kernel
theorem dX7_barOfYears_8 : decode cX7_barOfYears 8 = .ok (.invokevirtual 132, 3) := by decide +kernel
theorem dX7_barOfYears_11 : decode cX7_barOfYears 11 = .ok (.ifCond .lt 8, 3) := by decide +kernel
theorem dX7_barOfYears_14 : decode cX7_barOfYears 14 = .ok (.bipush (-5), 2) := by decide +kernel
theorem dX7_barOfYears_16 : decode cX7_barOfYears 16 = .ok (.goto 4, 3) := by decide +kernel
theorem dX7_barOfYears_19 : decode cX7_barOfYears 19 = .ok (.iconst 0, 1) := by decide +kernel
theorem dX7_barOfYears_20 : decode cX7_barOfYears 20 = .ok (.ireturn, 1) := by decide +kernel
theorem dX7_done_0 : decode cX7_done 0 = .ok (.aload_n 0, 1) := by decide +kernel
theorem dX7_done_1 : decode cX7_done 1 = .ok (.invokevirtual 135, 3) := by decide +kernel
theorem dX7_done_4 : decode cX7_done 4 = .ok (.ifCond .ge 6, 3) := by decide +kernel
theorem dX7_done_7 : decode cX7_done 7 = .ok (.bipush (-5), 2) := by decide +kernel
theorem dX7_done_9 : decode cX7_done 9 = .ok (.ireturn, 1) := by decide +kernel
theorem dX7_done_10 : decode cX7_done 10 = .ok (.aload_n 0, 1) := by decide +kernel
theorem dX7_done_11 : decode cX7_done 11 = .ok (.aload_n 0, 1) := by decide +kernel
theorem dX7_done_12 : decode cX7_done 12 = .ok (.getfield 96, 3) := by decide +kernel
theorem dX7_done_15 : decode cX7_done 15 = .ok (.putfield 66, 3) := by decide +kernel
theorem dX7_done_18 : decode cX7_done 18 = .ok (.aload_n 0, 1) := by decide +kernel
theorem dX7_done_19 : decode cX7_done 19 = .ok (.aload_n 0, 1) := by decide +kernel
theorem dX7_done_20 : decode cX7_done 20 = .ok (.getfield 99, 3) := by decide +kernel
theorem dX7_done_23 : decode cX7_done 23 = .ok (.putfield 69, 3) := by decide +kernel
theorem dX7_done_26 : decode cX7_done 26 = .ok (.aload_n 0, 1) := by decide +kernel
theorem dX7_done_27 : decode cX7_done 27 = .ok (.aload_n 0, 1) := by decide +kernel
theorem dX7_done_28 : decode cX7_done 28 = .ok (.getfield 102, 3) := by decide +kernel
theorem dX7_done_31 : decode cX7_done 31 = .ok (.putfield 72, 3) := by decide +kernel
theorem dX7_done_34 : decode cX7_done 34 = .ok (.iconst 0, 1) := by decide +kernel
theorem dX7_done_35 : decode cX7_done 35 = .ok (.istore_n 1, 1) := by decide +kernel
theorem dX7_done_36 : decode cX7_done 36 = .ok (.iload_n 1, 1) := by decide +kernel
theorem dX7_done_37 : decode cX7_done 37 = .ok (.bipush 6, 2) := by decide +kernel
theorem dX7_done_39 : decode cX7_done 39 = .ok (.if_icmp .ge 45, 3) := by decide +kernel
theorem dX7_done_42 : decode cX7_done 42 = .ok (.aload_n 0, 1) := by decide +kernel
theorem dX7_done_43 : decode cX7_done 43 = .ok (.getfield 16, 3) := by decide +kernel
theorem dX7_done_46 : decode cX7_done 46 = .ok (.iload_n 1, 1) := by decide +kernel
theorem dX7_done_47 : decode cX7_done 47 = .ok (.aload_n 0, 1) := by decide +kernel
theorem dX7_done_48 : decode cX7_done 48 = .ok (.getfield 38, 3) := by decide +kernel
theorem dX7_done_51 : decode cX7_done 51 = .ok (.iload_n 1, 1) := by decide +kernel
theorem dX7_done_52 : decode cX7_done 52 = .ok (.iaload, 1) := by decide +kernel
theorem dX7_done_53 : decode cX7_done 53 = .ok (.iastore, 1) := by decide +kernel
theorem dX7_done_54 : decode cX7_done 54 = .ok (.aload_n 0, 1) := by decide +kernel
theorem dX7_done_55 : decode cX7_done 55 = .ok (.getfield 20, 3) := by decide +kernel
theorem dX7_done_58 : decode cX7_done 58 = .ok (.iload_n 1, 1) := by decide +kernel
theorem dX7_done_59 : decode cX7_done 59 = .ok (.aload_n 0, 1) := by decide +kernel
theorem dX7_done_60 : decode cX7_done 60 = .ok (.getfield 41, 3) := by decide +kernel
theorem dX7_done_63 : decode cX7_done 63 = .ok (.iload_n 1, 1) := by decide +kernel
theorem dX7_done_64 : decode cX7_done 64 = .ok (.iaload, 1) := by decide +kernel
theorem dX7_done_65 : decode cX7_done 65 = .ok (.iastore, 1) := by decide +kernel
theorem dX7_done_66 : decode cX7_done 66 = .ok (.aload_n 0, 1) := by decide +kernel
theorem dX7_done_67 : decode cX7_done 67 = .ok (.getfield 23, 3) := by decide +kernel
theorem dX7_done_70 : decode cX7_done 70 = .ok (.iload_n 1, 1) := by decide +kernel
theorem dX7_done_71 : decode cX7_done 71 = .ok (.aload_n 0, 1) := by decide +kernel
theorem dX7_done_72 : decode cX7_done 72 = .ok (.getfield 44, 3) := by decide +kernel
theorem dX7_done_75 : decode cX7_done 75 = .ok (.iload_n 1, 1) := by decide +kernel
theorem dX7_done_76 : decode cX7_done 76 = .ok (.iaload, 1) := by decide +kernel
theorem dX7_done_77 : decode cX7_done 77 = .ok (.iastore, 1) := by decide +kernel
theorem dX7_done_78 : decode cX7_done 78 = .ok (.iinc 1 1, 3) := by decide +kernel
theorem dX7_done_81 : decode cX7_done 81 = .ok (.goto (-45), 3) := by decide +kernel
theorem dX7_done_84 : decode cX7_done 84 = .ok (.aload_n 0, 1) := by decide +kernel
theorem dX7_done_85 : decode cX7_done 85 = .ok (.iconst 0, 1) := by decide +kernel
theorem dX7_done_86 : decode cX7_done 86 = .ok (.putfield 86, 3) := by decide +kernel
theorem dX7_done_89 : decode cX7_done 89 = .ok (.aload_n 0, 1) := by decide +kernel
theorem dX7_done_90 : decode cX7_done 90 = .ok (.getfield 111, 3) := by decide +kernel
theorem dX7_done_93 : decode cX7_done 93 = .ok (.ireturn, 1) := by decide +kernel
theorem dX7_state_0 : decode cX7_state 0 = .ok (.aload_n 0, 1) := by decide +kernel
theorem dX7_state_1 : decode cX7_state 1 = .ok (.iload_n 1, 1) := by decide +kernel
theorem dX7_state_2 : decode cX7_state 2 = .ok (.invokevirtual 82, 3) := by decide +kernel
theorem dX7_state_5 : decode cX7_state 5 = .ok (.ifCond .ne 5, 3) := by decide +kernel
theorem dX7_state_8 : decode cX7_state 8 = .ok (.iconst (-1), 1) := by decide +kernel
theorem dX7_state_9 : decode cX7_state 9 = .ok (.ireturn, 1) := by decide +kernel
theorem dX7_state_10 : decode cX7_state 10 = .ok (.iload_n 2, 1) := by decide +kernel
theorem dX7_state_11 : decode cX7_state 11 = .ok (.ifCond .ne 12, 3) := by decide +kernel
theorem dX7_state_14 : decode cX7_state 14 = .ok (.aload_n 0, 1) := by decide +kernel
theorem dX7_state_15 : decode cX7_state 15 = .ok (.getfield 16, 3) := by decide +kernel
theorem dX7_state_18 : decode cX7_state 18 = .ok (.iload_n 1, 1) := by decide +kernel
theorem dX7_state_19 : decode cX7_state 19 = .ok (.iaload, 1) := by decide +kernel
theorem dX7_state_20 : decode cX7_state 20 = .ok (.goto 33, 3) := by decide +kernel
theorem dX7_state_23 : decode cX7_state 23 = .ok (.iload_n 2, 1) := by decide +kernel
theorem dX7_state_24 : decode cX7_state 24 = .ok (.iconst 1, 1) := by decide +kernel
theorem dX7_state_25 : decode cX7_state 25 = .ok (.if_icmp .ne 12, 3) := by decide +kernel
theorem dX7_state_28 : decode cX7_state 28 = .ok (.aload_n 0, 1) := by decide +kernel
theorem dX7_state_29 : decode cX7_state 29 = .ok (.getfield 20, 3) := by decide +kernel
theorem dX7_state_32 : decode cX7_state 32 = .ok (.iload_n 1, 1) := by decide +kernel
theorem dX7_state_33 : decode cX7_state 33 = .ok (.iaload, 1) := by decide +kernel
theorem dX7_state_34 : decode cX7_state 34 = .ok (.goto 19, 3) := by decide +kernel
theorem dX7_state_37 : decode cX7_state 37 = .ok (.iload_n 2, 1) := by decide +kernel
theorem dX7_state_38 : decode cX7_state 38 = .ok (.iconst 2, 1) := by decide +kernel
theorem dX7_state_39 : decode cX7_state 39 = .ok (.if_icmp .ne 12, 3) := by decide +kernel
theorem dX7_state_42 : decode cX7_state 42 = .ok (.aload_n 0, 1) := by decide +kernel
theorem dX7_state_43 : decode cX7_state 43 = .ok (.getfield 23, 3) := by decide +kernel
theorem dX7_state_46 : decode cX7_state 46 = .ok (.iload_n 1, 1) := by decide +kernel
theorem dX7_state_47 : decode cX7_state 47 = .ok (.iaload, 1) := by decide +kernel
theorem dX7_state_48 : decode cX7_state 48 = .ok (.goto 5, 3) := by decide +kernel
theorem dX7_state_51 : decode cX7_state 51 = .ok (.bipush (-2), 2) := by decide +kernel
theorem dX7_state_53 : decode cX7_state 53 = .ok (.ireturn, 1) := by decide +kernel
theorem dX7_behind_0 : decode cX7_behind 0 = .ok (.aload_n 0, 1) := by decide +kernel
theorem dX7_behind_1 : decode cX7_behind 1 = .ok (.iload_n 1, 1) := by decide +kernel
theorem dX7_behind_2 : decode cX7_behind 2 = .ok (.invokevirtual 82, 3) := by decide +kernel
theorem dX7_behind_5 : decode cX7_behind 5 = .ok (.ifCond .ne 5, 3) := by decide +kernel
theorem dX7_behind_8 : decode cX7_behind 8 = .ok (.iconst (-1), 1) := by decide +kernel
theorem dX7_behind_9 : decode cX7_behind 9 = .ok (.ireturn, 1) := by decide +kernel
theorem dX7_behind_10 : decode cX7_behind 10 = .ok (.iload_n 2, 1) := by decide +kernel
theorem dX7_behind_11 : decode cX7_behind 11 = .ok (.iconst 0, 1) := by decide +kernel
theorem dX7_behind_12 : decode cX7_behind 12 = .ok (.iconst 2, 1) := by decide +kernel
theorem dX7_behind_13 : decode cX7_behind 13 = .ok (.invokestatic 78, 3) := by decide +kernel
theorem dX7_behind_16 : decode cX7_behind 16 = .ok (.ifCond .ne 6, 3) := by decide +kernel
theorem dX7_behind_19 : decode cX7_behind 19 = .ok (.bipush (-2), 2) := by decide +kernel
theorem dX7_behind_21 : decode cX7_behind 21 = .ok (.ireturn, 1) := by decide +kernel
theorem dX7_behind_22 : decode cX7_behind 22 = .ok (.aload_n 0, 1) := by decide +kernel
theorem dX7_behind_23 : decode cX7_behind 23 = .ok (.invokevirtual 135, 3) := by decide +kernel
theorem dX7_behind_26 : decode cX7_behind 26 = .ok (.ifCond .ge 6, 3) := by decide +kernel
theorem dX7_behind_29 : decode cX7_behind 29 = .ok (.bipush (-5), 2) := by decide +kernel
theorem dX7_behind_31 : decode cX7_behind 31 = .ok (.ireturn, 1) := by decide +kernel
theorem dX7_behind_32 : decode cX7_behind 32 = .ok (.iload_n 2, 1) := by decide +kernel
theorem dX7_behind_33 : decode cX7_behind 33 = .ok (.ifCond .ne 12, 3) := by decide +kernel
theorem dX7_behind_36 : decode cX7_behind 36 = .ok (.aload_n 0, 1) := by decide +kernel
theorem dX7_behind_37 : decode cX7_behind 37 = .ok (.getfield 38, 3) := by decide +kernel
theorem dX7_behind_40 : decode cX7_behind 40 = .ok (.iload_n 1, 1) := by decide +kernel
theorem dX7_behind_41 : decode cX7_behind 41 = .ok (.iaload, 1) := by decide +kernel
theorem dX7_behind_42 : decode cX7_behind 42 = .ok (.goto 23, 3) := by decide +kernel
theorem dX7_behind_45 : decode cX7_behind 45 = .ok (.iload_n 2, 1) := by decide +kernel
theorem dX7_behind_46 : decode cX7_behind 46 = .ok (.iconst 1, 1) := by decide +kernel
theorem dX7_behind_47 : decode cX7_behind 47 = .ok (.if_icmp .ne 12, 3) := by decide +kernel
theorem dX7_behind_50 : decode cX7_behind 50 = .ok (.aload_n 0, 1) := by decide +kernel
theorem dX7_behind_51 : decode cX7_behind 51 = .ok (.getfield 41, 3) := by decide +kernel
theorem dX7_behind_54 : decode cX7_behind 54 = .ok (.iload_n 1, 1) := by decide +kernel
theorem dX7_behind_55 : decode cX7_behind 55 = .ok (.iaload, 1) := by decide +kernel
theorem dX7_behind_56 : decode cX7_behind 56 = .ok (.goto 9, 3) := by decide +kernel
theorem dX7_behind_59 : decode cX7_behind 59 = .ok (.aload_n 0, 1) := by decide +kernel
theorem dX7_behind_60 : decode cX7_behind 60 = .ok (.getfield 47, 3) := by decide +kernel
theorem dX7_behind_63 : decode cX7_behind 63 = .ok (.iload_n 1, 1) := by decide +kernel
theorem dX7_behind_64 : decode cX7_behind 64 = .ok (.iaload, 1) := by decide +kernel
theorem dX7_behind_65 : decode cX7_behind 65 = .ok (.ireturn, 1) := by decide +kernel
theorem dX7_day_0 : decode cX7_day 0 = .ok (.aload_n 0, 1) := by decide +kernel
theorem dX7_day_1 : decode cX7_day 1 = .ok (.invokevirtual 135, 3) := by decide +kernel
theorem dX7_day_4 : decode cX7_day 4 = .ok (.ifCond .ge 8, 3) := by decide +kernel
theorem dX7_day_7 : decode cX7_day 7 = .ok (.bipush (-5), 2) := by decide +kernel
theorem dX7_day_9 : decode cX7_day 9 = .ok (.goto 7, 3) := by decide +kernel
theorem dX7_day_12 : decode cX7_day 12 = .ok (.aload_n 0, 1) := by decide +kernel
theorem dX7_day_13 : decode cX7_day 13 = .ok (.getfield 96, 3) := by decide +kernel
theorem dX7_day_16 : decode cX7_day 16 = .ok (.ireturn, 1) := by decide +kernel
theorem dX7_whereBehind_0 : decode cX7_whereBehind 0 = .ok (.aload_n 0, 1) := by decide +kernel
theorem dX7_whereBehind_1 : decode cX7_whereBehind 1 = .ok (.getfield 16, 3) := by decide +kernel
theorem dX7_whereBehind_4 : decode cX7_whereBehind 4 = .ok (.iload_n 1, 1) := by decide +kernel
theorem dX7_whereBehind_5 : decode cX7_whereBehind 5 = .ok (.iaload, 1) := by decide +kernel
theorem dX7_whereBehind_6 : decode cX7_whereBehind 6 = .ok (.ifCond .ge 6, 3) := by decide +kernel
theorem dX7_whereBehind_9 : decode cX7_whereBehind 9 = .ok (.bipush (-6), 2) := by decide +kernel
theorem dX7_whereBehind_11 : decode cX7_whereBehind 11 = .ok (.ireturn, 1) := by decide +kernel
theorem dX7_whereBehind_12 : decode cX7_whereBehind 12 = .ok (.aload_n 0, 1) := by decide +kernel
theorem dX7_whereBehind_13 : decode cX7_whereBehind 13 = .ok (.getfield 23, 3) := by decide +kernel
theorem dX7_whereBehind_16 : decode cX7_whereBehind 16 = .ok (.iload_n 1, 1) := by decide +kernel
theorem dX7_whereBehind_17 : decode cX7_whereBehind 17 = .ok (.iaload, 1) := by decide +kernel
theorem dX7_whereBehind_18 : decode cX7_whereBehind 18 = .ok (.iconst 2, 1) := by decide +kernel
theorem dX7_whereBehind_19 : decode cX7_whereBehind 19 = .ok (.if_icmp .ne 7, 3) := by decide +kernel
theorem dX7_whereBehind_22 : decode cX7_whereBehind 22 = .ok (.iconst 0, 1) := by decide +kernel
theorem dX7_whereBehind_23 : decode cX7_whereBehind 23 = .ok (.goto 24, 3) := by decide +kernel
theorem dX7_whereBehind_26 : decode cX7_whereBehind 26 = .ok (.aload_n 0, 1) := by decide +kernel
theorem dX7_whereBehind_27 : decode cX7_whereBehind 27 = .ok (.getfield 23, 3) := by decide +kernel
theorem dX7_whereBehind_30 : decode cX7_whereBehind 30 = .ok (.iload_n 1, 1) := by decide +kernel
theorem dX7_whereBehind_31 : decode cX7_whereBehind 31 = .ok (.iaload, 1) := by decide +kernel
theorem dX7_whereBehind_32 : decode cX7_whereBehind 32 = .ok (.iconst 1, 1) := by decide +kernel
theorem dX7_whereBehind_33 : decode cX7_whereBehind 33 = .ok (.if_icmp .ne 13, 3) := by decide +kernel
theorem dX7_whereBehind_36 : decode cX7_whereBehind 36 = .ok (.iload_n 2, 1) := by decide +kernel
theorem dX7_whereBehind_37 : decode cX7_whereBehind 37 = .ok (.ifCond .le 9, 3) := by decide +kernel
theorem dX7_whereBehind_40 : decode cX7_whereBehind 40 = .ok (.iload_n 2, 1) := by decide +kernel
theorem dX7_whereBehind_41 : decode cX7_whereBehind 41 = .ok (.iconst 1, 1) := by decide +kernel
theorem dX7_whereBehind_42 : decode cX7_whereBehind 42 = .ok (.isub, 1) := by decide +kernel
theorem dX7_whereBehind_43 : decode cX7_whereBehind 43 = .ok (.goto 4, 3) := by decide +kernel
theorem dX7_whereBehind_46 : decode cX7_whereBehind 46 = .ok (.iload_n 2, 1) := by decide +kernel
theorem dX7_whereBehind_47 : decode cX7_whereBehind 47 = .ok (.istore_n 3, 1) := by decide +kernel
theorem dX7_whereBehind_48 : decode cX7_whereBehind 48 = .ok (.aload_n 0, 1) := by decide +kernel
theorem dX7_whereBehind_49 : decode cX7_whereBehind 49 = .ok (.getfield 16, 3) := by decide +kernel
theorem dX7_whereBehind_52 : decode cX7_whereBehind 52 = .ok (.iload_n 1, 1) := by decide +kernel
theorem dX7_whereBehind_53 : decode cX7_whereBehind 53 = .ok (.iaload, 1) := by decide +kernel
theorem dX7_whereBehind_54 : decode cX7_whereBehind 54 = .ok (.iload_n 1, 1) := by decide +kernel
theorem dX7_whereBehind_55 : decode cX7_whereBehind 55 = .ok (.isub, 1) := by decide +kernel
theorem dX7_whereBehind_56 : decode cX7_whereBehind 56 = .ok (.aload_n 0, 1) := by decide +kernel
theorem dX7_whereBehind_57 : decode cX7_whereBehind 57 = .ok (.getfield 7, 3) := by decide +kernel
theorem dX7_whereBehind_60 : decode cX7_whereBehind 60 = .ok (.iadd, 1) := by decide +kernel
theorem dX7_whereBehind_61 : decode cX7_whereBehind 61 = .ok (.aload_n 0, 1) := by decide +kernel
theorem dX7_whereBehind_62 : decode cX7_whereBehind 62 = .ok (.getfield 7, 3) := by decide +kernel
theorem dX7_whereBehind_65 : decode cX7_whereBehind 65 = .ok (.irem, 1) := by decide +kernel
theorem dX7_whereBehind_66 : decode cX7_whereBehind 66 = .ok (.istore 4, 2) := by decide +kernel
theorem dX7_whereBehind_68 : decode cX7_whereBehind 68 = .ok (.iload_n 1, 1) := by decide +kernel
theorem dX7_whereBehind_69 : decode cX7_whereBehind 69 = .ok (.iconst 1, 1) := by decide +kernel
theorem dX7_whereBehind_70 : decode cX7_whereBehind 70 = .ok (.iadd, 1) := by decide +kernel
theorem dX7_whereBehind_71 : decode cX7_whereBehind 71 = .ok (.iload 4, 2) := by decide +kernel
theorem dX7_whereBehind_73 : decode cX7_whereBehind 73 = .ok (.iconst 1, 1) := by decide +kernel
theorem dX7_whereBehind_74 : decode cX7_whereBehind 74 = .ok (.isub, 1) := by decide +kernel
theorem dX7_whereBehind_75 : decode cX7_whereBehind 75 = .ok (.iload_n 3, 1) := by decide +kernel
theorem dX7_whereBehind_76 : decode cX7_whereBehind 76 = .ok (.iadd, 1) := by decide +kernel
theorem dX7_whereBehind_77 : decode cX7_whereBehind 77 = .ok (.aload_n 0, 1) := by decide +kernel
theorem dX7_whereBehind_78 : decode cX7_whereBehind 78 = .ok (.getfield 7, 3) := by decide +kernel
theorem dX7_whereBehind_81 : decode cX7_whereBehind 81 = .ok (.iconst 1, 1) := by decide +kernel
theorem dX7_whereBehind_82 : decode cX7_whereBehind 82 = .ok (.isub, 1) := by decide +kernel
theorem dX7_whereBehind_83 : decode cX7_whereBehind 83 = .ok (.irem, 1) := by decide +kernel
theorem dX7_whereBehind_84 : decode cX7_whereBehind 84 = .ok (.iadd, 1) := by decide +kernel
theorem dX7_whereBehind_85 : decode cX7_whereBehind 85 = .ok (.aload_n 0, 1) := by decide +kernel
theorem dX7_whereBehind_86 : decode cX7_whereBehind 86 = .ok (.getfield 7, 3) := by decide +kernel
theorem dX7_whereBehind_89 : decode cX7_whereBehind 89 = .ok (.irem, 1) := by decide +kernel
theorem dX7_whereBehind_90 : decode cX7_whereBehind 90 = .ok (.ireturn, 1) := by decide +kernel
theorem dX7_equinoxes_0 : decode cX7_equinoxes 0 = .ok (.aload_n 0, 1) := by decide +kernel
theorem dX7_equinoxes_1 : decode cX7_equinoxes 1 = .ok (.getfield 72, 3) := by decide +kernel
theorem dX7_equinoxes_4 : decode cX7_equinoxes 4 = .ok (.iload_n 1, 1) := by decide +kernel
theorem dX7_equinoxes_5 : decode cX7_equinoxes 5 = .ok (.iadd, 1) := by decide +kernel
theorem dX7_equinoxes_6 : decode cX7_equinoxes 6 = .ok (.aload_n 0, 1) := by decide +kernel
theorem dX7_equinoxes_7 : decode cX7_equinoxes 7 = .ok (.getfield 13, 3) := by decide +kernel
theorem dX7_equinoxes_10 : decode cX7_equinoxes 10 = .ok (.idiv, 1) := by decide +kernel
theorem dX7_equinoxes_11 : decode cX7_equinoxes 11 = .ok (.ireturn, 1) := by decide +kernel
theorem dX7_firstDay_0 : decode cX7_firstDay 0 = .ok (.iload_n 1, 1) := by decide +kernel
theorem dX7_firstDay_1 : decode cX7_firstDay 1 = .ok (.ifCond .ne 7, 3) := by decide +kernel
theorem dX7_firstDay_4 : decode cX7_firstDay 4 = .ok (.iconst 0, 1) := by decide +kernel
theorem dX7_firstDay_5 : decode cX7_firstDay 5 = .ok (.goto 14, 3) := by decide +kernel
theorem dX7_firstDay_8 : decode cX7_firstDay 8 = .ok (.iload_n 1, 1) := by decide +kernel
theorem dX7_firstDay_9 : decode cX7_firstDay 9 = .ok (.aload_n 0, 1) := by decide +kernel
theorem dX7_firstDay_10 : decode cX7_firstDay 10 = .ok (.getfield 13, 3) := by decide +kernel
theorem dX7_firstDay_13 : decode cX7_firstDay 13 = .ok (.imul, 1) := by decide +kernel
theorem dX7_firstDay_14 : decode cX7_firstDay 14 = .ok (.aload_n 0, 1) := by decide +kernel
theorem dX7_firstDay_15 : decode cX7_firstDay 15 = .ok (.getfield 72, 3) := by decide +kernel
theorem dX7_firstDay_18 : decode cX7_firstDay 18 = .ok (.isub, 1) := by decide +kernel
theorem dX7_firstDay_19 : decode cX7_firstDay 19 = .ok (.ireturn, 1) := by decide +kernel
theorem dX7_where_0 : decode cX7_where 0 = .ok (.aload_n 0, 1) := by decide +kernel
theorem dX7_where_1 : decode cX7_where 1 = .ok (.iload_n 1, 1) := by decide +kernel
theorem dX7_where_2 : decode cX7_where 2 = .ok (.invokevirtual 82, 3) := by decide +kernel
theorem dX7_where_5 : decode cX7_where 5 = .ok (.ifCond .ne 5, 3) := by decide +kernel
theorem dX7_where_8 : decode cX7_where 8 = .ok (.iconst (-1), 1) := by decide +kernel
theorem dX7_where_9 : decode cX7_where 9 = .ok (.ireturn, 1) := by decide +kernel
theorem dX7_where_10 : decode cX7_where 10 = .ok (.iload_n 2, 1) := by decide +kernel
theorem dX7_where_11 : decode cX7_where 11 = .ok (.iconst 0, 1) := by decide +kernel
theorem dX7_where_12 : decode cX7_where 12 = .ok (.sipush 9999, 3) := by decide +kernel
theorem dX7_where_15 : decode cX7_where 15 = .ok (.invokestatic 78, 3) := by decide +kernel
theorem dX7_where_18 : decode cX7_where 18 = .ok (.ifCond .eq 16, 3) := by decide +kernel
theorem dX7_where_21 : decode cX7_where 21 = .ok (.aload_n 0, 1) := by decide +kernel
theorem dX7_where_22 : decode cX7_where 22 = .ok (.iload_n 1, 1) := by decide +kernel
theorem dX7_where_23 : decode cX7_where 23 = .ok (.aload_n 0, 1) := by decide +kernel
theorem dX7_where_24 : decode cX7_where 24 = .ok (.iload_n 2, 1) := by decide +kernel
theorem dX7_where_25 : decode cX7_where 25 = .ok (.invokevirtual 138, 3) := by decide +kernel
theorem dX7_where_28 : decode cX7_where 28 = .ok (.invokevirtual 142, 3) := by decide +kernel
theorem dX7_where_31 : decode cX7_where 31 = .ok (.goto 5, 3) := by decide +kernel
theorem dX7_where_34 : decode cX7_where 34 = .ok (.bipush (-2), 2) := by decide +kernel
theorem dX7_where_36 : decode cX7_where 36 = .ok (.ireturn, 1) := by decide +kernel
theorem dX7_who_0 : decode cX7_who 0 = .ok (.aload_n 0, 1) := by decide +kernel
theorem dX7_who_1 : decode cX7_who 1 = .ok (.iload_n 1, 1) := by decide +kernel
theorem dX7_who_2 : decode cX7_who 2 = .ok (.invokevirtual 82, 3) := by decide +kernel
theorem dX7_who_5 : decode cX7_who 5 = .ok (.ifCond .ne 5, 3) := by decide +kernel
theorem dX7_who_8 : decode cX7_who 8 = .ok (.iconst (-1), 1) := by decide +kernel
theorem dX7_who_9 : decode cX7_who 9 = .ok (.ireturn, 1) := by decide +kernel
theorem dX7_who_10 : decode cX7_who 10 = .ok (.iload_n 2, 1) := by decide +kernel
theorem dX7_who_11 : decode cX7_who 11 = .ok (.iconst 0, 1) := by decide +kernel
theorem dX7_who_12 : decode cX7_who 12 = .ok (.sipush 9999, 3) := by decide +kernel
theorem dX7_who_15 : decode cX7_who 15 = .ok (.invokestatic 78, 3) := by decide +kernel
theorem dX7_who_18 : decode cX7_who 18 = .ok (.ifCond .ne 6, 3) := by decide +kernel
theorem dX7_who_21 : decode cX7_who 21 = .ok (.bipush (-2), 2) := by decide +kernel
theorem dX7_who_23 : decode cX7_who 23 = .ok (.ireturn, 1) := by decide +kernel
theorem dX7_who_24 : decode cX7_who 24 = .ok (.iconst 0, 1) := by decide +kernel
theorem dX7_who_25 : decode cX7_who 25 = .ok (.istore_n 3, 1) := by decide +kernel
theorem dX7_who_26 : decode cX7_who 26 = .ok (.iconst 0, 1) := by decide +kernel
theorem dX7_who_27 : decode cX7_who 27 = .ok (.istore 4, 2) := by decide +kernel
theorem dX7_who_29 : decode cX7_who 29 = .ok (.iload 4, 2) := by decide +kernel
theorem dX7_who_31 : decode cX7_who 31 = .ok (.aload_n 0, 1) := by decide +kernel
theorem dX7_who_32 : decode cX7_who 32 = .ok (.getfield 7, 3) := by decide +kernel
theorem dX7_who_35 : decode cX7_who 35 = .ok (.if_icmp .ge 35, 3) := by decide +kernel
theorem dX7_who_38 : decode cX7_who 38 = .ok (.iload_n 3, 1) := by decide +kernel
theorem dX7_who_39 : decode cX7_who 39 = .ok (.aload_n 0, 1) := by decide +kernel
theorem dX7_who_40 : decode cX7_who 40 = .ok (.iload 4, 2) := by decide +kernel
theorem dX7_who_42 : decode cX7_who 42 = .ok (.aload_n 0, 1) := by decide +kernel
theorem dX7_who_43 : decode cX7_who 43 = .ok (.iload_n 2, 1) := by decide +kernel
theorem dX7_who_44 : decode cX7_who 44 = .ok (.invokevirtual 138, 3) := by decide +kernel
theorem dX7_who_47 : decode cX7_who 47 = .ok (.invokevirtual 142, 3) := by decide +kernel
theorem dX7_who_50 : decode cX7_who 50 = .ok (.iload_n 1, 1) := by decide +kernel
theorem dX7_who_51 : decode cX7_who 51 = .ok (.if_icmp .ne 10, 3) := by decide +kernel
theorem dX7_who_54 : decode cX7_who 54 = .ok (.iconst 1, 1) := by decide +kernel
theorem dX7_who_55 : decode cX7_who 55 = .ok (.iload 4, 2) := by decide +kernel
theorem dX7_who_57 : decode cX7_who 57 = .ok (.ishl, 1) := by decide +kernel
theorem dX7_who_58 : decode cX7_who 58 = .ok (.goto 4, 3) := by decide +kernel
theorem dX7_who_61 : decode cX7_who 61 = .ok (.iconst 0, 1) := by decide +kernel
theorem dX7_who_62 : decode cX7_who 62 = .ok (.ior, 1) := by decide +kernel
theorem dX7_who_63 : decode cX7_who 63 = .ok (.istore_n 3, 1) := by decide +kernel
theorem dX7_who_64 : decode cX7_who 64 = .ok (.iinc 4 1, 3) := by decide +kernel
theorem dX7_who_67 : decode cX7_who 67 = .ok (.goto (-38), 3) := by decide +kernel
theorem dX7_who_70 : decode cX7_who 70 = .ok (.iload_n 3, 1) := by decide +kernel
theorem dX7_who_71 : decode cX7_who 71 = .ok (.ireturn, 1) := by decide +kernel
theorem dX7_areIn_0 : decode cX7_areIn 0 = .ok (.aload_n 0, 1) := by decide +kernel
theorem dX7_areIn_1 : decode cX7_areIn 1 = .ok (.getfield 16, 3) := by decide +kernel
theorem dX7_areIn_4 : decode cX7_areIn 4 = .ok (.iload_n 1, 1) := by decide +kernel
theorem dX7_areIn_5 : decode cX7_areIn 5 = .ok (.iaload, 1) := by decide +kernel
theorem dX7_areIn_6 : decode cX7_areIn 6 = .ok (.ifCond .lt 31, 3) := by decide +kernel
theorem dX7_areIn_9 : decode cX7_areIn 9 = .ok (.aload_n 0, 1) := by decide +kernel
theorem dX7_areIn_10 : decode cX7_areIn 10 = .ok (.getfield 16, 3) := by decide +kernel
theorem dX7_areIn_13 : decode cX7_areIn 13 = .ok (.iload_n 2, 1) := by decide +kernel
theorem dX7_areIn_14 : decode cX7_areIn 14 = .ok (.iaload, 1) := by decide +kernel
theorem dX7_areIn_15 : decode cX7_areIn 15 = .ok (.ifCond .lt 22, 3) := by decide +kernel
theorem dX7_areIn_18 : decode cX7_areIn 18 = .ok (.aload_n 0, 1) := by decide +kernel
theorem dX7_areIn_19 : decode cX7_areIn 19 = .ok (.iload_n 1, 1) := by decide +kernel
theorem dX7_areIn_20 : decode cX7_areIn 20 = .ok (.iload_n 3, 1) := by decide +kernel
theorem dX7_areIn_21 : decode cX7_areIn 21 = .ok (.invokevirtual 142, 3) := by decide +kernel
theorem dX7_areIn_24 : decode cX7_areIn 24 = .ok (.aload_n 0, 1) := by decide +kernel
theorem dX7_areIn_25 : decode cX7_areIn 25 = .ok (.iload_n 2, 1) := by decide +kernel
theorem dX7_areIn_26 : decode cX7_areIn 26 = .ok (.iload_n 3, 1) := by decide +kernel
theorem dX7_areIn_27 : decode cX7_areIn 27 = .ok (.invokevirtual 142, 3) := by decide +kernel
theorem dX7_areIn_30 : decode cX7_areIn 30 = .ok (.if_icmp .ne 7, 3) := by decide +kernel
theorem dX7_areIn_33 : decode cX7_areIn 33 = .ok (.iconst 1, 1) := by decide +kernel
theorem dX7_areIn_34 : decode cX7_areIn 34 = .ok (.goto 4, 3) := by decide +kernel
theorem dX7_areIn_37 : decode cX7_areIn 37 = .ok (.iconst 0, 1) := by decide +kernel
theorem dX7_areIn_38 : decode cX7_areIn 38 = .ok (.ireturn, 1) := by decide +kernel
theorem dX7_meet_0 : decode cX7_meet 0 = .ok (.aload_n 0, 1) := by decide +kernel
theorem dX7_meet_1 : decode cX7_meet 1 = .ok (.iload_n 1, 1) := by decide +kernel
theorem dX7_meet_2 : decode cX7_meet 2 = .ok (.iload_n 2, 1) := by decide +kernel
theorem dX7_meet_3 : decode cX7_meet 3 = .ok (.invokevirtual 145, 3) := by decide +kernel
theorem dX7_meet_6 : decode cX7_meet 6 = .ok (.ifCond .ne 5, 3) := by decide +kernel
theorem dX7_meet_9 : decode cX7_meet 9 = .ok (.iconst (-1), 1) := by decide +kernel
theorem dX7_meet_10 : decode cX7_meet 10 = .ok (.ireturn, 1) := by decide +kernel
theorem dX7_meet_11 : decode cX7_meet 11 = .ok (.iconst 0, 1) := by decide +kernel
theorem dX7_meet_12 : decode cX7_meet 12 = .ok (.istore_n 3, 1) := by decide +kernel
theorem dX7_meet_13 : decode cX7_meet 13 = .ok (.iload_n 3, 1) := by decide +kernel
theorem dX7_meet_14 : decode cX7_meet 14 = .ok (.bipush 40, 2) := by decide +kernel
theorem dX7_meet_16 : decode cX7_meet 16 = .ok (.if_icmp .ge 25, 3) := by decide +kernel
theorem dX7_meet_19 : decode cX7_meet 19 = .ok (.aload_n 0, 1) := by decide +kernel
theorem dX7_meet_20 : decode cX7_meet 20 = .ok (.iload_n 1, 1) := by decide +kernel
theorem dX7_meet_21 : decode cX7_meet 21 = .ok (.iload_n 2, 1) := by decide +kernel
theorem dX7_meet_22 : decode cX7_meet 22 = .ok (.iload_n 3, 1) := by decide +kernel
theorem dX7_meet_23 : decode cX7_meet 23 = .ok (.invokevirtual 149, 3) := by decide +kernel
theorem dX7_meet_26 : decode cX7_meet 26 = .ok (.ifCond .eq 9, 3) := by decide +kernel
theorem dX7_meet_29 : decode cX7_meet 29 = .ok (.aload_n 0, 1) := by decide +kernel
theorem dX7_meet_30 : decode cX7_meet 30 = .ok (.iload_n 3, 1) := by decide +kernel
theorem dX7_meet_31 : decode cX7_meet 31 = .ok (.invokevirtual 152, 3) := by decide +kernel
theorem dX7_meet_34 : decode cX7_meet 34 = .ok (.ireturn, 1) := by decide +kernel
theorem dX7_meet_35 : decode cX7_meet 35 = .ok (.iinc 3 1, 3) := by decide +kernel
theorem dX7_meet_38 : decode cX7_meet 38 = .ok (.goto (-25), 3) := by decide +kernel
theorem dX7_meet_41 : decode cX7_meet 41 = .ok (.bipush (-6), 2) := by decide +kernel
theorem dX7_meet_43 : decode cX7_meet 43 = .ok (.ireturn, 1) := by decide +kernel
theorem dX7_together_0 : decode cX7_together 0 = .ok (.aload_n 0, 1) := by decide +kernel
theorem dX7_together_1 : decode cX7_together 1 = .ok (.iload_n 1, 1) := by decide +kernel
theorem dX7_together_2 : decode cX7_together 2 = .ok (.iload_n 2, 1) := by decide +kernel
theorem dX7_together_3 : decode cX7_together 3 = .ok (.invokevirtual 145, 3) := by decide +kernel
theorem dX7_together_6 : decode cX7_together 6 = .ok (.ifCond .ne 5, 3) := by decide +kernel
theorem dX7_together_9 : decode cX7_together 9 = .ok (.iconst (-1), 1) := by decide +kernel
theorem dX7_together_10 : decode cX7_together 10 = .ok (.ireturn, 1) := by decide +kernel
theorem dX7_together_11 : decode cX7_together 11 = .ok (.iload_n 3, 1) := by decide +kernel
theorem dX7_together_12 : decode cX7_together 12 = .ok (.iconst 0, 1) := by decide +kernel
theorem dX7_together_13 : decode cX7_together 13 = .ok (.sipush 9999, 3) := by decide +kernel
theorem dX7_together_16 : decode cX7_together 16 = .ok (.invokestatic 78, 3) := by decide +kernel
theorem dX7_together_19 : decode cX7_together 19 = .ok (.ifCond .ne 6, 3) := by decide +kernel
theorem dX7_together_22 : decode cX7_together 22 = .ok (.bipush (-2), 2) := by decide +kernel
theorem dX7_together_24 : decode cX7_together 24 = .ok (.ireturn, 1) := by decide +kernel
theorem dX7_together_25 : decode cX7_together 25 = .ok (.iconst 0, 1) := by decide +kernel
theorem dX7_together_26 : decode cX7_together 26 = .ok (.istore 4, 2) := by decide +kernel
theorem dX7_together_28 : decode cX7_together 28 = .ok (.iconst 0, 1) := by decide +kernel
theorem dX7_together_29 : decode cX7_together 29 = .ok (.istore 5, 2) := by decide +kernel
theorem dX7_together_31 : decode cX7_together 31 = .ok (.iload 5, 2) := by decide +kernel
theorem dX7_together_33 : decode cX7_together 33 = .ok (.iload_n 3, 1) := by decide +kernel
theorem dX7_together_34 : decode cX7_together 34 = .ok (.if_icmp .ge 34, 3) := by decide +kernel
theorem dX7_together_37 : decode cX7_together 37 = .ok (.iload 4, 2) := by decide +kernel
theorem dX7_together_39 : decode cX7_together 39 = .ok (.aload_n 0, 1) := by decide +kernel
theorem dX7_together_40 : decode cX7_together 40 = .ok (.iload_n 1, 1) := by decide +kernel
theorem dX7_together_41 : decode cX7_together 41 = .ok (.iload_n 2, 1) := by decide +kernel
theorem dX7_together_42 : decode cX7_together 42 = .ok (.aload_n 0, 1) := by decide +kernel
theorem dX7_together_43 : decode cX7_together 43 = .ok (.iload 5, 2) := by decide +kernel
theorem dX7_together_45 : decode cX7_together 45 = .ok (.invokevirtual 138, 3) := by decide +kernel
theorem dX7_together_48 : decode cX7_together 48 = .ok (.invokevirtual 149, 3) := by decide +kernel
theorem dX7_together_51 : decode cX7_together 51 = .ok (.ifCond .eq 7, 3) := by decide +kernel
theorem dX7_together_54 : decode cX7_together 54 = .ok (.iconst 1, 1) := by decide +kernel
theorem dX7_together_55 : decode cX7_together 55 = .ok (.goto 4, 3) := by decide +kernel
theorem dX7_together_58 : decode cX7_together 58 = .ok (.iconst 0, 1) := by decide +kernel
theorem dX7_together_59 : decode cX7_together 59 = .ok (.iadd, 1) := by decide +kernel
theorem dX7_together_60 : decode cX7_together 60 = .ok (.istore 4, 2) := by decide +kernel
theorem dX7_together_62 : decode cX7_together 62 = .ok (.iinc 5 1, 3) := by decide +kernel
theorem dX7_together_65 : decode cX7_together 65 = .ok (.goto (-34), 3) := by decide +kernel
theorem dX7_together_68 : decode cX7_together 68 = .ok (.iload 4, 2) := by decide +kernel
theorem dX7_together_70 : decode cX7_together 70 = .ok (.ireturn, 1) := by decide +kernel
theorem dX7_isThere_0 : decode cX7_isThere 0 = .ok (.iconst 0, 1) := by decide +kernel
theorem dX7_isThere_1 : decode cX7_isThere 1 = .ok (.istore 5, 2) := by decide +kernel
theorem dX7_isThere_3 : decode cX7_isThere 3 = .ok (.aload_n 0, 1) := by decide +kernel
theorem dX7_isThere_4 : decode cX7_isThere 4 = .ok (.iload_n 3, 1) := by decide +kernel
theorem dX7_isThere_5 : decode cX7_isThere 5 = .ok (.invokevirtual 138, 3) := by decide +kernel
theorem dX7_isThere_8 : decode cX7_isThere 8 = .ok (.istore 6, 2) := by decide +kernel
theorem dX7_isThere_10 : decode cX7_isThere 10 = .ok (.iload 6, 2) := by decide +kernel
theorem dX7_isThere_12 : decode cX7_isThere 12 = .ok (.aload_n 0, 1) := by decide +kernel
theorem dX7_isThere_13 : decode cX7_isThere 13 = .ok (.iload_n 3, 1) := by decide +kernel
theorem dX7_isThere_14 : decode cX7_isThere 14 = .ok (.iload 4, 2) := by decide +kernel
theorem dX7_isThere_16 : decode cX7_isThere 16 = .ok (.iadd, 1) := by decide +kernel
theorem dX7_isThere_17 : decode cX7_isThere 17 = .ok (.iconst 1, 1) := by decide +kernel
theorem dX7_isThere_18 : decode cX7_isThere 18 = .ok (.isub, 1) := by decide +kernel
theorem dX7_isThere_19 : decode cX7_isThere 19 = .ok (.invokevirtual 138, 3) := by decide +kernel
theorem dX7_isThere_22 : decode cX7_isThere 22 = .ok (.if_icmp .gt 32, 3) := by decide +kernel
theorem dX7_isThere_25 : decode cX7_isThere 25 = .ok (.iload 5, 2) := by decide +kernel
theorem dX7_isThere_27 : decode cX7_isThere 27 = .ok (.ifCond .ne 27, 3) := by decide +kernel
theorem dX7_isThere_30 : decode cX7_isThere 30 = .ok (.aload_n 0, 1) := by decide +kernel
theorem dX7_isThere_31 : decode cX7_isThere 31 = .ok (.iload_n 1, 1) := by decide +kernel
theorem dX7_isThere_32 : decode cX7_isThere 32 = .ok (.iload 6, 2) := by decide +kernel
theorem dX7_isThere_34 : decode cX7_isThere 34 = .ok (.invokevirtual 142, 3) := by decide +kernel
theorem dX7_isThere_37 : decode cX7_isThere 37 = .ok (.iload_n 2, 1) := by decide +kernel
theorem dX7_isThere_38 : decode cX7_isThere 38 = .ok (.if_icmp .ne 7, 3) := by decide +kernel
theorem dX7_isThere_41 : decode cX7_isThere 41 = .ok (.iconst 1, 1) := by decide +kernel
theorem dX7_isThere_42 : decode cX7_isThere 42 = .ok (.goto 4, 3) := by decide +kernel
theorem dX7_isThere_45 : decode cX7_isThere 45 = .ok (.iconst 0, 1) := by decide +kernel
theorem dX7_isThere_46 : decode cX7_isThere 46 = .ok (.istore 5, 2) := by decide +kernel
theorem dX7_isThere_48 : decode cX7_isThere 48 = .ok (.iinc 6 1, 3) := by decide +kernel
theorem dX7_isThere_51 : decode cX7_isThere 51 = .ok (.goto (-41), 3) := by decide +kernel
theorem dX7_isThere_54 : decode cX7_isThere 54 = .ok (.iload 5, 2) := by decide +kernel
theorem dX7_isThere_56 : decode cX7_isThere 56 = .ok (.ireturn, 1) := by decide +kernel
theorem dX7_begin_0 : decode cX7_begin 0 = .ok (.aload_n 0, 1) := by decide +kernel
theorem dX7_begin_1 : decode cX7_begin 1 = .ok (.iload_n 1, 1) := by decide +kernel
theorem dX7_begin_2 : decode cX7_begin 2 = .ok (.iload_n 2, 1) := by decide +kernel
theorem dX7_begin_3 : decode cX7_begin 3 = .ok (.invokevirtual 145, 3) := by decide +kernel
theorem dX7_begin_6 : decode cX7_begin 6 = .ok (.ifCond .ne 5, 3) := by decide +kernel
theorem dX7_begin_9 : decode cX7_begin 9 = .ok (.iconst (-1), 1) := by decide +kernel
theorem dX7_begin_10 : decode cX7_begin 10 = .ok (.ireturn, 1) := by decide +kernel
theorem dX7_begin_11 : decode cX7_begin 11 = .ok (.iload_n 3, 1) := by decide +kernel
theorem dX7_begin_12 : decode cX7_begin 12 = .ok (.iconst 1, 1) := by decide +kernel
theorem dX7_begin_13 : decode cX7_begin 13 = .ok (.sipush 400, 3) := by decide +kernel
theorem dX7_begin_16 : decode cX7_begin 16 = .ok (.invokestatic 78, 3) := by decide +kernel
theorem dX7_begin_19 : decode cX7_begin 19 = .ok (.ifCond .ne 6, 3) := by decide +kernel
theorem dX7_begin_22 : decode cX7_begin 22 = .ok (.bipush (-2), 2) := by decide +kernel
theorem dX7_begin_24 : decode cX7_begin 24 = .ok (.ireturn, 1) := by decide +kernel
theorem dX7_begin_25 : decode cX7_begin 25 = .ok (.iconst 0, 1) := by decide +kernel
theorem dX7_begin_26 : decode cX7_begin 26 = .ok (.istore 4, 2) := by decide +kernel
theorem dX7_begin_28 : decode cX7_begin 28 = .ok (.iload 4, 2) := by decide +kernel
theorem dX7_begin_30 : decode cX7_begin 30 = .ok (.sipush 9999, 3) := by decide +kernel
theorem dX7_begin_33 : decode cX7_begin 33 = .ok (.if_icmp .gt 24, 3) := by decide +kernel
theorem dX7_begin_36 : decode cX7_begin 36 = .ok (.aload_n 0, 1) := by decide +kernel
theorem dX7_begin_37 : decode cX7_begin 37 = .ok (.iload_n 1, 1) := by decide +kernel
theorem dX7_begin_38 : decode cX7_begin 38 = .ok (.iload_n 2, 1) := by decide +kernel
theorem dX7_begin_39 : decode cX7_begin 39 = .ok (.iload 4, 2) := by decide +kernel
theorem dX7_begin_41 : decode cX7_begin 41 = .ok (.iload_n 3, 1) := by decide +kernel
theorem dX7_begin_42 : decode cX7_begin 42 = .ok (.invokevirtual 155, 3) := by decide +kernel
theorem dX7_begin_45 : decode cX7_begin 45 = .ok (.ifCond .ne 6, 3) := by decide +kernel
theorem dX7_begin_48 : decode cX7_begin 48 = .ok (.iload 4, 2) := by decide +kernel
theorem dX7_begin_50 : decode cX7_begin 50 = .ok (.ireturn, 1) := by decide +kernel
theorem dX7_begin_51 : decode cX7_begin 51 = .ok (.iinc 4 1, 3) := by decide +kernel
theorem dX7_begin_54 : decode cX7_begin 54 = .ok (.goto (-26), 3) := by decide +kernel
theorem dX7_begin_57 : decode cX7_begin 57 = .ok (.bipush (-6), 2) := by decide +kernel
theorem dX7_begin_59 : decode cX7_begin 59 = .ok (.ireturn, 1) := by decide +kernel
theorem dX7_longest_0 : decode cX7_longest 0 = .ok (.aload_n 0, 1) := by decide +kernel
theorem dX7_longest_1 : decode cX7_longest 1 = .ok (.iload_n 1, 1) := by decide +kernel
theorem dX7_longest_2 : decode cX7_longest 2 = .ok (.iload_n 2, 1) := by decide +kernel
theorem dX7_longest_3 : decode cX7_longest 3 = .ok (.invokevirtual 145, 3) := by decide +kernel
theorem dX7_longest_6 : decode cX7_longest 6 = .ok (.ifCond .ne 5, 3) := by decide +kernel
theorem dX7_longest_9 : decode cX7_longest 9 = .ok (.iconst (-1), 1) := by decide +kernel
theorem dX7_longest_10 : decode cX7_longest 10 = .ok (.ireturn, 1) := by decide +kernel
theorem dX7_longest_11 : decode cX7_longest 11 = .ok (.iload_n 3, 1) := by decide +kernel
theorem dX7_longest_12 : decode cX7_longest 12 = .ok (.iconst 0, 1) := by decide +kernel
theorem dX7_longest_13 : decode cX7_longest 13 = .ok (.sipush 9999, 3) := by decide +kernel
theorem dX7_longest_16 : decode cX7_longest 16 = .ok (.invokestatic 78, 3) := by decide +kernel
theorem dX7_longest_19 : decode cX7_longest 19 = .ok (.ifCond .ne 6, 3) := by decide +kernel
theorem dX7_longest_22 : decode cX7_longest 22 = .ok (.bipush (-2), 2) := by decide +kernel
theorem dX7_longest_24 : decode cX7_longest 24 = .ok (.ireturn, 1) := by decide +kernel
theorem dX7_longest_25 : decode cX7_longest 25 = .ok (.aload_n 0, 1) := by decide +kernel
theorem dX7_longest_26 : decode cX7_longest 26 = .ok (.iload_n 1, 1) := by decide +kernel
theorem dX7_longest_27 : decode cX7_longest 27 = .ok (.aload_n 0, 1) := by decide +kernel
theorem dX7_longest_28 : decode cX7_longest 28 = .ok (.iload_n 3, 1) := by decide +kernel
theorem dX7_longest_29 : decode cX7_longest 29 = .ok (.invokevirtual 138, 3) := by decide +kernel
theorem dX7_longest_32 : decode cX7_longest 32 = .ok (.invokevirtual 142, 3) := by decide +kernel
theorem dX7_longest_35 : decode cX7_longest 35 = .ok (.iload_n 2, 1) := by decide +kernel
theorem dX7_longest_36 : decode cX7_longest 36 = .ok (.if_icmp .ne 5, 3) := by decide +kernel
theorem dX7_longest_39 : decode cX7_longest 39 = .ok (.iconst 0, 1) := by decide +kernel
theorem dX7_longest_40 : decode cX7_longest 40 = .ok (.ireturn, 1) := by decide +kernel
theorem dX7_longest_41 : decode cX7_longest 41 = .ok (.aload_n 0, 1) := by decide +kernel
theorem dX7_longest_42 : decode cX7_longest 42 = .ok (.iload_n 3, 1) := by decide +kernel
theorem dX7_longest_43 : decode cX7_longest 43 = .ok (.invokevirtual 138, 3) := by decide +kernel
theorem dX7_longest_46 : decode cX7_longest 46 = .ok (.iconst 1, 1) := by decide +kernel
theorem dX7_longest_47 : decode cX7_longest 47 = .ok (.iadd, 1) := by decide +kernel
theorem dX7_longest_48 : decode cX7_longest 48 = .ok (.istore 4, 2) := by decide +kernel
theorem dX7_longest_50 : decode cX7_longest 50 = .ok (.aload_n 0, 1) := by decide +kernel
theorem dX7_longest_51 : decode cX7_longest 51 = .ok (.iload 4, 2) := by decide +kernel
theorem dX7_longest_53 : decode cX7_longest 53 = .ok (.invokevirtual 152, 3) := by decide +kernel
theorem dX7_longest_56 : decode cX7_longest 56 = .ok (.iload_n 3, 1) := by decide +kernel
theorem dX7_longest_57 : decode cX7_longest 57 = .ok (.isub, 1) := by decide +kernel
theorem dX7_longest_58 : decode cX7_longest 58 = .ok (.sipush 9999, 3) := by decide +kernel
theorem dX7_longest_61 : decode cX7_longest 61 = .ok (.if_icmp .ge 29, 3) := by decide +kernel
theorem dX7_longest_64 : decode cX7_longest 64 = .ok (.aload_n 0, 1) := by decide +kernel
theorem dX7_longest_65 : decode cX7_longest 65 = .ok (.iload_n 1, 1) := by decide +kernel
theorem dX7_longest_66 : decode cX7_longest 66 = .ok (.iload 4, 2) := by decide +kernel
theorem dX7_longest_68 : decode cX7_longest 68 = .ok (.invokevirtual 142, 3) := by decide +kernel
theorem dX7_longest_71 : decode cX7_longest 71 = .ok (.iload_n 2, 1) := by decide +kernel
theorem dX7_longest_72 : decode cX7_longest 72 = .ok (.if_icmp .ne 12, 3) := by decide +kernel
theorem dX7_longest_75 : decode cX7_longest 75 = .ok (.aload_n 0, 1) := by decide +kernel
theorem dX7_longest_76 : decode cX7_longest 76 = .ok (.iload 4, 2) := by decide +kernel
theorem dX7_longest_78 : decode cX7_longest 78 = .ok (.invokevirtual 152, 3) := by decide +kernel
theorem dX7_longest_81 : decode cX7_longest 81 = .ok (.iload_n 3, 1) := by decide +kernel
theorem dX7_longest_82 : decode cX7_longest 82 = .ok (.isub, 1) := by decide +kernel
theorem dX7_longest_83 : decode cX7_longest 83 = .ok (.ireturn, 1) := by decide +kernel
theorem dX7_longest_84 : decode cX7_longest 84 = .ok (.iinc 4 1, 3) := by decide +kernel
theorem dX7_longest_87 : decode cX7_longest 87 = .ok (.goto (-37), 3) := by decide +kernel
theorem dX7_longest_90 : decode cX7_longest 90 = .ok (.sipush 9999, 3) := by decide +kernel
theorem dX7_longest_93 : decode cX7_longest 93 = .ok (.ireturn, 1) := by decide +kernel
theorem dX7_isWar_0 : decode cX7_isWar 0 = .ok (.iload_n 1, 1) := by decide +kernel
theorem dX7_isWar_1 : decode cX7_isWar 1 = .ok (.iconst 0, 1) := by decide +kernel
theorem dX7_isWar_2 : decode cX7_isWar 2 = .ok (.sipush 9999, 3) := by decide +kernel
theorem dX7_isWar_5 : decode cX7_isWar 5 = .ok (.invokestatic 78, 3) := by decide +kernel
theorem dX7_isWar_8 : decode cX7_isWar 8 = .ok (.ifCond .eq 18, 3) := by decide +kernel
theorem dX7_isWar_11 : decode cX7_isWar 11 = .ok (.iload_n 2, 1) := by decide +kernel
theorem dX7_isWar_12 : decode cX7_isWar 12 = .ok (.iconst 1, 1) := by decide +kernel
theorem dX7_isWar_13 : decode cX7_isWar 13 = .ok (.sipush 400, 3) := by decide +kernel
theorem dX7_isWar_16 : decode cX7_isWar 16 = .ok (.invokestatic 78, 3) := by decide +kernel
theorem dX7_isWar_19 : decode cX7_isWar 19 = .ok (.ifCond .eq 7, 3) := by decide +kernel
theorem dX7_isWar_22 : decode cX7_isWar 22 = .ok (.iconst 1, 1) := by decide +kernel
theorem dX7_isWar_23 : decode cX7_isWar 23 = .ok (.goto 4, 3) := by decide +kernel
theorem dX7_isWar_26 : decode cX7_isWar 26 = .ok (.iconst 0, 1) := by decide +kernel
theorem dX7_isWar_27 : decode cX7_isWar 27 = .ok (.ireturn, 1) := by decide +kernel
theorem dX7_struck_0 : decode cX7_struck 0 = .ok (.aload_n 0, 1) := by decide +kernel
theorem dX7_struck_1 : decode cX7_struck 1 = .ok (.iload_n 1, 1) := by decide +kernel
theorem dX7_struck_2 : decode cX7_struck 2 = .ok (.invokevirtual 82, 3) := by decide +kernel
theorem dX7_struck_5 : decode cX7_struck 5 = .ok (.ifCond .ne 5, 3) := by decide +kernel
theorem dX7_struck_8 : decode cX7_struck 8 = .ok (.iconst (-1), 1) := by decide +kernel
theorem dX7_struck_9 : decode cX7_struck 9 = .ok (.ireturn, 1) := by decide +kernel
theorem dX7_struck_10 : decode cX7_struck 10 = .ok (.aload_n 0, 1) := by decide +kernel
theorem dX7_struck_11 : decode cX7_struck 11 = .ok (.iload_n 2, 1) := by decide +kernel
theorem dX7_struck_12 : decode cX7_struck 12 = .ok (.iload_n 3, 1) := by decide +kernel
theorem dX7_struck_13 : decode cX7_struck 13 = .ok (.invokevirtual 159, 3) := by decide +kernel
theorem dX7_struck_16 : decode cX7_struck 16 = .ok (.ifCond .ne 6, 3) := by decide +kernel
theorem dX7_struck_19 : decode cX7_struck 19 = .ok (.bipush (-2), 2) := by decide +kernel
theorem dX7_struck_21 : decode cX7_struck 21 = .ok (.ireturn, 1) := by decide +kernel
theorem dX7_struck_22 : decode cX7_struck 22 = .ok (.iconst 0, 1) := by decide +kernel
theorem dX7_struck_23 : decode cX7_struck 23 = .ok (.istore 4, 2) := by decide +kernel
theorem dX7_struck_25 : decode cX7_struck 25 = .ok (.iconst 0, 1) := by decide +kernel
theorem dX7_struck_26 : decode cX7_struck 26 = .ok (.istore 5, 2) := by decide +kernel
theorem dX7_struck_28 : decode cX7_struck 28 = .ok (.iload 5, 2) := by decide +kernel
theorem dX7_struck_30 : decode cX7_struck 30 = .ok (.aload_n 0, 1) := by decide +kernel
theorem dX7_struck_31 : decode cX7_struck 31 = .ok (.getfield 7, 3) := by decide +kernel
theorem dX7_struck_34 : decode cX7_struck 34 = .ok (.if_icmp .ge 40, 3) := by decide +kernel
theorem dX7_struck_37 : decode cX7_struck 37 = .ok (.iload 4, 2) := by decide +kernel
theorem dX7_struck_39 : decode cX7_struck 39 = .ok (.iload 5, 2) := by decide +kernel
theorem dX7_struck_41 : decode cX7_struck 41 = .ok (.iload_n 1, 1) := by decide +kernel
theorem dX7_struck_42 : decode cX7_struck 42 = .ok (.if_icmp .eq 22, 3) := by decide +kernel
theorem dX7_struck_45 : decode cX7_struck 45 = .ok (.aload_n 0, 1) := by decide +kernel
theorem dX7_struck_46 : decode cX7_struck 46 = .ok (.iload 5, 2) := by decide +kernel
theorem dX7_struck_48 : decode cX7_struck 48 = .ok (.iload_n 1, 1) := by decide +kernel
theorem dX7_struck_49 : decode cX7_struck 49 = .ok (.iload_n 2, 1) := by decide +kernel
theorem dX7_struck_50 : decode cX7_struck 50 = .ok (.iload_n 3, 1) := by decide +kernel
theorem dX7_struck_51 : decode cX7_struck 51 = .ok (.invokevirtual 155, 3) := by decide +kernel
theorem dX7_struck_54 : decode cX7_struck 54 = .ok (.ifCond .ne 10, 3) := by decide +kernel
theorem dX7_struck_57 : decode cX7_struck 57 = .ok (.iconst 1, 1) := by decide +kernel
theorem dX7_struck_58 : decode cX7_struck 58 = .ok (.iload 5, 2) := by decide +kernel
theorem dX7_struck_60 : decode cX7_struck 60 = .ok (.ishl, 1) := by decide +kernel
theorem dX7_struck_61 : decode cX7_struck 61 = .ok (.goto 4, 3) := by decide +kernel
theorem dX7_struck_64 : decode cX7_struck 64 = .ok (.iconst 0, 1) := by decide +kernel
theorem dX7_struck_65 : decode cX7_struck 65 = .ok (.ior, 1) := by decide +kernel
theorem dX7_struck_66 : decode cX7_struck 66 = .ok (.istore 4, 2) := by decide +kernel
theorem dX7_struck_68 : decode cX7_struck 68 = .ok (.iinc 5 1, 3) := by decide +kernel
theorem dX7_struck_71 : decode cX7_struck 71 = .ok (.goto (-43), 3) := by decide +kernel
theorem dX7_struck_74 : decode cX7_struck 74 = .ok (.iload 4, 2) := by decide +kernel
theorem dX7_struck_76 : decode cX7_struck 76 = .ok (.ireturn, 1) := by decide +kernel
theorem dX7_sure_0 : decode cX7_sure 0 = .ok (.iload_n 1, 1) := by decide +kernel
theorem dX7_sure_1 : decode cX7_sure 1 = .ok (.iconst 1, 1) := by decide +kernel
theorem dX7_sure_2 : decode cX7_sure 2 = .ok (.sipush 400, 3) := by decide +kernel
theorem dX7_sure_5 : decode cX7_sure 5 = .ok (.invokestatic 78, 3) := by decide +kernel
theorem dX7_sure_8 : decode cX7_sure 8 = .ok (.ifCond .ne 6, 3) := by decide +kernel
theorem dX7_sure_11 : decode cX7_sure 11 = .ok (.bipush (-2), 2) := by decide +kernel
theorem dX7_sure_13 : decode cX7_sure 13 = .ok (.ireturn, 1) := by decide +kernel
theorem dX7_sure_14 : decode cX7_sure 14 = .ok (.iconst 0, 1) := by decide +kernel
theorem dX7_sure_15 : decode cX7_sure 15 = .ok (.istore_n 2, 1) := by decide +kernel
theorem dX7_sure_16 : decode cX7_sure 16 = .ok (.iconst 0, 1) := by decide +kernel
theorem dX7_sure_17 : decode cX7_sure 17 = .ok (.istore_n 3, 1) := by decide +kernel
theorem dX7_sure_18 : decode cX7_sure 18 = .ok (.iload_n 3, 1) := by decide +kernel
theorem dX7_sure_19 : decode cX7_sure 19 = .ok (.aload_n 0, 1) := by decide +kernel
theorem dX7_sure_20 : decode cX7_sure 20 = .ok (.getfield 7, 3) := by decide +kernel
theorem dX7_sure_23 : decode cX7_sure 23 = .ok (.if_icmp .ge 74, 3) := by decide +kernel
theorem dX7_sure_26 : decode cX7_sure 26 = .ok (.iconst 1, 1) := by decide +kernel
theorem dX7_sure_27 : decode cX7_sure 27 = .ok (.istore 4, 2) := by decide +kernel
theorem dX7_sure_29 : decode cX7_sure 29 = .ok (.iconst 0, 1) := by decide +kernel
theorem dX7_sure_30 : decode cX7_sure 30 = .ok (.istore 5, 2) := by decide +kernel
theorem dX7_sure_32 : decode cX7_sure 32 = .ok (.iload 5, 2) := by decide +kernel
theorem dX7_sure_34 : decode cX7_sure 34 = .ok (.aload_n 0, 1) := by decide +kernel
theorem dX7_sure_35 : decode cX7_sure 35 = .ok (.getfield 7, 3) := by decide +kernel
theorem dX7_sure_38 : decode cX7_sure 38 = .ok (.if_icmp .ge 38, 3) := by decide +kernel
theorem dX7_sure_41 : decode cX7_sure 41 = .ok (.iload 4, 2) := by decide +kernel
theorem dX7_sure_43 : decode cX7_sure 43 = .ok (.ifCond .eq 33, 3) := by decide +kernel
theorem dX7_sure_46 : decode cX7_sure 46 = .ok (.iload 5, 2) := by decide +kernel
theorem dX7_sure_48 : decode cX7_sure 48 = .ok (.iload_n 3, 1) := by decide +kernel
theorem dX7_sure_49 : decode cX7_sure 49 = .ok (.if_icmp .eq 14, 3) := by decide +kernel
theorem dX7_sure_52 : decode cX7_sure 52 = .ok (.aload_n 0, 1) := by decide +kernel
theorem dX7_sure_53 : decode cX7_sure 53 = .ok (.iload 5, 2) := by decide +kernel
theorem dX7_sure_55 : decode cX7_sure 55 = .ok (.iload_n 3, 1) := by decide +kernel
theorem dX7_sure_56 : decode cX7_sure 56 = .ok (.iload_n 1, 1) := by decide +kernel
theorem dX7_sure_57 : decode cX7_sure 57 = .ok (.invokevirtual 162, 3) := by decide +kernel
theorem dX7_sure_60 : decode cX7_sure 60 = .ok (.ifCond .ge 7, 3) := by decide +kernel
theorem dX7_sure_63 : decode cX7_sure 63 = .ok (.iconst 1, 1) := by decide +kernel
theorem dX7_sure_64 : decode cX7_sure 64 = .ok (.goto 4, 3) := by decide +kernel
theorem dX7_sure_67 : decode cX7_sure 67 = .ok (.iconst 0, 1) := by decide +kernel
theorem dX7_sure_68 : decode cX7_sure 68 = .ok (.istore 4, 2) := by decide +kernel
theorem dX7_sure_70 : decode cX7_sure 70 = .ok (.iinc 5 1, 3) := by decide +kernel
theorem dX7_sure_73 : decode cX7_sure 73 = .ok (.goto (-41), 3) := by decide +kernel
theorem dX7_sure_76 : decode cX7_sure 76 = .ok (.iload_n 2, 1) := by decide +kernel
theorem dX7_sure_77 : decode cX7_sure 77 = .ok (.iload 4, 2) := by decide +kernel
theorem dX7_sure_79 : decode cX7_sure 79 = .ok (.ifCond .eq 9, 3) := by decide +kernel
theorem dX7_sure_82 : decode cX7_sure 82 = .ok (.iconst 1, 1) := by decide +kernel
theorem dX7_sure_83 : decode cX7_sure 83 = .ok (.iload_n 3, 1) := by decide +kernel
theorem dX7_sure_84 : decode cX7_sure 84 = .ok (.ishl, 1) := by decide +kernel
theorem dX7_sure_85 : decode cX7_sure 85 = .ok (.goto 4, 3) := by decide +kernel
theorem dX7_sure_88 : decode cX7_sure 88 = .ok (.iconst 0, 1) := by decide +kernel
theorem dX7_sure_89 : decode cX7_sure 89 = .ok (.ior, 1) := by decide +kernel
theorem dX7_sure_90 : decode cX7_sure 90 = .ok (.istore_n 2, 1) := by decide +kernel
theorem dX7_sure_91 : decode cX7_sure 91 = .ok (.iinc 3 1, 3) := by decide +kernel
theorem dX7_sure_94 : decode cX7_sure 94 = .ok (.goto (-76), 3) := by decide +kernel
theorem dX7_sure_97 : decode cX7_sure 97 = .ok (.iload_n 2, 1) := by decide +kernel
theorem dX7_sure_98 : decode cX7_sure 98 = .ok (.ireturn, 1) := by decide +kernel
theorem dX7_fooled_0 : decode cX7_fooled 0 = .ok (.aload_n 0, 1) := by decide +kernel
theorem dX7_fooled_1 : decode cX7_fooled 1 = .ok (.iload_n 1, 1) := by decide +kernel
theorem dX7_fooled_2 : decode cX7_fooled 2 = .ok (.invokevirtual 82, 3) := by decide +kernel
theorem dX7_fooled_5 : decode cX7_fooled 5 = .ok (.ifCond .ne 5, 3) := by decide +kernel
theorem dX7_fooled_8 : decode cX7_fooled 8 = .ok (.iconst (-1), 1) := by decide +kernel
theorem dX7_fooled_9 : decode cX7_fooled 9 = .ok (.ireturn, 1) := by decide +kernel
theorem dX7_fooled_10 : decode cX7_fooled 10 = .ok (.aload_n 0, 1) := by decide +kernel
theorem dX7_fooled_11 : decode cX7_fooled 11 = .ok (.iload_n 2, 1) := by decide +kernel
theorem dX7_fooled_12 : decode cX7_fooled 12 = .ok (.iload_n 3, 1) := by decide +kernel
theorem dX7_fooled_13 : decode cX7_fooled 13 = .ok (.invokevirtual 159, 3) := by decide +kernel
theorem dX7_fooled_16 : decode cX7_fooled 16 = .ok (.ifCond .ne 6, 3) := by decide +kernel
theorem dX7_fooled_19 : decode cX7_fooled 19 = .ok (.bipush (-2), 2) := by decide +kernel
theorem dX7_fooled_21 : decode cX7_fooled 21 = .ok (.ireturn, 1) := by decide +kernel
theorem dX7_fooled_22 : decode cX7_fooled 22 = .ok (.iconst 0, 1) := by decide +kernel
theorem dX7_fooled_23 : decode cX7_fooled 23 = .ok (.istore 4, 2) := by decide +kernel
theorem dX7_fooled_25 : decode cX7_fooled 25 = .ok (.iconst 0, 1) := by decide +kernel
theorem dX7_fooled_26 : decode cX7_fooled 26 = .ok (.istore 5, 2) := by decide +kernel
theorem dX7_fooled_28 : decode cX7_fooled 28 = .ok (.iload 5, 2) := by decide +kernel
theorem dX7_fooled_30 : decode cX7_fooled 30 = .ok (.aload_n 0, 1) := by decide +kernel
theorem dX7_fooled_31 : decode cX7_fooled 31 = .ok (.getfield 7, 3) := by decide +kernel
theorem dX7_fooled_34 : decode cX7_fooled 34 = .ok (.if_icmp .ge 95, 3) := by decide +kernel
theorem dX7_fooled_37 : decode cX7_fooled 37 = .ok (.iload 5, 2) := by decide +kernel
theorem dX7_fooled_39 : decode cX7_fooled 39 = .ok (.istore 6, 2) := by decide +kernel
theorem dX7_fooled_41 : decode cX7_fooled 41 = .ok (.iconst 0, 1) := by decide +kernel
theorem dX7_fooled_42 : decode cX7_fooled 42 = .ok (.istore 7, 2) := by decide +kernel
theorem dX7_fooled_44 : decode cX7_fooled 44 = .ok (.iload 7, 2) := by decide +kernel
theorem dX7_fooled_46 : decode cX7_fooled 46 = .ok (.aload_n 0, 1) := by decide +kernel
theorem dX7_fooled_47 : decode cX7_fooled 47 = .ok (.getfield 7, 3) := by decide +kernel
theorem dX7_fooled_50 : decode cX7_fooled 50 = .ok (.if_icmp .ge 30, 3) := by decide +kernel
theorem dX7_fooled_53 : decode cX7_fooled 53 = .ok (.aload_n 0, 1) := by decide +kernel
theorem dX7_fooled_54 : decode cX7_fooled 54 = .ok (.getfield 20, 3) := by decide +kernel
theorem dX7_fooled_57 : decode cX7_fooled 57 = .ok (.iload 7, 2) := by decide +kernel
theorem dX7_fooled_59 : decode cX7_fooled 59 = .ok (.iaload, 1) := by decide +kernel
theorem dX7_fooled_60 : decode cX7_fooled 60 = .ok (.iload 5, 2) := by decide +kernel
theorem dX7_fooled_62 : decode cX7_fooled 62 = .ok (.if_icmp .ne 8, 3) := by decide +kernel
theorem dX7_fooled_65 : decode cX7_fooled 65 = .ok (.iload 7, 2) := by decide +kernel
theorem dX7_fooled_67 : decode cX7_fooled 67 = .ok (.goto 5, 3) := by decide +kernel
theorem dX7_fooled_70 : decode cX7_fooled 70 = .ok (.iload 6, 2) := by decide +kernel
theorem dX7_fooled_72 : decode cX7_fooled 72 = .ok (.istore 6, 2) := by decide +kernel
theorem dX7_fooled_74 : decode cX7_fooled 74 = .ok (.iinc 7 1, 3) := by decide +kernel
theorem dX7_fooled_77 : decode cX7_fooled 77 = .ok (.goto (-33), 3) := by decide +kernel
theorem dX7_fooled_80 : decode cX7_fooled 80 = .ok (.iload 4, 2) := by decide +kernel
theorem dX7_fooled_82 : decode cX7_fooled 82 = .ok (.iload 5, 2) := by decide +kernel
theorem dX7_fooled_84 : decode cX7_fooled 84 = .ok (.iload_n 1, 1) := by decide +kernel
theorem dX7_fooled_85 : decode cX7_fooled 85 = .ok (.if_icmp .eq 34, 3) := by decide +kernel
theorem dX7_fooled_88 : decode cX7_fooled 88 = .ok (.aload_n 0, 1) := by decide +kernel
theorem dX7_fooled_89 : decode cX7_fooled 89 = .ok (.iload 6, 2) := by decide +kernel
theorem dX7_fooled_91 : decode cX7_fooled 91 = .ok (.iload_n 1, 1) := by decide +kernel
theorem dX7_fooled_92 : decode cX7_fooled 92 = .ok (.iload_n 2, 1) := by decide +kernel
theorem dX7_fooled_93 : decode cX7_fooled 93 = .ok (.iload_n 3, 1) := by decide +kernel
theorem dX7_fooled_94 : decode cX7_fooled 94 = .ok (.invokevirtual 155, 3) := by decide +kernel
theorem dX7_fooled_97 : decode cX7_fooled 97 = .ok (.ifCond .ne 22, 3) := by decide +kernel
theorem dX7_fooled_100 : decode cX7_fooled 100 = .ok (.aload_n 0, 1) := by decide +kernel
theorem dX7_fooled_101 : decode cX7_fooled 101 = .ok (.iload 5, 2) := by decide +kernel
theorem dX7_fooled_103 : decode cX7_fooled 103 = .ok (.iload_n 1, 1) := by decide +kernel
theorem dX7_fooled_104 : decode cX7_fooled 104 = .ok (.iload_n 2, 1) := by decide +kernel
theorem dX7_fooled_105 : decode cX7_fooled 105 = .ok (.iload_n 3, 1) := by decide +kernel
theorem dX7_fooled_106 : decode cX7_fooled 106 = .ok (.invokevirtual 155, 3) := by decide +kernel
theorem dX7_fooled_109 : decode cX7_fooled 109 = .ok (.ifCond .eq 10, 3) := by decide +kernel
theorem dX7_fooled_112 : decode cX7_fooled 112 = .ok (.iconst 1, 1) := by decide +kernel
theorem dX7_fooled_113 : decode cX7_fooled 113 = .ok (.iload 5, 2) := by decide +kernel
theorem dX7_fooled_115 : decode cX7_fooled 115 = .ok (.ishl, 1) := by decide +kernel
theorem dX7_fooled_116 : decode cX7_fooled 116 = .ok (.goto 4, 3) := by decide +kernel
theorem dX7_fooled_119 : decode cX7_fooled 119 = .ok (.iconst 0, 1) := by decide +kernel
theorem dX7_fooled_120 : decode cX7_fooled 120 = .ok (.ior, 1) := by decide +kernel
theorem dX7_fooled_121 : decode cX7_fooled 121 = .ok (.istore 4, 2) := by decide +kernel
theorem dX7_fooled_123 : decode cX7_fooled 123 = .ok (.iinc 5 1, 3) := by decide +kernel
theorem dX7_fooled_126 : decode cX7_fooled 126 = .ok (.goto (-98), 3) := by decide +kernel
theorem dX7_fooled_129 : decode cX7_fooled 129 = .ok (.iload 4, 2) := by decide +kernel
theorem dX7_fooled_131 : decode cX7_fooled 131 = .ok (.ireturn, 1) := by decide +kernel
theorem dX7_letter_0 : decode cX7_letter 0 = .ok (.aload_n 0, 1) := by decide +kernel
theorem dX7_letter_1 : decode cX7_letter 1 = .ok (.iload_n 1, 1) := by decide +kernel
theorem dX7_letter_2 : decode cX7_letter 2 = .ok (.invokevirtual 82, 3) := by decide +kernel
theorem dX7_letter_5 : decode cX7_letter 5 = .ok (.ifCond .eq 11, 3) := by decide +kernel
theorem dX7_letter_8 : decode cX7_letter 8 = .ok (.aload_n 0, 1) := by decide +kernel
theorem dX7_letter_9 : decode cX7_letter 9 = .ok (.iload_n 2, 1) := by decide +kernel
theorem dX7_letter_10 : decode cX7_letter 10 = .ok (.invokevirtual 82, 3) := by decide +kernel
theorem dX7_letter_13 : decode cX7_letter 13 = .ok (.ifCond .ne 5, 3) := by decide +kernel
theorem dX7_letter_16 : decode cX7_letter 16 = .ok (.iconst (-1), 1) := by decide +kernel
theorem dX7_letter_17 : decode cX7_letter 17 = .ok (.ireturn, 1) := by decide +kernel
theorem dX7_letter_18 : decode cX7_letter 18 = .ok (.aload_n 0, 1) := by decide +kernel
theorem dX7_letter_19 : decode cX7_letter 19 = .ok (.iload_n 1, 1) := by decide +kernel
theorem dX7_letter_20 : decode cX7_letter 20 = .ok (.iload_n 2, 1) := by decide +kernel
theorem dX7_letter_21 : decode cX7_letter 21 = .ok (.isub, 1) := by decide +kernel
theorem dX7_letter_22 : decode cX7_letter 22 = .ok (.aload_n 0, 1) := by decide +kernel
theorem dX7_letter_23 : decode cX7_letter 23 = .ok (.getfield 7, 3) := by decide +kernel
theorem dX7_letter_26 : decode cX7_letter 26 = .ok (.iadd, 1) := by decide +kernel
theorem dX7_letter_27 : decode cX7_letter 27 = .ok (.aload_n 0, 1) := by decide +kernel
theorem dX7_letter_28 : decode cX7_letter 28 = .ok (.getfield 7, 3) := by decide +kernel
theorem dX7_letter_31 : decode cX7_letter 31 = .ok (.irem, 1) := by decide +kernel
theorem dX7_letter_32 : decode cX7_letter 32 = .ok (.invokevirtual 152, 3) := by decide +kernel
theorem dX7_letter_35 : decode cX7_letter 35 = .ok (.ireturn, 1) := by decide +kernel
theorem dX7_copy_0 : decode cX7_copy 0 = .ok (.aload_n 0, 1) := by decide +kernel
theorem dX7_copy_1 : decode cX7_copy 1 = .ok (.iload_n 1, 1) := by decide +kernel
theorem dX7_copy_2 : decode cX7_copy 2 = .ok (.invokevirtual 82, 3) := by decide +kernel
theorem dX7_copy_5 : decode cX7_copy 5 = .ok (.ifCond .ne 5, 3) := by decide +kernel
theorem dX7_copy_8 : decode cX7_copy 8 = .ok (.iconst (-1), 1) := by decide +kernel
theorem dX7_copy_9 : decode cX7_copy 9 = .ok (.ireturn, 1) := by decide +kernel
theorem dX7_copy_10 : decode cX7_copy 10 = .ok (.iconst 1, 1) := by decide +kernel
theorem dX7_copy_11 : decode cX7_copy 11 = .ok (.istore_n 2, 1) := by decide +kernel
theorem dX7_copy_12 : decode cX7_copy 12 = .ok (.aload_n 0, 1) := by decide +kernel
theorem dX7_copy_13 : decode cX7_copy 13 = .ok (.iload_n 2, 1) := by decide +kernel
theorem dX7_copy_14 : decode cX7_copy 14 = .ok (.invokevirtual 152, 3) := by decide +kernel
theorem dX7_copy_17 : decode cX7_copy 17 = .ok (.sipush 9999, 3) := by decide +kernel
theorem dX7_copy_20 : decode cX7_copy 20 = .ok (.if_icmp .gt 50, 3) := by decide +kernel
theorem dX7_copy_23 : decode cX7_copy 23 = .ok (.aload_n 0, 1) := by decide +kernel
theorem dX7_copy_24 : decode cX7_copy 24 = .ok (.getfield 16, 3) := by decide +kernel
theorem dX7_copy_27 : decode cX7_copy 27 = .ok (.iload_n 1, 1) := by decide +kernel
theorem dX7_copy_28 : decode cX7_copy 28 = .ok (.iaload, 1) := by decide +kernel
theorem dX7_copy_29 : decode cX7_copy 29 = .ok (.ifCond .lt 35, 3) := by decide +kernel
theorem dX7_copy_32 : decode cX7_copy 32 = .ok (.aload_n 0, 1) := by decide +kernel
theorem dX7_copy_33 : decode cX7_copy 33 = .ok (.iload_n 1, 1) := by decide +kernel
theorem dX7_copy_34 : decode cX7_copy 34 = .ok (.iload_n 2, 1) := by decide +kernel
theorem dX7_copy_35 : decode cX7_copy 35 = .ok (.invokevirtual 142, 3) := by decide +kernel
theorem dX7_copy_38 : decode cX7_copy 38 = .ok (.iload_n 1, 1) := by decide +kernel
theorem dX7_copy_39 : decode cX7_copy 39 = .ok (.aload_n 0, 1) := by decide +kernel
theorem dX7_copy_40 : decode cX7_copy 40 = .ok (.getfield 7, 3) := by decide +kernel
theorem dX7_copy_43 : decode cX7_copy 43 = .ok (.sipush 9999, 3) := by decide +kernel
theorem dX7_copy_46 : decode cX7_copy 46 = .ok (.imul, 1) := by decide +kernel
theorem dX7_copy_47 : decode cX7_copy 47 = .ok (.iadd, 1) := by decide +kernel
theorem dX7_copy_48 : decode cX7_copy 48 = .ok (.iload_n 2, 1) := by decide +kernel
theorem dX7_copy_49 : decode cX7_copy 49 = .ok (.isub, 1) := by decide +kernel
theorem dX7_copy_50 : decode cX7_copy 50 = .ok (.aload_n 0, 1) := by decide +kernel
theorem dX7_copy_51 : decode cX7_copy 51 = .ok (.getfield 7, 3) := by decide +kernel
theorem dX7_copy_54 : decode cX7_copy 54 = .ok (.irem, 1) := by decide +kernel
theorem dX7_copy_55 : decode cX7_copy 55 = .ok (.if_icmp .ne 9, 3) := by decide +kernel
theorem dX7_copy_58 : decode cX7_copy 58 = .ok (.aload_n 0, 1) := by decide +kernel
theorem dX7_copy_59 : decode cX7_copy 59 = .ok (.iload_n 2, 1) := by decide +kernel
theorem dX7_copy_60 : decode cX7_copy 60 = .ok (.invokevirtual 152, 3) := by decide +kernel
theorem dX7_copy_63 : decode cX7_copy 63 = .ok (.ireturn, 1) := by decide +kernel
theorem dX7_copy_64 : decode cX7_copy 64 = .ok (.iinc 2 1, 3) := by decide +kernel
theorem dX7_copy_67 : decode cX7_copy 67 = .ok (.goto (-55), 3) := by decide +kernel
theorem dX7_copy_70 : decode cX7_copy 70 = .ok (.bipush (-6), 2) := by decide +kernel
theorem dX7_copy_72 : decode cX7_copy 72 = .ok (.ireturn, 1) := by decide +kernel
theorem dX7_furs_0 : decode cX7_furs 0 = .ok (.iload_n 1, 1) := by decide +kernel
theorem dX7_furs_1 : decode cX7_furs 1 = .ok (.iconst 1, 1) := by decide +kernel
theorem dX7_furs_2 : decode cX7_furs 2 = .ok (.bipush 24, 2) := by decide +kernel
theorem dX7_furs_4 : decode cX7_furs 4 = .ok (.invokestatic 78, 3) := by decide +kernel
theorem dX7_furs_7 : decode cX7_furs 7 = .ok (.ifCond .eq 12, 3) := by decide +kernel
theorem dX7_furs_10 : decode cX7_furs 10 = .ok (.iload_n 2, 1) := by decide +kernel
theorem dX7_furs_11 : decode cX7_furs 11 = .ok (.iconst 0, 1) := by decide +kernel
theorem dX7_furs_12 : decode cX7_furs 12 = .ok (.iconst 1, 1) := by decide +kernel
theorem dX7_furs_13 : decode cX7_furs 13 = .ok (.invokestatic 78, 3) := by decide +kernel
theorem dX7_furs_16 : decode cX7_furs 16 = .ok (.ifCond .ne 6, 3) := by decide +kernel
theorem dX7_furs_19 : decode cX7_furs 19 = .ok (.bipush (-2), 2) := by decide +kernel
theorem dX7_furs_21 : decode cX7_furs 21 = .ok (.ireturn, 1) := by decide +kernel
theorem dX7_furs_22 : decode cX7_furs 22 = .ok (.iconst (-1), 1) := by decide +kernel
theorem dX7_furs_23 : decode cX7_furs 23 = .ok (.istore_n 3, 1) := by decide +kernel
theorem dX7_furs_24 : decode cX7_furs 24 = .ok (.iconst 0, 1) := by decide +kernel
theorem dX7_furs_25 : decode cX7_furs 25 = .ok (.istore 4, 2) := by decide +kernel
theorem dX7_furs_27 : decode cX7_furs 27 = .ok (.iconst 0, 1) := by decide +kernel
theorem dX7_furs_28 : decode cX7_furs 28 = .ok (.istore 5, 2) := by decide +kernel
theorem dX7_furs_30 : decode cX7_furs 30 = .ok (.iload 5, 2) := by decide +kernel
theorem dX7_furs_32 : decode cX7_furs 32 = .ok (.iload_n 1, 1) := by decide +kernel
theorem dX7_furs_33 : decode cX7_furs 33 = .ok (.if_icmp .ge 90, 3) := by decide +kernel
theorem dX7_furs_36 : decode cX7_furs 36 = .ok (.iconst 0, 1) := by decide +kernel
theorem dX7_furs_37 : decode cX7_furs 37 = .ok (.istore 6, 2) := by decide +kernel
theorem dX7_furs_39 : decode cX7_furs 39 = .ok (.iconst 0, 1) := by decide +kernel
theorem dX7_furs_40 : decode cX7_furs 40 = .ok (.istore 7, 2) := by decide +kernel
theorem dX7_furs_42 : decode cX7_furs 42 = .ok (.iload 7, 2) := by decide +kernel
theorem dX7_furs_44 : decode cX7_furs 44 = .ok (.aload_n 0, 1) := by decide +kernel
theorem dX7_furs_45 : decode cX7_furs 45 = .ok (.getfield 7, 3) := by decide +kernel
theorem dX7_furs_48 : decode cX7_furs 48 = .ok (.if_icmp .ge 41, 3) := by decide +kernel
theorem dX7_furs_51 : decode cX7_furs 51 = .ok (.iload 6, 2) := by decide +kernel
theorem dX7_furs_53 : decode cX7_furs 53 = .ok (.aload_n 0, 1) := by decide +kernel
theorem dX7_furs_54 : decode cX7_furs 54 = .ok (.getfield 16, 3) := by decide +kernel
theorem dX7_furs_57 : decode cX7_furs 57 = .ok (.iload 7, 2) := by decide +kernel
theorem dX7_furs_59 : decode cX7_furs 59 = .ok (.iaload, 1) := by decide +kernel
theorem dX7_furs_60 : decode cX7_furs 60 = .ok (.ifCond .ge 7, 3) := by decide +kernel
theorem dX7_furs_63 : decode cX7_furs 63 = .ok (.iconst 0, 1) := by decide +kernel
theorem dX7_furs_64 : decode cX7_furs 64 = .ok (.goto 16, 3) := by decide +kernel
theorem dX7_furs_67 : decode cX7_furs 67 = .ok (.aload_n 0, 1) := by decide +kernel
theorem dX7_furs_68 : decode cX7_furs 68 = .ok (.getfield 26, 3) := by decide +kernel
theorem dX7_furs_71 : decode cX7_furs 71 = .ok (.aload_n 0, 1) := by decide +kernel
theorem dX7_furs_72 : decode cX7_furs 72 = .ok (.iload 7, 2) := by decide +kernel
theorem dX7_furs_74 : decode cX7_furs 74 = .ok (.iload 5, 2) := by decide +kernel
theorem dX7_furs_76 : decode cX7_furs 76 = .ok (.invokevirtual 142, 3) := by decide +kernel
theorem dX7_furs_79 : decode cX7_furs 79 = .ok (.iaload, 1) := by decide +kernel
theorem dX7_furs_80 : decode cX7_furs 80 = .ok (.iadd, 1) := by decide +kernel
theorem dX7_furs_81 : decode cX7_furs 81 = .ok (.istore 6, 2) := by decide +kernel
theorem dX7_furs_83 : decode cX7_furs 83 = .ok (.iinc 7 1, 3) := by decide +kernel
theorem dX7_furs_86 : decode cX7_furs 86 = .ok (.goto (-44), 3) := by decide +kernel
theorem dX7_furs_89 : decode cX7_furs 89 = .ok (.iload 6, 2) := by decide +kernel
theorem dX7_furs_91 : decode cX7_furs 91 = .ok (.iload_n 3, 1) := by decide +kernel
theorem dX7_furs_92 : decode cX7_furs 92 = .ok (.if_icmp .le 8, 3) := by decide +kernel
theorem dX7_furs_95 : decode cX7_furs 95 = .ok (.iload 5, 2) := by decide +kernel
theorem dX7_furs_97 : decode cX7_furs 97 = .ok (.goto 5, 3) := by decide +kernel
theorem dX7_furs_100 : decode cX7_furs 100 = .ok (.iload 4, 2) := by decide +kernel
theorem dX7_furs_102 : decode cX7_furs 102 = .ok (.istore 4, 2) := by decide +kernel
theorem dX7_furs_104 : decode cX7_furs 104 = .ok (.iload 6, 2) := by decide +kernel
theorem dX7_furs_106 : decode cX7_furs 106 = .ok (.iload_n 3, 1) := by decide +kernel
theorem dX7_furs_107 : decode cX7_furs 107 = .ok (.if_icmp .le 8, 3) := by decide +kernel
theorem dX7_furs_110 : decode cX7_furs 110 = .ok (.iload 6, 2) := by decide +kernel
theorem dX7_furs_112 : decode cX7_furs 112 = .ok (.goto 4, 3) := by decide +kernel
theorem dX7_furs_115 : decode cX7_furs 115 = .ok (.iload_n 3, 1) := by decide +kernel
theorem dX7_furs_116 : decode cX7_furs 116 = .ok (.istore_n 3, 1) := by decide +kernel
theorem dX7_furs_117 : decode cX7_furs 117 = .ok (.iinc 5 1, 3) := by decide +kernel
theorem dX7_furs_120 : decode cX7_furs 120 = .ok (.goto (-90), 3) := by decide +kernel
theorem dX7_furs_123 : decode cX7_furs 123 = .ok (.iload_n 2, 1) := by decide +kernel
theorem dX7_furs_124 : decode cX7_furs 124 = .ok (.ifCond .ne 7, 3) := by decide +kernel
theorem dX7_furs_127 : decode cX7_furs 127 = .ok (.iload_n 3, 1) := by decide +kernel
theorem dX7_furs_128 : decode cX7_furs 128 = .ok (.goto 5, 3) := by decide +kernel
theorem dX7_furs_131 : decode cX7_furs 131 = .ok (.iload 4, 2) := by decide +kernel
theorem dX7_furs_133 : decode cX7_furs 133 = .ok (.ireturn, 1) := by decide +kernel
theorem dX7_seen_0 : decode cX7_seen 0 = .ok (.aload_n 0, 1) := by decide +kernel
theorem dX7_seen_1 : decode cX7_seen 1 = .ok (.iload_n 1, 1) := by decide +kernel
theorem dX7_seen_2 : decode cX7_seen 2 = .ok (.invokevirtual 82, 3) := by decide +kernel
theorem dX7_seen_5 : decode cX7_seen 5 = .ok (.ifCond .ne 5, 3) := by decide +kernel
theorem dX7_seen_8 : decode cX7_seen 8 = .ok (.iconst (-1), 1) := by decide +kernel
theorem dX7_seen_9 : decode cX7_seen 9 = .ok (.ireturn, 1) := by decide +kernel
theorem dX7_seen_10 : decode cX7_seen 10 = .ok (.aload_n 0, 1) := by decide +kernel
theorem dX7_seen_11 : decode cX7_seen 11 = .ok (.getfield 75, 3) := by decide +kernel
theorem dX7_seen_14 : decode cX7_seen 14 = .ok (.bipush 8, 2) := by decide +kernel
theorem dX7_seen_16 : decode cX7_seen 16 = .ok (.if_icmp .ne 6, 3) := by decide +kernel
theorem dX7_seen_19 : decode cX7_seen 19 = .ok (.bipush (-4), 2) := by decide +kernel
theorem dX7_seen_21 : decode cX7_seen 21 = .ok (.ireturn, 1) := by decide +kernel
theorem dX7_seen_22 : decode cX7_seen 22 = .ok (.aload_n 0, 1) := by decide +kernel
theorem dX7_seen_23 : decode cX7_seen 23 = .ok (.getfield 32, 3) := by decide +kernel
theorem dX7_seen_26 : decode cX7_seen 26 = .ok (.iconst 2, 1) := by decide +kernel
theorem dX7_seen_27 : decode cX7_seen 27 = .ok (.aload_n 0, 1) := by decide +kernel
theorem dX7_seen_28 : decode cX7_seen 28 = .ok (.getfield 75, 3) := by decide +kernel
theorem dX7_seen_31 : decode cX7_seen 31 = .ok (.imul, 1) := by decide +kernel
theorem dX7_seen_32 : decode cX7_seen 32 = .ok (.iload_n 1, 1) := by decide +kernel
theorem dX7_seen_33 : decode cX7_seen 33 = .ok (.iastore, 1) := by decide +kernel
theorem dX7_seen_34 : decode cX7_seen 34 = .ok (.aload_n 0, 1) := by decide +kernel
theorem dX7_seen_35 : decode cX7_seen 35 = .ok (.getfield 32, 3) := by decide +kernel
theorem dX7_seen_38 : decode cX7_seen 38 = .ok (.iconst 2, 1) := by decide +kernel
theorem dX7_seen_39 : decode cX7_seen 39 = .ok (.aload_n 0, 1) := by decide +kernel
theorem dX7_seen_40 : decode cX7_seen 40 = .ok (.getfield 75, 3) := by decide +kernel
theorem dX7_seen_43 : decode cX7_seen 43 = .ok (.imul, 1) := by decide +kernel
theorem dX7_seen_44 : decode cX7_seen 44 = .ok (.iconst 1, 1) := by decide +kernel
theorem dX7_seen_45 : decode cX7_seen 45 = .ok (.iadd, 1) := by decide +kernel
theorem dX7_seen_46 : decode cX7_seen 46 = .ok (.iload_n 2, 1) := by decide +kernel
theorem dX7_seen_47 : decode cX7_seen 47 = .ok (.ifCond .eq 7, 3) := by decide +kernel
theorem dX7_seen_50 : decode cX7_seen 50 = .ok (.iconst 1, 1) := by decide +kernel
theorem dX7_seen_51 : decode cX7_seen 51 = .ok (.goto 4, 3) := by decide +kernel
theorem dX7_seen_54 : decode cX7_seen 54 = .ok (.iconst 0, 1) := by decide +kernel
theorem dX7_seen_55 : decode cX7_seen 55 = .ok (.iastore, 1) := by decide +kernel
theorem dX7_seen_56 : decode cX7_seen 56 = .ok (.aload_n 0, 1) := by decide +kernel
theorem dX7_seen_57 : decode cX7_seen 57 = .ok (.dup, 1) := by decide +kernel
theorem dX7_seen_58 : decode cX7_seen 58 = .ok (.getfield 75, 3) := by decide +kernel
theorem dX7_seen_61 : decode cX7_seen 61 = .ok (.iconst 1, 1) := by decide +kernel
theorem dX7_seen_62 : decode cX7_seen 62 = .ok (.iadd, 1) := by decide +kernel
theorem dX7_seen_63 : decode cX7_seen 63 = .ok (.putfield 75, 3) := by decide +kernel
theorem dX7_seen_66 : decode cX7_seen 66 = .ok (.aload_n 0, 1) := by decide +kernel
theorem dX7_seen_67 : decode cX7_seen 67 = .ok (.getfield 75, 3) := by decide +kernel
theorem dX7_seen_70 : decode cX7_seen 70 = .ok (.ireturn, 1) := by decide +kernel
theorem dX7_forget_0 : decode cX7_forget 0 = .ok (.aload_n 0, 1) := by decide +kernel
theorem dX7_forget_1 : decode cX7_forget 1 = .ok (.getfield 75, 3) := by decide +kernel
theorem dX7_forget_4 : decode cX7_forget 4 = .ok (.istore_n 1, 1) := by decide +kernel
theorem dX7_forget_5 : decode cX7_forget 5 = .ok (.aload_n 0, 1) := by decide +kernel
theorem dX7_forget_6 : decode cX7_forget 6 = .ok (.iconst 0, 1) := by decide +kernel
theorem dX7_forget_7 : decode cX7_forget 7 = .ok (.putfield 75, 3) := by decide +kernel
theorem dX7_forget_10 : decode cX7_forget 10 = .ok (.iload_n 1, 1) := by decide +kernel
theorem dX7_forget_11 : decode cX7_forget 11 = .ok (.ireturn, 1) := by decide +kernel
theorem dX7_living_0 : decode cX7_living 0 = .ok (.iconst 0, 1) := by decide +kernel
theorem dX7_living_1 : decode cX7_living 1 = .ok (.istore_n 1, 1) := by decide +kernel
theorem dX7_living_2 : decode cX7_living 2 = .ok (.iconst 0, 1) := by decide +kernel
theorem dX7_living_3 : decode cX7_living 3 = .ok (.istore_n 2, 1) := by decide +kernel
theorem dX7_living_4 : decode cX7_living 4 = .ok (.iload_n 2, 1) := by decide +kernel
theorem dX7_living_5 : decode cX7_living 5 = .ok (.aload_n 0, 1) := by decide +kernel
theorem dX7_living_6 : decode cX7_living 6 = .ok (.getfield 7, 3) := by decide +kernel
theorem dX7_living_9 : decode cX7_living 9 = .ok (.if_icmp .ge 33, 3) := by decide +kernel
theorem dX7_living_12 : decode cX7_living 12 = .ok (.iload_n 1, 1) := by decide +kernel
theorem dX7_living_13 : decode cX7_living 13 = .ok (.aload_n 0, 1) := by decide +kernel
theorem dX7_living_14 : decode cX7_living 14 = .ok (.getfield 16, 3) := by decide +kernel
theorem dX7_living_17 : decode cX7_living 17 = .ok (.iload_n 2, 1) := by decide +kernel
theorem dX7_living_18 : decode cX7_living 18 = .ok (.iaload, 1) := by decide +kernel
theorem dX7_living_19 : decode cX7_living 19 = .ok (.ifCond .lt 14, 3) := by decide +kernel
theorem dX7_living_22 : decode cX7_living 22 = .ok (.iconst 1, 1) := by decide +kernel
theorem dX7_living_23 : decode cX7_living 23 = .ok (.aload_n 0, 1) := by decide +kernel
theorem dX7_living_24 : decode cX7_living 24 = .ok (.getfield 20, 3) := by decide +kernel
theorem dX7_living_27 : decode cX7_living 27 = .ok (.iload_n 2, 1) := by decide +kernel
theorem dX7_living_28 : decode cX7_living 28 = .ok (.iaload, 1) := by decide +kernel
theorem dX7_living_29 : decode cX7_living 29 = .ok (.ishl, 1) := by decide +kernel
theorem dX7_living_30 : decode cX7_living 30 = .ok (.goto 4, 3) := by decide +kernel
theorem dX7_living_33 : decode cX7_living 33 = .ok (.iconst 0, 1) := by decide +kernel
theorem dX7_living_34 : decode cX7_living 34 = .ok (.ior, 1) := by decide +kernel
theorem dX7_living_35 : decode cX7_living 35 = .ok (.istore_n 1, 1) := by decide +kernel
theorem dX7_living_36 : decode cX7_living 36 = .ok (.iinc 2 1, 3) := by decide +kernel
theorem dX7_living_39 : decode cX7_living 39 = .ok (.goto (-35), 3) := by decide +kernel
theorem dX7_living_42 : decode cX7_living 42 = .ok (.iload_n 1, 1) := by decide +kernel
theorem dX7_living_43 : decode cX7_living 43 = .ok (.ireturn, 1) := by decide +kernel
theorem dX7_deals_0 : decode cX7_deals 0 = .ok (.iload_n 1, 1) := by decide +kernel
theorem dX7_deals_1 : decode cX7_deals 1 = .ok (.istore_n 2, 1) := by decide +kernel
theorem dX7_deals_2 : decode cX7_deals 2 = .ok (.iconst 0, 1) := by decide +kernel
theorem dX7_deals_3 : decode cX7_deals 3 = .ok (.istore_n 3, 1) := by decide +kernel
theorem dX7_deals_4 : decode cX7_deals 4 = .ok (.iconst 1, 1) := by decide +kernel
theorem dX7_deals_5 : decode cX7_deals 5 = .ok (.istore 4, 2) := by decide +kernel
theorem dX7_deals_7 : decode cX7_deals 7 = .ok (.aload_n 0, 1) := by decide +kernel
theorem dX7_deals_8 : decode cX7_deals 8 = .ok (.getfield 7, 3) := by decide +kernel
theorem dX7_deals_11 : decode cX7_deals 11 = .ok (.iconst 1, 1) := by decide +kernel
theorem dX7_deals_12 : decode cX7_deals 12 = .ok (.isub, 1) := by decide +kernel
theorem dX7_deals_13 : decode cX7_deals 13 = .ok (.istore 5, 2) := by decide +kernel
theorem dX7_deals_15 : decode cX7_deals 15 = .ok (.iload 5, 2) := by decide +kernel
theorem dX7_deals_17 : decode cX7_deals 17 = .ok (.ifCond .lt 143, 3) := by decide +kernel
theorem dX7_deals_20 : decode cX7_deals 20 = .ok (.iload 4, 2) := by decide +kernel
theorem dX7_deals_22 : decode cX7_deals 22 = .ok (.ifCond .eq 138, 3) := by decide +kernel
theorem dX7_deals_25 : decode cX7_deals 25 = .ok (.aload_n 0, 1) := by decide +kernel
theorem dX7_deals_26 : decode cX7_deals 26 = .ok (.getfield 50, 3) := by decide +kernel
theorem dX7_deals_29 : decode cX7_deals 29 = .ok (.iload 5, 2) := by decide +kernel
theorem dX7_deals_31 : decode cX7_deals 31 = .ok (.iload_n 2, 1) := by decide +kernel
theorem dX7_deals_32 : decode cX7_deals 32 = .ok (.bipush 7, 2) := by decide +kernel
theorem dX7_deals_34 : decode cX7_deals 34 = .ok (.irem, 1) := by decide +kernel
theorem dX7_deals_35 : decode cX7_deals 35 = .ok (.iastore, 1) := by decide +kernel
theorem dX7_deals_36 : decode cX7_deals 36 = .ok (.iload_n 2, 1) := by decide +kernel
theorem dX7_deals_37 : decode cX7_deals 37 = .ok (.bipush 7, 2) := by decide +kernel
theorem dX7_deals_39 : decode cX7_deals 39 = .ok (.idiv, 1) := by decide +kernel
theorem dX7_deals_40 : decode cX7_deals 40 = .ok (.istore_n 2, 1) := by decide +kernel
theorem dX7_deals_41 : decode cX7_deals 41 = .ok (.aload_n 0, 1) := by decide +kernel
theorem dX7_deals_42 : decode cX7_deals 42 = .ok (.getfield 16, 3) := by decide +kernel
theorem dX7_deals_45 : decode cX7_deals 45 = .ok (.iload 5, 2) := by decide +kernel
theorem dX7_deals_47 : decode cX7_deals 47 = .ok (.iaload, 1) := by decide +kernel
theorem dX7_deals_48 : decode cX7_deals 48 = .ok (.ifCond .ge 23, 3) := by decide +kernel
theorem dX7_deals_51 : decode cX7_deals 51 = .ok (.aload_n 0, 1) := by decide +kernel
theorem dX7_deals_52 : decode cX7_deals 52 = .ok (.getfield 50, 3) := by decide +kernel
theorem dX7_deals_55 : decode cX7_deals 55 = .ok (.iload 5, 2) := by decide +kernel
theorem dX7_deals_57 : decode cX7_deals 57 = .ok (.iaload, 1) := by decide +kernel
theorem dX7_deals_58 : decode cX7_deals 58 = .ok (.bipush 6, 2) := by decide +kernel
theorem dX7_deals_60 : decode cX7_deals 60 = .ok (.if_icmp .ne 7, 3) := by decide +kernel
theorem dX7_deals_63 : decode cX7_deals 63 = .ok (.iconst 1, 1) := by decide +kernel
theorem dX7_deals_64 : decode cX7_deals 64 = .ok (.goto 55, 3) := by decide +kernel
theorem dX7_deals_67 : decode cX7_deals 67 = .ok (.iconst 0, 1) := by decide +kernel
theorem dX7_deals_68 : decode cX7_deals 68 = .ok (.goto 51, 3) := by decide +kernel
theorem dX7_deals_71 : decode cX7_deals 71 = .ok (.aload_n 0, 1) := by decide +kernel
theorem dX7_deals_72 : decode cX7_deals 72 = .ok (.getfield 50, 3) := by decide +kernel
theorem dX7_deals_75 : decode cX7_deals 75 = .ok (.iload 5, 2) := by decide +kernel
theorem dX7_deals_77 : decode cX7_deals 77 = .ok (.iaload, 1) := by decide +kernel
theorem dX7_deals_78 : decode cX7_deals 78 = .ok (.bipush 6, 2) := by decide +kernel
theorem dX7_deals_80 : decode cX7_deals 80 = .ok (.if_icmp .ge 38, 3) := by decide +kernel
theorem dX7_deals_83 : decode cX7_deals 83 = .ok (.aload_n 0, 1) := by decide +kernel
theorem dX7_deals_84 : decode cX7_deals 84 = .ok (.invokevirtual 166, 3) := by decide +kernel
theorem dX7_deals_87 : decode cX7_deals 87 = .ok (.aload_n 0, 1) := by decide +kernel
theorem dX7_deals_88 : decode cX7_deals 88 = .ok (.getfield 50, 3) := by decide +kernel
theorem dX7_deals_91 : decode cX7_deals 91 = .ok (.iload 5, 2) := by decide +kernel
theorem dX7_deals_93 : decode cX7_deals 93 = .ok (.iaload, 1) := by decide +kernel
theorem dX7_deals_94 : decode cX7_deals 94 = .ok (.invokestatic 169, 3) := by decide +kernel
theorem dX7_deals_97 : decode cX7_deals 97 = .ok (.ifCond .eq 21, 3) := by decide +kernel
theorem dX7_deals_100 : decode cX7_deals 100 = .ok (.iload_n 3, 1) := by decide +kernel
theorem dX7_deals_101 : decode cX7_deals 101 = .ok (.aload_n 0, 1) := by decide +kernel
theorem dX7_deals_102 : decode cX7_deals 102 = .ok (.getfield 50, 3) := by decide +kernel
theorem dX7_deals_105 : decode cX7_deals 105 = .ok (.iload 5, 2) := by decide +kernel
theorem dX7_deals_107 : decode cX7_deals 107 = .ok (.iaload, 1) := by decide +kernel
theorem dX7_deals_108 : decode cX7_deals 108 = .ok (.invokestatic 169, 3) := by decide +kernel
theorem dX7_deals_111 : decode cX7_deals 111 = .ok (.ifCond .ne 7, 3) := by decide +kernel
theorem dX7_deals_114 : decode cX7_deals 114 = .ok (.iconst 1, 1) := by decide +kernel
theorem dX7_deals_115 : decode cX7_deals 115 = .ok (.goto 4, 3) := by decide +kernel
theorem dX7_deals_118 : decode cX7_deals 118 = .ok (.iconst 0, 1) := by decide +kernel
theorem dX7_deals_119 : decode cX7_deals 119 = .ok (.istore 4, 2) := by decide +kernel
theorem dX7_deals_121 : decode cX7_deals 121 = .ok (.iload_n 3, 1) := by decide +kernel
theorem dX7_deals_122 : decode cX7_deals 122 = .ok (.iload 4, 2) := by decide +kernel
theorem dX7_deals_124 : decode cX7_deals 124 = .ok (.ifCond .eq 27, 3) := by decide +kernel
theorem dX7_deals_127 : decode cX7_deals 127 = .ok (.aload_n 0, 1) := by decide +kernel
theorem dX7_deals_128 : decode cX7_deals 128 = .ok (.getfield 50, 3) := by decide +kernel
theorem dX7_deals_131 : decode cX7_deals 131 = .ok (.iload 5, 2) := by decide +kernel
theorem dX7_deals_133 : decode cX7_deals 133 = .ok (.iaload, 1) := by decide +kernel
theorem dX7_deals_134 : decode cX7_deals 134 = .ok (.bipush 6, 2) := by decide +kernel
theorem dX7_deals_136 : decode cX7_deals 136 = .ok (.if_icmp .ge 15, 3) := by decide +kernel
theorem dX7_deals_139 : decode cX7_deals 139 = .ok (.iconst 1, 1) := by decide +kernel
theorem dX7_deals_140 : decode cX7_deals 140 = .ok (.aload_n 0, 1) := by decide +kernel
theorem dX7_deals_141 : decode cX7_deals 141 = .ok (.getfield 50, 3) := by decide +kernel
theorem dX7_deals_144 : decode cX7_deals 144 = .ok (.iload 5, 2) := by decide +kernel
theorem dX7_deals_146 : decode cX7_deals 146 = .ok (.iaload, 1) := by decide +kernel
theorem dX7_deals_147 : decode cX7_deals 147 = .ok (.ishl, 1) := by decide +kernel
theorem dX7_deals_148 : decode cX7_deals 148 = .ok (.goto 4, 3) := by decide +kernel
theorem dX7_deals_151 : decode cX7_deals 151 = .ok (.iconst 0, 1) := by decide +kernel
theorem dX7_deals_152 : decode cX7_deals 152 = .ok (.ior, 1) := by decide +kernel
theorem dX7_deals_153 : decode cX7_deals 153 = .ok (.istore_n 3, 1) := by decide +kernel
theorem dX7_deals_154 : decode cX7_deals 154 = .ok (.iinc 5 (-1), 3) := by decide +kernel
theorem dX7_deals_157 : decode cX7_deals 157 = .ok (.goto (-142), 3) := by decide +kernel
theorem dX7_deals_160 : decode cX7_deals 160 = .ok (.iload 4, 2) := by decide +kernel
theorem dX7_deals_162 : decode cX7_deals 162 = .ok (.ireturn, 1) := by decide +kernel
theorem dX7_coughOf_0 : decode cX7_coughOf 0 = .ok (.bipush (-6), 2) := by decide +kernel
theorem dX7_coughOf_2 : decode cX7_coughOf 2 = .ok (.istore_n 2, 1) := by decide +kernel
theorem dX7_coughOf_3 : decode cX7_coughOf 3 = .ok (.iconst 0, 1) := by decide +kernel
theorem dX7_coughOf_4 : decode cX7_coughOf 4 = .ok (.istore_n 3, 1) := by decide +kernel
theorem dX7_coughOf_5 : decode cX7_coughOf 5 = .ok (.iload_n 3, 1) := by decide +kernel
theorem dX7_coughOf_6 : decode cX7_coughOf 6 = .ok (.aload_n 0, 1) := by decide +kernel
theorem dX7_coughOf_7 : decode cX7_coughOf 7 = .ok (.getfield 7, 3) := by decide +kernel
theorem dX7_coughOf_10 : decode cX7_coughOf 10 = .ok (.if_icmp .ge 30, 3) := by decide +kernel
theorem dX7_coughOf_13 : decode cX7_coughOf 13 = .ok (.aload_n 0, 1) := by decide +kernel
theorem dX7_coughOf_14 : decode cX7_coughOf 14 = .ok (.getfield 50, 3) := by decide +kernel
theorem dX7_coughOf_17 : decode cX7_coughOf 17 = .ok (.iload_n 3, 1) := by decide +kernel
theorem dX7_coughOf_18 : decode cX7_coughOf 18 = .ok (.iaload, 1) := by decide +kernel
theorem dX7_coughOf_19 : decode cX7_coughOf 19 = .ok (.iload_n 1, 1) := by decide +kernel
theorem dX7_coughOf_20 : decode cX7_coughOf 20 = .ok (.if_icmp .ne 12, 3) := by decide +kernel
theorem dX7_coughOf_23 : decode cX7_coughOf 23 = .ok (.aload_n 0, 1) := by decide +kernel
theorem dX7_coughOf_24 : decode cX7_coughOf 24 = .ok (.getfield 29, 3) := by decide +kernel
theorem dX7_coughOf_27 : decode cX7_coughOf 27 = .ok (.iload_n 3, 1) := by decide +kernel
theorem dX7_coughOf_28 : decode cX7_coughOf 28 = .ok (.iaload, 1) := by decide +kernel
theorem dX7_coughOf_29 : decode cX7_coughOf 29 = .ok (.goto 4, 3) := by decide +kernel
theorem dX7_coughOf_32 : decode cX7_coughOf 32 = .ok (.iload_n 2, 1) := by decide +kernel
theorem dX7_coughOf_33 : decode cX7_coughOf 33 = .ok (.istore_n 2, 1) := by decide +kernel
theorem dX7_coughOf_34 : decode cX7_coughOf 34 = .ok (.iinc 3 1, 3) := by decide +kernel
theorem dX7_coughOf_37 : decode cX7_coughOf 37 = .ok (.goto (-32), 3) := by decide +kernel
theorem dX7_coughOf_40 : decode cX7_coughOf 40 = .ok (.iload_n 2, 1) := by decide +kernel
theorem dX7_coughOf_41 : decode cX7_coughOf 41 = .ok (.ireturn, 1) := by decide +kernel
theorem dX7_codes_0 : decode cX7_codes 0 = .ok (.iconst 1, 1) := by decide +kernel
theorem dX7_codes_1 : decode cX7_codes 1 = .ok (.istore_n 1, 1) := by decide +kernel
theorem dX7_codes_2 : decode cX7_codes 2 = .ok (.iconst 0, 1) := by decide +kernel
theorem dX7_codes_3 : decode cX7_codes 3 = .ok (.istore_n 2, 1) := by decide +kernel
theorem dX7_codes_4 : decode cX7_codes 4 = .ok (.iload_n 2, 1) := by decide +kernel
theorem dX7_codes_5 : decode cX7_codes 5 = .ok (.aload_n 0, 1) := by decide +kernel
theorem dX7_codes_6 : decode cX7_codes 6 = .ok (.getfield 7, 3) := by decide +kernel
theorem dX7_codes_9 : decode cX7_codes 9 = .ok (.if_icmp .ge 14, 3) := by decide +kernel
theorem dX7_codes_12 : decode cX7_codes 12 = .ok (.iload_n 1, 1) := by decide +kernel
theorem dX7_codes_13 : decode cX7_codes 13 = .ok (.bipush 7, 2) := by decide +kernel
theorem dX7_codes_15 : decode cX7_codes 15 = .ok (.imul, 1) := by decide +kernel
theorem dX7_codes_16 : decode cX7_codes 16 = .ok (.istore_n 1, 1) := by decide +kernel
theorem dX7_codes_17 : decode cX7_codes 17 = .ok (.iinc 2 1, 3) := by decide +kernel
theorem dX7_codes_20 : decode cX7_codes 20 = .ok (.goto (-16), 3) := by decide +kernel
theorem dX7_codes_23 : decode cX7_codes 23 = .ok (.iload_n 1, 1) := by decide +kernel
theorem dX7_codes_24 : decode cX7_codes 24 = .ok (.ireturn, 1) := by decide +kernel
theorem dX7_isRow_0 : decode cX7_isRow 0 = .ok (.aload_n 0, 1) := by decide +kernel
theorem dX7_isRow_1 : decode cX7_isRow 1 = .ok (.iload_n 1, 1) := by decide +kernel
theorem dX7_isRow_2 : decode cX7_isRow 2 = .ok (.invokevirtual 172, 3) := by decide +kernel
theorem dX7_isRow_5 : decode cX7_isRow 5 = .ok (.istore_n 2, 1) := by decide +kernel
theorem dX7_isRow_6 : decode cX7_isRow 6 = .ok (.iconst 0, 1) := by decide +kernel
theorem dX7_isRow_7 : decode cX7_isRow 7 = .ok (.istore_n 3, 1) := by decide +kernel
theorem dX7_isRow_8 : decode cX7_isRow 8 = .ok (.iload_n 3, 1) := by decide +kernel
theorem dX7_isRow_9 : decode cX7_isRow 9 = .ok (.aload_n 0, 1) := by decide +kernel
theorem dX7_isRow_10 : decode cX7_isRow 10 = .ok (.getfield 75, 3) := by decide +kernel
theorem dX7_isRow_13 : decode cX7_isRow 13 = .ok (.if_icmp .ge 44, 3) := by decide +kernel
theorem dX7_isRow_16 : decode cX7_isRow 16 = .ok (.iload_n 2, 1) := by decide +kernel
theorem dX7_isRow_17 : decode cX7_isRow 17 = .ok (.ifCond .eq 40, 3) := by decide +kernel
theorem dX7_isRow_20 : decode cX7_isRow 20 = .ok (.aload_n 0, 1) := by decide +kernel
theorem dX7_isRow_21 : decode cX7_isRow 21 = .ok (.aload_n 0, 1) := by decide +kernel
theorem dX7_isRow_22 : decode cX7_isRow 22 = .ok (.getfield 32, 3) := by decide +kernel
theorem dX7_isRow_25 : decode cX7_isRow 25 = .ok (.iconst 2, 1) := by decide +kernel
theorem dX7_isRow_26 : decode cX7_isRow 26 = .ok (.iload_n 3, 1) := by decide +kernel
theorem dX7_isRow_27 : decode cX7_isRow 27 = .ok (.imul, 1) := by decide +kernel
theorem dX7_isRow_28 : decode cX7_isRow 28 = .ok (.iaload, 1) := by decide +kernel
theorem dX7_isRow_29 : decode cX7_isRow 29 = .ok (.invokevirtual 175, 3) := by decide +kernel
theorem dX7_isRow_32 : decode cX7_isRow 32 = .ok (.aload_n 0, 1) := by decide +kernel
theorem dX7_isRow_33 : decode cX7_isRow 33 = .ok (.getfield 32, 3) := by decide +kernel
theorem dX7_isRow_36 : decode cX7_isRow 36 = .ok (.iconst 2, 1) := by decide +kernel
theorem dX7_isRow_37 : decode cX7_isRow 37 = .ok (.iload_n 3, 1) := by decide +kernel
theorem dX7_isRow_38 : decode cX7_isRow 38 = .ok (.imul, 1) := by decide +kernel
theorem dX7_isRow_39 : decode cX7_isRow 39 = .ok (.iconst 1, 1) := by decide +kernel
theorem dX7_isRow_40 : decode cX7_isRow 40 = .ok (.iadd, 1) := by decide +kernel
theorem dX7_isRow_41 : decode cX7_isRow 41 = .ok (.iaload, 1) := by decide +kernel
theorem dX7_isRow_42 : decode cX7_isRow 42 = .ok (.if_icmp .ne 7, 3) := by decide +kernel
theorem dX7_isRow_45 : decode cX7_isRow 45 = .ok (.iconst 1, 1) := by decide +kernel
theorem dX7_isRow_46 : decode cX7_isRow 46 = .ok (.goto 4, 3) := by decide +kernel
theorem dX7_isRow_49 : decode cX7_isRow 49 = .ok (.iconst 0, 1) := by decide +kernel
theorem dX7_isRow_50 : decode cX7_isRow 50 = .ok (.istore_n 2, 1) := by decide +kernel
theorem dX7_isRow_51 : decode cX7_isRow 51 = .ok (.iinc 3 1, 3) := by decide +kernel
theorem dX7_isRow_54 : decode cX7_isRow 54 = .ok (.goto (-46), 3) := by decide +kernel
theorem dX7_isRow_57 : decode cX7_isRow 57 = .ok (.iload_n 2, 1) := by decide +kernel
theorem dX7_isRow_58 : decode cX7_isRow 58 = .ok (.ireturn, 1) := by decide +kernel
theorem dX7_changed_0 : decode cX7_changed 0 = .ok (.aload_n 0, 1) := by decide +kernel
theorem dX7_changed_1 : decode cX7_changed 1 = .ok (.invokevirtual 178, 3) := by decide +kernel
theorem dX7_changed_4 : decode cX7_changed 4 = .ok (.istore_n 2, 1) := by decide +kernel
theorem dX7_changed_5 : decode cX7_changed 5 = .ok (.iconst 0, 1) := by decide +kernel
theorem dX7_changed_6 : decode cX7_changed 6 = .ok (.istore_n 3, 1) := by decide +kernel
theorem dX7_changed_7 : decode cX7_changed 7 = .ok (.iconst 0, 1) := by decide +kernel
theorem dX7_changed_8 : decode cX7_changed 8 = .ok (.istore 4, 2) := by decide +kernel
theorem dX7_changed_10 : decode cX7_changed 10 = .ok (.iload 4, 2) := by decide +kernel
theorem dX7_changed_12 : decode cX7_changed 12 = .ok (.iload_n 2, 1) := by decide +kernel
theorem dX7_changed_13 : decode cX7_changed 13 = .ok (.if_icmp .ge 65, 3) := by decide +kernel
theorem dX7_changed_16 : decode cX7_changed 16 = .ok (.aload_n 0, 1) := by decide +kernel
theorem dX7_changed_17 : decode cX7_changed 17 = .ok (.iload 4, 2) := by decide +kernel
theorem dX7_changed_19 : decode cX7_changed 19 = .ok (.invokevirtual 181, 3) := by decide +kernel
theorem dX7_changed_22 : decode cX7_changed 22 = .ok (.ifCond .eq 50, 3) := by decide +kernel
theorem dX7_changed_25 : decode cX7_changed 25 = .ok (.iload_n 3, 1) := by decide +kernel
theorem dX7_changed_26 : decode cX7_changed 26 = .ok (.iload_n 1, 1) := by decide +kernel
theorem dX7_changed_27 : decode cX7_changed 27 = .ok (.if_icmp .ne 42, 3) := by decide +kernel
theorem dX7_changed_30 : decode cX7_changed 30 = .ok (.iconst 0, 1) := by decide +kernel
theorem dX7_changed_31 : decode cX7_changed 31 = .ok (.istore 5, 2) := by decide +kernel
theorem dX7_changed_33 : decode cX7_changed 33 = .ok (.iconst 0, 1) := by decide +kernel
theorem dX7_changed_34 : decode cX7_changed 34 = .ok (.istore 6, 2) := by decide +kernel
theorem dX7_changed_36 : decode cX7_changed 36 = .ok (.iload 6, 2) := by decide +kernel
theorem dX7_changed_38 : decode cX7_changed 38 = .ok (.aload_n 0, 1) := by decide +kernel
theorem dX7_changed_39 : decode cX7_changed 39 = .ok (.getfield 7, 3) := by decide +kernel
theorem dX7_changed_42 : decode cX7_changed 42 = .ok (.if_icmp .ge 24, 3) := by decide +kernel
theorem dX7_changed_45 : decode cX7_changed 45 = .ok (.bipush 10, 2) := by decide +kernel
theorem dX7_changed_47 : decode cX7_changed 47 = .ok (.iload 5, 2) := by decide +kernel
theorem dX7_changed_49 : decode cX7_changed 49 = .ok (.imul, 1) := by decide +kernel
theorem dX7_changed_50 : decode cX7_changed 50 = .ok (.aload_n 0, 1) := by decide +kernel
theorem dX7_changed_51 : decode cX7_changed 51 = .ok (.getfield 50, 3) := by decide +kernel
theorem dX7_changed_54 : decode cX7_changed 54 = .ok (.iload 6, 2) := by decide +kernel
theorem dX7_changed_56 : decode cX7_changed 56 = .ok (.iaload, 1) := by decide +kernel
theorem dX7_changed_57 : decode cX7_changed 57 = .ok (.iadd, 1) := by decide +kernel
theorem dX7_changed_58 : decode cX7_changed 58 = .ok (.istore 5, 2) := by decide +kernel
theorem dX7_changed_60 : decode cX7_changed 60 = .ok (.iinc 6 1, 3) := by decide +kernel
theorem dX7_changed_63 : decode cX7_changed 63 = .ok (.goto (-27), 3) := by decide +kernel
theorem dX7_changed_66 : decode cX7_changed 66 = .ok (.iload 5, 2) := by decide +kernel
theorem dX7_changed_68 : decode cX7_changed 68 = .ok (.ireturn, 1) := by decide +kernel
theorem dX7_changed_69 : decode cX7_changed 69 = .ok (.iinc 3 1, 3) := by decide +kernel
theorem dX7_changed_72 : decode cX7_changed 72 = .ok (.iinc 4 1, 3) := by decide +kernel
theorem dX7_changed_75 : decode cX7_changed 75 = .ok (.goto (-65), 3) := by decide +kernel
theorem dX7_changed_78 : decode cX7_changed 78 = .ok (.iload_n 1, 1) := by decide +kernel
theorem dX7_changed_79 : decode cX7_changed 79 = .ok (.iconst (-1), 1) := by decide +kernel
theorem dX7_changed_80 : decode cX7_changed 80 = .ok (.if_icmp .ne 7, 3) := by decide +kernel
theorem dX7_changed_83 : decode cX7_changed 83 = .ok (.iload_n 3, 1) := by decide +kernel
theorem dX7_changed_84 : decode cX7_changed 84 = .ok (.goto 5, 3) := by decide +kernel
theorem dX7_changed_87 : decode cX7_changed 87 = .ok (.bipush (-6), 2) := by decide +kernel
theorem dX7_changed_89 : decode cX7_changed 89 = .ok (.ireturn, 1) := by decide +kernel
theorem dX7_names_0 : decode cX7_names 0 = .ok (.aload_n 0, 1) := by decide +kernel
theorem dX7_names_1 : decode cX7_names 1 = .ok (.iload_n 1, 1) := by decide +kernel
theorem dX7_names_2 : decode cX7_names 2 = .ok (.invokevirtual 82, 3) := by decide +kernel
theorem dX7_names_5 : decode cX7_names 5 = .ok (.ifCond .eq 12, 3) := by decide +kernel
theorem dX7_names_8 : decode cX7_names 8 = .ok (.aload_n 0, 1) := by decide +kernel
theorem dX7_names_9 : decode cX7_names 9 = .ok (.getfield 16, 3) := by decide +kernel
theorem dX7_names_12 : decode cX7_names 12 = .ok (.iload_n 1, 1) := by decide +kernel
theorem dX7_names_13 : decode cX7_names 13 = .ok (.iaload, 1) := by decide +kernel
theorem dX7_names_14 : decode cX7_names 14 = .ok (.ifCond .ge 5, 3) := by decide +kernel
theorem dX7_names_17 : decode cX7_names 17 = .ok (.iconst (-1), 1) := by decide +kernel
theorem dX7_names_18 : decode cX7_names 18 = .ok (.ireturn, 1) := by decide +kernel
theorem dX7_names_19 : decode cX7_names 19 = .ok (.aload_n 0, 1) := by decide +kernel
theorem dX7_names_20 : decode cX7_names 20 = .ok (.invokevirtual 178, 3) := by decide +kernel
theorem dX7_names_23 : decode cX7_names 23 = .ok (.istore_n 2, 1) := by decide +kernel
theorem dX7_names_24 : decode cX7_names 24 = .ok (.iconst 0, 1) := by decide +kernel
theorem dX7_names_25 : decode cX7_names 25 = .ok (.istore_n 3, 1) := by decide +kernel
theorem dX7_names_26 : decode cX7_names 26 = .ok (.iconst 0, 1) := by decide +kernel
theorem dX7_names_27 : decode cX7_names 27 = .ok (.istore 4, 2) := by decide +kernel
theorem dX7_names_29 : decode cX7_names 29 = .ok (.iload 4, 2) := by decide +kernel
theorem dX7_names_31 : decode cX7_names 31 = .ok (.iload_n 2, 1) := by decide +kernel
theorem dX7_names_32 : decode cX7_names 32 = .ok (.if_icmp .ge 33, 3) := by decide +kernel
theorem dX7_names_35 : decode cX7_names 35 = .ok (.iload_n 3, 1) := by decide +kernel
theorem dX7_names_36 : decode cX7_names 36 = .ok (.aload_n 0, 1) := by decide +kernel
theorem dX7_names_37 : decode cX7_names 37 = .ok (.iload 4, 2) := by decide +kernel
theorem dX7_names_39 : decode cX7_names 39 = .ok (.invokevirtual 181, 3) := by decide +kernel
theorem dX7_names_42 : decode cX7_names 42 = .ok (.ifCond .eq 14, 3) := by decide +kernel
theorem dX7_names_45 : decode cX7_names 45 = .ok (.iconst 1, 1) := by decide +kernel
theorem dX7_names_46 : decode cX7_names 46 = .ok (.aload_n 0, 1) := by decide +kernel
theorem dX7_names_47 : decode cX7_names 47 = .ok (.getfield 50, 3) := by decide +kernel
theorem dX7_names_50 : decode cX7_names 50 = .ok (.iload_n 1, 1) := by decide +kernel
theorem dX7_names_51 : decode cX7_names 51 = .ok (.iaload, 1) := by decide +kernel
theorem dX7_names_52 : decode cX7_names 52 = .ok (.ishl, 1) := by decide +kernel
theorem dX7_names_53 : decode cX7_names 53 = .ok (.goto 4, 3) := by decide +kernel
theorem dX7_names_56 : decode cX7_names 56 = .ok (.iconst 0, 1) := by decide +kernel
theorem dX7_names_57 : decode cX7_names 57 = .ok (.ior, 1) := by decide +kernel
theorem dX7_names_58 : decode cX7_names 58 = .ok (.istore_n 3, 1) := by decide +kernel
theorem dX7_names_59 : decode cX7_names 59 = .ok (.iinc 4 1, 3) := by decide +kernel
theorem dX7_names_62 : decode cX7_names 62 = .ok (.goto (-33), 3) := by decide +kernel
theorem dX7_names_65 : decode cX7_names 65 = .ok (.iload_n 3, 1) := by decide +kernel
theorem dX7_names_66 : decode cX7_names 66 = .ok (.ireturn, 1) := by decide +kernel
theorem dX7_hear_0 : decode cX7_hear 0 = .ok (.iload_n 1, 1) := by decide +kernel
theorem dX7_hear_1 : decode cX7_hear 1 = .ok (.iconst 0, 1) := by decide +kernel
theorem dX7_hear_2 : decode cX7_hear 2 = .ok (.iconst 1, 1) := by decide +kernel
theorem dX7_hear_3 : decode cX7_hear 3 = .ok (.invokestatic 78, 3) := by decide +kernel
theorem dX7_hear_6 : decode cX7_hear 6 = .ok (.ifCond .ne 6, 3) := by decide +kernel
theorem dX7_hear_9 : decode cX7_hear 9 = .ok (.bipush (-2), 2) := by decide +kernel
theorem dX7_hear_11 : decode cX7_hear 11 = .ok (.ireturn, 1) := by decide +kernel
theorem dX7_hear_12 : decode cX7_hear 12 = .ok (.aload_n 0, 1) := by decide +kernel
theorem dX7_hear_13 : decode cX7_hear 13 = .ok (.invokevirtual 178, 3) := by decide +kernel
theorem dX7_hear_16 : decode cX7_hear 16 = .ok (.istore_n 2, 1) := by decide +kernel
theorem dX7_hear_17 : decode cX7_hear 17 = .ok (.iconst 0, 1) := by decide +kernel
theorem dX7_hear_18 : decode cX7_hear 18 = .ok (.istore_n 3, 1) := by decide +kernel
theorem dX7_hear_19 : decode cX7_hear 19 = .ok (.iconst 0, 1) := by decide +kernel
theorem dX7_hear_20 : decode cX7_hear 20 = .ok (.istore 4, 2) := by decide +kernel
theorem dX7_hear_22 : decode cX7_hear 22 = .ok (.iload 4, 2) := by decide +kernel
theorem dX7_hear_24 : decode cX7_hear 24 = .ok (.bipush 6, 2) := by decide +kernel
theorem dX7_hear_26 : decode cX7_hear 26 = .ok (.if_icmp .ge 17, 3) := by decide +kernel
theorem dX7_hear_29 : decode cX7_hear 29 = .ok (.aload_n 0, 1) := by decide +kernel
theorem dX7_hear_30 : decode cX7_hear 30 = .ok (.getfield 53, 3) := by decide +kernel
theorem dX7_hear_33 : decode cX7_hear 33 = .ok (.iload 4, 2) := by decide +kernel
theorem dX7_hear_35 : decode cX7_hear 35 = .ok (.iconst 0, 1) := by decide +kernel
theorem dX7_hear_36 : decode cX7_hear 36 = .ok (.iastore, 1) := by decide +kernel
theorem dX7_hear_37 : decode cX7_hear 37 = .ok (.iinc 4 1, 3) := by decide +kernel
theorem dX7_hear_40 : decode cX7_hear 40 = .ok (.goto (-18), 3) := by decide +kernel
theorem dX7_hear_43 : decode cX7_hear 43 = .ok (.iconst 0, 1) := by decide +kernel
theorem dX7_hear_44 : decode cX7_hear 44 = .ok (.istore 4, 2) := by decide +kernel
theorem dX7_hear_46 : decode cX7_hear 46 = .ok (.iload 4, 2) := by decide +kernel
theorem dX7_hear_48 : decode cX7_hear 48 = .ok (.iload_n 2, 1) := by decide +kernel
theorem dX7_hear_49 : decode cX7_hear 49 = .ok (.if_icmp .ge 64, 3) := by decide +kernel
theorem dX7_hear_52 : decode cX7_hear 52 = .ok (.aload_n 0, 1) := by decide +kernel
theorem dX7_hear_53 : decode cX7_hear 53 = .ok (.iload 4, 2) := by decide +kernel
theorem dX7_hear_55 : decode cX7_hear 55 = .ok (.invokevirtual 181, 3) := by decide +kernel
theorem dX7_hear_58 : decode cX7_hear 58 = .ok (.ifCond .eq 49, 3) := by decide +kernel
theorem dX7_hear_61 : decode cX7_hear 61 = .ok (.iinc 3 1, 3) := by decide +kernel
theorem dX7_hear_64 : decode cX7_hear 64 = .ok (.iconst 0, 1) := by decide +kernel
theorem dX7_hear_65 : decode cX7_hear 65 = .ok (.istore 5, 2) := by decide +kernel
theorem dX7_hear_67 : decode cX7_hear 67 = .ok (.iload 5, 2) := by decide +kernel
theorem dX7_hear_69 : decode cX7_hear 69 = .ok (.aload_n 0, 1) := by decide +kernel
theorem dX7_hear_70 : decode cX7_hear 70 = .ok (.getfield 7, 3) := by decide +kernel
theorem dX7_hear_73 : decode cX7_hear 73 = .ok (.if_icmp .ge 34, 3) := by decide +kernel
theorem dX7_hear_76 : decode cX7_hear 76 = .ok (.aload_n 0, 1) := by decide +kernel
theorem dX7_hear_77 : decode cX7_hear 77 = .ok (.getfield 53, 3) := by decide +kernel
theorem dX7_hear_80 : decode cX7_hear 80 = .ok (.iload 5, 2) := by decide +kernel
theorem dX7_hear_82 : decode cX7_hear 82 = .ok (.dup2, 1) := by decide +kernel
theorem dX7_hear_83 : decode cX7_hear 83 = .ok (.iaload, 1) := by decide +kernel
theorem dX7_hear_84 : decode cX7_hear 84 = .ok (.aload_n 0, 1) := by decide +kernel
theorem dX7_hear_85 : decode cX7_hear 85 = .ok (.iload 5, 2) := by decide +kernel
theorem dX7_hear_87 : decode cX7_hear 87 = .ok (.invokevirtual 175, 3) := by decide +kernel
theorem dX7_hear_90 : decode cX7_hear 90 = .ok (.iconst 1, 1) := by decide +kernel
theorem dX7_hear_91 : decode cX7_hear 91 = .ok (.if_icmp .ne 7, 3) := by decide +kernel
theorem dX7_hear_94 : decode cX7_hear 94 = .ok (.iconst 1, 1) := by decide +kernel
theorem dX7_hear_95 : decode cX7_hear 95 = .ok (.goto 4, 3) := by decide +kernel
theorem dX7_hear_98 : decode cX7_hear 98 = .ok (.iconst 0, 1) := by decide +kernel
theorem dX7_hear_99 : decode cX7_hear 99 = .ok (.iadd, 1) := by decide +kernel
theorem dX7_hear_100 : decode cX7_hear 100 = .ok (.iastore, 1) := by decide +kernel
theorem dX7_hear_101 : decode cX7_hear 101 = .ok (.iinc 5 1, 3) := by decide +kernel
theorem dX7_hear_104 : decode cX7_hear 104 = .ok (.goto (-37), 3) := by decide +kernel
theorem dX7_hear_107 : decode cX7_hear 107 = .ok (.iinc 4 1, 3) := by decide +kernel
theorem dX7_hear_110 : decode cX7_hear 110 = .ok (.goto (-64), 3) := by decide +kernel
theorem dX7_hear_113 : decode cX7_hear 113 = .ok (.bipush (-6), 2) := by decide +kernel
theorem dX7_hear_115 : decode cX7_hear 115 = .ok (.istore 4, 2) := by decide +kernel
theorem dX7_hear_117 : decode cX7_hear 117 = .ok (.ldc 184, 2) := by decide +kernel
theorem dX7_hear_119 : decode cX7_hear 119 = .ok (.istore 5, 2) := by decide +kernel
theorem dX7_hear_121 : decode cX7_hear 121 = .ok (.iconst 0, 1) := by decide +kernel
theorem dX7_hear_122 : decode cX7_hear 122 = .ok (.istore 6, 2) := by decide +kernel
theorem dX7_hear_124 : decode cX7_hear 124 = .ok (.iload 6, 2) := by decide +kernel
theorem dX7_hear_126 : decode cX7_hear 126 = .ok (.aload_n 0, 1) := by decide +kernel
theorem dX7_hear_127 : decode cX7_hear 127 = .ok (.getfield 7, 3) := by decide +kernel
theorem dX7_hear_130 : decode cX7_hear 130 = .ok (.if_icmp .ge 107, 3) := by decide +kernel
theorem dX7_hear_133 : decode cX7_hear 133 = .ok (.iload_n 3, 1) := by decide +kernel
theorem dX7_hear_134 : decode cX7_hear 134 = .ok (.ifCond .le 103, 3) := by decide +kernel
theorem dX7_hear_137 : decode cX7_hear 137 = .ok (.aload_n 0, 1) := by decide +kernel
theorem dX7_hear_138 : decode cX7_hear 138 = .ok (.getfield 53, 3) := by decide +kernel
theorem dX7_hear_141 : decode cX7_hear 141 = .ok (.iload 6, 2) := by decide +kernel
theorem dX7_hear_143 : decode cX7_hear 143 = .ok (.iaload, 1) := by decide +kernel
theorem dX7_hear_144 : decode cX7_hear 144 = .ok (.iload_n 3, 1) := by decide +kernel
theorem dX7_hear_145 : decode cX7_hear 145 = .ok (.aload_n 0, 1) := by decide +kernel
theorem dX7_hear_146 : decode cX7_hear 146 = .ok (.getfield 53, 3) := by decide +kernel
theorem dX7_hear_149 : decode cX7_hear 149 = .ok (.iload 6, 2) := by decide +kernel
theorem dX7_hear_151 : decode cX7_hear 151 = .ok (.iaload, 1) := by decide +kernel
theorem dX7_hear_152 : decode cX7_hear 152 = .ok (.isub, 1) := by decide +kernel
theorem dX7_hear_153 : decode cX7_hear 153 = .ok (.if_icmp .le 13, 3) := by decide +kernel
theorem dX7_hear_156 : decode cX7_hear 156 = .ok (.aload_n 0, 1) := by decide +kernel
theorem dX7_hear_157 : decode cX7_hear 157 = .ok (.getfield 53, 3) := by decide +kernel
theorem dX7_hear_160 : decode cX7_hear 160 = .ok (.iload 6, 2) := by decide +kernel
theorem dX7_hear_162 : decode cX7_hear 162 = .ok (.iaload, 1) := by decide +kernel
theorem dX7_hear_163 : decode cX7_hear 163 = .ok (.goto 12, 3) := by decide +kernel
theorem dX7_hear_166 : decode cX7_hear 166 = .ok (.iload_n 3, 1) := by decide +kernel
theorem dX7_hear_167 : decode cX7_hear 167 = .ok (.aload_n 0, 1) := by decide +kernel
theorem dX7_hear_168 : decode cX7_hear 168 = .ok (.getfield 53, 3) := by decide +kernel
theorem dX7_hear_171 : decode cX7_hear 171 = .ok (.iload 6, 2) := by decide +kernel
theorem dX7_hear_173 : decode cX7_hear 173 = .ok (.iaload, 1) := by decide +kernel
theorem dX7_hear_174 : decode cX7_hear 174 = .ok (.isub, 1) := by decide +kernel
theorem dX7_hear_175 : decode cX7_hear 175 = .ok (.istore 7, 2) := by decide +kernel
theorem dX7_hear_177 : decode cX7_hear 177 = .ok (.aload_n 0, 1) := by decide +kernel
theorem dX7_hear_178 : decode cX7_hear 178 = .ok (.invokevirtual 166, 3) := by decide +kernel
theorem dX7_hear_181 : decode cX7_hear 181 = .ok (.iload 6, 2) := by decide +kernel
theorem dX7_hear_183 : decode cX7_hear 183 = .ok (.invokestatic 169, 3) := by decide +kernel
theorem dX7_hear_186 : decode cX7_hear 186 = .ok (.ifCond .eq 14, 3) := by decide +kernel
theorem dX7_hear_189 : decode cX7_hear 189 = .ok (.iload 7, 2) := by decide +kernel
theorem dX7_hear_191 : decode cX7_hear 191 = .ok (.iload 5, 2) := by decide +kernel
theorem dX7_hear_193 : decode cX7_hear 193 = .ok (.if_icmp .ge 7, 3) := by decide +kernel
theorem dX7_hear_196 : decode cX7_hear 196 = .ok (.iconst 1, 1) := by decide +kernel
theorem dX7_hear_197 : decode cX7_hear 197 = .ok (.goto 4, 3) := by decide +kernel
theorem dX7_hear_200 : decode cX7_hear 200 = .ok (.iconst 0, 1) := by decide +kernel
theorem dX7_hear_201 : decode cX7_hear 201 = .ok (.istore 8, 2) := by decide +kernel
theorem dX7_hear_203 : decode cX7_hear 203 = .ok (.iload 8, 2) := by decide +kernel
theorem dX7_hear_205 : decode cX7_hear 205 = .ok (.ifCond .eq 8, 3) := by decide +kernel
theorem dX7_hear_208 : decode cX7_hear 208 = .ok (.iload 6, 2) := by decide +kernel
theorem dX7_hear_210 : decode cX7_hear 210 = .ok (.goto 5, 3) := by decide +kernel
theorem dX7_hear_213 : decode cX7_hear 213 = .ok (.iload 4, 2) := by decide +kernel
theorem dX7_hear_215 : decode cX7_hear 215 = .ok (.istore 4, 2) := by decide +kernel
theorem dX7_hear_217 : decode cX7_hear 217 = .ok (.iload 8, 2) := by decide +kernel
theorem dX7_hear_219 : decode cX7_hear 219 = .ok (.ifCond .eq 8, 3) := by decide +kernel
theorem dX7_hear_222 : decode cX7_hear 222 = .ok (.iload 7, 2) := by decide +kernel
theorem dX7_hear_224 : decode cX7_hear 224 = .ok (.goto 5, 3) := by decide +kernel
theorem dX7_hear_227 : decode cX7_hear 227 = .ok (.iload 5, 2) := by decide +kernel
theorem dX7_hear_229 : decode cX7_hear 229 = .ok (.istore 5, 2) := by decide +kernel
theorem dX7_hear_231 : decode cX7_hear 231 = .ok (.iinc 6 1, 3) := by decide +kernel
theorem dX7_hear_234 : decode cX7_hear 234 = .ok (.goto (-110), 3) := by decide +kernel
theorem dX7_hear_237 : decode cX7_hear 237 = .ok (.iload 4, 2) := by decide +kernel
theorem dX7_hear_239 : decode cX7_hear 239 = .ok (.ifCond .lt 7, 3) := by decide +kernel
theorem dX7_hear_242 : decode cX7_hear 242 = .ok (.iload_n 1, 1) := by decide +kernel
theorem dX7_hear_243 : decode cX7_hear 243 = .ok (.ifCond .ne 8, 3) := by decide +kernel
theorem dX7_hear_246 : decode cX7_hear 246 = .ok (.iload 4, 2) := by decide +kernel
theorem dX7_hear_248 : decode cX7_hear 248 = .ok (.goto 5, 3) := by decide +kernel
theorem dX7_hear_251 : decode cX7_hear 251 = .ok (.iload 5, 2) := by decide +kernel
theorem dX7_hear_253 : decode cX7_hear 253 = .ok (.ireturn, 1) := by decide +kernel
theorem dX7_undo_0 : decode cX7_undo 0 = .ok (.iconst 0, 1) := by decide +kernel
theorem dX7_undo_1 : decode cX7_undo 1 = .ok (.istore_n 1, 1) := by decide +kernel
theorem dX7_undo_2 : decode cX7_undo 2 = .ok (.iconst 0, 1) := by decide +kernel
theorem dX7_undo_3 : decode cX7_undo 3 = .ok (.istore_n 2, 1) := by decide +kernel
theorem dX7_undo_4 : decode cX7_undo 4 = .ok (.iconst 0, 1) := by decide +kernel
theorem dX7_undo_5 : decode cX7_undo 5 = .ok (.istore_n 3, 1) := by decide +kernel
theorem dX7_undo_6 : decode cX7_undo 6 = .ok (.iload_n 3, 1) := by decide +kernel
theorem dX7_undo_7 : decode cX7_undo 7 = .ok (.aload_n 0, 1) := by decide +kernel
theorem dX7_undo_8 : decode cX7_undo 8 = .ok (.getfield 7, 3) := by decide +kernel
theorem dX7_undo_11 : decode cX7_undo 11 = .ok (.if_icmp .ge 32, 3) := by decide +kernel
theorem dX7_undo_14 : decode cX7_undo 14 = .ok (.aload_n 0, 1) := by decide +kernel
theorem dX7_undo_15 : decode cX7_undo 15 = .ok (.getfield 16, 3) := by decide +kernel
theorem dX7_undo_18 : decode cX7_undo 18 = .ok (.iload_n 3, 1) := by decide +kernel
theorem dX7_undo_19 : decode cX7_undo 19 = .ok (.iaload, 1) := by decide +kernel
theorem dX7_undo_20 : decode cX7_undo 20 = .ok (.ifCond .lt 17, 3) := by decide +kernel
theorem dX7_undo_23 : decode cX7_undo 23 = .ok (.aload_n 0, 1) := by decide +kernel
theorem dX7_undo_24 : decode cX7_undo 24 = .ok (.invokevirtual 166, 3) := by decide +kernel
theorem dX7_undo_27 : decode cX7_undo 27 = .ok (.iload_n 3, 1) := by decide +kernel
theorem dX7_undo_28 : decode cX7_undo 28 = .ok (.invokestatic 169, 3) := by decide +kernel
theorem dX7_undo_31 : decode cX7_undo 31 = .ok (.ifCond .ne 6, 3) := by decide +kernel
theorem dX7_undo_34 : decode cX7_undo 34 = .ok (.bipush (-6), 2) := by decide +kernel
theorem dX7_undo_36 : decode cX7_undo 36 = .ok (.ireturn, 1) := by decide +kernel
theorem dX7_undo_37 : decode cX7_undo 37 = .ok (.iinc 3 1, 3) := by decide +kernel
theorem dX7_undo_40 : decode cX7_undo 40 = .ok (.goto (-34), 3) := by decide +kernel
theorem dX7_undo_43 : decode cX7_undo 43 = .ok (.iconst 0, 1) := by decide +kernel
theorem dX7_undo_44 : decode cX7_undo 44 = .ok (.istore_n 3, 1) := by decide +kernel
theorem dX7_undo_45 : decode cX7_undo 45 = .ok (.iload_n 3, 1) := by decide +kernel
theorem dX7_undo_46 : decode cX7_undo 46 = .ok (.aload_n 0, 1) := by decide +kernel
theorem dX7_undo_47 : decode cX7_undo 47 = .ok (.getfield 7, 3) := by decide +kernel
theorem dX7_undo_50 : decode cX7_undo 50 = .ok (.if_icmp .ge 76, 3) := by decide +kernel
theorem dX7_undo_53 : decode cX7_undo 53 = .ok (.aload_n 0, 1) := by decide +kernel
theorem dX7_undo_54 : decode cX7_undo 54 = .ok (.getfield 16, 3) := by decide +kernel
theorem dX7_undo_57 : decode cX7_undo 57 = .ok (.iload_n 3, 1) := by decide +kernel
theorem dX7_undo_58 : decode cX7_undo 58 = .ok (.iaload, 1) := by decide +kernel
theorem dX7_undo_59 : decode cX7_undo 59 = .ok (.ifCond .lt 61, 3) := by decide +kernel
theorem dX7_undo_62 : decode cX7_undo 62 = .ok (.iload_n 2, 1) := by decide +kernel
theorem dX7_undo_63 : decode cX7_undo 63 = .ok (.iload_n 3, 1) := by decide +kernel
theorem dX7_undo_64 : decode cX7_undo 64 = .ok (.invokestatic 169, 3) := by decide +kernel
theorem dX7_undo_67 : decode cX7_undo 67 = .ok (.ifCond .ne 53, 3) := by decide +kernel
theorem dX7_undo_70 : decode cX7_undo 70 = .ok (.iload_n 3, 1) := by decide +kernel
theorem dX7_undo_71 : decode cX7_undo 71 = .ok (.istore 4, 2) := by decide +kernel
theorem dX7_undo_73 : decode cX7_undo 73 = .ok (.iload_n 2, 1) := by decide +kernel
theorem dX7_undo_74 : decode cX7_undo 74 = .ok (.iload 4, 2) := by decide +kernel
theorem dX7_undo_76 : decode cX7_undo 76 = .ok (.invokestatic 169, 3) := by decide +kernel
theorem dX7_undo_79 : decode cX7_undo 79 = .ok (.ifCond .ne 41, 3) := by decide +kernel
theorem dX7_undo_82 : decode cX7_undo 82 = .ok (.iload_n 2, 1) := by decide +kernel
theorem dX7_undo_83 : decode cX7_undo 83 = .ok (.iconst 1, 1) := by decide +kernel
theorem dX7_undo_84 : decode cX7_undo 84 = .ok (.iload 4, 2) := by decide +kernel
theorem dX7_undo_86 : decode cX7_undo 86 = .ok (.ishl, 1) := by decide +kernel
theorem dX7_undo_87 : decode cX7_undo 87 = .ok (.ior, 1) := by decide +kernel
theorem dX7_undo_88 : decode cX7_undo 88 = .ok (.istore_n 2, 1) := by decide +kernel
theorem dX7_undo_89 : decode cX7_undo 89 = .ok (.iload_n 1, 1) := by decide +kernel
theorem dX7_undo_90 : decode cX7_undo 90 = .ok (.aload_n 0, 1) := by decide +kernel
theorem dX7_undo_91 : decode cX7_undo 91 = .ok (.getfield 20, 3) := by decide +kernel
theorem dX7_undo_94 : decode cX7_undo 94 = .ok (.iload 4, 2) := by decide +kernel
theorem dX7_undo_96 : decode cX7_undo 96 = .ok (.iaload, 1) := by decide +kernel
theorem dX7_undo_97 : decode cX7_undo 97 = .ok (.iload_n 3, 1) := by decide +kernel
theorem dX7_undo_98 : decode cX7_undo 98 = .ok (.if_icmp .eq 7, 3) := by decide +kernel
theorem dX7_undo_101 : decode cX7_undo 101 = .ok (.iconst 1, 1) := by decide +kernel
theorem dX7_undo_102 : decode cX7_undo 102 = .ok (.goto 4, 3) := by decide +kernel
theorem dX7_undo_105 : decode cX7_undo 105 = .ok (.iconst 0, 1) := by decide +kernel
theorem dX7_undo_106 : decode cX7_undo 106 = .ok (.iadd, 1) := by decide +kernel
theorem dX7_undo_107 : decode cX7_undo 107 = .ok (.istore_n 1, 1) := by decide +kernel
theorem dX7_undo_108 : decode cX7_undo 108 = .ok (.aload_n 0, 1) := by decide +kernel
theorem dX7_undo_109 : decode cX7_undo 109 = .ok (.getfield 20, 3) := by decide +kernel
theorem dX7_undo_112 : decode cX7_undo 112 = .ok (.iload 4, 2) := by decide +kernel
theorem dX7_undo_114 : decode cX7_undo 114 = .ok (.iaload, 1) := by decide +kernel
theorem dX7_undo_115 : decode cX7_undo 115 = .ok (.istore 4, 2) := by decide +kernel
theorem dX7_undo_117 : decode cX7_undo 117 = .ok (.goto (-44), 3) := by decide +kernel
theorem dX7_undo_120 : decode cX7_undo 120 = .ok (.iinc 3 1, 3) := by decide +kernel
theorem dX7_undo_123 : decode cX7_undo 123 = .ok (.goto (-78), 3) := by decide +kernel
theorem dX7_undo_126 : decode cX7_undo 126 = .ok (.iload_n 1, 1) := by decide +kernel
theorem dX7_undo_127 : decode cX7_undo 127 = .ok (.ireturn, 1) := by decide +kernel
theorem dX7_marriages_0 : decode cX7_marriages 0 = .ok (.iload_n 1, 1) := by decide +kernel
theorem dX7_marriages_1 : decode cX7_marriages 1 = .ok (.iconst 1, 1) := by decide +kernel
theorem dX7_marriages_2 : decode cX7_marriages 2 = .ok (.bipush 24, 2) := by decide +kernel
theorem dX7_marriages_4 : decode cX7_marriages 4 = .ok (.invokestatic 78, 3) := by decide +kernel
theorem dX7_marriages_7 : decode cX7_marriages 7 = .ok (.ifCond .ne 6, 3) := by decide +kernel
theorem dX7_marriages_10 : decode cX7_marriages 10 = .ok (.bipush (-2), 2) := by decide +kernel
theorem dX7_marriages_12 : decode cX7_marriages 12 = .ok (.ireturn, 1) := by decide +kernel
theorem dX7_marriages_13 : decode cX7_marriages 13 = .ok (.iconst 0, 1) := by decide +kernel
theorem dX7_marriages_14 : decode cX7_marriages 14 = .ok (.istore_n 2, 1) := by decide +kernel
theorem dX7_marriages_15 : decode cX7_marriages 15 = .ok (.iconst 0, 1) := by decide +kernel
theorem dX7_marriages_16 : decode cX7_marriages 16 = .ok (.istore_n 3, 1) := by decide +kernel
theorem dX7_marriages_17 : decode cX7_marriages 17 = .ok (.iload_n 3, 1) := by decide +kernel
theorem dX7_marriages_18 : decode cX7_marriages 18 = .ok (.aload_n 0, 1) := by decide +kernel
theorem dX7_marriages_19 : decode cX7_marriages 19 = .ok (.getfield 7, 3) := by decide +kernel
theorem dX7_marriages_22 : decode cX7_marriages 22 = .ok (.if_icmp .ge 38, 3) := by decide +kernel
theorem dX7_marriages_25 : decode cX7_marriages 25 = .ok (.iload_n 2, 1) := by decide +kernel
theorem dX7_marriages_26 : decode cX7_marriages 26 = .ok (.aload_n 0, 1) := by decide +kernel
theorem dX7_marriages_27 : decode cX7_marriages 27 = .ok (.getfield 16, 3) := by decide +kernel
theorem dX7_marriages_30 : decode cX7_marriages 30 = .ok (.iload_n 3, 1) := by decide +kernel
theorem dX7_marriages_31 : decode cX7_marriages 31 = .ok (.iaload, 1) := by decide +kernel
theorem dX7_marriages_32 : decode cX7_marriages 32 = .ok (.ifCond .lt 19, 3) := by decide +kernel
theorem dX7_marriages_35 : decode cX7_marriages 35 = .ok (.aload_n 0, 1) := by decide +kernel
theorem dX7_marriages_36 : decode cX7_marriages 36 = .ok (.getfield 23, 3) := by decide +kernel
theorem dX7_marriages_39 : decode cX7_marriages 39 = .ok (.iload_n 3, 1) := by decide +kernel
theorem dX7_marriages_40 : decode cX7_marriages 40 = .ok (.iaload, 1) := by decide +kernel
theorem dX7_marriages_41 : decode cX7_marriages 41 = .ok (.iconst 2, 1) := by decide +kernel
theorem dX7_marriages_42 : decode cX7_marriages 42 = .ok (.if_icmp .ge 9, 3) := by decide +kernel
theorem dX7_marriages_45 : decode cX7_marriages 45 = .ok (.iconst 1, 1) := by decide +kernel
theorem dX7_marriages_46 : decode cX7_marriages 46 = .ok (.iload_n 3, 1) := by decide +kernel
theorem dX7_marriages_47 : decode cX7_marriages 47 = .ok (.ishl, 1) := by decide +kernel
theorem dX7_marriages_48 : decode cX7_marriages 48 = .ok (.goto 4, 3) := by decide +kernel
theorem dX7_marriages_51 : decode cX7_marriages 51 = .ok (.iconst 0, 1) := by decide +kernel
theorem dX7_marriages_52 : decode cX7_marriages 52 = .ok (.ior, 1) := by decide +kernel
theorem dX7_marriages_53 : decode cX7_marriages 53 = .ok (.istore_n 2, 1) := by decide +kernel
theorem dX7_marriages_54 : decode cX7_marriages 54 = .ok (.iinc 3 1, 3) := by decide +kernel
theorem dX7_marriages_57 : decode cX7_marriages 57 = .ok (.goto (-40), 3) := by decide +kernel
theorem dX7_marriages_60 : decode cX7_marriages 60 = .ok (.iconst 0, 1) := by decide +kernel
theorem dX7_marriages_61 : decode cX7_marriages 61 = .ok (.istore_n 3, 1) := by decide +kernel
theorem dX7_marriages_62 : decode cX7_marriages 62 = .ok (.iconst 0, 1) := by decide +kernel
theorem dX7_marriages_63 : decode cX7_marriages 63 = .ok (.istore 4, 2) := by decide +kernel
theorem dX7_marriages_65 : decode cX7_marriages 65 = .ok (.iload 4, 2) := by decide +kernel
theorem dX7_marriages_67 : decode cX7_marriages 67 = .ok (.ldc 185, 2) := by decide +kernel
theorem dX7_marriages_69 : decode cX7_marriages 69 = .ok (.if_icmp .ge 175, 3) := by decide +kernel
theorem dX7_marriages_72 : decode cX7_marriages 72 = .ok (.iload 4, 2) := by decide +kernel
theorem dX7_marriages_74 : decode cX7_marriages 74 = .ok (.istore 5, 2) := by decide +kernel
theorem dX7_marriages_76 : decode cX7_marriages 76 = .ok (.iconst 0, 1) := by decide +kernel
theorem dX7_marriages_77 : decode cX7_marriages 77 = .ok (.istore 6, 2) := by decide +kernel
theorem dX7_marriages_79 : decode cX7_marriages 79 = .ok (.iconst 0, 1) := by decide +kernel
theorem dX7_marriages_80 : decode cX7_marriages 80 = .ok (.istore 7, 2) := by decide +kernel
theorem dX7_marriages_82 : decode cX7_marriages 82 = .ok (.iconst 1, 1) := by decide +kernel
theorem dX7_marriages_83 : decode cX7_marriages 83 = .ok (.istore 8, 2) := by decide +kernel
theorem dX7_marriages_85 : decode cX7_marriages 85 = .ok (.iconst 0, 1) := by decide +kernel
theorem dX7_marriages_86 : decode cX7_marriages 86 = .ok (.istore 9, 2) := by decide +kernel
theorem dX7_marriages_88 : decode cX7_marriages 88 = .ok (.iload 9, 2) := by decide +kernel
theorem dX7_marriages_90 : decode cX7_marriages 90 = .ok (.iconst 3, 1) := by decide +kernel
theorem dX7_marriages_91 : decode cX7_marriages 91 = .ok (.if_icmp .ge 129, 3) := by decide +kernel
theorem dX7_marriages_94 : decode cX7_marriages 94 = .ok (.iload 8, 2) := by decide +kernel
theorem dX7_marriages_96 : decode cX7_marriages 96 = .ok (.ifCond .eq 124, 3) := by decide +kernel
theorem dX7_marriages_99 : decode cX7_marriages 99 = .ok (.iload 5, 2) := by decide +kernel
theorem dX7_marriages_101 : decode cX7_marriages 101 = .ok (.bipush 6, 2) := by decide +kernel
theorem dX7_marriages_103 : decode cX7_marriages 103 = .ok (.irem, 1) := by decide +kernel
theorem dX7_marriages_104 : decode cX7_marriages 104 = .ok (.istore 10, 2) := by decide +kernel
theorem dX7_marriages_106 : decode cX7_marriages 106 = .ok (.iload 5, 2) := by decide +kernel
theorem dX7_marriages_108 : decode cX7_marriages 108 = .ok (.bipush 6, 2) := by decide +kernel
theorem dX7_marriages_110 : decode cX7_marriages 110 = .ok (.idiv, 1) := by decide +kernel
theorem dX7_marriages_111 : decode cX7_marriages 111 = .ok (.bipush 6, 2) := by decide +kernel
theorem dX7_marriages_113 : decode cX7_marriages 113 = .ok (.irem, 1) := by decide +kernel
theorem dX7_marriages_114 : decode cX7_marriages 114 = .ok (.istore 11, 2) := by decide +kernel
theorem dX7_marriages_116 : decode cX7_marriages 116 = .ok (.iload 5, 2) := by decide +kernel
theorem dX7_marriages_118 : decode cX7_marriages 118 = .ok (.bipush 36, 2) := by decide +kernel
theorem dX7_marriages_120 : decode cX7_marriages 120 = .ok (.idiv, 1) := by decide +kernel
theorem dX7_marriages_121 : decode cX7_marriages 121 = .ok (.istore 5, 2) := by decide +kernel
theorem dX7_marriages_123 : decode cX7_marriages 123 = .ok (.iload 10, 2) := by decide +kernel
theorem dX7_marriages_125 : decode cX7_marriages 125 = .ok (.ifCond .ne 8, 3) := by decide +kernel
theorem dX7_marriages_128 : decode cX7_marriages 128 = .ok (.iload 11, 2) := by decide +kernel
theorem dX7_marriages_130 : decode cX7_marriages 130 = .ok (.ifCond .eq 84, 3) := by decide +kernel
theorem dX7_marriages_133 : decode cX7_marriages 133 = .ok (.iload 10, 2) := by decide +kernel
theorem dX7_marriages_135 : decode cX7_marriages 135 = .ok (.iload 11, 2) := by decide +kernel
theorem dX7_marriages_137 : decode cX7_marriages 137 = .ok (.if_icmp .ge 57, 3) := by decide +kernel
theorem dX7_marriages_140 : decode cX7_marriages 140 = .ok (.iload_n 2, 1) := by decide +kernel
theorem dX7_marriages_141 : decode cX7_marriages 141 = .ok (.iload 10, 2) := by decide +kernel
theorem dX7_marriages_143 : decode cX7_marriages 143 = .ok (.invokestatic 169, 3) := by decide +kernel
theorem dX7_marriages_146 : decode cX7_marriages 146 = .ok (.ifCond .eq 48, 3) := by decide +kernel
theorem dX7_marriages_149 : decode cX7_marriages 149 = .ok (.iload_n 2, 1) := by decide +kernel
theorem dX7_marriages_150 : decode cX7_marriages 150 = .ok (.iload 11, 2) := by decide +kernel
theorem dX7_marriages_152 : decode cX7_marriages 152 = .ok (.invokestatic 169, 3) := by decide +kernel
theorem dX7_marriages_155 : decode cX7_marriages 155 = .ok (.ifCond .eq 39, 3) := by decide +kernel
theorem dX7_marriages_158 : decode cX7_marriages 158 = .ok (.iload 6, 2) := by decide +kernel
theorem dX7_marriages_160 : decode cX7_marriages 160 = .ok (.iload 10, 2) := by decide +kernel
theorem dX7_marriages_162 : decode cX7_marriages 162 = .ok (.invokestatic 169, 3) := by decide +kernel
theorem dX7_marriages_165 : decode cX7_marriages 165 = .ok (.ifCond .ne 29, 3) := by decide +kernel
theorem dX7_marriages_168 : decode cX7_marriages 168 = .ok (.iload 6, 2) := by decide +kernel
theorem dX7_marriages_170 : decode cX7_marriages 170 = .ok (.iload 11, 2) := by decide +kernel
theorem dX7_marriages_172 : decode cX7_marriages 172 = .ok (.invokestatic 169, 3) := by decide +kernel
theorem dX7_marriages_175 : decode cX7_marriages 175 = .ok (.ifCond .ne 19, 3) := by decide +kernel
theorem dX7_marriages_178 : decode cX7_marriages 178 = .ok (.aload_n 0, 1) := by decide +kernel
theorem dX7_marriages_179 : decode cX7_marriages 179 = .ok (.iload 10, 2) := by decide +kernel
theorem dX7_marriages_181 : decode cX7_marriages 181 = .ok (.iload 11, 2) := by decide +kernel
theorem dX7_marriages_183 : decode cX7_marriages 183 = .ok (.iload_n 1, 1) := by decide +kernel
theorem dX7_marriages_184 : decode cX7_marriages 184 = .ok (.invokevirtual 186, 3) := by decide +kernel
theorem dX7_marriages_187 : decode cX7_marriages 187 = .ok (.ifCond .ne 7, 3) := by decide +kernel
theorem dX7_marriages_190 : decode cX7_marriages 190 = .ok (.iconst 1, 1) := by decide +kernel
theorem dX7_marriages_191 : decode cX7_marriages 191 = .ok (.goto 4, 3) := by decide +kernel
theorem dX7_marriages_194 : decode cX7_marriages 194 = .ok (.iconst 0, 1) := by decide +kernel
theorem dX7_marriages_195 : decode cX7_marriages 195 = .ok (.istore 8, 2) := by decide +kernel
theorem dX7_marriages_197 : decode cX7_marriages 197 = .ok (.iload 6, 2) := by decide +kernel
theorem dX7_marriages_199 : decode cX7_marriages 199 = .ok (.iconst 1, 1) := by decide +kernel
theorem dX7_marriages_200 : decode cX7_marriages 200 = .ok (.iload 10, 2) := by decide +kernel
theorem dX7_marriages_202 : decode cX7_marriages 202 = .ok (.ishl, 1) := by decide +kernel
theorem dX7_marriages_203 : decode cX7_marriages 203 = .ok (.iconst 1, 1) := by decide +kernel
theorem dX7_marriages_204 : decode cX7_marriages 204 = .ok (.iload 11, 2) := by decide +kernel
theorem dX7_marriages_206 : decode cX7_marriages 206 = .ok (.ishl, 1) := by decide +kernel
theorem dX7_marriages_207 : decode cX7_marriages 207 = .ok (.ior, 1) := by decide +kernel
theorem dX7_marriages_208 : decode cX7_marriages 208 = .ok (.ior, 1) := by decide +kernel
theorem dX7_marriages_209 : decode cX7_marriages 209 = .ok (.istore 6, 2) := by decide +kernel
theorem dX7_marriages_211 : decode cX7_marriages 211 = .ok (.iinc 7 1, 3) := by decide +kernel
theorem dX7_marriages_214 : decode cX7_marriages 214 = .ok (.iinc 9 1, 3) := by decide +kernel
theorem dX7_marriages_217 : decode cX7_marriages 217 = .ok (.goto (-129), 3) := by decide +kernel
theorem dX7_marriages_220 : decode cX7_marriages 220 = .ok (.iload 8, 2) := by decide +kernel
theorem dX7_marriages_222 : decode cX7_marriages 222 = .ok (.ifCond .eq 14, 3) := by decide +kernel
theorem dX7_marriages_225 : decode cX7_marriages 225 = .ok (.iload 7, 2) := by decide +kernel
theorem dX7_marriages_227 : decode cX7_marriages 227 = .ok (.iload_n 3, 1) := by decide +kernel
theorem dX7_marriages_228 : decode cX7_marriages 228 = .ok (.if_icmp .le 8, 3) := by decide +kernel
theorem dX7_marriages_231 : decode cX7_marriages 231 = .ok (.iload 7, 2) := by decide +kernel
theorem dX7_marriages_233 : decode cX7_marriages 233 = .ok (.goto 4, 3) := by decide +kernel
theorem dX7_marriages_236 : decode cX7_marriages 236 = .ok (.iload_n 3, 1) := by decide +kernel
theorem dX7_marriages_237 : decode cX7_marriages 237 = .ok (.istore_n 3, 1) := by decide +kernel
theorem dX7_marriages_238 : decode cX7_marriages 238 = .ok (.iinc 4 1, 3) := by decide +kernel
theorem dX7_marriages_241 : decode cX7_marriages 241 = .ok (.goto (-176), 3) := by decide +kernel
theorem dX7_marriages_244 : decode cX7_marriages 244 = .ok (.iload_n 3, 1) := by decide +kernel
theorem dX7_marriages_245 : decode cX7_marriages 245 = .ok (.ireturn, 1) := by decide +kernel
theorem dX7_doMeet_0 : decode cX7_doMeet 0 = .ok (.iconst 0, 1) := by decide +kernel
theorem dX7_doMeet_1 : decode cX7_doMeet 1 = .ok (.istore 4, 2) := by decide +kernel
theorem dX7_doMeet_3 : decode cX7_doMeet 3 = .ok (.iconst 0, 1) := by decide +kernel
theorem dX7_doMeet_4 : decode cX7_doMeet 4 = .ok (.istore 5, 2) := by decide +kernel
theorem dX7_doMeet_6 : decode cX7_doMeet 6 = .ok (.iload 5, 2) := by decide +kernel
theorem dX7_doMeet_8 : decode cX7_doMeet 8 = .ok (.iload_n 3, 1) := by decide +kernel
theorem dX7_doMeet_9 : decode cX7_doMeet 9 = .ok (.if_icmp .ge 32, 3) := by decide +kernel
theorem dX7_doMeet_12 : decode cX7_doMeet 12 = .ok (.iload 4, 2) := by decide +kernel
theorem dX7_doMeet_14 : decode cX7_doMeet 14 = .ok (.ifCond .ne 14, 3) := by decide +kernel
theorem dX7_doMeet_17 : decode cX7_doMeet 17 = .ok (.aload_n 0, 1) := by decide +kernel
theorem dX7_doMeet_18 : decode cX7_doMeet 18 = .ok (.iload_n 1, 1) := by decide +kernel
theorem dX7_doMeet_19 : decode cX7_doMeet 19 = .ok (.iload_n 2, 1) := by decide +kernel
theorem dX7_doMeet_20 : decode cX7_doMeet 20 = .ok (.iload 5, 2) := by decide +kernel
theorem dX7_doMeet_22 : decode cX7_doMeet 22 = .ok (.invokevirtual 149, 3) := by decide +kernel
theorem dX7_doMeet_25 : decode cX7_doMeet 25 = .ok (.ifCond .eq 7, 3) := by decide +kernel
theorem dX7_doMeet_28 : decode cX7_doMeet 28 = .ok (.iconst 1, 1) := by decide +kernel
theorem dX7_doMeet_29 : decode cX7_doMeet 29 = .ok (.goto 4, 3) := by decide +kernel
theorem dX7_doMeet_32 : decode cX7_doMeet 32 = .ok (.iconst 0, 1) := by decide +kernel
theorem dX7_doMeet_33 : decode cX7_doMeet 33 = .ok (.istore 4, 2) := by decide +kernel
theorem dX7_doMeet_35 : decode cX7_doMeet 35 = .ok (.iinc 5 1, 3) := by decide +kernel
theorem dX7_doMeet_38 : decode cX7_doMeet 38 = .ok (.goto (-32), 3) := by decide +kernel
theorem dX7_doMeet_41 : decode cX7_doMeet 41 = .ok (.iload 4, 2) := by decide +kernel
theorem dX7_doMeet_43 : decode cX7_doMeet 43 = .ok (.ireturn, 1) := by decide +kernel
theorem dX7_alive_0 : decode cX7_alive 0 = .ok (.iconst 0, 1) := by decide +kernel
theorem dX7_alive_1 : decode cX7_alive 1 = .ok (.istore_n 1, 1) := by decide +kernel
theorem dX7_alive_2 : decode cX7_alive 2 = .ok (.iconst 0, 1) := by decide +kernel
theorem dX7_alive_3 : decode cX7_alive 3 = .ok (.istore_n 2, 1) := by decide +kernel
theorem dX7_alive_4 : decode cX7_alive 4 = .ok (.iload_n 2, 1) := by decide +kernel
theorem dX7_alive_5 : decode cX7_alive 5 = .ok (.aload_n 0, 1) := by decide +kernel
theorem dX7_alive_6 : decode cX7_alive 6 = .ok (.getfield 7, 3) := by decide +kernel
theorem dX7_alive_9 : decode cX7_alive 9 = .ok (.if_icmp .ge 26, 3) := by decide +kernel
theorem dX7_alive_12 : decode cX7_alive 12 = .ok (.iload_n 1, 1) := by decide +kernel
theorem dX7_alive_13 : decode cX7_alive 13 = .ok (.aload_n 0, 1) := by decide +kernel
theorem dX7_alive_14 : decode cX7_alive 14 = .ok (.getfield 16, 3) := by decide +kernel
theorem dX7_alive_17 : decode cX7_alive 17 = .ok (.iload_n 2, 1) := by decide +kernel
theorem dX7_alive_18 : decode cX7_alive 18 = .ok (.iaload, 1) := by decide +kernel
theorem dX7_alive_19 : decode cX7_alive 19 = .ok (.ifCond .lt 7, 3) := by decide +kernel
theorem dX7_alive_22 : decode cX7_alive 22 = .ok (.iconst 1, 1) := by decide +kernel
theorem dX7_alive_23 : decode cX7_alive 23 = .ok (.goto 4, 3) := by decide +kernel
theorem dX7_alive_26 : decode cX7_alive 26 = .ok (.iconst 0, 1) := by decide +kernel
theorem dX7_alive_27 : decode cX7_alive 27 = .ok (.iadd, 1) := by decide +kernel
theorem dX7_alive_28 : decode cX7_alive 28 = .ok (.istore_n 1, 1) := by decide +kernel
theorem dX7_alive_29 : decode cX7_alive 29 = .ok (.iinc 2 1, 3) := by decide +kernel
theorem dX7_alive_32 : decode cX7_alive 32 = .ok (.goto (-28), 3) := by decide +kernel
theorem dX7_alive_35 : decode cX7_alive 35 = .ok (.iload_n 1, 1) := by decide +kernel
theorem dX7_alive_36 : decode cX7_alive 36 = .ok (.ireturn, 1) := by decide +kernel
theorem dX7_deaths_0 : decode cX7_deaths 0 = .ok (.iload_n 1, 1) := by decide +kernel
theorem dX7_deaths_1 : decode cX7_deaths 1 = .ok (.iconst 0, 1) := by decide +kernel
theorem dX7_deaths_2 : decode cX7_deaths 2 = .ok (.iconst 3, 1) := by decide +kernel
theorem dX7_deaths_3 : decode cX7_deaths 3 = .ok (.invokestatic 78, 3) := by decide +kernel
theorem dX7_deaths_6 : decode cX7_deaths 6 = .ok (.ifCond .eq 32, 3) := by decide +kernel
theorem dX7_deaths_9 : decode cX7_deaths 9 = .ok (.iload_n 2, 1) := by decide +kernel
theorem dX7_deaths_10 : decode cX7_deaths 10 = .ok (.iconst 0, 1) := by decide +kernel
theorem dX7_deaths_11 : decode cX7_deaths 11 = .ok (.bipush 10, 2) := by decide +kernel
theorem dX7_deaths_13 : decode cX7_deaths 13 = .ok (.invokestatic 78, 3) := by decide +kernel
theorem dX7_deaths_16 : decode cX7_deaths 16 = .ok (.ifCond .eq 22, 3) := by decide +kernel
theorem dX7_deaths_19 : decode cX7_deaths 19 = .ok (.iload_n 3, 1) := by decide +kernel
theorem dX7_deaths_20 : decode cX7_deaths 20 = .ok (.iconst 0, 1) := by decide +kernel
theorem dX7_deaths_21 : decode cX7_deaths 21 = .ok (.iconst 1, 1) := by decide +kernel
theorem dX7_deaths_22 : decode cX7_deaths 22 = .ok (.invokestatic 78, 3) := by decide +kernel
theorem dX7_deaths_25 : decode cX7_deaths 25 = .ok (.ifCond .eq 13, 3) := by decide +kernel
theorem dX7_deaths_28 : decode cX7_deaths 28 = .ok (.iload 4, 2) := by decide +kernel
theorem dX7_deaths_30 : decode cX7_deaths 30 = .ok (.iconst 0, 1) := by decide +kernel
theorem dX7_deaths_31 : decode cX7_deaths 31 = .ok (.iconst 1, 1) := by decide +kernel
theorem dX7_deaths_32 : decode cX7_deaths 32 = .ok (.invokestatic 78, 3) := by decide +kernel
theorem dX7_deaths_35 : decode cX7_deaths 35 = .ok (.ifCond .ne 7, 3) := by decide +kernel
theorem dX7_deaths_38 : decode cX7_deaths 38 = .ok (.ldc2_w 189, 3) := by decide +kernel
theorem dX7_deaths_41 : decode cX7_deaths 41 = .ok (.lreturn, 1) := by decide +kernel
theorem dX7_deaths_42 : decode cX7_deaths 42 = .ok (.iload_n 3, 1) := by decide +kernel
theorem dX7_deaths_43 : decode cX7_deaths 43 = .ok (.ifCond .ne 12, 3) := by decide +kernel
theorem dX7_deaths_46 : decode cX7_deaths 46 = .ok (.iload_n 1, 1) := by decide +kernel
theorem dX7_deaths_47 : decode cX7_deaths 47 = .ok (.aload_n 0, 1) := by decide +kernel
theorem dX7_deaths_48 : decode cX7_deaths 48 = .ok (.invokevirtual 191, 3) := by decide +kernel
theorem dX7_deaths_51 : decode cX7_deaths 51 = .ok (.imul, 1) := by decide +kernel
theorem dX7_deaths_52 : decode cX7_deaths 52 = .ok (.goto 4, 3) := by decide +kernel
theorem dX7_deaths_55 : decode cX7_deaths 55 = .ok (.iload_n 1, 1) := by decide +kernel
theorem dX7_deaths_56 : decode cX7_deaths 56 = .ok (.istore 5, 2) := by decide +kernel
theorem dX7_deaths_58 : decode cX7_deaths 58 = .ok (.iload_n 3, 1) := by decide +kernel
theorem dX7_deaths_59 : decode cX7_deaths 59 = .ok (.ifCond .ne 7, 3) := by decide +kernel
theorem dX7_deaths_62 : decode cX7_deaths 62 = .ok (.lconst 1, 1) := by decide +kernel
theorem dX7_deaths_63 : decode cX7_deaths 63 = .ok (.goto 8, 3) := by decide +kernel
theorem dX7_deaths_66 : decode cX7_deaths 66 = .ok (.aload_n 0, 1) := by decide +kernel
theorem dX7_deaths_67 : decode cX7_deaths 67 = .ok (.invokevirtual 191, 3) := by decide +kernel
theorem dX7_deaths_70 : decode cX7_deaths 70 = .ok (.i2l, 1) := by decide +kernel
theorem dX7_deaths_71 : decode cX7_deaths 71 = .ok (.lstore 6, 2) := by decide +kernel
theorem dX7_deaths_73 : decode cX7_deaths 73 = .ok (.lconst 1, 1) := by decide +kernel
theorem dX7_deaths_74 : decode cX7_deaths 74 = .ok (.lstore 8, 2) := by decide +kernel
theorem dX7_deaths_76 : decode cX7_deaths 76 = .ok (.iconst 0, 1) := by decide +kernel
theorem dX7_deaths_77 : decode cX7_deaths 77 = .ok (.istore 10, 2) := by decide +kernel
theorem dX7_deaths_79 : decode cX7_deaths 79 = .ok (.iload 10, 2) := by decide +kernel
theorem dX7_deaths_81 : decode cX7_deaths 81 = .ok (.iload 5, 2) := by decide +kernel
theorem dX7_deaths_83 : decode cX7_deaths 83 = .ok (.if_icmp .ge 27, 3) := by decide +kernel
theorem dX7_deaths_86 : decode cX7_deaths 86 = .ok (.lload 6, 2) := by decide +kernel
theorem dX7_deaths_88 : decode cX7_deaths 88 = .ok (.bipush 10, 2) := by decide +kernel
theorem dX7_deaths_90 : decode cX7_deaths 90 = .ok (.iload_n 2, 1) := by decide +kernel
theorem dX7_deaths_91 : decode cX7_deaths 91 = .ok (.isub, 1) := by decide +kernel
theorem dX7_deaths_92 : decode cX7_deaths 92 = .ok (.i2l, 1) := by decide +kernel
theorem dX7_deaths_93 : decode cX7_deaths 93 = .ok (.lmul, 1) := by decide +kernel
theorem dX7_deaths_94 : decode cX7_deaths 94 = .ok (.lstore 6, 2) := by decide +kernel
theorem dX7_deaths_96 : decode cX7_deaths 96 = .ok (.lload 8, 2) := by decide +kernel
theorem dX7_deaths_98 : decode cX7_deaths 98 = .ok (.ldc2_w 194, 3) := by decide +kernel
theorem dX7_deaths_101 : decode cX7_deaths 101 = .ok (.lmul, 1) := by decide +kernel
theorem dX7_deaths_102 : decode cX7_deaths 102 = .ok (.lstore 8, 2) := by decide +kernel
theorem dX7_deaths_104 : decode cX7_deaths 104 = .ok (.iinc 10 1, 3) := by decide +kernel
theorem dX7_deaths_107 : decode cX7_deaths 107 = .ok (.goto (-28), 3) := by decide +kernel
theorem dX7_deaths_110 : decode cX7_deaths 110 = .ok (.lload 6, 2) := by decide +kernel
theorem dX7_deaths_112 : decode cX7_deaths 112 = .ok (.lstore 10, 2) := by decide +kernel
theorem dX7_deaths_114 : decode cX7_deaths 114 = .ok (.lload 8, 2) := by decide +kernel
theorem dX7_deaths_116 : decode cX7_deaths 116 = .ok (.lstore 12, 2) := by decide +kernel
theorem dX7_deaths_118 : decode cX7_deaths 118 = .ok (.lload 12, 2) := by decide +kernel
theorem dX7_deaths_120 : decode cX7_deaths 120 = .ok (.lconst 0, 1) := by decide +kernel
theorem dX7_deaths_121 : decode cX7_deaths 121 = .ok (.lcmp, 1) := by decide +kernel
theorem dX7_deaths_122 : decode cX7_deaths 122 = .ok (.ifCond .eq 21, 3) := by decide +kernel
theorem dX7_deaths_125 : decode cX7_deaths 125 = .ok (.lload 10, 2) := by decide +kernel
theorem dX7_deaths_127 : decode cX7_deaths 127 = .ok (.lload 12, 2) := by decide +kernel
theorem dX7_deaths_129 : decode cX7_deaths 129 = .ok (.lrem, 1) := by decide +kernel
theorem dX7_deaths_130 : decode cX7_deaths 130 = .ok (.lstore 14, 2) := by decide +kernel
theorem dX7_deaths_132 : decode cX7_deaths 132 = .ok (.lload 12, 2) := by decide +kernel
theorem dX7_deaths_134 : decode cX7_deaths 134 = .ok (.lstore 10, 2) := by decide +kernel
theorem dX7_deaths_136 : decode cX7_deaths 136 = .ok (.lload 14, 2) := by decide +kernel
theorem dX7_deaths_138 : decode cX7_deaths 138 = .ok (.lstore 12, 2) := by decide +kernel
theorem dX7_deaths_140 : decode cX7_deaths 140 = .ok (.goto (-22), 3) := by decide +kernel
theorem dX7_deaths_143 : decode cX7_deaths 143 = .ok (.iload 4, 2) := by decide +kernel
theorem dX7_deaths_145 : decode cX7_deaths 145 = .ok (.ifCond .ne 11, 3) := by decide +kernel
theorem dX7_deaths_148 : decode cX7_deaths 148 = .ok (.lload 6, 2) := by decide +kernel
theorem dX7_deaths_150 : decode cX7_deaths 150 = .ok (.lload 10, 2) := by decide +kernel
theorem dX7_deaths_152 : decode cX7_deaths 152 = .ok (.ldiv, 1) := by decide +kernel
theorem dX7_deaths_153 : decode cX7_deaths 153 = .ok (.goto 8, 3) := by decide +kernel
theorem dX7_deaths_156 : decode cX7_deaths 156 = .ok (.lload 8, 2) := by decide +kernel
theorem dX7_deaths_158 : decode cX7_deaths 158 = .ok (.lload 10, 2) := by decide +kernel
theorem dX7_deaths_160 : decode cX7_deaths 160 = .ok (.ldiv, 1) := by decide +kernel
theorem dX7_deaths_161 : decode cX7_deaths 161 = .ok (.lreturn, 1) := by decide +kernel
theorem dX7_year_0 : decode cX7_year 0 = .ok (.iload_n 1, 1) := by decide +kernel
theorem dX7_year_1 : decode cX7_year 1 = .ok (.iconst 0, 1) := by decide +kernel
theorem dX7_year_2 : decode cX7_year 2 = .ok (.sipush 9999, 3) := by decide +kernel
theorem dX7_year_5 : decode cX7_year 5 = .ok (.invokestatic 78, 3) := by decide +kernel
theorem dX7_year_8 : decode cX7_year 8 = .ok (.ifCond .eq 22, 3) := by decide +kernel
theorem dX7_year_11 : decode cX7_year 11 = .ok (.iload_n 2, 1) := by decide +kernel
theorem dX7_year_12 : decode cX7_year 12 = .ok (.iconst 1, 1) := by decide +kernel
theorem dX7_year_13 : decode cX7_year 13 = .ok (.bipush 99, 2) := by decide +kernel
theorem dX7_year_15 : decode cX7_year 15 = .ok (.invokestatic 78, 3) := by decide +kernel
theorem dX7_year_18 : decode cX7_year 18 = .ok (.ifCond .eq 12, 3) := by decide +kernel
theorem dX7_year_21 : decode cX7_year 21 = .ok (.iload_n 3, 1) := by decide +kernel
theorem dX7_year_22 : decode cX7_year 22 = .ok (.iconst 0, 1) := by decide +kernel
theorem dX7_year_23 : decode cX7_year 23 = .ok (.iconst 2, 1) := by decide +kernel
theorem dX7_year_24 : decode cX7_year 24 = .ok (.invokestatic 78, 3) := by decide +kernel
theorem dX7_year_27 : decode cX7_year 27 = .ok (.ifCond .ne 6, 3) := by decide +kernel
theorem dX7_year_30 : decode cX7_year 30 = .ok (.bipush (-2), 2) := by decide +kernel
theorem dX7_year_32 : decode cX7_year 32 = .ok (.ireturn, 1) := by decide +kernel
theorem dX7_year_33 : decode cX7_year 33 = .ok (.aload_n 0, 1) := by decide +kernel
theorem dX7_year_34 : decode cX7_year 34 = .ok (.invokevirtual 108, 3) := by decide +kernel
theorem dX7_year_37 : decode cX7_year 37 = .ok (.iload_n 1, 1) := by decide +kernel
theorem dX7_year_38 : decode cX7_year 38 = .ok (.istore 4, 2) := by decide +kernel
theorem dX7_year_40 : decode cX7_year 40 = .ok (.iconst 0, 1) := by decide +kernel
theorem dX7_year_41 : decode cX7_year 41 = .ok (.istore 5, 2) := by decide +kernel
theorem dX7_year_43 : decode cX7_year 43 = .ok (.iload 5, 2) := by decide +kernel
theorem dX7_year_45 : decode cX7_year 45 = .ok (.iload_n 2, 1) := by decide +kernel
theorem dX7_year_46 : decode cX7_year 46 = .ok (.if_icmp .ge 142, 3) := by decide +kernel
theorem dX7_year_49 : decode cX7_year 49 = .ok (.bipush 75, 2) := by decide +kernel
theorem dX7_year_51 : decode cX7_year 51 = .ok (.iload 4, 2) := by decide +kernel
theorem dX7_year_53 : decode cX7_year 53 = .ok (.imul, 1) := by decide +kernel
theorem dX7_year_54 : decode cX7_year 54 = .ok (.bipush 74, 2) := by decide +kernel
theorem dX7_year_56 : decode cX7_year 56 = .ok (.iadd, 1) := by decide +kernel
theorem dX7_year_57 : decode cX7_year 57 = .ok (.ldc 196, 2) := by decide +kernel
theorem dX7_year_59 : decode cX7_year 59 = .ok (.irem, 1) := by decide +kernel
theorem dX7_year_60 : decode cX7_year 60 = .ok (.istore 4, 2) := by decide +kernel
theorem dX7_year_62 : decode cX7_year 62 = .ok (.iload 4, 2) := by decide +kernel
theorem dX7_year_64 : decode cX7_year 64 = .ok (.bipush 8, 2) := by decide +kernel
theorem dX7_year_66 : decode cX7_year 66 = .ok (.irem, 1) := by decide +kernel
theorem dX7_year_67 : decode cX7_year 67 = .ok (.istore 6, 2) := by decide +kernel
theorem dX7_year_69 : decode cX7_year 69 = .ok (.iload 4, 2) := by decide +kernel
theorem dX7_year_71 : decode cX7_year 71 = .ok (.bipush 8, 2) := by decide +kernel
theorem dX7_year_73 : decode cX7_year 73 = .ok (.idiv, 1) := by decide +kernel
theorem dX7_year_74 : decode cX7_year 74 = .ok (.aload_n 0, 1) := by decide +kernel
theorem dX7_year_75 : decode cX7_year 75 = .ok (.getfield 7, 3) := by decide +kernel
theorem dX7_year_78 : decode cX7_year 78 = .ok (.irem, 1) := by decide +kernel
theorem dX7_year_79 : decode cX7_year 79 = .ok (.istore 7, 2) := by decide +kernel
theorem dX7_year_81 : decode cX7_year 81 = .ok (.iload 4, 2) := by decide +kernel
theorem dX7_year_83 : decode cX7_year 83 = .ok (.bipush 64, 2) := by decide +kernel
theorem dX7_year_85 : decode cX7_year 85 = .ok (.idiv, 1) := by decide +kernel
theorem dX7_year_86 : decode cX7_year 86 = .ok (.aload_n 0, 1) := by decide +kernel
theorem dX7_year_87 : decode cX7_year 87 = .ok (.getfield 7, 3) := by decide +kernel
theorem dX7_year_90 : decode cX7_year 90 = .ok (.irem, 1) := by decide +kernel
theorem dX7_year_91 : decode cX7_year 91 = .ok (.istore 8, 2) := by decide +kernel
theorem dX7_year_93 : decode cX7_year 93 = .ok (.iload 6, 2) := by decide +kernel
theorem dX7_year_95 : decode cX7_year 95 = .ok (.ifCond .ne 35, 3) := by decide +kernel
theorem dX7_year_98 : decode cX7_year 98 = .ok (.aload_n 0, 1) := by decide +kernel
theorem dX7_year_99 : decode cX7_year 99 = .ok (.getfield 44, 3) := by decide +kernel
theorem dX7_year_102 : decode cX7_year 102 = .ok (.iload 7, 2) := by decide +kernel
theorem dX7_year_104 : decode cX7_year 104 = .ok (.aload_n 0, 1) := by decide +kernel
theorem dX7_year_105 : decode cX7_year 105 = .ok (.iload 7, 2) := by decide +kernel
theorem dX7_year_107 : decode cX7_year 107 = .ok (.bipush 115, 2) := by decide +kernel
theorem dX7_year_109 : decode cX7_year 109 = .ok (.invokevirtual 129, 3) := by decide +kernel
theorem dX7_year_112 : decode cX7_year 112 = .ok (.ifCond .ne 7, 3) := by decide +kernel
theorem dX7_year_115 : decode cX7_year 115 = .ok (.iconst 1, 1) := by decide +kernel
theorem dX7_year_116 : decode cX7_year 116 = .ok (.goto 10, 3) := by decide +kernel
theorem dX7_year_119 : decode cX7_year 119 = .ok (.aload_n 0, 1) := by decide +kernel
theorem dX7_year_120 : decode cX7_year 120 = .ok (.getfield 44, 3) := by decide +kernel
theorem dX7_year_123 : decode cX7_year 123 = .ok (.iload 7, 2) := by decide +kernel
theorem dX7_year_125 : decode cX7_year 125 = .ok (.iaload, 1) := by decide +kernel
theorem dX7_year_126 : decode cX7_year 126 = .ok (.iastore, 1) := by decide +kernel
theorem dX7_year_127 : decode cX7_year 127 = .ok (.goto 55, 3) := by decide +kernel
theorem dX7_year_130 : decode cX7_year 130 = .ok (.iload 6, 2) := by decide +kernel
theorem dX7_year_132 : decode cX7_year 132 = .ok (.iconst 1, 1) := by decide +kernel
theorem dX7_year_133 : decode cX7_year 133 = .ok (.if_icmp .ne 25, 3) := by decide +kernel
theorem dX7_year_136 : decode cX7_year 136 = .ok (.aload_n 0, 1) := by decide +kernel
theorem dX7_year_137 : decode cX7_year 137 = .ok (.iload 7, 2) := by decide +kernel
theorem dX7_year_139 : decode cX7_year 139 = .ok (.iload 8, 2) := by decide +kernel
theorem dX7_year_141 : decode cX7_year 141 = .ok (.invokevirtual 121, 3) := by decide +kernel
theorem dX7_year_144 : decode cX7_year 144 = .ok (.ifCond .ne 38, 3) := by decide +kernel
theorem dX7_year_147 : decode cX7_year 147 = .ok (.aload_n 0, 1) := by decide +kernel
theorem dX7_year_148 : decode cX7_year 148 = .ok (.iload 7, 2) := by decide +kernel
theorem dX7_year_150 : decode cX7_year 150 = .ok (.iload 8, 2) := by decide +kernel
theorem dX7_year_152 : decode cX7_year 152 = .ok (.invokevirtual 125, 3) := by decide +kernel
theorem dX7_year_155 : decode cX7_year 155 = .ok (.goto 27, 3) := by decide +kernel
theorem dX7_year_158 : decode cX7_year 158 = .ok (.aload_n 0, 1) := by decide +kernel
theorem dX7_year_159 : decode cX7_year 159 = .ok (.iload 6, 2) := by decide +kernel
theorem dX7_year_161 : decode cX7_year 161 = .ok (.iconst 4, 1) := by decide +kernel
theorem dX7_year_162 : decode cX7_year 162 = .ok (.if_icmp .ge 8, 3) := by decide +kernel
theorem dX7_year_165 : decode cX7_year 165 = .ok (.bipush 10, 2) := by decide +kernel
theorem dX7_year_167 : decode cX7_year 167 = .ok (.goto 12, 3) := by decide +kernel
theorem dX7_year_170 : decode cX7_year 170 = .ok (.aload_n 0, 1) := by decide +kernel
theorem dX7_year_171 : decode cX7_year 171 = .ok (.getfield 13, 3) := by decide +kernel
theorem dX7_year_174 : decode cX7_year 174 = .ok (.aload_n 0, 1) := by decide +kernel
theorem dX7_year_175 : decode cX7_year 175 = .ok (.getfield 102, 3) := by decide +kernel
theorem dX7_year_178 : decode cX7_year 178 = .ok (.isub, 1) := by decide +kernel
theorem dX7_year_179 : decode cX7_year 179 = .ok (.invokevirtual 117, 3) := by decide +kernel
theorem dX7_year_182 : decode cX7_year 182 = .ok (.iinc 5 1, 3) := by decide +kernel
theorem dX7_year_185 : decode cX7_year 185 = .ok (.goto (-142), 3) := by decide +kernel
theorem dX7_year_188 : decode cX7_year 188 = .ok (.iconst 0, 1) := by decide +kernel
theorem dX7_year_189 : decode cX7_year 189 = .ok (.istore 5, 2) := by decide +kernel
theorem dX7_year_191 : decode cX7_year 191 = .ok (.iconst 1, 1) := by decide +kernel
theorem dX7_year_192 : decode cX7_year 192 = .ok (.aload_n 0, 1) := by decide +kernel
theorem dX7_year_193 : decode cX7_year 193 = .ok (.getfield 7, 3) := by decide +kernel
theorem dX7_year_196 : decode cX7_year 196 = .ok (.ishl, 1) := by decide +kernel
theorem dX7_year_197 : decode cX7_year 197 = .ok (.iconst 1, 1) := by decide +kernel
theorem dX7_year_198 : decode cX7_year 198 = .ok (.isub, 1) := by decide +kernel
theorem dX7_year_199 : decode cX7_year 199 = .ok (.istore 6, 2) := by decide +kernel
theorem dX7_year_201 : decode cX7_year 201 = .ok (.iconst 0, 1) := by decide +kernel
theorem dX7_year_202 : decode cX7_year 202 = .ok (.istore 7, 2) := by decide +kernel
theorem dX7_year_204 : decode cX7_year 204 = .ok (.iload 7, 2) := by decide +kernel
theorem dX7_year_206 : decode cX7_year 206 = .ok (.aload_n 0, 1) := by decide +kernel
theorem dX7_year_207 : decode cX7_year 207 = .ok (.getfield 7, 3) := by decide +kernel
theorem dX7_year_210 : decode cX7_year 210 = .ok (.if_icmp .ge 71, 3) := by decide +kernel
theorem dX7_year_213 : decode cX7_year 213 = .ok (.iload 5, 2) := by decide +kernel
theorem dX7_year_215 : decode cX7_year 215 = .ok (.aload_n 0, 1) := by decide +kernel
theorem dX7_year_216 : decode cX7_year 216 = .ok (.getfield 38, 3) := by decide +kernel
theorem dX7_year_219 : decode cX7_year 219 = .ok (.iload 7, 2) := by decide +kernel
theorem dX7_year_221 : decode cX7_year 221 = .ok (.iaload, 1) := by decide +kernel
theorem dX7_year_222 : decode cX7_year 222 = .ok (.ifCond .lt 19, 3) := by decide +kernel
theorem dX7_year_225 : decode cX7_year 225 = .ok (.aload_n 0, 1) := by decide +kernel
theorem dX7_year_226 : decode cX7_year 226 = .ok (.getfield 41, 3) := by decide +kernel
theorem dX7_year_229 : decode cX7_year 229 = .ok (.iload 7, 2) := by decide +kernel
theorem dX7_year_231 : decode cX7_year 231 = .ok (.iaload, 1) := by decide +kernel
theorem dX7_year_232 : decode cX7_year 232 = .ok (.iload 7, 2) := by decide +kernel
theorem dX7_year_234 : decode cX7_year 234 = .ok (.if_icmp .ne 7, 3) := by decide +kernel
theorem dX7_year_237 : decode cX7_year 237 = .ok (.iconst 1, 1) := by decide +kernel
theorem dX7_year_238 : decode cX7_year 238 = .ok (.goto 4, 3) := by decide +kernel
theorem dX7_year_241 : decode cX7_year 241 = .ok (.iconst 0, 1) := by decide +kernel
theorem dX7_year_242 : decode cX7_year 242 = .ok (.iadd, 1) := by decide +kernel
theorem dX7_year_243 : decode cX7_year 243 = .ok (.istore 5, 2) := by decide +kernel
theorem dX7_year_245 : decode cX7_year 245 = .ok (.iload 6, 2) := by decide +kernel
theorem dX7_year_247 : decode cX7_year 247 = .ok (.aload_n 0, 1) := by decide +kernel
theorem dX7_year_248 : decode cX7_year 248 = .ok (.getfield 38, 3) := by decide +kernel
theorem dX7_year_251 : decode cX7_year 251 = .ok (.iload 7, 2) := by decide +kernel
theorem dX7_year_253 : decode cX7_year 253 = .ok (.iaload, 1) := by decide +kernel
theorem dX7_year_254 : decode cX7_year 254 = .ok (.ifCond .ge 7, 3) := by decide +kernel
theorem dX7_year_257 : decode cX7_year 257 = .ok (.iconst (-1), 1) := by decide +kernel
theorem dX7_year_258 : decode cX7_year 258 = .ok (.goto 14, 3) := by decide +kernel
theorem dX7_year_261 : decode cX7_year 261 = .ok (.iconst 1, 1) := by decide +kernel
theorem dX7_year_262 : decode cX7_year 262 = .ok (.aload_n 0, 1) := by decide +kernel
theorem dX7_year_263 : decode cX7_year 263 = .ok (.getfield 38, 3) := by decide +kernel
theorem dX7_year_266 : decode cX7_year 266 = .ok (.iload 7, 2) := by decide +kernel
theorem dX7_year_268 : decode cX7_year 268 = .ok (.iaload, 1) := by decide +kernel
theorem dX7_year_269 : decode cX7_year 269 = .ok (.ishl, 1) := by decide +kernel
theorem dX7_year_270 : decode cX7_year 270 = .ok (.iconst (-1), 1) := by decide +kernel
theorem dX7_year_271 : decode cX7_year 271 = .ok (.ixor, 1) := by decide +kernel
theorem dX7_year_272 : decode cX7_year 272 = .ok (.iand, 1) := by decide +kernel
theorem dX7_year_273 : decode cX7_year 273 = .ok (.istore 6, 2) := by decide +kernel
theorem dX7_year_275 : decode cX7_year 275 = .ok (.iinc 7 1, 3) := by decide +kernel
theorem dX7_year_278 : decode cX7_year 278 = .ok (.goto (-74), 3) := by decide +kernel
theorem dX7_year_281 : decode cX7_year 281 = .ok (.iload_n 3, 1) := by decide +kernel
theorem dX7_year_282 : decode cX7_year 282 = .ok (.ifCond .ne 15, 3) := by decide +kernel
theorem dX7_year_285 : decode cX7_year 285 = .ok (.aload_n 0, 1) := by decide +kernel
theorem dX7_year_286 : decode cX7_year 286 = .ok (.getfield 96, 3) := by decide +kernel
theorem dX7_year_289 : decode cX7_year 289 = .ok (.aload_n 0, 1) := by decide +kernel
theorem dX7_year_290 : decode cX7_year 290 = .ok (.getfield 66, 3) := by decide +kernel
theorem dX7_year_293 : decode cX7_year 293 = .ok (.isub, 1) := by decide +kernel
theorem dX7_year_294 : decode cX7_year 294 = .ok (.goto 15, 3) := by decide +kernel
theorem dX7_year_297 : decode cX7_year 297 = .ok (.iload_n 3, 1) := by decide +kernel
theorem dX7_year_298 : decode cX7_year 298 = .ok (.iconst 1, 1) := by decide +kernel
theorem dX7_year_299 : decode cX7_year 299 = .ok (.if_icmp .ne 8, 3) := by decide +kernel
theorem dX7_year_302 : decode cX7_year 302 = .ok (.iload 5, 2) := by decide +kernel
theorem dX7_year_304 : decode cX7_year 304 = .ok (.goto 5, 3) := by decide +kernel
theorem dX7_year_307 : decode cX7_year 307 = .ok (.iload 6, 2) := by decide +kernel
theorem dX7_year_309 : decode cX7_year 309 = .ok (.ireturn, 1) := by decide +kernel
theorem dX7_image_0 : decode cX7_image 0 = .ok (.iload_n 1, 1) := by decide +kernel
theorem dX7_image_1 : decode cX7_image 1 = .ok (.iconst 0, 1) := by decide +kernel
theorem dX7_image_2 : decode cX7_image 2 = .ok (.iconst 1, 1) := by decide +kernel
theorem dX7_image_3 : decode cX7_image 3 = .ok (.invokestatic 78, 3) := by decide +kernel
theorem dX7_image_6 : decode cX7_image 6 = .ok (.ifCond .ne 6, 3) := by decide +kernel
theorem dX7_image_9 : decode cX7_image 9 = .ok (.bipush (-2), 2) := by decide +kernel
theorem dX7_image_11 : decode cX7_image 11 = .ok (.ireturn, 1) := by decide +kernel
theorem dX7_image_12 : decode cX7_image 12 = .ok (.bipush 70, 2) := by decide +kernel
theorem dX7_image_14 : decode cX7_image 14 = .ok (.iload_n 1, 1) := by decide +kernel
theorem dX7_image_15 : decode cX7_image 15 = .ok (.imul, 1) := by decide +kernel
theorem dX7_image_16 : decode cX7_image 16 = .ok (.istore_n 2, 1) := by decide +kernel
theorem dX7_image_17 : decode cX7_image 17 = .ok (.iconst 0, 1) := by decide +kernel
theorem dX7_image_18 : decode cX7_image 18 = .ok (.istore_n 3, 1) := by decide +kernel
theorem dX7_image_19 : decode cX7_image 19 = .ok (.iload_n 3, 1) := by decide +kernel
theorem dX7_image_20 : decode cX7_image 20 = .ok (.bipush 6, 2) := by decide +kernel
theorem dX7_image_22 : decode cX7_image 22 = .ok (.if_icmp .ge 91, 3) := by decide +kernel
theorem dX7_image_25 : decode cX7_image 25 = .ok (.aload_n 0, 1) := by decide +kernel
theorem dX7_image_26 : decode cX7_image 26 = .ok (.getfield 56, 3) := by decide +kernel
theorem dX7_image_29 : decode cX7_image 29 = .ok (.iload_n 2, 1) := by decide +kernel
theorem dX7_image_30 : decode cX7_image 30 = .ok (.iload_n 3, 1) := by decide +kernel
theorem dX7_image_31 : decode cX7_image 31 = .ok (.iadd, 1) := by decide +kernel
theorem dX7_image_32 : decode cX7_image 32 = .ok (.aload_n 0, 1) := by decide +kernel
theorem dX7_image_33 : decode cX7_image 33 = .ok (.getfield 16, 3) := by decide +kernel
theorem dX7_image_36 : decode cX7_image 36 = .ok (.iload_n 3, 1) := by decide +kernel
theorem dX7_image_37 : decode cX7_image 37 = .ok (.iaload, 1) := by decide +kernel
theorem dX7_image_38 : decode cX7_image 38 = .ok (.iastore, 1) := by decide +kernel
theorem dX7_image_39 : decode cX7_image 39 = .ok (.aload_n 0, 1) := by decide +kernel
theorem dX7_image_40 : decode cX7_image 40 = .ok (.getfield 56, 3) := by decide +kernel
theorem dX7_image_43 : decode cX7_image 43 = .ok (.iload_n 2, 1) := by decide +kernel
theorem dX7_image_44 : decode cX7_image 44 = .ok (.bipush 6, 2) := by decide +kernel
theorem dX7_image_46 : decode cX7_image 46 = .ok (.iadd, 1) := by decide +kernel
theorem dX7_image_47 : decode cX7_image 47 = .ok (.iload_n 3, 1) := by decide +kernel
theorem dX7_image_48 : decode cX7_image 48 = .ok (.iadd, 1) := by decide +kernel
theorem dX7_image_49 : decode cX7_image 49 = .ok (.aload_n 0, 1) := by decide +kernel
theorem dX7_image_50 : decode cX7_image 50 = .ok (.getfield 20, 3) := by decide +kernel
theorem dX7_image_53 : decode cX7_image 53 = .ok (.iload_n 3, 1) := by decide +kernel
theorem dX7_image_54 : decode cX7_image 54 = .ok (.iaload, 1) := by decide +kernel
theorem dX7_image_55 : decode cX7_image 55 = .ok (.iastore, 1) := by decide +kernel
theorem dX7_image_56 : decode cX7_image 56 = .ok (.aload_n 0, 1) := by decide +kernel
theorem dX7_image_57 : decode cX7_image 57 = .ok (.getfield 56, 3) := by decide +kernel
theorem dX7_image_60 : decode cX7_image 60 = .ok (.iload_n 2, 1) := by decide +kernel
theorem dX7_image_61 : decode cX7_image 61 = .ok (.bipush 12, 2) := by decide +kernel
theorem dX7_image_63 : decode cX7_image 63 = .ok (.iadd, 1) := by decide +kernel
theorem dX7_image_64 : decode cX7_image 64 = .ok (.iload_n 3, 1) := by decide +kernel
theorem dX7_image_65 : decode cX7_image 65 = .ok (.iadd, 1) := by decide +kernel
theorem dX7_image_66 : decode cX7_image 66 = .ok (.aload_n 0, 1) := by decide +kernel
theorem dX7_image_67 : decode cX7_image 67 = .ok (.getfield 23, 3) := by decide +kernel
theorem dX7_image_70 : decode cX7_image 70 = .ok (.iload_n 3, 1) := by decide +kernel
theorem dX7_image_71 : decode cX7_image 71 = .ok (.iaload, 1) := by decide +kernel
theorem dX7_image_72 : decode cX7_image 72 = .ok (.iastore, 1) := by decide +kernel
theorem dX7_image_73 : decode cX7_image 73 = .ok (.aload_n 0, 1) := by decide +kernel
theorem dX7_image_74 : decode cX7_image 74 = .ok (.getfield 56, 3) := by decide +kernel
theorem dX7_image_77 : decode cX7_image 77 = .ok (.iload_n 2, 1) := by decide +kernel
theorem dX7_image_78 : decode cX7_image 78 = .ok (.bipush 18, 2) := by decide +kernel
theorem dX7_image_80 : decode cX7_image 80 = .ok (.iadd, 1) := by decide +kernel
theorem dX7_image_81 : decode cX7_image 81 = .ok (.iload_n 3, 1) := by decide +kernel
theorem dX7_image_82 : decode cX7_image 82 = .ok (.iadd, 1) := by decide +kernel
theorem dX7_image_83 : decode cX7_image 83 = .ok (.aload_n 0, 1) := by decide +kernel
theorem dX7_image_84 : decode cX7_image 84 = .ok (.getfield 26, 3) := by decide +kernel
theorem dX7_image_87 : decode cX7_image 87 = .ok (.iload_n 3, 1) := by decide +kernel
theorem dX7_image_88 : decode cX7_image 88 = .ok (.iaload, 1) := by decide +kernel
theorem dX7_image_89 : decode cX7_image 89 = .ok (.iastore, 1) := by decide +kernel
theorem dX7_image_90 : decode cX7_image 90 = .ok (.aload_n 0, 1) := by decide +kernel
theorem dX7_image_91 : decode cX7_image 91 = .ok (.getfield 56, 3) := by decide +kernel
theorem dX7_image_94 : decode cX7_image 94 = .ok (.iload_n 2, 1) := by decide +kernel
theorem dX7_image_95 : decode cX7_image 95 = .ok (.bipush 24, 2) := by decide +kernel
theorem dX7_image_97 : decode cX7_image 97 = .ok (.iadd, 1) := by decide +kernel
theorem dX7_image_98 : decode cX7_image 98 = .ok (.iload_n 3, 1) := by decide +kernel
theorem dX7_image_99 : decode cX7_image 99 = .ok (.iadd, 1) := by decide +kernel
theorem dX7_image_100 : decode cX7_image 100 = .ok (.aload_n 0, 1) := by decide +kernel
theorem dX7_image_101 : decode cX7_image 101 = .ok (.getfield 29, 3) := by decide +kernel
theorem dX7_image_104 : decode cX7_image 104 = .ok (.iload_n 3, 1) := by decide +kernel
theorem dX7_image_105 : decode cX7_image 105 = .ok (.iaload, 1) := by decide +kernel
theorem dX7_image_106 : decode cX7_image 106 = .ok (.iastore, 1) := by decide +kernel
theorem dX7_image_107 : decode cX7_image 107 = .ok (.iinc 3 1, 3) := by decide +kernel
theorem dX7_image_110 : decode cX7_image 110 = .ok (.goto (-91), 3) := by decide +kernel
theorem dX7_image_113 : decode cX7_image 113 = .ok (.iconst 0, 1) := by decide +kernel
theorem dX7_image_114 : decode cX7_image 114 = .ok (.istore_n 3, 1) := by decide +kernel
theorem dX7_image_115 : decode cX7_image 115 = .ok (.iload_n 3, 1) := by decide +kernel
theorem dX7_image_116 : decode cX7_image 116 = .ok (.bipush 16, 2) := by decide +kernel
theorem dX7_image_118 : decode cX7_image 118 = .ok (.if_icmp .ge 26, 3) := by decide +kernel
theorem dX7_image_121 : decode cX7_image 121 = .ok (.aload_n 0, 1) := by decide +kernel
theorem dX7_image_122 : decode cX7_image 122 = .ok (.getfield 56, 3) := by decide +kernel
theorem dX7_image_125 : decode cX7_image 125 = .ok (.iload_n 2, 1) := by decide +kernel
theorem dX7_image_126 : decode cX7_image 126 = .ok (.bipush 30, 2) := by decide +kernel
theorem dX7_image_128 : decode cX7_image 128 = .ok (.iadd, 1) := by decide +kernel
theorem dX7_image_129 : decode cX7_image 129 = .ok (.iload_n 3, 1) := by decide +kernel
theorem dX7_image_130 : decode cX7_image 130 = .ok (.iadd, 1) := by decide +kernel
theorem dX7_image_131 : decode cX7_image 131 = .ok (.aload_n 0, 1) := by decide +kernel
theorem dX7_image_132 : decode cX7_image 132 = .ok (.getfield 32, 3) := by decide +kernel
theorem dX7_image_135 : decode cX7_image 135 = .ok (.iload_n 3, 1) := by decide +kernel
theorem dX7_image_136 : decode cX7_image 136 = .ok (.iaload, 1) := by decide +kernel
theorem dX7_image_137 : decode cX7_image 137 = .ok (.iastore, 1) := by decide +kernel
theorem dX7_image_138 : decode cX7_image 138 = .ok (.iinc 3 1, 3) := by decide +kernel
theorem dX7_image_141 : decode cX7_image 141 = .ok (.goto (-26), 3) := by decide +kernel
theorem dX7_image_144 : decode cX7_image 144 = .ok (.aload_n 0, 1) := by decide +kernel
theorem dX7_image_145 : decode cX7_image 145 = .ok (.getfield 56, 3) := by decide +kernel
theorem dX7_image_148 : decode cX7_image 148 = .ok (.iload_n 2, 1) := by decide +kernel
theorem dX7_image_149 : decode cX7_image 149 = .ok (.bipush 50, 2) := by decide +kernel
theorem dX7_image_151 : decode cX7_image 151 = .ok (.iadd, 1) := by decide +kernel
theorem dX7_image_152 : decode cX7_image 152 = .ok (.aload_n 0, 1) := by decide +kernel
theorem dX7_image_153 : decode cX7_image 153 = .ok (.getfield 7, 3) := by decide +kernel
theorem dX7_image_156 : decode cX7_image 156 = .ok (.iastore, 1) := by decide +kernel
theorem dX7_image_157 : decode cX7_image 157 = .ok (.aload_n 0, 1) := by decide +kernel
theorem dX7_image_158 : decode cX7_image 158 = .ok (.getfield 56, 3) := by decide +kernel
theorem dX7_image_161 : decode cX7_image 161 = .ok (.iload_n 2, 1) := by decide +kernel
theorem dX7_image_162 : decode cX7_image 162 = .ok (.bipush 51, 2) := by decide +kernel
theorem dX7_image_164 : decode cX7_image 164 = .ok (.iadd, 1) := by decide +kernel
theorem dX7_image_165 : decode cX7_image 165 = .ok (.aload_n 0, 1) := by decide +kernel
theorem dX7_image_166 : decode cX7_image 166 = .ok (.getfield 13, 3) := by decide +kernel
theorem dX7_image_169 : decode cX7_image 169 = .ok (.iastore, 1) := by decide +kernel
theorem dX7_image_170 : decode cX7_image 170 = .ok (.aload_n 0, 1) := by decide +kernel
theorem dX7_image_171 : decode cX7_image 171 = .ok (.getfield 56, 3) := by decide +kernel
theorem dX7_image_174 : decode cX7_image 174 = .ok (.iload_n 2, 1) := by decide +kernel
theorem dX7_image_175 : decode cX7_image 175 = .ok (.bipush 52, 2) := by decide +kernel
theorem dX7_image_177 : decode cX7_image 177 = .ok (.iadd, 1) := by decide +kernel
theorem dX7_image_178 : decode cX7_image 178 = .ok (.aload_n 0, 1) := by decide +kernel
theorem dX7_image_179 : decode cX7_image 179 = .ok (.getfield 66, 3) := by decide +kernel
theorem dX7_image_182 : decode cX7_image 182 = .ok (.iastore, 1) := by decide +kernel
theorem dX7_image_183 : decode cX7_image 183 = .ok (.aload_n 0, 1) := by decide +kernel
theorem dX7_image_184 : decode cX7_image 184 = .ok (.getfield 56, 3) := by decide +kernel
theorem dX7_image_187 : decode cX7_image 187 = .ok (.iload_n 2, 1) := by decide +kernel
theorem dX7_image_188 : decode cX7_image 188 = .ok (.bipush 53, 2) := by decide +kernel
theorem dX7_image_190 : decode cX7_image 190 = .ok (.iadd, 1) := by decide +kernel
theorem dX7_image_191 : decode cX7_image 191 = .ok (.aload_n 0, 1) := by decide +kernel
theorem dX7_image_192 : decode cX7_image 192 = .ok (.getfield 69, 3) := by decide +kernel
theorem dX7_image_195 : decode cX7_image 195 = .ok (.iastore, 1) := by decide +kernel
theorem dX7_image_196 : decode cX7_image 196 = .ok (.aload_n 0, 1) := by decide +kernel
theorem dX7_image_197 : decode cX7_image 197 = .ok (.getfield 56, 3) := by decide +kernel
theorem dX7_image_200 : decode cX7_image 200 = .ok (.iload_n 2, 1) := by decide +kernel
theorem dX7_image_201 : decode cX7_image 201 = .ok (.bipush 54, 2) := by decide +kernel
theorem dX7_image_203 : decode cX7_image 203 = .ok (.iadd, 1) := by decide +kernel
theorem dX7_image_204 : decode cX7_image 204 = .ok (.aload_n 0, 1) := by decide +kernel
theorem dX7_image_205 : decode cX7_image 205 = .ok (.getfield 72, 3) := by decide +kernel
theorem dX7_image_208 : decode cX7_image 208 = .ok (.iastore, 1) := by decide +kernel
theorem dX7_image_209 : decode cX7_image 209 = .ok (.aload_n 0, 1) := by decide +kernel
theorem dX7_image_210 : decode cX7_image 210 = .ok (.getfield 56, 3) := by decide +kernel
theorem dX7_image_213 : decode cX7_image 213 = .ok (.iload_n 2, 1) := by decide +kernel
theorem dX7_image_214 : decode cX7_image 214 = .ok (.bipush 55, 2) := by decide +kernel
theorem dX7_image_216 : decode cX7_image 216 = .ok (.iadd, 1) := by decide +kernel
theorem dX7_image_217 : decode cX7_image 217 = .ok (.aload_n 0, 1) := by decide +kernel
theorem dX7_image_218 : decode cX7_image 218 = .ok (.getfield 75, 3) := by decide +kernel
theorem dX7_image_221 : decode cX7_image 221 = .ok (.iastore, 1) := by decide +kernel
theorem dX7_image_222 : decode cX7_image 222 = .ok (.aload_n 0, 1) := by decide +kernel
theorem dX7_image_223 : decode cX7_image 223 = .ok (.getfield 59, 3) := by decide +kernel
theorem dX7_image_226 : decode cX7_image 226 = .ok (.iload_n 1, 1) := by decide +kernel
theorem dX7_image_227 : decode cX7_image 227 = .ok (.iconst 1, 1) := by decide +kernel
theorem dX7_image_228 : decode cX7_image 228 = .ok (.bastore, 1) := by decide +kernel
theorem dX7_image_229 : decode cX7_image 229 = .ok (.iconst 1, 1) := by decide +kernel
theorem dX7_image_230 : decode cX7_image 230 = .ok (.ireturn, 1) := by decide +kernel
theorem dX7_restore_0 : decode cX7_restore 0 = .ok (.iload_n 1, 1) := by decide +kernel
theorem dX7_restore_1 : decode cX7_restore 1 = .ok (.iconst 0, 1) := by decide +kernel
theorem dX7_restore_2 : decode cX7_restore 2 = .ok (.iconst 1, 1) := by decide +kernel
theorem dX7_restore_3 : decode cX7_restore 3 = .ok (.invokestatic 78, 3) := by decide +kernel
theorem dX7_restore_6 : decode cX7_restore 6 = .ok (.ifCond .ne 6, 3) := by decide +kernel
theorem dX7_restore_9 : decode cX7_restore 9 = .ok (.bipush (-2), 2) := by decide +kernel
theorem dX7_restore_11 : decode cX7_restore 11 = .ok (.ireturn, 1) := by decide +kernel
theorem dX7_restore_12 : decode cX7_restore 12 = .ok (.aload_n 0, 1) := by decide +kernel
theorem dX7_restore_13 : decode cX7_restore 13 = .ok (.getfield 59, 3) := by decide +kernel
theorem dX7_restore_16 : decode cX7_restore 16 = .ok (.iload_n 1, 1) := by decide +kernel
theorem dX7_restore_17 : decode cX7_restore 17 = .ok (.baload, 1) := by decide +kernel
theorem dX7_restore_18 : decode cX7_restore 18 = .ok (.ifCond .ne 6, 3) := by decide +kernel
theorem dX7_restore_21 : decode cX7_restore 21 = .ok (.bipush (-3), 2) := by decide +kernel
theorem dX7_restore_23 : decode cX7_restore 23 = .ok (.ireturn, 1) := by decide +kernel
theorem dX7_restore_24 : decode cX7_restore 24 = .ok (.bipush 70, 2) := by decide +kernel
theorem dX7_restore_26 : decode cX7_restore 26 = .ok (.iload_n 1, 1) := by decide +kernel
theorem dX7_restore_27 : decode cX7_restore 27 = .ok (.imul, 1) := by decide +kernel
theorem dX7_restore_28 : decode cX7_restore 28 = .ok (.istore_n 2, 1) := by decide +kernel
theorem dX7_restore_29 : decode cX7_restore 29 = .ok (.iconst 0, 1) := by decide +kernel
theorem dX7_restore_30 : decode cX7_restore 30 = .ok (.istore_n 3, 1) := by decide +kernel
theorem dX7_restore_31 : decode cX7_restore 31 = .ok (.iload_n 3, 1) := by decide +kernel
theorem dX7_restore_32 : decode cX7_restore 32 = .ok (.bipush 6, 2) := by decide +kernel
theorem dX7_restore_34 : decode cX7_restore 34 = .ok (.if_icmp .ge 91, 3) := by decide +kernel
theorem dX7_restore_37 : decode cX7_restore 37 = .ok (.aload_n 0, 1) := by decide +kernel
theorem dX7_restore_38 : decode cX7_restore 38 = .ok (.getfield 16, 3) := by decide +kernel
theorem dX7_restore_41 : decode cX7_restore 41 = .ok (.iload_n 3, 1) := by decide +kernel
theorem dX7_restore_42 : decode cX7_restore 42 = .ok (.aload_n 0, 1) := by decide +kernel
theorem dX7_restore_43 : decode cX7_restore 43 = .ok (.getfield 56, 3) := by decide +kernel
theorem dX7_restore_46 : decode cX7_restore 46 = .ok (.iload_n 2, 1) := by decide +kernel
theorem dX7_restore_47 : decode cX7_restore 47 = .ok (.iload_n 3, 1) := by decide +kernel
theorem dX7_restore_48 : decode cX7_restore 48 = .ok (.iadd, 1) := by decide +kernel
theorem dX7_restore_49 : decode cX7_restore 49 = .ok (.iaload, 1) := by decide +kernel
theorem dX7_restore_50 : decode cX7_restore 50 = .ok (.iastore, 1) := by decide +kernel
theorem dX7_restore_51 : decode cX7_restore 51 = .ok (.aload_n 0, 1) := by decide +kernel
theorem dX7_restore_52 : decode cX7_restore 52 = .ok (.getfield 20, 3) := by decide +kernel
theorem dX7_restore_55 : decode cX7_restore 55 = .ok (.iload_n 3, 1) := by decide +kernel
theorem dX7_restore_56 : decode cX7_restore 56 = .ok (.aload_n 0, 1) := by decide +kernel
theorem dX7_restore_57 : decode cX7_restore 57 = .ok (.getfield 56, 3) := by decide +kernel
theorem dX7_restore_60 : decode cX7_restore 60 = .ok (.iload_n 2, 1) := by decide +kernel
theorem dX7_restore_61 : decode cX7_restore 61 = .ok (.bipush 6, 2) := by decide +kernel
theorem dX7_restore_63 : decode cX7_restore 63 = .ok (.iadd, 1) := by decide +kernel
theorem dX7_restore_64 : decode cX7_restore 64 = .ok (.iload_n 3, 1) := by decide +kernel
theorem dX7_restore_65 : decode cX7_restore 65 = .ok (.iadd, 1) := by decide +kernel
theorem dX7_restore_66 : decode cX7_restore 66 = .ok (.iaload, 1) := by decide +kernel
theorem dX7_restore_67 : decode cX7_restore 67 = .ok (.iastore, 1) := by decide +kernel
theorem dX7_restore_68 : decode cX7_restore 68 = .ok (.aload_n 0, 1) := by decide +kernel
theorem dX7_restore_69 : decode cX7_restore 69 = .ok (.getfield 23, 3) := by decide +kernel
theorem dX7_restore_72 : decode cX7_restore 72 = .ok (.iload_n 3, 1) := by decide +kernel
theorem dX7_restore_73 : decode cX7_restore 73 = .ok (.aload_n 0, 1) := by decide +kernel
theorem dX7_restore_74 : decode cX7_restore 74 = .ok (.getfield 56, 3) := by decide +kernel
theorem dX7_restore_77 : decode cX7_restore 77 = .ok (.iload_n 2, 1) := by decide +kernel
theorem dX7_restore_78 : decode cX7_restore 78 = .ok (.bipush 12, 2) := by decide +kernel
theorem dX7_restore_80 : decode cX7_restore 80 = .ok (.iadd, 1) := by decide +kernel
theorem dX7_restore_81 : decode cX7_restore 81 = .ok (.iload_n 3, 1) := by decide +kernel
theorem dX7_restore_82 : decode cX7_restore 82 = .ok (.iadd, 1) := by decide +kernel
theorem dX7_restore_83 : decode cX7_restore 83 = .ok (.iaload, 1) := by decide +kernel
theorem dX7_restore_84 : decode cX7_restore 84 = .ok (.iastore, 1) := by decide +kernel
theorem dX7_restore_85 : decode cX7_restore 85 = .ok (.aload_n 0, 1) := by decide +kernel
theorem dX7_restore_86 : decode cX7_restore 86 = .ok (.getfield 26, 3) := by decide +kernel
theorem dX7_restore_89 : decode cX7_restore 89 = .ok (.iload_n 3, 1) := by decide +kernel
theorem dX7_restore_90 : decode cX7_restore 90 = .ok (.aload_n 0, 1) := by decide +kernel
theorem dX7_restore_91 : decode cX7_restore 91 = .ok (.getfield 56, 3) := by decide +kernel
theorem dX7_restore_94 : decode cX7_restore 94 = .ok (.iload_n 2, 1) := by decide +kernel
theorem dX7_restore_95 : decode cX7_restore 95 = .ok (.bipush 18, 2) := by decide +kernel
theorem dX7_restore_97 : decode cX7_restore 97 = .ok (.iadd, 1) := by decide +kernel
theorem dX7_restore_98 : decode cX7_restore 98 = .ok (.iload_n 3, 1) := by decide +kernel
theorem dX7_restore_99 : decode cX7_restore 99 = .ok (.iadd, 1) := by decide +kernel
theorem dX7_restore_100 : decode cX7_restore 100 = .ok (.iaload, 1) := by decide +kernel
theorem dX7_restore_101 : decode cX7_restore 101 = .ok (.iastore, 1) := by decide +kernel
theorem dX7_restore_102 : decode cX7_restore 102 = .ok (.aload_n 0, 1) := by decide +kernel
theorem dX7_restore_103 : decode cX7_restore 103 = .ok (.getfield 29, 3) := by decide +kernel
theorem dX7_restore_106 : decode cX7_restore 106 = .ok (.iload_n 3, 1) := by decide +kernel
theorem dX7_restore_107 : decode cX7_restore 107 = .ok (.aload_n 0, 1) := by decide +kernel
theorem dX7_restore_108 : decode cX7_restore 108 = .ok (.getfield 56, 3) := by decide +kernel
theorem dX7_restore_111 : decode cX7_restore 111 = .ok (.iload_n 2, 1) := by decide +kernel
theorem dX7_restore_112 : decode cX7_restore 112 = .ok (.bipush 24, 2) := by decide +kernel
theorem dX7_restore_114 : decode cX7_restore 114 = .ok (.iadd, 1) := by decide +kernel
theorem dX7_restore_115 : decode cX7_restore 115 = .ok (.iload_n 3, 1) := by decide +kernel
theorem dX7_restore_116 : decode cX7_restore 116 = .ok (.iadd, 1) := by decide +kernel
theorem dX7_restore_117 : decode cX7_restore 117 = .ok (.iaload, 1) := by decide +kernel
theorem dX7_restore_118 : decode cX7_restore 118 = .ok (.iastore, 1) := by decide +kernel
theorem dX7_restore_119 : decode cX7_restore 119 = .ok (.iinc 3 1, 3) := by decide +kernel
theorem dX7_restore_122 : decode cX7_restore 122 = .ok (.goto (-91), 3) := by decide +kernel
theorem dX7_restore_125 : decode cX7_restore 125 = .ok (.iconst 0, 1) := by decide +kernel
theorem dX7_restore_126 : decode cX7_restore 126 = .ok (.istore_n 3, 1) := by decide +kernel
theorem dX7_restore_127 : decode cX7_restore 127 = .ok (.iload_n 3, 1) := by decide +kernel
theorem dX7_restore_128 : decode cX7_restore 128 = .ok (.bipush 16, 2) := by decide +kernel
theorem dX7_restore_130 : decode cX7_restore 130 = .ok (.if_icmp .ge 26, 3) := by decide +kernel
theorem dX7_restore_133 : decode cX7_restore 133 = .ok (.aload_n 0, 1) := by decide +kernel
theorem dX7_restore_134 : decode cX7_restore 134 = .ok (.getfield 32, 3) := by decide +kernel
theorem dX7_restore_137 : decode cX7_restore 137 = .ok (.iload_n 3, 1) := by decide +kernel
theorem dX7_restore_138 : decode cX7_restore 138 = .ok (.aload_n 0, 1) := by decide +kernel
theorem dX7_restore_139 : decode cX7_restore 139 = .ok (.getfield 56, 3) := by decide +kernel
theorem dX7_restore_142 : decode cX7_restore 142 = .ok (.iload_n 2, 1) := by decide +kernel
theorem dX7_restore_143 : decode cX7_restore 143 = .ok (.bipush 30, 2) := by decide +kernel
theorem dX7_restore_145 : decode cX7_restore 145 = .ok (.iadd, 1) := by decide +kernel
theorem dX7_restore_146 : decode cX7_restore 146 = .ok (.iload_n 3, 1) := by decide +kernel
theorem dX7_restore_147 : decode cX7_restore 147 = .ok (.iadd, 1) := by decide +kernel
theorem dX7_restore_148 : decode cX7_restore 148 = .ok (.iaload, 1) := by decide +kernel
theorem dX7_restore_149 : decode cX7_restore 149 = .ok (.iastore, 1) := by decide +kernel
theorem dX7_restore_150 : decode cX7_restore 150 = .ok (.iinc 3 1, 3) := by decide +kernel
theorem dX7_restore_153 : decode cX7_restore 153 = .ok (.goto (-26), 3) := by decide +kernel
theorem dX7_restore_156 : decode cX7_restore 156 = .ok (.aload_n 0, 1) := by decide +kernel
theorem dX7_restore_157 : decode cX7_restore 157 = .ok (.aload_n 0, 1) := by decide +kernel
theorem dX7_restore_158 : decode cX7_restore 158 = .ok (.getfield 56, 3) := by decide +kernel
theorem dX7_restore_161 : decode cX7_restore 161 = .ok (.iload_n 2, 1) := by decide +kernel
theorem dX7_restore_162 : decode cX7_restore 162 = .ok (.bipush 50, 2) := by decide +kernel
theorem dX7_restore_164 : decode cX7_restore 164 = .ok (.iadd, 1) := by decide +kernel
theorem dX7_restore_165 : decode cX7_restore 165 = .ok (.iaload, 1) := by decide +kernel
theorem dX7_restore_166 : decode cX7_restore 166 = .ok (.putfield 7, 3) := by decide +kernel
theorem dX7_restore_169 : decode cX7_restore 169 = .ok (.aload_n 0, 1) := by decide +kernel
theorem dX7_restore_170 : decode cX7_restore 170 = .ok (.aload_n 0, 1) := by decide +kernel
theorem dX7_restore_171 : decode cX7_restore 171 = .ok (.getfield 56, 3) := by decide +kernel
theorem dX7_restore_174 : decode cX7_restore 174 = .ok (.iload_n 2, 1) := by decide +kernel
theorem dX7_restore_175 : decode cX7_restore 175 = .ok (.bipush 51, 2) := by decide +kernel
theorem dX7_restore_177 : decode cX7_restore 177 = .ok (.iadd, 1) := by decide +kernel
theorem dX7_restore_178 : decode cX7_restore 178 = .ok (.iaload, 1) := by decide +kernel
theorem dX7_restore_179 : decode cX7_restore 179 = .ok (.putfield 13, 3) := by decide +kernel
theorem dX7_restore_182 : decode cX7_restore 182 = .ok (.aload_n 0, 1) := by decide +kernel
theorem dX7_restore_183 : decode cX7_restore 183 = .ok (.aload_n 0, 1) := by decide +kernel
theorem dX7_restore_184 : decode cX7_restore 184 = .ok (.getfield 56, 3) := by decide +kernel
theorem dX7_restore_187 : decode cX7_restore 187 = .ok (.iload_n 2, 1) := by decide +kernel
theorem dX7_restore_188 : decode cX7_restore 188 = .ok (.bipush 52, 2) := by decide +kernel
theorem dX7_restore_190 : decode cX7_restore 190 = .ok (.iadd, 1) := by decide +kernel
theorem dX7_restore_191 : decode cX7_restore 191 = .ok (.iaload, 1) := by decide +kernel
theorem dX7_restore_192 : decode cX7_restore 192 = .ok (.putfield 66, 3) := by decide +kernel
theorem dX7_restore_195 : decode cX7_restore 195 = .ok (.aload_n 0, 1) := by decide +kernel
theorem dX7_restore_196 : decode cX7_restore 196 = .ok (.aload_n 0, 1) := by decide +kernel
theorem dX7_restore_197 : decode cX7_restore 197 = .ok (.getfield 56, 3) := by decide +kernel
theorem dX7_restore_200 : decode cX7_restore 200 = .ok (.iload_n 2, 1) := by decide +kernel
theorem dX7_restore_201 : decode cX7_restore 201 = .ok (.bipush 53, 2) := by decide +kernel
theorem dX7_restore_203 : decode cX7_restore 203 = .ok (.iadd, 1) := by decide +kernel
theorem dX7_restore_204 : decode cX7_restore 204 = .ok (.iaload, 1) := by decide +kernel
theorem dX7_restore_205 : decode cX7_restore 205 = .ok (.putfield 69, 3) := by decide +kernel
theorem dX7_restore_208 : decode cX7_restore 208 = .ok (.aload_n 0, 1) := by decide +kernel
theorem dX7_restore_209 : decode cX7_restore 209 = .ok (.aload_n 0, 1) := by decide +kernel
theorem dX7_restore_210 : decode cX7_restore 210 = .ok (.getfield 56, 3) := by decide +kernel
theorem dX7_restore_213 : decode cX7_restore 213 = .ok (.iload_n 2, 1) := by decide +kernel
theorem dX7_restore_214 : decode cX7_restore 214 = .ok (.bipush 54, 2) := by decide +kernel
theorem dX7_restore_216 : decode cX7_restore 216 = .ok (.iadd, 1) := by decide +kernel
theorem dX7_restore_217 : decode cX7_restore 217 = .ok (.iaload, 1) := by decide +kernel
theorem dX7_restore_218 : decode cX7_restore 218 = .ok (.putfield 72, 3) := by decide +kernel
theorem dX7_restore_221 : decode cX7_restore 221 = .ok (.aload_n 0, 1) := by decide +kernel
theorem dX7_restore_222 : decode cX7_restore 222 = .ok (.aload_n 0, 1) := by decide +kernel
theorem dX7_restore_223 : decode cX7_restore 223 = .ok (.getfield 56, 3) := by decide +kernel
theorem dX7_restore_226 : decode cX7_restore 226 = .ok (.iload_n 2, 1) := by decide +kernel
theorem dX7_restore_227 : decode cX7_restore 227 = .ok (.bipush 55, 2) := by decide +kernel
theorem dX7_restore_229 : decode cX7_restore 229 = .ok (.iadd, 1) := by decide +kernel
theorem dX7_restore_230 : decode cX7_restore 230 = .ok (.iaload, 1) := by decide +kernel
theorem dX7_restore_231 : decode cX7_restore 231 = .ok (.putfield 75, 3) := by decide +kernel
theorem dX7_restore_234 : decode cX7_restore 234 = .ok (.iconst 1, 1) := by decide +kernel
theorem dX7_restore_235 : decode cX7_restore 235 = .ok (.ireturn, 1) := by decide +kernel
theorem dX7_told_0 : decode cX7_told 0 = .ok (.iload_n 1, 1) := by decide +kernel
theorem dX7_told_1 : decode cX7_told 1 = .ok (.bipush 20, 2) := by decide +kernel
theorem dX7_told_3 : decode cX7_told 3 = .ok (.if_icmp .lt 29, 3) := by decide +kernel
theorem dX7_told_6 : decode cX7_told 6 = .ok (.aload_n 0, 1) := by decide +kernel
theorem dX7_told_7 : decode cX7_told 7 = .ok (.iload_n 1, 1) := by decide +kernel
theorem dX7_told_8 : decode cX7_told 8 = .ok (.bipush 20, 2) := by decide +kernel
theorem dX7_told_10 : decode cX7_told 10 = .ok (.isub, 1) := by decide +kernel
theorem dX7_told_11 : decode cX7_told 11 = .ok (.invokevirtual 82, 3) := by decide +kernel
theorem dX7_told_14 : decode cX7_told 14 = .ok (.ifCond .eq 15, 3) := by decide +kernel
theorem dX7_told_17 : decode cX7_told 17 = .ok (.aload_n 0, 1) := by decide +kernel
theorem dX7_told_18 : decode cX7_told 18 = .ok (.getfield 29, 3) := by decide +kernel
theorem dX7_told_21 : decode cX7_told 21 = .ok (.iload_n 1, 1) := by decide +kernel
theorem dX7_told_22 : decode cX7_told 22 = .ok (.bipush 20, 2) := by decide +kernel
theorem dX7_told_24 : decode cX7_told 24 = .ok (.isub, 1) := by decide +kernel
theorem dX7_told_25 : decode cX7_told 25 = .ok (.iaload, 1) := by decide +kernel
theorem dX7_told_26 : decode cX7_told 26 = .ok (.goto 5, 3) := by decide +kernel
theorem dX7_told_29 : decode cX7_told 29 = .ok (.bipush (-2), 2) := by decide +kernel
theorem dX7_told_31 : decode cX7_told 31 = .ok (.ireturn, 1) := by decide +kernel
theorem dX7_told_32 : decode cX7_told 32 = .ok (.iload_n 1, 1) := by decide +kernel
theorem dX7_told_33 : decode cX7_told 33 = .ok (.bipush 10, 2) := by decide +kernel
theorem dX7_told_35 : decode cX7_told 35 = .ok (.if_icmp .lt 29, 3) := by decide +kernel
theorem dX7_told_38 : decode cX7_told 38 = .ok (.aload_n 0, 1) := by decide +kernel
theorem dX7_told_39 : decode cX7_told 39 = .ok (.iload_n 1, 1) := by decide +kernel
theorem dX7_told_40 : decode cX7_told 40 = .ok (.bipush 10, 2) := by decide +kernel
theorem dX7_told_42 : decode cX7_told 42 = .ok (.isub, 1) := by decide +kernel
theorem dX7_told_43 : decode cX7_told 43 = .ok (.invokevirtual 82, 3) := by decide +kernel
theorem dX7_told_46 : decode cX7_told 46 = .ok (.ifCond .eq 15, 3) := by decide +kernel
theorem dX7_told_49 : decode cX7_told 49 = .ok (.aload_n 0, 1) := by decide +kernel
theorem dX7_told_50 : decode cX7_told 50 = .ok (.getfield 26, 3) := by decide +kernel
theorem dX7_told_53 : decode cX7_told 53 = .ok (.iload_n 1, 1) := by decide +kernel
theorem dX7_told_54 : decode cX7_told 54 = .ok (.bipush 10, 2) := by decide +kernel
theorem dX7_told_56 : decode cX7_told 56 = .ok (.isub, 1) := by decide +kernel
theorem dX7_told_57 : decode cX7_told 57 = .ok (.iaload, 1) := by decide +kernel
theorem dX7_told_58 : decode cX7_told 58 = .ok (.goto 5, 3) := by decide +kernel
theorem dX7_told_61 : decode cX7_told 61 = .ok (.bipush (-2), 2) := by decide +kernel
theorem dX7_told_63 : decode cX7_told 63 = .ok (.ireturn, 1) := by decide +kernel
theorem dX7_told_64 : decode cX7_told 64 = .ok (.iconst 0, 1) := by decide +kernel
theorem dX7_told_65 : decode cX7_told 65 = .ok (.istore_n 2, 1) := by decide +kernel
theorem dX7_told_66 : decode cX7_told 66 = .ok (.iconst 0, 1) := by decide +kernel
theorem dX7_told_67 : decode cX7_told 67 = .ok (.istore_n 3, 1) := by decide +kernel
theorem dX7_told_68 : decode cX7_told 68 = .ok (.iload_n 3, 1) := by decide +kernel
theorem dX7_told_69 : decode cX7_told 69 = .ok (.aload_n 0, 1) := by decide +kernel
theorem dX7_told_70 : decode cX7_told 70 = .ok (.getfield 7, 3) := by decide +kernel
theorem dX7_told_73 : decode cX7_told 73 = .ok (.if_icmp .ge 28, 3) := by decide +kernel
theorem dX7_told_76 : decode cX7_told 76 = .ok (.iload_n 2, 1) := by decide +kernel
theorem dX7_told_77 : decode cX7_told 77 = .ok (.aload_n 0, 1) := by decide +kernel
theorem dX7_told_78 : decode cX7_told 78 = .ok (.getfield 16, 3) := by decide +kernel
theorem dX7_told_81 : decode cX7_told 81 = .ok (.iload_n 3, 1) := by decide +kernel
theorem dX7_told_82 : decode cX7_told 82 = .ok (.iaload, 1) := by decide +kernel
theorem dX7_told_83 : decode cX7_told 83 = .ok (.ifCond .lt 9, 3) := by decide +kernel
theorem dX7_told_86 : decode cX7_told 86 = .ok (.iconst 1, 1) := by decide +kernel
theorem dX7_told_87 : decode cX7_told 87 = .ok (.iload_n 3, 1) := by decide +kernel
theorem dX7_told_88 : decode cX7_told 88 = .ok (.ishl, 1) := by decide +kernel
theorem dX7_told_89 : decode cX7_told 89 = .ok (.goto 4, 3) := by decide +kernel
theorem dX7_told_92 : decode cX7_told 92 = .ok (.iconst 0, 1) := by decide +kernel
theorem dX7_told_93 : decode cX7_told 93 = .ok (.ior, 1) := by decide +kernel
theorem dX7_told_94 : decode cX7_told 94 = .ok (.istore_n 2, 1) := by decide +kernel
theorem dX7_told_95 : decode cX7_told 95 = .ok (.iinc 3 1, 3) := by decide +kernel
theorem dX7_told_98 : decode cX7_told 98 = .ok (.goto (-30), 3) := by decide +kernel
theorem dX7_told_101 : decode cX7_told 101 = .ok (.iload_n 1, 1) := by decide +kernel
theorem dX7_told_102 : decode cX7_told 102 = .ok (.tableswitch 65 0 5 #[38, 43, 48, 53, 58, 63], 38) := by decide +kernel
theorem dX7_told_140 : decode cX7_told 140 = .ok (.aload_n 0, 1) := by decide +kernel
theorem dX7_told_141 : decode cX7_told 141 = .ok (.getfield 86, 3) := by decide +kernel
theorem dX7_told_144 : decode cX7_told 144 = .ok (.ireturn, 1) := by decide +kernel
theorem dX7_told_145 : decode cX7_told 145 = .ok (.aload_n 0, 1) := by decide +kernel
theorem dX7_told_146 : decode cX7_told 146 = .ok (.getfield 7, 3) := by decide +kernel
theorem dX7_told_149 : decode cX7_told 149 = .ok (.ireturn, 1) := by decide +kernel
theorem dX7_told_150 : decode cX7_told 150 = .ok (.aload_n 0, 1) := by decide +kernel
theorem dX7_told_151 : decode cX7_told 151 = .ok (.getfield 13, 3) := by decide +kernel
theorem dX7_told_154 : decode cX7_told 154 = .ok (.ireturn, 1) := by decide +kernel
theorem dX7_told_155 : decode cX7_told 155 = .ok (.aload_n 0, 1) := by decide +kernel
theorem dX7_told_156 : decode cX7_told 156 = .ok (.getfield 66, 3) := by decide +kernel
theorem dX7_told_159 : decode cX7_told 159 = .ok (.ireturn, 1) := by decide +kernel
theorem dX7_told_160 : decode cX7_told 160 = .ok (.aload_n 0, 1) := by decide +kernel
theorem dX7_told_161 : decode cX7_told 161 = .ok (.getfield 69, 3) := by decide +kernel
theorem dX7_told_164 : decode cX7_told 164 = .ok (.ireturn, 1) := by decide +kernel
theorem dX7_told_165 : decode cX7_told 165 = .ok (.iload_n 2, 1) := by decide +kernel
theorem dX7_told_166 : decode cX7_told 166 = .ok (.ireturn, 1) := by decide +kernel
theorem dX7_told_167 : decode cX7_told 167 = .ok (.iload_n 1, 1) := by decide +kernel
theorem dX7_told_168 : decode cX7_told 168 = .ok (.bipush 6, 2) := by decide +kernel
theorem dX7_told_170 : decode cX7_told 170 = .ok (.if_icmp .ne 10, 3) := by decide +kernel
theorem dX7_told_173 : decode cX7_told 173 = .ok (.aload_n 0, 1) := by decide +kernel
theorem dX7_told_174 : decode cX7_told 174 = .ok (.getfield 75, 3) := by decide +kernel
theorem dX7_told_177 : decode cX7_told 177 = .ok (.goto 5, 3) := by decide +kernel
theorem dX7_told_180 : decode cX7_told 180 = .ok (.bipush (-2), 2) := by decide +kernel
theorem dX7_told_182 : decode cX7_told 182 = .ok (.ireturn, 1) := by decide +kernel
