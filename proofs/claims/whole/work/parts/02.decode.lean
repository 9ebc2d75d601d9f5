-- decode rows: printed by the TURN, copied
theorem dX0_init_0 : decode cX0_init 0 = .ok (.aload_n 0, 1) := by decide +kernel
theorem dX0_init_1 : decode cX0_init 1 = .ok (.invokespecial 3, 3) := by decide +kernel
theorem dX0_init_4 : decode cX0_init 4 = .ok (.aload_n 0, 1) := by decide +kernel
theorem dX0_init_5 : decode cX0_init 5 = .ok (.new 9, 3) := by decide +kernel
theorem dX0_init_8 : decode cX0_init 8 = .ok (.dup, 1) := by decide +kernel
theorem dX0_init_9 : decode cX0_init 9 = .ok (.bipush 6, 2) := by decide +kernel
theorem dX0_init_11 : decode cX0_init 11 = .ok (.invokespecial 11, 3) := by decide +kernel
theorem dX0_init_14 : decode cX0_init 14 = .ok (.putfield 14, 3) := by decide +kernel
theorem dX0_init_17 : decode cX0_init 17 = .ok (.return_, 1) := by decide +kernel
theorem dX0_prepare_0 : decode cX0_prepare 0 = .ok (.aload_n 0, 1) := by decide +kernel
theorem dX0_prepare_1 : decode cX0_prepare 1 = .ok (.iconst 0, 1) := by decide +kernel
theorem dX0_prepare_2 : decode cX0_prepare 2 = .ok (.putfield 20, 3) := by decide +kernel
theorem dX0_prepare_5 : decode cX0_prepare 5 = .ok (.aload_n 0, 1) := by decide +kernel
theorem dX0_prepare_6 : decode cX0_prepare 6 = .ok (.iconst 0, 1) := by decide +kernel
theorem dX0_prepare_7 : decode cX0_prepare 7 = .ok (.putfield 24, 3) := by decide +kernel
theorem dX0_prepare_10 : decode cX0_prepare 10 = .ok (.aload_n 0, 1) := by decide +kernel
theorem dX0_prepare_11 : decode cX0_prepare 11 = .ok (.iconst 0, 1) := by decide +kernel
theorem dX0_prepare_12 : decode cX0_prepare 12 = .ok (.putfield 27, 3) := by decide +kernel
theorem dX0_prepare_15 : decode cX0_prepare 15 = .ok (.aload_n 0, 1) := by decide +kernel
theorem dX0_prepare_16 : decode cX0_prepare 16 = .ok (.iconst 0, 1) := by decide +kernel
theorem dX0_prepare_17 : decode cX0_prepare 17 = .ok (.putfield 30, 3) := by decide +kernel
theorem dX0_prepare_20 : decode cX0_prepare 20 = .ok (.aload_n 0, 1) := by decide +kernel
theorem dX0_prepare_21 : decode cX0_prepare 21 = .ok (.iconst 0, 1) := by decide +kernel
theorem dX0_prepare_22 : decode cX0_prepare 22 = .ok (.putfield 33, 3) := by decide +kernel
theorem dX0_prepare_25 : decode cX0_prepare 25 = .ok (.aload_n 0, 1) := by decide +kernel
theorem dX0_prepare_26 : decode cX0_prepare 26 = .ok (.iconst 0, 1) := by decide +kernel
theorem dX0_prepare_27 : decode cX0_prepare 27 = .ok (.putfield 36, 3) := by decide +kernel
theorem dX0_prepare_30 : decode cX0_prepare 30 = .ok (.aload_n 0, 1) := by decide +kernel
theorem dX0_prepare_31 : decode cX0_prepare 31 = .ok (.getfield 14, 3) := by decide +kernel
theorem dX0_prepare_34 : decode cX0_prepare 34 = .ok (.iconst 0, 1) := by decide +kernel
theorem dX0_prepare_35 : decode cX0_prepare 35 = .ok (.invokevirtual 40, 3) := by decide +kernel
theorem dX0_prepare_38 : decode cX0_prepare 38 = .ok (.iconst 0, 1) := by decide +kernel
theorem dX0_prepare_39 : decode cX0_prepare 39 = .ok (.istore_n 2, 1) := by decide +kernel
theorem dX0_prepare_40 : decode cX0_prepare 40 = .ok (.iload_n 2, 1) := by decide +kernel
theorem dX0_prepare_41 : decode cX0_prepare 41 = .ok (.aload_n 1, 1) := by decide +kernel
theorem dX0_prepare_42 : decode cX0_prepare 42 = .ok (.getfield 43, 3) := by decide +kernel
theorem dX0_prepare_45 : decode cX0_prepare 45 = .ok (.if_icmp .ge 46, 3) := by decide +kernel
theorem dX0_prepare_48 : decode cX0_prepare 48 = .ok (.aload_n 1, 1) := by decide +kernel
theorem dX0_prepare_49 : decode cX0_prepare 49 = .ok (.iload_n 2, 1) := by decide +kernel
theorem dX0_prepare_50 : decode cX0_prepare 50 = .ok (.invokevirtual 48, 3) := by decide +kernel
theorem dX0_prepare_53 : decode cX0_prepare 53 = .ok (.ifCond .eq 32, 3) := by decide +kernel
theorem dX0_prepare_56 : decode cX0_prepare 56 = .ok (.aload_n 0, 1) := by decide +kernel
theorem dX0_prepare_57 : decode cX0_prepare 57 = .ok (.aload_n 1, 1) := by decide +kernel
theorem dX0_prepare_58 : decode cX0_prepare 58 = .ok (.getfield 52, 3) := by decide +kernel
theorem dX0_prepare_61 : decode cX0_prepare 61 = .ok (.iload_n 2, 1) := by decide +kernel
theorem dX0_prepare_62 : decode cX0_prepare 62 = .ok (.invokevirtual 55, 3) := by decide +kernel
theorem dX0_prepare_65 : decode cX0_prepare 65 = .ok (.aload_n 1, 1) := by decide +kernel
theorem dX0_prepare_66 : decode cX0_prepare 66 = .ok (.getfield 59, 3) := by decide +kernel
theorem dX0_prepare_69 : decode cX0_prepare 69 = .ok (.iload_n 2, 1) := by decide +kernel
theorem dX0_prepare_70 : decode cX0_prepare 70 = .ok (.invokevirtual 55, 3) := by decide +kernel
theorem dX0_prepare_73 : decode cX0_prepare 73 = .ok (.iconst 1, 1) := by decide +kernel
theorem dX0_prepare_74 : decode cX0_prepare 74 = .ok (.if_icmp .ne 7, 3) := by decide +kernel
theorem dX0_prepare_77 : decode cX0_prepare 77 = .ok (.iconst 1, 1) := by decide +kernel
theorem dX0_prepare_78 : decode cX0_prepare 78 = .ok (.goto 4, 3) := by decide +kernel
theorem dX0_prepare_81 : decode cX0_prepare 81 = .ok (.iconst 0, 1) := by decide +kernel
theorem dX0_prepare_82 : decode cX0_prepare 82 = .ok (.invokevirtual 62, 3) := by decide +kernel
theorem dX0_prepare_85 : decode cX0_prepare 85 = .ok (.iinc 2 1, 3) := by decide +kernel
theorem dX0_prepare_88 : decode cX0_prepare 88 = .ok (.goto (-48), 3) := by decide +kernel
theorem dX0_prepare_91 : decode cX0_prepare 91 = .ok (.iconst 0, 1) := by decide +kernel
theorem dX0_prepare_92 : decode cX0_prepare 92 = .ok (.istore_n 2, 1) := by decide +kernel
theorem dX0_prepare_93 : decode cX0_prepare 93 = .ok (.iload_n 2, 1) := by decide +kernel
theorem dX0_prepare_94 : decode cX0_prepare 94 = .ok (.aload_n 1, 1) := by decide +kernel
theorem dX0_prepare_95 : decode cX0_prepare 95 = .ok (.getfield 66, 3) := by decide +kernel
theorem dX0_prepare_98 : decode cX0_prepare 98 = .ok (.if_icmp .ge 38, 3) := by decide +kernel
theorem dX0_prepare_101 : decode cX0_prepare 101 = .ok (.aload_n 0, 1) := by decide +kernel
theorem dX0_prepare_102 : decode cX0_prepare 102 = .ok (.aload_n 1, 1) := by decide +kernel
theorem dX0_prepare_103 : decode cX0_prepare 103 = .ok (.getfield 69, 3) := by decide +kernel
theorem dX0_prepare_106 : decode cX0_prepare 106 = .ok (.iload_n 2, 1) := by decide +kernel
theorem dX0_prepare_107 : decode cX0_prepare 107 = .ok (.invokevirtual 55, 3) := by decide +kernel
theorem dX0_prepare_110 : decode cX0_prepare 110 = .ok (.aload_n 1, 1) := by decide +kernel
theorem dX0_prepare_111 : decode cX0_prepare 111 = .ok (.getfield 72, 3) := by decide +kernel
theorem dX0_prepare_114 : decode cX0_prepare 114 = .ok (.iload_n 2, 1) := by decide +kernel
theorem dX0_prepare_115 : decode cX0_prepare 115 = .ok (.invokevirtual 55, 3) := by decide +kernel
theorem dX0_prepare_118 : decode cX0_prepare 118 = .ok (.iconst 1, 1) := by decide +kernel
theorem dX0_prepare_119 : decode cX0_prepare 119 = .ok (.if_icmp .ne 7, 3) := by decide +kernel
theorem dX0_prepare_122 : decode cX0_prepare 122 = .ok (.iconst 1, 1) := by decide +kernel
theorem dX0_prepare_123 : decode cX0_prepare 123 = .ok (.goto 4, 3) := by decide +kernel
theorem dX0_prepare_126 : decode cX0_prepare 126 = .ok (.iconst 0, 1) := by decide +kernel
theorem dX0_prepare_127 : decode cX0_prepare 127 = .ok (.invokevirtual 75, 3) := by decide +kernel
theorem dX0_prepare_130 : decode cX0_prepare 130 = .ok (.iinc 2 1, 3) := by decide +kernel
theorem dX0_prepare_133 : decode cX0_prepare 133 = .ok (.goto (-40), 3) := by decide +kernel
theorem dX0_prepare_136 : decode cX0_prepare 136 = .ok (.return_, 1) := by decide +kernel
theorem dX0_heed_0 : decode cX0_heed 0 = .ok (.iload_n 2, 1) := by decide +kernel
theorem dX0_heed_1 : decode cX0_heed 1 = .ok (.ifCond .eq 7, 3) := by decide +kernel
theorem dX0_heed_4 : decode cX0_heed 4 = .ok (.iconst 1, 1) := by decide +kernel
theorem dX0_heed_5 : decode cX0_heed 5 = .ok (.goto 4, 3) := by decide +kernel
theorem dX0_heed_8 : decode cX0_heed 8 = .ok (.iconst 2, 1) := by decide +kernel
theorem dX0_heed_9 : decode cX0_heed 9 = .ok (.istore_n 3, 1) := by decide +kernel
theorem dX0_heed_10 : decode cX0_heed 10 = .ok (.aload_n 0, 1) := by decide +kernel
theorem dX0_heed_11 : decode cX0_heed 11 = .ok (.iload_n 1, 1) := by decide +kernel
theorem dX0_heed_12 : decode cX0_heed 12 = .ok (.invokevirtual 78, 3) := by decide +kernel
theorem dX0_heed_15 : decode cX0_heed 15 = .ok (.ifCond .ne 11, 3) := by decide +kernel
theorem dX0_heed_18 : decode cX0_heed 18 = .ok (.aload_n 0, 1) := by decide +kernel
theorem dX0_heed_19 : decode cX0_heed 19 = .ok (.iconst 1, 1) := by decide +kernel
theorem dX0_heed_20 : decode cX0_heed 20 = .ok (.putfield 36, 3) := by decide +kernel
theorem dX0_heed_23 : decode cX0_heed 23 = .ok (.goto 49, 3) := by decide +kernel
theorem dX0_heed_26 : decode cX0_heed 26 = .ok (.aload_n 0, 1) := by decide +kernel
theorem dX0_heed_27 : decode cX0_heed 27 = .ok (.getfield 14, 3) := by decide +kernel
theorem dX0_heed_30 : decode cX0_heed 30 = .ok (.iload_n 1, 1) := by decide +kernel
theorem dX0_heed_31 : decode cX0_heed 31 = .ok (.invokevirtual 55, 3) := by decide +kernel
theorem dX0_heed_34 : decode cX0_heed 34 = .ok (.ifCond .ne 21, 3) := by decide +kernel
theorem dX0_heed_37 : decode cX0_heed 37 = .ok (.aload_n 0, 1) := by decide +kernel
theorem dX0_heed_38 : decode cX0_heed 38 = .ok (.getfield 14, 3) := by decide +kernel
theorem dX0_heed_41 : decode cX0_heed 41 = .ok (.iload_n 1, 1) := by decide +kernel
theorem dX0_heed_42 : decode cX0_heed 42 = .ok (.iload_n 3, 1) := by decide +kernel
theorem dX0_heed_43 : decode cX0_heed 43 = .ok (.invokevirtual 81, 3) := by decide +kernel
theorem dX0_heed_46 : decode cX0_heed 46 = .ok (.aload_n 0, 1) := by decide +kernel
theorem dX0_heed_47 : decode cX0_heed 47 = .ok (.iload_n 1, 1) := by decide +kernel
theorem dX0_heed_48 : decode cX0_heed 48 = .ok (.iconst 1, 1) := by decide +kernel
theorem dX0_heed_49 : decode cX0_heed 49 = .ok (.invokevirtual 85, 3) := by decide +kernel
theorem dX0_heed_52 : decode cX0_heed 52 = .ok (.goto 20, 3) := by decide +kernel
theorem dX0_heed_55 : decode cX0_heed 55 = .ok (.aload_n 0, 1) := by decide +kernel
theorem dX0_heed_56 : decode cX0_heed 56 = .ok (.getfield 14, 3) := by decide +kernel
theorem dX0_heed_59 : decode cX0_heed 59 = .ok (.iload_n 1, 1) := by decide +kernel
theorem dX0_heed_60 : decode cX0_heed 60 = .ok (.invokevirtual 55, 3) := by decide +kernel
theorem dX0_heed_63 : decode cX0_heed 63 = .ok (.iload_n 3, 1) := by decide +kernel
theorem dX0_heed_64 : decode cX0_heed 64 = .ok (.if_icmp .eq 8, 3) := by decide +kernel
theorem dX0_heed_67 : decode cX0_heed 67 = .ok (.aload_n 0, 1) := by decide +kernel
theorem dX0_heed_68 : decode cX0_heed 68 = .ok (.iconst 1, 1) := by decide +kernel
theorem dX0_heed_69 : decode cX0_heed 69 = .ok (.putfield 36, 3) := by decide +kernel
theorem dX0_heed_72 : decode cX0_heed 72 = .ok (.return_, 1) := by decide +kernel
theorem dX0_isOpen_0 : decode cX0_isOpen 0 = .ok (.aload_n 0, 1) := by decide +kernel
theorem dX0_isOpen_1 : decode cX0_isOpen 1 = .ok (.getfield 20, 3) := by decide +kernel
theorem dX0_isOpen_4 : decode cX0_isOpen 4 = .ok (.iload_n 1, 1) := by decide +kernel
theorem dX0_isOpen_5 : decode cX0_isOpen 5 = .ok (.ishr, 1) := by decide +kernel
theorem dX0_isOpen_6 : decode cX0_isOpen 6 = .ok (.iconst 1, 1) := by decide +kernel
theorem dX0_isOpen_7 : decode cX0_isOpen 7 = .ok (.iand, 1) := by decide +kernel
theorem dX0_isOpen_8 : decode cX0_isOpen 8 = .ok (.iconst 1, 1) := by decide +kernel
theorem dX0_isOpen_9 : decode cX0_isOpen 9 = .ok (.if_icmp .ne 7, 3) := by decide +kernel
theorem dX0_isOpen_12 : decode cX0_isOpen 12 = .ok (.iconst 1, 1) := by decide +kernel
theorem dX0_isOpen_13 : decode cX0_isOpen 13 = .ok (.goto 4, 3) := by decide +kernel
theorem dX0_isOpen_16 : decode cX0_isOpen 16 = .ok (.iconst 0, 1) := by decide +kernel
theorem dX0_isOpen_17 : decode cX0_isOpen 17 = .ok (.ireturn, 1) := by decide +kernel
theorem dX0_suits_0 : decode cX0_suits 0 = .ok (.aload_n 0, 1) := by decide +kernel
theorem dX0_suits_1 : decode cX0_suits 1 = .ok (.iload_n 1, 1) := by decide +kernel
theorem dX0_suits_2 : decode cX0_suits 2 = .ok (.invokevirtual 78, 3) := by decide +kernel
theorem dX0_suits_5 : decode cX0_suits 5 = .ok (.ifCond .eq 27, 3) := by decide +kernel
theorem dX0_suits_8 : decode cX0_suits 8 = .ok (.aload_n 0, 1) := by decide +kernel
theorem dX0_suits_9 : decode cX0_suits 9 = .ok (.getfield 14, 3) := by decide +kernel
theorem dX0_suits_12 : decode cX0_suits 12 = .ok (.iload_n 1, 1) := by decide +kernel
theorem dX0_suits_13 : decode cX0_suits 13 = .ok (.invokevirtual 55, 3) := by decide +kernel
theorem dX0_suits_16 : decode cX0_suits 16 = .ok (.iload_n 2, 1) := by decide +kernel
theorem dX0_suits_17 : decode cX0_suits 17 = .ok (.ifCond .eq 7, 3) := by decide +kernel
theorem dX0_suits_20 : decode cX0_suits 20 = .ok (.iconst 2, 1) := by decide +kernel
theorem dX0_suits_21 : decode cX0_suits 21 = .ok (.goto 4, 3) := by decide +kernel
theorem dX0_suits_24 : decode cX0_suits 24 = .ok (.iconst 1, 1) := by decide +kernel
theorem dX0_suits_25 : decode cX0_suits 25 = .ok (.if_icmp .eq 7, 3) := by decide +kernel
theorem dX0_suits_28 : decode cX0_suits 28 = .ok (.iconst 1, 1) := by decide +kernel
theorem dX0_suits_29 : decode cX0_suits 29 = .ok (.goto 4, 3) := by decide +kernel
theorem dX0_suits_32 : decode cX0_suits 32 = .ok (.iconst 0, 1) := by decide +kernel
theorem dX0_suits_33 : decode cX0_suits 33 = .ok (.ireturn, 1) := by decide +kernel
theorem dX0_countWant_0 : decode cX0_countWant 0 = .ok (.aload_n 0, 1) := by decide +kernel
theorem dX0_countWant_1 : decode cX0_countWant 1 = .ok (.getfield 14, 3) := by decide +kernel
theorem dX0_countWant_4 : decode cX0_countWant 4 = .ok (.iload_n 1, 1) := by decide +kernel
theorem dX0_countWant_5 : decode cX0_countWant 5 = .ok (.invokevirtual 55, 3) := by decide +kernel
theorem dX0_countWant_8 : decode cX0_countWant 8 = .ok (.iconst 1, 1) := by decide +kernel
theorem dX0_countWant_9 : decode cX0_countWant 9 = .ok (.if_icmp .ne 16, 3) := by decide +kernel
theorem dX0_countWant_12 : decode cX0_countWant 12 = .ok (.aload_n 0, 1) := by decide +kernel
theorem dX0_countWant_13 : decode cX0_countWant 13 = .ok (.dup, 1) := by decide +kernel
theorem dX0_countWant_14 : decode cX0_countWant 14 = .ok (.getfield 30, 3) := by decide +kernel
theorem dX0_countWant_17 : decode cX0_countWant 17 = .ok (.iload_n 2, 1) := by decide +kernel
theorem dX0_countWant_18 : decode cX0_countWant 18 = .ok (.iadd, 1) := by decide +kernel
theorem dX0_countWant_19 : decode cX0_countWant 19 = .ok (.putfield 30, 3) := by decide +kernel
theorem dX0_countWant_22 : decode cX0_countWant 22 = .ok (.goto 25, 3) := by decide +kernel
theorem dX0_countWant_25 : decode cX0_countWant 25 = .ok (.aload_n 0, 1) := by decide +kernel
theorem dX0_countWant_26 : decode cX0_countWant 26 = .ok (.getfield 14, 3) := by decide +kernel
theorem dX0_countWant_29 : decode cX0_countWant 29 = .ok (.iload_n 1, 1) := by decide +kernel
theorem dX0_countWant_30 : decode cX0_countWant 30 = .ok (.invokevirtual 55, 3) := by decide +kernel
theorem dX0_countWant_33 : decode cX0_countWant 33 = .ok (.iconst 2, 1) := by decide +kernel
theorem dX0_countWant_34 : decode cX0_countWant 34 = .ok (.if_icmp .ne 13, 3) := by decide +kernel
theorem dX0_countWant_37 : decode cX0_countWant 37 = .ok (.aload_n 0, 1) := by decide +kernel
theorem dX0_countWant_38 : decode cX0_countWant 38 = .ok (.dup, 1) := by decide +kernel
theorem dX0_countWant_39 : decode cX0_countWant 39 = .ok (.getfield 33, 3) := by decide +kernel
theorem dX0_countWant_42 : decode cX0_countWant 42 = .ok (.iload_n 2, 1) := by decide +kernel
theorem dX0_countWant_43 : decode cX0_countWant 43 = .ok (.iadd, 1) := by decide +kernel
theorem dX0_countWant_44 : decode cX0_countWant 44 = .ok (.putfield 33, 3) := by decide +kernel
theorem dX0_countWant_47 : decode cX0_countWant 47 = .ok (.return_, 1) := by decide +kernel
theorem dX0_countBearer_0 : decode cX0_countBearer 0 = .ok (.iload_n 1, 1) := by decide +kernel
theorem dX0_countBearer_1 : decode cX0_countBearer 1 = .ok (.ifCond .eq 16, 3) := by decide +kernel
theorem dX0_countBearer_4 : decode cX0_countBearer 4 = .ok (.aload_n 0, 1) := by decide +kernel
theorem dX0_countBearer_5 : decode cX0_countBearer 5 = .ok (.dup, 1) := by decide +kernel
theorem dX0_countBearer_6 : decode cX0_countBearer 6 = .ok (.getfield 24, 3) := by decide +kernel
theorem dX0_countBearer_9 : decode cX0_countBearer 9 = .ok (.iload_n 2, 1) := by decide +kernel
theorem dX0_countBearer_10 : decode cX0_countBearer 10 = .ok (.iadd, 1) := by decide +kernel
theorem dX0_countBearer_11 : decode cX0_countBearer 11 = .ok (.putfield 24, 3) := by decide +kernel
theorem dX0_countBearer_14 : decode cX0_countBearer 14 = .ok (.goto 13, 3) := by decide +kernel
theorem dX0_countBearer_17 : decode cX0_countBearer 17 = .ok (.aload_n 0, 1) := by decide +kernel
theorem dX0_countBearer_18 : decode cX0_countBearer 18 = .ok (.dup, 1) := by decide +kernel
theorem dX0_countBearer_19 : decode cX0_countBearer 19 = .ok (.getfield 27, 3) := by decide +kernel
theorem dX0_countBearer_22 : decode cX0_countBearer 22 = .ok (.iload_n 2, 1) := by decide +kernel
theorem dX0_countBearer_23 : decode cX0_countBearer 23 = .ok (.iadd, 1) := by decide +kernel
theorem dX0_countBearer_24 : decode cX0_countBearer 24 = .ok (.putfield 27, 3) := by decide +kernel
theorem dX0_countBearer_27 : decode cX0_countBearer 27 = .ok (.return_, 1) := by decide +kernel
theorem dX0_give_0 : decode cX0_give 0 = .ok (.aload_n 0, 1) := by decide +kernel
theorem dX0_give_1 : decode cX0_give 1 = .ok (.dup, 1) := by decide +kernel
theorem dX0_give_2 : decode cX0_give 2 = .ok (.getfield 20, 3) := by decide +kernel
theorem dX0_give_5 : decode cX0_give 5 = .ok (.iconst 1, 1) := by decide +kernel
theorem dX0_give_6 : decode cX0_give 6 = .ok (.iload_n 1, 1) := by decide +kernel
theorem dX0_give_7 : decode cX0_give 7 = .ok (.ishl, 1) := by decide +kernel
theorem dX0_give_8 : decode cX0_give 8 = .ok (.iconst (-1), 1) := by decide +kernel
theorem dX0_give_9 : decode cX0_give 9 = .ok (.ixor, 1) := by decide +kernel
theorem dX0_give_10 : decode cX0_give 10 = .ok (.iand, 1) := by decide +kernel
theorem dX0_give_11 : decode cX0_give 11 = .ok (.putfield 20, 3) := by decide +kernel
theorem dX0_give_14 : decode cX0_give 14 = .ok (.aload_n 0, 1) := by decide +kernel
theorem dX0_give_15 : decode cX0_give 15 = .ok (.iload_n 1, 1) := by decide +kernel
theorem dX0_give_16 : decode cX0_give 16 = .ok (.iconst (-1), 1) := by decide +kernel
theorem dX0_give_17 : decode cX0_give 17 = .ok (.invokevirtual 85, 3) := by decide +kernel
theorem dX0_give_20 : decode cX0_give 20 = .ok (.aload_n 0, 1) := by decide +kernel
theorem dX0_give_21 : decode cX0_give 21 = .ok (.iload_n 2, 1) := by decide +kernel
theorem dX0_give_22 : decode cX0_give 22 = .ok (.iconst (-1), 1) := by decide +kernel
theorem dX0_give_23 : decode cX0_give 23 = .ok (.invokevirtual 88, 3) := by decide +kernel
theorem dX0_give_26 : decode cX0_give 26 = .ok (.return_, 1) := by decide +kernel
theorem dX0_takeBack_0 : decode cX0_takeBack 0 = .ok (.aload_n 0, 1) := by decide +kernel
theorem dX0_takeBack_1 : decode cX0_takeBack 1 = .ok (.dup, 1) := by decide +kernel
theorem dX0_takeBack_2 : decode cX0_takeBack 2 = .ok (.getfield 20, 3) := by decide +kernel
theorem dX0_takeBack_5 : decode cX0_takeBack 5 = .ok (.iconst 1, 1) := by decide +kernel
theorem dX0_takeBack_6 : decode cX0_takeBack 6 = .ok (.iload_n 1, 1) := by decide +kernel
theorem dX0_takeBack_7 : decode cX0_takeBack 7 = .ok (.ishl, 1) := by decide +kernel
theorem dX0_takeBack_8 : decode cX0_takeBack 8 = .ok (.ior, 1) := by decide +kernel
theorem dX0_takeBack_9 : decode cX0_takeBack 9 = .ok (.putfield 20, 3) := by decide +kernel
theorem dX0_takeBack_12 : decode cX0_takeBack 12 = .ok (.aload_n 0, 1) := by decide +kernel
theorem dX0_takeBack_13 : decode cX0_takeBack 13 = .ok (.iload_n 1, 1) := by decide +kernel
theorem dX0_takeBack_14 : decode cX0_takeBack 14 = .ok (.iconst 1, 1) := by decide +kernel
theorem dX0_takeBack_15 : decode cX0_takeBack 15 = .ok (.invokevirtual 85, 3) := by decide +kernel
theorem dX0_takeBack_18 : decode cX0_takeBack 18 = .ok (.aload_n 0, 1) := by decide +kernel
theorem dX0_takeBack_19 : decode cX0_takeBack 19 = .ok (.iload_n 2, 1) := by decide +kernel
theorem dX0_takeBack_20 : decode cX0_takeBack 20 = .ok (.iconst 1, 1) := by decide +kernel
theorem dX0_takeBack_21 : decode cX0_takeBack 21 = .ok (.invokevirtual 88, 3) := by decide +kernel
theorem dX0_takeBack_24 : decode cX0_takeBack 24 = .ok (.return_, 1) := by decide +kernel
theorem dX0_ways_0 : decode cX0_ways 0 = .ok (.aload_n 0, 1) := by decide +kernel
theorem dX0_ways_1 : decode cX0_ways 1 = .ok (.getfield 36, 3) := by decide +kernel
theorem dX0_ways_4 : decode cX0_ways 4 = .ok (.ifCond .eq 7, 3) := by decide +kernel
theorem dX0_ways_7 : decode cX0_ways 7 = .ok (.iconst 0, 1) := by decide +kernel
theorem dX0_ways_8 : decode cX0_ways 8 = .ok (.goto 15, 3) := by decide +kernel
theorem dX0_ways_11 : decode cX0_ways 11 = .ok (.aload_n 0, 1) := by decide +kernel
theorem dX0_ways_12 : decode cX0_ways 12 = .ok (.aload_n 0, 1) := by decide +kernel
theorem dX0_ways_13 : decode cX0_ways 13 = .ok (.getfield 30, 3) := by decide +kernel
theorem dX0_ways_16 : decode cX0_ways 16 = .ok (.aload_n 0, 1) := by decide +kernel
theorem dX0_ways_17 : decode cX0_ways 17 = .ok (.getfield 33, 3) := by decide +kernel
theorem dX0_ways_20 : decode cX0_ways 20 = .ok (.invokevirtual 92, 3) := by decide +kernel
theorem dX0_ways_23 : decode cX0_ways 23 = .ok (.ireturn, 1) := by decide +kernel
theorem dX0_waysIf_0 : decode cX0_waysIf 0 = .ok (.aload_n 0, 1) := by decide +kernel
theorem dX0_waysIf_1 : decode cX0_waysIf 1 = .ok (.getfield 24, 3) := by decide +kernel
theorem dX0_waysIf_4 : decode cX0_waysIf 4 = .ok (.aload_n 0, 1) := by decide +kernel
theorem dX0_waysIf_5 : decode cX0_waysIf 5 = .ok (.getfield 27, 3) := by decide +kernel
theorem dX0_waysIf_8 : decode cX0_waysIf 8 = .ok (.iadd, 1) := by decide +kernel
theorem dX0_waysIf_9 : decode cX0_waysIf 9 = .ok (.iload_n 1, 1) := by decide +kernel
theorem dX0_waysIf_10 : decode cX0_waysIf 10 = .ok (.isub, 1) := by decide +kernel
theorem dX0_waysIf_11 : decode cX0_waysIf 11 = .ok (.iload_n 2, 1) := by decide +kernel
theorem dX0_waysIf_12 : decode cX0_waysIf 12 = .ok (.isub, 1) := by decide +kernel
theorem dX0_waysIf_13 : decode cX0_waysIf 13 = .ok (.istore_n 3, 1) := by decide +kernel
theorem dX0_waysIf_14 : decode cX0_waysIf 14 = .ok (.aload_n 0, 1) := by decide +kernel
theorem dX0_waysIf_15 : decode cX0_waysIf 15 = .ok (.getfield 24, 3) := by decide +kernel
theorem dX0_waysIf_18 : decode cX0_waysIf 18 = .ok (.iload_n 1, 1) := by decide +kernel
theorem dX0_waysIf_19 : decode cX0_waysIf 19 = .ok (.invokestatic 96, 3) := by decide +kernel
theorem dX0_waysIf_22 : decode cX0_waysIf 22 = .ok (.aload_n 0, 1) := by decide +kernel
theorem dX0_waysIf_23 : decode cX0_waysIf 23 = .ok (.getfield 27, 3) := by decide +kernel
theorem dX0_waysIf_26 : decode cX0_waysIf 26 = .ok (.iload_n 2, 1) := by decide +kernel
theorem dX0_waysIf_27 : decode cX0_waysIf 27 = .ok (.invokestatic 96, 3) := by decide +kernel
theorem dX0_waysIf_30 : decode cX0_waysIf 30 = .ok (.imul, 1) := by decide +kernel
theorem dX0_waysIf_31 : decode cX0_waysIf 31 = .ok (.iload_n 3, 1) := by decide +kernel
theorem dX0_waysIf_32 : decode cX0_waysIf 32 = .ok (.iload_n 3, 1) := by decide +kernel
theorem dX0_waysIf_33 : decode cX0_waysIf 33 = .ok (.invokestatic 96, 3) := by decide +kernel
theorem dX0_waysIf_36 : decode cX0_waysIf 36 = .ok (.imul, 1) := by decide +kernel
theorem dX0_waysIf_37 : decode cX0_waysIf 37 = .ok (.ireturn, 1) := by decide +kernel
theorem dX0_picks_0 : decode cX0_picks 0 = .ok (.iload_n 1, 1) := by decide +kernel
theorem dX0_picks_1 : decode cX0_picks 1 = .ok (.iload_n 0, 1) := by decide +kernel
theorem dX0_picks_2 : decode cX0_picks 2 = .ok (.if_icmp .le 5, 3) := by decide +kernel
theorem dX0_picks_5 : decode cX0_picks 5 = .ok (.iconst 0, 1) := by decide +kernel
theorem dX0_picks_6 : decode cX0_picks 6 = .ok (.ireturn, 1) := by decide +kernel
theorem dX0_picks_7 : decode cX0_picks 7 = .ok (.iconst 1, 1) := by decide +kernel
theorem dX0_picks_8 : decode cX0_picks 8 = .ok (.istore_n 2, 1) := by decide +kernel
theorem dX0_picks_9 : decode cX0_picks 9 = .ok (.iconst 0, 1) := by decide +kernel
theorem dX0_picks_10 : decode cX0_picks 10 = .ok (.istore_n 3, 1) := by decide +kernel
theorem dX0_picks_11 : decode cX0_picks 11 = .ok (.iload_n 3, 1) := by decide +kernel
theorem dX0_picks_12 : decode cX0_picks 12 = .ok (.iload_n 1, 1) := by decide +kernel
theorem dX0_picks_13 : decode cX0_picks 13 = .ok (.if_icmp .ge 15, 3) := by decide +kernel
theorem dX0_picks_16 : decode cX0_picks 16 = .ok (.iload_n 2, 1) := by decide +kernel
theorem dX0_picks_17 : decode cX0_picks 17 = .ok (.iload_n 0, 1) := by decide +kernel
theorem dX0_picks_18 : decode cX0_picks 18 = .ok (.iload_n 3, 1) := by decide +kernel
theorem dX0_picks_19 : decode cX0_picks 19 = .ok (.isub, 1) := by decide +kernel
theorem dX0_picks_20 : decode cX0_picks 20 = .ok (.imul, 1) := by decide +kernel
theorem dX0_picks_21 : decode cX0_picks 21 = .ok (.istore_n 2, 1) := by decide +kernel
theorem dX0_picks_22 : decode cX0_picks 22 = .ok (.iinc 3 1, 3) := by decide +kernel
theorem dX0_picks_25 : decode cX0_picks 25 = .ok (.goto (-14), 3) := by decide +kernel
theorem dX0_picks_28 : decode cX0_picks 28 = .ok (.iload_n 2, 1) := by decide +kernel
theorem dX0_picks_29 : decode cX0_picks 29 = .ok (.ireturn, 1) := by decide +kernel
theorem dX0_rowAt_0 : decode cX0_rowAt 0 = .ok (.iconst 0, 1) := by decide +kernel
theorem dX0_rowAt_1 : decode cX0_rowAt 1 = .ok (.istore_n 3, 1) := by decide +kernel
theorem dX0_rowAt_2 : decode cX0_rowAt 2 = .ok (.iload_n 2, 1) := by decide +kernel
theorem dX0_rowAt_3 : decode cX0_rowAt 3 = .ok (.istore 4, 2) := by decide +kernel
theorem dX0_rowAt_5 : decode cX0_rowAt 5 = .ok (.iconst 0, 1) := by decide +kernel
theorem dX0_rowAt_6 : decode cX0_rowAt 6 = .ok (.istore 5, 2) := by decide +kernel
theorem dX0_rowAt_8 : decode cX0_rowAt 8 = .ok (.iload 5, 2) := by decide +kernel
theorem dX0_rowAt_10 : decode cX0_rowAt 10 = .ok (.aload_n 1, 1) := by decide +kernel
theorem dX0_rowAt_11 : decode cX0_rowAt 11 = .ok (.getfield 43, 3) := by decide +kernel
theorem dX0_rowAt_14 : decode cX0_rowAt 14 = .ok (.if_icmp .ge 106, 3) := by decide +kernel
theorem dX0_rowAt_17 : decode cX0_rowAt 17 = .ok (.bipush 6, 2) := by decide +kernel
theorem dX0_rowAt_19 : decode cX0_rowAt 19 = .ok (.istore 6, 2) := by decide +kernel
theorem dX0_rowAt_21 : decode cX0_rowAt 21 = .ok (.aload_n 1, 1) := by decide +kernel
theorem dX0_rowAt_22 : decode cX0_rowAt 22 = .ok (.iload 5, 2) := by decide +kernel
theorem dX0_rowAt_24 : decode cX0_rowAt 24 = .ok (.invokevirtual 48, 3) := by decide +kernel
theorem dX0_rowAt_27 : decode cX0_rowAt 27 = .ok (.ifCond .eq 79, 3) := by decide +kernel
theorem dX0_rowAt_30 : decode cX0_rowAt 30 = .ok (.aload_n 1, 1) := by decide +kernel
theorem dX0_rowAt_31 : decode cX0_rowAt 31 = .ok (.getfield 59, 3) := by decide +kernel
theorem dX0_rowAt_34 : decode cX0_rowAt 34 = .ok (.iload 5, 2) := by decide +kernel
theorem dX0_rowAt_36 : decode cX0_rowAt 36 = .ok (.invokevirtual 55, 3) := by decide +kernel
theorem dX0_rowAt_39 : decode cX0_rowAt 39 = .ok (.iconst 1, 1) := by decide +kernel
theorem dX0_rowAt_40 : decode cX0_rowAt 40 = .ok (.if_icmp .ne 7, 3) := by decide +kernel
theorem dX0_rowAt_43 : decode cX0_rowAt 43 = .ok (.iconst 1, 1) := by decide +kernel
theorem dX0_rowAt_44 : decode cX0_rowAt 44 = .ok (.goto 4, 3) := by decide +kernel
theorem dX0_rowAt_47 : decode cX0_rowAt 47 = .ok (.iconst 0, 1) := by decide +kernel
theorem dX0_rowAt_48 : decode cX0_rowAt 48 = .ok (.istore 7, 2) := by decide +kernel
theorem dX0_rowAt_50 : decode cX0_rowAt 50 = .ok (.iconst 0, 1) := by decide +kernel
theorem dX0_rowAt_51 : decode cX0_rowAt 51 = .ok (.istore 8, 2) := by decide +kernel
theorem dX0_rowAt_53 : decode cX0_rowAt 53 = .ok (.iload 8, 2) := by decide +kernel
theorem dX0_rowAt_55 : decode cX0_rowAt 55 = .ok (.aload_n 1, 1) := by decide +kernel
theorem dX0_rowAt_56 : decode cX0_rowAt 56 = .ok (.getfield 43, 3) := by decide +kernel
theorem dX0_rowAt_59 : decode cX0_rowAt 59 = .ok (.if_icmp .ge 35, 3) := by decide +kernel
theorem dX0_rowAt_62 : decode cX0_rowAt 62 = .ok (.iload 4, 2) := by decide +kernel
theorem dX0_rowAt_64 : decode cX0_rowAt 64 = .ok (.aload_n 0, 1) := by decide +kernel
theorem dX0_rowAt_65 : decode cX0_rowAt 65 = .ok (.iload 8, 2) := by decide +kernel
theorem dX0_rowAt_67 : decode cX0_rowAt 67 = .ok (.iload 7, 2) := by decide +kernel
theorem dX0_rowAt_69 : decode cX0_rowAt 69 = .ok (.invokevirtual 99, 3) := by decide +kernel
theorem dX0_rowAt_72 : decode cX0_rowAt 72 = .ok (.if_icmp .lt 22, 3) := by decide +kernel
theorem dX0_rowAt_75 : decode cX0_rowAt 75 = .ok (.iload 4, 2) := by decide +kernel
theorem dX0_rowAt_77 : decode cX0_rowAt 77 = .ok (.aload_n 0, 1) := by decide +kernel
theorem dX0_rowAt_78 : decode cX0_rowAt 78 = .ok (.iload 8, 2) := by decide +kernel
theorem dX0_rowAt_80 : decode cX0_rowAt 80 = .ok (.iload 7, 2) := by decide +kernel
theorem dX0_rowAt_82 : decode cX0_rowAt 82 = .ok (.invokevirtual 99, 3) := by decide +kernel
theorem dX0_rowAt_85 : decode cX0_rowAt 85 = .ok (.isub, 1) := by decide +kernel
theorem dX0_rowAt_86 : decode cX0_rowAt 86 = .ok (.istore 4, 2) := by decide +kernel
theorem dX0_rowAt_88 : decode cX0_rowAt 88 = .ok (.iinc 8 1, 3) := by decide +kernel
theorem dX0_rowAt_91 : decode cX0_rowAt 91 = .ok (.goto (-38), 3) := by decide +kernel
theorem dX0_rowAt_94 : decode cX0_rowAt 94 = .ok (.aload_n 0, 1) := by decide +kernel
theorem dX0_rowAt_95 : decode cX0_rowAt 95 = .ok (.iload 8, 2) := by decide +kernel
theorem dX0_rowAt_97 : decode cX0_rowAt 97 = .ok (.iload 7, 2) := by decide +kernel
theorem dX0_rowAt_99 : decode cX0_rowAt 99 = .ok (.invokevirtual 103, 3) := by decide +kernel
theorem dX0_rowAt_102 : decode cX0_rowAt 102 = .ok (.iload 8, 2) := by decide +kernel
theorem dX0_rowAt_104 : decode cX0_rowAt 104 = .ok (.istore 6, 2) := by decide +kernel
theorem dX0_rowAt_106 : decode cX0_rowAt 106 = .ok (.bipush 10, 2) := by decide +kernel
theorem dX0_rowAt_108 : decode cX0_rowAt 108 = .ok (.iload_n 3, 1) := by decide +kernel
theorem dX0_rowAt_109 : decode cX0_rowAt 109 = .ok (.imul, 1) := by decide +kernel
theorem dX0_rowAt_110 : decode cX0_rowAt 110 = .ok (.iload 6, 2) := by decide +kernel
theorem dX0_rowAt_112 : decode cX0_rowAt 112 = .ok (.iadd, 1) := by decide +kernel
theorem dX0_rowAt_113 : decode cX0_rowAt 113 = .ok (.istore_n 3, 1) := by decide +kernel
theorem dX0_rowAt_114 : decode cX0_rowAt 114 = .ok (.iinc 5 1, 3) := by decide +kernel
theorem dX0_rowAt_117 : decode cX0_rowAt 117 = .ok (.goto (-109), 3) := by decide +kernel
theorem dX0_rowAt_120 : decode cX0_rowAt 120 = .ok (.iload_n 3, 1) := by decide +kernel
theorem dX0_rowAt_121 : decode cX0_rowAt 121 = .ok (.ireturn, 1) := by decide +kernel
theorem dX0_waysWith_0 : decode cX0_waysWith 0 = .ok (.aload_n 0, 1) := by decide +kernel
theorem dX0_waysWith_1 : decode cX0_waysWith 1 = .ok (.iload_n 1, 1) := by decide +kernel
theorem dX0_waysWith_2 : decode cX0_waysWith 2 = .ok (.iload_n 2, 1) := by decide +kernel
theorem dX0_waysWith_3 : decode cX0_waysWith 3 = .ok (.invokevirtual 106, 3) := by decide +kernel
theorem dX0_waysWith_6 : decode cX0_waysWith 6 = .ok (.ifCond .ne 5, 3) := by decide +kernel
theorem dX0_waysWith_9 : decode cX0_waysWith 9 = .ok (.iconst 0, 1) := by decide +kernel
theorem dX0_waysWith_10 : decode cX0_waysWith 10 = .ok (.ireturn, 1) := by decide +kernel
theorem dX0_waysWith_11 : decode cX0_waysWith 11 = .ok (.aload_n 0, 1) := by decide +kernel
theorem dX0_waysWith_12 : decode cX0_waysWith 12 = .ok (.iload_n 1, 1) := by decide +kernel
theorem dX0_waysWith_13 : decode cX0_waysWith 13 = .ok (.iload_n 2, 1) := by decide +kernel
theorem dX0_waysWith_14 : decode cX0_waysWith 14 = .ok (.invokevirtual 103, 3) := by decide +kernel
theorem dX0_waysWith_17 : decode cX0_waysWith 17 = .ok (.aload_n 0, 1) := by decide +kernel
theorem dX0_waysWith_18 : decode cX0_waysWith 18 = .ok (.invokevirtual 110, 3) := by decide +kernel
theorem dX0_waysWith_21 : decode cX0_waysWith 21 = .ok (.istore_n 3, 1) := by decide +kernel
theorem dX0_waysWith_22 : decode cX0_waysWith 22 = .ok (.aload_n 0, 1) := by decide +kernel
theorem dX0_waysWith_23 : decode cX0_waysWith 23 = .ok (.iload_n 1, 1) := by decide +kernel
theorem dX0_waysWith_24 : decode cX0_waysWith 24 = .ok (.iload_n 2, 1) := by decide +kernel
theorem dX0_waysWith_25 : decode cX0_waysWith 25 = .ok (.invokevirtual 62, 3) := by decide +kernel
theorem dX0_waysWith_28 : decode cX0_waysWith 28 = .ok (.iload_n 3, 1) := by decide +kernel
theorem dX0_waysWith_29 : decode cX0_waysWith 29 = .ok (.ireturn, 1) := by decide +kernel
theorem dX0_namesFor_0 : decode cX0_namesFor 0 = .ok (.iconst 0, 1) := by decide +kernel
theorem dX0_namesFor_1 : decode cX0_namesFor 1 = .ok (.istore_n 3, 1) := by decide +kernel
theorem dX0_namesFor_2 : decode cX0_namesFor 2 = .ok (.iconst 0, 1) := by decide +kernel
theorem dX0_namesFor_3 : decode cX0_namesFor 3 = .ok (.istore 4, 2) := by decide +kernel
theorem dX0_namesFor_5 : decode cX0_namesFor 5 = .ok (.iload 4, 2) := by decide +kernel
theorem dX0_namesFor_7 : decode cX0_namesFor 7 = .ok (.aload_n 1, 1) := by decide +kernel
theorem dX0_namesFor_8 : decode cX0_namesFor 8 = .ok (.getfield 43, 3) := by decide +kernel
theorem dX0_namesFor_11 : decode cX0_namesFor 11 = .ok (.if_icmp .ge 42, 3) := by decide +kernel
theorem dX0_namesFor_14 : decode cX0_namesFor 14 = .ok (.aload_n 0, 1) := by decide +kernel
theorem dX0_namesFor_15 : decode cX0_namesFor 15 = .ok (.iload 4, 2) := by decide +kernel
theorem dX0_namesFor_17 : decode cX0_namesFor 17 = .ok (.aload_n 1, 1) := by decide +kernel
theorem dX0_namesFor_18 : decode cX0_namesFor 18 = .ok (.getfield 59, 3) := by decide +kernel
theorem dX0_namesFor_21 : decode cX0_namesFor 21 = .ok (.iload_n 2, 1) := by decide +kernel
theorem dX0_namesFor_22 : decode cX0_namesFor 22 = .ok (.invokevirtual 55, 3) := by decide +kernel
theorem dX0_namesFor_25 : decode cX0_namesFor 25 = .ok (.iconst 1, 1) := by decide +kernel
theorem dX0_namesFor_26 : decode cX0_namesFor 26 = .ok (.if_icmp .ne 7, 3) := by decide +kernel
theorem dX0_namesFor_29 : decode cX0_namesFor 29 = .ok (.iconst 1, 1) := by decide +kernel
theorem dX0_namesFor_30 : decode cX0_namesFor 30 = .ok (.goto 4, 3) := by decide +kernel
theorem dX0_namesFor_33 : decode cX0_namesFor 33 = .ok (.iconst 0, 1) := by decide +kernel
theorem dX0_namesFor_34 : decode cX0_namesFor 34 = .ok (.invokevirtual 99, 3) := by decide +kernel
theorem dX0_namesFor_37 : decode cX0_namesFor 37 = .ok (.ifCond .le 10, 3) := by decide +kernel
theorem dX0_namesFor_40 : decode cX0_namesFor 40 = .ok (.iload_n 3, 1) := by decide +kernel
theorem dX0_namesFor_41 : decode cX0_namesFor 41 = .ok (.iconst 1, 1) := by decide +kernel
theorem dX0_namesFor_42 : decode cX0_namesFor 42 = .ok (.iload 4, 2) := by decide +kernel
theorem dX0_namesFor_44 : decode cX0_namesFor 44 = .ok (.ishl, 1) := by decide +kernel
theorem dX0_namesFor_45 : decode cX0_namesFor 45 = .ok (.ior, 1) := by decide +kernel
theorem dX0_namesFor_46 : decode cX0_namesFor 46 = .ok (.istore_n 3, 1) := by decide +kernel
theorem dX0_namesFor_47 : decode cX0_namesFor 47 = .ok (.iinc 4 1, 3) := by decide +kernel
theorem dX0_namesFor_50 : decode cX0_namesFor 50 = .ok (.goto (-45), 3) := by decide +kernel
theorem dX0_namesFor_53 : decode cX0_namesFor 53 = .ok (.iload_n 3, 1) := by decide +kernel
theorem dX0_namesFor_54 : decode cX0_namesFor 54 = .ok (.ireturn, 1) := by decide +kernel
theorem dX0_nameToHear_0 : decode cX0_nameToHear 0 = .ok (.bipush (-6), 2) := by decide +kernel
theorem dX0_nameToHear_2 : decode cX0_nameToHear 2 = .ok (.istore_n 2, 1) := by decide +kernel
theorem dX0_nameToHear_3 : decode cX0_nameToHear 3 = .ok (.iconst 0, 1) := by decide +kernel
theorem dX0_nameToHear_4 : decode cX0_nameToHear 4 = .ok (.istore_n 3, 1) := by decide +kernel
theorem dX0_nameToHear_5 : decode cX0_nameToHear 5 = .ok (.iload_n 3, 1) := by decide +kernel
theorem dX0_nameToHear_6 : decode cX0_nameToHear 6 = .ok (.iload_n 1, 1) := by decide +kernel
theorem dX0_nameToHear_7 : decode cX0_nameToHear 7 = .ok (.if_icmp .ge 57, 3) := by decide +kernel
theorem dX0_nameToHear_10 : decode cX0_nameToHear 10 = .ok (.iload_n 2, 1) := by decide +kernel
theorem dX0_nameToHear_11 : decode cX0_nameToHear 11 = .ok (.bipush (-6), 2) := by decide +kernel
theorem dX0_nameToHear_13 : decode cX0_nameToHear 13 = .ok (.if_icmp .eq 16, 3) := by decide +kernel
theorem dX0_nameToHear_16 : decode cX0_nameToHear 16 = .ok (.aload_n 0, 1) := by decide +kernel
theorem dX0_nameToHear_17 : decode cX0_nameToHear 17 = .ok (.iload_n 3, 1) := by decide +kernel
theorem dX0_nameToHear_18 : decode cX0_nameToHear 18 = .ok (.invokevirtual 114, 3) := by decide +kernel
theorem dX0_nameToHear_21 : decode cX0_nameToHear 21 = .ok (.aload_n 0, 1) := by decide +kernel
theorem dX0_nameToHear_22 : decode cX0_nameToHear 22 = .ok (.iload_n 2, 1) := by decide +kernel
theorem dX0_nameToHear_23 : decode cX0_nameToHear 23 = .ok (.invokevirtual 114, 3) := by decide +kernel
theorem dX0_nameToHear_26 : decode cX0_nameToHear 26 = .ok (.if_icmp .ge 7, 3) := by decide +kernel
theorem dX0_nameToHear_29 : decode cX0_nameToHear 29 = .ok (.iconst 1, 1) := by decide +kernel
theorem dX0_nameToHear_30 : decode cX0_nameToHear 30 = .ok (.goto 4, 3) := by decide +kernel
theorem dX0_nameToHear_33 : decode cX0_nameToHear 33 = .ok (.iconst 0, 1) := by decide +kernel
theorem dX0_nameToHear_34 : decode cX0_nameToHear 34 = .ok (.istore 4, 2) := by decide +kernel
theorem dX0_nameToHear_36 : decode cX0_nameToHear 36 = .ok (.aload_n 0, 1) := by decide +kernel
theorem dX0_nameToHear_37 : decode cX0_nameToHear 37 = .ok (.invokevirtual 110, 3) := by decide +kernel
theorem dX0_nameToHear_40 : decode cX0_nameToHear 40 = .ok (.ifCond .le 18, 3) := by decide +kernel
theorem dX0_nameToHear_43 : decode cX0_nameToHear 43 = .ok (.aload_n 0, 1) := by decide +kernel
theorem dX0_nameToHear_44 : decode cX0_nameToHear 44 = .ok (.iload_n 3, 1) := by decide +kernel
theorem dX0_nameToHear_45 : decode cX0_nameToHear 45 = .ok (.invokevirtual 78, 3) := by decide +kernel
theorem dX0_nameToHear_48 : decode cX0_nameToHear 48 = .ok (.ifCond .eq 10, 3) := by decide +kernel
theorem dX0_nameToHear_51 : decode cX0_nameToHear 51 = .ok (.iload 4, 2) := by decide +kernel
theorem dX0_nameToHear_53 : decode cX0_nameToHear 53 = .ok (.ifCond .eq 5, 3) := by decide +kernel
theorem dX0_nameToHear_56 : decode cX0_nameToHear 56 = .ok (.iload_n 3, 1) := by decide +kernel
theorem dX0_nameToHear_57 : decode cX0_nameToHear 57 = .ok (.istore_n 2, 1) := by decide +kernel
theorem dX0_nameToHear_58 : decode cX0_nameToHear 58 = .ok (.iinc 3 1, 3) := by decide +kernel
theorem dX0_nameToHear_61 : decode cX0_nameToHear 61 = .ok (.goto (-56), 3) := by decide +kernel
theorem dX0_nameToHear_64 : decode cX0_nameToHear 64 = .ok (.iload_n 2, 1) := by decide +kernel
theorem dX0_nameToHear_65 : decode cX0_nameToHear 65 = .ok (.ireturn, 1) := by decide +kernel
theorem dX0_mostLeftBy_0 : decode cX0_mostLeftBy 0 = .ok (.aload_n 0, 1) := by decide +kernel
theorem dX0_mostLeftBy_1 : decode cX0_mostLeftBy 1 = .ok (.invokevirtual 110, 3) := by decide +kernel
theorem dX0_mostLeftBy_4 : decode cX0_mostLeftBy 4 = .ok (.istore_n 2, 1) := by decide +kernel
theorem dX0_mostLeftBy_5 : decode cX0_mostLeftBy 5 = .ok (.aload_n 0, 1) := by decide +kernel
theorem dX0_mostLeftBy_6 : decode cX0_mostLeftBy 6 = .ok (.getfield 14, 3) := by decide +kernel
theorem dX0_mostLeftBy_9 : decode cX0_mostLeftBy 9 = .ok (.iload_n 1, 1) := by decide +kernel
theorem dX0_mostLeftBy_10 : decode cX0_mostLeftBy 10 = .ok (.invokevirtual 55, 3) := by decide +kernel
theorem dX0_mostLeftBy_13 : decode cX0_mostLeftBy 13 = .ok (.ifCond .ne 10, 3) := by decide +kernel
theorem dX0_mostLeftBy_16 : decode cX0_mostLeftBy 16 = .ok (.aload_n 0, 1) := by decide +kernel
theorem dX0_mostLeftBy_17 : decode cX0_mostLeftBy 17 = .ok (.getfield 36, 3) := by decide +kernel
theorem dX0_mostLeftBy_20 : decode cX0_mostLeftBy 20 = .ok (.ifCond .eq 5, 3) := by decide +kernel
theorem dX0_mostLeftBy_23 : decode cX0_mostLeftBy 23 = .ok (.iload_n 2, 1) := by decide +kernel
theorem dX0_mostLeftBy_24 : decode cX0_mostLeftBy 24 = .ok (.ireturn, 1) := by decide +kernel
theorem dX0_mostLeftBy_25 : decode cX0_mostLeftBy 25 = .ok (.aload_n 0, 1) := by decide +kernel
theorem dX0_mostLeftBy_26 : decode cX0_mostLeftBy 26 = .ok (.aload_n 0, 1) := by decide +kernel
theorem dX0_mostLeftBy_27 : decode cX0_mostLeftBy 27 = .ok (.getfield 30, 3) := by decide +kernel
theorem dX0_mostLeftBy_30 : decode cX0_mostLeftBy 30 = .ok (.iconst 1, 1) := by decide +kernel
theorem dX0_mostLeftBy_31 : decode cX0_mostLeftBy 31 = .ok (.iadd, 1) := by decide +kernel
theorem dX0_mostLeftBy_32 : decode cX0_mostLeftBy 32 = .ok (.aload_n 0, 1) := by decide +kernel
theorem dX0_mostLeftBy_33 : decode cX0_mostLeftBy 33 = .ok (.getfield 33, 3) := by decide +kernel
theorem dX0_mostLeftBy_36 : decode cX0_mostLeftBy 36 = .ok (.invokevirtual 92, 3) := by decide +kernel
theorem dX0_mostLeftBy_39 : decode cX0_mostLeftBy 39 = .ok (.istore_n 3, 1) := by decide +kernel
theorem dX0_mostLeftBy_40 : decode cX0_mostLeftBy 40 = .ok (.iload_n 3, 1) := by decide +kernel
theorem dX0_mostLeftBy_41 : decode cX0_mostLeftBy 41 = .ok (.iload_n 2, 1) := by decide +kernel
theorem dX0_mostLeftBy_42 : decode cX0_mostLeftBy 42 = .ok (.iload_n 3, 1) := by decide +kernel
theorem dX0_mostLeftBy_43 : decode cX0_mostLeftBy 43 = .ok (.isub, 1) := by decide +kernel
theorem dX0_mostLeftBy_44 : decode cX0_mostLeftBy 44 = .ok (.invokestatic 117, 3) := by decide +kernel
theorem dX0_mostLeftBy_47 : decode cX0_mostLeftBy 47 = .ok (.ireturn, 1) := by decide +kernel
theorem dX1_init_0 : decode cX1_init 0 = .ok (.aload_n 0, 1) := by decide +kernel
theorem dX1_init_1 : decode cX1_init 1 = .ok (.invokespecial 3, 3) := by decide +kernel
theorem dX1_init_4 : decode cX1_init 4 = .ok (.aload_n 0, 1) := by decide +kernel
theorem dX1_init_5 : decode cX1_init 5 = .ok (.new 9, 3) := by decide +kernel
theorem dX1_init_8 : decode cX1_init 8 = .ok (.dup, 1) := by decide +kernel
theorem dX1_init_9 : decode cX1_init 9 = .ok (.bipush 60, 2) := by decide +kernel
theorem dX1_init_11 : decode cX1_init 11 = .ok (.invokespecial 11, 3) := by decide +kernel
theorem dX1_init_14 : decode cX1_init 14 = .ok (.putfield 14, 3) := by decide +kernel
theorem dX1_init_17 : decode cX1_init 17 = .ok (.return_, 1) := by decide +kernel
theorem dX1_add_0 : decode cX1_add 0 = .ok (.aload_n 0, 1) := by decide +kernel
theorem dX1_add_1 : decode cX1_add 1 = .ok (.getfield 14, 3) := by decide +kernel
theorem dX1_add_4 : decode cX1_add 4 = .ok (.aload_n 0, 1) := by decide +kernel
theorem dX1_add_5 : decode cX1_add 5 = .ok (.getfield 20, 3) := by decide +kernel
theorem dX1_add_8 : decode cX1_add 8 = .ok (.iload_n 1, 1) := by decide +kernel
theorem dX1_add_9 : decode cX1_add 9 = .ok (.invokevirtual 24, 3) := by decide +kernel
theorem dX1_add_12 : decode cX1_add 12 = .ok (.aload_n 0, 1) := by decide +kernel
theorem dX1_add_13 : decode cX1_add 13 = .ok (.dup, 1) := by decide +kernel
theorem dX1_add_14 : decode cX1_add 14 = .ok (.getfield 20, 3) := by decide +kernel
theorem dX1_add_17 : decode cX1_add 17 = .ok (.iconst 1, 1) := by decide +kernel
theorem dX1_add_18 : decode cX1_add 18 = .ok (.iadd, 1) := by decide +kernel
theorem dX1_add_19 : decode cX1_add 19 = .ok (.putfield 20, 3) := by decide +kernel
theorem dX1_add_22 : decode cX1_add 22 = .ok (.aload_n 0, 1) := by decide +kernel
theorem dX1_add_23 : decode cX1_add 23 = .ok (.getfield 20, 3) := by decide +kernel
theorem dX1_add_26 : decode cX1_add 26 = .ok (.ireturn, 1) := by decide +kernel
theorem dX1_clear_0 : decode cX1_clear 0 = .ok (.aload_n 0, 1) := by decide +kernel
theorem dX1_clear_1 : decode cX1_clear 1 = .ok (.getfield 20, 3) := by decide +kernel
theorem dX1_clear_4 : decode cX1_clear 4 = .ok (.istore_n 1, 1) := by decide +kernel
theorem dX1_clear_5 : decode cX1_clear 5 = .ok (.aload_n 0, 1) := by decide +kernel
theorem dX1_clear_6 : decode cX1_clear 6 = .ok (.iconst 0, 1) := by decide +kernel
theorem dX1_clear_7 : decode cX1_clear 7 = .ok (.putfield 20, 3) := by decide +kernel
theorem dX1_clear_10 : decode cX1_clear 10 = .ok (.iload_n 1, 1) := by decide +kernel
theorem dX1_clear_11 : decode cX1_clear 11 = .ok (.ireturn, 1) := by decide +kernel
theorem dX1_firstFault_0 : decode cX1_firstFault 0 = .ok (.iconst 0, 1) := by decide +kernel
theorem dX1_firstFault_1 : decode cX1_firstFault 1 = .ok (.istore_n 2, 1) := by decide +kernel
theorem dX1_firstFault_2 : decode cX1_firstFault 2 = .ok (.iload_n 2, 1) := by decide +kernel
theorem dX1_firstFault_3 : decode cX1_firstFault 3 = .ok (.aload_n 0, 1) := by decide +kernel
theorem dX1_firstFault_4 : decode cX1_firstFault 4 = .ok (.getfield 20, 3) := by decide +kernel
theorem dX1_firstFault_7 : decode cX1_firstFault 7 = .ok (.if_icmp .ge 93, 3) := by decide +kernel
theorem dX1_firstFault_10 : decode cX1_firstFault 10 = .ok (.aload_n 0, 1) := by decide +kernel
theorem dX1_firstFault_11 : decode cX1_firstFault 11 = .ok (.getfield 14, 3) := by decide +kernel
theorem dX1_firstFault_14 : decode cX1_firstFault 14 = .ok (.iload_n 2, 1) := by decide +kernel
theorem dX1_firstFault_15 : decode cX1_firstFault 15 = .ok (.invokevirtual 28, 3) := by decide +kernel
theorem dX1_firstFault_18 : decode cX1_firstFault 18 = .ok (.istore_n 3, 1) := by decide +kernel
theorem dX1_firstFault_19 : decode cX1_firstFault 19 = .ok (.iload_n 3, 1) := by decide +kernel
theorem dX1_firstFault_20 : decode cX1_firstFault 20 = .ok (.invokestatic 32, 3) := by decide +kernel
theorem dX1_firstFault_23 : decode cX1_firstFault 23 = .ok (.ifCond .eq 9, 3) := by decide +kernel
theorem dX1_firstFault_26 : decode cX1_firstFault 26 = .ok (.iinc 2 1, 3) := by decide +kernel
theorem dX1_firstFault_29 : decode cX1_firstFault 29 = .ok (.goto 68, 3) := by decide +kernel
theorem dX1_firstFault_32 : decode cX1_firstFault 32 = .ok (.iload_n 3, 1) := by decide +kernel
theorem dX1_firstFault_33 : decode cX1_firstFault 33 = .ok (.iload_n 1, 1) := by decide +kernel
theorem dX1_firstFault_34 : decode cX1_firstFault 34 = .ok (.invokestatic 36, 3) := by decide +kernel
theorem dX1_firstFault_37 : decode cX1_firstFault 37 = .ok (.ifCond .ne 5, 3) := by decide +kernel
theorem dX1_firstFault_40 : decode cX1_firstFault 40 = .ok (.iload_n 2, 1) := by decide +kernel
theorem dX1_firstFault_41 : decode cX1_firstFault 41 = .ok (.ireturn, 1) := by decide +kernel
theorem dX1_firstFault_42 : decode cX1_firstFault 42 = .ok (.iload_n 2, 1) := by decide +kernel
theorem dX1_firstFault_43 : decode cX1_firstFault 43 = .ok (.iconst 1, 1) := by decide +kernel
theorem dX1_firstFault_44 : decode cX1_firstFault 44 = .ok (.iadd, 1) := by decide +kernel
theorem dX1_firstFault_45 : decode cX1_firstFault 45 = .ok (.aload_n 0, 1) := by decide +kernel
theorem dX1_firstFault_46 : decode cX1_firstFault 46 = .ok (.getfield 20, 3) := by decide +kernel
theorem dX1_firstFault_49 : decode cX1_firstFault 49 = .ok (.if_icmp .lt 8, 3) := by decide +kernel
theorem dX1_firstFault_52 : decode cX1_firstFault 52 = .ok (.aload_n 0, 1) := by decide +kernel
theorem dX1_firstFault_53 : decode cX1_firstFault 53 = .ok (.getfield 20, 3) := by decide +kernel
theorem dX1_firstFault_56 : decode cX1_firstFault 56 = .ok (.ireturn, 1) := by decide +kernel
theorem dX1_firstFault_57 : decode cX1_firstFault 57 = .ok (.aload_n 0, 1) := by decide +kernel
theorem dX1_firstFault_58 : decode cX1_firstFault 58 = .ok (.getfield 14, 3) := by decide +kernel
theorem dX1_firstFault_61 : decode cX1_firstFault 61 = .ok (.iload_n 2, 1) := by decide +kernel
theorem dX1_firstFault_62 : decode cX1_firstFault 62 = .ok (.iconst 1, 1) := by decide +kernel
theorem dX1_firstFault_63 : decode cX1_firstFault 63 = .ok (.iadd, 1) := by decide +kernel
theorem dX1_firstFault_64 : decode cX1_firstFault 64 = .ok (.invokevirtual 28, 3) := by decide +kernel
theorem dX1_firstFault_67 : decode cX1_firstFault 67 = .ok (.invokestatic 40, 3) := by decide +kernel
theorem dX1_firstFault_70 : decode cX1_firstFault 70 = .ok (.ifCond .ne 24, 3) := by decide +kernel
theorem dX1_firstFault_73 : decode cX1_firstFault 73 = .ok (.aload_n 0, 1) := by decide +kernel
theorem dX1_firstFault_74 : decode cX1_firstFault 74 = .ok (.getfield 14, 3) := by decide +kernel
theorem dX1_firstFault_77 : decode cX1_firstFault 77 = .ok (.iload_n 2, 1) := by decide +kernel
theorem dX1_firstFault_78 : decode cX1_firstFault 78 = .ok (.iconst 1, 1) := by decide +kernel
theorem dX1_firstFault_79 : decode cX1_firstFault 79 = .ok (.iadd, 1) := by decide +kernel
theorem dX1_firstFault_80 : decode cX1_firstFault 80 = .ok (.invokevirtual 28, 3) := by decide +kernel
theorem dX1_firstFault_83 : decode cX1_firstFault 83 = .ok (.iload_n 1, 1) := by decide +kernel
theorem dX1_firstFault_84 : decode cX1_firstFault 84 = .ok (.invokestatic 36, 3) := by decide +kernel
theorem dX1_firstFault_87 : decode cX1_firstFault 87 = .ok (.ifCond .ne 7, 3) := by decide +kernel
theorem dX1_firstFault_90 : decode cX1_firstFault 90 = .ok (.iload_n 2, 1) := by decide +kernel
theorem dX1_firstFault_91 : decode cX1_firstFault 91 = .ok (.iconst 1, 1) := by decide +kernel
theorem dX1_firstFault_92 : decode cX1_firstFault 92 = .ok (.iadd, 1) := by decide +kernel
theorem dX1_firstFault_93 : decode cX1_firstFault 93 = .ok (.ireturn, 1) := by decide +kernel
theorem dX1_firstFault_94 : decode cX1_firstFault 94 = .ok (.iinc 2 2, 3) := by decide +kernel
theorem dX1_firstFault_97 : decode cX1_firstFault 97 = .ok (.goto (-95), 3) := by decide +kernel
theorem dX1_firstFault_100 : decode cX1_firstFault 100 = .ok (.bipush (-6), 2) := by decide +kernel
theorem dX1_firstFault_102 : decode cX1_firstFault 102 = .ok (.ireturn, 1) := by decide +kernel
theorem dX1_isTime_0 : decode cX1_isTime 0 = .ok (.iload_n 0, 1) := by decide +kernel
theorem dX1_isTime_1 : decode cX1_isTime 1 = .ok (.bipush 46, 2) := by decide +kernel
theorem dX1_isTime_3 : decode cX1_isTime 3 = .ok (.if_icmp .eq 15, 3) := by decide +kernel
theorem dX1_isTime_6 : decode cX1_isTime 6 = .ok (.iload_n 0, 1) := by decide +kernel
theorem dX1_isTime_7 : decode cX1_isTime 7 = .ok (.bipush 58, 2) := by decide +kernel
theorem dX1_isTime_9 : decode cX1_isTime 9 = .ok (.if_icmp .eq 9, 3) := by decide +kernel
theorem dX1_isTime_12 : decode cX1_isTime 12 = .ok (.iload_n 0, 1) := by decide +kernel
theorem dX1_isTime_13 : decode cX1_isTime 13 = .ok (.bipush 59, 2) := by decide +kernel
theorem dX1_isTime_15 : decode cX1_isTime 15 = .ok (.if_icmp .ne 7, 3) := by decide +kernel
theorem dX1_isTime_18 : decode cX1_isTime 18 = .ok (.iconst 1, 1) := by decide +kernel
theorem dX1_isTime_19 : decode cX1_isTime 19 = .ok (.goto 4, 3) := by decide +kernel
theorem dX1_isTime_22 : decode cX1_isTime 22 = .ok (.iconst 0, 1) := by decide +kernel
theorem dX1_isTime_23 : decode cX1_isTime 23 = .ok (.ireturn, 1) := by decide +kernel
theorem dX1_isFate_0 : decode cX1_isFate 0 = .ok (.iload_n 0, 1) := by decide +kernel
theorem dX1_isFate_1 : decode cX1_isFate 1 = .ok (.bipush 115, 2) := by decide +kernel
theorem dX1_isFate_3 : decode cX1_isFate 3 = .ok (.if_icmp .eq 15, 3) := by decide +kernel
theorem dX1_isFate_6 : decode cX1_isFate 6 = .ok (.iload_n 0, 1) := by decide +kernel
theorem dX1_isFate_7 : decode cX1_isFate 7 = .ok (.bipush 100, 2) := by decide +kernel
theorem dX1_isFate_9 : decode cX1_isFate 9 = .ok (.if_icmp .eq 9, 3) := by decide +kernel
theorem dX1_isFate_12 : decode cX1_isFate 12 = .ok (.iload_n 0, 1) := by decide +kernel
theorem dX1_isFate_13 : decode cX1_isFate 13 = .ok (.bipush 109, 2) := by decide +kernel
theorem dX1_isFate_15 : decode cX1_isFate 15 = .ok (.if_icmp .ne 7, 3) := by decide +kernel
theorem dX1_isFate_18 : decode cX1_isFate 18 = .ok (.iconst 1, 1) := by decide +kernel
theorem dX1_isFate_19 : decode cX1_isFate 19 = .ok (.goto 4, 3) := by decide +kernel
theorem dX1_isFate_22 : decode cX1_isFate 22 = .ok (.iconst 0, 1) := by decide +kernel
theorem dX1_isFate_23 : decode cX1_isFate 23 = .ok (.ireturn, 1) := by decide +kernel
theorem dX1_isChild_0 : decode cX1_isChild 0 = .ok (.iload_n 0, 1) := by decide +kernel
theorem dX1_isChild_1 : decode cX1_isChild 1 = .ok (.bipush 65, 2) := by decide +kernel
theorem dX1_isChild_3 : decode cX1_isChild 3 = .ok (.if_icmp .lt 15, 3) := by decide +kernel
theorem dX1_isChild_6 : decode cX1_isChild 6 = .ok (.iload_n 0, 1) := by decide +kernel
theorem dX1_isChild_7 : decode cX1_isChild 7 = .ok (.bipush 65, 2) := by decide +kernel
theorem dX1_isChild_9 : decode cX1_isChild 9 = .ok (.iload_n 1, 1) := by decide +kernel
theorem dX1_isChild_10 : decode cX1_isChild 10 = .ok (.iadd, 1) := by decide +kernel
theorem dX1_isChild_11 : decode cX1_isChild 11 = .ok (.if_icmp .ge 7, 3) := by decide +kernel
theorem dX1_isChild_14 : decode cX1_isChild 14 = .ok (.iconst 1, 1) := by decide +kernel
theorem dX1_isChild_15 : decode cX1_isChild 15 = .ok (.goto 4, 3) := by decide +kernel
theorem dX1_isChild_18 : decode cX1_isChild 18 = .ok (.iconst 0, 1) := by decide +kernel
theorem dX1_isChild_19 : decode cX1_isChild 19 = .ok (.ireturn, 1) := by decide +kernel
theorem dX2_init_0 : decode cX2_init 0 = .ok (.aload_n 0, 1) := by decide +kernel
theorem dX2_init_1 : decode cX2_init 1 = .ok (.invokespecial 3, 3) := by decide +kernel
theorem dX2_init_4 : decode cX2_init 4 = .ok (.aload_n 0, 1) := by decide +kernel
theorem dX2_init_5 : decode cX2_init 5 = .ok (.new 9, 3) := by decide +kernel
theorem dX2_init_8 : decode cX2_init 8 = .ok (.dup, 1) := by decide +kernel
theorem dX2_init_9 : decode cX2_init 9 = .ok (.bipush 6, 2) := by decide +kernel
theorem dX2_init_11 : decode cX2_init 11 = .ok (.invokespecial 11, 3) := by decide +kernel
theorem dX2_init_14 : decode cX2_init 14 = .ok (.putfield 14, 3) := by decide +kernel
theorem dX2_init_17 : decode cX2_init 17 = .ok (.aload_n 0, 1) := by decide +kernel
theorem dX2_init_18 : decode cX2_init 18 = .ok (.new 9, 3) := by decide +kernel
theorem dX2_init_21 : decode cX2_init 21 = .ok (.dup, 1) := by decide +kernel
theorem dX2_init_22 : decode cX2_init 22 = .ok (.bipush 6, 2) := by decide +kernel
theorem dX2_init_24 : decode cX2_init 24 = .ok (.invokespecial 11, 3) := by decide +kernel
theorem dX2_init_27 : decode cX2_init 27 = .ok (.putfield 20, 3) := by decide +kernel
theorem dX2_init_30 : decode cX2_init 30 = .ok (.aload_n 0, 1) := by decide +kernel
theorem dX2_init_31 : decode cX2_init 31 = .ok (.new 9, 3) := by decide +kernel
theorem dX2_init_34 : decode cX2_init 34 = .ok (.dup, 1) := by decide +kernel
theorem dX2_init_35 : decode cX2_init 35 = .ok (.bipush 6, 2) := by decide +kernel
theorem dX2_init_37 : decode cX2_init 37 = .ok (.invokespecial 11, 3) := by decide +kernel
theorem dX2_init_40 : decode cX2_init 40 = .ok (.putfield 23, 3) := by decide +kernel
theorem dX2_init_43 : decode cX2_init 43 = .ok (.aload_n 0, 1) := by decide +kernel
theorem dX2_init_44 : decode cX2_init 44 = .ok (.new 9, 3) := by decide +kernel
theorem dX2_init_47 : decode cX2_init 47 = .ok (.dup, 1) := by decide +kernel
theorem dX2_init_48 : decode cX2_init 48 = .ok (.bipush 6, 2) := by decide +kernel
theorem dX2_init_50 : decode cX2_init 50 = .ok (.invokespecial 11, 3) := by decide +kernel
theorem dX2_init_53 : decode cX2_init 53 = .ok (.putfield 26, 3) := by decide +kernel
theorem dX2_init_56 : decode cX2_init 56 = .ok (.aload_n 0, 1) := by decide +kernel
theorem dX2_init_57 : decode cX2_init 57 = .ok (.new 9, 3) := by decide +kernel
theorem dX2_init_60 : decode cX2_init 60 = .ok (.dup, 1) := by decide +kernel
theorem dX2_init_61 : decode cX2_init 61 = .ok (.bipush 6, 2) := by decide +kernel
theorem dX2_init_63 : decode cX2_init 63 = .ok (.invokespecial 11, 3) := by decide +kernel
theorem dX2_init_66 : decode cX2_init 66 = .ok (.putfield 29, 3) := by decide +kernel
theorem dX2_init_69 : decode cX2_init 69 = .ok (.aload_n 0, 1) := by decide +kernel
theorem dX2_init_70 : decode cX2_init 70 = .ok (.new 9, 3) := by decide +kernel
theorem dX2_init_73 : decode cX2_init 73 = .ok (.dup, 1) := by decide +kernel
theorem dX2_init_74 : decode cX2_init 74 = .ok (.bipush 6, 2) := by decide +kernel
theorem dX2_init_76 : decode cX2_init 76 = .ok (.invokespecial 11, 3) := by decide +kernel
theorem dX2_init_79 : decode cX2_init 79 = .ok (.putfield 32, 3) := by decide +kernel
theorem dX2_init_82 : decode cX2_init 82 = .ok (.aload_n 0, 1) := by decide +kernel
theorem dX2_init_83 : decode cX2_init 83 = .ok (.new 9, 3) := by decide +kernel
theorem dX2_init_86 : decode cX2_init 86 = .ok (.dup, 1) := by decide +kernel
theorem dX2_init_87 : decode cX2_init 87 = .ok (.bipush 8, 2) := by decide +kernel
theorem dX2_init_89 : decode cX2_init 89 = .ok (.invokespecial 11, 3) := by decide +kernel
theorem dX2_init_92 : decode cX2_init 92 = .ok (.putfield 35, 3) := by decide +kernel
theorem dX2_init_95 : decode cX2_init 95 = .ok (.aload_n 0, 1) := by decide +kernel
theorem dX2_init_96 : decode cX2_init 96 = .ok (.new 9, 3) := by decide +kernel
theorem dX2_init_99 : decode cX2_init 99 = .ok (.dup, 1) := by decide +kernel
theorem dX2_init_100 : decode cX2_init 100 = .ok (.bipush 8, 2) := by decide +kernel
theorem dX2_init_102 : decode cX2_init 102 = .ok (.invokespecial 11, 3) := by decide +kernel
theorem dX2_init_105 : decode cX2_init 105 = .ok (.putfield 38, 3) := by decide +kernel
theorem dX2_init_108 : decode cX2_init 108 = .ok (.return_, 1) := by decide +kernel
theorem dX2_startAnew_0 : decode cX2_startAnew 0 = .ok (.aload_n 0, 1) := by decide +kernel
theorem dX2_startAnew_1 : decode cX2_startAnew 1 = .ok (.iload_n 1, 1) := by decide +kernel
theorem dX2_startAnew_2 : decode cX2_startAnew 2 = .ok (.putfield 41, 3) := by decide +kernel
theorem dX2_startAnew_5 : decode cX2_startAnew 5 = .ok (.aload_n 0, 1) := by decide +kernel
theorem dX2_startAnew_6 : decode cX2_startAnew 6 = .ok (.iconst 0, 1) := by decide +kernel
theorem dX2_startAnew_7 : decode cX2_startAnew 7 = .ok (.putfield 45, 3) := by decide +kernel
theorem dX2_startAnew_10 : decode cX2_startAnew 10 = .ok (.aload_n 0, 1) := by decide +kernel
theorem dX2_startAnew_11 : decode cX2_startAnew 11 = .ok (.iconst 0, 1) := by decide +kernel
theorem dX2_startAnew_12 : decode cX2_startAnew 12 = .ok (.putfield 48, 3) := by decide +kernel
theorem dX2_startAnew_15 : decode cX2_startAnew 15 = .ok (.aload_n 0, 1) := by decide +kernel
theorem dX2_startAnew_16 : decode cX2_startAnew 16 = .ok (.iconst 0, 1) := by decide +kernel
theorem dX2_startAnew_17 : decode cX2_startAnew 17 = .ok (.putfield 51, 3) := by decide +kernel
theorem dX2_startAnew_20 : decode cX2_startAnew 20 = .ok (.aload_n 0, 1) := by decide +kernel
theorem dX2_startAnew_21 : decode cX2_startAnew 21 = .ok (.iconst 0, 1) := by decide +kernel
theorem dX2_startAnew_22 : decode cX2_startAnew 22 = .ok (.putfield 54, 3) := by decide +kernel
theorem dX2_startAnew_25 : decode cX2_startAnew 25 = .ok (.aload_n 0, 1) := by decide +kernel
theorem dX2_startAnew_26 : decode cX2_startAnew 26 = .ok (.iconst 1, 1) := by decide +kernel
theorem dX2_startAnew_27 : decode cX2_startAnew 27 = .ok (.iload_n 1, 1) := by decide +kernel
theorem dX2_startAnew_28 : decode cX2_startAnew 28 = .ok (.ishl, 1) := by decide +kernel
theorem dX2_startAnew_29 : decode cX2_startAnew 29 = .ok (.iconst 1, 1) := by decide +kernel
theorem dX2_startAnew_30 : decode cX2_startAnew 30 = .ok (.isub, 1) := by decide +kernel
theorem dX2_startAnew_31 : decode cX2_startAnew 31 = .ok (.putfield 57, 3) := by decide +kernel
theorem dX2_startAnew_34 : decode cX2_startAnew 34 = .ok (.aload_n 0, 1) := by decide +kernel
theorem dX2_startAnew_35 : decode cX2_startAnew 35 = .ok (.getfield 14, 3) := by decide +kernel
theorem dX2_startAnew_38 : decode cX2_startAnew 38 = .ok (.iconst 0, 1) := by decide +kernel
theorem dX2_startAnew_39 : decode cX2_startAnew 39 = .ok (.invokevirtual 60, 3) := by decide +kernel
theorem dX2_startAnew_42 : decode cX2_startAnew 42 = .ok (.aload_n 0, 1) := by decide +kernel
theorem dX2_startAnew_43 : decode cX2_startAnew 43 = .ok (.getfield 23, 3) := by decide +kernel
theorem dX2_startAnew_46 : decode cX2_startAnew 46 = .ok (.iconst 0, 1) := by decide +kernel
theorem dX2_startAnew_47 : decode cX2_startAnew 47 = .ok (.invokevirtual 60, 3) := by decide +kernel
theorem dX2_startAnew_50 : decode cX2_startAnew 50 = .ok (.aload_n 0, 1) := by decide +kernel
theorem dX2_startAnew_51 : decode cX2_startAnew 51 = .ok (.getfield 29, 3) := by decide +kernel
theorem dX2_startAnew_54 : decode cX2_startAnew 54 = .ok (.iconst 0, 1) := by decide +kernel
theorem dX2_startAnew_55 : decode cX2_startAnew 55 = .ok (.invokevirtual 60, 3) := by decide +kernel
theorem dX2_startAnew_58 : decode cX2_startAnew 58 = .ok (.aload_n 0, 1) := by decide +kernel
theorem dX2_startAnew_59 : decode cX2_startAnew 59 = .ok (.getfield 32, 3) := by decide +kernel
theorem dX2_startAnew_62 : decode cX2_startAnew 62 = .ok (.iconst 0, 1) := by decide +kernel
theorem dX2_startAnew_63 : decode cX2_startAnew 63 = .ok (.invokevirtual 60, 3) := by decide +kernel
theorem dX2_startAnew_66 : decode cX2_startAnew 66 = .ok (.iconst 0, 1) := by decide +kernel
theorem dX2_startAnew_67 : decode cX2_startAnew 67 = .ok (.istore_n 2, 1) := by decide +kernel
theorem dX2_startAnew_68 : decode cX2_startAnew 68 = .ok (.iload_n 2, 1) := by decide +kernel
theorem dX2_startAnew_69 : decode cX2_startAnew 69 = .ok (.iload_n 1, 1) := by decide +kernel
theorem dX2_startAnew_70 : decode cX2_startAnew 70 = .ok (.if_icmp .ge 18, 3) := by decide +kernel
theorem dX2_startAnew_73 : decode cX2_startAnew 73 = .ok (.aload_n 0, 1) := by decide +kernel
theorem dX2_startAnew_74 : decode cX2_startAnew 74 = .ok (.getfield 20, 3) := by decide +kernel
theorem dX2_startAnew_77 : decode cX2_startAnew 77 = .ok (.iload_n 2, 1) := by decide +kernel
theorem dX2_startAnew_78 : decode cX2_startAnew 78 = .ok (.iload_n 2, 1) := by decide +kernel
theorem dX2_startAnew_79 : decode cX2_startAnew 79 = .ok (.invokevirtual 63, 3) := by decide +kernel
theorem dX2_startAnew_82 : decode cX2_startAnew 82 = .ok (.iinc 2 1, 3) := by decide +kernel
theorem dX2_startAnew_85 : decode cX2_startAnew 85 = .ok (.goto (-17), 3) := by decide +kernel
theorem dX2_startAnew_88 : decode cX2_startAnew 88 = .ok (.return_, 1) := by decide +kernel
theorem dX2_takeOver_0 : decode cX2_takeOver 0 = .ok (.aload_n 0, 1) := by decide +kernel
theorem dX2_takeOver_1 : decode cX2_takeOver 1 = .ok (.aload_n 1, 1) := by decide +kernel
theorem dX2_takeOver_2 : decode cX2_takeOver 2 = .ok (.getfield 41, 3) := by decide +kernel
theorem dX2_takeOver_5 : decode cX2_takeOver 5 = .ok (.putfield 41, 3) := by decide +kernel
theorem dX2_takeOver_8 : decode cX2_takeOver 8 = .ok (.aload_n 0, 1) := by decide +kernel
theorem dX2_takeOver_9 : decode cX2_takeOver 9 = .ok (.aload_n 1, 1) := by decide +kernel
theorem dX2_takeOver_10 : decode cX2_takeOver 10 = .ok (.getfield 67, 3) := by decide +kernel
theorem dX2_takeOver_13 : decode cX2_takeOver 13 = .ok (.putfield 67, 3) := by decide +kernel
theorem dX2_takeOver_16 : decode cX2_takeOver 16 = .ok (.aload_n 0, 1) := by decide +kernel
theorem dX2_takeOver_17 : decode cX2_takeOver 17 = .ok (.aload_n 1, 1) := by decide +kernel
theorem dX2_takeOver_18 : decode cX2_takeOver 18 = .ok (.getfield 45, 3) := by decide +kernel
theorem dX2_takeOver_21 : decode cX2_takeOver 21 = .ok (.putfield 45, 3) := by decide +kernel
theorem dX2_takeOver_24 : decode cX2_takeOver 24 = .ok (.aload_n 0, 1) := by decide +kernel
theorem dX2_takeOver_25 : decode cX2_takeOver 25 = .ok (.aload_n 1, 1) := by decide +kernel
theorem dX2_takeOver_26 : decode cX2_takeOver 26 = .ok (.getfield 48, 3) := by decide +kernel
theorem dX2_takeOver_29 : decode cX2_takeOver 29 = .ok (.putfield 48, 3) := by decide +kernel
theorem dX2_takeOver_32 : decode cX2_takeOver 32 = .ok (.aload_n 0, 1) := by decide +kernel
theorem dX2_takeOver_33 : decode cX2_takeOver 33 = .ok (.aload_n 1, 1) := by decide +kernel
theorem dX2_takeOver_34 : decode cX2_takeOver 34 = .ok (.getfield 51, 3) := by decide +kernel
theorem dX2_takeOver_37 : decode cX2_takeOver 37 = .ok (.putfield 51, 3) := by decide +kernel
theorem dX2_takeOver_40 : decode cX2_takeOver 40 = .ok (.aload_n 0, 1) := by decide +kernel
theorem dX2_takeOver_41 : decode cX2_takeOver 41 = .ok (.aload_n 1, 1) := by decide +kernel
theorem dX2_takeOver_42 : decode cX2_takeOver 42 = .ok (.getfield 57, 3) := by decide +kernel
theorem dX2_takeOver_45 : decode cX2_takeOver 45 = .ok (.putfield 57, 3) := by decide +kernel
theorem dX2_takeOver_48 : decode cX2_takeOver 48 = .ok (.aload_n 0, 1) := by decide +kernel
theorem dX2_takeOver_49 : decode cX2_takeOver 49 = .ok (.aload_n 1, 1) := by decide +kernel
theorem dX2_takeOver_50 : decode cX2_takeOver 50 = .ok (.getfield 54, 3) := by decide +kernel
theorem dX2_takeOver_53 : decode cX2_takeOver 53 = .ok (.putfield 54, 3) := by decide +kernel
theorem dX2_takeOver_56 : decode cX2_takeOver 56 = .ok (.aload_n 0, 1) := by decide +kernel
theorem dX2_takeOver_57 : decode cX2_takeOver 57 = .ok (.getfield 14, 3) := by decide +kernel
theorem dX2_takeOver_60 : decode cX2_takeOver 60 = .ok (.aload_n 1, 1) := by decide +kernel
theorem dX2_takeOver_61 : decode cX2_takeOver 61 = .ok (.getfield 14, 3) := by decide +kernel
theorem dX2_takeOver_64 : decode cX2_takeOver 64 = .ok (.invokevirtual 70, 3) := by decide +kernel
theorem dX2_takeOver_67 : decode cX2_takeOver 67 = .ok (.aload_n 0, 1) := by decide +kernel
theorem dX2_takeOver_68 : decode cX2_takeOver 68 = .ok (.getfield 20, 3) := by decide +kernel
theorem dX2_takeOver_71 : decode cX2_takeOver 71 = .ok (.aload_n 1, 1) := by decide +kernel
theorem dX2_takeOver_72 : decode cX2_takeOver 72 = .ok (.getfield 20, 3) := by decide +kernel
theorem dX2_takeOver_75 : decode cX2_takeOver 75 = .ok (.invokevirtual 70, 3) := by decide +kernel
theorem dX2_takeOver_78 : decode cX2_takeOver 78 = .ok (.aload_n 0, 1) := by decide +kernel
theorem dX2_takeOver_79 : decode cX2_takeOver 79 = .ok (.getfield 23, 3) := by decide +kernel
theorem dX2_takeOver_82 : decode cX2_takeOver 82 = .ok (.aload_n 1, 1) := by decide +kernel
theorem dX2_takeOver_83 : decode cX2_takeOver 83 = .ok (.getfield 23, 3) := by decide +kernel
theorem dX2_takeOver_86 : decode cX2_takeOver 86 = .ok (.invokevirtual 70, 3) := by decide +kernel
theorem dX2_takeOver_89 : decode cX2_takeOver 89 = .ok (.aload_n 0, 1) := by decide +kernel
theorem dX2_takeOver_90 : decode cX2_takeOver 90 = .ok (.getfield 29, 3) := by decide +kernel
theorem dX2_takeOver_93 : decode cX2_takeOver 93 = .ok (.aload_n 1, 1) := by decide +kernel
theorem dX2_takeOver_94 : decode cX2_takeOver 94 = .ok (.getfield 29, 3) := by decide +kernel
theorem dX2_takeOver_97 : decode cX2_takeOver 97 = .ok (.invokevirtual 70, 3) := by decide +kernel
theorem dX2_takeOver_100 : decode cX2_takeOver 100 = .ok (.aload_n 0, 1) := by decide +kernel
theorem dX2_takeOver_101 : decode cX2_takeOver 101 = .ok (.getfield 32, 3) := by decide +kernel
theorem dX2_takeOver_104 : decode cX2_takeOver 104 = .ok (.aload_n 1, 1) := by decide +kernel
theorem dX2_takeOver_105 : decode cX2_takeOver 105 = .ok (.getfield 32, 3) := by decide +kernel
theorem dX2_takeOver_108 : decode cX2_takeOver 108 = .ok (.invokevirtual 70, 3) := by decide +kernel
theorem dX2_takeOver_111 : decode cX2_takeOver 111 = .ok (.aload_n 0, 1) := by decide +kernel
theorem dX2_takeOver_112 : decode cX2_takeOver 112 = .ok (.getfield 35, 3) := by decide +kernel
theorem dX2_takeOver_115 : decode cX2_takeOver 115 = .ok (.aload_n 1, 1) := by decide +kernel
theorem dX2_takeOver_116 : decode cX2_takeOver 116 = .ok (.getfield 35, 3) := by decide +kernel
theorem dX2_takeOver_119 : decode cX2_takeOver 119 = .ok (.invokevirtual 70, 3) := by decide +kernel
theorem dX2_takeOver_122 : decode cX2_takeOver 122 = .ok (.aload_n 0, 1) := by decide +kernel
theorem dX2_takeOver_123 : decode cX2_takeOver 123 = .ok (.getfield 38, 3) := by decide +kernel
theorem dX2_takeOver_126 : decode cX2_takeOver 126 = .ok (.aload_n 1, 1) := by decide +kernel
theorem dX2_takeOver_127 : decode cX2_takeOver 127 = .ok (.getfield 38, 3) := by decide +kernel
theorem dX2_takeOver_130 : decode cX2_takeOver 130 = .ok (.invokevirtual 70, 3) := by decide +kernel
theorem dX2_takeOver_133 : decode cX2_takeOver 133 = .ok (.return_, 1) := by decide +kernel
theorem dX2_has_0 : decode cX2_has 0 = .ok (.iload_n 1, 1) := by decide +kernel
theorem dX2_has_1 : decode cX2_has 1 = .ok (.ifCond .lt 15, 3) := by decide +kernel
theorem dX2_has_4 : decode cX2_has 4 = .ok (.iload_n 1, 1) := by decide +kernel
theorem dX2_has_5 : decode cX2_has 5 = .ok (.aload_n 0, 1) := by decide +kernel
theorem dX2_has_6 : decode cX2_has 6 = .ok (.getfield 41, 3) := by decide +kernel
theorem dX2_has_9 : decode cX2_has 9 = .ok (.if_icmp .ge 7, 3) := by decide +kernel
theorem dX2_has_12 : decode cX2_has 12 = .ok (.iconst 1, 1) := by decide +kernel
theorem dX2_has_13 : decode cX2_has 13 = .ok (.goto 4, 3) := by decide +kernel
theorem dX2_has_16 : decode cX2_has 16 = .ok (.iconst 0, 1) := by decide +kernel
theorem dX2_has_17 : decode cX2_has 17 = .ok (.ireturn, 1) := by decide +kernel
theorem dX2_hasBoth_0 : decode cX2_hasBoth 0 = .ok (.aload_n 0, 1) := by decide +kernel
theorem dX2_hasBoth_1 : decode cX2_hasBoth 1 = .ok (.iload_n 1, 1) := by decide +kernel
theorem dX2_hasBoth_2 : decode cX2_hasBoth 2 = .ok (.invokevirtual 74, 3) := by decide +kernel
theorem dX2_hasBoth_5 : decode cX2_hasBoth 5 = .ok (.ifCond .eq 20, 3) := by decide +kernel
theorem dX2_hasBoth_8 : decode cX2_hasBoth 8 = .ok (.aload_n 0, 1) := by decide +kernel
theorem dX2_hasBoth_9 : decode cX2_hasBoth 9 = .ok (.iload_n 2, 1) := by decide +kernel
theorem dX2_hasBoth_10 : decode cX2_hasBoth 10 = .ok (.invokevirtual 74, 3) := by decide +kernel
theorem dX2_hasBoth_13 : decode cX2_hasBoth 13 = .ok (.ifCond .eq 12, 3) := by decide +kernel
theorem dX2_hasBoth_16 : decode cX2_hasBoth 16 = .ok (.iload_n 1, 1) := by decide +kernel
theorem dX2_hasBoth_17 : decode cX2_hasBoth 17 = .ok (.iload_n 2, 1) := by decide +kernel
theorem dX2_hasBoth_18 : decode cX2_hasBoth 18 = .ok (.if_icmp .eq 7, 3) := by decide +kernel
theorem dX2_hasBoth_21 : decode cX2_hasBoth 21 = .ok (.iconst 1, 1) := by decide +kernel
theorem dX2_hasBoth_22 : decode cX2_hasBoth 22 = .ok (.goto 4, 3) := by decide +kernel
theorem dX2_hasBoth_25 : decode cX2_hasBoth 25 = .ok (.iconst 0, 1) := by decide +kernel
theorem dX2_hasBoth_26 : decode cX2_hasBoth 26 = .ok (.ireturn, 1) := by decide +kernel
theorem dX2_lives_0 : decode cX2_lives 0 = .ok (.iload_n 1, 1) := by decide +kernel
theorem dX2_lives_1 : decode cX2_lives 1 = .ok (.ifCond .lt 27, 3) := by decide +kernel
theorem dX2_lives_4 : decode cX2_lives 4 = .ok (.iload_n 1, 1) := by decide +kernel
theorem dX2_lives_5 : decode cX2_lives 5 = .ok (.aload_n 0, 1) := by decide +kernel
theorem dX2_lives_6 : decode cX2_lives 6 = .ok (.getfield 41, 3) := by decide +kernel
theorem dX2_lives_9 : decode cX2_lives 9 = .ok (.if_icmp .ge 19, 3) := by decide +kernel
theorem dX2_lives_12 : decode cX2_lives 12 = .ok (.aload_n 0, 1) := by decide +kernel
theorem dX2_lives_13 : decode cX2_lives 13 = .ok (.getfield 57, 3) := by decide +kernel
theorem dX2_lives_16 : decode cX2_lives 16 = .ok (.iload_n 1, 1) := by decide +kernel
theorem dX2_lives_17 : decode cX2_lives 17 = .ok (.ishr, 1) := by decide +kernel
theorem dX2_lives_18 : decode cX2_lives 18 = .ok (.iconst 1, 1) := by decide +kernel
theorem dX2_lives_19 : decode cX2_lives 19 = .ok (.iand, 1) := by decide +kernel
theorem dX2_lives_20 : decode cX2_lives 20 = .ok (.iconst 1, 1) := by decide +kernel
theorem dX2_lives_21 : decode cX2_lives 21 = .ok (.if_icmp .ne 7, 3) := by decide +kernel
theorem dX2_lives_24 : decode cX2_lives 24 = .ok (.iconst 1, 1) := by decide +kernel
theorem dX2_lives_25 : decode cX2_lives 25 = .ok (.goto 4, 3) := by decide +kernel
theorem dX2_lives_28 : decode cX2_lives 28 = .ok (.iconst 0, 1) := by decide +kernel
theorem dX2_lives_29 : decode cX2_lives 29 = .ok (.ireturn, 1) := by decide +kernel
theorem dX2_bearerOf_0 : decode cX2_bearerOf 0 = .ok (.iconst 0, 1) := by decide +kernel
theorem dX2_bearerOf_1 : decode cX2_bearerOf 1 = .ok (.istore_n 2, 1) := by decide +kernel
theorem dX2_bearerOf_2 : decode cX2_bearerOf 2 = .ok (.iload_n 2, 1) := by decide +kernel
theorem dX2_bearerOf_3 : decode cX2_bearerOf 3 = .ok (.aload_n 0, 1) := by decide +kernel
theorem dX2_bearerOf_4 : decode cX2_bearerOf 4 = .ok (.getfield 41, 3) := by decide +kernel
theorem dX2_bearerOf_7 : decode cX2_bearerOf 7 = .ok (.if_icmp .ge 23, 3) := by decide +kernel
theorem dX2_bearerOf_10 : decode cX2_bearerOf 10 = .ok (.aload_n 0, 1) := by decide +kernel
theorem dX2_bearerOf_11 : decode cX2_bearerOf 11 = .ok (.getfield 20, 3) := by decide +kernel
theorem dX2_bearerOf_14 : decode cX2_bearerOf 14 = .ok (.iload_n 2, 1) := by decide +kernel
theorem dX2_bearerOf_15 : decode cX2_bearerOf 15 = .ok (.invokevirtual 78, 3) := by decide +kernel
theorem dX2_bearerOf_18 : decode cX2_bearerOf 18 = .ok (.iload_n 1, 1) := by decide +kernel
theorem dX2_bearerOf_19 : decode cX2_bearerOf 19 = .ok (.if_icmp .ne 5, 3) := by decide +kernel
theorem dX2_bearerOf_22 : decode cX2_bearerOf 22 = .ok (.iload_n 2, 1) := by decide +kernel
theorem dX2_bearerOf_23 : decode cX2_bearerOf 23 = .ok (.ireturn, 1) := by decide +kernel
theorem dX2_bearerOf_24 : decode cX2_bearerOf 24 = .ok (.iinc 2 1, 3) := by decide +kernel
theorem dX2_bearerOf_27 : decode cX2_bearerOf 27 = .ok (.goto (-25), 3) := by decide +kernel
theorem dX2_bearerOf_30 : decode cX2_bearerOf 30 = .ok (.bipush (-6), 2) := by decide +kernel
theorem dX2_bearerOf_32 : decode cX2_bearerOf 32 = .ok (.ireturn, 1) := by decide +kernel
theorem dX2_die_0 : decode cX2_die 0 = .ok (.aload_n 0, 1) := by decide +kernel
theorem dX2_die_1 : decode cX2_die 1 = .ok (.iload_n 1, 1) := by decide +kernel
theorem dX2_die_2 : decode cX2_die 2 = .ok (.invokevirtual 82, 3) := by decide +kernel
theorem dX2_die_5 : decode cX2_die 5 = .ok (.ifCond .ne 5, 3) := by decide +kernel
theorem dX2_die_8 : decode cX2_die 8 = .ok (.iconst 1, 1) := by decide +kernel
theorem dX2_die_9 : decode cX2_die 9 = .ok (.ireturn, 1) := by decide +kernel
theorem dX2_die_10 : decode cX2_die 10 = .ok (.aload_n 0, 1) := by decide +kernel
theorem dX2_die_11 : decode cX2_die 11 = .ok (.dup, 1) := by decide +kernel
theorem dX2_die_12 : decode cX2_die 12 = .ok (.getfield 57, 3) := by decide +kernel
theorem dX2_die_15 : decode cX2_die 15 = .ok (.iconst 1, 1) := by decide +kernel
theorem dX2_die_16 : decode cX2_die 16 = .ok (.iload_n 1, 1) := by decide +kernel
theorem dX2_die_17 : decode cX2_die 17 = .ok (.ishl, 1) := by decide +kernel
theorem dX2_die_18 : decode cX2_die 18 = .ok (.iconst (-1), 1) := by decide +kernel
theorem dX2_die_19 : decode cX2_die 19 = .ok (.ixor, 1) := by decide +kernel
theorem dX2_die_20 : decode cX2_die 20 = .ok (.iand, 1) := by decide +kernel
theorem dX2_die_21 : decode cX2_die 21 = .ok (.putfield 57, 3) := by decide +kernel
theorem dX2_die_24 : decode cX2_die 24 = .ok (.iconst 0, 1) := by decide +kernel
theorem dX2_die_25 : decode cX2_die 25 = .ok (.ireturn, 1) := by decide +kernel
theorem dX2_bind_0 : decode cX2_bind 0 = .ok (.aload_n 0, 1) := by decide +kernel
theorem dX2_bind_1 : decode cX2_bind 1 = .ok (.iload_n 1, 1) := by decide +kernel
theorem dX2_bind_2 : decode cX2_bind 2 = .ok (.invokevirtual 82, 3) := by decide +kernel
theorem dX2_bind_5 : decode cX2_bind 5 = .ok (.ifCond .ne 5, 3) := by decide +kernel
theorem dX2_bind_8 : decode cX2_bind 8 = .ok (.iconst 1, 1) := by decide +kernel
theorem dX2_bind_9 : decode cX2_bind 9 = .ok (.ireturn, 1) := by decide +kernel
theorem dX2_bind_10 : decode cX2_bind 10 = .ok (.aload_n 0, 1) := by decide +kernel
theorem dX2_bind_11 : decode cX2_bind 11 = .ok (.getfield 23, 3) := by decide +kernel
theorem dX2_bind_14 : decode cX2_bind 14 = .ok (.iload_n 1, 1) := by decide +kernel
theorem dX2_bind_15 : decode cX2_bind 15 = .ok (.invokevirtual 78, 3) := by decide +kernel
theorem dX2_bind_18 : decode cX2_bind 18 = .ok (.ifCond .eq 5, 3) := by decide +kernel
theorem dX2_bind_21 : decode cX2_bind 21 = .ok (.iconst 4, 1) := by decide +kernel
theorem dX2_bind_22 : decode cX2_bind 22 = .ok (.ireturn, 1) := by decide +kernel
theorem dX2_bind_23 : decode cX2_bind 23 = .ok (.aload_n 0, 1) := by decide +kernel
theorem dX2_bind_24 : decode cX2_bind 24 = .ok (.getfield 23, 3) := by decide +kernel
theorem dX2_bind_27 : decode cX2_bind 27 = .ok (.iload_n 1, 1) := by decide +kernel
theorem dX2_bind_28 : decode cX2_bind 28 = .ok (.iload_n 2, 1) := by decide +kernel
theorem dX2_bind_29 : decode cX2_bind 29 = .ok (.invokevirtual 63, 3) := by decide +kernel
theorem dX2_bind_32 : decode cX2_bind 32 = .ok (.iconst 0, 1) := by decide +kernel
theorem dX2_bind_33 : decode cX2_bind 33 = .ok (.ireturn, 1) := by decide +kernel
theorem dX2_changeHats_0 : decode cX2_changeHats 0 = .ok (.aload_n 0, 1) := by decide +kernel
theorem dX2_changeHats_1 : decode cX2_changeHats 1 = .ok (.iload_n 1, 1) := by decide +kernel
theorem dX2_changeHats_2 : decode cX2_changeHats 2 = .ok (.invokevirtual 82, 3) := by decide +kernel
theorem dX2_changeHats_5 : decode cX2_changeHats 5 = .ok (.ifCond .eq 11, 3) := by decide +kernel
theorem dX2_changeHats_8 : decode cX2_changeHats 8 = .ok (.aload_n 0, 1) := by decide +kernel
theorem dX2_changeHats_9 : decode cX2_changeHats 9 = .ok (.iload_n 2, 1) := by decide +kernel
theorem dX2_changeHats_10 : decode cX2_changeHats 10 = .ok (.invokevirtual 82, 3) := by decide +kernel
theorem dX2_changeHats_13 : decode cX2_changeHats 13 = .ok (.ifCond .ne 5, 3) := by decide +kernel
theorem dX2_changeHats_16 : decode cX2_changeHats 16 = .ok (.iconst 1, 1) := by decide +kernel
theorem dX2_changeHats_17 : decode cX2_changeHats 17 = .ok (.ireturn, 1) := by decide +kernel
theorem dX2_changeHats_18 : decode cX2_changeHats 18 = .ok (.iload_n 1, 1) := by decide +kernel
theorem dX2_changeHats_19 : decode cX2_changeHats 19 = .ok (.iload_n 2, 1) := by decide +kernel
theorem dX2_changeHats_20 : decode cX2_changeHats 20 = .ok (.if_icmp .ne 5, 3) := by decide +kernel
theorem dX2_changeHats_23 : decode cX2_changeHats 23 = .ok (.iconst 2, 1) := by decide +kernel
theorem dX2_changeHats_24 : decode cX2_changeHats 24 = .ok (.ireturn, 1) := by decide +kernel
theorem dX2_changeHats_25 : decode cX2_changeHats 25 = .ok (.aload_n 0, 1) := by decide +kernel
theorem dX2_changeHats_26 : decode cX2_changeHats 26 = .ok (.getfield 48, 3) := by decide +kernel
theorem dX2_changeHats_29 : decode cX2_changeHats 29 = .ok (.ifCond .eq 5, 3) := by decide +kernel
theorem dX2_changeHats_32 : decode cX2_changeHats 32 = .ok (.iconst 3, 1) := by decide +kernel
theorem dX2_changeHats_33 : decode cX2_changeHats 33 = .ok (.ireturn, 1) := by decide +kernel
theorem dX2_changeHats_34 : decode cX2_changeHats 34 = .ok (.aload_n 0, 1) := by decide +kernel
theorem dX2_changeHats_35 : decode cX2_changeHats 35 = .ok (.iload_n 1, 1) := by decide +kernel
theorem dX2_changeHats_36 : decode cX2_changeHats 36 = .ok (.iload_n 2, 1) := by decide +kernel
theorem dX2_changeHats_37 : decode cX2_changeHats 37 = .ok (.invokevirtual 85, 3) := by decide +kernel
theorem dX2_changeHats_40 : decode cX2_changeHats 40 = .ok (.iconst 0, 1) := by decide +kernel
theorem dX2_changeHats_41 : decode cX2_changeHats 41 = .ok (.ireturn, 1) := by decide +kernel
theorem dX2_swapNames_0 : decode cX2_swapNames 0 = .ok (.aload_n 0, 1) := by decide +kernel
theorem dX2_swapNames_1 : decode cX2_swapNames 1 = .ok (.getfield 20, 3) := by decide +kernel
theorem dX2_swapNames_4 : decode cX2_swapNames 4 = .ok (.iload_n 1, 1) := by decide +kernel
theorem dX2_swapNames_5 : decode cX2_swapNames 5 = .ok (.invokevirtual 78, 3) := by decide +kernel
theorem dX2_swapNames_8 : decode cX2_swapNames 8 = .ok (.istore_n 3, 1) := by decide +kernel
theorem dX2_swapNames_9 : decode cX2_swapNames 9 = .ok (.aload_n 0, 1) := by decide +kernel
theorem dX2_swapNames_10 : decode cX2_swapNames 10 = .ok (.getfield 20, 3) := by decide +kernel
theorem dX2_swapNames_13 : decode cX2_swapNames 13 = .ok (.iload_n 1, 1) := by decide +kernel
theorem dX2_swapNames_14 : decode cX2_swapNames 14 = .ok (.aload_n 0, 1) := by decide +kernel
theorem dX2_swapNames_15 : decode cX2_swapNames 15 = .ok (.getfield 20, 3) := by decide +kernel
theorem dX2_swapNames_18 : decode cX2_swapNames 18 = .ok (.iload_n 2, 1) := by decide +kernel
theorem dX2_swapNames_19 : decode cX2_swapNames 19 = .ok (.invokevirtual 78, 3) := by decide +kernel
theorem dX2_swapNames_22 : decode cX2_swapNames 22 = .ok (.invokevirtual 63, 3) := by decide +kernel
theorem dX2_swapNames_25 : decode cX2_swapNames 25 = .ok (.aload_n 0, 1) := by decide +kernel
theorem dX2_swapNames_26 : decode cX2_swapNames 26 = .ok (.getfield 20, 3) := by decide +kernel
theorem dX2_swapNames_29 : decode cX2_swapNames 29 = .ok (.iload_n 2, 1) := by decide +kernel
theorem dX2_swapNames_30 : decode cX2_swapNames 30 = .ok (.iload_n 3, 1) := by decide +kernel
theorem dX2_swapNames_31 : decode cX2_swapNames 31 = .ok (.invokevirtual 63, 3) := by decide +kernel
theorem dX2_swapNames_34 : decode cX2_swapNames 34 = .ok (.return_, 1) := by decide +kernel
theorem dX2_passDays_0 : decode cX2_passDays 0 = .ok (.iload_n 1, 1) := by decide +kernel
theorem dX2_passDays_1 : decode cX2_passDays 1 = .ok (.istore_n 2, 1) := by decide +kernel
theorem dX2_passDays_2 : decode cX2_passDays 2 = .ok (.iload_n 2, 1) := by decide +kernel
theorem dX2_passDays_3 : decode cX2_passDays 3 = .ok (.ifCond .le 44, 3) := by decide +kernel
theorem dX2_passDays_6 : decode cX2_passDays 6 = .ok (.aload_n 0, 1) := by decide +kernel
theorem dX2_passDays_7 : decode cX2_passDays 7 = .ok (.dup, 1) := by decide +kernel
theorem dX2_passDays_8 : decode cX2_passDays 8 = .ok (.getfield 45, 3) := by decide +kernel
theorem dX2_passDays_11 : decode cX2_passDays 11 = .ok (.iconst 1, 1) := by decide +kernel
theorem dX2_passDays_12 : decode cX2_passDays 12 = .ok (.iadd, 1) := by decide +kernel
theorem dX2_passDays_13 : decode cX2_passDays 13 = .ok (.putfield 45, 3) := by decide +kernel
theorem dX2_passDays_16 : decode cX2_passDays 16 = .ok (.aload_n 0, 1) := by decide +kernel
theorem dX2_passDays_17 : decode cX2_passDays 17 = .ok (.dup, 1) := by decide +kernel
theorem dX2_passDays_18 : decode cX2_passDays 18 = .ok (.getfield 48, 3) := by decide +kernel
theorem dX2_passDays_21 : decode cX2_passDays 21 = .ok (.iconst 1, 1) := by decide +kernel
theorem dX2_passDays_22 : decode cX2_passDays 22 = .ok (.iadd, 1) := by decide +kernel
theorem dX2_passDays_23 : decode cX2_passDays 23 = .ok (.putfield 48, 3) := by decide +kernel
theorem dX2_passDays_26 : decode cX2_passDays 26 = .ok (.aload_n 0, 1) := by decide +kernel
theorem dX2_passDays_27 : decode cX2_passDays 27 = .ok (.getfield 48, 3) := by decide +kernel
theorem dX2_passDays_30 : decode cX2_passDays 30 = .ok (.aload_n 0, 1) := by decide +kernel
theorem dX2_passDays_31 : decode cX2_passDays 31 = .ok (.getfield 67, 3) := by decide +kernel
theorem dX2_passDays_34 : decode cX2_passDays 34 = .ok (.if_icmp .lt 7, 3) := by decide +kernel
theorem dX2_passDays_37 : decode cX2_passDays 37 = .ok (.aload_n 0, 1) := by decide +kernel
theorem dX2_passDays_38 : decode cX2_passDays 38 = .ok (.invokevirtual 88, 3) := by decide +kernel
theorem dX2_passDays_41 : decode cX2_passDays 41 = .ok (.iinc 2 (-1), 3) := by decide +kernel
theorem dX2_passDays_44 : decode cX2_passDays 44 = .ok (.goto (-42), 3) := by decide +kernel
theorem dX2_passDays_47 : decode cX2_passDays 47 = .ok (.return_, 1) := by decide +kernel
theorem dX2_passSeason_0 : decode cX2_passSeason 0 = .ok (.aload_n 0, 1) := by decide +kernel
theorem dX2_passSeason_1 : decode cX2_passSeason 1 = .ok (.dup, 1) := by decide +kernel
theorem dX2_passSeason_2 : decode cX2_passSeason 2 = .ok (.getfield 45, 3) := by decide +kernel
theorem dX2_passSeason_5 : decode cX2_passSeason 5 = .ok (.aload_n 0, 1) := by decide +kernel
theorem dX2_passSeason_6 : decode cX2_passSeason 6 = .ok (.getfield 67, 3) := by decide +kernel
theorem dX2_passSeason_9 : decode cX2_passSeason 9 = .ok (.aload_n 0, 1) := by decide +kernel
theorem dX2_passSeason_10 : decode cX2_passSeason 10 = .ok (.getfield 48, 3) := by decide +kernel
theorem dX2_passSeason_13 : decode cX2_passSeason 13 = .ok (.isub, 1) := by decide +kernel
theorem dX2_passSeason_14 : decode cX2_passSeason 14 = .ok (.iadd, 1) := by decide +kernel
theorem dX2_passSeason_15 : decode cX2_passSeason 15 = .ok (.putfield 45, 3) := by decide +kernel
theorem dX2_passSeason_18 : decode cX2_passSeason 18 = .ok (.aload_n 0, 1) := by decide +kernel
theorem dX2_passSeason_19 : decode cX2_passSeason 19 = .ok (.invokevirtual 88, 3) := by decide +kernel
theorem dX2_passSeason_22 : decode cX2_passSeason 22 = .ok (.return_, 1) := by decide +kernel
theorem dX2_passEquinox_0 : decode cX2_passEquinox 0 = .ok (.aload_n 0, 1) := by decide +kernel
theorem dX2_passEquinox_1 : decode cX2_passEquinox 1 = .ok (.iconst 0, 1) := by decide +kernel
theorem dX2_passEquinox_2 : decode cX2_passEquinox 2 = .ok (.putfield 48, 3) := by decide +kernel
theorem dX2_passEquinox_5 : decode cX2_passEquinox 5 = .ok (.aload_n 0, 1) := by decide +kernel
theorem dX2_passEquinox_6 : decode cX2_passEquinox 6 = .ok (.dup, 1) := by decide +kernel
theorem dX2_passEquinox_7 : decode cX2_passEquinox 7 = .ok (.getfield 51, 3) := by decide +kernel
theorem dX2_passEquinox_10 : decode cX2_passEquinox 10 = .ok (.iconst 1, 1) := by decide +kernel
theorem dX2_passEquinox_11 : decode cX2_passEquinox 11 = .ok (.iadd, 1) := by decide +kernel
theorem dX2_passEquinox_12 : decode cX2_passEquinox 12 = .ok (.putfield 51, 3) := by decide +kernel
theorem dX2_passEquinox_15 : decode cX2_passEquinox 15 = .ok (.iconst 0, 1) := by decide +kernel
theorem dX2_passEquinox_16 : decode cX2_passEquinox 16 = .ok (.istore_n 1, 1) := by decide +kernel
theorem dX2_passEquinox_17 : decode cX2_passEquinox 17 = .ok (.iload_n 1, 1) := by decide +kernel
theorem dX2_passEquinox_18 : decode cX2_passEquinox 18 = .ok (.aload_n 0, 1) := by decide +kernel
theorem dX2_passEquinox_19 : decode cX2_passEquinox 19 = .ok (.getfield 41, 3) := by decide +kernel
theorem dX2_passEquinox_22 : decode cX2_passEquinox 22 = .ok (.if_icmp .ge 97, 3) := by decide +kernel
theorem dX2_passEquinox_25 : decode cX2_passEquinox 25 = .ok (.aload_n 0, 1) := by decide +kernel
theorem dX2_passEquinox_26 : decode cX2_passEquinox 26 = .ok (.getfield 23, 3) := by decide +kernel
theorem dX2_passEquinox_29 : decode cX2_passEquinox 29 = .ok (.iload_n 1, 1) := by decide +kernel
theorem dX2_passEquinox_30 : decode cX2_passEquinox 30 = .ok (.invokevirtual 78, 3) := by decide +kernel
theorem dX2_passEquinox_33 : decode cX2_passEquinox 33 = .ok (.iconst 1, 1) := by decide +kernel
theorem dX2_passEquinox_34 : decode cX2_passEquinox 34 = .ok (.if_icmp .ne 15, 3) := by decide +kernel
theorem dX2_passEquinox_37 : decode cX2_passEquinox 37 = .ok (.aload_n 0, 1) := by decide +kernel
theorem dX2_passEquinox_38 : decode cX2_passEquinox 38 = .ok (.getfield 23, 3) := by decide +kernel
theorem dX2_passEquinox_41 : decode cX2_passEquinox 41 = .ok (.iload_n 1, 1) := by decide +kernel
theorem dX2_passEquinox_42 : decode cX2_passEquinox 42 = .ok (.iconst 0, 1) := by decide +kernel
theorem dX2_passEquinox_43 : decode cX2_passEquinox 43 = .ok (.invokevirtual 63, 3) := by decide +kernel
theorem dX2_passEquinox_46 : decode cX2_passEquinox 46 = .ok (.goto 67, 3) := by decide +kernel
theorem dX2_passEquinox_49 : decode cX2_passEquinox 49 = .ok (.aload_n 0, 1) := by decide +kernel
theorem dX2_passEquinox_50 : decode cX2_passEquinox 50 = .ok (.getfield 23, 3) := by decide +kernel
theorem dX2_passEquinox_53 : decode cX2_passEquinox 53 = .ok (.iload_n 1, 1) := by decide +kernel
theorem dX2_passEquinox_54 : decode cX2_passEquinox 54 = .ok (.invokevirtual 78, 3) := by decide +kernel
theorem dX2_passEquinox_57 : decode cX2_passEquinox 57 = .ok (.ifCond .ne 56, 3) := by decide +kernel
theorem dX2_passEquinox_60 : decode cX2_passEquinox 60 = .ok (.aload_n 0, 1) := by decide +kernel
theorem dX2_passEquinox_61 : decode cX2_passEquinox 61 = .ok (.iload_n 1, 1) := by decide +kernel
theorem dX2_passEquinox_62 : decode cX2_passEquinox 62 = .ok (.invokevirtual 82, 3) := by decide +kernel
theorem dX2_passEquinox_65 : decode cX2_passEquinox 65 = .ok (.ifCond .eq 48, 3) := by decide +kernel
theorem dX2_passEquinox_68 : decode cX2_passEquinox 68 = .ok (.aload_n 0, 1) := by decide +kernel
theorem dX2_passEquinox_69 : decode cX2_passEquinox 69 = .ok (.getfield 14, 3) := by decide +kernel
theorem dX2_passEquinox_72 : decode cX2_passEquinox 72 = .ok (.iload_n 1, 1) := by decide +kernel
theorem dX2_passEquinox_73 : decode cX2_passEquinox 73 = .ok (.aload_n 0, 1) := by decide +kernel
theorem dX2_passEquinox_74 : decode cX2_passEquinox 74 = .ok (.getfield 14, 3) := by decide +kernel
theorem dX2_passEquinox_77 : decode cX2_passEquinox 77 = .ok (.iload_n 1, 1) := by decide +kernel
theorem dX2_passEquinox_78 : decode cX2_passEquinox 78 = .ok (.invokevirtual 78, 3) := by decide +kernel
theorem dX2_passEquinox_81 : decode cX2_passEquinox 81 = .ok (.iconst 1, 1) := by decide +kernel
theorem dX2_passEquinox_82 : decode cX2_passEquinox 82 = .ok (.iadd, 1) := by decide +kernel
theorem dX2_passEquinox_83 : decode cX2_passEquinox 83 = .ok (.aload_n 0, 1) := by decide +kernel
theorem dX2_passEquinox_84 : decode cX2_passEquinox 84 = .ok (.getfield 41, 3) := by decide +kernel
theorem dX2_passEquinox_87 : decode cX2_passEquinox 87 = .ok (.iconst 1, 1) := by decide +kernel
theorem dX2_passEquinox_88 : decode cX2_passEquinox 88 = .ok (.isub, 1) := by decide +kernel
theorem dX2_passEquinox_89 : decode cX2_passEquinox 89 = .ok (.invokestatic 91, 3) := by decide +kernel
theorem dX2_passEquinox_92 : decode cX2_passEquinox 92 = .ok (.invokevirtual 63, 3) := by decide +kernel
theorem dX2_passEquinox_95 : decode cX2_passEquinox 95 = .ok (.aload_n 0, 1) := by decide +kernel
theorem dX2_passEquinox_96 : decode cX2_passEquinox 96 = .ok (.getfield 26, 3) := by decide +kernel
theorem dX2_passEquinox_99 : decode cX2_passEquinox 99 = .ok (.iload_n 1, 1) := by decide +kernel
theorem dX2_passEquinox_100 : decode cX2_passEquinox 100 = .ok (.aload_n 0, 1) := by decide +kernel
theorem dX2_passEquinox_101 : decode cX2_passEquinox 101 = .ok (.getfield 26, 3) := by decide +kernel
theorem dX2_passEquinox_104 : decode cX2_passEquinox 104 = .ok (.iload_n 1, 1) := by decide +kernel
theorem dX2_passEquinox_105 : decode cX2_passEquinox 105 = .ok (.invokevirtual 78, 3) := by decide +kernel
theorem dX2_passEquinox_108 : decode cX2_passEquinox 108 = .ok (.iconst 1, 1) := by decide +kernel
theorem dX2_passEquinox_109 : decode cX2_passEquinox 109 = .ok (.iadd, 1) := by decide +kernel
theorem dX2_passEquinox_110 : decode cX2_passEquinox 110 = .ok (.invokevirtual 63, 3) := by decide +kernel
theorem dX2_passEquinox_113 : decode cX2_passEquinox 113 = .ok (.iinc 1 1, 3) := by decide +kernel
theorem dX2_passEquinox_116 : decode cX2_passEquinox 116 = .ok (.goto (-99), 3) := by decide +kernel
theorem dX2_passEquinox_119 : decode cX2_passEquinox 119 = .ok (.return_, 1) := by decide +kernel
theorem dX2_landAfter_0 : decode cX2_landAfter 0 = .ok (.aload_n 0, 1) := by decide +kernel
theorem dX2_landAfter_1 : decode cX2_landAfter 1 = .ok (.iload_n 1, 1) := by decide +kernel
theorem dX2_landAfter_2 : decode cX2_landAfter 2 = .ok (.invokevirtual 82, 3) := by decide +kernel
theorem dX2_landAfter_5 : decode cX2_landAfter 5 = .ok (.ifCond .ne 6, 3) := by decide +kernel
theorem dX2_landAfter_8 : decode cX2_landAfter 8 = .ok (.bipush (-6), 2) := by decide +kernel
theorem dX2_landAfter_10 : decode cX2_landAfter 10 = .ok (.ireturn, 1) := by decide +kernel
theorem dX2_landAfter_11 : decode cX2_landAfter 11 = .ok (.iload_n 2, 1) := by decide +kernel
theorem dX2_landAfter_12 : decode cX2_landAfter 12 = .ok (.istore_n 3, 1) := by decide +kernel
theorem dX2_landAfter_13 : decode cX2_landAfter 13 = .ok (.aload_n 0, 1) := by decide +kernel
theorem dX2_landAfter_14 : decode cX2_landAfter 14 = .ok (.getfield 23, 3) := by decide +kernel
theorem dX2_landAfter_17 : decode cX2_landAfter 17 = .ok (.iload_n 1, 1) := by decide +kernel
theorem dX2_landAfter_18 : decode cX2_landAfter 18 = .ok (.invokevirtual 78, 3) := by decide +kernel
theorem dX2_landAfter_21 : decode cX2_landAfter 21 = .ok (.iconst 1, 1) := by decide +kernel
theorem dX2_landAfter_22 : decode cX2_landAfter 22 = .ok (.if_icmp .ne 14, 3) := by decide +kernel
theorem dX2_landAfter_25 : decode cX2_landAfter 25 = .ok (.iconst 0, 1) := by decide +kernel
theorem dX2_landAfter_26 : decode cX2_landAfter 26 = .ok (.iload_n 2, 1) := by decide +kernel
theorem dX2_landAfter_27 : decode cX2_landAfter 27 = .ok (.iconst 1, 1) := by decide +kernel
theorem dX2_landAfter_28 : decode cX2_landAfter 28 = .ok (.isub, 1) := by decide +kernel
theorem dX2_landAfter_29 : decode cX2_landAfter 29 = .ok (.invokestatic 95, 3) := by decide +kernel
theorem dX2_landAfter_32 : decode cX2_landAfter 32 = .ok (.istore_n 3, 1) := by decide +kernel
theorem dX2_landAfter_33 : decode cX2_landAfter 33 = .ok (.goto 17, 3) := by decide +kernel
theorem dX2_landAfter_36 : decode cX2_landAfter 36 = .ok (.aload_n 0, 1) := by decide +kernel
theorem dX2_landAfter_37 : decode cX2_landAfter 37 = .ok (.getfield 23, 3) := by decide +kernel
theorem dX2_landAfter_40 : decode cX2_landAfter 40 = .ok (.iload_n 1, 1) := by decide +kernel
theorem dX2_landAfter_41 : decode cX2_landAfter 41 = .ok (.invokevirtual 78, 3) := by decide +kernel
theorem dX2_landAfter_44 : decode cX2_landAfter 44 = .ok (.iconst 2, 1) := by decide +kernel
theorem dX2_landAfter_45 : decode cX2_landAfter 45 = .ok (.if_icmp .ne 5, 3) := by decide +kernel
theorem dX2_landAfter_48 : decode cX2_landAfter 48 = .ok (.iconst 0, 1) := by decide +kernel
theorem dX2_landAfter_49 : decode cX2_landAfter 49 = .ok (.istore_n 3, 1) := by decide +kernel
theorem dX2_landAfter_50 : decode cX2_landAfter 50 = .ok (.iload_n 1, 1) := by decide +kernel
theorem dX2_landAfter_51 : decode cX2_landAfter 51 = .ok (.iconst 1, 1) := by decide +kernel
theorem dX2_landAfter_52 : decode cX2_landAfter 52 = .ok (.iadd, 1) := by decide +kernel
theorem dX2_landAfter_53 : decode cX2_landAfter 53 = .ok (.aload_n 0, 1) := by decide +kernel
theorem dX2_landAfter_54 : decode cX2_landAfter 54 = .ok (.getfield 14, 3) := by decide +kernel
theorem dX2_landAfter_57 : decode cX2_landAfter 57 = .ok (.iload_n 1, 1) := by decide +kernel
theorem dX2_landAfter_58 : decode cX2_landAfter 58 = .ok (.invokevirtual 78, 3) := by decide +kernel
theorem dX2_landAfter_61 : decode cX2_landAfter 61 = .ok (.iload_n 3, 1) := by decide +kernel
theorem dX2_landAfter_62 : decode cX2_landAfter 62 = .ok (.iadd, 1) := by decide +kernel
theorem dX2_landAfter_63 : decode cX2_landAfter 63 = .ok (.aload_n 0, 1) := by decide +kernel
theorem dX2_landAfter_64 : decode cX2_landAfter 64 = .ok (.getfield 41, 3) := by decide +kernel
theorem dX2_landAfter_67 : decode cX2_landAfter 67 = .ok (.iconst 1, 1) := by decide +kernel
theorem dX2_landAfter_68 : decode cX2_landAfter 68 = .ok (.isub, 1) := by decide +kernel
theorem dX2_landAfter_69 : decode cX2_landAfter 69 = .ok (.invokestatic 91, 3) := by decide +kernel
theorem dX2_landAfter_72 : decode cX2_landAfter 72 = .ok (.iadd, 1) := by decide +kernel
theorem dX2_landAfter_73 : decode cX2_landAfter 73 = .ok (.aload_n 0, 1) := by decide +kernel
theorem dX2_landAfter_74 : decode cX2_landAfter 74 = .ok (.getfield 41, 3) := by decide +kernel
theorem dX2_landAfter_77 : decode cX2_landAfter 77 = .ok (.invokestatic 91, 3) := by decide +kernel
theorem dX2_landAfter_80 : decode cX2_landAfter 80 = .ok (.ireturn, 1) := by decide +kernel
theorem dX2_guestsAfter_0 : decode cX2_guestsAfter 0 = .ok (.iconst 0, 1) := by decide +kernel
theorem dX2_guestsAfter_1 : decode cX2_guestsAfter 1 = .ok (.istore_n 3, 1) := by decide +kernel
theorem dX2_guestsAfter_2 : decode cX2_guestsAfter 2 = .ok (.iconst 0, 1) := by decide +kernel
theorem dX2_guestsAfter_3 : decode cX2_guestsAfter 3 = .ok (.istore 4, 2) := by decide +kernel
theorem dX2_guestsAfter_5 : decode cX2_guestsAfter 5 = .ok (.iload 4, 2) := by decide +kernel
theorem dX2_guestsAfter_7 : decode cX2_guestsAfter 7 = .ok (.aload_n 0, 1) := by decide +kernel
theorem dX2_guestsAfter_8 : decode cX2_guestsAfter 8 = .ok (.getfield 41, 3) := by decide +kernel
theorem dX2_guestsAfter_11 : decode cX2_guestsAfter 11 = .ok (.if_icmp .ge 27, 3) := by decide +kernel
theorem dX2_guestsAfter_14 : decode cX2_guestsAfter 14 = .ok (.aload_n 0, 1) := by decide +kernel
theorem dX2_guestsAfter_15 : decode cX2_guestsAfter 15 = .ok (.iload 4, 2) := by decide +kernel
theorem dX2_guestsAfter_17 : decode cX2_guestsAfter 17 = .ok (.iload_n 2, 1) := by decide +kernel
theorem dX2_guestsAfter_18 : decode cX2_guestsAfter 18 = .ok (.invokevirtual 100, 3) := by decide +kernel
theorem dX2_guestsAfter_21 : decode cX2_guestsAfter 21 = .ok (.iload_n 1, 1) := by decide +kernel
theorem dX2_guestsAfter_22 : decode cX2_guestsAfter 22 = .ok (.if_icmp .ne 10, 3) := by decide +kernel
theorem dX2_guestsAfter_25 : decode cX2_guestsAfter 25 = .ok (.iload_n 3, 1) := by decide +kernel
theorem dX2_guestsAfter_26 : decode cX2_guestsAfter 26 = .ok (.iconst 1, 1) := by decide +kernel
theorem dX2_guestsAfter_27 : decode cX2_guestsAfter 27 = .ok (.iload 4, 2) := by decide +kernel
theorem dX2_guestsAfter_29 : decode cX2_guestsAfter 29 = .ok (.ishl, 1) := by decide +kernel
theorem dX2_guestsAfter_30 : decode cX2_guestsAfter 30 = .ok (.ior, 1) := by decide +kernel
theorem dX2_guestsAfter_31 : decode cX2_guestsAfter 31 = .ok (.istore_n 3, 1) := by decide +kernel
theorem dX2_guestsAfter_32 : decode cX2_guestsAfter 32 = .ok (.iinc 4 1, 3) := by decide +kernel
theorem dX2_guestsAfter_35 : decode cX2_guestsAfter 35 = .ok (.goto (-30), 3) := by decide +kernel
theorem dX2_guestsAfter_38 : decode cX2_guestsAfter 38 = .ok (.iload_n 3, 1) := by decide +kernel
theorem dX2_guestsAfter_39 : decode cX2_guestsAfter 39 = .ok (.ireturn, 1) := by decide +kernel
theorem dX2_shareALand_0 : decode cX2_shareALand 0 = .ok (.aload_n 0, 1) := by decide +kernel
theorem dX2_shareALand_1 : decode cX2_shareALand 1 = .ok (.iload_n 1, 1) := by decide +kernel
theorem dX2_shareALand_2 : decode cX2_shareALand 2 = .ok (.iload_n 3, 1) := by decide +kernel
theorem dX2_shareALand_3 : decode cX2_shareALand 3 = .ok (.invokevirtual 100, 3) := by decide +kernel
theorem dX2_shareALand_6 : decode cX2_shareALand 6 = .ok (.istore 4, 2) := by decide +kernel
theorem dX2_shareALand_8 : decode cX2_shareALand 8 = .ok (.iload 4, 2) := by decide +kernel
theorem dX2_shareALand_10 : decode cX2_shareALand 10 = .ok (.bipush (-6), 2) := by decide +kernel
theorem dX2_shareALand_12 : decode cX2_shareALand 12 = .ok (.if_icmp .eq 18, 3) := by decide +kernel
theorem dX2_shareALand_15 : decode cX2_shareALand 15 = .ok (.iload 4, 2) := by decide +kernel
theorem dX2_shareALand_17 : decode cX2_shareALand 17 = .ok (.aload_n 0, 1) := by decide +kernel
theorem dX2_shareALand_18 : decode cX2_shareALand 18 = .ok (.iload_n 2, 1) := by decide +kernel
theorem dX2_shareALand_19 : decode cX2_shareALand 19 = .ok (.iload_n 3, 1) := by decide +kernel
theorem dX2_shareALand_20 : decode cX2_shareALand 20 = .ok (.invokevirtual 100, 3) := by decide +kernel
theorem dX2_shareALand_23 : decode cX2_shareALand 23 = .ok (.if_icmp .ne 7, 3) := by decide +kernel
theorem dX2_shareALand_26 : decode cX2_shareALand 26 = .ok (.iconst 1, 1) := by decide +kernel
theorem dX2_shareALand_27 : decode cX2_shareALand 27 = .ok (.goto 4, 3) := by decide +kernel
theorem dX2_shareALand_30 : decode cX2_shareALand 30 = .ok (.iconst 0, 1) := by decide +kernel
theorem dX2_shareALand_31 : decode cX2_shareALand 31 = .ok (.ireturn, 1) := by decide +kernel
theorem dX2_equinoxesTill_0 : decode cX2_equinoxesTill 0 = .ok (.aload_n 0, 1) := by decide +kernel
theorem dX2_equinoxesTill_1 : decode cX2_equinoxesTill 1 = .ok (.getfield 48, 3) := by decide +kernel
theorem dX2_equinoxesTill_4 : decode cX2_equinoxesTill 4 = .ok (.iload_n 1, 1) := by decide +kernel
theorem dX2_equinoxesTill_5 : decode cX2_equinoxesTill 5 = .ok (.iadd, 1) := by decide +kernel
theorem dX2_equinoxesTill_6 : decode cX2_equinoxesTill 6 = .ok (.aload_n 0, 1) := by decide +kernel
theorem dX2_equinoxesTill_7 : decode cX2_equinoxesTill 7 = .ok (.getfield 67, 3) := by decide +kernel
theorem dX2_equinoxesTill_10 : decode cX2_equinoxesTill 10 = .ok (.invokestatic 103, 3) := by decide +kernel
theorem dX2_equinoxesTill_13 : decode cX2_equinoxesTill 13 = .ok (.ireturn, 1) := by decide +kernel
theorem dX2_firstDayAfter_0 : decode cX2_firstDayAfter 0 = .ok (.iload_n 1, 1) := by decide +kernel
theorem dX2_firstDayAfter_1 : decode cX2_firstDayAfter 1 = .ok (.ifCond .gt 7, 3) := by decide +kernel
theorem dX2_firstDayAfter_4 : decode cX2_firstDayAfter 4 = .ok (.iconst 0, 1) := by decide +kernel
theorem dX2_firstDayAfter_5 : decode cX2_firstDayAfter 5 = .ok (.goto 14, 3) := by decide +kernel
theorem dX2_firstDayAfter_8 : decode cX2_firstDayAfter 8 = .ok (.iload_n 1, 1) := by decide +kernel
theorem dX2_firstDayAfter_9 : decode cX2_firstDayAfter 9 = .ok (.aload_n 0, 1) := by decide +kernel
theorem dX2_firstDayAfter_10 : decode cX2_firstDayAfter 10 = .ok (.getfield 67, 3) := by decide +kernel
theorem dX2_firstDayAfter_13 : decode cX2_firstDayAfter 13 = .ok (.imul, 1) := by decide +kernel
theorem dX2_firstDayAfter_14 : decode cX2_firstDayAfter 14 = .ok (.aload_n 0, 1) := by decide +kernel
theorem dX2_firstDayAfter_15 : decode cX2_firstDayAfter 15 = .ok (.getfield 48, 3) := by decide +kernel
theorem dX2_firstDayAfter_18 : decode cX2_firstDayAfter 18 = .ok (.isub, 1) := by decide +kernel
theorem dX2_firstDayAfter_19 : decode cX2_firstDayAfter 19 = .ok (.ireturn, 1) := by decide +kernel
theorem dX2_daysLikeSeason_0 : decode cX2_daysLikeSeason 0 = .ok (.iconst 0, 1) := by decide +kernel
theorem dX2_daysLikeSeason_1 : decode cX2_daysLikeSeason 1 = .ok (.iload_n 2, 1) := by decide +kernel
theorem dX2_daysLikeSeason_2 : decode cX2_daysLikeSeason 2 = .ok (.aload_n 0, 1) := by decide +kernel
theorem dX2_daysLikeSeason_3 : decode cX2_daysLikeSeason 3 = .ok (.iconst 1, 1) := by decide +kernel
theorem dX2_daysLikeSeason_4 : decode cX2_daysLikeSeason 4 = .ok (.invokevirtual 106, 3) := by decide +kernel
theorem dX2_daysLikeSeason_7 : decode cX2_daysLikeSeason 7 = .ok (.isub, 1) := by decide +kernel
theorem dX2_daysLikeSeason_8 : decode cX2_daysLikeSeason 8 = .ok (.invokestatic 95, 3) := by decide +kernel
theorem dX2_daysLikeSeason_11 : decode cX2_daysLikeSeason 11 = .ok (.istore_n 3, 1) := by decide +kernel
theorem dX2_daysLikeSeason_12 : decode cX2_daysLikeSeason 12 = .ok (.aload_n 0, 1) := by decide +kernel
theorem dX2_daysLikeSeason_13 : decode cX2_daysLikeSeason 13 = .ok (.getfield 41, 3) := by decide +kernel
theorem dX2_daysLikeSeason_16 : decode cX2_daysLikeSeason 16 = .ok (.iconst 1, 1) := by decide +kernel
theorem dX2_daysLikeSeason_17 : decode cX2_daysLikeSeason 17 = .ok (.isub, 1) := by decide +kernel
theorem dX2_daysLikeSeason_18 : decode cX2_daysLikeSeason 18 = .ok (.aload_n 0, 1) := by decide +kernel
theorem dX2_daysLikeSeason_19 : decode cX2_daysLikeSeason 19 = .ok (.getfield 67, 3) := by decide +kernel
theorem dX2_daysLikeSeason_22 : decode cX2_daysLikeSeason 22 = .ok (.imul, 1) := by decide +kernel
theorem dX2_daysLikeSeason_23 : decode cX2_daysLikeSeason 23 = .ok (.istore 4, 2) := by decide +kernel
theorem dX2_daysLikeSeason_25 : decode cX2_daysLikeSeason 25 = .ok (.iload_n 3, 1) := by decide +kernel
theorem dX2_daysLikeSeason_26 : decode cX2_daysLikeSeason 26 = .ok (.iload 4, 2) := by decide +kernel
theorem dX2_daysLikeSeason_28 : decode cX2_daysLikeSeason 28 = .ok (.invokestatic 91, 3) := by decide +kernel
theorem dX2_daysLikeSeason_31 : decode cX2_daysLikeSeason 31 = .ok (.iload_n 1, 1) := by decide +kernel
theorem dX2_daysLikeSeason_32 : decode cX2_daysLikeSeason 32 = .ok (.iconst 1, 1) := by decide +kernel
theorem dX2_daysLikeSeason_33 : decode cX2_daysLikeSeason 33 = .ok (.isub, 1) := by decide +kernel
theorem dX2_daysLikeSeason_34 : decode cX2_daysLikeSeason 34 = .ok (.aload_n 0, 1) := by decide +kernel
theorem dX2_daysLikeSeason_35 : decode cX2_daysLikeSeason 35 = .ok (.getfield 67, 3) := by decide +kernel
theorem dX2_daysLikeSeason_38 : decode cX2_daysLikeSeason 38 = .ok (.imul, 1) := by decide +kernel
theorem dX2_daysLikeSeason_39 : decode cX2_daysLikeSeason 39 = .ok (.isub, 1) := by decide +kernel
theorem dX2_daysLikeSeason_40 : decode cX2_daysLikeSeason 40 = .ok (.istore 5, 2) := by decide +kernel
theorem dX2_daysLikeSeason_42 : decode cX2_daysLikeSeason 42 = .ok (.iload_n 3, 1) := by decide +kernel
theorem dX2_daysLikeSeason_43 : decode cX2_daysLikeSeason 43 = .ok (.iload 4, 2) := by decide +kernel
theorem dX2_daysLikeSeason_45 : decode cX2_daysLikeSeason 45 = .ok (.invokestatic 103, 3) := by decide +kernel
theorem dX2_daysLikeSeason_48 : decode cX2_daysLikeSeason 48 = .ok (.aload_n 0, 1) := by decide +kernel
theorem dX2_daysLikeSeason_49 : decode cX2_daysLikeSeason 49 = .ok (.getfield 67, 3) := by decide +kernel
theorem dX2_daysLikeSeason_52 : decode cX2_daysLikeSeason 52 = .ok (.imul, 1) := by decide +kernel
theorem dX2_daysLikeSeason_53 : decode cX2_daysLikeSeason 53 = .ok (.iconst 0, 1) := by decide +kernel
theorem dX2_daysLikeSeason_54 : decode cX2_daysLikeSeason 54 = .ok (.aload_n 0, 1) := by decide +kernel
theorem dX2_daysLikeSeason_55 : decode cX2_daysLikeSeason 55 = .ok (.getfield 67, 3) := by decide +kernel
theorem dX2_daysLikeSeason_58 : decode cX2_daysLikeSeason 58 = .ok (.iload 5, 2) := by decide +kernel
theorem dX2_daysLikeSeason_60 : decode cX2_daysLikeSeason 60 = .ok (.invokestatic 109, 3) := by decide +kernel
theorem dX2_daysLikeSeason_63 : decode cX2_daysLikeSeason 63 = .ok (.invokestatic 95, 3) := by decide +kernel
theorem dX2_daysLikeSeason_66 : decode cX2_daysLikeSeason 66 = .ok (.iadd, 1) := by decide +kernel
theorem dX2_daysLikeSeason_67 : decode cX2_daysLikeSeason 67 = .ok (.ireturn, 1) := by decide +kernel
theorem dX2_daysAway_0 : decode cX2_daysAway 0 = .ok (.aload_n 0, 1) := by decide +kernel
theorem dX2_daysAway_1 : decode cX2_daysAway 1 = .ok (.iload_n 3, 1) := by decide +kernel
theorem dX2_daysAway_2 : decode cX2_daysAway 2 = .ok (.invokevirtual 112, 3) := by decide +kernel
theorem dX2_daysAway_5 : decode cX2_daysAway 5 = .ok (.istore 4, 2) := by decide +kernel
theorem dX2_daysAway_7 : decode cX2_daysAway 7 = .ok (.iload 4, 2) := by decide +kernel
theorem dX2_daysAway_9 : decode cX2_daysAway 9 = .ok (.istore 5, 2) := by decide +kernel
theorem dX2_daysAway_11 : decode cX2_daysAway 11 = .ok (.iload 5, 2) := by decide +kernel
theorem dX2_daysAway_13 : decode cX2_daysAway 13 = .ok (.iload 4, 2) := by decide +kernel
theorem dX2_daysAway_15 : decode cX2_daysAway 15 = .ok (.aload_n 0, 1) := by decide +kernel
theorem dX2_daysAway_16 : decode cX2_daysAway 16 = .ok (.getfield 41, 3) := by decide +kernel
theorem dX2_daysAway_19 : decode cX2_daysAway 19 = .ok (.iadd, 1) := by decide +kernel
theorem dX2_daysAway_20 : decode cX2_daysAway 20 = .ok (.if_icmp .gt 39, 3) := by decide +kernel
theorem dX2_daysAway_23 : decode cX2_daysAway 23 = .ok (.aload_n 0, 1) := by decide +kernel
theorem dX2_daysAway_24 : decode cX2_daysAway 24 = .ok (.iload_n 1, 1) := by decide +kernel
theorem dX2_daysAway_25 : decode cX2_daysAway 25 = .ok (.iload 5, 2) := by decide +kernel
theorem dX2_daysAway_27 : decode cX2_daysAway 27 = .ok (.invokevirtual 100, 3) := by decide +kernel
theorem dX2_daysAway_30 : decode cX2_daysAway 30 = .ok (.iload_n 2, 1) := by decide +kernel
theorem dX2_daysAway_31 : decode cX2_daysAway 31 = .ok (.if_icmp .ne 22, 3) := by decide +kernel
theorem dX2_daysAway_34 : decode cX2_daysAway 34 = .ok (.iconst 0, 1) := by decide +kernel
theorem dX2_daysAway_35 : decode cX2_daysAway 35 = .ok (.sipush 9999, 3) := by decide +kernel
theorem dX2_daysAway_38 : decode cX2_daysAway 38 = .ok (.aload_n 0, 1) := by decide +kernel
theorem dX2_daysAway_39 : decode cX2_daysAway 39 = .ok (.iload 5, 2) := by decide +kernel
theorem dX2_daysAway_41 : decode cX2_daysAway 41 = .ok (.invokevirtual 106, 3) := by decide +kernel
theorem dX2_daysAway_44 : decode cX2_daysAway 44 = .ok (.iload_n 3, 1) := by decide +kernel
theorem dX2_daysAway_45 : decode cX2_daysAway 45 = .ok (.isub, 1) := by decide +kernel
theorem dX2_daysAway_46 : decode cX2_daysAway 46 = .ok (.invokestatic 109, 3) := by decide +kernel
theorem dX2_daysAway_49 : decode cX2_daysAway 49 = .ok (.invokestatic 95, 3) := by decide +kernel
theorem dX2_daysAway_52 : decode cX2_daysAway 52 = .ok (.ireturn, 1) := by decide +kernel
theorem dX2_daysAway_53 : decode cX2_daysAway 53 = .ok (.iinc 5 1, 3) := by decide +kernel
theorem dX2_daysAway_56 : decode cX2_daysAway 56 = .ok (.goto (-45), 3) := by decide +kernel
theorem dX2_daysAway_59 : decode cX2_daysAway 59 = .ok (.sipush 9999, 3) := by decide +kernel
theorem dX2_daysAway_62 : decode cX2_daysAway 62 = .ok (.ireturn, 1) := by decide +kernel
theorem dX2_firstWar_0 : decode cX2_firstWar 0 = .ok (.iconst 0, 1) := by decide +kernel
theorem dX2_firstWar_1 : decode cX2_firstWar 1 = .ok (.istore 4, 2) := by decide +kernel
theorem dX2_firstWar_3 : decode cX2_firstWar 3 = .ok (.iload 4, 2) := by decide +kernel
theorem dX2_firstWar_5 : decode cX2_firstWar 5 = .ok (.aload_n 0, 1) := by decide +kernel
theorem dX2_firstWar_6 : decode cX2_firstWar 6 = .ok (.getfield 41, 3) := by decide +kernel
theorem dX2_firstWar_9 : decode cX2_firstWar 9 = .ok (.if_icmp .gt 40, 3) := by decide +kernel
theorem dX2_firstWar_12 : decode cX2_firstWar 12 = .ok (.aload_n 0, 1) := by decide +kernel
theorem dX2_firstWar_13 : decode cX2_firstWar 13 = .ok (.iload 4, 2) := by decide +kernel
theorem dX2_firstWar_15 : decode cX2_firstWar 15 = .ok (.invokevirtual 106, 3) := by decide +kernel
theorem dX2_firstWar_18 : decode cX2_firstWar 18 = .ok (.istore 5, 2) := by decide +kernel
theorem dX2_firstWar_20 : decode cX2_firstWar 20 = .ok (.iload 5, 2) := by decide +kernel
theorem dX2_firstWar_22 : decode cX2_firstWar 22 = .ok (.sipush 9999, 3) := by decide +kernel
theorem dX2_firstWar_25 : decode cX2_firstWar 25 = .ok (.if_icmp .gt 18, 3) := by decide +kernel
theorem dX2_firstWar_28 : decode cX2_firstWar 28 = .ok (.aload_n 0, 1) := by decide +kernel
theorem dX2_firstWar_29 : decode cX2_firstWar 29 = .ok (.iload_n 1, 1) := by decide +kernel
theorem dX2_firstWar_30 : decode cX2_firstWar 30 = .ok (.iload_n 2, 1) := by decide +kernel
theorem dX2_firstWar_31 : decode cX2_firstWar 31 = .ok (.iload 5, 2) := by decide +kernel
theorem dX2_firstWar_33 : decode cX2_firstWar 33 = .ok (.invokevirtual 115, 3) := by decide +kernel
theorem dX2_firstWar_36 : decode cX2_firstWar 36 = .ok (.iload_n 3, 1) := by decide +kernel
theorem dX2_firstWar_37 : decode cX2_firstWar 37 = .ok (.if_icmp .lt 6, 3) := by decide +kernel
theorem dX2_firstWar_40 : decode cX2_firstWar 40 = .ok (.iload 5, 2) := by decide +kernel
theorem dX2_firstWar_42 : decode cX2_firstWar 42 = .ok (.ireturn, 1) := by decide +kernel
theorem dX2_firstWar_43 : decode cX2_firstWar 43 = .ok (.iinc 4 1, 3) := by decide +kernel
theorem dX2_firstWar_46 : decode cX2_firstWar 46 = .ok (.goto (-43), 3) := by decide +kernel
theorem dX2_firstWar_49 : decode cX2_firstWar 49 = .ok (.bipush (-6), 2) := by decide +kernel
theorem dX2_firstWar_51 : decode cX2_firstWar 51 = .ok (.ireturn, 1) := by decide +kernel
theorem dX2_fursAfter_0 : decode cX2_fursAfter 0 = .ok (.iconst 0, 1) := by decide +kernel
theorem dX2_fursAfter_1 : decode cX2_fursAfter 1 = .ok (.istore_n 2, 1) := by decide +kernel
theorem dX2_fursAfter_2 : decode cX2_fursAfter 2 = .ok (.iconst 0, 1) := by decide +kernel
theorem dX2_fursAfter_3 : decode cX2_fursAfter 3 = .ok (.istore_n 3, 1) := by decide +kernel
theorem dX2_fursAfter_4 : decode cX2_fursAfter 4 = .ok (.iload_n 3, 1) := by decide +kernel
theorem dX2_fursAfter_5 : decode cX2_fursAfter 5 = .ok (.aload_n 0, 1) := by decide +kernel
theorem dX2_fursAfter_6 : decode cX2_fursAfter 6 = .ok (.getfield 41, 3) := by decide +kernel
theorem dX2_fursAfter_9 : decode cX2_fursAfter 9 = .ok (.if_icmp .ge 33, 3) := by decide +kernel
theorem dX2_fursAfter_12 : decode cX2_fursAfter 12 = .ok (.aload_n 0, 1) := by decide +kernel
theorem dX2_fursAfter_13 : decode cX2_fursAfter 13 = .ok (.iload_n 3, 1) := by decide +kernel
theorem dX2_fursAfter_14 : decode cX2_fursAfter 14 = .ok (.invokevirtual 82, 3) := by decide +kernel
theorem dX2_fursAfter_17 : decode cX2_fursAfter 17 = .ok (.ifCond .eq 19, 3) := by decide +kernel
theorem dX2_fursAfter_20 : decode cX2_fursAfter 20 = .ok (.iload_n 2, 1) := by decide +kernel
theorem dX2_fursAfter_21 : decode cX2_fursAfter 21 = .ok (.aload_n 0, 1) := by decide +kernel
theorem dX2_fursAfter_22 : decode cX2_fursAfter 22 = .ok (.getfield 32, 3) := by decide +kernel
theorem dX2_fursAfter_25 : decode cX2_fursAfter 25 = .ok (.aload_n 0, 1) := by decide +kernel
theorem dX2_fursAfter_26 : decode cX2_fursAfter 26 = .ok (.iload_n 3, 1) := by decide +kernel
theorem dX2_fursAfter_27 : decode cX2_fursAfter 27 = .ok (.iload_n 1, 1) := by decide +kernel
theorem dX2_fursAfter_28 : decode cX2_fursAfter 28 = .ok (.invokevirtual 100, 3) := by decide +kernel
theorem dX2_fursAfter_31 : decode cX2_fursAfter 31 = .ok (.invokevirtual 78, 3) := by decide +kernel
theorem dX2_fursAfter_34 : decode cX2_fursAfter 34 = .ok (.iadd, 1) := by decide +kernel
theorem dX2_fursAfter_35 : decode cX2_fursAfter 35 = .ok (.istore_n 2, 1) := by decide +kernel
theorem dX2_fursAfter_36 : decode cX2_fursAfter 36 = .ok (.iinc 3 1, 3) := by decide +kernel
theorem dX2_fursAfter_39 : decode cX2_fursAfter 39 = .ok (.goto (-35), 3) := by decide +kernel
theorem dX2_fursAfter_42 : decode cX2_fursAfter 42 = .ok (.iload_n 2, 1) := by decide +kernel
theorem dX2_fursAfter_43 : decode cX2_fursAfter 43 = .ok (.ireturn, 1) := by decide +kernel
theorem dX2_ownNames_0 : decode cX2_ownNames 0 = .ok (.iconst 0, 1) := by decide +kernel
theorem dX2_ownNames_1 : decode cX2_ownNames 1 = .ok (.istore_n 1, 1) := by decide +kernel
theorem dX2_ownNames_2 : decode cX2_ownNames 2 = .ok (.iconst 0, 1) := by decide +kernel
theorem dX2_ownNames_3 : decode cX2_ownNames 3 = .ok (.istore_n 2, 1) := by decide +kernel
theorem dX2_ownNames_4 : decode cX2_ownNames 4 = .ok (.iload_n 2, 1) := by decide +kernel
theorem dX2_ownNames_5 : decode cX2_ownNames 5 = .ok (.aload_n 0, 1) := by decide +kernel
theorem dX2_ownNames_6 : decode cX2_ownNames 6 = .ok (.getfield 41, 3) := by decide +kernel
theorem dX2_ownNames_9 : decode cX2_ownNames 9 = .ok (.if_icmp .ge 32, 3) := by decide +kernel
theorem dX2_ownNames_12 : decode cX2_ownNames 12 = .ok (.aload_n 0, 1) := by decide +kernel
theorem dX2_ownNames_13 : decode cX2_ownNames 13 = .ok (.iload_n 2, 1) := by decide +kernel
theorem dX2_ownNames_14 : decode cX2_ownNames 14 = .ok (.invokevirtual 82, 3) := by decide +kernel
theorem dX2_ownNames_17 : decode cX2_ownNames 17 = .ok (.ifCond .eq 18, 3) := by decide +kernel
theorem dX2_ownNames_20 : decode cX2_ownNames 20 = .ok (.aload_n 0, 1) := by decide +kernel
theorem dX2_ownNames_21 : decode cX2_ownNames 21 = .ok (.getfield 20, 3) := by decide +kernel
theorem dX2_ownNames_24 : decode cX2_ownNames 24 = .ok (.iload_n 2, 1) := by decide +kernel
theorem dX2_ownNames_25 : decode cX2_ownNames 25 = .ok (.invokevirtual 78, 3) := by decide +kernel
theorem dX2_ownNames_28 : decode cX2_ownNames 28 = .ok (.iload_n 2, 1) := by decide +kernel
theorem dX2_ownNames_29 : decode cX2_ownNames 29 = .ok (.if_icmp .ne 6, 3) := by decide +kernel
theorem dX2_ownNames_32 : decode cX2_ownNames 32 = .ok (.iinc 1 1, 3) := by decide +kernel
theorem dX2_ownNames_35 : decode cX2_ownNames 35 = .ok (.iinc 2 1, 3) := by decide +kernel
theorem dX2_ownNames_38 : decode cX2_ownNames 38 = .ok (.goto (-34), 3) := by decide +kernel
theorem dX2_ownNames_41 : decode cX2_ownNames 41 = .ok (.iload_n 1, 1) := by decide +kernel
theorem dX2_ownNames_42 : decode cX2_ownNames 42 = .ok (.ireturn, 1) := by decide +kernel
theorem dX2_emptyLands_0 : decode cX2_emptyLands 0 = .ok (.iconst 0, 1) := by decide +kernel
theorem dX2_emptyLands_1 : decode cX2_emptyLands 1 = .ok (.istore_n 1, 1) := by decide +kernel
theorem dX2_emptyLands_2 : decode cX2_emptyLands 2 = .ok (.iconst 0, 1) := by decide +kernel
theorem dX2_emptyLands_3 : decode cX2_emptyLands 3 = .ok (.istore_n 2, 1) := by decide +kernel
theorem dX2_emptyLands_4 : decode cX2_emptyLands 4 = .ok (.iload_n 2, 1) := by decide +kernel
theorem dX2_emptyLands_5 : decode cX2_emptyLands 5 = .ok (.aload_n 0, 1) := by decide +kernel
theorem dX2_emptyLands_6 : decode cX2_emptyLands 6 = .ok (.getfield 41, 3) := by decide +kernel
theorem dX2_emptyLands_9 : decode cX2_emptyLands 9 = .ok (.if_icmp .ge 24, 3) := by decide +kernel
theorem dX2_emptyLands_12 : decode cX2_emptyLands 12 = .ok (.aload_n 0, 1) := by decide +kernel
theorem dX2_emptyLands_13 : decode cX2_emptyLands 13 = .ok (.iload_n 2, 1) := by decide +kernel
theorem dX2_emptyLands_14 : decode cX2_emptyLands 14 = .ok (.iconst 0, 1) := by decide +kernel
theorem dX2_emptyLands_15 : decode cX2_emptyLands 15 = .ok (.invokevirtual 119, 3) := by decide +kernel
theorem dX2_emptyLands_18 : decode cX2_emptyLands 18 = .ok (.ifCond .ne 9, 3) := by decide +kernel
theorem dX2_emptyLands_21 : decode cX2_emptyLands 21 = .ok (.iload_n 1, 1) := by decide +kernel
theorem dX2_emptyLands_22 : decode cX2_emptyLands 22 = .ok (.iconst 1, 1) := by decide +kernel
theorem dX2_emptyLands_23 : decode cX2_emptyLands 23 = .ok (.iload_n 2, 1) := by decide +kernel
theorem dX2_emptyLands_24 : decode cX2_emptyLands 24 = .ok (.ishl, 1) := by decide +kernel
theorem dX2_emptyLands_25 : decode cX2_emptyLands 25 = .ok (.ior, 1) := by decide +kernel
theorem dX2_emptyLands_26 : decode cX2_emptyLands 26 = .ok (.istore_n 1, 1) := by decide +kernel
theorem dX2_emptyLands_27 : decode cX2_emptyLands 27 = .ok (.iinc 2 1, 3) := by decide +kernel
theorem dX2_emptyLands_30 : decode cX2_emptyLands 30 = .ok (.goto (-26), 3) := by decide +kernel
theorem dX2_emptyLands_33 : decode cX2_emptyLands 33 = .ok (.iload_n 1, 1) := by decide +kernel
theorem dX2_emptyLands_34 : decode cX2_emptyLands 34 = .ok (.ireturn, 1) := by decide +kernel
theorem dX3_init_0 : decode cX3_init 0 = .ok (.aload_n 0, 1) := by decide +kernel
theorem dX3_init_1 : decode cX3_init 1 = .ok (.invokespecial 1, 3) := by decide +kernel
theorem dX3_init_4 : decode cX3_init 4 = .ok (.aload_n 0, 1) := by decide +kernel
theorem dX3_init_5 : decode cX3_init 5 = .ok (.iload_n 1, 1) := by decide +kernel
theorem dX3_init_6 : decode cX3_init 6 = .ok (.ifCond .ge 7, 3) := by decide +kernel
theorem dX3_init_9 : decode cX3_init 9 = .ok (.iconst 0, 1) := by decide +kernel
theorem dX3_init_10 : decode cX3_init 10 = .ok (.goto 4, 3) := by decide +kernel
theorem dX3_init_13 : decode cX3_init 13 = .ok (.iload_n 1, 1) := by decide +kernel
theorem dX3_init_14 : decode cX3_init 14 = .ok (.newarray .int, 2) := by decide +kernel
theorem dX3_init_16 : decode cX3_init 16 = .ok (.putfield 7, 3) := by decide +kernel
theorem dX3_init_19 : decode cX3_init 19 = .ok (.return_, 1) := by decide +kernel
theorem dX3_get_0 : decode cX3_get 0 = .ok (.iload_n 1, 1) := by decide +kernel
theorem dX3_get_1 : decode cX3_get 1 = .ok (.ifCond .lt 21, 3) := by decide +kernel
theorem dX3_get_4 : decode cX3_get 4 = .ok (.iload_n 1, 1) := by decide +kernel
theorem dX3_get_5 : decode cX3_get 5 = .ok (.aload_n 0, 1) := by decide +kernel
theorem dX3_get_6 : decode cX3_get 6 = .ok (.getfield 7, 3) := by decide +kernel
theorem dX3_get_9 : decode cX3_get 9 = .ok (.arraylength, 1) := by decide +kernel
theorem dX3_get_10 : decode cX3_get 10 = .ok (.if_icmp .ge 12, 3) := by decide +kernel
theorem dX3_get_13 : decode cX3_get 13 = .ok (.aload_n 0, 1) := by decide +kernel
theorem dX3_get_14 : decode cX3_get 14 = .ok (.getfield 7, 3) := by decide +kernel
theorem dX3_get_17 : decode cX3_get 17 = .ok (.iload_n 1, 1) := by decide +kernel
theorem dX3_get_18 : decode cX3_get 18 = .ok (.iaload, 1) := by decide +kernel
theorem dX3_get_19 : decode cX3_get 19 = .ok (.goto 4, 3) := by decide +kernel
theorem dX3_get_22 : decode cX3_get 22 = .ok (.iconst 0, 1) := by decide +kernel
theorem dX3_get_23 : decode cX3_get 23 = .ok (.ireturn, 1) := by decide +kernel
theorem dX3_put_0 : decode cX3_put 0 = .ok (.iload_n 1, 1) := by decide +kernel
theorem dX3_put_1 : decode cX3_put 1 = .ok (.ifCond .lt 19, 3) := by decide +kernel
theorem dX3_put_4 : decode cX3_put 4 = .ok (.iload_n 1, 1) := by decide +kernel
theorem dX3_put_5 : decode cX3_put 5 = .ok (.aload_n 0, 1) := by decide +kernel
theorem dX3_put_6 : decode cX3_put 6 = .ok (.getfield 7, 3) := by decide +kernel
theorem dX3_put_9 : decode cX3_put 9 = .ok (.arraylength, 1) := by decide +kernel
theorem dX3_put_10 : decode cX3_put 10 = .ok (.if_icmp .ge 10, 3) := by decide +kernel
theorem dX3_put_13 : decode cX3_put 13 = .ok (.aload_n 0, 1) := by decide +kernel
theorem dX3_put_14 : decode cX3_put 14 = .ok (.getfield 7, 3) := by decide +kernel
theorem dX3_put_17 : decode cX3_put 17 = .ok (.iload_n 1, 1) := by decide +kernel
theorem dX3_put_18 : decode cX3_put 18 = .ok (.iload_n 2, 1) := by decide +kernel
theorem dX3_put_19 : decode cX3_put 19 = .ok (.iastore, 1) := by decide +kernel
theorem dX3_put_20 : decode cX3_put 20 = .ok (.return_, 1) := by decide +kernel
theorem dX3_fill_0 : decode cX3_fill 0 = .ok (.iconst 0, 1) := by decide +kernel
theorem dX3_fill_1 : decode cX3_fill 1 = .ok (.istore_n 2, 1) := by decide +kernel
theorem dX3_fill_2 : decode cX3_fill 2 = .ok (.iload_n 2, 1) := by decide +kernel
theorem dX3_fill_3 : decode cX3_fill 3 = .ok (.aload_n 0, 1) := by decide +kernel
theorem dX3_fill_4 : decode cX3_fill 4 = .ok (.getfield 7, 3) := by decide +kernel
theorem dX3_fill_7 : decode cX3_fill 7 = .ok (.arraylength, 1) := by decide +kernel
theorem dX3_fill_8 : decode cX3_fill 8 = .ok (.if_icmp .ge 16, 3) := by decide +kernel
theorem dX3_fill_11 : decode cX3_fill 11 = .ok (.aload_n 0, 1) := by decide +kernel
theorem dX3_fill_12 : decode cX3_fill 12 = .ok (.getfield 7, 3) := by decide +kernel
theorem dX3_fill_15 : decode cX3_fill 15 = .ok (.iload_n 2, 1) := by decide +kernel
theorem dX3_fill_16 : decode cX3_fill 16 = .ok (.iload_n 1, 1) := by decide +kernel
theorem dX3_fill_17 : decode cX3_fill 17 = .ok (.iastore, 1) := by decide +kernel
theorem dX3_fill_18 : decode cX3_fill 18 = .ok (.iinc 2 1, 3) := by decide +kernel
theorem dX3_fill_21 : decode cX3_fill 21 = .ok (.goto (-19), 3) := by decide +kernel
theorem dX3_fill_24 : decode cX3_fill 24 = .ok (.return_, 1) := by decide +kernel
theorem dX3_takeOver_0 : decode cX3_takeOver 0 = .ok (.iconst 0, 1) := by decide +kernel
theorem dX3_takeOver_1 : decode cX3_takeOver 1 = .ok (.istore_n 2, 1) := by decide +kernel
theorem dX3_takeOver_2 : decode cX3_takeOver 2 = .ok (.iload_n 2, 1) := by decide +kernel
theorem dX3_takeOver_3 : decode cX3_takeOver 3 = .ok (.aload_n 0, 1) := by decide +kernel
theorem dX3_takeOver_4 : decode cX3_takeOver 4 = .ok (.getfield 7, 3) := by decide +kernel
theorem dX3_takeOver_7 : decode cX3_takeOver 7 = .ok (.arraylength, 1) := by decide +kernel
theorem dX3_takeOver_8 : decode cX3_takeOver 8 = .ok (.if_icmp .ge 20, 3) := by decide +kernel
theorem dX3_takeOver_11 : decode cX3_takeOver 11 = .ok (.aload_n 0, 1) := by decide +kernel
theorem dX3_takeOver_12 : decode cX3_takeOver 12 = .ok (.getfield 7, 3) := by decide +kernel
theorem dX3_takeOver_15 : decode cX3_takeOver 15 = .ok (.iload_n 2, 1) := by decide +kernel
theorem dX3_takeOver_16 : decode cX3_takeOver 16 = .ok (.aload_n 1, 1) := by decide +kernel
theorem dX3_takeOver_17 : decode cX3_takeOver 17 = .ok (.iload_n 2, 1) := by decide +kernel
theorem dX3_takeOver_18 : decode cX3_takeOver 18 = .ok (.invokevirtual 13, 3) := by decide +kernel
theorem dX3_takeOver_21 : decode cX3_takeOver 21 = .ok (.iastore, 1) := by decide +kernel
theorem dX3_takeOver_22 : decode cX3_takeOver 22 = .ok (.iinc 2 1, 3) := by decide +kernel
theorem dX3_takeOver_25 : decode cX3_takeOver 25 = .ok (.goto (-23), 3) := by decide +kernel
theorem dX3_takeOver_28 : decode cX3_takeOver 28 = .ok (.return_, 1) := by decide +kernel
theorem dX4_init_0 : decode cX4_init 0 = .ok (.aload_n 0, 1) := by decide +kernel
theorem dX4_init_1 : decode cX4_init 1 = .ok (.invokespecial 3, 3) := by decide +kernel
theorem dX4_init_4 : decode cX4_init 4 = .ok (.aload_n 0, 1) := by decide +kernel
theorem dX4_init_5 : decode cX4_init 5 = .ok (.new 9, 3) := by decide +kernel
theorem dX4_init_8 : decode cX4_init 8 = .ok (.dup, 1) := by decide +kernel
theorem dX4_init_9 : decode cX4_init 9 = .ok (.bipush 6, 2) := by decide +kernel
theorem dX4_init_11 : decode cX4_init 11 = .ok (.invokespecial 11, 3) := by decide +kernel
theorem dX4_init_14 : decode cX4_init 14 = .ok (.putfield 14, 3) := by decide +kernel
theorem dX4_init_17 : decode cX4_init 17 = .ok (.aload_n 0, 1) := by decide +kernel
theorem dX4_init_18 : decode cX4_init 18 = .ok (.new 9, 3) := by decide +kernel
theorem dX4_init_21 : decode cX4_init 21 = .ok (.dup, 1) := by decide +kernel
theorem dX4_init_22 : decode cX4_init 22 = .ok (.bipush 64, 2) := by decide +kernel
theorem dX4_init_24 : decode cX4_init 24 = .ok (.invokespecial 11, 3) := by decide +kernel
theorem dX4_init_27 : decode cX4_init 27 = .ok (.putfield 20, 3) := by decide +kernel
theorem dX4_init_30 : decode cX4_init 30 = .ok (.return_, 1) := by decide +kernel
theorem dX4_mostTwos_0 : decode cX4_mostTwos 0 = .ok (.iconst 0, 1) := by decide +kernel
theorem dX4_mostTwos_1 : decode cX4_mostTwos 1 = .ok (.istore_n 3, 1) := by decide +kernel
theorem dX4_mostTwos_2 : decode cX4_mostTwos 2 = .ok (.iload_n 3, 1) := by decide +kernel
theorem dX4_mostTwos_3 : decode cX4_mostTwos 3 = .ok (.aload_n 1, 1) := by decide +kernel
theorem dX4_mostTwos_4 : decode cX4_mostTwos 4 = .ok (.getfield 23, 3) := by decide +kernel
theorem dX4_mostTwos_7 : decode cX4_mostTwos 7 = .ok (.if_icmp .ge 23, 3) := by decide +kernel
theorem dX4_mostTwos_10 : decode cX4_mostTwos 10 = .ok (.aload_n 0, 1) := by decide +kernel
theorem dX4_mostTwos_11 : decode cX4_mostTwos 11 = .ok (.getfield 14, 3) := by decide +kernel
theorem dX4_mostTwos_14 : decode cX4_mostTwos 14 = .ok (.iload_n 3, 1) := by decide +kernel
theorem dX4_mostTwos_15 : decode cX4_mostTwos 15 = .ok (.aload_n 1, 1) := by decide +kernel
theorem dX4_mostTwos_16 : decode cX4_mostTwos 16 = .ok (.iload_n 3, 1) := by decide +kernel
theorem dX4_mostTwos_17 : decode cX4_mostTwos 17 = .ok (.iload_n 2, 1) := by decide +kernel
theorem dX4_mostTwos_18 : decode cX4_mostTwos 18 = .ok (.invokestatic 29, 3) := by decide +kernel
theorem dX4_mostTwos_21 : decode cX4_mostTwos 21 = .ok (.invokevirtual 33, 3) := by decide +kernel
theorem dX4_mostTwos_24 : decode cX4_mostTwos 24 = .ok (.iinc 3 1, 3) := by decide +kernel
theorem dX4_mostTwos_27 : decode cX4_mostTwos 27 = .ok (.goto (-25), 3) := by decide +kernel
theorem dX4_mostTwos_30 : decode cX4_mostTwos 30 = .ok (.iconst 1, 1) := by decide +kernel
theorem dX4_mostTwos_31 : decode cX4_mostTwos 31 = .ok (.aload_n 1, 1) := by decide +kernel
theorem dX4_mostTwos_32 : decode cX4_mostTwos 32 = .ok (.getfield 23, 3) := by decide +kernel
theorem dX4_mostTwos_35 : decode cX4_mostTwos 35 = .ok (.ishl, 1) := by decide +kernel
theorem dX4_mostTwos_36 : decode cX4_mostTwos 36 = .ok (.iconst 1, 1) := by decide +kernel
theorem dX4_mostTwos_37 : decode cX4_mostTwos 37 = .ok (.isub, 1) := by decide +kernel
theorem dX4_mostTwos_38 : decode cX4_mostTwos 38 = .ok (.istore_n 3, 1) := by decide +kernel
theorem dX4_mostTwos_39 : decode cX4_mostTwos 39 = .ok (.aload_n 0, 1) := by decide +kernel
theorem dX4_mostTwos_40 : decode cX4_mostTwos 40 = .ok (.getfield 20, 3) := by decide +kernel
theorem dX4_mostTwos_43 : decode cX4_mostTwos 43 = .ok (.iconst 0, 1) := by decide +kernel
theorem dX4_mostTwos_44 : decode cX4_mostTwos 44 = .ok (.iconst 0, 1) := by decide +kernel
theorem dX4_mostTwos_45 : decode cX4_mostTwos 45 = .ok (.invokevirtual 33, 3) := by decide +kernel
theorem dX4_mostTwos_48 : decode cX4_mostTwos 48 = .ok (.iconst 1, 1) := by decide +kernel
theorem dX4_mostTwos_49 : decode cX4_mostTwos 49 = .ok (.istore 4, 2) := by decide +kernel
theorem dX4_mostTwos_51 : decode cX4_mostTwos 51 = .ok (.iload 4, 2) := by decide +kernel
theorem dX4_mostTwos_53 : decode cX4_mostTwos 53 = .ok (.iload_n 3, 1) := by decide +kernel
theorem dX4_mostTwos_54 : decode cX4_mostTwos 54 = .ok (.if_icmp .gt 24, 3) := by decide +kernel
theorem dX4_mostTwos_57 : decode cX4_mostTwos 57 = .ok (.aload_n 0, 1) := by decide +kernel
theorem dX4_mostTwos_58 : decode cX4_mostTwos 58 = .ok (.getfield 20, 3) := by decide +kernel
theorem dX4_mostTwos_61 : decode cX4_mostTwos 61 = .ok (.iload 4, 2) := by decide +kernel
theorem dX4_mostTwos_63 : decode cX4_mostTwos 63 = .ok (.aload_n 0, 1) := by decide +kernel
theorem dX4_mostTwos_64 : decode cX4_mostTwos 64 = .ok (.iload 4, 2) := by decide +kernel
theorem dX4_mostTwos_66 : decode cX4_mostTwos 66 = .ok (.invokevirtual 37, 3) := by decide +kernel
theorem dX4_mostTwos_69 : decode cX4_mostTwos 69 = .ok (.invokevirtual 33, 3) := by decide +kernel
theorem dX4_mostTwos_72 : decode cX4_mostTwos 72 = .ok (.iinc 4 1, 3) := by decide +kernel
theorem dX4_mostTwos_75 : decode cX4_mostTwos 75 = .ok (.goto (-24), 3) := by decide +kernel
theorem dX4_mostTwos_78 : decode cX4_mostTwos 78 = .ok (.aload_n 0, 1) := by decide +kernel
theorem dX4_mostTwos_79 : decode cX4_mostTwos 79 = .ok (.getfield 20, 3) := by decide +kernel
theorem dX4_mostTwos_82 : decode cX4_mostTwos 82 = .ok (.iload_n 3, 1) := by decide +kernel
theorem dX4_mostTwos_83 : decode cX4_mostTwos 83 = .ok (.invokevirtual 41, 3) := by decide +kernel
theorem dX4_mostTwos_86 : decode cX4_mostTwos 86 = .ok (.ireturn, 1) := by decide +kernel
theorem dX4_bestOf_0 : decode cX4_bestOf 0 = .ok (.iload_n 1, 1) := by decide +kernel
theorem dX4_bestOf_1 : decode cX4_bestOf 1 = .ok (.invokestatic 44, 3) := by decide +kernel
theorem dX4_bestOf_4 : decode cX4_bestOf 4 = .ok (.istore_n 2, 1) := by decide +kernel
theorem dX4_bestOf_5 : decode cX4_bestOf 5 = .ok (.iload_n 1, 1) := by decide +kernel
theorem dX4_bestOf_6 : decode cX4_bestOf 6 = .ok (.iconst 1, 1) := by decide +kernel
theorem dX4_bestOf_7 : decode cX4_bestOf 7 = .ok (.iload_n 2, 1) := by decide +kernel
theorem dX4_bestOf_8 : decode cX4_bestOf 8 = .ok (.ishl, 1) := by decide +kernel
theorem dX4_bestOf_9 : decode cX4_bestOf 9 = .ok (.iconst (-1), 1) := by decide +kernel
theorem dX4_bestOf_10 : decode cX4_bestOf 10 = .ok (.ixor, 1) := by decide +kernel
theorem dX4_bestOf_11 : decode cX4_bestOf 11 = .ok (.iand, 1) := by decide +kernel
theorem dX4_bestOf_12 : decode cX4_bestOf 12 = .ok (.istore_n 3, 1) := by decide +kernel
theorem dX4_bestOf_13 : decode cX4_bestOf 13 = .ok (.aload_n 0, 1) := by decide +kernel
theorem dX4_bestOf_14 : decode cX4_bestOf 14 = .ok (.getfield 20, 3) := by decide +kernel
theorem dX4_bestOf_17 : decode cX4_bestOf 17 = .ok (.iload_n 3, 1) := by decide +kernel
theorem dX4_bestOf_18 : decode cX4_bestOf 18 = .ok (.invokevirtual 41, 3) := by decide +kernel
theorem dX4_bestOf_21 : decode cX4_bestOf 21 = .ok (.istore 4, 2) := by decide +kernel
theorem dX4_bestOf_23 : decode cX4_bestOf 23 = .ok (.iload_n 2, 1) := by decide +kernel
theorem dX4_bestOf_24 : decode cX4_bestOf 24 = .ok (.iconst 1, 1) := by decide +kernel
theorem dX4_bestOf_25 : decode cX4_bestOf 25 = .ok (.iadd, 1) := by decide +kernel
theorem dX4_bestOf_26 : decode cX4_bestOf 26 = .ok (.istore 5, 2) := by decide +kernel
theorem dX4_bestOf_28 : decode cX4_bestOf 28 = .ok (.iload 5, 2) := by decide +kernel
theorem dX4_bestOf_30 : decode cX4_bestOf 30 = .ok (.bipush 6, 2) := by decide +kernel
theorem dX4_bestOf_32 : decode cX4_bestOf 32 = .ok (.if_icmp .ge 51, 3) := by decide +kernel
theorem dX4_bestOf_35 : decode cX4_bestOf 35 = .ok (.iload_n 3, 1) := by decide +kernel
theorem dX4_bestOf_36 : decode cX4_bestOf 36 = .ok (.aload_n 0, 1) := by decide +kernel
theorem dX4_bestOf_37 : decode cX4_bestOf 37 = .ok (.getfield 14, 3) := by decide +kernel
theorem dX4_bestOf_40 : decode cX4_bestOf 40 = .ok (.iload_n 2, 1) := by decide +kernel
theorem dX4_bestOf_41 : decode cX4_bestOf 41 = .ok (.invokevirtual 41, 3) := by decide +kernel
theorem dX4_bestOf_44 : decode cX4_bestOf 44 = .ok (.iand, 1) := by decide +kernel
theorem dX4_bestOf_45 : decode cX4_bestOf 45 = .ok (.iconst 1, 1) := by decide +kernel
theorem dX4_bestOf_46 : decode cX4_bestOf 46 = .ok (.iload 5, 2) := by decide +kernel
theorem dX4_bestOf_48 : decode cX4_bestOf 48 = .ok (.ishl, 1) := by decide +kernel
theorem dX4_bestOf_49 : decode cX4_bestOf 49 = .ok (.iand, 1) := by decide +kernel
theorem dX4_bestOf_50 : decode cX4_bestOf 50 = .ok (.ifCond .eq 27, 3) := by decide +kernel
theorem dX4_bestOf_53 : decode cX4_bestOf 53 = .ok (.iload 4, 2) := by decide +kernel
theorem dX4_bestOf_55 : decode cX4_bestOf 55 = .ok (.iconst 1, 1) := by decide +kernel
theorem dX4_bestOf_56 : decode cX4_bestOf 56 = .ok (.aload_n 0, 1) := by decide +kernel
theorem dX4_bestOf_57 : decode cX4_bestOf 57 = .ok (.getfield 20, 3) := by decide +kernel
theorem dX4_bestOf_60 : decode cX4_bestOf 60 = .ok (.iload_n 3, 1) := by decide +kernel
theorem dX4_bestOf_61 : decode cX4_bestOf 61 = .ok (.iconst 1, 1) := by decide +kernel
theorem dX4_bestOf_62 : decode cX4_bestOf 62 = .ok (.iload 5, 2) := by decide +kernel
theorem dX4_bestOf_64 : decode cX4_bestOf 64 = .ok (.ishl, 1) := by decide +kernel
theorem dX4_bestOf_65 : decode cX4_bestOf 65 = .ok (.iconst (-1), 1) := by decide +kernel
theorem dX4_bestOf_66 : decode cX4_bestOf 66 = .ok (.ixor, 1) := by decide +kernel
theorem dX4_bestOf_67 : decode cX4_bestOf 67 = .ok (.iand, 1) := by decide +kernel
theorem dX4_bestOf_68 : decode cX4_bestOf 68 = .ok (.invokevirtual 41, 3) := by decide +kernel
theorem dX4_bestOf_71 : decode cX4_bestOf 71 = .ok (.iadd, 1) := by decide +kernel
theorem dX4_bestOf_72 : decode cX4_bestOf 72 = .ok (.invokestatic 49, 3) := by decide +kernel
theorem dX4_bestOf_75 : decode cX4_bestOf 75 = .ok (.istore 4, 2) := by decide +kernel
theorem dX4_bestOf_77 : decode cX4_bestOf 77 = .ok (.iinc 5 1, 3) := by decide +kernel
theorem dX4_bestOf_80 : decode cX4_bestOf 80 = .ok (.goto (-52), 3) := by decide +kernel
theorem dX4_bestOf_83 : decode cX4_bestOf 83 = .ok (.iload 4, 2) := by decide +kernel
theorem dX4_bestOf_85 : decode cX4_bestOf 85 = .ok (.ireturn, 1) := by decide +kernel
theorem dX4_matesOf_0 : decode cX4_matesOf 0 = .ok (.iconst 0, 1) := by decide +kernel
theorem dX4_matesOf_1 : decode cX4_matesOf 1 = .ok (.istore_n 3, 1) := by decide +kernel
theorem dX4_matesOf_2 : decode cX4_matesOf 2 = .ok (.iconst 0, 1) := by decide +kernel
theorem dX4_matesOf_3 : decode cX4_matesOf 3 = .ok (.istore 4, 2) := by decide +kernel
theorem dX4_matesOf_5 : decode cX4_matesOf 5 = .ok (.iload 4, 2) := by decide +kernel
theorem dX4_matesOf_7 : decode cX4_matesOf 7 = .ok (.aload_n 0, 1) := by decide +kernel
theorem dX4_matesOf_8 : decode cX4_matesOf 8 = .ok (.getfield 23, 3) := by decide +kernel
theorem dX4_matesOf_11 : decode cX4_matesOf 11 = .ok (.if_icmp .ge 50, 3) := by decide +kernel
theorem dX4_matesOf_14 : decode cX4_matesOf 14 = .ok (.iload 4, 2) := by decide +kernel
theorem dX4_matesOf_16 : decode cX4_matesOf 16 = .ok (.iload_n 1, 1) := by decide +kernel
theorem dX4_matesOf_17 : decode cX4_matesOf 17 = .ok (.if_icmp .eq 38, 3) := by decide +kernel
theorem dX4_matesOf_20 : decode cX4_matesOf 20 = .ok (.aload_n 0, 1) := by decide +kernel
theorem dX4_matesOf_21 : decode cX4_matesOf 21 = .ok (.iload_n 1, 1) := by decide +kernel
theorem dX4_matesOf_22 : decode cX4_matesOf 22 = .ok (.invokestatic 55, 3) := by decide +kernel
theorem dX4_matesOf_25 : decode cX4_matesOf 25 = .ok (.ifCond .eq 30, 3) := by decide +kernel
theorem dX4_matesOf_28 : decode cX4_matesOf 28 = .ok (.aload_n 0, 1) := by decide +kernel
theorem dX4_matesOf_29 : decode cX4_matesOf 29 = .ok (.iload 4, 2) := by decide +kernel
theorem dX4_matesOf_31 : decode cX4_matesOf 31 = .ok (.invokestatic 55, 3) := by decide +kernel
theorem dX4_matesOf_34 : decode cX4_matesOf 34 = .ok (.ifCond .eq 21, 3) := by decide +kernel
theorem dX4_matesOf_37 : decode cX4_matesOf 37 = .ok (.aload_n 0, 1) := by decide +kernel
theorem dX4_matesOf_38 : decode cX4_matesOf 38 = .ok (.iload_n 1, 1) := by decide +kernel
theorem dX4_matesOf_39 : decode cX4_matesOf 39 = .ok (.iload 4, 2) := by decide +kernel
theorem dX4_matesOf_41 : decode cX4_matesOf 41 = .ok (.iload_n 2, 1) := by decide +kernel
theorem dX4_matesOf_42 : decode cX4_matesOf 42 = .ok (.invokestatic 59, 3) := by decide +kernel
theorem dX4_matesOf_45 : decode cX4_matesOf 45 = .ok (.ifCond .eq 10, 3) := by decide +kernel
theorem dX4_matesOf_48 : decode cX4_matesOf 48 = .ok (.iload_n 3, 1) := by decide +kernel
theorem dX4_matesOf_49 : decode cX4_matesOf 49 = .ok (.iconst 1, 1) := by decide +kernel
theorem dX4_matesOf_50 : decode cX4_matesOf 50 = .ok (.iload 4, 2) := by decide +kernel
theorem dX4_matesOf_52 : decode cX4_matesOf 52 = .ok (.ishl, 1) := by decide +kernel
theorem dX4_matesOf_53 : decode cX4_matesOf 53 = .ok (.ior, 1) := by decide +kernel
theorem dX4_matesOf_54 : decode cX4_matesOf 54 = .ok (.istore_n 3, 1) := by decide +kernel
theorem dX4_matesOf_55 : decode cX4_matesOf 55 = .ok (.iinc 4 1, 3) := by decide +kernel
theorem dX4_matesOf_58 : decode cX4_matesOf 58 = .ok (.goto (-53), 3) := by decide +kernel
theorem dX4_matesOf_61 : decode cX4_matesOf 61 = .ok (.iload_n 3, 1) := by decide +kernel
theorem dX4_matesOf_62 : decode cX4_matesOf 62 = .ok (.ireturn, 1) := by decide +kernel
theorem dX4_isFree_0 : decode cX4_isFree 0 = .ok (.aload_n 0, 1) := by decide +kernel
theorem dX4_isFree_1 : decode cX4_isFree 1 = .ok (.iload_n 1, 1) := by decide +kernel
theorem dX4_isFree_2 : decode cX4_isFree 2 = .ok (.invokevirtual 63, 3) := by decide +kernel
theorem dX4_isFree_5 : decode cX4_isFree 5 = .ok (.ifCond .eq 19, 3) := by decide +kernel
theorem dX4_isFree_8 : decode cX4_isFree 8 = .ok (.aload_n 0, 1) := by decide +kernel
theorem dX4_isFree_9 : decode cX4_isFree 9 = .ok (.getfield 67, 3) := by decide +kernel
theorem dX4_isFree_12 : decode cX4_isFree 12 = .ok (.iload_n 1, 1) := by decide +kernel
theorem dX4_isFree_13 : decode cX4_isFree 13 = .ok (.invokevirtual 41, 3) := by decide +kernel
theorem dX4_isFree_16 : decode cX4_isFree 16 = .ok (.iconst 2, 1) := by decide +kernel
theorem dX4_isFree_17 : decode cX4_isFree 17 = .ok (.if_icmp .eq 7, 3) := by decide +kernel
theorem dX4_isFree_20 : decode cX4_isFree 20 = .ok (.iconst 1, 1) := by decide +kernel
theorem dX4_isFree_21 : decode cX4_isFree 21 = .ok (.goto 4, 3) := by decide +kernel
theorem dX4_isFree_24 : decode cX4_isFree 24 = .ok (.iconst 0, 1) := by decide +kernel
theorem dX4_isFree_25 : decode cX4_isFree 25 = .ok (.ireturn, 1) := by decide +kernel
theorem dX4_areApart_0 : decode cX4_areApart 0 = .ok (.iconst 0, 1) := by decide +kernel
theorem dX4_areApart_1 : decode cX4_areApart 1 = .ok (.istore 4, 2) := by decide +kernel
theorem dX4_areApart_3 : decode cX4_areApart 3 = .ok (.iload 4, 2) := by decide +kernel
theorem dX4_areApart_5 : decode cX4_areApart 5 = .ok (.iload_n 3, 1) := by decide +kernel
theorem dX4_areApart_6 : decode cX4_areApart 6 = .ok (.if_icmp .ge 22, 3) := by decide +kernel
theorem dX4_areApart_9 : decode cX4_areApart 9 = .ok (.aload_n 0, 1) := by decide +kernel
theorem dX4_areApart_10 : decode cX4_areApart 10 = .ok (.iload_n 1, 1) := by decide +kernel
theorem dX4_areApart_11 : decode cX4_areApart 11 = .ok (.iload_n 2, 1) := by decide +kernel
theorem dX4_areApart_12 : decode cX4_areApart 12 = .ok (.iload 4, 2) := by decide +kernel
theorem dX4_areApart_14 : decode cX4_areApart 14 = .ok (.invokevirtual 70, 3) := by decide +kernel
theorem dX4_areApart_17 : decode cX4_areApart 17 = .ok (.ifCond .eq 5, 3) := by decide +kernel
theorem dX4_areApart_20 : decode cX4_areApart 20 = .ok (.iconst 0, 1) := by decide +kernel
theorem dX4_areApart_21 : decode cX4_areApart 21 = .ok (.ireturn, 1) := by decide +kernel
theorem dX4_areApart_22 : decode cX4_areApart 22 = .ok (.iinc 4 1, 3) := by decide +kernel
theorem dX4_areApart_25 : decode cX4_areApart 25 = .ok (.goto (-22), 3) := by decide +kernel
theorem dX4_areApart_28 : decode cX4_areApart 28 = .ok (.iconst 1, 1) := by decide +kernel
theorem dX4_areApart_29 : decode cX4_areApart 29 = .ok (.ireturn, 1) := by decide +kernel
theorem dX5_init_0 : decode cX5_init 0 = .ok (.aload_n 0, 1) := by decide +kernel
theorem dX5_init_1 : decode cX5_init 1 = .ok (.invokespecial 3, 3) := by decide +kernel
theorem dX5_init_4 : decode cX5_init 4 = .ok (.return_, 1) := by decide +kernel
theorem dX5_canBe_0 : decode cX5_canBe 0 = .ok (.aload_n 2, 1) := by decide +kernel
theorem dX5_canBe_1 : decode cX5_canBe 1 = .ok (.aload_n 1, 1) := by decide +kernel
theorem dX5_canBe_2 : decode cX5_canBe 2 = .ok (.invokevirtual 9, 3) := by decide +kernel
theorem dX5_canBe_5 : decode cX5_canBe 5 = .ok (.aload_n 2, 1) := by decide +kernel
theorem dX5_canBe_6 : decode cX5_canBe 6 = .ok (.getfield 15, 3) := by decide +kernel
theorem dX5_canBe_9 : decode cX5_canBe 9 = .ok (.iconst 0, 1) := by decide +kernel
theorem dX5_canBe_10 : decode cX5_canBe 10 = .ok (.invokevirtual 19, 3) := by decide +kernel
theorem dX5_canBe_13 : decode cX5_canBe 13 = .ok (.aload_n 0, 1) := by decide +kernel
theorem dX5_canBe_14 : decode cX5_canBe 14 = .ok (.iconst 0, 1) := by decide +kernel
theorem dX5_canBe_15 : decode cX5_canBe 15 = .ok (.putfield 25, 3) := by decide +kernel
theorem dX5_canBe_18 : decode cX5_canBe 18 = .ok (.aload_n 0, 1) := by decide +kernel
theorem dX5_canBe_19 : decode cX5_canBe 19 = .ok (.iconst 0, 1) := by decide +kernel
theorem dX5_canBe_20 : decode cX5_canBe 20 = .ok (.putfield 31, 3) := by decide +kernel
theorem dX5_canBe_23 : decode cX5_canBe 23 = .ok (.iconst 0, 1) := by decide +kernel
theorem dX5_canBe_24 : decode cX5_canBe 24 = .ok (.istore 4, 2) := by decide +kernel
theorem dX5_canBe_26 : decode cX5_canBe 26 = .ok (.iload 4, 2) := by decide +kernel
theorem dX5_canBe_28 : decode cX5_canBe 28 = .ok (.aload_n 3, 1) := by decide +kernel
theorem dX5_canBe_29 : decode cX5_canBe 29 = .ok (.getfield 34, 3) := by decide +kernel
theorem dX5_canBe_32 : decode cX5_canBe 32 = .ok (.if_icmp .ge 88, 3) := by decide +kernel
theorem dX5_canBe_35 : decode cX5_canBe 35 = .ok (.aload_n 0, 1) := by decide +kernel
theorem dX5_canBe_36 : decode cX5_canBe 36 = .ok (.getfield 31, 3) := by decide +kernel
theorem dX5_canBe_39 : decode cX5_canBe 39 = .ok (.ifCond .ne 81, 3) := by decide +kernel
theorem dX5_canBe_42 : decode cX5_canBe 42 = .ok (.aload_n 3, 1) := by decide +kernel
theorem dX5_canBe_43 : decode cX5_canBe 43 = .ok (.getfield 39, 3) := by decide +kernel
theorem dX5_canBe_46 : decode cX5_canBe 46 = .ok (.iload 4, 2) := by decide +kernel
theorem dX5_canBe_48 : decode cX5_canBe 48 = .ok (.invokevirtual 42, 3) := by decide +kernel
theorem dX5_canBe_51 : decode cX5_canBe 51 = .ok (.istore 5, 2) := by decide +kernel
theorem dX5_canBe_53 : decode cX5_canBe 53 = .ok (.iload 5, 2) := by decide +kernel
theorem dX5_canBe_55 : decode cX5_canBe 55 = .ok (.invokestatic 46, 3) := by decide +kernel
theorem dX5_canBe_58 : decode cX5_canBe 58 = .ok (.ifCond .eq 15, 3) := by decide +kernel
theorem dX5_canBe_61 : decode cX5_canBe 61 = .ok (.aload_n 2, 1) := by decide +kernel
theorem dX5_canBe_62 : decode cX5_canBe 62 = .ok (.iload 5, 2) := by decide +kernel
theorem dX5_canBe_64 : decode cX5_canBe 64 = .ok (.invokestatic 50, 3) := by decide +kernel
theorem dX5_canBe_67 : decode cX5_canBe 67 = .ok (.iinc 4 1, 3) := by decide +kernel
theorem dX5_canBe_70 : decode cX5_canBe 70 = .ok (.goto 30, 3) := by decide +kernel
theorem dX5_canBe_73 : decode cX5_canBe 73 = .ok (.aload_n 0, 1) := by decide +kernel
theorem dX5_canBe_74 : decode cX5_canBe 74 = .ok (.aload_n 2, 1) := by decide +kernel
theorem dX5_canBe_75 : decode cX5_canBe 75 = .ok (.iload 5, 2) := by decide +kernel
theorem dX5_canBe_77 : decode cX5_canBe 77 = .ok (.bipush 65, 2) := by decide +kernel
theorem dX5_canBe_79 : decode cX5_canBe 79 = .ok (.isub, 1) := by decide +kernel
theorem dX5_canBe_80 : decode cX5_canBe 80 = .ok (.aload_n 3, 1) := by decide +kernel
theorem dX5_canBe_81 : decode cX5_canBe 81 = .ok (.getfield 39, 3) := by decide +kernel
theorem dX5_canBe_84 : decode cX5_canBe 84 = .ok (.iload 4, 2) := by decide +kernel
theorem dX5_canBe_86 : decode cX5_canBe 86 = .ok (.iconst 1, 1) := by decide +kernel
theorem dX5_canBe_87 : decode cX5_canBe 87 = .ok (.iadd, 1) := by decide +kernel
theorem dX5_canBe_88 : decode cX5_canBe 88 = .ok (.invokevirtual 42, 3) := by decide +kernel
theorem dX5_canBe_91 : decode cX5_canBe 91 = .ok (.invokestatic 54, 3) := by decide +kernel
theorem dX5_canBe_94 : decode cX5_canBe 94 = .ok (.putfield 31, 3) := by decide +kernel
theorem dX5_canBe_97 : decode cX5_canBe 97 = .ok (.iinc 4 2, 3) := by decide +kernel
theorem dX5_canBe_100 : decode cX5_canBe 100 = .ok (.aload_n 0, 1) := by decide +kernel
theorem dX5_canBe_101 : decode cX5_canBe 101 = .ok (.getfield 31, 3) := by decide +kernel
theorem dX5_canBe_104 : decode cX5_canBe 104 = .ok (.ifCond .ne 13, 3) := by decide +kernel
theorem dX5_canBe_107 : decode cX5_canBe 107 = .ok (.aload_n 0, 1) := by decide +kernel
theorem dX5_canBe_108 : decode cX5_canBe 108 = .ok (.dup, 1) := by decide +kernel
theorem dX5_canBe_109 : decode cX5_canBe 109 = .ok (.getfield 25, 3) := by decide +kernel
theorem dX5_canBe_112 : decode cX5_canBe 112 = .ok (.iconst 1, 1) := by decide +kernel
theorem dX5_canBe_113 : decode cX5_canBe 113 = .ok (.iadd, 1) := by decide +kernel
theorem dX5_canBe_114 : decode cX5_canBe 114 = .ok (.putfield 25, 3) := by decide +kernel
theorem dX5_canBe_117 : decode cX5_canBe 117 = .ok (.goto (-91), 3) := by decide +kernel
theorem dX5_canBe_120 : decode cX5_canBe 120 = .ok (.aload_n 0, 1) := by decide +kernel
theorem dX5_canBe_121 : decode cX5_canBe 121 = .ok (.getfield 31, 3) := by decide +kernel
theorem dX5_canBe_124 : decode cX5_canBe 124 = .ok (.ifCond .ne 7, 3) := by decide +kernel
theorem dX5_canBe_127 : decode cX5_canBe 127 = .ok (.iconst 1, 1) := by decide +kernel
theorem dX5_canBe_128 : decode cX5_canBe 128 = .ok (.goto 4, 3) := by decide +kernel
theorem dX5_canBe_131 : decode cX5_canBe 131 = .ok (.iconst 0, 1) := by decide +kernel
theorem dX5_canBe_132 : decode cX5_canBe 132 = .ok (.ireturn, 1) := by decide +kernel
theorem dX5_passTime_0 : decode cX5_passTime 0 = .ok (.iload_n 1, 1) := by decide +kernel
theorem dX5_passTime_1 : decode cX5_passTime 1 = .ok (.lookupswitch 44 #[(46, 27), (58, 35)], 27) := by decide +kernel
theorem dX5_passTime_28 : decode cX5_passTime 28 = .ok (.aload_n 0, 1) := by decide +kernel
theorem dX5_passTime_29 : decode cX5_passTime 29 = .ok (.iconst 1, 1) := by decide +kernel
theorem dX5_passTime_30 : decode cX5_passTime 30 = .ok (.invokevirtual 58, 3) := by decide +kernel
theorem dX5_passTime_33 : decode cX5_passTime 33 = .ok (.goto 16, 3) := by decide +kernel
theorem dX5_passTime_36 : decode cX5_passTime 36 = .ok (.aload_n 0, 1) := by decide +kernel
theorem dX5_passTime_37 : decode cX5_passTime 37 = .ok (.bipush 10, 2) := by decide +kernel
theorem dX5_passTime_39 : decode cX5_passTime 39 = .ok (.invokevirtual 58, 3) := by decide +kernel
theorem dX5_passTime_42 : decode cX5_passTime 42 = .ok (.goto 7, 3) := by decide +kernel
theorem dX5_passTime_45 : decode cX5_passTime 45 = .ok (.aload_n 0, 1) := by decide +kernel
theorem dX5_passTime_46 : decode cX5_passTime 46 = .ok (.invokevirtual 61, 3) := by decide +kernel
theorem dX5_passTime_49 : decode cX5_passTime 49 = .ok (.return_, 1) := by decide +kernel
theorem dX5_befall_0 : decode cX5_befall 0 = .ok (.iload_n 2, 1) := by decide +kernel
theorem dX5_befall_1 : decode cX5_befall 1 = .ok (.lookupswitch 55 #[(100, 35), (109, 48), (115, 41)], 35) := by decide +kernel
theorem dX5_befall_36 : decode cX5_befall 36 = .ok (.aload_n 0, 1) := by decide +kernel
theorem dX5_befall_37 : decode cX5_befall 37 = .ok (.iload_n 1, 1) := by decide +kernel
theorem dX5_befall_38 : decode cX5_befall 38 = .ok (.invokevirtual 64, 3) := by decide +kernel
theorem dX5_befall_41 : decode cX5_befall 41 = .ok (.ireturn, 1) := by decide +kernel
theorem dX5_befall_42 : decode cX5_befall 42 = .ok (.aload_n 0, 1) := by decide +kernel
theorem dX5_befall_43 : decode cX5_befall 43 = .ok (.iload_n 1, 1) := by decide +kernel
theorem dX5_befall_44 : decode cX5_befall 44 = .ok (.iconst 1, 1) := by decide +kernel
theorem dX5_befall_45 : decode cX5_befall 45 = .ok (.invokevirtual 67, 3) := by decide +kernel
theorem dX5_befall_48 : decode cX5_befall 48 = .ok (.ireturn, 1) := by decide +kernel
theorem dX5_befall_49 : decode cX5_befall 49 = .ok (.aload_n 0, 1) := by decide +kernel
theorem dX5_befall_50 : decode cX5_befall 50 = .ok (.iload_n 1, 1) := by decide +kernel
theorem dX5_befall_51 : decode cX5_befall 51 = .ok (.iconst 2, 1) := by decide +kernel
theorem dX5_befall_52 : decode cX5_befall 52 = .ok (.invokevirtual 67, 3) := by decide +kernel
theorem dX5_befall_55 : decode cX5_befall 55 = .ok (.ireturn, 1) := by decide +kernel
theorem dX5_befall_56 : decode cX5_befall 56 = .ok (.aload_n 0, 1) := by decide +kernel
theorem dX5_befall_57 : decode cX5_befall 57 = .ok (.iload_n 1, 1) := by decide +kernel
theorem dX5_befall_58 : decode cX5_befall 58 = .ok (.iload_n 2, 1) := by decide +kernel
theorem dX5_befall_59 : decode cX5_befall 59 = .ok (.bipush 65, 2) := by decide +kernel
theorem dX5_befall_61 : decode cX5_befall 61 = .ok (.isub, 1) := by decide +kernel
theorem dX5_befall_62 : decode cX5_befall 62 = .ok (.invokevirtual 71, 3) := by decide +kernel
theorem dX5_befall_65 : decode cX5_befall 65 = .ok (.ireturn, 1) := by decide +kernel
theorem dX6_init_0 : decode cX6_init 0 = .ok (.aload_n 0, 1) := by decide +kernel
theorem dX6_init_1 : decode cX6_init 1 = .ok (.invokespecial 1, 3) := by decide +kernel
theorem dX6_init_4 : decode cX6_init 4 = .ok (.aload_n 0, 1) := by decide +kernel
theorem dX6_init_5 : decode cX6_init 5 = .ok (.new 7, 3) := by decide +kernel
theorem dX6_init_8 : decode cX6_init 8 = .ok (.dup, 1) := by decide +kernel
theorem dX6_init_9 : decode cX6_init 9 = .ok (.invokespecial 9, 3) := by decide +kernel
theorem dX6_init_12 : decode cX6_init 12 = .ok (.putfield 10, 3) := by decide +kernel
theorem dX6_init_15 : decode cX6_init 15 = .ok (.aload_n 0, 1) := by decide +kernel
theorem dX6_init_16 : decode cX6_init 16 = .ok (.new 7, 3) := by decide +kernel
theorem dX6_init_19 : decode cX6_init 19 = .ok (.dup, 1) := by decide +kernel
theorem dX6_init_20 : decode cX6_init 20 = .ok (.invokespecial 9, 3) := by decide +kernel
theorem dX6_init_23 : decode cX6_init 23 = .ok (.putfield 16, 3) := by decide +kernel
theorem dX6_init_26 : decode cX6_init 26 = .ok (.aload_n 0, 1) := by decide +kernel
theorem dX6_init_27 : decode cX6_init 27 = .ok (.new 7, 3) := by decide +kernel
theorem dX6_init_30 : decode cX6_init 30 = .ok (.dup, 1) := by decide +kernel
theorem dX6_init_31 : decode cX6_init 31 = .ok (.invokespecial 9, 3) := by decide +kernel
theorem dX6_init_34 : decode cX6_init 34 = .ok (.putfield 19, 3) := by decide +kernel
theorem dX6_init_37 : decode cX6_init 37 = .ok (.aload_n 0, 1) := by decide +kernel
theorem dX6_init_38 : decode cX6_init 38 = .ok (.new 7, 3) := by decide +kernel
theorem dX6_init_41 : decode cX6_init 41 = .ok (.dup, 1) := by decide +kernel
theorem dX6_init_42 : decode cX6_init 42 = .ok (.invokespecial 9, 3) := by decide +kernel
theorem dX6_init_45 : decode cX6_init 45 = .ok (.putfield 22, 3) := by decide +kernel
theorem dX6_init_48 : decode cX6_init 48 = .ok (.aload_n 0, 1) := by decide +kernel
theorem dX6_init_49 : decode cX6_init 49 = .ok (.new 25, 3) := by decide +kernel
theorem dX6_init_52 : decode cX6_init 52 = .ok (.dup, 1) := by decide +kernel
theorem dX6_init_53 : decode cX6_init 53 = .ok (.iconst 2, 1) := by decide +kernel
theorem dX6_init_54 : decode cX6_init 54 = .ok (.invokespecial 27, 3) := by decide +kernel
theorem dX6_init_57 : decode cX6_init 57 = .ok (.putfield 30, 3) := by decide +kernel
theorem dX6_init_60 : decode cX6_init 60 = .ok (.aload_n 0, 1) := by decide +kernel
theorem dX6_init_61 : decode cX6_init 61 = .ok (.new 34, 3) := by decide +kernel
theorem dX6_init_64 : decode cX6_init 64 = .ok (.dup, 1) := by decide +kernel
theorem dX6_init_65 : decode cX6_init 65 = .ok (.invokespecial 36, 3) := by decide +kernel
theorem dX6_init_68 : decode cX6_init 68 = .ok (.putfield 37, 3) := by decide +kernel
theorem dX6_init_71 : decode cX6_init 71 = .ok (.aload_n 0, 1) := by decide +kernel
theorem dX6_init_72 : decode cX6_init 72 = .ok (.new 41, 3) := by decide +kernel
theorem dX6_init_75 : decode cX6_init 75 = .ok (.dup, 1) := by decide +kernel
theorem dX6_init_76 : decode cX6_init 76 = .ok (.invokespecial 43, 3) := by decide +kernel
theorem dX6_init_79 : decode cX6_init 79 = .ok (.putfield 44, 3) := by decide +kernel
theorem dX6_init_82 : decode cX6_init 82 = .ok (.aload_n 0, 1) := by decide +kernel
theorem dX6_init_83 : decode cX6_init 83 = .ok (.new 48, 3) := by decide +kernel
theorem dX6_init_86 : decode cX6_init 86 = .ok (.dup, 1) := by decide +kernel
theorem dX6_init_87 : decode cX6_init 87 = .ok (.invokespecial 50, 3) := by decide +kernel
theorem dX6_init_90 : decode cX6_init 90 = .ok (.putfield 51, 3) := by decide +kernel
theorem dX6_init_93 : decode cX6_init 93 = .ok (.aload_n 0, 1) := by decide +kernel
theorem dX6_init_94 : decode cX6_init 94 = .ok (.new 55, 3) := by decide +kernel
theorem dX6_init_97 : decode cX6_init 97 = .ok (.dup, 1) := by decide +kernel
theorem dX6_init_98 : decode cX6_init 98 = .ok (.invokespecial 57, 3) := by decide +kernel
theorem dX6_init_101 : decode cX6_init 101 = .ok (.putfield 58, 3) := by decide +kernel
theorem dX6_init_104 : decode cX6_init 104 = .ok (.aload_n 0, 1) := by decide +kernel
theorem dX6_init_105 : decode cX6_init 105 = .ok (.getfield 10, 3) := by decide +kernel
theorem dX6_init_108 : decode cX6_init 108 = .ok (.bipush 90, 2) := by decide +kernel
theorem dX6_init_110 : decode cX6_init 110 = .ok (.putfield 62, 3) := by decide +kernel
theorem dX6_init_113 : decode cX6_init 113 = .ok (.aload_n 0, 1) := by decide +kernel
theorem dX6_init_114 : decode cX6_init 114 = .ok (.getfield 10, 3) := by decide +kernel
theorem dX6_init_117 : decode cX6_init 117 = .ok (.iconst 4, 1) := by decide +kernel
theorem dX6_init_118 : decode cX6_init 118 = .ok (.invokevirtual 66, 3) := by decide +kernel
theorem dX6_init_121 : decode cX6_init 121 = .ok (.return_, 1) := by decide +kernel
theorem dX6_lands_0 : decode cX6_lands 0 = .ok (.iload_n 1, 1) := by decide +kernel
theorem dX6_lands_1 : decode cX6_lands 1 = .ok (.iconst 3, 1) := by decide +kernel
theorem dX6_lands_2 : decode cX6_lands 2 = .ok (.bipush 6, 2) := by decide +kernel
theorem dX6_lands_4 : decode cX6_lands 4 = .ok (.invokestatic 69, 3) := by decide +kernel
theorem dX6_lands_7 : decode cX6_lands 7 = .ok (.ifCond .ne 6, 3) := by decide +kernel
theorem dX6_lands_10 : decode cX6_lands 10 = .ok (.bipush (-2), 2) := by decide +kernel
theorem dX6_lands_12 : decode cX6_lands 12 = .ok (.ireturn, 1) := by decide +kernel
theorem dX6_lands_13 : decode cX6_lands 13 = .ok (.aload_n 0, 1) := by decide +kernel
theorem dX6_lands_14 : decode cX6_lands 14 = .ok (.getfield 10, 3) := by decide +kernel
theorem dX6_lands_17 : decode cX6_lands 17 = .ok (.getfield 73, 3) := by decide +kernel
theorem dX6_lands_20 : decode cX6_lands 20 = .ok (.istore_n 2, 1) := by decide +kernel
theorem dX6_lands_21 : decode cX6_lands 21 = .ok (.aload_n 0, 1) := by decide +kernel
theorem dX6_lands_22 : decode cX6_lands 22 = .ok (.getfield 10, 3) := by decide +kernel
theorem dX6_lands_25 : decode cX6_lands 25 = .ok (.iload_n 1, 1) := by decide +kernel
theorem dX6_lands_26 : decode cX6_lands 26 = .ok (.invokevirtual 66, 3) := by decide +kernel
theorem dX6_lands_29 : decode cX6_lands 29 = .ok (.iload_n 2, 1) := by decide +kernel
theorem dX6_lands_30 : decode cX6_lands 30 = .ok (.ireturn, 1) := by decide +kernel
theorem dX6_season_0 : decode cX6_season 0 = .ok (.iload_n 1, 1) := by decide +kernel
theorem dX6_season_1 : decode cX6_season 1 = .ok (.iconst 1, 1) := by decide +kernel
theorem dX6_season_2 : decode cX6_season 2 = .ok (.bipush 99, 2) := by decide +kernel
theorem dX6_season_4 : decode cX6_season 4 = .ok (.invokestatic 69, 3) := by decide +kernel
theorem dX6_season_7 : decode cX6_season 7 = .ok (.ifCond .ne 6, 3) := by decide +kernel
theorem dX6_season_10 : decode cX6_season 10 = .ok (.bipush (-2), 2) := by decide +kernel
theorem dX6_season_12 : decode cX6_season 12 = .ok (.ireturn, 1) := by decide +kernel
theorem dX6_season_13 : decode cX6_season 13 = .ok (.aload_n 0, 1) := by decide +kernel
theorem dX6_season_14 : decode cX6_season 14 = .ok (.getfield 10, 3) := by decide +kernel
theorem dX6_season_17 : decode cX6_season 17 = .ok (.getfield 76, 3) := by decide +kernel
theorem dX6_season_20 : decode cX6_season 20 = .ok (.ifCond .eq 6, 3) := by decide +kernel
theorem dX6_season_23 : decode cX6_season 23 = .ok (.bipush (-3), 2) := by decide +kernel
theorem dX6_season_25 : decode cX6_season 25 = .ok (.ireturn, 1) := by decide +kernel
theorem dX6_season_26 : decode cX6_season 26 = .ok (.aload_n 0, 1) := by decide +kernel
theorem dX6_season_27 : decode cX6_season 27 = .ok (.getfield 10, 3) := by decide +kernel
theorem dX6_season_30 : decode cX6_season 30 = .ok (.getfield 62, 3) := by decide +kernel
theorem dX6_season_33 : decode cX6_season 33 = .ok (.istore_n 2, 1) := by decide +kernel
theorem dX6_season_34 : decode cX6_season 34 = .ok (.aload_n 0, 1) := by decide +kernel
theorem dX6_season_35 : decode cX6_season 35 = .ok (.getfield 10, 3) := by decide +kernel
theorem dX6_season_38 : decode cX6_season 38 = .ok (.iload_n 1, 1) := by decide +kernel
theorem dX6_season_39 : decode cX6_season 39 = .ok (.putfield 62, 3) := by decide +kernel
theorem dX6_season_42 : decode cX6_season 42 = .ok (.iload_n 2, 1) := by decide +kernel
theorem dX6_season_43 : decode cX6_season 43 = .ok (.ireturn, 1) := by decide +kernel
theorem dX6_set_0 : decode cX6_set 0 = .ok (.aload_n 0, 1) := by decide +kernel
theorem dX6_set_1 : decode cX6_set 1 = .ok (.getfield 10, 3) := by decide +kernel
theorem dX6_set_4 : decode cX6_set 4 = .ok (.iload_n 1, 1) := by decide +kernel
theorem dX6_set_5 : decode cX6_set 5 = .ok (.invokevirtual 79, 3) := by decide +kernel
theorem dX6_set_8 : decode cX6_set 8 = .ok (.ifCond .ne 5, 3) := by decide +kernel
theorem dX6_set_11 : decode cX6_set 11 = .ok (.iconst (-1), 1) := by decide +kernel
theorem dX6_set_12 : decode cX6_set 12 = .ok (.ireturn, 1) := by decide +kernel
theorem dX6_set_13 : decode cX6_set 13 = .ok (.iload_n 2, 1) := by decide +kernel
theorem dX6_set_14 : decode cX6_set 14 = .ok (.iconst 0, 1) := by decide +kernel
theorem dX6_set_15 : decode cX6_set 15 = .ok (.iconst 1, 1) := by decide +kernel
theorem dX6_set_16 : decode cX6_set 16 = .ok (.invokestatic 69, 3) := by decide +kernel
theorem dX6_set_19 : decode cX6_set 19 = .ok (.ifCond .eq 21, 3) := by decide +kernel
theorem dX6_set_22 : decode cX6_set 22 = .ok (.iload_n 3, 1) := by decide +kernel
theorem dX6_set_23 : decode cX6_set 23 = .ok (.iconst 0, 1) := by decide +kernel
theorem dX6_set_24 : decode cX6_set 24 = .ok (.iload_n 2, 1) := by decide +kernel
theorem dX6_set_25 : decode cX6_set 25 = .ok (.ifCond .ne 8, 3) := by decide +kernel
theorem dX6_set_28 : decode cX6_set 28 = .ok (.bipush 9, 2) := by decide +kernel
theorem dX6_set_30 : decode cX6_set 30 = .ok (.goto 4, 3) := by decide +kernel
theorem dX6_set_33 : decode cX6_set 33 = .ok (.iconst 1, 1) := by decide +kernel
theorem dX6_set_34 : decode cX6_set 34 = .ok (.invokestatic 69, 3) := by decide +kernel
theorem dX6_set_37 : decode cX6_set 37 = .ok (.ifCond .ne 6, 3) := by decide +kernel
theorem dX6_set_40 : decode cX6_set 40 = .ok (.bipush (-2), 2) := by decide +kernel
theorem dX6_set_42 : decode cX6_set 42 = .ok (.ireturn, 1) := by decide +kernel
theorem dX6_set_43 : decode cX6_set 43 = .ok (.iload_n 2, 1) := by decide +kernel
theorem dX6_set_44 : decode cX6_set 44 = .ok (.ifCond .ne 13, 3) := by decide +kernel
theorem dX6_set_47 : decode cX6_set 47 = .ok (.aload_n 0, 1) := by decide +kernel
theorem dX6_set_48 : decode cX6_set 48 = .ok (.getfield 10, 3) := by decide +kernel
theorem dX6_set_51 : decode cX6_set 51 = .ok (.getfield 83, 3) := by decide +kernel
theorem dX6_set_54 : decode cX6_set 54 = .ok (.goto 10, 3) := by decide +kernel
theorem dX6_set_57 : decode cX6_set 57 = .ok (.aload_n 0, 1) := by decide +kernel
theorem dX6_set_58 : decode cX6_set 58 = .ok (.getfield 10, 3) := by decide +kernel
theorem dX6_set_61 : decode cX6_set 61 = .ok (.getfield 86, 3) := by decide +kernel
theorem dX6_set_64 : decode cX6_set 64 = .ok (.astore 4, 2) := by decide +kernel
theorem dX6_set_66 : decode cX6_set 66 = .ok (.aload 4, 2) := by decide +kernel
theorem dX6_set_68 : decode cX6_set 68 = .ok (.iload_n 1, 1) := by decide +kernel
theorem dX6_set_69 : decode cX6_set 69 = .ok (.invokevirtual 89, 3) := by decide +kernel
theorem dX6_set_72 : decode cX6_set 72 = .ok (.istore 5, 2) := by decide +kernel
theorem dX6_set_74 : decode cX6_set 74 = .ok (.aload 4, 2) := by decide +kernel
theorem dX6_set_76 : decode cX6_set 76 = .ok (.iload_n 1, 1) := by decide +kernel
theorem dX6_set_77 : decode cX6_set 77 = .ok (.iload_n 3, 1) := by decide +kernel
theorem dX6_set_78 : decode cX6_set 78 = .ok (.invokevirtual 93, 3) := by decide +kernel
theorem dX6_set_81 : decode cX6_set 81 = .ok (.iload 5, 2) := by decide +kernel
theorem dX6_set_83 : decode cX6_set 83 = .ok (.ireturn, 1) := by decide +kernel
theorem dX6_say_0 : decode cX6_say 0 = .ok (.iload_n 1, 1) := by decide +kernel
theorem dX6_say_1 : decode cX6_say 1 = .ok (.bipush 33, 2) := by decide +kernel
theorem dX6_say_3 : decode cX6_say 3 = .ok (.bipush 126, 2) := by decide +kernel
theorem dX6_say_5 : decode cX6_say 5 = .ok (.invokestatic 69, 3) := by decide +kernel
theorem dX6_say_8 : decode cX6_say 8 = .ok (.ifCond .ne 6, 3) := by decide +kernel
theorem dX6_say_11 : decode cX6_say 11 = .ok (.bipush (-2), 2) := by decide +kernel
theorem dX6_say_13 : decode cX6_say 13 = .ok (.ireturn, 1) := by decide +kernel
theorem dX6_say_14 : decode cX6_say 14 = .ok (.aload_n 0, 1) := by decide +kernel
theorem dX6_say_15 : decode cX6_say 15 = .ok (.getfield 37, 3) := by decide +kernel
theorem dX6_say_18 : decode cX6_say 18 = .ok (.getfield 97, 3) := by decide +kernel
theorem dX6_say_21 : decode cX6_say 21 = .ok (.bipush 60, 2) := by decide +kernel
theorem dX6_say_23 : decode cX6_say 23 = .ok (.if_icmp .lt 6, 3) := by decide +kernel
theorem dX6_say_26 : decode cX6_say 26 = .ok (.bipush (-4), 2) := by decide +kernel
theorem dX6_say_28 : decode cX6_say 28 = .ok (.ireturn, 1) := by decide +kernel
theorem dX6_say_29 : decode cX6_say 29 = .ok (.aload_n 0, 1) := by decide +kernel
theorem dX6_say_30 : decode cX6_say 30 = .ok (.getfield 37, 3) := by decide +kernel
theorem dX6_say_33 : decode cX6_say 33 = .ok (.iload_n 1, 1) := by decide +kernel
theorem dX6_say_34 : decode cX6_say 34 = .ok (.invokevirtual 100, 3) := by decide +kernel
theorem dX6_say_37 : decode cX6_say 37 = .ok (.ireturn, 1) := by decide +kernel
theorem dX6_wipe_0 : decode cX6_wipe 0 = .ok (.aload_n 0, 1) := by decide +kernel
theorem dX6_wipe_1 : decode cX6_wipe 1 = .ok (.getfield 37, 3) := by decide +kernel
theorem dX6_wipe_4 : decode cX6_wipe 4 = .ok (.invokevirtual 103, 3) := by decide +kernel
theorem dX6_wipe_7 : decode cX6_wipe 7 = .ok (.ireturn, 1) := by decide +kernel
theorem dX6_fault_0 : decode cX6_fault 0 = .ok (.aload_n 0, 1) := by decide +kernel
theorem dX6_fault_1 : decode cX6_fault 1 = .ok (.getfield 37, 3) := by decide +kernel
theorem dX6_fault_4 : decode cX6_fault 4 = .ok (.aload_n 0, 1) := by decide +kernel
theorem dX6_fault_5 : decode cX6_fault 5 = .ok (.getfield 10, 3) := by decide +kernel
theorem dX6_fault_8 : decode cX6_fault 8 = .ok (.getfield 73, 3) := by decide +kernel
theorem dX6_fault_11 : decode cX6_fault 11 = .ok (.invokevirtual 107, 3) := by decide +kernel
theorem dX6_fault_14 : decode cX6_fault 14 = .ok (.ireturn, 1) := by decide +kernel
theorem dX6_judge_0 : decode cX6_judge 0 = .ok (.iload_n 1, 1) := by decide +kernel
theorem dX6_judge_1 : decode cX6_judge 1 = .ok (.iconst 0, 1) := by decide +kernel
theorem dX6_judge_2 : decode cX6_judge 2 = .ok (.iconst 1, 1) := by decide +kernel
theorem dX6_judge_3 : decode cX6_judge 3 = .ok (.invokestatic 69, 3) := by decide +kernel
theorem dX6_judge_6 : decode cX6_judge 6 = .ok (.ifCond .ne 6, 3) := by decide +kernel
theorem dX6_judge_9 : decode cX6_judge 9 = .ok (.bipush (-2), 2) := by decide +kernel
theorem dX6_judge_11 : decode cX6_judge 11 = .ok (.ireturn, 1) := by decide +kernel
theorem dX6_judge_12 : decode cX6_judge 12 = .ok (.aload_n 0, 1) := by decide +kernel
theorem dX6_judge_13 : decode cX6_judge 13 = .ok (.getfield 37, 3) := by decide +kernel
theorem dX6_judge_16 : decode cX6_judge 16 = .ok (.aload_n 0, 1) := by decide +kernel
theorem dX6_judge_17 : decode cX6_judge 17 = .ok (.getfield 10, 3) := by decide +kernel
theorem dX6_judge_20 : decode cX6_judge 20 = .ok (.getfield 73, 3) := by decide +kernel
theorem dX6_judge_23 : decode cX6_judge 23 = .ok (.invokevirtual 107, 3) := by decide +kernel
theorem dX6_judge_26 : decode cX6_judge 26 = .ok (.bipush (-6), 2) := by decide +kernel
theorem dX6_judge_28 : decode cX6_judge 28 = .ok (.if_icmp .eq 6, 3) := by decide +kernel
theorem dX6_judge_31 : decode cX6_judge 31 = .ok (.bipush (-5), 2) := by decide +kernel
theorem dX6_judge_33 : decode cX6_judge 33 = .ok (.ireturn, 1) := by decide +kernel
theorem dX6_judge_34 : decode cX6_judge 34 = .ok (.aload_n 0, 1) := by decide +kernel
theorem dX6_judge_35 : decode cX6_judge 35 = .ok (.getfield 44, 3) := by decide +kernel
theorem dX6_judge_38 : decode cX6_judge 38 = .ok (.aload_n 0, 1) := by decide +kernel
theorem dX6_judge_39 : decode cX6_judge 39 = .ok (.getfield 10, 3) := by decide +kernel
theorem dX6_judge_42 : decode cX6_judge 42 = .ok (.aload_n 0, 1) := by decide +kernel
theorem dX6_judge_43 : decode cX6_judge 43 = .ok (.getfield 16, 3) := by decide +kernel
theorem dX6_judge_46 : decode cX6_judge 46 = .ok (.aload_n 0, 1) := by decide +kernel
theorem dX6_judge_47 : decode cX6_judge 47 = .ok (.getfield 37, 3) := by decide +kernel
theorem dX6_judge_50 : decode cX6_judge 50 = .ok (.invokevirtual 110, 3) := by decide +kernel
theorem dX6_judge_53 : decode cX6_judge 53 = .ok (.ifCond .eq 6, 3) := by decide +kernel
theorem dX6_judge_56 : decode cX6_judge 56 = .ok (.bipush (-6), 2) := by decide +kernel
theorem dX6_judge_58 : decode cX6_judge 58 = .ok (.ireturn, 1) := by decide +kernel
theorem dX6_judge_59 : decode cX6_judge 59 = .ok (.iload_n 1, 1) := by decide +kernel
theorem dX6_judge_60 : decode cX6_judge 60 = .ok (.ifCond .ne 13, 3) := by decide +kernel
theorem dX6_judge_63 : decode cX6_judge 63 = .ok (.aload_n 0, 1) := by decide +kernel
theorem dX6_judge_64 : decode cX6_judge 64 = .ok (.getfield 44, 3) := by decide +kernel
theorem dX6_judge_67 : decode cX6_judge 67 = .ok (.getfield 114, 3) := by decide +kernel
theorem dX6_judge_70 : decode cX6_judge 70 = .ok (.goto 10, 3) := by decide +kernel
theorem dX6_judge_73 : decode cX6_judge 73 = .ok (.aload_n 0, 1) := by decide +kernel
theorem dX6_judge_74 : decode cX6_judge 74 = .ok (.getfield 44, 3) := by decide +kernel
theorem dX6_judge_77 : decode cX6_judge 77 = .ok (.getfield 117, 3) := by decide +kernel
theorem dX6_judge_80 : decode cX6_judge 80 = .ok (.ireturn, 1) := by decide +kernel
theorem dX6_done_0 : decode cX6_done 0 = .ok (.aload_n 0, 1) := by decide +kernel
theorem dX6_done_1 : decode cX6_done 1 = .ok (.invokevirtual 120, 3) := by decide +kernel
theorem dX6_done_4 : decode cX6_done 4 = .ok (.ifCond .ne 6, 3) := by decide +kernel
theorem dX6_done_7 : decode cX6_done 7 = .ok (.bipush (-5), 2) := by decide +kernel
theorem dX6_done_9 : decode cX6_done 9 = .ok (.ireturn, 1) := by decide +kernel
theorem dX6_done_10 : decode cX6_done 10 = .ok (.aload_n 0, 1) := by decide +kernel
theorem dX6_done_11 : decode cX6_done 11 = .ok (.getfield 10, 3) := by decide +kernel
theorem dX6_done_14 : decode cX6_done 14 = .ok (.aload_n 0, 1) := by decide +kernel
theorem dX6_done_15 : decode cX6_done 15 = .ok (.getfield 16, 3) := by decide +kernel
theorem dX6_done_18 : decode cX6_done 18 = .ok (.invokevirtual 124, 3) := by decide +kernel
theorem dX6_done_21 : decode cX6_done 21 = .ok (.aload_n 0, 1) := by decide +kernel
theorem dX6_done_22 : decode cX6_done 22 = .ok (.getfield 37, 3) := by decide +kernel
theorem dX6_done_25 : decode cX6_done 25 = .ok (.invokevirtual 103, 3) := by decide +kernel
theorem dX6_done_28 : decode cX6_done 28 = .ok (.pop, 1) := by decide +kernel
theorem dX6_done_29 : decode cX6_done 29 = .ok (.aload_n 0, 1) := by decide +kernel
theorem dX6_done_30 : decode cX6_done 30 = .ok (.getfield 44, 3) := by decide +kernel
theorem dX6_done_33 : decode cX6_done 33 = .ok (.getfield 114, 3) := by decide +kernel
theorem dX6_done_36 : decode cX6_done 36 = .ok (.ireturn, 1) := by decide +kernel
theorem dX6_state_0 : decode cX6_state 0 = .ok (.aload_n 0, 1) := by decide +kernel
theorem dX6_state_1 : decode cX6_state 1 = .ok (.getfield 10, 3) := by decide +kernel
theorem dX6_state_4 : decode cX6_state 4 = .ok (.iload_n 1, 1) := by decide +kernel
theorem dX6_state_5 : decode cX6_state 5 = .ok (.invokevirtual 79, 3) := by decide +kernel
theorem dX6_state_8 : decode cX6_state 8 = .ok (.ifCond .ne 5, 3) := by decide +kernel
theorem dX6_state_11 : decode cX6_state 11 = .ok (.iconst (-1), 1) := by decide +kernel
theorem dX6_state_12 : decode cX6_state 12 = .ok (.ireturn, 1) := by decide +kernel
theorem dX6_state_13 : decode cX6_state 13 = .ok (.iload_n 2, 1) := by decide +kernel
theorem dX6_state_14 : decode cX6_state 14 = .ok (.iconst 0, 1) := by decide +kernel
theorem dX6_state_15 : decode cX6_state 15 = .ok (.iconst 2, 1) := by decide +kernel
theorem dX6_state_16 : decode cX6_state 16 = .ok (.invokestatic 69, 3) := by decide +kernel
theorem dX6_state_19 : decode cX6_state 19 = .ok (.ifCond .ne 6, 3) := by decide +kernel
theorem dX6_state_22 : decode cX6_state 22 = .ok (.bipush (-2), 2) := by decide +kernel
theorem dX6_state_24 : decode cX6_state 24 = .ok (.ireturn, 1) := by decide +kernel
theorem dX6_state_25 : decode cX6_state 25 = .ok (.iload_n 2, 1) := by decide +kernel
theorem dX6_state_26 : decode cX6_state 26 = .ok (.ifCond .ne 13, 3) := by decide +kernel
theorem dX6_state_29 : decode cX6_state 29 = .ok (.aload_n 0, 1) := by decide +kernel
theorem dX6_state_30 : decode cX6_state 30 = .ok (.getfield 10, 3) := by decide +kernel
theorem dX6_state_33 : decode cX6_state 33 = .ok (.iload_n 1, 1) := by decide +kernel
theorem dX6_state_34 : decode cX6_state 34 = .ok (.iconst 0, 1) := by decide +kernel
theorem dX6_state_35 : decode cX6_state 35 = .ok (.invokevirtual 128, 3) := by decide +kernel
theorem dX6_state_38 : decode cX6_state 38 = .ok (.ireturn, 1) := by decide +kernel
theorem dX6_state_39 : decode cX6_state 39 = .ok (.iload_n 2, 1) := by decide +kernel
theorem dX6_state_40 : decode cX6_state 40 = .ok (.iconst 1, 1) := by decide +kernel
theorem dX6_state_41 : decode cX6_state 41 = .ok (.if_icmp .ne 17, 3) := by decide +kernel
theorem dX6_state_44 : decode cX6_state 44 = .ok (.aload_n 0, 1) := by decide +kernel
theorem dX6_state_45 : decode cX6_state 45 = .ok (.getfield 10, 3) := by decide +kernel
theorem dX6_state_48 : decode cX6_state 48 = .ok (.getfield 132, 3) := by decide +kernel
theorem dX6_state_51 : decode cX6_state 51 = .ok (.iload_n 1, 1) := by decide +kernel
theorem dX6_state_52 : decode cX6_state 52 = .ok (.invokevirtual 89, 3) := by decide +kernel
theorem dX6_state_55 : decode cX6_state 55 = .ok (.goto 14, 3) := by decide +kernel
theorem dX6_state_58 : decode cX6_state 58 = .ok (.aload_n 0, 1) := by decide +kernel
theorem dX6_state_59 : decode cX6_state 59 = .ok (.getfield 10, 3) := by decide +kernel
theorem dX6_state_62 : decode cX6_state 62 = .ok (.getfield 135, 3) := by decide +kernel
theorem dX6_state_65 : decode cX6_state 65 = .ok (.iload_n 1, 1) := by decide +kernel
theorem dX6_state_66 : decode cX6_state 66 = .ok (.invokevirtual 89, 3) := by decide +kernel
theorem dX6_state_69 : decode cX6_state 69 = .ok (.ireturn, 1) := by decide +kernel
theorem dX6_behind_0 : decode cX6_behind 0 = .ok (.aload_n 0, 1) := by decide +kernel
theorem dX6_behind_1 : decode cX6_behind 1 = .ok (.getfield 10, 3) := by decide +kernel
theorem dX6_behind_4 : decode cX6_behind 4 = .ok (.iload_n 1, 1) := by decide +kernel
theorem dX6_behind_5 : decode cX6_behind 5 = .ok (.invokevirtual 79, 3) := by decide +kernel
theorem dX6_behind_8 : decode cX6_behind 8 = .ok (.ifCond .ne 5, 3) := by decide +kernel
theorem dX6_behind_11 : decode cX6_behind 11 = .ok (.iconst (-1), 1) := by decide +kernel
theorem dX6_behind_12 : decode cX6_behind 12 = .ok (.ireturn, 1) := by decide +kernel
theorem dX6_behind_13 : decode cX6_behind 13 = .ok (.iload_n 2, 1) := by decide +kernel
theorem dX6_behind_14 : decode cX6_behind 14 = .ok (.iconst 0, 1) := by decide +kernel
theorem dX6_behind_15 : decode cX6_behind 15 = .ok (.iconst 2, 1) := by decide +kernel
theorem dX6_behind_16 : decode cX6_behind 16 = .ok (.invokestatic 69, 3) := by decide +kernel
theorem dX6_behind_19 : decode cX6_behind 19 = .ok (.ifCond .ne 6, 3) := by decide +kernel
theorem dX6_behind_22 : decode cX6_behind 22 = .ok (.bipush (-2), 2) := by decide +kernel
theorem dX6_behind_24 : decode cX6_behind 24 = .ok (.ireturn, 1) := by decide +kernel
theorem dX6_behind_25 : decode cX6_behind 25 = .ok (.aload_n 0, 1) := by decide +kernel
theorem dX6_behind_26 : decode cX6_behind 26 = .ok (.invokevirtual 120, 3) := by decide +kernel
theorem dX6_behind_29 : decode cX6_behind 29 = .ok (.ifCond .ne 6, 3) := by decide +kernel
theorem dX6_behind_32 : decode cX6_behind 32 = .ok (.bipush (-5), 2) := by decide +kernel
theorem dX6_behind_34 : decode cX6_behind 34 = .ok (.ireturn, 1) := by decide +kernel
theorem dX6_behind_35 : decode cX6_behind 35 = .ok (.iload_n 2, 1) := by decide +kernel
theorem dX6_behind_36 : decode cX6_behind 36 = .ok (.ifCond .ne 13, 3) := by decide +kernel
theorem dX6_behind_39 : decode cX6_behind 39 = .ok (.aload_n 0, 1) := by decide +kernel
theorem dX6_behind_40 : decode cX6_behind 40 = .ok (.getfield 16, 3) := by decide +kernel
theorem dX6_behind_43 : decode cX6_behind 43 = .ok (.iload_n 1, 1) := by decide +kernel
theorem dX6_behind_44 : decode cX6_behind 44 = .ok (.iconst 0, 1) := by decide +kernel
theorem dX6_behind_45 : decode cX6_behind 45 = .ok (.invokevirtual 128, 3) := by decide +kernel
theorem dX6_behind_48 : decode cX6_behind 48 = .ok (.ireturn, 1) := by decide +kernel
theorem dX6_behind_49 : decode cX6_behind 49 = .ok (.iload_n 2, 1) := by decide +kernel
theorem dX6_behind_50 : decode cX6_behind 50 = .ok (.iconst 1, 1) := by decide +kernel
theorem dX6_behind_51 : decode cX6_behind 51 = .ok (.if_icmp .ne 17, 3) := by decide +kernel
theorem dX6_behind_54 : decode cX6_behind 54 = .ok (.aload_n 0, 1) := by decide +kernel
theorem dX6_behind_55 : decode cX6_behind 55 = .ok (.getfield 16, 3) := by decide +kernel
theorem dX6_behind_58 : decode cX6_behind 58 = .ok (.getfield 132, 3) := by decide +kernel
theorem dX6_behind_61 : decode cX6_behind 61 = .ok (.iload_n 1, 1) := by decide +kernel
theorem dX6_behind_62 : decode cX6_behind 62 = .ok (.invokevirtual 89, 3) := by decide +kernel
theorem dX6_behind_65 : decode cX6_behind 65 = .ok (.goto 14, 3) := by decide +kernel
theorem dX6_behind_68 : decode cX6_behind 68 = .ok (.aload_n 0, 1) := by decide +kernel
theorem dX6_behind_69 : decode cX6_behind 69 = .ok (.getfield 16, 3) := by decide +kernel
theorem dX6_behind_72 : decode cX6_behind 72 = .ok (.getfield 138, 3) := by decide +kernel
theorem dX6_behind_75 : decode cX6_behind 75 = .ok (.iload_n 1, 1) := by decide +kernel
theorem dX6_behind_76 : decode cX6_behind 76 = .ok (.invokevirtual 89, 3) := by decide +kernel
theorem dX6_behind_79 : decode cX6_behind 79 = .ok (.ireturn, 1) := by decide +kernel
theorem dX6_day_0 : decode cX6_day 0 = .ok (.aload_n 0, 1) := by decide +kernel
theorem dX6_day_1 : decode cX6_day 1 = .ok (.invokevirtual 120, 3) := by decide +kernel
theorem dX6_day_4 : decode cX6_day 4 = .ok (.ifCond .eq 13, 3) := by decide +kernel
theorem dX6_day_7 : decode cX6_day 7 = .ok (.aload_n 0, 1) := by decide +kernel
theorem dX6_day_8 : decode cX6_day 8 = .ok (.getfield 16, 3) := by decide +kernel
theorem dX6_day_11 : decode cX6_day 11 = .ok (.getfield 141, 3) := by decide +kernel
theorem dX6_day_14 : decode cX6_day 14 = .ok (.goto 5, 3) := by decide +kernel
theorem dX6_day_17 : decode cX6_day 17 = .ok (.bipush (-5), 2) := by decide +kernel
theorem dX6_day_19 : decode cX6_day 19 = .ok (.ireturn, 1) := by decide +kernel
theorem dX6_where_0 : decode cX6_where 0 = .ok (.aload_n 0, 1) := by decide +kernel
theorem dX6_where_1 : decode cX6_where 1 = .ok (.getfield 10, 3) := by decide +kernel
theorem dX6_where_4 : decode cX6_where 4 = .ok (.iload_n 1, 1) := by decide +kernel
theorem dX6_where_5 : decode cX6_where 5 = .ok (.invokevirtual 79, 3) := by decide +kernel
theorem dX6_where_8 : decode cX6_where 8 = .ok (.ifCond .ne 5, 3) := by decide +kernel
theorem dX6_where_11 : decode cX6_where 11 = .ok (.iconst (-1), 1) := by decide +kernel
theorem dX6_where_12 : decode cX6_where 12 = .ok (.ireturn, 1) := by decide +kernel
theorem dX6_where_13 : decode cX6_where 13 = .ok (.iload_n 2, 1) := by decide +kernel
theorem dX6_where_14 : decode cX6_where 14 = .ok (.iconst 0, 1) := by decide +kernel
theorem dX6_where_15 : decode cX6_where 15 = .ok (.sipush 9999, 3) := by decide +kernel
theorem dX6_where_18 : decode cX6_where 18 = .ok (.invokestatic 69, 3) := by decide +kernel
theorem dX6_where_21 : decode cX6_where 21 = .ok (.ifCond .ne 6, 3) := by decide +kernel
theorem dX6_where_24 : decode cX6_where 24 = .ok (.bipush (-2), 2) := by decide +kernel
theorem dX6_where_26 : decode cX6_where 26 = .ok (.ireturn, 1) := by decide +kernel
theorem dX6_where_27 : decode cX6_where 27 = .ok (.aload_n 0, 1) := by decide +kernel
theorem dX6_where_28 : decode cX6_where 28 = .ok (.getfield 10, 3) := by decide +kernel
theorem dX6_where_31 : decode cX6_where 31 = .ok (.iload_n 1, 1) := by decide +kernel
theorem dX6_where_32 : decode cX6_where 32 = .ok (.aload_n 0, 1) := by decide +kernel
theorem dX6_where_33 : decode cX6_where 33 = .ok (.getfield 10, 3) := by decide +kernel
theorem dX6_where_36 : decode cX6_where 36 = .ok (.iload_n 2, 1) := by decide +kernel
theorem dX6_where_37 : decode cX6_where 37 = .ok (.invokevirtual 144, 3) := by decide +kernel
theorem dX6_where_40 : decode cX6_where 40 = .ok (.invokevirtual 128, 3) := by decide +kernel
theorem dX6_where_43 : decode cX6_where 43 = .ok (.ireturn, 1) := by decide +kernel
theorem dX6_who_0 : decode cX6_who 0 = .ok (.aload_n 0, 1) := by decide +kernel
theorem dX6_who_1 : decode cX6_who 1 = .ok (.getfield 10, 3) := by decide +kernel
theorem dX6_who_4 : decode cX6_who 4 = .ok (.iload_n 1, 1) := by decide +kernel
theorem dX6_who_5 : decode cX6_who 5 = .ok (.invokevirtual 79, 3) := by decide +kernel
theorem dX6_who_8 : decode cX6_who 8 = .ok (.ifCond .ne 5, 3) := by decide +kernel
theorem dX6_who_11 : decode cX6_who 11 = .ok (.iconst (-1), 1) := by decide +kernel
theorem dX6_who_12 : decode cX6_who 12 = .ok (.ireturn, 1) := by decide +kernel
theorem dX6_who_13 : decode cX6_who 13 = .ok (.iload_n 2, 1) := by decide +kernel
theorem dX6_who_14 : decode cX6_who 14 = .ok (.iconst 0, 1) := by decide +kernel
theorem dX6_who_15 : decode cX6_who 15 = .ok (.sipush 9999, 3) := by decide +kernel
theorem dX6_who_18 : decode cX6_who 18 = .ok (.invokestatic 69, 3) := by decide +kernel
theorem dX6_who_21 : decode cX6_who 21 = .ok (.ifCond .ne 6, 3) := by decide +kernel
theorem dX6_who_24 : decode cX6_who 24 = .ok (.bipush (-2), 2) := by decide +kernel
theorem dX6_who_26 : decode cX6_who 26 = .ok (.ireturn, 1) := by decide +kernel
theorem dX6_who_27 : decode cX6_who 27 = .ok (.aload_n 0, 1) := by decide +kernel
theorem dX6_who_28 : decode cX6_who 28 = .ok (.getfield 10, 3) := by decide +kernel
theorem dX6_who_31 : decode cX6_who 31 = .ok (.iload_n 1, 1) := by decide +kernel
theorem dX6_who_32 : decode cX6_who 32 = .ok (.aload_n 0, 1) := by decide +kernel
theorem dX6_who_33 : decode cX6_who 33 = .ok (.getfield 10, 3) := by decide +kernel
theorem dX6_who_36 : decode cX6_who 36 = .ok (.iload_n 2, 1) := by decide +kernel
theorem dX6_who_37 : decode cX6_who 37 = .ok (.invokevirtual 144, 3) := by decide +kernel
theorem dX6_who_40 : decode cX6_who 40 = .ok (.invokevirtual 147, 3) := by decide +kernel
theorem dX6_who_43 : decode cX6_who 43 = .ok (.ireturn, 1) := by decide +kernel
theorem dX6_meet_0 : decode cX6_meet 0 = .ok (.aload_n 0, 1) := by decide +kernel
theorem dX6_meet_1 : decode cX6_meet 1 = .ok (.getfield 10, 3) := by decide +kernel
theorem dX6_meet_4 : decode cX6_meet 4 = .ok (.iload_n 1, 1) := by decide +kernel
theorem dX6_meet_5 : decode cX6_meet 5 = .ok (.iload_n 2, 1) := by decide +kernel
theorem dX6_meet_6 : decode cX6_meet 6 = .ok (.invokevirtual 150, 3) := by decide +kernel
theorem dX6_meet_9 : decode cX6_meet 9 = .ok (.ifCond .ne 5, 3) := by decide +kernel
theorem dX6_meet_12 : decode cX6_meet 12 = .ok (.iconst (-1), 1) := by decide +kernel
theorem dX6_meet_13 : decode cX6_meet 13 = .ok (.ireturn, 1) := by decide +kernel
theorem dX6_meet_14 : decode cX6_meet 14 = .ok (.iconst 0, 1) := by decide +kernel
theorem dX6_meet_15 : decode cX6_meet 15 = .ok (.istore_n 3, 1) := by decide +kernel
theorem dX6_meet_16 : decode cX6_meet 16 = .ok (.iload_n 3, 1) := by decide +kernel
theorem dX6_meet_17 : decode cX6_meet 17 = .ok (.aload_n 0, 1) := by decide +kernel
theorem dX6_meet_18 : decode cX6_meet 18 = .ok (.getfield 10, 3) := by decide +kernel
theorem dX6_meet_21 : decode cX6_meet 21 = .ok (.getfield 73, 3) := by decide +kernel
theorem dX6_meet_24 : decode cX6_meet 24 = .ok (.if_icmp .gt 31, 3) := by decide +kernel
theorem dX6_meet_27 : decode cX6_meet 27 = .ok (.aload_n 0, 1) := by decide +kernel
theorem dX6_meet_28 : decode cX6_meet 28 = .ok (.getfield 10, 3) := by decide +kernel
theorem dX6_meet_31 : decode cX6_meet 31 = .ok (.iload_n 1, 1) := by decide +kernel
theorem dX6_meet_32 : decode cX6_meet 32 = .ok (.iload_n 2, 1) := by decide +kernel
theorem dX6_meet_33 : decode cX6_meet 33 = .ok (.iload_n 3, 1) := by decide +kernel
theorem dX6_meet_34 : decode cX6_meet 34 = .ok (.invokevirtual 154, 3) := by decide +kernel
theorem dX6_meet_37 : decode cX6_meet 37 = .ok (.ifCond .eq 12, 3) := by decide +kernel
theorem dX6_meet_40 : decode cX6_meet 40 = .ok (.aload_n 0, 1) := by decide +kernel
theorem dX6_meet_41 : decode cX6_meet 41 = .ok (.getfield 10, 3) := by decide +kernel
theorem dX6_meet_44 : decode cX6_meet 44 = .ok (.iload_n 3, 1) := by decide +kernel
theorem dX6_meet_45 : decode cX6_meet 45 = .ok (.invokevirtual 157, 3) := by decide +kernel
theorem dX6_meet_48 : decode cX6_meet 48 = .ok (.ireturn, 1) := by decide +kernel
theorem dX6_meet_49 : decode cX6_meet 49 = .ok (.iinc 3 1, 3) := by decide +kernel
theorem dX6_meet_52 : decode cX6_meet 52 = .ok (.goto (-36), 3) := by decide +kernel
theorem dX6_meet_55 : decode cX6_meet 55 = .ok (.bipush (-6), 2) := by decide +kernel
theorem dX6_meet_57 : decode cX6_meet 57 = .ok (.ireturn, 1) := by decide +kernel
theorem dX6_together_0 : decode cX6_together 0 = .ok (.aload_n 0, 1) := by decide +kernel
theorem dX6_together_1 : decode cX6_together 1 = .ok (.getfield 10, 3) := by decide +kernel
theorem dX6_together_4 : decode cX6_together 4 = .ok (.iload_n 1, 1) := by decide +kernel
theorem dX6_together_5 : decode cX6_together 5 = .ok (.iload_n 2, 1) := by decide +kernel
theorem dX6_together_6 : decode cX6_together 6 = .ok (.invokevirtual 150, 3) := by decide +kernel
theorem dX6_together_9 : decode cX6_together 9 = .ok (.ifCond .ne 5, 3) := by decide +kernel
theorem dX6_together_12 : decode cX6_together 12 = .ok (.iconst (-1), 1) := by decide +kernel
theorem dX6_together_13 : decode cX6_together 13 = .ok (.ireturn, 1) := by decide +kernel
theorem dX6_together_14 : decode cX6_together 14 = .ok (.iload_n 3, 1) := by decide +kernel
theorem dX6_together_15 : decode cX6_together 15 = .ok (.iconst 0, 1) := by decide +kernel
theorem dX6_together_16 : decode cX6_together 16 = .ok (.sipush 9999, 3) := by decide +kernel
theorem dX6_together_19 : decode cX6_together 19 = .ok (.invokestatic 69, 3) := by decide +kernel
theorem dX6_together_22 : decode cX6_together 22 = .ok (.ifCond .ne 6, 3) := by decide +kernel
theorem dX6_together_25 : decode cX6_together 25 = .ok (.bipush (-2), 2) := by decide +kernel
theorem dX6_together_27 : decode cX6_together 27 = .ok (.ireturn, 1) := by decide +kernel
theorem dX6_together_28 : decode cX6_together 28 = .ok (.iconst 0, 1) := by decide +kernel
theorem dX6_together_29 : decode cX6_together 29 = .ok (.istore 4, 2) := by decide +kernel
theorem dX6_together_31 : decode cX6_together 31 = .ok (.aload_n 0, 1) := by decide +kernel
theorem dX6_together_32 : decode cX6_together 32 = .ok (.getfield 10, 3) := by decide +kernel
theorem dX6_together_35 : decode cX6_together 35 = .ok (.iload_n 1, 1) := by decide +kernel
theorem dX6_together_36 : decode cX6_together 36 = .ok (.iload_n 2, 1) := by decide +kernel
theorem dX6_together_37 : decode cX6_together 37 = .ok (.iconst 0, 1) := by decide +kernel
theorem dX6_together_38 : decode cX6_together 38 = .ok (.invokevirtual 154, 3) := by decide +kernel
theorem dX6_together_41 : decode cX6_together 41 = .ok (.ifCond .eq 17, 3) := by decide +kernel
theorem dX6_together_44 : decode cX6_together 44 = .ok (.iload_n 3, 1) := by decide +kernel
theorem dX6_together_45 : decode cX6_together 45 = .ok (.aload_n 0, 1) := by decide +kernel
theorem dX6_together_46 : decode cX6_together 46 = .ok (.getfield 10, 3) := by decide +kernel
theorem dX6_together_49 : decode cX6_together 49 = .ok (.iconst 1, 1) := by decide +kernel
theorem dX6_together_50 : decode cX6_together 50 = .ok (.invokevirtual 157, 3) := by decide +kernel
theorem dX6_together_53 : decode cX6_together 53 = .ok (.invokestatic 160, 3) := by decide +kernel
theorem dX6_together_56 : decode cX6_together 56 = .ok (.istore 4, 2) := by decide +kernel
theorem dX6_together_58 : decode cX6_together 58 = .ok (.iconst 1, 1) := by decide +kernel
theorem dX6_together_59 : decode cX6_together 59 = .ok (.istore 5, 2) := by decide +kernel
theorem dX6_together_61 : decode cX6_together 61 = .ok (.iload 5, 2) := by decide +kernel
theorem dX6_together_63 : decode cX6_together 63 = .ok (.aload_n 0, 1) := by decide +kernel
theorem dX6_together_64 : decode cX6_together 64 = .ok (.getfield 10, 3) := by decide +kernel
theorem dX6_together_67 : decode cX6_together 67 = .ok (.getfield 73, 3) := by decide +kernel
theorem dX6_together_70 : decode cX6_together 70 = .ok (.if_icmp .ge 38, 3) := by decide +kernel
theorem dX6_together_73 : decode cX6_together 73 = .ok (.aload_n 0, 1) := by decide +kernel
theorem dX6_together_74 : decode cX6_together 74 = .ok (.getfield 10, 3) := by decide +kernel
theorem dX6_together_77 : decode cX6_together 77 = .ok (.iload_n 1, 1) := by decide +kernel
theorem dX6_together_78 : decode cX6_together 78 = .ok (.iload_n 2, 1) := by decide +kernel
theorem dX6_together_79 : decode cX6_together 79 = .ok (.iload 5, 2) := by decide +kernel
theorem dX6_together_81 : decode cX6_together 81 = .ok (.invokevirtual 154, 3) := by decide +kernel
theorem dX6_together_84 : decode cX6_together 84 = .ok (.ifCond .eq 18, 3) := by decide +kernel
theorem dX6_together_87 : decode cX6_together 87 = .ok (.iload 4, 2) := by decide +kernel
theorem dX6_together_89 : decode cX6_together 89 = .ok (.aload_n 0, 1) := by decide +kernel
theorem dX6_together_90 : decode cX6_together 90 = .ok (.getfield 10, 3) := by decide +kernel
theorem dX6_together_93 : decode cX6_together 93 = .ok (.iload 5, 2) := by decide +kernel
theorem dX6_together_95 : decode cX6_together 95 = .ok (.iload_n 3, 1) := by decide +kernel
theorem dX6_together_96 : decode cX6_together 96 = .ok (.invokevirtual 165, 3) := by decide +kernel
theorem dX6_together_99 : decode cX6_together 99 = .ok (.iadd, 1) := by decide +kernel
theorem dX6_together_100 : decode cX6_together 100 = .ok (.istore 4, 2) := by decide +kernel
theorem dX6_together_102 : decode cX6_together 102 = .ok (.iinc 5 1, 3) := by decide +kernel
theorem dX6_together_105 : decode cX6_together 105 = .ok (.goto (-44), 3) := by decide +kernel
theorem dX6_together_108 : decode cX6_together 108 = .ok (.iload 4, 2) := by decide +kernel
theorem dX6_together_110 : decode cX6_together 110 = .ok (.ireturn, 1) := by decide +kernel
theorem dX6_begin_0 : decode cX6_begin 0 = .ok (.aload_n 0, 1) := by decide +kernel
theorem dX6_begin_1 : decode cX6_begin 1 = .ok (.getfield 10, 3) := by decide +kernel
theorem dX6_begin_4 : decode cX6_begin 4 = .ok (.iload_n 1, 1) := by decide +kernel
theorem dX6_begin_5 : decode cX6_begin 5 = .ok (.iload_n 2, 1) := by decide +kernel
theorem dX6_begin_6 : decode cX6_begin 6 = .ok (.invokevirtual 150, 3) := by decide +kernel
theorem dX6_begin_9 : decode cX6_begin 9 = .ok (.ifCond .ne 5, 3) := by decide +kernel
theorem dX6_begin_12 : decode cX6_begin 12 = .ok (.iconst (-1), 1) := by decide +kernel
theorem dX6_begin_13 : decode cX6_begin 13 = .ok (.ireturn, 1) := by decide +kernel
theorem dX6_begin_14 : decode cX6_begin 14 = .ok (.iload_n 3, 1) := by decide +kernel
theorem dX6_begin_15 : decode cX6_begin 15 = .ok (.iconst 1, 1) := by decide +kernel
theorem dX6_begin_16 : decode cX6_begin 16 = .ok (.sipush 400, 3) := by decide +kernel
theorem dX6_begin_19 : decode cX6_begin 19 = .ok (.invokestatic 69, 3) := by decide +kernel
theorem dX6_begin_22 : decode cX6_begin 22 = .ok (.ifCond .ne 6, 3) := by decide +kernel
theorem dX6_begin_25 : decode cX6_begin 25 = .ok (.bipush (-2), 2) := by decide +kernel
theorem dX6_begin_27 : decode cX6_begin 27 = .ok (.ireturn, 1) := by decide +kernel
theorem dX6_begin_28 : decode cX6_begin 28 = .ok (.aload_n 0, 1) := by decide +kernel
theorem dX6_begin_29 : decode cX6_begin 29 = .ok (.getfield 10, 3) := by decide +kernel
theorem dX6_begin_32 : decode cX6_begin 32 = .ok (.iload_n 1, 1) := by decide +kernel
theorem dX6_begin_33 : decode cX6_begin 33 = .ok (.iload_n 2, 1) := by decide +kernel
theorem dX6_begin_34 : decode cX6_begin 34 = .ok (.iload_n 3, 1) := by decide +kernel
theorem dX6_begin_35 : decode cX6_begin 35 = .ok (.invokevirtual 168, 3) := by decide +kernel
theorem dX6_begin_38 : decode cX6_begin 38 = .ok (.ireturn, 1) := by decide +kernel
theorem dX6_longest_0 : decode cX6_longest 0 = .ok (.aload_n 0, 1) := by decide +kernel
theorem dX6_longest_1 : decode cX6_longest 1 = .ok (.getfield 10, 3) := by decide +kernel
theorem dX6_longest_4 : decode cX6_longest 4 = .ok (.iload_n 1, 1) := by decide +kernel
theorem dX6_longest_5 : decode cX6_longest 5 = .ok (.iload_n 2, 1) := by decide +kernel
theorem dX6_longest_6 : decode cX6_longest 6 = .ok (.invokevirtual 150, 3) := by decide +kernel
theorem dX6_longest_9 : decode cX6_longest 9 = .ok (.ifCond .ne 5, 3) := by decide +kernel
theorem dX6_longest_12 : decode cX6_longest 12 = .ok (.iconst (-1), 1) := by decide +kernel
theorem dX6_longest_13 : decode cX6_longest 13 = .ok (.ireturn, 1) := by decide +kernel
theorem dX6_longest_14 : decode cX6_longest 14 = .ok (.iload_n 3, 1) := by decide +kernel
theorem dX6_longest_15 : decode cX6_longest 15 = .ok (.iconst 0, 1) := by decide +kernel
theorem dX6_longest_16 : decode cX6_longest 16 = .ok (.sipush 9999, 3) := by decide +kernel
theorem dX6_longest_19 : decode cX6_longest 19 = .ok (.invokestatic 69, 3) := by decide +kernel
theorem dX6_longest_22 : decode cX6_longest 22 = .ok (.ifCond .ne 6, 3) := by decide +kernel
theorem dX6_longest_25 : decode cX6_longest 25 = .ok (.bipush (-2), 2) := by decide +kernel
theorem dX6_longest_27 : decode cX6_longest 27 = .ok (.ireturn, 1) := by decide +kernel
theorem dX6_longest_28 : decode cX6_longest 28 = .ok (.aload_n 0, 1) := by decide +kernel
theorem dX6_longest_29 : decode cX6_longest 29 = .ok (.getfield 10, 3) := by decide +kernel
theorem dX6_longest_32 : decode cX6_longest 32 = .ok (.iload_n 1, 1) := by decide +kernel
theorem dX6_longest_33 : decode cX6_longest 33 = .ok (.iload_n 2, 1) := by decide +kernel
theorem dX6_longest_34 : decode cX6_longest 34 = .ok (.iload_n 3, 1) := by decide +kernel
theorem dX6_longest_35 : decode cX6_longest 35 = .ok (.invokevirtual 172, 3) := by decide +kernel
theorem dX6_longest_38 : decode cX6_longest 38 = .ok (.ireturn, 1) := by decide +kernel
theorem dX6_struck_0 : decode cX6_struck 0 = .ok (.aload_n 0, 1) := by decide +kernel
theorem dX6_struck_1 : decode cX6_struck 1 = .ok (.getfield 10, 3) := by decide +kernel
theorem dX6_struck_4 : decode cX6_struck 4 = .ok (.iload_n 1, 1) := by decide +kernel
theorem dX6_struck_5 : decode cX6_struck 5 = .ok (.invokevirtual 79, 3) := by decide +kernel
theorem dX6_struck_8 : decode cX6_struck 8 = .ok (.ifCond .ne 5, 3) := by decide +kernel
theorem dX6_struck_11 : decode cX6_struck 11 = .ok (.iconst (-1), 1) := by decide +kernel
theorem dX6_struck_12 : decode cX6_struck 12 = .ok (.ireturn, 1) := by decide +kernel
theorem dX6_struck_13 : decode cX6_struck 13 = .ok (.iload_n 2, 1) := by decide +kernel
theorem dX6_struck_14 : decode cX6_struck 14 = .ok (.iconst 0, 1) := by decide +kernel
theorem dX6_struck_15 : decode cX6_struck 15 = .ok (.sipush 9999, 3) := by decide +kernel
theorem dX6_struck_18 : decode cX6_struck 18 = .ok (.invokestatic 69, 3) := by decide +kernel
theorem dX6_struck_21 : decode cX6_struck 21 = .ok (.ifCond .eq 14, 3) := by decide +kernel
theorem dX6_struck_24 : decode cX6_struck 24 = .ok (.iload_n 3, 1) := by decide +kernel
theorem dX6_struck_25 : decode cX6_struck 25 = .ok (.iconst 1, 1) := by decide +kernel
theorem dX6_struck_26 : decode cX6_struck 26 = .ok (.sipush 400, 3) := by decide +kernel
theorem dX6_struck_29 : decode cX6_struck 29 = .ok (.invokestatic 69, 3) := by decide +kernel
theorem dX6_struck_32 : decode cX6_struck 32 = .ok (.ifCond .ne 6, 3) := by decide +kernel
theorem dX6_struck_35 : decode cX6_struck 35 = .ok (.bipush (-2), 2) := by decide +kernel
theorem dX6_struck_37 : decode cX6_struck 37 = .ok (.ireturn, 1) := by decide +kernel
theorem dX6_struck_38 : decode cX6_struck 38 = .ok (.iconst 0, 1) := by decide +kernel
theorem dX6_struck_39 : decode cX6_struck 39 = .ok (.istore 4, 2) := by decide +kernel
theorem dX6_struck_41 : decode cX6_struck 41 = .ok (.iconst 0, 1) := by decide +kernel
theorem dX6_struck_42 : decode cX6_struck 42 = .ok (.istore 5, 2) := by decide +kernel
theorem dX6_struck_44 : decode cX6_struck 44 = .ok (.iload 5, 2) := by decide +kernel
theorem dX6_struck_46 : decode cX6_struck 46 = .ok (.aload_n 0, 1) := by decide +kernel
theorem dX6_struck_47 : decode cX6_struck 47 = .ok (.getfield 10, 3) := by decide +kernel
theorem dX6_struck_50 : decode cX6_struck 50 = .ok (.getfield 73, 3) := by decide +kernel
theorem dX6_struck_53 : decode cX6_struck 53 = .ok (.if_icmp .ge 39, 3) := by decide +kernel
theorem dX6_struck_56 : decode cX6_struck 56 = .ok (.iload 5, 2) := by decide +kernel
theorem dX6_struck_58 : decode cX6_struck 58 = .ok (.iload_n 1, 1) := by decide +kernel
theorem dX6_struck_59 : decode cX6_struck 59 = .ok (.if_icmp .eq 27, 3) := by decide +kernel
theorem dX6_struck_62 : decode cX6_struck 62 = .ok (.aload_n 0, 1) := by decide +kernel
theorem dX6_struck_63 : decode cX6_struck 63 = .ok (.getfield 10, 3) := by decide +kernel
theorem dX6_struck_66 : decode cX6_struck 66 = .ok (.iload 5, 2) := by decide +kernel
theorem dX6_struck_68 : decode cX6_struck 68 = .ok (.iload_n 1, 1) := by decide +kernel
theorem dX6_struck_69 : decode cX6_struck 69 = .ok (.iload_n 2, 1) := by decide +kernel
theorem dX6_struck_70 : decode cX6_struck 70 = .ok (.invokevirtual 172, 3) := by decide +kernel
theorem dX6_struck_73 : decode cX6_struck 73 = .ok (.iload_n 3, 1) := by decide +kernel
theorem dX6_struck_74 : decode cX6_struck 74 = .ok (.if_icmp .lt 12, 3) := by decide +kernel
theorem dX6_struck_77 : decode cX6_struck 77 = .ok (.iload 4, 2) := by decide +kernel
theorem dX6_struck_79 : decode cX6_struck 79 = .ok (.iconst 1, 1) := by decide +kernel
theorem dX6_struck_80 : decode cX6_struck 80 = .ok (.iload 5, 2) := by decide +kernel
theorem dX6_struck_82 : decode cX6_struck 82 = .ok (.ishl, 1) := by decide +kernel
theorem dX6_struck_83 : decode cX6_struck 83 = .ok (.ior, 1) := by decide +kernel
theorem dX6_struck_84 : decode cX6_struck 84 = .ok (.istore 4, 2) := by decide +kernel
theorem dX6_struck_86 : decode cX6_struck 86 = .ok (.iinc 5 1, 3) := by decide +kernel
theorem dX6_struck_89 : decode cX6_struck 89 = .ok (.goto (-45), 3) := by decide +kernel
theorem dX6_struck_92 : decode cX6_struck 92 = .ok (.iload 4, 2) := by decide +kernel
theorem dX6_struck_94 : decode cX6_struck 94 = .ok (.ireturn, 1) := by decide +kernel
theorem dX6_sure_0 : decode cX6_sure 0 = .ok (.iload_n 1, 1) := by decide +kernel
theorem dX6_sure_1 : decode cX6_sure 1 = .ok (.iconst 1, 1) := by decide +kernel
theorem dX6_sure_2 : decode cX6_sure 2 = .ok (.sipush 400, 3) := by decide +kernel
theorem dX6_sure_5 : decode cX6_sure 5 = .ok (.invokestatic 69, 3) := by decide +kernel
theorem dX6_sure_8 : decode cX6_sure 8 = .ok (.ifCond .ne 6, 3) := by decide +kernel
theorem dX6_sure_11 : decode cX6_sure 11 = .ok (.bipush (-2), 2) := by decide +kernel
theorem dX6_sure_13 : decode cX6_sure 13 = .ok (.ireturn, 1) := by decide +kernel
theorem dX6_sure_14 : decode cX6_sure 14 = .ok (.iconst 0, 1) := by decide +kernel
theorem dX6_sure_15 : decode cX6_sure 15 = .ok (.istore_n 2, 1) := by decide +kernel
theorem dX6_sure_16 : decode cX6_sure 16 = .ok (.iconst 0, 1) := by decide +kernel
theorem dX6_sure_17 : decode cX6_sure 17 = .ok (.istore_n 3, 1) := by decide +kernel
theorem dX6_sure_18 : decode cX6_sure 18 = .ok (.iload_n 3, 1) := by decide +kernel
theorem dX6_sure_19 : decode cX6_sure 19 = .ok (.aload_n 0, 1) := by decide +kernel
theorem dX6_sure_20 : decode cX6_sure 20 = .ok (.getfield 10, 3) := by decide +kernel
theorem dX6_sure_23 : decode cX6_sure 23 = .ok (.getfield 73, 3) := by decide +kernel
theorem dX6_sure_26 : decode cX6_sure 26 = .ok (.if_icmp .ge 76, 3) := by decide +kernel
theorem dX6_sure_29 : decode cX6_sure 29 = .ok (.iconst 0, 1) := by decide +kernel
theorem dX6_sure_30 : decode cX6_sure 30 = .ok (.istore 4, 2) := by decide +kernel
theorem dX6_sure_32 : decode cX6_sure 32 = .ok (.iconst 0, 1) := by decide +kernel
theorem dX6_sure_33 : decode cX6_sure 33 = .ok (.istore 5, 2) := by decide +kernel
theorem dX6_sure_35 : decode cX6_sure 35 = .ok (.iload 5, 2) := by decide +kernel
theorem dX6_sure_37 : decode cX6_sure 37 = .ok (.aload_n 0, 1) := by decide +kernel
theorem dX6_sure_38 : decode cX6_sure 38 = .ok (.getfield 10, 3) := by decide +kernel
theorem dX6_sure_41 : decode cX6_sure 41 = .ok (.getfield 73, 3) := by decide +kernel
theorem dX6_sure_44 : decode cX6_sure 44 = .ok (.if_icmp .ge 41, 3) := by decide +kernel
theorem dX6_sure_47 : decode cX6_sure 47 = .ok (.iload 4, 2) := by decide +kernel
theorem dX6_sure_49 : decode cX6_sure 49 = .ok (.iload 5, 2) := by decide +kernel
theorem dX6_sure_51 : decode cX6_sure 51 = .ok (.iload_n 3, 1) := by decide +kernel
theorem dX6_sure_52 : decode cX6_sure 52 = .ok (.if_icmp .eq 23, 3) := by decide +kernel
theorem dX6_sure_55 : decode cX6_sure 55 = .ok (.aload_n 0, 1) := by decide +kernel
theorem dX6_sure_56 : decode cX6_sure 56 = .ok (.getfield 10, 3) := by decide +kernel
theorem dX6_sure_59 : decode cX6_sure 59 = .ok (.iload 5, 2) := by decide +kernel
theorem dX6_sure_61 : decode cX6_sure 61 = .ok (.iload_n 3, 1) := by decide +kernel
theorem dX6_sure_62 : decode cX6_sure 62 = .ok (.iload_n 1, 1) := by decide +kernel
theorem dX6_sure_63 : decode cX6_sure 63 = .ok (.invokevirtual 168, 3) := by decide +kernel
theorem dX6_sure_66 : decode cX6_sure 66 = .ok (.bipush (-6), 2) := by decide +kernel
theorem dX6_sure_68 : decode cX6_sure 68 = .ok (.if_icmp .eq 7, 3) := by decide +kernel
theorem dX6_sure_71 : decode cX6_sure 71 = .ok (.iconst 1, 1) := by decide +kernel
theorem dX6_sure_72 : decode cX6_sure 72 = .ok (.goto 4, 3) := by decide +kernel
theorem dX6_sure_75 : decode cX6_sure 75 = .ok (.iconst 0, 1) := by decide +kernel
theorem dX6_sure_76 : decode cX6_sure 76 = .ok (.ior, 1) := by decide +kernel
theorem dX6_sure_77 : decode cX6_sure 77 = .ok (.istore 4, 2) := by decide +kernel
theorem dX6_sure_79 : decode cX6_sure 79 = .ok (.iinc 5 1, 3) := by decide +kernel
theorem dX6_sure_82 : decode cX6_sure 82 = .ok (.goto (-47), 3) := by decide +kernel
theorem dX6_sure_85 : decode cX6_sure 85 = .ok (.iload 4, 2) := by decide +kernel
theorem dX6_sure_87 : decode cX6_sure 87 = .ok (.ifCond .ne 9, 3) := by decide +kernel
theorem dX6_sure_90 : decode cX6_sure 90 = .ok (.iload_n 2, 1) := by decide +kernel
theorem dX6_sure_91 : decode cX6_sure 91 = .ok (.iconst 1, 1) := by decide +kernel
theorem dX6_sure_92 : decode cX6_sure 92 = .ok (.iload_n 3, 1) := by decide +kernel
theorem dX6_sure_93 : decode cX6_sure 93 = .ok (.ishl, 1) := by decide +kernel
theorem dX6_sure_94 : decode cX6_sure 94 = .ok (.ior, 1) := by decide +kernel
theorem dX6_sure_95 : decode cX6_sure 95 = .ok (.istore_n 2, 1) := by decide +kernel
theorem dX6_sure_96 : decode cX6_sure 96 = .ok (.iinc 3 1, 3) := by decide +kernel
theorem dX6_sure_99 : decode cX6_sure 99 = .ok (.goto (-81), 3) := by decide +kernel
theorem dX6_sure_102 : decode cX6_sure 102 = .ok (.iload_n 2, 1) := by decide +kernel
theorem dX6_sure_103 : decode cX6_sure 103 = .ok (.ireturn, 1) := by decide +kernel
theorem dX6_fooled_0 : decode cX6_fooled 0 = .ok (.aload_n 0, 1) := by decide +kernel
theorem dX6_fooled_1 : decode cX6_fooled 1 = .ok (.getfield 10, 3) := by decide +kernel
theorem dX6_fooled_4 : decode cX6_fooled 4 = .ok (.iload_n 1, 1) := by decide +kernel
theorem dX6_fooled_5 : decode cX6_fooled 5 = .ok (.invokevirtual 79, 3) := by decide +kernel
theorem dX6_fooled_8 : decode cX6_fooled 8 = .ok (.ifCond .ne 5, 3) := by decide +kernel
theorem dX6_fooled_11 : decode cX6_fooled 11 = .ok (.iconst (-1), 1) := by decide +kernel
theorem dX6_fooled_12 : decode cX6_fooled 12 = .ok (.ireturn, 1) := by decide +kernel
theorem dX6_fooled_13 : decode cX6_fooled 13 = .ok (.iload_n 2, 1) := by decide +kernel
theorem dX6_fooled_14 : decode cX6_fooled 14 = .ok (.iconst 0, 1) := by decide +kernel
theorem dX6_fooled_15 : decode cX6_fooled 15 = .ok (.sipush 9999, 3) := by decide +kernel
theorem dX6_fooled_18 : decode cX6_fooled 18 = .ok (.invokestatic 69, 3) := by decide +kernel
theorem dX6_fooled_21 : decode cX6_fooled 21 = .ok (.ifCond .eq 14, 3) := by decide +kernel
theorem dX6_fooled_24 : decode cX6_fooled 24 = .ok (.iload_n 3, 1) := by decide +kernel
theorem dX6_fooled_25 : decode cX6_fooled 25 = .ok (.iconst 1, 1) := by decide +kernel
theorem dX6_fooled_26 : decode cX6_fooled 26 = .ok (.sipush 400, 3) := by decide +kernel
theorem dX6_fooled_29 : decode cX6_fooled 29 = .ok (.invokestatic 69, 3) := by decide +kernel
theorem dX6_fooled_32 : decode cX6_fooled 32 = .ok (.ifCond .ne 6, 3) := by decide +kernel
theorem dX6_fooled_35 : decode cX6_fooled 35 = .ok (.bipush (-2), 2) := by decide +kernel
theorem dX6_fooled_37 : decode cX6_fooled 37 = .ok (.ireturn, 1) := by decide +kernel
theorem dX6_fooled_38 : decode cX6_fooled 38 = .ok (.iconst 0, 1) := by decide +kernel
theorem dX6_fooled_39 : decode cX6_fooled 39 = .ok (.istore 4, 2) := by decide +kernel
theorem dX6_fooled_41 : decode cX6_fooled 41 = .ok (.iconst 0, 1) := by decide +kernel
theorem dX6_fooled_42 : decode cX6_fooled 42 = .ok (.istore 5, 2) := by decide +kernel
theorem dX6_fooled_44 : decode cX6_fooled 44 = .ok (.iload 5, 2) := by decide +kernel
theorem dX6_fooled_46 : decode cX6_fooled 46 = .ok (.aload_n 0, 1) := by decide +kernel
theorem dX6_fooled_47 : decode cX6_fooled 47 = .ok (.getfield 10, 3) := by decide +kernel
theorem dX6_fooled_50 : decode cX6_fooled 50 = .ok (.getfield 73, 3) := by decide +kernel
theorem dX6_fooled_53 : decode cX6_fooled 53 = .ok (.if_icmp .ge 85, 3) := by decide +kernel
theorem dX6_fooled_56 : decode cX6_fooled 56 = .ok (.aload_n 0, 1) := by decide +kernel
theorem dX6_fooled_57 : decode cX6_fooled 57 = .ok (.getfield 10, 3) := by decide +kernel
theorem dX6_fooled_60 : decode cX6_fooled 60 = .ok (.iload 5, 2) := by decide +kernel
theorem dX6_fooled_62 : decode cX6_fooled 62 = .ok (.iload_n 1, 1) := by decide +kernel
theorem dX6_fooled_63 : decode cX6_fooled 63 = .ok (.iload_n 2, 1) := by decide +kernel
theorem dX6_fooled_64 : decode cX6_fooled 64 = .ok (.invokevirtual 172, 3) := by decide +kernel
theorem dX6_fooled_67 : decode cX6_fooled 67 = .ok (.iload_n 3, 1) := by decide +kernel
theorem dX6_fooled_68 : decode cX6_fooled 68 = .ok (.if_icmp .lt 7, 3) := by decide +kernel
theorem dX6_fooled_71 : decode cX6_fooled 71 = .ok (.iconst 1, 1) := by decide +kernel
theorem dX6_fooled_72 : decode cX6_fooled 72 = .ok (.goto 4, 3) := by decide +kernel
theorem dX6_fooled_75 : decode cX6_fooled 75 = .ok (.iconst 0, 1) := by decide +kernel
theorem dX6_fooled_76 : decode cX6_fooled 76 = .ok (.istore 6, 2) := by decide +kernel
theorem dX6_fooled_78 : decode cX6_fooled 78 = .ok (.aload_n 0, 1) := by decide +kernel
theorem dX6_fooled_79 : decode cX6_fooled 79 = .ok (.getfield 10, 3) := by decide +kernel
theorem dX6_fooled_82 : decode cX6_fooled 82 = .ok (.aload_n 0, 1) := by decide +kernel
theorem dX6_fooled_83 : decode cX6_fooled 83 = .ok (.getfield 10, 3) := by decide +kernel
theorem dX6_fooled_86 : decode cX6_fooled 86 = .ok (.iload 5, 2) := by decide +kernel
theorem dX6_fooled_88 : decode cX6_fooled 88 = .ok (.invokevirtual 175, 3) := by decide +kernel
theorem dX6_fooled_91 : decode cX6_fooled 91 = .ok (.iload_n 1, 1) := by decide +kernel
theorem dX6_fooled_92 : decode cX6_fooled 92 = .ok (.iload_n 2, 1) := by decide +kernel
theorem dX6_fooled_93 : decode cX6_fooled 93 = .ok (.invokevirtual 172, 3) := by decide +kernel
theorem dX6_fooled_96 : decode cX6_fooled 96 = .ok (.iload_n 3, 1) := by decide +kernel
theorem dX6_fooled_97 : decode cX6_fooled 97 = .ok (.if_icmp .lt 7, 3) := by decide +kernel
theorem dX6_fooled_100 : decode cX6_fooled 100 = .ok (.iconst 1, 1) := by decide +kernel
theorem dX6_fooled_101 : decode cX6_fooled 101 = .ok (.goto 4, 3) := by decide +kernel
theorem dX6_fooled_104 : decode cX6_fooled 104 = .ok (.iconst 0, 1) := by decide +kernel
theorem dX6_fooled_105 : decode cX6_fooled 105 = .ok (.istore 7, 2) := by decide +kernel
theorem dX6_fooled_107 : decode cX6_fooled 107 = .ok (.iload 5, 2) := by decide +kernel
theorem dX6_fooled_109 : decode cX6_fooled 109 = .ok (.iload_n 1, 1) := by decide +kernel
theorem dX6_fooled_110 : decode cX6_fooled 110 = .ok (.if_icmp .eq 22, 3) := by decide +kernel
theorem dX6_fooled_113 : decode cX6_fooled 113 = .ok (.iload 7, 2) := by decide +kernel
theorem dX6_fooled_115 : decode cX6_fooled 115 = .ok (.ifCond .eq 17, 3) := by decide +kernel
theorem dX6_fooled_118 : decode cX6_fooled 118 = .ok (.iload 6, 2) := by decide +kernel
theorem dX6_fooled_120 : decode cX6_fooled 120 = .ok (.ifCond .ne 12, 3) := by decide +kernel
theorem dX6_fooled_123 : decode cX6_fooled 123 = .ok (.iload 4, 2) := by decide +kernel
theorem dX6_fooled_125 : decode cX6_fooled 125 = .ok (.iconst 1, 1) := by decide +kernel
theorem dX6_fooled_126 : decode cX6_fooled 126 = .ok (.iload 5, 2) := by decide +kernel
theorem dX6_fooled_128 : decode cX6_fooled 128 = .ok (.ishl, 1) := by decide +kernel
theorem dX6_fooled_129 : decode cX6_fooled 129 = .ok (.ior, 1) := by decide +kernel
theorem dX6_fooled_130 : decode cX6_fooled 130 = .ok (.istore 4, 2) := by decide +kernel
theorem dX6_fooled_132 : decode cX6_fooled 132 = .ok (.iinc 5 1, 3) := by decide +kernel
theorem dX6_fooled_135 : decode cX6_fooled 135 = .ok (.goto (-91), 3) := by decide +kernel
theorem dX6_fooled_138 : decode cX6_fooled 138 = .ok (.iload 4, 2) := by decide +kernel
theorem dX6_fooled_140 : decode cX6_fooled 140 = .ok (.ireturn, 1) := by decide +kernel
theorem dX6_letter_0 : decode cX6_letter 0 = .ok (.aload_n 0, 1) := by decide +kernel
theorem dX6_letter_1 : decode cX6_letter 1 = .ok (.getfield 10, 3) := by decide +kernel
theorem dX6_letter_4 : decode cX6_letter 4 = .ok (.iload_n 1, 1) := by decide +kernel
theorem dX6_letter_5 : decode cX6_letter 5 = .ok (.invokevirtual 79, 3) := by decide +kernel
theorem dX6_letter_8 : decode cX6_letter 8 = .ok (.ifCond .eq 14, 3) := by decide +kernel
theorem dX6_letter_11 : decode cX6_letter 11 = .ok (.aload_n 0, 1) := by decide +kernel
theorem dX6_letter_12 : decode cX6_letter 12 = .ok (.getfield 10, 3) := by decide +kernel
theorem dX6_letter_15 : decode cX6_letter 15 = .ok (.iload_n 2, 1) := by decide +kernel
theorem dX6_letter_16 : decode cX6_letter 16 = .ok (.invokevirtual 79, 3) := by decide +kernel
theorem dX6_letter_19 : decode cX6_letter 19 = .ok (.ifCond .ne 5, 3) := by decide +kernel
theorem dX6_letter_22 : decode cX6_letter 22 = .ok (.iconst (-1), 1) := by decide +kernel
theorem dX6_letter_23 : decode cX6_letter 23 = .ok (.ireturn, 1) := by decide +kernel
theorem dX6_letter_24 : decode cX6_letter 24 = .ok (.aload_n 0, 1) := by decide +kernel
theorem dX6_letter_25 : decode cX6_letter 25 = .ok (.getfield 10, 3) := by decide +kernel
theorem dX6_letter_28 : decode cX6_letter 28 = .ok (.iload_n 1, 1) := by decide +kernel
theorem dX6_letter_29 : decode cX6_letter 29 = .ok (.iload_n 2, 1) := by decide +kernel
theorem dX6_letter_30 : decode cX6_letter 30 = .ok (.isub, 1) := by decide +kernel
theorem dX6_letter_31 : decode cX6_letter 31 = .ok (.aload_n 0, 1) := by decide +kernel
theorem dX6_letter_32 : decode cX6_letter 32 = .ok (.getfield 10, 3) := by decide +kernel
theorem dX6_letter_35 : decode cX6_letter 35 = .ok (.getfield 73, 3) := by decide +kernel
theorem dX6_letter_38 : decode cX6_letter 38 = .ok (.invokestatic 178, 3) := by decide +kernel
theorem dX6_letter_41 : decode cX6_letter 41 = .ok (.invokevirtual 157, 3) := by decide +kernel
theorem dX6_letter_44 : decode cX6_letter 44 = .ok (.ireturn, 1) := by decide +kernel
theorem dX6_copy_0 : decode cX6_copy 0 = .ok (.aload_n 0, 1) := by decide +kernel
theorem dX6_copy_1 : decode cX6_copy 1 = .ok (.getfield 10, 3) := by decide +kernel
theorem dX6_copy_4 : decode cX6_copy 4 = .ok (.iload_n 1, 1) := by decide +kernel
theorem dX6_copy_5 : decode cX6_copy 5 = .ok (.invokevirtual 79, 3) := by decide +kernel
theorem dX6_copy_8 : decode cX6_copy 8 = .ok (.ifCond .ne 5, 3) := by decide +kernel
theorem dX6_copy_11 : decode cX6_copy 11 = .ok (.iconst (-1), 1) := by decide +kernel
theorem dX6_copy_12 : decode cX6_copy 12 = .ok (.ireturn, 1) := by decide +kernel
theorem dX6_copy_13 : decode cX6_copy 13 = .ok (.aload_n 0, 1) := by decide +kernel
theorem dX6_copy_14 : decode cX6_copy 14 = .ok (.getfield 10, 3) := by decide +kernel
theorem dX6_copy_17 : decode cX6_copy 17 = .ok (.getfield 73, 3) := by decide +kernel
theorem dX6_copy_20 : decode cX6_copy 20 = .ok (.aload_n 0, 1) := by decide +kernel
theorem dX6_copy_21 : decode cX6_copy 21 = .ok (.getfield 10, 3) := by decide +kernel
theorem dX6_copy_24 : decode cX6_copy 24 = .ok (.getfield 73, 3) := by decide +kernel
theorem dX6_copy_27 : decode cX6_copy 27 = .ok (.iconst 1, 1) := by decide +kernel
theorem dX6_copy_28 : decode cX6_copy 28 = .ok (.isub, 1) := by decide +kernel
theorem dX6_copy_29 : decode cX6_copy 29 = .ok (.imul, 1) := by decide +kernel
theorem dX6_copy_30 : decode cX6_copy 30 = .ok (.istore_n 2, 1) := by decide +kernel
theorem dX6_copy_31 : decode cX6_copy 31 = .ok (.iconst 1, 1) := by decide +kernel
theorem dX6_copy_32 : decode cX6_copy 32 = .ok (.istore_n 3, 1) := by decide +kernel
theorem dX6_copy_33 : decode cX6_copy 33 = .ok (.iload_n 3, 1) := by decide +kernel
theorem dX6_copy_34 : decode cX6_copy 34 = .ok (.iload_n 2, 1) := by decide +kernel
theorem dX6_copy_35 : decode cX6_copy 35 = .ok (.if_icmp .gt 55, 3) := by decide +kernel
theorem dX6_copy_38 : decode cX6_copy 38 = .ok (.aload_n 0, 1) := by decide +kernel
theorem dX6_copy_39 : decode cX6_copy 39 = .ok (.getfield 10, 3) := by decide +kernel
theorem dX6_copy_42 : decode cX6_copy 42 = .ok (.iload_n 3, 1) := by decide +kernel
theorem dX6_copy_43 : decode cX6_copy 43 = .ok (.invokevirtual 157, 3) := by decide +kernel
theorem dX6_copy_46 : decode cX6_copy 46 = .ok (.istore 4, 2) := by decide +kernel
theorem dX6_copy_48 : decode cX6_copy 48 = .ok (.iload 4, 2) := by decide +kernel
theorem dX6_copy_50 : decode cX6_copy 50 = .ok (.sipush 9999, 3) := by decide +kernel
theorem dX6_copy_53 : decode cX6_copy 53 = .ok (.if_icmp .gt 31, 3) := by decide +kernel
theorem dX6_copy_56 : decode cX6_copy 56 = .ok (.aload_n 0, 1) := by decide +kernel
theorem dX6_copy_57 : decode cX6_copy 57 = .ok (.getfield 10, 3) := by decide +kernel
theorem dX6_copy_60 : decode cX6_copy 60 = .ok (.iload_n 1, 1) := by decide +kernel
theorem dX6_copy_61 : decode cX6_copy 61 = .ok (.iload_n 3, 1) := by decide +kernel
theorem dX6_copy_62 : decode cX6_copy 62 = .ok (.invokevirtual 128, 3) := by decide +kernel
theorem dX6_copy_65 : decode cX6_copy 65 = .ok (.iload_n 1, 1) := by decide +kernel
theorem dX6_copy_66 : decode cX6_copy 66 = .ok (.iload_n 3, 1) := by decide +kernel
theorem dX6_copy_67 : decode cX6_copy 67 = .ok (.isub, 1) := by decide +kernel
theorem dX6_copy_68 : decode cX6_copy 68 = .ok (.aload_n 0, 1) := by decide +kernel
theorem dX6_copy_69 : decode cX6_copy 69 = .ok (.getfield 10, 3) := by decide +kernel
theorem dX6_copy_72 : decode cX6_copy 72 = .ok (.getfield 73, 3) := by decide +kernel
theorem dX6_copy_75 : decode cX6_copy 75 = .ok (.invokestatic 178, 3) := by decide +kernel
theorem dX6_copy_78 : decode cX6_copy 78 = .ok (.if_icmp .ne 6, 3) := by decide +kernel
theorem dX6_copy_81 : decode cX6_copy 81 = .ok (.iload 4, 2) := by decide +kernel
theorem dX6_copy_83 : decode cX6_copy 83 = .ok (.ireturn, 1) := by decide +kernel
theorem dX6_copy_84 : decode cX6_copy 84 = .ok (.iinc 3 1, 3) := by decide +kernel
theorem dX6_copy_87 : decode cX6_copy 87 = .ok (.goto (-54), 3) := by decide +kernel
theorem dX6_copy_90 : decode cX6_copy 90 = .ok (.bipush (-6), 2) := by decide +kernel
theorem dX6_copy_92 : decode cX6_copy 92 = .ok (.ireturn, 1) := by decide +kernel
theorem dX6_furs_0 : decode cX6_furs 0 = .ok (.iload_n 1, 1) := by decide +kernel
theorem dX6_furs_1 : decode cX6_furs 1 = .ok (.iconst 1, 1) := by decide +kernel
theorem dX6_furs_2 : decode cX6_furs 2 = .ok (.bipush 24, 2) := by decide +kernel
theorem dX6_furs_4 : decode cX6_furs 4 = .ok (.invokestatic 69, 3) := by decide +kernel
theorem dX6_furs_7 : decode cX6_furs 7 = .ok (.ifCond .eq 12, 3) := by decide +kernel
theorem dX6_furs_10 : decode cX6_furs 10 = .ok (.iload_n 2, 1) := by decide +kernel
theorem dX6_furs_11 : decode cX6_furs 11 = .ok (.iconst 0, 1) := by decide +kernel
theorem dX6_furs_12 : decode cX6_furs 12 = .ok (.iconst 1, 1) := by decide +kernel
theorem dX6_furs_13 : decode cX6_furs 13 = .ok (.invokestatic 69, 3) := by decide +kernel
theorem dX6_furs_16 : decode cX6_furs 16 = .ok (.ifCond .ne 6, 3) := by decide +kernel
theorem dX6_furs_19 : decode cX6_furs 19 = .ok (.bipush (-2), 2) := by decide +kernel
theorem dX6_furs_21 : decode cX6_furs 21 = .ok (.ireturn, 1) := by decide +kernel
theorem dX6_furs_22 : decode cX6_furs 22 = .ok (.iconst 0, 1) := by decide +kernel
theorem dX6_furs_23 : decode cX6_furs 23 = .ok (.istore_n 3, 1) := by decide +kernel
theorem dX6_furs_24 : decode cX6_furs 24 = .ok (.iconst 0, 1) := by decide +kernel
theorem dX6_furs_25 : decode cX6_furs 25 = .ok (.istore 4, 2) := by decide +kernel
theorem dX6_furs_27 : decode cX6_furs 27 = .ok (.iconst 0, 1) := by decide +kernel
theorem dX6_furs_28 : decode cX6_furs 28 = .ok (.istore 5, 2) := by decide +kernel
theorem dX6_furs_30 : decode cX6_furs 30 = .ok (.iload 5, 2) := by decide +kernel
theorem dX6_furs_32 : decode cX6_furs 32 = .ok (.iload_n 1, 1) := by decide +kernel
theorem dX6_furs_33 : decode cX6_furs 33 = .ok (.if_icmp .ge 33, 3) := by decide +kernel
theorem dX6_furs_36 : decode cX6_furs 36 = .ok (.aload_n 0, 1) := by decide +kernel
theorem dX6_furs_37 : decode cX6_furs 37 = .ok (.getfield 10, 3) := by decide +kernel
theorem dX6_furs_40 : decode cX6_furs 40 = .ok (.iload 5, 2) := by decide +kernel
theorem dX6_furs_42 : decode cX6_furs 42 = .ok (.invokevirtual 181, 3) := by decide +kernel
theorem dX6_furs_45 : decode cX6_furs 45 = .ok (.istore 6, 2) := by decide +kernel
theorem dX6_furs_47 : decode cX6_furs 47 = .ok (.iload 6, 2) := by decide +kernel
theorem dX6_furs_49 : decode cX6_furs 49 = .ok (.iload_n 3, 1) := by decide +kernel
theorem dX6_furs_50 : decode cX6_furs 50 = .ok (.if_icmp .le 10, 3) := by decide +kernel
theorem dX6_furs_53 : decode cX6_furs 53 = .ok (.iload 6, 2) := by decide +kernel
theorem dX6_furs_55 : decode cX6_furs 55 = .ok (.istore_n 3, 1) := by decide +kernel
theorem dX6_furs_56 : decode cX6_furs 56 = .ok (.iload 5, 2) := by decide +kernel
theorem dX6_furs_58 : decode cX6_furs 58 = .ok (.istore 4, 2) := by decide +kernel
theorem dX6_furs_60 : decode cX6_furs 60 = .ok (.iinc 5 1, 3) := by decide +kernel
theorem dX6_furs_63 : decode cX6_furs 63 = .ok (.goto (-33), 3) := by decide +kernel
theorem dX6_furs_66 : decode cX6_furs 66 = .ok (.iload_n 2, 1) := by decide +kernel
theorem dX6_furs_67 : decode cX6_furs 67 = .ok (.ifCond .ne 7, 3) := by decide +kernel
theorem dX6_furs_70 : decode cX6_furs 70 = .ok (.iload_n 3, 1) := by decide +kernel
theorem dX6_furs_71 : decode cX6_furs 71 = .ok (.goto 5, 3) := by decide +kernel
theorem dX6_furs_74 : decode cX6_furs 74 = .ok (.iload 4, 2) := by decide +kernel
theorem dX6_furs_76 : decode cX6_furs 76 = .ok (.ireturn, 1) := by decide +kernel
theorem dX6_seen_0 : decode cX6_seen 0 = .ok (.aload_n 0, 1) := by decide +kernel
theorem dX6_seen_1 : decode cX6_seen 1 = .ok (.getfield 10, 3) := by decide +kernel
theorem dX6_seen_4 : decode cX6_seen 4 = .ok (.iload_n 1, 1) := by decide +kernel
theorem dX6_seen_5 : decode cX6_seen 5 = .ok (.invokevirtual 79, 3) := by decide +kernel
theorem dX6_seen_8 : decode cX6_seen 8 = .ok (.ifCond .ne 5, 3) := by decide +kernel
theorem dX6_seen_11 : decode cX6_seen 11 = .ok (.iconst (-1), 1) := by decide +kernel
theorem dX6_seen_12 : decode cX6_seen 12 = .ok (.ireturn, 1) := by decide +kernel
theorem dX6_seen_13 : decode cX6_seen 13 = .ok (.aload_n 0, 1) := by decide +kernel
theorem dX6_seen_14 : decode cX6_seen 14 = .ok (.getfield 10, 3) := by decide +kernel
theorem dX6_seen_17 : decode cX6_seen 17 = .ok (.getfield 184, 3) := by decide +kernel
theorem dX6_seen_20 : decode cX6_seen 20 = .ok (.bipush 8, 2) := by decide +kernel
theorem dX6_seen_22 : decode cX6_seen 22 = .ok (.if_icmp .lt 6, 3) := by decide +kernel
theorem dX6_seen_25 : decode cX6_seen 25 = .ok (.bipush (-4), 2) := by decide +kernel
theorem dX6_seen_27 : decode cX6_seen 27 = .ok (.ireturn, 1) := by decide +kernel
theorem dX6_seen_28 : decode cX6_seen 28 = .ok (.aload_n 0, 1) := by decide +kernel
theorem dX6_seen_29 : decode cX6_seen 29 = .ok (.getfield 10, 3) := by decide +kernel
theorem dX6_seen_32 : decode cX6_seen 32 = .ok (.getfield 187, 3) := by decide +kernel
theorem dX6_seen_35 : decode cX6_seen 35 = .ok (.aload_n 0, 1) := by decide +kernel
theorem dX6_seen_36 : decode cX6_seen 36 = .ok (.getfield 10, 3) := by decide +kernel
theorem dX6_seen_39 : decode cX6_seen 39 = .ok (.getfield 184, 3) := by decide +kernel
theorem dX6_seen_42 : decode cX6_seen 42 = .ok (.iload_n 1, 1) := by decide +kernel
theorem dX6_seen_43 : decode cX6_seen 43 = .ok (.invokevirtual 93, 3) := by decide +kernel
theorem dX6_seen_46 : decode cX6_seen 46 = .ok (.aload_n 0, 1) := by decide +kernel
theorem dX6_seen_47 : decode cX6_seen 47 = .ok (.getfield 10, 3) := by decide +kernel
theorem dX6_seen_50 : decode cX6_seen 50 = .ok (.getfield 190, 3) := by decide +kernel
theorem dX6_seen_53 : decode cX6_seen 53 = .ok (.aload_n 0, 1) := by decide +kernel
theorem dX6_seen_54 : decode cX6_seen 54 = .ok (.getfield 10, 3) := by decide +kernel
theorem dX6_seen_57 : decode cX6_seen 57 = .ok (.getfield 184, 3) := by decide +kernel
theorem dX6_seen_60 : decode cX6_seen 60 = .ok (.iload_n 2, 1) := by decide +kernel
theorem dX6_seen_61 : decode cX6_seen 61 = .ok (.ifCond .eq 7, 3) := by decide +kernel
theorem dX6_seen_64 : decode cX6_seen 64 = .ok (.iconst 1, 1) := by decide +kernel
theorem dX6_seen_65 : decode cX6_seen 65 = .ok (.goto 4, 3) := by decide +kernel
theorem dX6_seen_68 : decode cX6_seen 68 = .ok (.iconst 0, 1) := by decide +kernel
theorem dX6_seen_69 : decode cX6_seen 69 = .ok (.invokevirtual 93, 3) := by decide +kernel
theorem dX6_seen_72 : decode cX6_seen 72 = .ok (.aload_n 0, 1) := by decide +kernel
theorem dX6_seen_73 : decode cX6_seen 73 = .ok (.getfield 10, 3) := by decide +kernel
theorem dX6_seen_76 : decode cX6_seen 76 = .ok (.dup, 1) := by decide +kernel
theorem dX6_seen_77 : decode cX6_seen 77 = .ok (.getfield 184, 3) := by decide +kernel
theorem dX6_seen_80 : decode cX6_seen 80 = .ok (.iconst 1, 1) := by decide +kernel
theorem dX6_seen_81 : decode cX6_seen 81 = .ok (.iadd, 1) := by decide +kernel
theorem dX6_seen_82 : decode cX6_seen 82 = .ok (.putfield 184, 3) := by decide +kernel
theorem dX6_seen_85 : decode cX6_seen 85 = .ok (.aload_n 0, 1) := by decide +kernel
theorem dX6_seen_86 : decode cX6_seen 86 = .ok (.getfield 10, 3) := by decide +kernel
theorem dX6_seen_89 : decode cX6_seen 89 = .ok (.getfield 184, 3) := by decide +kernel
theorem dX6_seen_92 : decode cX6_seen 92 = .ok (.ireturn, 1) := by decide +kernel
theorem dX6_forget_0 : decode cX6_forget 0 = .ok (.aload_n 0, 1) := by decide +kernel
theorem dX6_forget_1 : decode cX6_forget 1 = .ok (.getfield 10, 3) := by decide +kernel
theorem dX6_forget_4 : decode cX6_forget 4 = .ok (.getfield 184, 3) := by decide +kernel
theorem dX6_forget_7 : decode cX6_forget 7 = .ok (.istore_n 1, 1) := by decide +kernel
theorem dX6_forget_8 : decode cX6_forget 8 = .ok (.aload_n 0, 1) := by decide +kernel
theorem dX6_forget_9 : decode cX6_forget 9 = .ok (.getfield 10, 3) := by decide +kernel
theorem dX6_forget_12 : decode cX6_forget 12 = .ok (.iconst 0, 1) := by decide +kernel
theorem dX6_forget_13 : decode cX6_forget 13 = .ok (.putfield 184, 3) := by decide +kernel
theorem dX6_forget_16 : decode cX6_forget 16 = .ok (.iload_n 1, 1) := by decide +kernel
theorem dX6_forget_17 : decode cX6_forget 17 = .ok (.ireturn, 1) := by decide +kernel
theorem dX6_changed_0 : decode cX6_changed 0 = .ok (.aload_n 0, 1) := by decide +kernel
theorem dX6_changed_1 : decode cX6_changed 1 = .ok (.getfield 51, 3) := by decide +kernel
theorem dX6_changed_4 : decode cX6_changed 4 = .ok (.aload_n 0, 1) := by decide +kernel
theorem dX6_changed_5 : decode cX6_changed 5 = .ok (.getfield 10, 3) := by decide +kernel
theorem dX6_changed_8 : decode cX6_changed 8 = .ok (.invokevirtual 193, 3) := by decide +kernel
theorem dX6_changed_11 : decode cX6_changed 11 = .ok (.iload_n 1, 1) := by decide +kernel
theorem dX6_changed_12 : decode cX6_changed 12 = .ok (.iconst (-1), 1) := by decide +kernel
theorem dX6_changed_13 : decode cX6_changed 13 = .ok (.if_icmp .ne 11, 3) := by decide +kernel
theorem dX6_changed_16 : decode cX6_changed 16 = .ok (.aload_n 0, 1) := by decide +kernel
theorem dX6_changed_17 : decode cX6_changed 17 = .ok (.getfield 51, 3) := by decide +kernel
theorem dX6_changed_20 : decode cX6_changed 20 = .ok (.invokevirtual 196, 3) := by decide +kernel
theorem dX6_changed_23 : decode cX6_changed 23 = .ok (.ireturn, 1) := by decide +kernel
theorem dX6_changed_24 : decode cX6_changed 24 = .ok (.iload_n 1, 1) := by decide +kernel
theorem dX6_changed_25 : decode cX6_changed 25 = .ok (.ifCond .lt 14, 3) := by decide +kernel
theorem dX6_changed_28 : decode cX6_changed 28 = .ok (.iload_n 1, 1) := by decide +kernel
theorem dX6_changed_29 : decode cX6_changed 29 = .ok (.aload_n 0, 1) := by decide +kernel
theorem dX6_changed_30 : decode cX6_changed 30 = .ok (.getfield 51, 3) := by decide +kernel
theorem dX6_changed_33 : decode cX6_changed 33 = .ok (.invokevirtual 196, 3) := by decide +kernel
theorem dX6_changed_36 : decode cX6_changed 36 = .ok (.if_icmp .lt 6, 3) := by decide +kernel
theorem dX6_changed_39 : decode cX6_changed 39 = .ok (.bipush (-6), 2) := by decide +kernel
theorem dX6_changed_41 : decode cX6_changed 41 = .ok (.ireturn, 1) := by decide +kernel
theorem dX6_changed_42 : decode cX6_changed 42 = .ok (.aload_n 0, 1) := by decide +kernel
theorem dX6_changed_43 : decode cX6_changed 43 = .ok (.getfield 51, 3) := by decide +kernel
theorem dX6_changed_46 : decode cX6_changed 46 = .ok (.aload_n 0, 1) := by decide +kernel
theorem dX6_changed_47 : decode cX6_changed 47 = .ok (.getfield 10, 3) := by decide +kernel
theorem dX6_changed_50 : decode cX6_changed 50 = .ok (.iload_n 1, 1) := by decide +kernel
theorem dX6_changed_51 : decode cX6_changed 51 = .ok (.invokevirtual 199, 3) := by decide +kernel
theorem dX6_changed_54 : decode cX6_changed 54 = .ok (.ireturn, 1) := by decide +kernel
theorem dX6_names_0 : decode cX6_names 0 = .ok (.aload_n 0, 1) := by decide +kernel
theorem dX6_names_1 : decode cX6_names 1 = .ok (.getfield 10, 3) := by decide +kernel
theorem dX6_names_4 : decode cX6_names 4 = .ok (.iload_n 1, 1) := by decide +kernel
theorem dX6_names_5 : decode cX6_names 5 = .ok (.invokevirtual 79, 3) := by decide +kernel
theorem dX6_names_8 : decode cX6_names 8 = .ok (.ifCond .eq 14, 3) := by decide +kernel
theorem dX6_names_11 : decode cX6_names 11 = .ok (.aload_n 0, 1) := by decide +kernel
theorem dX6_names_12 : decode cX6_names 12 = .ok (.getfield 10, 3) := by decide +kernel
theorem dX6_names_15 : decode cX6_names 15 = .ok (.iload_n 1, 1) := by decide +kernel
theorem dX6_names_16 : decode cX6_names 16 = .ok (.invokevirtual 203, 3) := by decide +kernel
theorem dX6_names_19 : decode cX6_names 19 = .ok (.ifCond .ne 5, 3) := by decide +kernel
theorem dX6_names_22 : decode cX6_names 22 = .ok (.iconst (-1), 1) := by decide +kernel
theorem dX6_names_23 : decode cX6_names 23 = .ok (.ireturn, 1) := by decide +kernel
theorem dX6_names_24 : decode cX6_names 24 = .ok (.aload_n 0, 1) := by decide +kernel
theorem dX6_names_25 : decode cX6_names 25 = .ok (.getfield 51, 3) := by decide +kernel
theorem dX6_names_28 : decode cX6_names 28 = .ok (.aload_n 0, 1) := by decide +kernel
theorem dX6_names_29 : decode cX6_names 29 = .ok (.getfield 10, 3) := by decide +kernel
theorem dX6_names_32 : decode cX6_names 32 = .ok (.invokevirtual 193, 3) := by decide +kernel
theorem dX6_names_35 : decode cX6_names 35 = .ok (.aload_n 0, 1) := by decide +kernel
theorem dX6_names_36 : decode cX6_names 36 = .ok (.getfield 51, 3) := by decide +kernel
theorem dX6_names_39 : decode cX6_names 39 = .ok (.aload_n 0, 1) := by decide +kernel
theorem dX6_names_40 : decode cX6_names 40 = .ok (.getfield 10, 3) := by decide +kernel
theorem dX6_names_43 : decode cX6_names 43 = .ok (.iload_n 1, 1) := by decide +kernel
theorem dX6_names_44 : decode cX6_names 44 = .ok (.invokevirtual 206, 3) := by decide +kernel
theorem dX6_names_47 : decode cX6_names 47 = .ok (.ireturn, 1) := by decide +kernel
theorem dX6_hear_0 : decode cX6_hear 0 = .ok (.iload_n 1, 1) := by decide +kernel
theorem dX6_hear_1 : decode cX6_hear 1 = .ok (.iconst 0, 1) := by decide +kernel
theorem dX6_hear_2 : decode cX6_hear 2 = .ok (.iconst 1, 1) := by decide +kernel
theorem dX6_hear_3 : decode cX6_hear 3 = .ok (.invokestatic 69, 3) := by decide +kernel
theorem dX6_hear_6 : decode cX6_hear 6 = .ok (.ifCond .ne 6, 3) := by decide +kernel
theorem dX6_hear_9 : decode cX6_hear 9 = .ok (.bipush (-2), 2) := by decide +kernel
theorem dX6_hear_11 : decode cX6_hear 11 = .ok (.ireturn, 1) := by decide +kernel
theorem dX6_hear_12 : decode cX6_hear 12 = .ok (.aload_n 0, 1) := by decide +kernel
theorem dX6_hear_13 : decode cX6_hear 13 = .ok (.getfield 51, 3) := by decide +kernel
theorem dX6_hear_16 : decode cX6_hear 16 = .ok (.aload_n 0, 1) := by decide +kernel
theorem dX6_hear_17 : decode cX6_hear 17 = .ok (.getfield 10, 3) := by decide +kernel
theorem dX6_hear_20 : decode cX6_hear 20 = .ok (.invokevirtual 193, 3) := by decide +kernel
theorem dX6_hear_23 : decode cX6_hear 23 = .ok (.aload_n 0, 1) := by decide +kernel
theorem dX6_hear_24 : decode cX6_hear 24 = .ok (.getfield 51, 3) := by decide +kernel
theorem dX6_hear_27 : decode cX6_hear 27 = .ok (.aload_n 0, 1) := by decide +kernel
theorem dX6_hear_28 : decode cX6_hear 28 = .ok (.getfield 10, 3) := by decide +kernel
theorem dX6_hear_31 : decode cX6_hear 31 = .ok (.getfield 73, 3) := by decide +kernel
theorem dX6_hear_34 : decode cX6_hear 34 = .ok (.invokevirtual 209, 3) := by decide +kernel
theorem dX6_hear_37 : decode cX6_hear 37 = .ok (.istore_n 2, 1) := by decide +kernel
theorem dX6_hear_38 : decode cX6_hear 38 = .ok (.iload_n 2, 1) := by decide +kernel
theorem dX6_hear_39 : decode cX6_hear 39 = .ok (.bipush (-6), 2) := by decide +kernel
theorem dX6_hear_41 : decode cX6_hear 41 = .ok (.if_icmp .ne 6, 3) := by decide +kernel
theorem dX6_hear_44 : decode cX6_hear 44 = .ok (.bipush (-6), 2) := by decide +kernel
theorem dX6_hear_46 : decode cX6_hear 46 = .ok (.ireturn, 1) := by decide +kernel
theorem dX6_hear_47 : decode cX6_hear 47 = .ok (.iload_n 1, 1) := by decide +kernel
theorem dX6_hear_48 : decode cX6_hear 48 = .ok (.ifCond .ne 7, 3) := by decide +kernel
theorem dX6_hear_51 : decode cX6_hear 51 = .ok (.iload_n 2, 1) := by decide +kernel
theorem dX6_hear_52 : decode cX6_hear 52 = .ok (.goto 11, 3) := by decide +kernel
theorem dX6_hear_55 : decode cX6_hear 55 = .ok (.aload_n 0, 1) := by decide +kernel
theorem dX6_hear_56 : decode cX6_hear 56 = .ok (.getfield 51, 3) := by decide +kernel
theorem dX6_hear_59 : decode cX6_hear 59 = .ok (.iload_n 2, 1) := by decide +kernel
theorem dX6_hear_60 : decode cX6_hear 60 = .ok (.invokevirtual 212, 3) := by decide +kernel
theorem dX6_hear_63 : decode cX6_hear 63 = .ok (.ireturn, 1) := by decide +kernel
theorem dX6_undo_0 : decode cX6_undo 0 = .ok (.iconst 0, 1) := by decide +kernel
theorem dX6_undo_1 : decode cX6_undo 1 = .ok (.istore_n 1, 1) := by decide +kernel
theorem dX6_undo_2 : decode cX6_undo 2 = .ok (.iload_n 1, 1) := by decide +kernel
theorem dX6_undo_3 : decode cX6_undo 3 = .ok (.aload_n 0, 1) := by decide +kernel
theorem dX6_undo_4 : decode cX6_undo 4 = .ok (.getfield 10, 3) := by decide +kernel
theorem dX6_undo_7 : decode cX6_undo 7 = .ok (.getfield 73, 3) := by decide +kernel
theorem dX6_undo_10 : decode cX6_undo 10 = .ok (.if_icmp .ge 41, 3) := by decide +kernel
theorem dX6_undo_13 : decode cX6_undo 13 = .ok (.aload_n 0, 1) := by decide +kernel
theorem dX6_undo_14 : decode cX6_undo 14 = .ok (.getfield 10, 3) := by decide +kernel
theorem dX6_undo_17 : decode cX6_undo 17 = .ok (.iload_n 1, 1) := by decide +kernel
theorem dX6_undo_18 : decode cX6_undo 18 = .ok (.invokevirtual 203, 3) := by decide +kernel
theorem dX6_undo_21 : decode cX6_undo 21 = .ok (.ifCond .eq 24, 3) := by decide +kernel
theorem dX6_undo_24 : decode cX6_undo 24 = .ok (.aload_n 0, 1) := by decide +kernel
theorem dX6_undo_25 : decode cX6_undo 25 = .ok (.getfield 10, 3) := by decide +kernel
theorem dX6_undo_28 : decode cX6_undo 28 = .ok (.aload_n 0, 1) := by decide +kernel
theorem dX6_undo_29 : decode cX6_undo 29 = .ok (.getfield 10, 3) := by decide +kernel
theorem dX6_undo_32 : decode cX6_undo 32 = .ok (.iload_n 1, 1) := by decide +kernel
theorem dX6_undo_33 : decode cX6_undo 33 = .ok (.invokevirtual 175, 3) := by decide +kernel
theorem dX6_undo_36 : decode cX6_undo 36 = .ok (.invokevirtual 203, 3) := by decide +kernel
theorem dX6_undo_39 : decode cX6_undo 39 = .ok (.ifCond .ne 6, 3) := by decide +kernel
theorem dX6_undo_42 : decode cX6_undo 42 = .ok (.bipush (-6), 2) := by decide +kernel
theorem dX6_undo_44 : decode cX6_undo 44 = .ok (.ireturn, 1) := by decide +kernel
theorem dX6_undo_45 : decode cX6_undo 45 = .ok (.iinc 1 1, 3) := by decide +kernel
theorem dX6_undo_48 : decode cX6_undo 48 = .ok (.goto (-46), 3) := by decide +kernel
theorem dX6_undo_51 : decode cX6_undo 51 = .ok (.aload_n 0, 1) := by decide +kernel
theorem dX6_undo_52 : decode cX6_undo 52 = .ok (.getfield 16, 3) := by decide +kernel
theorem dX6_undo_55 : decode cX6_undo 55 = .ok (.aload_n 0, 1) := by decide +kernel
theorem dX6_undo_56 : decode cX6_undo 56 = .ok (.getfield 10, 3) := by decide +kernel
theorem dX6_undo_59 : decode cX6_undo 59 = .ok (.invokevirtual 124, 3) := by decide +kernel
theorem dX6_undo_62 : decode cX6_undo 62 = .ok (.iconst 0, 1) := by decide +kernel
theorem dX6_undo_63 : decode cX6_undo 63 = .ok (.istore_n 1, 1) := by decide +kernel
theorem dX6_undo_64 : decode cX6_undo 64 = .ok (.iconst 0, 1) := by decide +kernel
theorem dX6_undo_65 : decode cX6_undo 65 = .ok (.istore_n 2, 1) := by decide +kernel
theorem dX6_undo_66 : decode cX6_undo 66 = .ok (.iload_n 2, 1) := by decide +kernel
theorem dX6_undo_67 : decode cX6_undo 67 = .ok (.aload_n 0, 1) := by decide +kernel
theorem dX6_undo_68 : decode cX6_undo 68 = .ok (.getfield 16, 3) := by decide +kernel
theorem dX6_undo_71 : decode cX6_undo 71 = .ok (.getfield 73, 3) := by decide +kernel
theorem dX6_undo_74 : decode cX6_undo 74 = .ok (.if_icmp .ge 54, 3) := by decide +kernel
theorem dX6_undo_77 : decode cX6_undo 77 = .ok (.aload_n 0, 1) := by decide +kernel
theorem dX6_undo_78 : decode cX6_undo 78 = .ok (.getfield 16, 3) := by decide +kernel
theorem dX6_undo_81 : decode cX6_undo 81 = .ok (.iload_n 2, 1) := by decide +kernel
theorem dX6_undo_82 : decode cX6_undo 82 = .ok (.invokevirtual 203, 3) := by decide +kernel
theorem dX6_undo_85 : decode cX6_undo 85 = .ok (.ifCond .eq 37, 3) := by decide +kernel
theorem dX6_undo_88 : decode cX6_undo 88 = .ok (.aload_n 0, 1) := by decide +kernel
theorem dX6_undo_89 : decode cX6_undo 89 = .ok (.getfield 16, 3) := by decide +kernel
theorem dX6_undo_92 : decode cX6_undo 92 = .ok (.getfield 132, 3) := by decide +kernel
theorem dX6_undo_95 : decode cX6_undo 95 = .ok (.iload_n 2, 1) := by decide +kernel
theorem dX6_undo_96 : decode cX6_undo 96 = .ok (.invokevirtual 89, 3) := by decide +kernel
theorem dX6_undo_99 : decode cX6_undo 99 = .ok (.iload_n 2, 1) := by decide +kernel
theorem dX6_undo_100 : decode cX6_undo 100 = .ok (.if_icmp .eq 22, 3) := by decide +kernel
theorem dX6_undo_103 : decode cX6_undo 103 = .ok (.aload_n 0, 1) := by decide +kernel
theorem dX6_undo_104 : decode cX6_undo 104 = .ok (.getfield 16, 3) := by decide +kernel
theorem dX6_undo_107 : decode cX6_undo 107 = .ok (.iload_n 2, 1) := by decide +kernel
theorem dX6_undo_108 : decode cX6_undo 108 = .ok (.aload_n 0, 1) := by decide +kernel
theorem dX6_undo_109 : decode cX6_undo 109 = .ok (.getfield 16, 3) := by decide +kernel
theorem dX6_undo_112 : decode cX6_undo 112 = .ok (.iload_n 2, 1) := by decide +kernel
theorem dX6_undo_113 : decode cX6_undo 113 = .ok (.invokevirtual 175, 3) := by decide +kernel
theorem dX6_undo_116 : decode cX6_undo 116 = .ok (.invokevirtual 215, 3) := by decide +kernel
theorem dX6_undo_119 : decode cX6_undo 119 = .ok (.iinc 1 1, 3) := by decide +kernel
theorem dX6_undo_122 : decode cX6_undo 122 = .ok (.iinc 2 1, 3) := by decide +kernel
theorem dX6_undo_125 : decode cX6_undo 125 = .ok (.goto (-59), 3) := by decide +kernel
theorem dX6_undo_128 : decode cX6_undo 128 = .ok (.iload_n 1, 1) := by decide +kernel
theorem dX6_undo_129 : decode cX6_undo 129 = .ok (.ireturn, 1) := by decide +kernel
theorem dX6_marriages_0 : decode cX6_marriages 0 = .ok (.iload_n 1, 1) := by decide +kernel
theorem dX6_marriages_1 : decode cX6_marriages 1 = .ok (.iconst 1, 1) := by decide +kernel
theorem dX6_marriages_2 : decode cX6_marriages 2 = .ok (.bipush 24, 2) := by decide +kernel
theorem dX6_marriages_4 : decode cX6_marriages 4 = .ok (.invokestatic 69, 3) := by decide +kernel
theorem dX6_marriages_7 : decode cX6_marriages 7 = .ok (.ifCond .ne 6, 3) := by decide +kernel
theorem dX6_marriages_10 : decode cX6_marriages 10 = .ok (.bipush (-2), 2) := by decide +kernel
theorem dX6_marriages_12 : decode cX6_marriages 12 = .ok (.ireturn, 1) := by decide +kernel
theorem dX6_marriages_13 : decode cX6_marriages 13 = .ok (.aload_n 0, 1) := by decide +kernel
theorem dX6_marriages_14 : decode cX6_marriages 14 = .ok (.getfield 58, 3) := by decide +kernel
theorem dX6_marriages_17 : decode cX6_marriages 17 = .ok (.aload_n 0, 1) := by decide +kernel
theorem dX6_marriages_18 : decode cX6_marriages 18 = .ok (.getfield 10, 3) := by decide +kernel
theorem dX6_marriages_21 : decode cX6_marriages 21 = .ok (.iload_n 1, 1) := by decide +kernel
theorem dX6_marriages_22 : decode cX6_marriages 22 = .ok (.invokevirtual 218, 3) := by decide +kernel
theorem dX6_marriages_25 : decode cX6_marriages 25 = .ok (.ireturn, 1) := by decide +kernel
theorem dX6_deaths_0 : decode cX6_deaths 0 = .ok (.iload_n 1, 1) := by decide +kernel
theorem dX6_deaths_1 : decode cX6_deaths 1 = .ok (.iconst 0, 1) := by decide +kernel
theorem dX6_deaths_2 : decode cX6_deaths 2 = .ok (.iconst 3, 1) := by decide +kernel
theorem dX6_deaths_3 : decode cX6_deaths 3 = .ok (.invokestatic 69, 3) := by decide +kernel
theorem dX6_deaths_6 : decode cX6_deaths 6 = .ok (.ifCond .eq 32, 3) := by decide +kernel
theorem dX6_deaths_9 : decode cX6_deaths 9 = .ok (.iload_n 2, 1) := by decide +kernel
theorem dX6_deaths_10 : decode cX6_deaths 10 = .ok (.iconst 0, 1) := by decide +kernel
theorem dX6_deaths_11 : decode cX6_deaths 11 = .ok (.bipush 10, 2) := by decide +kernel
theorem dX6_deaths_13 : decode cX6_deaths 13 = .ok (.invokestatic 69, 3) := by decide +kernel
theorem dX6_deaths_16 : decode cX6_deaths 16 = .ok (.ifCond .eq 22, 3) := by decide +kernel
theorem dX6_deaths_19 : decode cX6_deaths 19 = .ok (.iload_n 3, 1) := by decide +kernel
theorem dX6_deaths_20 : decode cX6_deaths 20 = .ok (.iconst 0, 1) := by decide +kernel
theorem dX6_deaths_21 : decode cX6_deaths 21 = .ok (.iconst 1, 1) := by decide +kernel
theorem dX6_deaths_22 : decode cX6_deaths 22 = .ok (.invokestatic 69, 3) := by decide +kernel
theorem dX6_deaths_25 : decode cX6_deaths 25 = .ok (.ifCond .eq 13, 3) := by decide +kernel
theorem dX6_deaths_28 : decode cX6_deaths 28 = .ok (.iload 4, 2) := by decide +kernel
theorem dX6_deaths_30 : decode cX6_deaths 30 = .ok (.iconst 0, 1) := by decide +kernel
theorem dX6_deaths_31 : decode cX6_deaths 31 = .ok (.iconst 1, 1) := by decide +kernel
theorem dX6_deaths_32 : decode cX6_deaths 32 = .ok (.invokestatic 69, 3) := by decide +kernel
theorem dX6_deaths_35 : decode cX6_deaths 35 = .ok (.ifCond .ne 7, 3) := by decide +kernel
theorem dX6_deaths_38 : decode cX6_deaths 38 = .ok (.ldc2_w 221, 3) := by decide +kernel
theorem dX6_deaths_41 : decode cX6_deaths 41 = .ok (.lreturn, 1) := by decide +kernel
theorem dX6_deaths_42 : decode cX6_deaths 42 = .ok (.aload_n 0, 1) := by decide +kernel
theorem dX6_deaths_43 : decode cX6_deaths 43 = .ok (.getfield 10, 3) := by decide +kernel
theorem dX6_deaths_46 : decode cX6_deaths 46 = .ok (.getfield 223, 3) := by decide +kernel
theorem dX6_deaths_49 : decode cX6_deaths 49 = .ok (.invokestatic 226, 3) := by decide +kernel
theorem dX6_deaths_52 : decode cX6_deaths 52 = .ok (.istore 5, 2) := by decide +kernel
theorem dX6_deaths_54 : decode cX6_deaths 54 = .ok (.bipush 10, 2) := by decide +kernel
theorem dX6_deaths_56 : decode cX6_deaths 56 = .ok (.iload_n 2, 1) := by decide +kernel
theorem dX6_deaths_57 : decode cX6_deaths 57 = .ok (.isub, 1) := by decide +kernel
theorem dX6_deaths_58 : decode cX6_deaths 58 = .ok (.i2l, 1) := by decide +kernel
theorem dX6_deaths_59 : decode cX6_deaths 59 = .ok (.ldc2_w 231, 3) := by decide +kernel
theorem dX6_deaths_62 : decode cX6_deaths 62 = .ok (.invokestatic 233, 3) := by decide +kernel
theorem dX6_deaths_65 : decode cX6_deaths 65 = .ok (.lstore 6, 2) := by decide +kernel
theorem dX6_deaths_67 : decode cX6_deaths 67 = .ok (.iload_n 3, 1) := by decide +kernel
theorem dX6_deaths_68 : decode cX6_deaths 68 = .ok (.ifCond .ne 10, 3) := by decide +kernel
theorem dX6_deaths_71 : decode cX6_deaths 71 = .ok (.iload_n 1, 1) := by decide +kernel
theorem dX6_deaths_72 : decode cX6_deaths 72 = .ok (.iload 5, 2) := by decide +kernel
theorem dX6_deaths_74 : decode cX6_deaths 74 = .ok (.imul, 1) := by decide +kernel
theorem dX6_deaths_75 : decode cX6_deaths 75 = .ok (.goto 4, 3) := by decide +kernel
theorem dX6_deaths_78 : decode cX6_deaths 78 = .ok (.iload_n 1, 1) := by decide +kernel
theorem dX6_deaths_79 : decode cX6_deaths 79 = .ok (.istore 8, 2) := by decide +kernel
theorem dX6_deaths_81 : decode cX6_deaths 81 = .ok (.bipush 10, 2) := by decide +kernel
theorem dX6_deaths_83 : decode cX6_deaths 83 = .ok (.iload_n 2, 1) := by decide +kernel
theorem dX6_deaths_84 : decode cX6_deaths 84 = .ok (.isub, 1) := by decide +kernel
theorem dX6_deaths_85 : decode cX6_deaths 85 = .ok (.i2l, 1) := by decide +kernel
theorem dX6_deaths_86 : decode cX6_deaths 86 = .ok (.lload 6, 2) := by decide +kernel
theorem dX6_deaths_88 : decode cX6_deaths 88 = .ok (.invokestatic 237, 3) := by decide +kernel
theorem dX6_deaths_91 : decode cX6_deaths 91 = .ok (.iload 8, 2) := by decide +kernel
theorem dX6_deaths_93 : decode cX6_deaths 93 = .ok (.invokestatic 240, 3) := by decide +kernel
theorem dX6_deaths_96 : decode cX6_deaths 96 = .ok (.iload_n 3, 1) := by decide +kernel
theorem dX6_deaths_97 : decode cX6_deaths 97 = .ok (.ifCond .ne 7, 3) := by decide +kernel
theorem dX6_deaths_100 : decode cX6_deaths 100 = .ok (.iconst 1, 1) := by decide +kernel
theorem dX6_deaths_101 : decode cX6_deaths 101 = .ok (.goto 5, 3) := by decide +kernel
theorem dX6_deaths_104 : decode cX6_deaths 104 = .ok (.iload 5, 2) := by decide +kernel
theorem dX6_deaths_106 : decode cX6_deaths 106 = .ok (.i2l, 1) := by decide +kernel
theorem dX6_deaths_107 : decode cX6_deaths 107 = .ok (.lmul, 1) := by decide +kernel
theorem dX6_deaths_108 : decode cX6_deaths 108 = .ok (.lstore 9, 2) := by decide +kernel
theorem dX6_deaths_110 : decode cX6_deaths 110 = .ok (.ldc2_w 231, 3) := by decide +kernel
theorem dX6_deaths_113 : decode cX6_deaths 113 = .ok (.lload 6, 2) := by decide +kernel
theorem dX6_deaths_115 : decode cX6_deaths 115 = .ok (.invokestatic 237, 3) := by decide +kernel
theorem dX6_deaths_118 : decode cX6_deaths 118 = .ok (.iload 8, 2) := by decide +kernel
theorem dX6_deaths_120 : decode cX6_deaths 120 = .ok (.invokestatic 240, 3) := by decide +kernel
theorem dX6_deaths_123 : decode cX6_deaths 123 = .ok (.lstore 11, 2) := by decide +kernel
theorem dX6_deaths_125 : decode cX6_deaths 125 = .ok (.iload 4, 2) := by decide +kernel
theorem dX6_deaths_127 : decode cX6_deaths 127 = .ok (.ifCond .ne 8, 3) := by decide +kernel
theorem dX6_deaths_130 : decode cX6_deaths 130 = .ok (.lload 9, 2) := by decide +kernel
theorem dX6_deaths_132 : decode cX6_deaths 132 = .ok (.goto 5, 3) := by decide +kernel
theorem dX6_deaths_135 : decode cX6_deaths 135 = .ok (.lload 11, 2) := by decide +kernel
theorem dX6_deaths_137 : decode cX6_deaths 137 = .ok (.lload 9, 2) := by decide +kernel
theorem dX6_deaths_139 : decode cX6_deaths 139 = .ok (.lload 11, 2) := by decide +kernel
theorem dX6_deaths_141 : decode cX6_deaths 141 = .ok (.invokestatic 233, 3) := by decide +kernel
theorem dX6_deaths_144 : decode cX6_deaths 144 = .ok (.invokestatic 237, 3) := by decide +kernel
theorem dX6_deaths_147 : decode cX6_deaths 147 = .ok (.lreturn, 1) := by decide +kernel
theorem dX6_year_0 : decode cX6_year 0 = .ok (.iload_n 1, 1) := by decide +kernel
theorem dX6_year_1 : decode cX6_year 1 = .ok (.iconst 0, 1) := by decide +kernel
theorem dX6_year_2 : decode cX6_year 2 = .ok (.sipush 9999, 3) := by decide +kernel
theorem dX6_year_5 : decode cX6_year 5 = .ok (.invokestatic 69, 3) := by decide +kernel
theorem dX6_year_8 : decode cX6_year 8 = .ok (.ifCond .eq 22, 3) := by decide +kernel
theorem dX6_year_11 : decode cX6_year 11 = .ok (.iload_n 2, 1) := by decide +kernel
theorem dX6_year_12 : decode cX6_year 12 = .ok (.iconst 1, 1) := by decide +kernel
theorem dX6_year_13 : decode cX6_year 13 = .ok (.bipush 99, 2) := by decide +kernel
theorem dX6_year_15 : decode cX6_year 15 = .ok (.invokestatic 69, 3) := by decide +kernel
theorem dX6_year_18 : decode cX6_year 18 = .ok (.ifCond .eq 12, 3) := by decide +kernel
theorem dX6_year_21 : decode cX6_year 21 = .ok (.iload_n 3, 1) := by decide +kernel
theorem dX6_year_22 : decode cX6_year 22 = .ok (.iconst 0, 1) := by decide +kernel
theorem dX6_year_23 : decode cX6_year 23 = .ok (.iconst 2, 1) := by decide +kernel
theorem dX6_year_24 : decode cX6_year 24 = .ok (.invokestatic 69, 3) := by decide +kernel
theorem dX6_year_27 : decode cX6_year 27 = .ok (.ifCond .ne 6, 3) := by decide +kernel
theorem dX6_year_30 : decode cX6_year 30 = .ok (.bipush (-2), 2) := by decide +kernel
theorem dX6_year_32 : decode cX6_year 32 = .ok (.ireturn, 1) := by decide +kernel
theorem dX6_year_33 : decode cX6_year 33 = .ok (.aload_n 0, 1) := by decide +kernel
theorem dX6_year_34 : decode cX6_year 34 = .ok (.iload_n 1, 1) := by decide +kernel
theorem dX6_year_35 : decode cX6_year 35 = .ok (.iload_n 2, 1) := by decide +kernel
theorem dX6_year_36 : decode cX6_year 36 = .ok (.invokevirtual 244, 3) := by decide +kernel
theorem dX6_year_39 : decode cX6_year 39 = .ok (.iload_n 3, 1) := by decide +kernel
theorem dX6_year_40 : decode cX6_year 40 = .ok (.ifCond .ne 19, 3) := by decide +kernel
theorem dX6_year_43 : decode cX6_year 43 = .ok (.aload_n 0, 1) := by decide +kernel
theorem dX6_year_44 : decode cX6_year 44 = .ok (.getfield 16, 3) := by decide +kernel
theorem dX6_year_47 : decode cX6_year 47 = .ok (.getfield 141, 3) := by decide +kernel
theorem dX6_year_50 : decode cX6_year 50 = .ok (.aload_n 0, 1) := by decide +kernel
theorem dX6_year_51 : decode cX6_year 51 = .ok (.getfield 10, 3) := by decide +kernel
theorem dX6_year_54 : decode cX6_year 54 = .ok (.getfield 141, 3) := by decide +kernel
theorem dX6_year_57 : decode cX6_year 57 = .ok (.isub, 1) := by decide +kernel
theorem dX6_year_58 : decode cX6_year 58 = .ok (.ireturn, 1) := by decide +kernel
theorem dX6_year_59 : decode cX6_year 59 = .ok (.iload_n 3, 1) := by decide +kernel
theorem dX6_year_60 : decode cX6_year 60 = .ok (.iconst 1, 1) := by decide +kernel
theorem dX6_year_61 : decode cX6_year 61 = .ok (.if_icmp .ne 13, 3) := by decide +kernel
theorem dX6_year_64 : decode cX6_year 64 = .ok (.aload_n 0, 1) := by decide +kernel
theorem dX6_year_65 : decode cX6_year 65 = .ok (.getfield 16, 3) := by decide +kernel
theorem dX6_year_68 : decode cX6_year 68 = .ok (.invokevirtual 247, 3) := by decide +kernel
theorem dX6_year_71 : decode cX6_year 71 = .ok (.goto 10, 3) := by decide +kernel
theorem dX6_year_74 : decode cX6_year 74 = .ok (.aload_n 0, 1) := by decide +kernel
theorem dX6_year_75 : decode cX6_year 75 = .ok (.getfield 16, 3) := by decide +kernel
theorem dX6_year_78 : decode cX6_year 78 = .ok (.invokevirtual 250, 3) := by decide +kernel
theorem dX6_year_81 : decode cX6_year 81 = .ok (.ireturn, 1) := by decide +kernel
theorem dX6_image_0 : decode cX6_image 0 = .ok (.iload_n 1, 1) := by decide +kernel
theorem dX6_image_1 : decode cX6_image 1 = .ok (.iconst 0, 1) := by decide +kernel
theorem dX6_image_2 : decode cX6_image 2 = .ok (.iconst 1, 1) := by decide +kernel
theorem dX6_image_3 : decode cX6_image 3 = .ok (.invokestatic 69, 3) := by decide +kernel
theorem dX6_image_6 : decode cX6_image 6 = .ok (.ifCond .ne 6, 3) := by decide +kernel
theorem dX6_image_9 : decode cX6_image 9 = .ok (.bipush (-2), 2) := by decide +kernel
theorem dX6_image_11 : decode cX6_image 11 = .ok (.ireturn, 1) := by decide +kernel
theorem dX6_image_12 : decode cX6_image 12 = .ok (.aload_n 0, 1) := by decide +kernel
theorem dX6_image_13 : decode cX6_image 13 = .ok (.iload_n 1, 1) := by decide +kernel
theorem dX6_image_14 : decode cX6_image 14 = .ok (.invokevirtual 253, 3) := by decide +kernel
theorem dX6_image_17 : decode cX6_image 17 = .ok (.aload_n 0, 1) := by decide +kernel
theorem dX6_image_18 : decode cX6_image 18 = .ok (.getfield 10, 3) := by decide +kernel
theorem dX6_image_21 : decode cX6_image 21 = .ok (.invokevirtual 124, 3) := by decide +kernel
theorem dX6_image_24 : decode cX6_image 24 = .ok (.aload_n 0, 1) := by decide +kernel
theorem dX6_image_25 : decode cX6_image 25 = .ok (.getfield 30, 3) := by decide +kernel
theorem dX6_image_28 : decode cX6_image 28 = .ok (.iload_n 1, 1) := by decide +kernel
theorem dX6_image_29 : decode cX6_image 29 = .ok (.iconst 1, 1) := by decide +kernel
theorem dX6_image_30 : decode cX6_image 30 = .ok (.invokevirtual 93, 3) := by decide +kernel
theorem dX6_image_33 : decode cX6_image 33 = .ok (.iconst 1, 1) := by decide +kernel
theorem dX6_image_34 : decode cX6_image 34 = .ok (.ireturn, 1) := by decide +kernel
theorem dX6_restore_0 : decode cX6_restore 0 = .ok (.iload_n 1, 1) := by decide +kernel
theorem dX6_restore_1 : decode cX6_restore 1 = .ok (.iconst 0, 1) := by decide +kernel
theorem dX6_restore_2 : decode cX6_restore 2 = .ok (.iconst 1, 1) := by decide +kernel
theorem dX6_restore_3 : decode cX6_restore 3 = .ok (.invokestatic 69, 3) := by decide +kernel
theorem dX6_restore_6 : decode cX6_restore 6 = .ok (.ifCond .ne 6, 3) := by decide +kernel
theorem dX6_restore_9 : decode cX6_restore 9 = .ok (.bipush (-2), 2) := by decide +kernel
theorem dX6_restore_11 : decode cX6_restore 11 = .ok (.ireturn, 1) := by decide +kernel
theorem dX6_restore_12 : decode cX6_restore 12 = .ok (.aload_n 0, 1) := by decide +kernel
theorem dX6_restore_13 : decode cX6_restore 13 = .ok (.getfield 30, 3) := by decide +kernel
theorem dX6_restore_16 : decode cX6_restore 16 = .ok (.iload_n 1, 1) := by decide +kernel
theorem dX6_restore_17 : decode cX6_restore 17 = .ok (.invokevirtual 89, 3) := by decide +kernel
theorem dX6_restore_20 : decode cX6_restore 20 = .ok (.ifCond .ne 6, 3) := by decide +kernel
theorem dX6_restore_23 : decode cX6_restore 23 = .ok (.bipush (-3), 2) := by decide +kernel
theorem dX6_restore_25 : decode cX6_restore 25 = .ok (.ireturn, 1) := by decide +kernel
theorem dX6_restore_26 : decode cX6_restore 26 = .ok (.aload_n 0, 1) := by decide +kernel
theorem dX6_restore_27 : decode cX6_restore 27 = .ok (.getfield 10, 3) := by decide +kernel
theorem dX6_restore_30 : decode cX6_restore 30 = .ok (.aload_n 0, 1) := by decide +kernel
theorem dX6_restore_31 : decode cX6_restore 31 = .ok (.iload_n 1, 1) := by decide +kernel
theorem dX6_restore_32 : decode cX6_restore 32 = .ok (.invokevirtual 253, 3) := by decide +kernel
theorem dX6_restore_35 : decode cX6_restore 35 = .ok (.invokevirtual 124, 3) := by decide +kernel
theorem dX6_restore_38 : decode cX6_restore 38 = .ok (.iconst 1, 1) := by decide +kernel
theorem dX6_restore_39 : decode cX6_restore 39 = .ok (.ireturn, 1) := by decide +kernel
theorem dX6_told_0 : decode cX6_told 0 = .ok (.iload_n 1, 1) := by decide +kernel
theorem dX6_told_1 : decode cX6_told 1 = .ok (.tableswitch 99 0 6 #[43, 51, 59, 67, 75, 83, 91], 43) := by decide +kernel
theorem dX6_told_44 : decode cX6_told 44 = .ok (.aload_n 0, 1) := by decide +kernel
theorem dX6_told_45 : decode cX6_told 45 = .ok (.getfield 37, 3) := by decide +kernel
theorem dX6_told_48 : decode cX6_told 48 = .ok (.getfield 97, 3) := by decide +kernel
theorem dX6_told_51 : decode cX6_told 51 = .ok (.ireturn, 1) := by decide +kernel
theorem dX6_told_52 : decode cX6_told 52 = .ok (.aload_n 0, 1) := by decide +kernel
theorem dX6_told_53 : decode cX6_told 53 = .ok (.getfield 10, 3) := by decide +kernel
theorem dX6_told_56 : decode cX6_told 56 = .ok (.getfield 73, 3) := by decide +kernel
theorem dX6_told_59 : decode cX6_told 59 = .ok (.ireturn, 1) := by decide +kernel
theorem dX6_told_60 : decode cX6_told 60 = .ok (.aload_n 0, 1) := by decide +kernel
theorem dX6_told_61 : decode cX6_told 61 = .ok (.getfield 10, 3) := by decide +kernel
theorem dX6_told_64 : decode cX6_told 64 = .ok (.getfield 62, 3) := by decide +kernel
theorem dX6_told_67 : decode cX6_told 67 = .ok (.ireturn, 1) := by decide +kernel
theorem dX6_told_68 : decode cX6_told 68 = .ok (.aload_n 0, 1) := by decide +kernel
theorem dX6_told_69 : decode cX6_told 69 = .ok (.getfield 10, 3) := by decide +kernel
theorem dX6_told_72 : decode cX6_told 72 = .ok (.getfield 141, 3) := by decide +kernel
theorem dX6_told_75 : decode cX6_told 75 = .ok (.ireturn, 1) := by decide +kernel
theorem dX6_told_76 : decode cX6_told 76 = .ok (.aload_n 0, 1) := by decide +kernel
theorem dX6_told_77 : decode cX6_told 77 = .ok (.getfield 10, 3) := by decide +kernel
theorem dX6_told_80 : decode cX6_told 80 = .ok (.getfield 257, 3) := by decide +kernel
theorem dX6_told_83 : decode cX6_told 83 = .ok (.ireturn, 1) := by decide +kernel
theorem dX6_told_84 : decode cX6_told 84 = .ok (.aload_n 0, 1) := by decide +kernel
theorem dX6_told_85 : decode cX6_told 85 = .ok (.getfield 10, 3) := by decide +kernel
theorem dX6_told_88 : decode cX6_told 88 = .ok (.getfield 223, 3) := by decide +kernel
theorem dX6_told_91 : decode cX6_told 91 = .ok (.ireturn, 1) := by decide +kernel
theorem dX6_told_92 : decode cX6_told 92 = .ok (.aload_n 0, 1) := by decide +kernel
theorem dX6_told_93 : decode cX6_told 93 = .ok (.getfield 10, 3) := by decide +kernel
theorem dX6_told_96 : decode cX6_told 96 = .ok (.getfield 184, 3) := by decide +kernel
theorem dX6_told_99 : decode cX6_told 99 = .ok (.ireturn, 1) := by decide +kernel
theorem dX6_told_100 : decode cX6_told 100 = .ok (.aload_n 0, 1) := by decide +kernel
theorem dX6_told_101 : decode cX6_told 101 = .ok (.iload_n 1, 1) := by decide +kernel
theorem dX6_told_102 : decode cX6_told 102 = .ok (.invokevirtual 260, 3) := by decide +kernel
theorem dX6_told_105 : decode cX6_told 105 = .ok (.ireturn, 1) := by decide +kernel
theorem dX6_toldOfOne_0 : decode cX6_toldOfOne 0 = .ok (.iload_n 1, 1) := by decide +kernel
theorem dX6_toldOfOne_1 : decode cX6_toldOfOne 1 = .ok (.bipush 10, 2) := by decide +kernel
theorem dX6_toldOfOne_3 : decode cX6_toldOfOne 3 = .ok (.bipush 9, 2) := by decide +kernel
theorem dX6_toldOfOne_5 : decode cX6_toldOfOne 5 = .ok (.aload_n 0, 1) := by decide +kernel
theorem dX6_toldOfOne_6 : decode cX6_toldOfOne 6 = .ok (.getfield 10, 3) := by decide +kernel
theorem dX6_toldOfOne_9 : decode cX6_toldOfOne 9 = .ok (.getfield 73, 3) := by decide +kernel
theorem dX6_toldOfOne_12 : decode cX6_toldOfOne 12 = .ok (.iadd, 1) := by decide +kernel
theorem dX6_toldOfOne_13 : decode cX6_toldOfOne 13 = .ok (.invokestatic 69, 3) := by decide +kernel
theorem dX6_toldOfOne_16 : decode cX6_toldOfOne 16 = .ok (.ifCond .eq 18, 3) := by decide +kernel
theorem dX6_toldOfOne_19 : decode cX6_toldOfOne 19 = .ok (.aload_n 0, 1) := by decide +kernel
theorem dX6_toldOfOne_20 : decode cX6_toldOfOne 20 = .ok (.getfield 10, 3) := by decide +kernel
theorem dX6_toldOfOne_23 : decode cX6_toldOfOne 23 = .ok (.getfield 83, 3) := by decide +kernel
theorem dX6_toldOfOne_26 : decode cX6_toldOfOne 26 = .ok (.iload_n 1, 1) := by decide +kernel
theorem dX6_toldOfOne_27 : decode cX6_toldOfOne 27 = .ok (.bipush 10, 2) := by decide +kernel
theorem dX6_toldOfOne_29 : decode cX6_toldOfOne 29 = .ok (.isub, 1) := by decide +kernel
theorem dX6_toldOfOne_30 : decode cX6_toldOfOne 30 = .ok (.invokevirtual 89, 3) := by decide +kernel
theorem dX6_toldOfOne_33 : decode cX6_toldOfOne 33 = .ok (.ireturn, 1) := by decide +kernel
theorem dX6_toldOfOne_34 : decode cX6_toldOfOne 34 = .ok (.iload_n 1, 1) := by decide +kernel
theorem dX6_toldOfOne_35 : decode cX6_toldOfOne 35 = .ok (.bipush 20, 2) := by decide +kernel
theorem dX6_toldOfOne_37 : decode cX6_toldOfOne 37 = .ok (.bipush 19, 2) := by decide +kernel
theorem dX6_toldOfOne_39 : decode cX6_toldOfOne 39 = .ok (.aload_n 0, 1) := by decide +kernel
theorem dX6_toldOfOne_40 : decode cX6_toldOfOne 40 = .ok (.getfield 10, 3) := by decide +kernel
theorem dX6_toldOfOne_43 : decode cX6_toldOfOne 43 = .ok (.getfield 73, 3) := by decide +kernel
theorem dX6_toldOfOne_46 : decode cX6_toldOfOne 46 = .ok (.iadd, 1) := by decide +kernel
theorem dX6_toldOfOne_47 : decode cX6_toldOfOne 47 = .ok (.invokestatic 69, 3) := by decide +kernel
theorem dX6_toldOfOne_50 : decode cX6_toldOfOne 50 = .ok (.ifCond .eq 18, 3) := by decide +kernel
theorem dX6_toldOfOne_53 : decode cX6_toldOfOne 53 = .ok (.aload_n 0, 1) := by decide +kernel
theorem dX6_toldOfOne_54 : decode cX6_toldOfOne 54 = .ok (.getfield 10, 3) := by decide +kernel
theorem dX6_toldOfOne_57 : decode cX6_toldOfOne 57 = .ok (.getfield 86, 3) := by decide +kernel
theorem dX6_toldOfOne_60 : decode cX6_toldOfOne 60 = .ok (.iload_n 1, 1) := by decide +kernel
theorem dX6_toldOfOne_61 : decode cX6_toldOfOne 61 = .ok (.bipush 20, 2) := by decide +kernel
theorem dX6_toldOfOne_63 : decode cX6_toldOfOne 63 = .ok (.isub, 1) := by decide +kernel
theorem dX6_toldOfOne_64 : decode cX6_toldOfOne 64 = .ok (.invokevirtual 89, 3) := by decide +kernel
theorem dX6_toldOfOne_67 : decode cX6_toldOfOne 67 = .ok (.ireturn, 1) := by decide +kernel
theorem dX6_toldOfOne_68 : decode cX6_toldOfOne 68 = .ok (.bipush (-2), 2) := by decide +kernel
theorem dX6_toldOfOne_70 : decode cX6_toldOfOne 70 = .ok (.ireturn, 1) := by decide +kernel
theorem dX6_imageAt_0 : decode cX6_imageAt 0 = .ok (.iload_n 1, 1) := by decide +kernel
theorem dX6_imageAt_1 : decode cX6_imageAt 1 = .ok (.ifCond .ne 10, 3) := by decide +kernel
theorem dX6_imageAt_4 : decode cX6_imageAt 4 = .ok (.aload_n 0, 1) := by decide +kernel
theorem dX6_imageAt_5 : decode cX6_imageAt 5 = .ok (.getfield 19, 3) := by decide +kernel
theorem dX6_imageAt_8 : decode cX6_imageAt 8 = .ok (.goto 7, 3) := by decide +kernel
theorem dX6_imageAt_11 : decode cX6_imageAt 11 = .ok (.aload_n 0, 1) := by decide +kernel
theorem dX6_imageAt_12 : decode cX6_imageAt 12 = .ok (.getfield 22, 3) := by decide +kernel
theorem dX6_imageAt_15 : decode cX6_imageAt 15 = .ok (.areturn, 1) := by decide +kernel
theorem dX6_yearsCanBe_0 : decode cX6_yearsCanBe 0 = .ok (.aload_n 0, 1) := by decide +kernel
theorem dX6_yearsCanBe_1 : decode cX6_yearsCanBe 1 = .ok (.getfield 37, 3) := by decide +kernel
theorem dX6_yearsCanBe_4 : decode cX6_yearsCanBe 4 = .ok (.aload_n 0, 1) := by decide +kernel
theorem dX6_yearsCanBe_5 : decode cX6_yearsCanBe 5 = .ok (.getfield 10, 3) := by decide +kernel
theorem dX6_yearsCanBe_8 : decode cX6_yearsCanBe 8 = .ok (.getfield 73, 3) := by decide +kernel
theorem dX6_yearsCanBe_11 : decode cX6_yearsCanBe 11 = .ok (.invokevirtual 107, 3) := by decide +kernel
theorem dX6_yearsCanBe_14 : decode cX6_yearsCanBe 14 = .ok (.bipush (-6), 2) := by decide +kernel
theorem dX6_yearsCanBe_16 : decode cX6_yearsCanBe 16 = .ok (.if_icmp .ne 29, 3) := by decide +kernel
theorem dX6_yearsCanBe_19 : decode cX6_yearsCanBe 19 = .ok (.aload_n 0, 1) := by decide +kernel
theorem dX6_yearsCanBe_20 : decode cX6_yearsCanBe 20 = .ok (.getfield 44, 3) := by decide +kernel
theorem dX6_yearsCanBe_23 : decode cX6_yearsCanBe 23 = .ok (.aload_n 0, 1) := by decide +kernel
theorem dX6_yearsCanBe_24 : decode cX6_yearsCanBe 24 = .ok (.getfield 10, 3) := by decide +kernel
theorem dX6_yearsCanBe_27 : decode cX6_yearsCanBe 27 = .ok (.aload_n 0, 1) := by decide +kernel
theorem dX6_yearsCanBe_28 : decode cX6_yearsCanBe 28 = .ok (.getfield 16, 3) := by decide +kernel
theorem dX6_yearsCanBe_31 : decode cX6_yearsCanBe 31 = .ok (.aload_n 0, 1) := by decide +kernel
theorem dX6_yearsCanBe_32 : decode cX6_yearsCanBe 32 = .ok (.getfield 37, 3) := by decide +kernel
theorem dX6_yearsCanBe_35 : decode cX6_yearsCanBe 35 = .ok (.invokevirtual 110, 3) := by decide +kernel
theorem dX6_yearsCanBe_38 : decode cX6_yearsCanBe 38 = .ok (.ifCond .eq 7, 3) := by decide +kernel
theorem dX6_yearsCanBe_41 : decode cX6_yearsCanBe 41 = .ok (.iconst 1, 1) := by decide +kernel
theorem dX6_yearsCanBe_42 : decode cX6_yearsCanBe 42 = .ok (.goto 4, 3) := by decide +kernel
theorem dX6_yearsCanBe_45 : decode cX6_yearsCanBe 45 = .ok (.iconst 0, 1) := by decide +kernel
theorem dX6_yearsCanBe_46 : decode cX6_yearsCanBe 46 = .ok (.ireturn, 1) := by decide +kernel
theorem dX6_drawYear_0 : decode cX6_drawYear 0 = .ok (.aload_n 0, 1) := by decide +kernel
theorem dX6_drawYear_1 : decode cX6_drawYear 1 = .ok (.getfield 16, 3) := by decide +kernel
theorem dX6_drawYear_4 : decode cX6_drawYear 4 = .ok (.aload_n 0, 1) := by decide +kernel
theorem dX6_drawYear_5 : decode cX6_drawYear 5 = .ok (.getfield 10, 3) := by decide +kernel
theorem dX6_drawYear_8 : decode cX6_drawYear 8 = .ok (.invokevirtual 124, 3) := by decide +kernel
theorem dX6_drawYear_11 : decode cX6_drawYear 11 = .ok (.iload_n 1, 1) := by decide +kernel
theorem dX6_drawYear_12 : decode cX6_drawYear 12 = .ok (.istore_n 3, 1) := by decide +kernel
theorem dX6_drawYear_13 : decode cX6_drawYear 13 = .ok (.iconst 0, 1) := by decide +kernel
theorem dX6_drawYear_14 : decode cX6_drawYear 14 = .ok (.istore 4, 2) := by decide +kernel
theorem dX6_drawYear_16 : decode cX6_drawYear 16 = .ok (.iload 4, 2) := by decide +kernel
theorem dX6_drawYear_18 : decode cX6_drawYear 18 = .ok (.iload_n 2, 1) := by decide +kernel
theorem dX6_drawYear_19 : decode cX6_drawYear 19 = .ok (.if_icmp .ge 26, 3) := by decide +kernel
theorem dX6_drawYear_22 : decode cX6_drawYear 22 = .ok (.bipush 75, 2) := by decide +kernel
theorem dX6_drawYear_24 : decode cX6_drawYear 24 = .ok (.iload_n 3, 1) := by decide +kernel
theorem dX6_drawYear_25 : decode cX6_drawYear 25 = .ok (.imul, 1) := by decide +kernel
theorem dX6_drawYear_26 : decode cX6_drawYear 26 = .ok (.bipush 74, 2) := by decide +kernel
theorem dX6_drawYear_28 : decode cX6_drawYear 28 = .ok (.iadd, 1) := by decide +kernel
theorem dX6_drawYear_29 : decode cX6_drawYear 29 = .ok (.ldc_w 263, 3) := by decide +kernel
theorem dX6_drawYear_32 : decode cX6_drawYear 32 = .ok (.irem, 1) := by decide +kernel
theorem dX6_drawYear_33 : decode cX6_drawYear 33 = .ok (.istore_n 3, 1) := by decide +kernel
theorem dX6_drawYear_34 : decode cX6_drawYear 34 = .ok (.aload_n 0, 1) := by decide +kernel
theorem dX6_drawYear_35 : decode cX6_drawYear 35 = .ok (.iload_n 3, 1) := by decide +kernel
theorem dX6_drawYear_36 : decode cX6_drawYear 36 = .ok (.invokevirtual 264, 3) := by decide +kernel
theorem dX6_drawYear_39 : decode cX6_drawYear 39 = .ok (.iinc 4 1, 3) := by decide +kernel
theorem dX6_drawYear_42 : decode cX6_drawYear 42 = .ok (.goto (-26), 3) := by decide +kernel
theorem dX6_drawYear_45 : decode cX6_drawYear 45 = .ok (.return_, 1) := by decide +kernel
theorem dX6_drawAct_0 : decode cX6_drawAct 0 = .ok (.iload_n 1, 1) := by decide +kernel
theorem dX6_drawAct_1 : decode cX6_drawAct 1 = .ok (.bipush 8, 2) := by decide +kernel
theorem dX6_drawAct_3 : decode cX6_drawAct 3 = .ok (.idiv, 1) := by decide +kernel
theorem dX6_drawAct_4 : decode cX6_drawAct 4 = .ok (.aload_n 0, 1) := by decide +kernel
theorem dX6_drawAct_5 : decode cX6_drawAct 5 = .ok (.getfield 16, 3) := by decide +kernel
theorem dX6_drawAct_8 : decode cX6_drawAct 8 = .ok (.getfield 73, 3) := by decide +kernel
theorem dX6_drawAct_11 : decode cX6_drawAct 11 = .ok (.invokestatic 178, 3) := by decide +kernel
theorem dX6_drawAct_14 : decode cX6_drawAct 14 = .ok (.istore_n 2, 1) := by decide +kernel
theorem dX6_drawAct_15 : decode cX6_drawAct 15 = .ok (.iload_n 1, 1) := by decide +kernel
theorem dX6_drawAct_16 : decode cX6_drawAct 16 = .ok (.bipush 64, 2) := by decide +kernel
theorem dX6_drawAct_18 : decode cX6_drawAct 18 = .ok (.idiv, 1) := by decide +kernel
theorem dX6_drawAct_19 : decode cX6_drawAct 19 = .ok (.aload_n 0, 1) := by decide +kernel
theorem dX6_drawAct_20 : decode cX6_drawAct 20 = .ok (.getfield 16, 3) := by decide +kernel
theorem dX6_drawAct_23 : decode cX6_drawAct 23 = .ok (.getfield 73, 3) := by decide +kernel
theorem dX6_drawAct_26 : decode cX6_drawAct 26 = .ok (.invokestatic 178, 3) := by decide +kernel
theorem dX6_drawAct_29 : decode cX6_drawAct 29 = .ok (.istore_n 3, 1) := by decide +kernel
theorem dX6_drawAct_30 : decode cX6_drawAct 30 = .ok (.iload_n 1, 1) := by decide +kernel
theorem dX6_drawAct_31 : decode cX6_drawAct 31 = .ok (.bipush 8, 2) := by decide +kernel
theorem dX6_drawAct_33 : decode cX6_drawAct 33 = .ok (.irem, 1) := by decide +kernel
theorem dX6_drawAct_34 : decode cX6_drawAct 34 = .ok (.tableswitch 68 0 3 #[30, 43, 56, 56], 30) := by decide +kernel
theorem dX6_drawAct_64 : decode cX6_drawAct 64 = .ok (.aload_n 0, 1) := by decide +kernel
theorem dX6_drawAct_65 : decode cX6_drawAct 65 = .ok (.getfield 16, 3) := by decide +kernel
theorem dX6_drawAct_68 : decode cX6_drawAct 68 = .ok (.iload_n 2, 1) := by decide +kernel
theorem dX6_drawAct_69 : decode cX6_drawAct 69 = .ok (.iconst 1, 1) := by decide +kernel
theorem dX6_drawAct_70 : decode cX6_drawAct 70 = .ok (.invokevirtual 267, 3) := by decide +kernel
theorem dX6_drawAct_73 : decode cX6_drawAct 73 = .ok (.pop, 1) := by decide +kernel
theorem dX6_drawAct_74 : decode cX6_drawAct 74 = .ok (.goto 35, 3) := by decide +kernel
theorem dX6_drawAct_77 : decode cX6_drawAct 77 = .ok (.aload_n 0, 1) := by decide +kernel
theorem dX6_drawAct_78 : decode cX6_drawAct 78 = .ok (.getfield 16, 3) := by decide +kernel
theorem dX6_drawAct_81 : decode cX6_drawAct 81 = .ok (.iload_n 2, 1) := by decide +kernel
theorem dX6_drawAct_82 : decode cX6_drawAct 82 = .ok (.iload_n 3, 1) := by decide +kernel
theorem dX6_drawAct_83 : decode cX6_drawAct 83 = .ok (.invokevirtual 270, 3) := by decide +kernel
theorem dX6_drawAct_86 : decode cX6_drawAct 86 = .ok (.pop, 1) := by decide +kernel
theorem dX6_drawAct_87 : decode cX6_drawAct 87 = .ok (.goto 22, 3) := by decide +kernel
theorem dX6_drawAct_90 : decode cX6_drawAct 90 = .ok (.aload_n 0, 1) := by decide +kernel
theorem dX6_drawAct_91 : decode cX6_drawAct 91 = .ok (.getfield 16, 3) := by decide +kernel
theorem dX6_drawAct_94 : decode cX6_drawAct 94 = .ok (.bipush 10, 2) := by decide +kernel
theorem dX6_drawAct_96 : decode cX6_drawAct 96 = .ok (.invokevirtual 273, 3) := by decide +kernel
theorem dX6_drawAct_99 : decode cX6_drawAct 99 = .ok (.goto 10, 3) := by decide +kernel
theorem dX6_drawAct_102 : decode cX6_drawAct 102 = .ok (.aload_n 0, 1) := by decide +kernel
theorem dX6_drawAct_103 : decode cX6_drawAct 103 = .ok (.getfield 16, 3) := by decide +kernel
theorem dX6_drawAct_106 : decode cX6_drawAct 106 = .ok (.invokevirtual 276, 3) := by decide +kernel
theorem dX6_drawAct_109 : decode cX6_drawAct 109 = .ok (.return_, 1) := by decide +kernel
theorem dX6_within_0 : decode cX6_within 0 = .ok (.iload_n 0, 1) := by decide +kernel
theorem dX6_within_1 : decode cX6_within 1 = .ok (.iload_n 1, 1) := by decide +kernel
theorem dX6_within_2 : decode cX6_within 2 = .ok (.if_icmp .lt 12, 3) := by decide +kernel
theorem dX6_within_5 : decode cX6_within 5 = .ok (.iload_n 0, 1) := by decide +kernel
theorem dX6_within_6 : decode cX6_within 6 = .ok (.iload_n 2, 1) := by decide +kernel
theorem dX6_within_7 : decode cX6_within 7 = .ok (.if_icmp .gt 7, 3) := by decide +kernel
theorem dX6_within_10 : decode cX6_within 10 = .ok (.iconst 1, 1) := by decide +kernel
theorem dX6_within_11 : decode cX6_within 11 = .ok (.goto 4, 3) := by decide +kernel
theorem dX6_within_14 : decode cX6_within 14 = .ok (.iconst 0, 1) := by decide +kernel
theorem dX6_within_15 : decode cX6_within 15 = .ok (.ireturn, 1) := by decide +kernel
theorem dX6_leftOver_0 : decode cX6_leftOver 0 = .ok (.iload_n 1, 1) := by decide +kernel
theorem dX6_leftOver_1 : decode cX6_leftOver 1 = .ok (.ifCond .gt 5, 3) := by decide +kernel
theorem dX6_leftOver_4 : decode cX6_leftOver 4 = .ok (.iconst 0, 1) := by decide +kernel
theorem dX6_leftOver_5 : decode cX6_leftOver 5 = .ok (.ireturn, 1) := by decide +kernel
theorem dX6_leftOver_6 : decode cX6_leftOver 6 = .ok (.iload_n 0, 1) := by decide +kernel
theorem dX6_leftOver_7 : decode cX6_leftOver 7 = .ok (.iload_n 1, 1) := by decide +kernel
theorem dX6_leftOver_8 : decode cX6_leftOver 8 = .ok (.irem, 1) := by decide +kernel
theorem dX6_leftOver_9 : decode cX6_leftOver 9 = .ok (.istore_n 2, 1) := by decide +kernel
theorem dX6_leftOver_10 : decode cX6_leftOver 10 = .ok (.iload_n 2, 1) := by decide +kernel
theorem dX6_leftOver_11 : decode cX6_leftOver 11 = .ok (.ifCond .ge 9, 3) := by decide +kernel
theorem dX6_leftOver_14 : decode cX6_leftOver 14 = .ok (.iload_n 2, 1) := by decide +kernel
theorem dX6_leftOver_15 : decode cX6_leftOver 15 = .ok (.iload_n 1, 1) := by decide +kernel
theorem dX6_leftOver_16 : decode cX6_leftOver 16 = .ok (.iadd, 1) := by decide +kernel
theorem dX6_leftOver_17 : decode cX6_leftOver 17 = .ok (.goto 4, 3) := by decide +kernel
theorem dX6_leftOver_20 : decode cX6_leftOver 20 = .ok (.iload_n 2, 1) := by decide +kernel
theorem dX6_leftOver_21 : decode cX6_leftOver 21 = .ok (.ireturn, 1) := by decide +kernel
theorem dX6_cut_0 : decode cX6_cut 0 = .ok (.iload_n 1, 1) := by decide +kernel
theorem dX6_cut_1 : decode cX6_cut 1 = .ok (.ifCond .le 9, 3) := by decide +kernel
theorem dX6_cut_4 : decode cX6_cut 4 = .ok (.iload_n 0, 1) := by decide +kernel
theorem dX6_cut_5 : decode cX6_cut 5 = .ok (.iload_n 1, 1) := by decide +kernel
theorem dX6_cut_6 : decode cX6_cut 6 = .ok (.idiv, 1) := by decide +kernel
theorem dX6_cut_7 : decode cX6_cut 7 = .ok (.goto 4, 3) := by decide +kernel
theorem dX6_cut_10 : decode cX6_cut 10 = .ok (.iconst 0, 1) := by decide +kernel
theorem dX6_cut_11 : decode cX6_cut 11 = .ok (.ireturn, 1) := by decide +kernel
theorem dX6_cut__0 : decode cX6_cut_ 0 = .ok (.lload_n 2, 1) := by decide +kernel
theorem dX6_cut__1 : decode cX6_cut_ 1 = .ok (.lconst 0, 1) := by decide +kernel
theorem dX6_cut__2 : decode cX6_cut_ 2 = .ok (.lcmp, 1) := by decide +kernel
theorem dX6_cut__3 : decode cX6_cut_ 3 = .ok (.ifCond .le 9, 3) := by decide +kernel
theorem dX6_cut__6 : decode cX6_cut_ 6 = .ok (.lload_n 0, 1) := by decide +kernel
theorem dX6_cut__7 : decode cX6_cut_ 7 = .ok (.lload_n 2, 1) := by decide +kernel
theorem dX6_cut__8 : decode cX6_cut_ 8 = .ok (.ldiv, 1) := by decide +kernel
theorem dX6_cut__9 : decode cX6_cut_ 9 = .ok (.goto 4, 3) := by decide +kernel
theorem dX6_cut__12 : decode cX6_cut_ 12 = .ok (.lconst 0, 1) := by decide +kernel
theorem dX6_cut__13 : decode cX6_cut_ 13 = .ok (.lreturn, 1) := by decide +kernel
theorem dX6_commonDivisor_0 : decode cX6_commonDivisor 0 = .ok (.lload_n 0, 1) := by decide +kernel
theorem dX6_commonDivisor_1 : decode cX6_commonDivisor 1 = .ok (.lstore 4, 2) := by decide +kernel
theorem dX6_commonDivisor_3 : decode cX6_commonDivisor 3 = .ok (.lload_n 2, 1) := by decide +kernel
theorem dX6_commonDivisor_4 : decode cX6_commonDivisor 4 = .ok (.lstore 6, 2) := by decide +kernel
theorem dX6_commonDivisor_6 : decode cX6_commonDivisor 6 = .ok (.iconst 0, 1) := by decide +kernel
theorem dX6_commonDivisor_7 : decode cX6_commonDivisor 7 = .ok (.istore 8, 2) := by decide +kernel
theorem dX6_commonDivisor_9 : decode cX6_commonDivisor 9 = .ok (.iload 8, 2) := by decide +kernel
theorem dX6_commonDivisor_11 : decode cX6_commonDivisor 11 = .ok (.bipush 100, 2) := by decide +kernel
theorem dX6_commonDivisor_13 : decode cX6_commonDivisor 13 = .ok (.if_icmp .ge 31, 3) := by decide +kernel
theorem dX6_commonDivisor_16 : decode cX6_commonDivisor 16 = .ok (.lload 6, 2) := by decide +kernel
theorem dX6_commonDivisor_18 : decode cX6_commonDivisor 18 = .ok (.lconst 0, 1) := by decide +kernel
theorem dX6_commonDivisor_19 : decode cX6_commonDivisor 19 = .ok (.lcmp, 1) := by decide +kernel
theorem dX6_commonDivisor_20 : decode cX6_commonDivisor 20 = .ok (.ifCond .eq 24, 3) := by decide +kernel
theorem dX6_commonDivisor_23 : decode cX6_commonDivisor 23 = .ok (.lload 4, 2) := by decide +kernel
theorem dX6_commonDivisor_25 : decode cX6_commonDivisor 25 = .ok (.lload 6, 2) := by decide +kernel
theorem dX6_commonDivisor_27 : decode cX6_commonDivisor 27 = .ok (.lrem, 1) := by decide +kernel
theorem dX6_commonDivisor_28 : decode cX6_commonDivisor 28 = .ok (.lstore 9, 2) := by decide +kernel
theorem dX6_commonDivisor_30 : decode cX6_commonDivisor 30 = .ok (.lload 6, 2) := by decide +kernel
theorem dX6_commonDivisor_32 : decode cX6_commonDivisor 32 = .ok (.lstore 4, 2) := by decide +kernel
theorem dX6_commonDivisor_34 : decode cX6_commonDivisor 34 = .ok (.lload 9, 2) := by decide +kernel
theorem dX6_commonDivisor_36 : decode cX6_commonDivisor 36 = .ok (.lstore 6, 2) := by decide +kernel
theorem dX6_commonDivisor_38 : decode cX6_commonDivisor 38 = .ok (.iinc 8 1, 3) := by decide +kernel
theorem dX6_commonDivisor_41 : decode cX6_commonDivisor 41 = .ok (.goto (-32), 3) := by decide +kernel
theorem dX6_commonDivisor_44 : decode cX6_commonDivisor 44 = .ok (.lload 4, 2) := by decide +kernel
theorem dX6_commonDivisor_46 : decode cX6_commonDivisor 46 = .ok (.lreturn, 1) := by decide +kernel
theorem dX6_power_0 : decode cX6_power 0 = .ok (.lconst 1, 1) := by decide +kernel
theorem dX6_power_1 : decode cX6_power 1 = .ok (.lstore_n 3, 1) := by decide +kernel
theorem dX6_power_2 : decode cX6_power 2 = .ok (.iconst 0, 1) := by decide +kernel
theorem dX6_power_3 : decode cX6_power 3 = .ok (.istore 5, 2) := by decide +kernel
theorem dX6_power_5 : decode cX6_power 5 = .ok (.iload 5, 2) := by decide +kernel
theorem dX6_power_7 : decode cX6_power 7 = .ok (.iload_n 2, 1) := by decide +kernel
theorem dX6_power_8 : decode cX6_power 8 = .ok (.if_icmp .ge 13, 3) := by decide +kernel
theorem dX6_power_11 : decode cX6_power 11 = .ok (.lload_n 3, 1) := by decide +kernel
theorem dX6_power_12 : decode cX6_power 12 = .ok (.lload_n 0, 1) := by decide +kernel
theorem dX6_power_13 : decode cX6_power 13 = .ok (.lmul, 1) := by decide +kernel
theorem dX6_power_14 : decode cX6_power 14 = .ok (.lstore_n 3, 1) := by decide +kernel
theorem dX6_power_15 : decode cX6_power 15 = .ok (.iinc 5 1, 3) := by decide +kernel
theorem dX6_power_18 : decode cX6_power 18 = .ok (.goto (-13), 3) := by decide +kernel
theorem dX6_power_21 : decode cX6_power 21 = .ok (.lload_n 3, 1) := by decide +kernel
theorem dX6_power_22 : decode cX6_power 22 = .ok (.lreturn, 1) := by decide +kernel
theorem dJ6_numberOfTrailingZeros_0f7a4_0 : decode cJ6_numberOfTrailingZeros_0f7a4 0 = .ok (.iload_n 0, 1) := by decide +kernel
theorem dJ6_numberOfTrailingZeros_0f7a4_1 : decode cJ6_numberOfTrailingZeros_0f7a4 1 = .ok (.iconst (-1), 1) := by decide +kernel
theorem dJ6_numberOfTrailingZeros_0f7a4_2 : decode cJ6_numberOfTrailingZeros_0f7a4 2 = .ok (.ixor, 1) := by decide +kernel
theorem dJ6_numberOfTrailingZeros_0f7a4_3 : decode cJ6_numberOfTrailingZeros_0f7a4 3 = .ok (.iload_n 0, 1) := by decide +kernel
theorem dJ6_numberOfTrailingZeros_0f7a4_4 : decode cJ6_numberOfTrailingZeros_0f7a4 4 = .ok (.iconst 1, 1) := by decide +kernel
theorem dJ6_numberOfTrailingZeros_0f7a4_5 : decode cJ6_numberOfTrailingZeros_0f7a4 5 = .ok (.isub, 1) := by decide +kernel
theorem dJ6_numberOfTrailingZeros_0f7a4_6 : decode cJ6_numberOfTrailingZeros_0f7a4 6 = .ok (.iand, 1) := by decide +kernel
theorem dJ6_numberOfTrailingZeros_0f7a4_7 : decode cJ6_numberOfTrailingZeros_0f7a4 7 = .ok (.istore_n 0, 1) := by decide +kernel
theorem dJ6_numberOfTrailingZeros_0f7a4_8 : decode cJ6_numberOfTrailingZeros_0f7a4 8 = .ok (.iload_n 0, 1) := by decide +kernel
theorem dJ6_numberOfTrailingZeros_0f7a4_9 : decode cJ6_numberOfTrailingZeros_0f7a4 9 = .ok (.ifCond .gt 8, 3) := by decide +kernel
theorem dJ6_numberOfTrailingZeros_0f7a4_12 : decode cJ6_numberOfTrailingZeros_0f7a4 12 = .ok (.iload_n 0, 1) := by decide +kernel
theorem dJ6_numberOfTrailingZeros_0f7a4_13 : decode cJ6_numberOfTrailingZeros_0f7a4 13 = .ok (.bipush 32, 2) := by decide +kernel
theorem dJ6_numberOfTrailingZeros_0f7a4_15 : decode cJ6_numberOfTrailingZeros_0f7a4 15 = .ok (.iand, 1) := by decide +kernel
theorem dJ6_numberOfTrailingZeros_0f7a4_16 : decode cJ6_numberOfTrailingZeros_0f7a4 16 = .ok (.ireturn, 1) := by decide +kernel
theorem dJ6_numberOfTrailingZeros_0f7a4_17 : decode cJ6_numberOfTrailingZeros_0f7a4 17 = .ok (.iconst 1, 1) := by decide +kernel
theorem dJ6_numberOfTrailingZeros_0f7a4_18 : decode cJ6_numberOfTrailingZeros_0f7a4 18 = .ok (.istore_n 1, 1) := by decide +kernel
theorem dJ6_numberOfTrailingZeros_0f7a4_19 : decode cJ6_numberOfTrailingZeros_0f7a4 19 = .ok (.iload_n 0, 1) := by decide +kernel
theorem dJ6_numberOfTrailingZeros_0f7a4_20 : decode cJ6_numberOfTrailingZeros_0f7a4 20 = .ok (.ldc_w 264, 3) := by decide +kernel
theorem dJ6_numberOfTrailingZeros_0f7a4_23 : decode cJ6_numberOfTrailingZeros_0f7a4 23 = .ok (.if_icmp .le 11, 3) := by decide +kernel
theorem dJ6_numberOfTrailingZeros_0f7a4_26 : decode cJ6_numberOfTrailingZeros_0f7a4 26 = .ok (.iinc 1 16, 3) := by decide +kernel
theorem dJ6_numberOfTrailingZeros_0f7a4_29 : decode cJ6_numberOfTrailingZeros_0f7a4 29 = .ok (.iload_n 0, 1) := by decide +kernel
theorem dJ6_numberOfTrailingZeros_0f7a4_30 : decode cJ6_numberOfTrailingZeros_0f7a4 30 = .ok (.bipush 16, 2) := by decide +kernel
theorem dJ6_numberOfTrailingZeros_0f7a4_32 : decode cJ6_numberOfTrailingZeros_0f7a4 32 = .ok (.iushr, 1) := by decide +kernel
theorem dJ6_numberOfTrailingZeros_0f7a4_33 : decode cJ6_numberOfTrailingZeros_0f7a4 33 = .ok (.istore_n 0, 1) := by decide +kernel
theorem dJ6_numberOfTrailingZeros_0f7a4_34 : decode cJ6_numberOfTrailingZeros_0f7a4 34 = .ok (.iload_n 0, 1) := by decide +kernel
theorem dJ6_numberOfTrailingZeros_0f7a4_35 : decode cJ6_numberOfTrailingZeros_0f7a4 35 = .ok (.sipush 256, 3) := by decide +kernel
theorem dJ6_numberOfTrailingZeros_0f7a4_38 : decode cJ6_numberOfTrailingZeros_0f7a4 38 = .ok (.if_icmp .le 11, 3) := by decide +kernel
theorem dJ6_numberOfTrailingZeros_0f7a4_41 : decode cJ6_numberOfTrailingZeros_0f7a4 41 = .ok (.iinc 1 8, 3) := by decide +kernel
theorem dJ6_numberOfTrailingZeros_0f7a4_44 : decode cJ6_numberOfTrailingZeros_0f7a4 44 = .ok (.iload_n 0, 1) := by decide +kernel
theorem dJ6_numberOfTrailingZeros_0f7a4_45 : decode cJ6_numberOfTrailingZeros_0f7a4 45 = .ok (.bipush 8, 2) := by decide +kernel
theorem dJ6_numberOfTrailingZeros_0f7a4_47 : decode cJ6_numberOfTrailingZeros_0f7a4 47 = .ok (.iushr, 1) := by decide +kernel
theorem dJ6_numberOfTrailingZeros_0f7a4_48 : decode cJ6_numberOfTrailingZeros_0f7a4 48 = .ok (.istore_n 0, 1) := by decide +kernel
theorem dJ6_numberOfTrailingZeros_0f7a4_49 : decode cJ6_numberOfTrailingZeros_0f7a4 49 = .ok (.iload_n 0, 1) := by decide +kernel
theorem dJ6_numberOfTrailingZeros_0f7a4_50 : decode cJ6_numberOfTrailingZeros_0f7a4 50 = .ok (.bipush 16, 2) := by decide +kernel
theorem dJ6_numberOfTrailingZeros_0f7a4_52 : decode cJ6_numberOfTrailingZeros_0f7a4 52 = .ok (.if_icmp .le 10, 3) := by decide +kernel
theorem dJ6_numberOfTrailingZeros_0f7a4_55 : decode cJ6_numberOfTrailingZeros_0f7a4 55 = .ok (.iinc 1 4, 3) := by decide +kernel
theorem dJ6_numberOfTrailingZeros_0f7a4_58 : decode cJ6_numberOfTrailingZeros_0f7a4 58 = .ok (.iload_n 0, 1) := by decide +kernel
theorem dJ6_numberOfTrailingZeros_0f7a4_59 : decode cJ6_numberOfTrailingZeros_0f7a4 59 = .ok (.iconst 4, 1) := by decide +kernel
theorem dJ6_numberOfTrailingZeros_0f7a4_60 : decode cJ6_numberOfTrailingZeros_0f7a4 60 = .ok (.iushr, 1) := by decide +kernel
theorem dJ6_numberOfTrailingZeros_0f7a4_61 : decode cJ6_numberOfTrailingZeros_0f7a4 61 = .ok (.istore_n 0, 1) := by decide +kernel
theorem dJ6_numberOfTrailingZeros_0f7a4_62 : decode cJ6_numberOfTrailingZeros_0f7a4 62 = .ok (.iload_n 0, 1) := by decide +kernel
theorem dJ6_numberOfTrailingZeros_0f7a4_63 : decode cJ6_numberOfTrailingZeros_0f7a4 63 = .ok (.iconst 4, 1) := by decide +kernel
theorem dJ6_numberOfTrailingZeros_0f7a4_64 : decode cJ6_numberOfTrailingZeros_0f7a4 64 = .ok (.if_icmp .le 10, 3) := by decide +kernel
theorem dJ6_numberOfTrailingZeros_0f7a4_67 : decode cJ6_numberOfTrailingZeros_0f7a4 67 = .ok (.iinc 1 2, 3) := by decide +kernel
theorem dJ6_numberOfTrailingZeros_0f7a4_70 : decode cJ6_numberOfTrailingZeros_0f7a4 70 = .ok (.iload_n 0, 1) := by decide +kernel
theorem dJ6_numberOfTrailingZeros_0f7a4_71 : decode cJ6_numberOfTrailingZeros_0f7a4 71 = .ok (.iconst 2, 1) := by decide +kernel
theorem dJ6_numberOfTrailingZeros_0f7a4_72 : decode cJ6_numberOfTrailingZeros_0f7a4 72 = .ok (.iushr, 1) := by decide +kernel
theorem dJ6_numberOfTrailingZeros_0f7a4_73 : decode cJ6_numberOfTrailingZeros_0f7a4 73 = .ok (.istore_n 0, 1) := by decide +kernel
theorem dJ6_numberOfTrailingZeros_0f7a4_74 : decode cJ6_numberOfTrailingZeros_0f7a4 74 = .ok (.iload_n 1, 1) := by decide +kernel
theorem dJ6_numberOfTrailingZeros_0f7a4_75 : decode cJ6_numberOfTrailingZeros_0f7a4 75 = .ok (.iload_n 0, 1) := by decide +kernel
theorem dJ6_numberOfTrailingZeros_0f7a4_76 : decode cJ6_numberOfTrailingZeros_0f7a4 76 = .ok (.iconst 1, 1) := by decide +kernel
theorem dJ6_numberOfTrailingZeros_0f7a4_77 : decode cJ6_numberOfTrailingZeros_0f7a4 77 = .ok (.iushr, 1) := by decide +kernel
theorem dJ6_numberOfTrailingZeros_0f7a4_78 : decode cJ6_numberOfTrailingZeros_0f7a4 78 = .ok (.iadd, 1) := by decide +kernel
theorem dJ6_numberOfTrailingZeros_0f7a4_79 : decode cJ6_numberOfTrailingZeros_0f7a4 79 = .ok (.ireturn, 1) := by decide +kernel
theorem dJ6_bitCount_0f7a4_0 : decode cJ6_bitCount_0f7a4 0 = .ok (.iload_n 0, 1) := by decide +kernel
theorem dJ6_bitCount_0f7a4_1 : decode cJ6_bitCount_0f7a4 1 = .ok (.iload_n 0, 1) := by decide +kernel
theorem dJ6_bitCount_0f7a4_2 : decode cJ6_bitCount_0f7a4 2 = .ok (.iconst 1, 1) := by decide +kernel
theorem dJ6_bitCount_0f7a4_3 : decode cJ6_bitCount_0f7a4 3 = .ok (.iushr, 1) := by decide +kernel
theorem dJ6_bitCount_0f7a4_4 : decode cJ6_bitCount_0f7a4 4 = .ok (.ldc_w 265, 3) := by decide +kernel
theorem dJ6_bitCount_0f7a4_7 : decode cJ6_bitCount_0f7a4 7 = .ok (.iand, 1) := by decide +kernel
theorem dJ6_bitCount_0f7a4_8 : decode cJ6_bitCount_0f7a4 8 = .ok (.isub, 1) := by decide +kernel
theorem dJ6_bitCount_0f7a4_9 : decode cJ6_bitCount_0f7a4 9 = .ok (.istore_n 0, 1) := by decide +kernel
theorem dJ6_bitCount_0f7a4_10 : decode cJ6_bitCount_0f7a4 10 = .ok (.iload_n 0, 1) := by decide +kernel
theorem dJ6_bitCount_0f7a4_11 : decode cJ6_bitCount_0f7a4 11 = .ok (.ldc_w 266, 3) := by decide +kernel
theorem dJ6_bitCount_0f7a4_14 : decode cJ6_bitCount_0f7a4 14 = .ok (.iand, 1) := by decide +kernel
theorem dJ6_bitCount_0f7a4_15 : decode cJ6_bitCount_0f7a4 15 = .ok (.iload_n 0, 1) := by decide +kernel
theorem dJ6_bitCount_0f7a4_16 : decode cJ6_bitCount_0f7a4 16 = .ok (.iconst 2, 1) := by decide +kernel
theorem dJ6_bitCount_0f7a4_17 : decode cJ6_bitCount_0f7a4 17 = .ok (.iushr, 1) := by decide +kernel
theorem dJ6_bitCount_0f7a4_18 : decode cJ6_bitCount_0f7a4 18 = .ok (.ldc_w 266, 3) := by decide +kernel
theorem dJ6_bitCount_0f7a4_21 : decode cJ6_bitCount_0f7a4 21 = .ok (.iand, 1) := by decide +kernel
theorem dJ6_bitCount_0f7a4_22 : decode cJ6_bitCount_0f7a4 22 = .ok (.iadd, 1) := by decide +kernel
theorem dJ6_bitCount_0f7a4_23 : decode cJ6_bitCount_0f7a4 23 = .ok (.istore_n 0, 1) := by decide +kernel
theorem dJ6_bitCount_0f7a4_24 : decode cJ6_bitCount_0f7a4 24 = .ok (.iload_n 0, 1) := by decide +kernel
theorem dJ6_bitCount_0f7a4_25 : decode cJ6_bitCount_0f7a4 25 = .ok (.iload_n 0, 1) := by decide +kernel
theorem dJ6_bitCount_0f7a4_26 : decode cJ6_bitCount_0f7a4 26 = .ok (.iconst 4, 1) := by decide +kernel
theorem dJ6_bitCount_0f7a4_27 : decode cJ6_bitCount_0f7a4 27 = .ok (.iushr, 1) := by decide +kernel
theorem dJ6_bitCount_0f7a4_28 : decode cJ6_bitCount_0f7a4 28 = .ok (.iadd, 1) := by decide +kernel
theorem dJ6_bitCount_0f7a4_29 : decode cJ6_bitCount_0f7a4 29 = .ok (.ldc_w 267, 3) := by decide +kernel
theorem dJ6_bitCount_0f7a4_32 : decode cJ6_bitCount_0f7a4 32 = .ok (.iand, 1) := by decide +kernel
theorem dJ6_bitCount_0f7a4_33 : decode cJ6_bitCount_0f7a4 33 = .ok (.istore_n 0, 1) := by decide +kernel
theorem dJ6_bitCount_0f7a4_34 : decode cJ6_bitCount_0f7a4 34 = .ok (.iload_n 0, 1) := by decide +kernel
theorem dJ6_bitCount_0f7a4_35 : decode cJ6_bitCount_0f7a4 35 = .ok (.iload_n 0, 1) := by decide +kernel
theorem dJ6_bitCount_0f7a4_36 : decode cJ6_bitCount_0f7a4 36 = .ok (.bipush 8, 2) := by decide +kernel
theorem dJ6_bitCount_0f7a4_38 : decode cJ6_bitCount_0f7a4 38 = .ok (.iushr, 1) := by decide +kernel
theorem dJ6_bitCount_0f7a4_39 : decode cJ6_bitCount_0f7a4 39 = .ok (.iadd, 1) := by decide +kernel
theorem dJ6_bitCount_0f7a4_40 : decode cJ6_bitCount_0f7a4 40 = .ok (.istore_n 0, 1) := by decide +kernel
theorem dJ6_bitCount_0f7a4_41 : decode cJ6_bitCount_0f7a4 41 = .ok (.iload_n 0, 1) := by decide +kernel
theorem dJ6_bitCount_0f7a4_42 : decode cJ6_bitCount_0f7a4 42 = .ok (.iload_n 0, 1) := by decide +kernel
theorem dJ6_bitCount_0f7a4_43 : decode cJ6_bitCount_0f7a4 43 = .ok (.bipush 16, 2) := by decide +kernel
theorem dJ6_bitCount_0f7a4_45 : decode cJ6_bitCount_0f7a4 45 = .ok (.iushr, 1) := by decide +kernel
theorem dJ6_bitCount_0f7a4_46 : decode cJ6_bitCount_0f7a4 46 = .ok (.iadd, 1) := by decide +kernel
theorem dJ6_bitCount_0f7a4_47 : decode cJ6_bitCount_0f7a4 47 = .ok (.istore_n 0, 1) := by decide +kernel
theorem dJ6_bitCount_0f7a4_48 : decode cJ6_bitCount_0f7a4 48 = .ok (.iload_n 0, 1) := by decide +kernel
theorem dJ6_bitCount_0f7a4_49 : decode cJ6_bitCount_0f7a4 49 = .ok (.bipush 63, 2) := by decide +kernel
theorem dJ6_bitCount_0f7a4_51 : decode cJ6_bitCount_0f7a4 51 = .ok (.iand, 1) := by decide +kernel
theorem dJ6_bitCount_0f7a4_52 : decode cJ6_bitCount_0f7a4 52 = .ok (.ireturn, 1) := by decide +kernel
theorem dJ9_max_7cf53_0 : decode cJ9_max_7cf53 0 = .ok (.iload_n 0, 1) := by decide +kernel
theorem dJ9_max_7cf53_1 : decode cJ9_max_7cf53 1 = .ok (.iload_n 1, 1) := by decide +kernel
theorem dJ9_max_7cf53_2 : decode cJ9_max_7cf53 2 = .ok (.if_icmp .lt 7, 3) := by decide +kernel
theorem dJ9_max_7cf53_5 : decode cJ9_max_7cf53 5 = .ok (.iload_n 0, 1) := by decide +kernel
theorem dJ9_max_7cf53_6 : decode cJ9_max_7cf53 6 = .ok (.goto 4, 3) := by decide +kernel
theorem dJ9_max_7cf53_9 : decode cJ9_max_7cf53 9 = .ok (.iload_n 1, 1) := by decide +kernel
theorem dJ9_max_7cf53_10 : decode cJ9_max_7cf53 10 = .ok (.ireturn, 1) := by decide +kernel
theorem dJ9_min_7cf53_0 : decode cJ9_min_7cf53 0 = .ok (.iload_n 0, 1) := by decide +kernel
theorem dJ9_min_7cf53_1 : decode cJ9_min_7cf53 1 = .ok (.iload_n 1, 1) := by decide +kernel
theorem dJ9_min_7cf53_2 : decode cJ9_min_7cf53 2 = .ok (.if_icmp .gt 7, 3) := by decide +kernel
theorem dJ9_min_7cf53_5 : decode cJ9_min_7cf53 5 = .ok (.iload_n 0, 1) := by decide +kernel
theorem dJ9_min_7cf53_6 : decode cJ9_min_7cf53 6 = .ok (.goto 4, 3) := by decide +kernel
theorem dJ9_min_7cf53_9 : decode cJ9_min_7cf53 9 = .ok (.iload_n 1, 1) := by decide +kernel
theorem dJ9_min_7cf53_10 : decode cJ9_min_7cf53 10 = .ok (.ireturn, 1) := by decide +kernel
