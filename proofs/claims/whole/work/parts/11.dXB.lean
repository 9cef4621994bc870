set_option maxRecDepth 20000 in
theorem dX5_init_0 : decode cX5_init 0 = .ok (.aload_n 0, 1) := by decide +kernel
set_option maxRecDepth 20000 in
theorem dX5_init_1 : decode cX5_init 1 = .ok (.invokespecial 1, 3) := by decide +kernel
set_option maxRecDepth 20000 in
theorem dX5_init_4 : decode cX5_init 4 = .ok (.aload_n 2, 1) := by decide +kernel
set_option maxRecDepth 20000 in
theorem dX5_init_5 : decode cX5_init 5 = .ok (.arraylength, 1) := by decide +kernel
set_option maxRecDepth 20000 in
theorem dX5_init_6 : decode cX5_init 6 = .ok (.istore_n 3, 1) := by decide +kernel
set_option maxRecDepth 20000 in
theorem dX5_init_7 : decode cX5_init 7 = .ok (.iload_n 3, 1) := by decide +kernel
set_option maxRecDepth 20000 in
theorem dX5_init_8 : decode cX5_init 8 = .ok (.ifCond .le 17, 3) := by decide +kernel
set_option maxRecDepth 20000 in
theorem dX5_init_11 : decode cX5_init 11 = .ok (.aload_n 2, 1) := by decide +kernel
set_option maxRecDepth 20000 in
theorem dX5_init_12 : decode cX5_init 12 = .ok (.iload_n 3, 1) := by decide +kernel
set_option maxRecDepth 20000 in
theorem dX5_init_13 : decode cX5_init 13 = .ok (.iconst 1, 1) := by decide +kernel
set_option maxRecDepth 20000 in
theorem dX5_init_14 : decode cX5_init 14 = .ok (.isub, 1) := by decide +kernel
set_option maxRecDepth 20000 in
theorem dX5_init_15 : decode cX5_init 15 = .ok (.iaload, 1) := by decide +kernel
set_option maxRecDepth 20000 in
theorem dX5_init_16 : decode cX5_init 16 = .ok (.ifCond .ne 9, 3) := by decide +kernel
set_option maxRecDepth 20000 in
theorem dX5_init_19 : decode cX5_init 19 = .ok (.iinc 3 (-1), 3) := by decide +kernel
set_option maxRecDepth 20000 in
theorem dX5_init_22 : decode cX5_init 22 = .ok (.goto (-15), 3) := by decide +kernel
set_option maxRecDepth 20000 in
theorem dX5_init_25 : decode cX5_init 25 = .ok (.aload_n 0, 1) := by decide +kernel
set_option maxRecDepth 20000 in
theorem dX5_init_26 : decode cX5_init 26 = .ok (.iload_n 3, 1) := by decide +kernel
set_option maxRecDepth 20000 in
theorem dX5_init_27 : decode cX5_init 27 = .ok (.ifCond .ne 7, 3) := by decide +kernel
set_option maxRecDepth 20000 in
theorem dX5_init_30 : decode cX5_init 30 = .ok (.iconst 0, 1) := by decide +kernel
set_option maxRecDepth 20000 in
theorem dX5_init_31 : decode cX5_init 31 = .ok (.goto 4, 3) := by decide +kernel
set_option maxRecDepth 20000 in
theorem dX5_init_34 : decode cX5_init 34 = .ok (.iload_n 1, 1) := by decide +kernel
set_option maxRecDepth 20000 in
theorem dX5_init_35 : decode cX5_init 35 = .ok (.putfield 7, 3) := by decide +kernel
set_option maxRecDepth 20000 in
theorem dX5_init_38 : decode cX5_init 38 = .ok (.aload_n 0, 1) := by decide +kernel
set_option maxRecDepth 20000 in
theorem dX5_init_39 : decode cX5_init 39 = .ok (.aload_n 2, 1) := by decide +kernel
set_option maxRecDepth 20000 in
theorem dX5_init_40 : decode cX5_init 40 = .ok (.putfield 13, 3) := by decide +kernel
set_option maxRecDepth 20000 in
theorem dX5_init_43 : decode cX5_init 43 = .ok (.aload_n 0, 1) := by decide +kernel
set_option maxRecDepth 20000 in
theorem dX5_init_44 : decode cX5_init 44 = .ok (.iload_n 3, 1) := by decide +kernel
set_option maxRecDepth 20000 in
theorem dX5_init_45 : decode cX5_init 45 = .ok (.putfield 17, 3) := by decide +kernel
set_option maxRecDepth 20000 in
theorem dX5_init_48 : decode cX5_init 48 = .ok (.return_, 1) := by decide +kernel
set_option maxRecDepth 20000 in
theorem dX5_of_0 : decode cX5_of 0 = .ok (.lload_n 0, 1) := by decide +kernel
set_option maxRecDepth 20000 in
theorem dX5_of_1 : decode cX5_of 1 = .ok (.lconst 0, 1) := by decide +kernel
set_option maxRecDepth 20000 in
theorem dX5_of_2 : decode cX5_of 2 = .ok (.lcmp, 1) := by decide +kernel
set_option maxRecDepth 20000 in
theorem dX5_of_3 : decode cX5_of 3 = .ok (.ifCond .ge 8, 3) := by decide +kernel
set_option maxRecDepth 20000 in
theorem dX5_of_6 : decode cX5_of 6 = .ok (.lload_n 0, 1) := by decide +kernel
set_option maxRecDepth 20000 in
theorem dX5_of_7 : decode cX5_of 7 = .ok (.lneg, 1) := by decide +kernel
set_option maxRecDepth 20000 in
theorem dX5_of_8 : decode cX5_of 8 = .ok (.goto 4, 3) := by decide +kernel
set_option maxRecDepth 20000 in
theorem dX5_of_11 : decode cX5_of 11 = .ok (.lload_n 0, 1) := by decide +kernel
set_option maxRecDepth 20000 in
theorem dX5_of_12 : decode cX5_of 12 = .ok (.lstore_n 2, 1) := by decide +kernel
set_option maxRecDepth 20000 in
theorem dX5_of_13 : decode cX5_of 13 = .ok (.iconst 0, 1) := by decide +kernel
set_option maxRecDepth 20000 in
theorem dX5_of_14 : decode cX5_of 14 = .ok (.istore 4, 2) := by decide +kernel
set_option maxRecDepth 20000 in
theorem dX5_of_16 : decode cX5_of 16 = .ok (.iconst 0, 1) := by decide +kernel
set_option maxRecDepth 20000 in
theorem dX5_of_17 : decode cX5_of 17 = .ok (.istore 5, 2) := by decide +kernel
set_option maxRecDepth 20000 in
theorem dX5_of_19 : decode cX5_of 19 = .ok (.iload 5, 2) := by decide +kernel
set_option maxRecDepth 20000 in
theorem dX5_of_21 : decode cX5_of 21 = .ok (.iconst 4, 1) := by decide +kernel
set_option maxRecDepth 20000 in
theorem dX5_of_22 : decode cX5_of 22 = .ok (.if_icmp .ge 32, 3) := by decide +kernel
set_option maxRecDepth 20000 in
theorem dX5_of_25 : decode cX5_of 25 = .ok (.lload_n 2, 1) := by decide +kernel
set_option maxRecDepth 20000 in
theorem dX5_of_26 : decode cX5_of 26 = .ok (.bipush 16, 2) := by decide +kernel
set_option maxRecDepth 20000 in
theorem dX5_of_28 : decode cX5_of 28 = .ok (.iload 5, 2) := by decide +kernel
set_option maxRecDepth 20000 in
theorem dX5_of_30 : decode cX5_of 30 = .ok (.imul, 1) := by decide +kernel
set_option maxRecDepth 20000 in
theorem dX5_of_31 : decode cX5_of 31 = .ok (.lushr, 1) := by decide +kernel
set_option maxRecDepth 20000 in
theorem dX5_of_32 : decode cX5_of 32 = .ok (.lconst 0, 1) := by decide +kernel
set_option maxRecDepth 20000 in
theorem dX5_of_33 : decode cX5_of 33 = .ok (.lcmp, 1) := by decide +kernel
set_option maxRecDepth 20000 in
theorem dX5_of_34 : decode cX5_of 34 = .ok (.ifCond .eq 10, 3) := by decide +kernel
set_option maxRecDepth 20000 in
theorem dX5_of_37 : decode cX5_of 37 = .ok (.iload 5, 2) := by decide +kernel
set_option maxRecDepth 20000 in
theorem dX5_of_39 : decode cX5_of 39 = .ok (.iconst 1, 1) := by decide +kernel
set_option maxRecDepth 20000 in
theorem dX5_of_40 : decode cX5_of 40 = .ok (.iadd, 1) := by decide +kernel
set_option maxRecDepth 20000 in
theorem dX5_of_41 : decode cX5_of 41 = .ok (.goto 5, 3) := by decide +kernel
set_option maxRecDepth 20000 in
theorem dX5_of_44 : decode cX5_of 44 = .ok (.iload 4, 2) := by decide +kernel
set_option maxRecDepth 20000 in
theorem dX5_of_46 : decode cX5_of 46 = .ok (.istore 4, 2) := by decide +kernel
set_option maxRecDepth 20000 in
theorem dX5_of_48 : decode cX5_of 48 = .ok (.iinc 5 1, 3) := by decide +kernel
set_option maxRecDepth 20000 in
theorem dX5_of_51 : decode cX5_of 51 = .ok (.goto (-32), 3) := by decide +kernel
set_option maxRecDepth 20000 in
theorem dX5_of_54 : decode cX5_of 54 = .ok (.iload 4, 2) := by decide +kernel
set_option maxRecDepth 20000 in
theorem dX5_of_56 : decode cX5_of 56 = .ok (.newarray .int, 2) := by decide +kernel
set_option maxRecDepth 20000 in
theorem dX5_of_58 : decode cX5_of 58 = .ok (.astore 5, 2) := by decide +kernel
set_option maxRecDepth 20000 in
theorem dX5_of_60 : decode cX5_of 60 = .ok (.iconst 0, 1) := by decide +kernel
set_option maxRecDepth 20000 in
theorem dX5_of_61 : decode cX5_of 61 = .ok (.istore 6, 2) := by decide +kernel
set_option maxRecDepth 20000 in
theorem dX5_of_63 : decode cX5_of 63 = .ok (.iload 6, 2) := by decide +kernel
set_option maxRecDepth 20000 in
theorem dX5_of_65 : decode cX5_of 65 = .ok (.iload 4, 2) := by decide +kernel
set_option maxRecDepth 20000 in
theorem dX5_of_67 : decode cX5_of 67 = .ok (.if_icmp .ge 25, 3) := by decide +kernel
set_option maxRecDepth 20000 in
theorem dX5_of_70 : decode cX5_of 70 = .ok (.aload 5, 2) := by decide +kernel
set_option maxRecDepth 20000 in
theorem dX5_of_72 : decode cX5_of 72 = .ok (.iload 6, 2) := by decide +kernel
set_option maxRecDepth 20000 in
theorem dX5_of_74 : decode cX5_of 74 = .ok (.lload_n 2, 1) := by decide +kernel
set_option maxRecDepth 20000 in
theorem dX5_of_75 : decode cX5_of 75 = .ok (.bipush 16, 2) := by decide +kernel
set_option maxRecDepth 20000 in
theorem dX5_of_77 : decode cX5_of 77 = .ok (.iload 6, 2) := by decide +kernel
set_option maxRecDepth 20000 in
theorem dX5_of_79 : decode cX5_of 79 = .ok (.imul, 1) := by decide +kernel
set_option maxRecDepth 20000 in
theorem dX5_of_80 : decode cX5_of 80 = .ok (.lushr, 1) := by decide +kernel
set_option maxRecDepth 20000 in
theorem dX5_of_81 : decode cX5_of 81 = .ok (.l2i, 1) := by decide +kernel
set_option maxRecDepth 20000 in
theorem dX5_of_82 : decode cX5_of 82 = .ok (.ldc 20, 2) := by decide +kernel
set_option maxRecDepth 20000 in
theorem dX5_of_84 : decode cX5_of 84 = .ok (.iand, 1) := by decide +kernel
set_option maxRecDepth 20000 in
theorem dX5_of_85 : decode cX5_of 85 = .ok (.iastore, 1) := by decide +kernel
set_option maxRecDepth 20000 in
theorem dX5_of_86 : decode cX5_of 86 = .ok (.iinc 6 1, 3) := by decide +kernel
set_option maxRecDepth 20000 in
theorem dX5_of_89 : decode cX5_of 89 = .ok (.goto (-26), 3) := by decide +kernel
set_option maxRecDepth 20000 in
theorem dX5_of_92 : decode cX5_of 92 = .ok (.new 8, 3) := by decide +kernel
set_option maxRecDepth 20000 in
theorem dX5_of_95 : decode cX5_of 95 = .ok (.dup, 1) := by decide +kernel
set_option maxRecDepth 20000 in
theorem dX5_of_96 : decode cX5_of 96 = .ok (.lload_n 0, 1) := by decide +kernel
set_option maxRecDepth 20000 in
theorem dX5_of_97 : decode cX5_of 97 = .ok (.lconst 0, 1) := by decide +kernel
set_option maxRecDepth 20000 in
theorem dX5_of_98 : decode cX5_of 98 = .ok (.lcmp, 1) := by decide +kernel
set_option maxRecDepth 20000 in
theorem dX5_of_99 : decode cX5_of 99 = .ok (.ifCond .ge 7, 3) := by decide +kernel
set_option maxRecDepth 20000 in
theorem dX5_of_102 : decode cX5_of 102 = .ok (.iconst (-1), 1) := by decide +kernel
set_option maxRecDepth 20000 in
theorem dX5_of_103 : decode cX5_of 103 = .ok (.goto 4, 3) := by decide +kernel
set_option maxRecDepth 20000 in
theorem dX5_of_106 : decode cX5_of 106 = .ok (.iconst 1, 1) := by decide +kernel
set_option maxRecDepth 20000 in
theorem dX5_of_107 : decode cX5_of 107 = .ok (.aload 5, 2) := by decide +kernel
set_option maxRecDepth 20000 in
theorem dX5_of_109 : decode cX5_of 109 = .ok (.invokespecial 21, 3) := by decide +kernel
set_option maxRecDepth 20000 in
theorem dX5_of_112 : decode cX5_of 112 = .ok (.areturn, 1) := by decide +kernel
set_option maxRecDepth 20000 in
theorem dX5_sense_0 : decode cX5_sense 0 = .ok (.aload_n 0, 1) := by decide +kernel
set_option maxRecDepth 20000 in
theorem dX5_sense_1 : decode cX5_sense 1 = .ok (.getfield 7, 3) := by decide +kernel
set_option maxRecDepth 20000 in
theorem dX5_sense_4 : decode cX5_sense 4 = .ok (.ireturn, 1) := by decide +kernel
set_option maxRecDepth 20000 in
theorem dX5_length_0 : decode cX5_length 0 = .ok (.aload_n 0, 1) := by decide +kernel
set_option maxRecDepth 20000 in
theorem dX5_length_1 : decode cX5_length 1 = .ok (.getfield 17, 3) := by decide +kernel
set_option maxRecDepth 20000 in
theorem dX5_length_4 : decode cX5_length 4 = .ok (.ireturn, 1) := by decide +kernel
set_option maxRecDepth 20000 in
theorem dX5_digit_0 : decode cX5_digit 0 = .ok (.iload_n 1, 1) := by decide +kernel
set_option maxRecDepth 20000 in
theorem dX5_digit_1 : decode cX5_digit 1 = .ok (.ifCond .lt 20, 3) := by decide +kernel
set_option maxRecDepth 20000 in
theorem dX5_digit_4 : decode cX5_digit 4 = .ok (.iload_n 1, 1) := by decide +kernel
set_option maxRecDepth 20000 in
theorem dX5_digit_5 : decode cX5_digit 5 = .ok (.aload_n 0, 1) := by decide +kernel
set_option maxRecDepth 20000 in
theorem dX5_digit_6 : decode cX5_digit 6 = .ok (.getfield 17, 3) := by decide +kernel
set_option maxRecDepth 20000 in
theorem dX5_digit_9 : decode cX5_digit 9 = .ok (.if_icmp .ge 12, 3) := by decide +kernel
set_option maxRecDepth 20000 in
theorem dX5_digit_12 : decode cX5_digit 12 = .ok (.aload_n 0, 1) := by decide +kernel
set_option maxRecDepth 20000 in
theorem dX5_digit_13 : decode cX5_digit 13 = .ok (.getfield 13, 3) := by decide +kernel
set_option maxRecDepth 20000 in
theorem dX5_digit_16 : decode cX5_digit 16 = .ok (.iload_n 1, 1) := by decide +kernel
set_option maxRecDepth 20000 in
theorem dX5_digit_17 : decode cX5_digit 17 = .ok (.iaload, 1) := by decide +kernel
set_option maxRecDepth 20000 in
theorem dX5_digit_18 : decode cX5_digit 18 = .ok (.goto 4, 3) := by decide +kernel
set_option maxRecDepth 20000 in
theorem dX5_digit_21 : decode cX5_digit 21 = .ok (.iconst 0, 1) := by decide +kernel
set_option maxRecDepth 20000 in
theorem dX5_digit_22 : decode cX5_digit 22 = .ok (.ireturn, 1) := by decide +kernel
set_option maxRecDepth 20000 in
theorem dX5_copyOfDigits_0 : decode cX5_copyOfDigits 0 = .ok (.aload_n 0, 1) := by decide +kernel
set_option maxRecDepth 20000 in
theorem dX5_copyOfDigits_1 : decode cX5_copyOfDigits 1 = .ok (.getfield 13, 3) := by decide +kernel
set_option maxRecDepth 20000 in
theorem dX5_copyOfDigits_4 : decode cX5_copyOfDigits 4 = .ok (.aload_n 0, 1) := by decide +kernel
set_option maxRecDepth 20000 in
theorem dX5_copyOfDigits_5 : decode cX5_copyOfDigits 5 = .ok (.getfield 17, 3) := by decide +kernel
set_option maxRecDepth 20000 in
theorem dX5_copyOfDigits_8 : decode cX5_copyOfDigits 8 = .ok (.invokestatic 24, 3) := by decide +kernel
set_option maxRecDepth 20000 in
theorem dX5_copyOfDigits_11 : decode cX5_copyOfDigits 11 = .ok (.areturn, 1) := by decide +kernel
set_option maxRecDepth 20000 in
theorem dX5_asLong_0 : decode cX5_asLong 0 = .ok (.lconst 0, 1) := by decide +kernel
set_option maxRecDepth 20000 in
theorem dX5_asLong_1 : decode cX5_asLong 1 = .ok (.lstore_n 1, 1) := by decide +kernel
set_option maxRecDepth 20000 in
theorem dX5_asLong_2 : decode cX5_asLong 2 = .ok (.iconst 0, 1) := by decide +kernel
set_option maxRecDepth 20000 in
theorem dX5_asLong_3 : decode cX5_asLong 3 = .ok (.istore_n 3, 1) := by decide +kernel
set_option maxRecDepth 20000 in
theorem dX5_asLong_4 : decode cX5_asLong 4 = .ok (.iload_n 3, 1) := by decide +kernel
set_option maxRecDepth 20000 in
theorem dX5_asLong_5 : decode cX5_asLong 5 = .ok (.iconst 4, 1) := by decide +kernel
set_option maxRecDepth 20000 in
theorem dX5_asLong_6 : decode cX5_asLong 6 = .ok (.if_icmp .ge 23, 3) := by decide +kernel
set_option maxRecDepth 20000 in
theorem dX5_asLong_9 : decode cX5_asLong 9 = .ok (.lload_n 1, 1) := by decide +kernel
set_option maxRecDepth 20000 in
theorem dX5_asLong_10 : decode cX5_asLong 10 = .ok (.aload_n 0, 1) := by decide +kernel
set_option maxRecDepth 20000 in
theorem dX5_asLong_11 : decode cX5_asLong 11 = .ok (.iload_n 3, 1) := by decide +kernel
set_option maxRecDepth 20000 in
theorem dX5_asLong_12 : decode cX5_asLong 12 = .ok (.invokevirtual 30, 3) := by decide +kernel
set_option maxRecDepth 20000 in
theorem dX5_asLong_15 : decode cX5_asLong 15 = .ok (.i2l, 1) := by decide +kernel
set_option maxRecDepth 20000 in
theorem dX5_asLong_16 : decode cX5_asLong 16 = .ok (.bipush 16, 2) := by decide +kernel
set_option maxRecDepth 20000 in
theorem dX5_asLong_18 : decode cX5_asLong 18 = .ok (.iload_n 3, 1) := by decide +kernel
set_option maxRecDepth 20000 in
theorem dX5_asLong_19 : decode cX5_asLong 19 = .ok (.imul, 1) := by decide +kernel
set_option maxRecDepth 20000 in
theorem dX5_asLong_20 : decode cX5_asLong 20 = .ok (.lshl, 1) := by decide +kernel
set_option maxRecDepth 20000 in
theorem dX5_asLong_21 : decode cX5_asLong 21 = .ok (.lor, 1) := by decide +kernel
set_option maxRecDepth 20000 in
theorem dX5_asLong_22 : decode cX5_asLong 22 = .ok (.lstore_n 1, 1) := by decide +kernel
set_option maxRecDepth 20000 in
theorem dX5_asLong_23 : decode cX5_asLong 23 = .ok (.iinc 3 1, 3) := by decide +kernel
set_option maxRecDepth 20000 in
theorem dX5_asLong_26 : decode cX5_asLong 26 = .ok (.goto (-22), 3) := by decide +kernel
set_option maxRecDepth 20000 in
theorem dX5_asLong_29 : decode cX5_asLong 29 = .ok (.aload_n 0, 1) := by decide +kernel
set_option maxRecDepth 20000 in
theorem dX5_asLong_30 : decode cX5_asLong 30 = .ok (.getfield 7, 3) := by decide +kernel
set_option maxRecDepth 20000 in
theorem dX5_asLong_33 : decode cX5_asLong 33 = .ok (.ifCond .ge 8, 3) := by decide +kernel
set_option maxRecDepth 20000 in
theorem dX5_asLong_36 : decode cX5_asLong 36 = .ok (.lload_n 1, 1) := by decide +kernel
set_option maxRecDepth 20000 in
theorem dX5_asLong_37 : decode cX5_asLong 37 = .ok (.lneg, 1) := by decide +kernel
set_option maxRecDepth 20000 in
theorem dX5_asLong_38 : decode cX5_asLong 38 = .ok (.goto 4, 3) := by decide +kernel
set_option maxRecDepth 20000 in
theorem dX5_asLong_41 : decode cX5_asLong 41 = .ok (.lload_n 1, 1) := by decide +kernel
set_option maxRecDepth 20000 in
theorem dX5_asLong_42 : decode cX5_asLong 42 = .ok (.lreturn, 1) := by decide +kernel
set_option maxRecDepth 20000 in
theorem dX5_sizeAgainst_0 : decode cX5_sizeAgainst 0 = .ok (.aload_n 0, 1) := by decide +kernel
set_option maxRecDepth 20000 in
theorem dX5_sizeAgainst_1 : decode cX5_sizeAgainst 1 = .ok (.getfield 17, 3) := by decide +kernel
set_option maxRecDepth 20000 in
theorem dX5_sizeAgainst_4 : decode cX5_sizeAgainst 4 = .ok (.aload_n 1, 1) := by decide +kernel
set_option maxRecDepth 20000 in
theorem dX5_sizeAgainst_5 : decode cX5_sizeAgainst 5 = .ok (.getfield 17, 3) := by decide +kernel
set_option maxRecDepth 20000 in
theorem dX5_sizeAgainst_8 : decode cX5_sizeAgainst 8 = .ok (.invokestatic 34, 3) := by decide +kernel
set_option maxRecDepth 20000 in
theorem dX5_sizeAgainst_11 : decode cX5_sizeAgainst 11 = .ok (.iconst 1, 1) := by decide +kernel
set_option maxRecDepth 20000 in
theorem dX5_sizeAgainst_12 : decode cX5_sizeAgainst 12 = .ok (.isub, 1) := by decide +kernel
set_option maxRecDepth 20000 in
theorem dX5_sizeAgainst_13 : decode cX5_sizeAgainst 13 = .ok (.istore_n 2, 1) := by decide +kernel
set_option maxRecDepth 20000 in
theorem dX5_sizeAgainst_14 : decode cX5_sizeAgainst 14 = .ok (.iload_n 2, 1) := by decide +kernel
set_option maxRecDepth 20000 in
theorem dX5_sizeAgainst_15 : decode cX5_sizeAgainst 15 = .ok (.ifCond .lt 41, 3) := by decide +kernel
set_option maxRecDepth 20000 in
theorem dX5_sizeAgainst_18 : decode cX5_sizeAgainst 18 = .ok (.aload_n 0, 1) := by decide +kernel
set_option maxRecDepth 20000 in
theorem dX5_sizeAgainst_19 : decode cX5_sizeAgainst 19 = .ok (.iload_n 2, 1) := by decide +kernel
set_option maxRecDepth 20000 in
theorem dX5_sizeAgainst_20 : decode cX5_sizeAgainst 20 = .ok (.invokevirtual 30, 3) := by decide +kernel
set_option maxRecDepth 20000 in
theorem dX5_sizeAgainst_23 : decode cX5_sizeAgainst 23 = .ok (.aload_n 1, 1) := by decide +kernel
set_option maxRecDepth 20000 in
theorem dX5_sizeAgainst_24 : decode cX5_sizeAgainst 24 = .ok (.iload_n 2, 1) := by decide +kernel
set_option maxRecDepth 20000 in
theorem dX5_sizeAgainst_25 : decode cX5_sizeAgainst 25 = .ok (.invokevirtual 30, 3) := by decide +kernel
set_option maxRecDepth 20000 in
theorem dX5_sizeAgainst_28 : decode cX5_sizeAgainst 28 = .ok (.if_icmp .eq 22, 3) := by decide +kernel
set_option maxRecDepth 20000 in
theorem dX5_sizeAgainst_31 : decode cX5_sizeAgainst 31 = .ok (.aload_n 0, 1) := by decide +kernel
set_option maxRecDepth 20000 in
theorem dX5_sizeAgainst_32 : decode cX5_sizeAgainst 32 = .ok (.iload_n 2, 1) := by decide +kernel
set_option maxRecDepth 20000 in
theorem dX5_sizeAgainst_33 : decode cX5_sizeAgainst 33 = .ok (.invokevirtual 30, 3) := by decide +kernel
set_option maxRecDepth 20000 in
theorem dX5_sizeAgainst_36 : decode cX5_sizeAgainst 36 = .ok (.aload_n 1, 1) := by decide +kernel
set_option maxRecDepth 20000 in
theorem dX5_sizeAgainst_37 : decode cX5_sizeAgainst 37 = .ok (.iload_n 2, 1) := by decide +kernel
set_option maxRecDepth 20000 in
theorem dX5_sizeAgainst_38 : decode cX5_sizeAgainst 38 = .ok (.invokevirtual 30, 3) := by decide +kernel
set_option maxRecDepth 20000 in
theorem dX5_sizeAgainst_41 : decode cX5_sizeAgainst 41 = .ok (.if_icmp .ge 7, 3) := by decide +kernel
set_option maxRecDepth 20000 in
theorem dX5_sizeAgainst_44 : decode cX5_sizeAgainst 44 = .ok (.iconst (-1), 1) := by decide +kernel
set_option maxRecDepth 20000 in
theorem dX5_sizeAgainst_45 : decode cX5_sizeAgainst 45 = .ok (.goto 4, 3) := by decide +kernel
set_option maxRecDepth 20000 in
theorem dX5_sizeAgainst_48 : decode cX5_sizeAgainst 48 = .ok (.iconst 1, 1) := by decide +kernel
set_option maxRecDepth 20000 in
theorem dX5_sizeAgainst_49 : decode cX5_sizeAgainst 49 = .ok (.ireturn, 1) := by decide +kernel
set_option maxRecDepth 20000 in
theorem dX5_sizeAgainst_50 : decode cX5_sizeAgainst 50 = .ok (.iinc 2 (-1), 3) := by decide +kernel
set_option maxRecDepth 20000 in
theorem dX5_sizeAgainst_53 : decode cX5_sizeAgainst 53 = .ok (.goto (-39), 3) := by decide +kernel
set_option maxRecDepth 20000 in
theorem dX5_sizeAgainst_56 : decode cX5_sizeAgainst 56 = .ok (.iconst 0, 1) := by decide +kernel
set_option maxRecDepth 20000 in
theorem dX5_sizeAgainst_57 : decode cX5_sizeAgainst 57 = .ok (.ireturn, 1) := by decide +kernel
set_option maxRecDepth 20000 in
theorem dX5_negative_0 : decode cX5_negative 0 = .ok (.new 8, 3) := by decide +kernel
set_option maxRecDepth 20000 in
theorem dX5_negative_3 : decode cX5_negative 3 = .ok (.dup, 1) := by decide +kernel
set_option maxRecDepth 20000 in
theorem dX5_negative_4 : decode cX5_negative 4 = .ok (.aload_n 0, 1) := by decide +kernel
set_option maxRecDepth 20000 in
theorem dX5_negative_5 : decode cX5_negative 5 = .ok (.getfield 7, 3) := by decide +kernel
set_option maxRecDepth 20000 in
theorem dX5_negative_8 : decode cX5_negative 8 = .ok (.ineg, 1) := by decide +kernel
set_option maxRecDepth 20000 in
theorem dX5_negative_9 : decode cX5_negative 9 = .ok (.aload_n 0, 1) := by decide +kernel
set_option maxRecDepth 20000 in
theorem dX5_negative_10 : decode cX5_negative 10 = .ok (.getfield 13, 3) := by decide +kernel
set_option maxRecDepth 20000 in
theorem dX5_negative_13 : decode cX5_negative 13 = .ok (.invokespecial 21, 3) := by decide +kernel
set_option maxRecDepth 20000 in
theorem dX5_negative_16 : decode cX5_negative 16 = .ok (.areturn, 1) := by decide +kernel
set_option maxRecDepth 20000 in
theorem dX5_plus_0 : decode cX5_plus 0 = .ok (.aload_n 0, 1) := by decide +kernel
set_option maxRecDepth 20000 in
theorem dX5_plus_1 : decode cX5_plus 1 = .ok (.getfield 7, 3) := by decide +kernel
set_option maxRecDepth 20000 in
theorem dX5_plus_4 : decode cX5_plus 4 = .ok (.ifCond .ne 5, 3) := by decide +kernel
set_option maxRecDepth 20000 in
theorem dX5_plus_7 : decode cX5_plus 7 = .ok (.aload_n 1, 1) := by decide +kernel
set_option maxRecDepth 20000 in
theorem dX5_plus_8 : decode cX5_plus 8 = .ok (.areturn, 1) := by decide +kernel
set_option maxRecDepth 20000 in
theorem dX5_plus_9 : decode cX5_plus 9 = .ok (.aload_n 1, 1) := by decide +kernel
set_option maxRecDepth 20000 in
theorem dX5_plus_10 : decode cX5_plus 10 = .ok (.getfield 7, 3) := by decide +kernel
set_option maxRecDepth 20000 in
theorem dX5_plus_13 : decode cX5_plus 13 = .ok (.ifCond .ne 5, 3) := by decide +kernel
set_option maxRecDepth 20000 in
theorem dX5_plus_16 : decode cX5_plus 16 = .ok (.aload_n 0, 1) := by decide +kernel
set_option maxRecDepth 20000 in
theorem dX5_plus_17 : decode cX5_plus 17 = .ok (.areturn, 1) := by decide +kernel
set_option maxRecDepth 20000 in
theorem dX5_plus_18 : decode cX5_plus 18 = .ok (.aload_n 0, 1) := by decide +kernel
set_option maxRecDepth 20000 in
theorem dX5_plus_19 : decode cX5_plus 19 = .ok (.getfield 7, 3) := by decide +kernel
set_option maxRecDepth 20000 in
theorem dX5_plus_22 : decode cX5_plus 22 = .ok (.aload_n 1, 1) := by decide +kernel
set_option maxRecDepth 20000 in
theorem dX5_plus_23 : decode cX5_plus 23 = .ok (.getfield 7, 3) := by decide +kernel
set_option maxRecDepth 20000 in
theorem dX5_plus_26 : decode cX5_plus 26 = .ok (.if_icmp .ne 20, 3) := by decide +kernel
set_option maxRecDepth 20000 in
theorem dX5_plus_29 : decode cX5_plus 29 = .ok (.new 8, 3) := by decide +kernel
set_option maxRecDepth 20000 in
theorem dX5_plus_32 : decode cX5_plus 32 = .ok (.dup, 1) := by decide +kernel
set_option maxRecDepth 20000 in
theorem dX5_plus_33 : decode cX5_plus 33 = .ok (.aload_n 0, 1) := by decide +kernel
set_option maxRecDepth 20000 in
theorem dX5_plus_34 : decode cX5_plus 34 = .ok (.getfield 7, 3) := by decide +kernel
set_option maxRecDepth 20000 in
theorem dX5_plus_37 : decode cX5_plus 37 = .ok (.aload_n 0, 1) := by decide +kernel
set_option maxRecDepth 20000 in
theorem dX5_plus_38 : decode cX5_plus 38 = .ok (.aload_n 1, 1) := by decide +kernel
set_option maxRecDepth 20000 in
theorem dX5_plus_39 : decode cX5_plus 39 = .ok (.invokevirtual 40, 3) := by decide +kernel
set_option maxRecDepth 20000 in
theorem dX5_plus_42 : decode cX5_plus 42 = .ok (.invokespecial 21, 3) := by decide +kernel
set_option maxRecDepth 20000 in
theorem dX5_plus_45 : decode cX5_plus 45 = .ok (.areturn, 1) := by decide +kernel
set_option maxRecDepth 20000 in
theorem dX5_plus_46 : decode cX5_plus 46 = .ok (.aload_n 0, 1) := by decide +kernel
set_option maxRecDepth 20000 in
theorem dX5_plus_47 : decode cX5_plus 47 = .ok (.aload_n 1, 1) := by decide +kernel
set_option maxRecDepth 20000 in
theorem dX5_plus_48 : decode cX5_plus 48 = .ok (.invokevirtual 44, 3) := by decide +kernel
set_option maxRecDepth 20000 in
theorem dX5_plus_51 : decode cX5_plus 51 = .ok (.ifCond .lt 22, 3) := by decide +kernel
set_option maxRecDepth 20000 in
theorem dX5_plus_54 : decode cX5_plus 54 = .ok (.new 8, 3) := by decide +kernel
set_option maxRecDepth 20000 in
theorem dX5_plus_57 : decode cX5_plus 57 = .ok (.dup, 1) := by decide +kernel
set_option maxRecDepth 20000 in
theorem dX5_plus_58 : decode cX5_plus 58 = .ok (.aload_n 0, 1) := by decide +kernel
set_option maxRecDepth 20000 in
theorem dX5_plus_59 : decode cX5_plus 59 = .ok (.getfield 7, 3) := by decide +kernel
set_option maxRecDepth 20000 in
theorem dX5_plus_62 : decode cX5_plus 62 = .ok (.aload_n 0, 1) := by decide +kernel
set_option maxRecDepth 20000 in
theorem dX5_plus_63 : decode cX5_plus 63 = .ok (.aload_n 1, 1) := by decide +kernel
set_option maxRecDepth 20000 in
theorem dX5_plus_64 : decode cX5_plus 64 = .ok (.invokevirtual 48, 3) := by decide +kernel
set_option maxRecDepth 20000 in
theorem dX5_plus_67 : decode cX5_plus 67 = .ok (.invokespecial 21, 3) := by decide +kernel
set_option maxRecDepth 20000 in
theorem dX5_plus_70 : decode cX5_plus 70 = .ok (.goto 19, 3) := by decide +kernel
set_option maxRecDepth 20000 in
theorem dX5_plus_73 : decode cX5_plus 73 = .ok (.new 8, 3) := by decide +kernel
set_option maxRecDepth 20000 in
theorem dX5_plus_76 : decode cX5_plus 76 = .ok (.dup, 1) := by decide +kernel
set_option maxRecDepth 20000 in
theorem dX5_plus_77 : decode cX5_plus 77 = .ok (.aload_n 1, 1) := by decide +kernel
set_option maxRecDepth 20000 in
theorem dX5_plus_78 : decode cX5_plus 78 = .ok (.getfield 7, 3) := by decide +kernel
set_option maxRecDepth 20000 in
theorem dX5_plus_81 : decode cX5_plus 81 = .ok (.aload_n 1, 1) := by decide +kernel
set_option maxRecDepth 20000 in
theorem dX5_plus_82 : decode cX5_plus 82 = .ok (.aload_n 0, 1) := by decide +kernel
set_option maxRecDepth 20000 in
theorem dX5_plus_83 : decode cX5_plus 83 = .ok (.invokevirtual 48, 3) := by decide +kernel
set_option maxRecDepth 20000 in
theorem dX5_plus_86 : decode cX5_plus 86 = .ok (.invokespecial 21, 3) := by decide +kernel
set_option maxRecDepth 20000 in
theorem dX5_plus_89 : decode cX5_plus 89 = .ok (.areturn, 1) := by decide +kernel
set_option maxRecDepth 20000 in
theorem dX5_sumOfDigits_0 : decode cX5_sumOfDigits 0 = .ok (.aload_n 0, 1) := by decide +kernel
set_option maxRecDepth 20000 in
theorem dX5_sumOfDigits_1 : decode cX5_sumOfDigits 1 = .ok (.getfield 17, 3) := by decide +kernel
set_option maxRecDepth 20000 in
theorem dX5_sumOfDigits_4 : decode cX5_sumOfDigits 4 = .ok (.aload_n 1, 1) := by decide +kernel
set_option maxRecDepth 20000 in
theorem dX5_sumOfDigits_5 : decode cX5_sumOfDigits 5 = .ok (.getfield 17, 3) := by decide +kernel
set_option maxRecDepth 20000 in
theorem dX5_sumOfDigits_8 : decode cX5_sumOfDigits 8 = .ok (.invokestatic 34, 3) := by decide +kernel
set_option maxRecDepth 20000 in
theorem dX5_sumOfDigits_11 : decode cX5_sumOfDigits 11 = .ok (.iconst 1, 1) := by decide +kernel
set_option maxRecDepth 20000 in
theorem dX5_sumOfDigits_12 : decode cX5_sumOfDigits 12 = .ok (.iadd, 1) := by decide +kernel
set_option maxRecDepth 20000 in
theorem dX5_sumOfDigits_13 : decode cX5_sumOfDigits 13 = .ok (.newarray .int, 2) := by decide +kernel
set_option maxRecDepth 20000 in
theorem dX5_sumOfDigits_15 : decode cX5_sumOfDigits 15 = .ok (.astore_n 2, 1) := by decide +kernel
set_option maxRecDepth 20000 in
theorem dX5_sumOfDigits_16 : decode cX5_sumOfDigits 16 = .ok (.iconst 0, 1) := by decide +kernel
set_option maxRecDepth 20000 in
theorem dX5_sumOfDigits_17 : decode cX5_sumOfDigits 17 = .ok (.istore_n 3, 1) := by decide +kernel
set_option maxRecDepth 20000 in
theorem dX5_sumOfDigits_18 : decode cX5_sumOfDigits 18 = .ok (.iconst 0, 1) := by decide +kernel
set_option maxRecDepth 20000 in
theorem dX5_sumOfDigits_19 : decode cX5_sumOfDigits 19 = .ok (.istore 4, 2) := by decide +kernel
set_option maxRecDepth 20000 in
theorem dX5_sumOfDigits_21 : decode cX5_sumOfDigits 21 = .ok (.iload 4, 2) := by decide +kernel
set_option maxRecDepth 20000 in
theorem dX5_sumOfDigits_23 : decode cX5_sumOfDigits 23 = .ok (.aload_n 2, 1) := by decide +kernel
set_option maxRecDepth 20000 in
theorem dX5_sumOfDigits_24 : decode cX5_sumOfDigits 24 = .ok (.arraylength, 1) := by decide +kernel
set_option maxRecDepth 20000 in
theorem dX5_sumOfDigits_25 : decode cX5_sumOfDigits 25 = .ok (.if_icmp .ge 41, 3) := by decide +kernel
set_option maxRecDepth 20000 in
theorem dX5_sumOfDigits_28 : decode cX5_sumOfDigits 28 = .ok (.aload_n 0, 1) := by decide +kernel
set_option maxRecDepth 20000 in
theorem dX5_sumOfDigits_29 : decode cX5_sumOfDigits 29 = .ok (.iload 4, 2) := by decide +kernel
set_option maxRecDepth 20000 in
theorem dX5_sumOfDigits_31 : decode cX5_sumOfDigits 31 = .ok (.invokevirtual 30, 3) := by decide +kernel
set_option maxRecDepth 20000 in
theorem dX5_sumOfDigits_34 : decode cX5_sumOfDigits 34 = .ok (.aload_n 1, 1) := by decide +kernel
set_option maxRecDepth 20000 in
theorem dX5_sumOfDigits_35 : decode cX5_sumOfDigits 35 = .ok (.iload 4, 2) := by decide +kernel
set_option maxRecDepth 20000 in
theorem dX5_sumOfDigits_37 : decode cX5_sumOfDigits 37 = .ok (.invokevirtual 30, 3) := by decide +kernel
set_option maxRecDepth 20000 in
theorem dX5_sumOfDigits_40 : decode cX5_sumOfDigits 40 = .ok (.iadd, 1) := by decide +kernel
set_option maxRecDepth 20000 in
theorem dX5_sumOfDigits_41 : decode cX5_sumOfDigits 41 = .ok (.iload_n 3, 1) := by decide +kernel
set_option maxRecDepth 20000 in
theorem dX5_sumOfDigits_42 : decode cX5_sumOfDigits 42 = .ok (.iadd, 1) := by decide +kernel
set_option maxRecDepth 20000 in
theorem dX5_sumOfDigits_43 : decode cX5_sumOfDigits 43 = .ok (.istore 5, 2) := by decide +kernel
set_option maxRecDepth 20000 in
theorem dX5_sumOfDigits_45 : decode cX5_sumOfDigits 45 = .ok (.aload_n 2, 1) := by decide +kernel
set_option maxRecDepth 20000 in
theorem dX5_sumOfDigits_46 : decode cX5_sumOfDigits 46 = .ok (.iload 4, 2) := by decide +kernel
set_option maxRecDepth 20000 in
theorem dX5_sumOfDigits_48 : decode cX5_sumOfDigits 48 = .ok (.iload 5, 2) := by decide +kernel
set_option maxRecDepth 20000 in
theorem dX5_sumOfDigits_50 : decode cX5_sumOfDigits 50 = .ok (.ldc 20, 2) := by decide +kernel
set_option maxRecDepth 20000 in
theorem dX5_sumOfDigits_52 : decode cX5_sumOfDigits 52 = .ok (.iand, 1) := by decide +kernel
set_option maxRecDepth 20000 in
theorem dX5_sumOfDigits_53 : decode cX5_sumOfDigits 53 = .ok (.iastore, 1) := by decide +kernel
set_option maxRecDepth 20000 in
theorem dX5_sumOfDigits_54 : decode cX5_sumOfDigits 54 = .ok (.iload 5, 2) := by decide +kernel
set_option maxRecDepth 20000 in
theorem dX5_sumOfDigits_56 : decode cX5_sumOfDigits 56 = .ok (.bipush 16, 2) := by decide +kernel
set_option maxRecDepth 20000 in
theorem dX5_sumOfDigits_58 : decode cX5_sumOfDigits 58 = .ok (.ishr, 1) := by decide +kernel
set_option maxRecDepth 20000 in
theorem dX5_sumOfDigits_59 : decode cX5_sumOfDigits 59 = .ok (.istore_n 3, 1) := by decide +kernel
set_option maxRecDepth 20000 in
theorem dX5_sumOfDigits_60 : decode cX5_sumOfDigits 60 = .ok (.iinc 4 1, 3) := by decide +kernel
set_option maxRecDepth 20000 in
theorem dX5_sumOfDigits_63 : decode cX5_sumOfDigits 63 = .ok (.goto (-42), 3) := by decide +kernel
set_option maxRecDepth 20000 in
theorem dX5_sumOfDigits_66 : decode cX5_sumOfDigits 66 = .ok (.aload_n 2, 1) := by decide +kernel
set_option maxRecDepth 20000 in
theorem dX5_sumOfDigits_67 : decode cX5_sumOfDigits 67 = .ok (.areturn, 1) := by decide +kernel
set_option maxRecDepth 20000 in
theorem dX5_differenceOfDigits_0 : decode cX5_differenceOfDigits 0 = .ok (.aload_n 0, 1) := by decide +kernel
set_option maxRecDepth 20000 in
theorem dX5_differenceOfDigits_1 : decode cX5_differenceOfDigits 1 = .ok (.getfield 17, 3) := by decide +kernel
set_option maxRecDepth 20000 in
theorem dX5_differenceOfDigits_4 : decode cX5_differenceOfDigits 4 = .ok (.newarray .int, 2) := by decide +kernel
set_option maxRecDepth 20000 in
theorem dX5_differenceOfDigits_6 : decode cX5_differenceOfDigits 6 = .ok (.astore_n 2, 1) := by decide +kernel
set_option maxRecDepth 20000 in
theorem dX5_differenceOfDigits_7 : decode cX5_differenceOfDigits 7 = .ok (.iconst 0, 1) := by decide +kernel
set_option maxRecDepth 20000 in
theorem dX5_differenceOfDigits_8 : decode cX5_differenceOfDigits 8 = .ok (.istore_n 3, 1) := by decide +kernel
set_option maxRecDepth 20000 in
theorem dX5_differenceOfDigits_9 : decode cX5_differenceOfDigits 9 = .ok (.iconst 0, 1) := by decide +kernel
set_option maxRecDepth 20000 in
theorem dX5_differenceOfDigits_10 : decode cX5_differenceOfDigits 10 = .ok (.istore 4, 2) := by decide +kernel
set_option maxRecDepth 20000 in
theorem dX5_differenceOfDigits_12 : decode cX5_differenceOfDigits 12 = .ok (.iload 4, 2) := by decide +kernel
set_option maxRecDepth 20000 in
theorem dX5_differenceOfDigits_14 : decode cX5_differenceOfDigits 14 = .ok (.aload_n 0, 1) := by decide +kernel
set_option maxRecDepth 20000 in
theorem dX5_differenceOfDigits_15 : decode cX5_differenceOfDigits 15 = .ok (.getfield 17, 3) := by decide +kernel
set_option maxRecDepth 20000 in
theorem dX5_differenceOfDigits_18 : decode cX5_differenceOfDigits 18 = .ok (.if_icmp .ge 41, 3) := by decide +kernel
set_option maxRecDepth 20000 in
theorem dX5_differenceOfDigits_21 : decode cX5_differenceOfDigits 21 = .ok (.aload_n 0, 1) := by decide +kernel
set_option maxRecDepth 20000 in
theorem dX5_differenceOfDigits_22 : decode cX5_differenceOfDigits 22 = .ok (.iload 4, 2) := by decide +kernel
set_option maxRecDepth 20000 in
theorem dX5_differenceOfDigits_24 : decode cX5_differenceOfDigits 24 = .ok (.invokevirtual 30, 3) := by decide +kernel
set_option maxRecDepth 20000 in
theorem dX5_differenceOfDigits_27 : decode cX5_differenceOfDigits 27 = .ok (.aload_n 1, 1) := by decide +kernel
set_option maxRecDepth 20000 in
theorem dX5_differenceOfDigits_28 : decode cX5_differenceOfDigits 28 = .ok (.iload 4, 2) := by decide +kernel
set_option maxRecDepth 20000 in
theorem dX5_differenceOfDigits_30 : decode cX5_differenceOfDigits 30 = .ok (.invokevirtual 30, 3) := by decide +kernel
set_option maxRecDepth 20000 in
theorem dX5_differenceOfDigits_33 : decode cX5_differenceOfDigits 33 = .ok (.isub, 1) := by decide +kernel
set_option maxRecDepth 20000 in
theorem dX5_differenceOfDigits_34 : decode cX5_differenceOfDigits 34 = .ok (.iload_n 3, 1) := by decide +kernel
set_option maxRecDepth 20000 in
theorem dX5_differenceOfDigits_35 : decode cX5_differenceOfDigits 35 = .ok (.iadd, 1) := by decide +kernel
set_option maxRecDepth 20000 in
theorem dX5_differenceOfDigits_36 : decode cX5_differenceOfDigits 36 = .ok (.istore 5, 2) := by decide +kernel
set_option maxRecDepth 20000 in
theorem dX5_differenceOfDigits_38 : decode cX5_differenceOfDigits 38 = .ok (.aload_n 2, 1) := by decide +kernel
set_option maxRecDepth 20000 in
theorem dX5_differenceOfDigits_39 : decode cX5_differenceOfDigits 39 = .ok (.iload 4, 2) := by decide +kernel
set_option maxRecDepth 20000 in
theorem dX5_differenceOfDigits_41 : decode cX5_differenceOfDigits 41 = .ok (.iload 5, 2) := by decide +kernel
set_option maxRecDepth 20000 in
theorem dX5_differenceOfDigits_43 : decode cX5_differenceOfDigits 43 = .ok (.ldc 20, 2) := by decide +kernel
set_option maxRecDepth 20000 in
theorem dX5_differenceOfDigits_45 : decode cX5_differenceOfDigits 45 = .ok (.iand, 1) := by decide +kernel
set_option maxRecDepth 20000 in
theorem dX5_differenceOfDigits_46 : decode cX5_differenceOfDigits 46 = .ok (.iastore, 1) := by decide +kernel
set_option maxRecDepth 20000 in
theorem dX5_differenceOfDigits_47 : decode cX5_differenceOfDigits 47 = .ok (.iload 5, 2) := by decide +kernel
set_option maxRecDepth 20000 in
theorem dX5_differenceOfDigits_49 : decode cX5_differenceOfDigits 49 = .ok (.bipush 16, 2) := by decide +kernel
set_option maxRecDepth 20000 in
theorem dX5_differenceOfDigits_51 : decode cX5_differenceOfDigits 51 = .ok (.ishr, 1) := by decide +kernel
set_option maxRecDepth 20000 in
theorem dX5_differenceOfDigits_52 : decode cX5_differenceOfDigits 52 = .ok (.istore_n 3, 1) := by decide +kernel
set_option maxRecDepth 20000 in
theorem dX5_differenceOfDigits_53 : decode cX5_differenceOfDigits 53 = .ok (.iinc 4 1, 3) := by decide +kernel
set_option maxRecDepth 20000 in
theorem dX5_differenceOfDigits_56 : decode cX5_differenceOfDigits 56 = .ok (.goto (-44), 3) := by decide +kernel
set_option maxRecDepth 20000 in
theorem dX5_differenceOfDigits_59 : decode cX5_differenceOfDigits 59 = .ok (.aload_n 2, 1) := by decide +kernel
set_option maxRecDepth 20000 in
theorem dX5_differenceOfDigits_60 : decode cX5_differenceOfDigits 60 = .ok (.areturn, 1) := by decide +kernel
set_option maxRecDepth 20000 in
theorem dX5_times_0 : decode cX5_times 0 = .ok (.aload_n 0, 1) := by decide +kernel
set_option maxRecDepth 20000 in
theorem dX5_times_1 : decode cX5_times 1 = .ok (.getfield 7, 3) := by decide +kernel
set_option maxRecDepth 20000 in
theorem dX5_times_4 : decode cX5_times 4 = .ok (.ifCond .eq 10, 3) := by decide +kernel
set_option maxRecDepth 20000 in
theorem dX5_times_7 : decode cX5_times 7 = .ok (.aload_n 1, 1) := by decide +kernel
set_option maxRecDepth 20000 in
theorem dX5_times_8 : decode cX5_times 8 = .ok (.getfield 7, 3) := by decide +kernel
set_option maxRecDepth 20000 in
theorem dX5_times_11 : decode cX5_times 11 = .ok (.ifCond .ne 15, 3) := by decide +kernel
set_option maxRecDepth 20000 in
theorem dX5_times_14 : decode cX5_times 14 = .ok (.new 8, 3) := by decide +kernel
set_option maxRecDepth 20000 in
theorem dX5_times_17 : decode cX5_times 17 = .ok (.dup, 1) := by decide +kernel
set_option maxRecDepth 20000 in
theorem dX5_times_18 : decode cX5_times 18 = .ok (.iconst 0, 1) := by decide +kernel
set_option maxRecDepth 20000 in
theorem dX5_times_19 : decode cX5_times 19 = .ok (.iconst 0, 1) := by decide +kernel
set_option maxRecDepth 20000 in
theorem dX5_times_20 : decode cX5_times 20 = .ok (.newarray .int, 2) := by decide +kernel
set_option maxRecDepth 20000 in
theorem dX5_times_22 : decode cX5_times 22 = .ok (.invokespecial 21, 3) := by decide +kernel
set_option maxRecDepth 20000 in
theorem dX5_times_25 : decode cX5_times 25 = .ok (.areturn, 1) := by decide +kernel
set_option maxRecDepth 20000 in
theorem dX5_times_26 : decode cX5_times 26 = .ok (.aload_n 0, 1) := by decide +kernel
set_option maxRecDepth 20000 in
theorem dX5_times_27 : decode cX5_times 27 = .ok (.getfield 17, 3) := by decide +kernel
set_option maxRecDepth 20000 in
theorem dX5_times_30 : decode cX5_times 30 = .ok (.aload_n 1, 1) := by decide +kernel
set_option maxRecDepth 20000 in
theorem dX5_times_31 : decode cX5_times 31 = .ok (.getfield 17, 3) := by decide +kernel
set_option maxRecDepth 20000 in
theorem dX5_times_34 : decode cX5_times 34 = .ok (.iadd, 1) := by decide +kernel
set_option maxRecDepth 20000 in
theorem dX5_times_35 : decode cX5_times 35 = .ok (.newarray .int, 2) := by decide +kernel
set_option maxRecDepth 20000 in
theorem dX5_times_37 : decode cX5_times 37 = .ok (.astore_n 2, 1) := by decide +kernel
set_option maxRecDepth 20000 in
theorem dX5_times_38 : decode cX5_times 38 = .ok (.iconst 0, 1) := by decide +kernel
set_option maxRecDepth 20000 in
theorem dX5_times_39 : decode cX5_times 39 = .ok (.istore_n 3, 1) := by decide +kernel
set_option maxRecDepth 20000 in
theorem dX5_times_40 : decode cX5_times 40 = .ok (.iload_n 3, 1) := by decide +kernel
set_option maxRecDepth 20000 in
theorem dX5_times_41 : decode cX5_times 41 = .ok (.aload_n 0, 1) := by decide +kernel
set_option maxRecDepth 20000 in
theorem dX5_times_42 : decode cX5_times 42 = .ok (.getfield 17, 3) := by decide +kernel
set_option maxRecDepth 20000 in
theorem dX5_times_45 : decode cX5_times 45 = .ok (.if_icmp .ge 94, 3) := by decide +kernel
set_option maxRecDepth 20000 in
theorem dX5_times_48 : decode cX5_times 48 = .ok (.aload_n 0, 1) := by decide +kernel
set_option maxRecDepth 20000 in
theorem dX5_times_49 : decode cX5_times 49 = .ok (.getfield 13, 3) := by decide +kernel
set_option maxRecDepth 20000 in
theorem dX5_times_52 : decode cX5_times 52 = .ok (.iload_n 3, 1) := by decide +kernel
set_option maxRecDepth 20000 in
theorem dX5_times_53 : decode cX5_times 53 = .ok (.iaload, 1) := by decide +kernel
set_option maxRecDepth 20000 in
theorem dX5_times_54 : decode cX5_times 54 = .ok (.i2l, 1) := by decide +kernel
set_option maxRecDepth 20000 in
theorem dX5_times_55 : decode cX5_times 55 = .ok (.lstore 4, 2) := by decide +kernel
set_option maxRecDepth 20000 in
theorem dX5_times_57 : decode cX5_times 57 = .ok (.lconst 0, 1) := by decide +kernel
set_option maxRecDepth 20000 in
theorem dX5_times_58 : decode cX5_times 58 = .ok (.lstore 6, 2) := by decide +kernel
set_option maxRecDepth 20000 in
theorem dX5_times_60 : decode cX5_times 60 = .ok (.iconst 0, 1) := by decide +kernel
set_option maxRecDepth 20000 in
theorem dX5_times_61 : decode cX5_times 61 = .ok (.istore 8, 2) := by decide +kernel
set_option maxRecDepth 20000 in
theorem dX5_times_63 : decode cX5_times 63 = .ok (.iload 8, 2) := by decide +kernel
set_option maxRecDepth 20000 in
theorem dX5_times_65 : decode cX5_times 65 = .ok (.aload_n 1, 1) := by decide +kernel
set_option maxRecDepth 20000 in
theorem dX5_times_66 : decode cX5_times 66 = .ok (.getfield 17, 3) := by decide +kernel
set_option maxRecDepth 20000 in
theorem dX5_times_69 : decode cX5_times 69 = .ok (.if_icmp .ge 53, 3) := by decide +kernel
set_option maxRecDepth 20000 in
theorem dX5_times_72 : decode cX5_times 72 = .ok (.aload_n 2, 1) := by decide +kernel
set_option maxRecDepth 20000 in
theorem dX5_times_73 : decode cX5_times 73 = .ok (.iload_n 3, 1) := by decide +kernel
set_option maxRecDepth 20000 in
theorem dX5_times_74 : decode cX5_times 74 = .ok (.iload 8, 2) := by decide +kernel
set_option maxRecDepth 20000 in
theorem dX5_times_76 : decode cX5_times 76 = .ok (.iadd, 1) := by decide +kernel
set_option maxRecDepth 20000 in
theorem dX5_times_77 : decode cX5_times 77 = .ok (.iaload, 1) := by decide +kernel
set_option maxRecDepth 20000 in
theorem dX5_times_78 : decode cX5_times 78 = .ok (.i2l, 1) := by decide +kernel
set_option maxRecDepth 20000 in
theorem dX5_times_79 : decode cX5_times 79 = .ok (.lload 4, 2) := by decide +kernel
set_option maxRecDepth 20000 in
theorem dX5_times_81 : decode cX5_times 81 = .ok (.aload_n 1, 1) := by decide +kernel
set_option maxRecDepth 20000 in
theorem dX5_times_82 : decode cX5_times 82 = .ok (.getfield 13, 3) := by decide +kernel
set_option maxRecDepth 20000 in
theorem dX5_times_85 : decode cX5_times 85 = .ok (.iload 8, 2) := by decide +kernel
set_option maxRecDepth 20000 in
theorem dX5_times_87 : decode cX5_times 87 = .ok (.iaload, 1) := by decide +kernel
set_option maxRecDepth 20000 in
theorem dX5_times_88 : decode cX5_times 88 = .ok (.i2l, 1) := by decide +kernel
set_option maxRecDepth 20000 in
theorem dX5_times_89 : decode cX5_times 89 = .ok (.lmul, 1) := by decide +kernel
set_option maxRecDepth 20000 in
theorem dX5_times_90 : decode cX5_times 90 = .ok (.ladd, 1) := by decide +kernel
set_option maxRecDepth 20000 in
theorem dX5_times_91 : decode cX5_times 91 = .ok (.lload 6, 2) := by decide +kernel
set_option maxRecDepth 20000 in
theorem dX5_times_93 : decode cX5_times 93 = .ok (.ladd, 1) := by decide +kernel
set_option maxRecDepth 20000 in
theorem dX5_times_94 : decode cX5_times 94 = .ok (.lstore 9, 2) := by decide +kernel
set_option maxRecDepth 20000 in
theorem dX5_times_96 : decode cX5_times 96 = .ok (.aload_n 2, 1) := by decide +kernel
set_option maxRecDepth 20000 in
theorem dX5_times_97 : decode cX5_times 97 = .ok (.iload_n 3, 1) := by decide +kernel
set_option maxRecDepth 20000 in
theorem dX5_times_98 : decode cX5_times 98 = .ok (.iload 8, 2) := by decide +kernel
set_option maxRecDepth 20000 in
theorem dX5_times_100 : decode cX5_times 100 = .ok (.iadd, 1) := by decide +kernel
set_option maxRecDepth 20000 in
theorem dX5_times_101 : decode cX5_times 101 = .ok (.lload 9, 2) := by decide +kernel
set_option maxRecDepth 20000 in
theorem dX5_times_103 : decode cX5_times 103 = .ok (.ldc2_w 51, 3) := by decide +kernel
set_option maxRecDepth 20000 in
theorem dX5_times_106 : decode cX5_times 106 = .ok (.land, 1) := by decide +kernel
set_option maxRecDepth 20000 in
theorem dX5_times_107 : decode cX5_times 107 = .ok (.l2i, 1) := by decide +kernel
set_option maxRecDepth 20000 in
theorem dX5_times_108 : decode cX5_times 108 = .ok (.iastore, 1) := by decide +kernel
set_option maxRecDepth 20000 in
theorem dX5_times_109 : decode cX5_times 109 = .ok (.lload 9, 2) := by decide +kernel
set_option maxRecDepth 20000 in
theorem dX5_times_111 : decode cX5_times 111 = .ok (.bipush 16, 2) := by decide +kernel
set_option maxRecDepth 20000 in
theorem dX5_times_113 : decode cX5_times 113 = .ok (.lshr, 1) := by decide +kernel
set_option maxRecDepth 20000 in
theorem dX5_times_114 : decode cX5_times 114 = .ok (.lstore 6, 2) := by decide +kernel
set_option maxRecDepth 20000 in
theorem dX5_times_116 : decode cX5_times 116 = .ok (.iinc 8 1, 3) := by decide +kernel
set_option maxRecDepth 20000 in
theorem dX5_times_119 : decode cX5_times 119 = .ok (.goto (-56), 3) := by decide +kernel
set_option maxRecDepth 20000 in
theorem dX5_times_122 : decode cX5_times 122 = .ok (.aload_n 2, 1) := by decide +kernel
set_option maxRecDepth 20000 in
theorem dX5_times_123 : decode cX5_times 123 = .ok (.iload_n 3, 1) := by decide +kernel
set_option maxRecDepth 20000 in
theorem dX5_times_124 : decode cX5_times 124 = .ok (.aload_n 1, 1) := by decide +kernel
set_option maxRecDepth 20000 in
theorem dX5_times_125 : decode cX5_times 125 = .ok (.getfield 17, 3) := by decide +kernel
set_option maxRecDepth 20000 in
theorem dX5_times_128 : decode cX5_times 128 = .ok (.iadd, 1) := by decide +kernel
set_option maxRecDepth 20000 in
theorem dX5_times_129 : decode cX5_times 129 = .ok (.lload 6, 2) := by decide +kernel
set_option maxRecDepth 20000 in
theorem dX5_times_131 : decode cX5_times 131 = .ok (.l2i, 1) := by decide +kernel
set_option maxRecDepth 20000 in
theorem dX5_times_132 : decode cX5_times 132 = .ok (.iastore, 1) := by decide +kernel
set_option maxRecDepth 20000 in
theorem dX5_times_133 : decode cX5_times 133 = .ok (.iinc 3 1, 3) := by decide +kernel
set_option maxRecDepth 20000 in
theorem dX5_times_136 : decode cX5_times 136 = .ok (.goto (-96), 3) := by decide +kernel
set_option maxRecDepth 20000 in
theorem dX5_times_139 : decode cX5_times 139 = .ok (.new 8, 3) := by decide +kernel
set_option maxRecDepth 20000 in
theorem dX5_times_142 : decode cX5_times 142 = .ok (.dup, 1) := by decide +kernel
set_option maxRecDepth 20000 in
theorem dX5_times_143 : decode cX5_times 143 = .ok (.aload_n 0, 1) := by decide +kernel
set_option maxRecDepth 20000 in
theorem dX5_times_144 : decode cX5_times 144 = .ok (.getfield 7, 3) := by decide +kernel
set_option maxRecDepth 20000 in
theorem dX5_times_147 : decode cX5_times 147 = .ok (.aload_n 1, 1) := by decide +kernel
set_option maxRecDepth 20000 in
theorem dX5_times_148 : decode cX5_times 148 = .ok (.getfield 7, 3) := by decide +kernel
set_option maxRecDepth 20000 in
theorem dX5_times_151 : decode cX5_times 151 = .ok (.imul, 1) := by decide +kernel
set_option maxRecDepth 20000 in
theorem dX5_times_152 : decode cX5_times 152 = .ok (.aload_n 2, 1) := by decide +kernel
set_option maxRecDepth 20000 in
theorem dX5_times_153 : decode cX5_times 153 = .ok (.invokespecial 21, 3) := by decide +kernel
set_option maxRecDepth 20000 in
theorem dX5_times_156 : decode cX5_times 156 = .ok (.areturn, 1) := by decide +kernel
set_option maxRecDepth 20000 in
theorem dX5_dividedBy_0 : decode cX5_dividedBy 0 = .ok (.aload_n 1, 1) := by decide +kernel
set_option maxRecDepth 20000 in
theorem dX5_dividedBy_1 : decode cX5_dividedBy 1 = .ok (.getfield 7, 3) := by decide +kernel
set_option maxRecDepth 20000 in
theorem dX5_dividedBy_4 : decode cX5_dividedBy 4 = .ok (.ifCond .eq 14, 3) := by decide +kernel
set_option maxRecDepth 20000 in
theorem dX5_dividedBy_7 : decode cX5_dividedBy 7 = .ok (.aload_n 0, 1) := by decide +kernel
set_option maxRecDepth 20000 in
theorem dX5_dividedBy_8 : decode cX5_dividedBy 8 = .ok (.getfield 17, 3) := by decide +kernel
set_option maxRecDepth 20000 in
theorem dX5_dividedBy_11 : decode cX5_dividedBy 11 = .ok (.aload_n 1, 1) := by decide +kernel
set_option maxRecDepth 20000 in
theorem dX5_dividedBy_12 : decode cX5_dividedBy 12 = .ok (.getfield 17, 3) := by decide +kernel
set_option maxRecDepth 20000 in
theorem dX5_dividedBy_15 : decode cX5_dividedBy 15 = .ok (.if_icmp .ge 15, 3) := by decide +kernel
set_option maxRecDepth 20000 in
theorem dX5_dividedBy_18 : decode cX5_dividedBy 18 = .ok (.new 8, 3) := by decide +kernel
set_option maxRecDepth 20000 in
theorem dX5_dividedBy_21 : decode cX5_dividedBy 21 = .ok (.dup, 1) := by decide +kernel
set_option maxRecDepth 20000 in
theorem dX5_dividedBy_22 : decode cX5_dividedBy 22 = .ok (.iconst 0, 1) := by decide +kernel
set_option maxRecDepth 20000 in
theorem dX5_dividedBy_23 : decode cX5_dividedBy 23 = .ok (.iconst 0, 1) := by decide +kernel
set_option maxRecDepth 20000 in
theorem dX5_dividedBy_24 : decode cX5_dividedBy 24 = .ok (.newarray .int, 2) := by decide +kernel
set_option maxRecDepth 20000 in
theorem dX5_dividedBy_26 : decode cX5_dividedBy 26 = .ok (.invokespecial 21, 3) := by decide +kernel
set_option maxRecDepth 20000 in
theorem dX5_dividedBy_29 : decode cX5_dividedBy 29 = .ok (.areturn, 1) := by decide +kernel
set_option maxRecDepth 20000 in
theorem dX5_dividedBy_30 : decode cX5_dividedBy 30 = .ok (.aload_n 0, 1) := by decide +kernel
set_option maxRecDepth 20000 in
theorem dX5_dividedBy_31 : decode cX5_dividedBy 31 = .ok (.getfield 17, 3) := by decide +kernel
set_option maxRecDepth 20000 in
theorem dX5_dividedBy_34 : decode cX5_dividedBy 34 = .ok (.aload_n 1, 1) := by decide +kernel
set_option maxRecDepth 20000 in
theorem dX5_dividedBy_35 : decode cX5_dividedBy 35 = .ok (.getfield 17, 3) := by decide +kernel
set_option maxRecDepth 20000 in
theorem dX5_dividedBy_38 : decode cX5_dividedBy 38 = .ok (.isub, 1) := by decide +kernel
set_option maxRecDepth 20000 in
theorem dX5_dividedBy_39 : decode cX5_dividedBy 39 = .ok (.iconst 1, 1) := by decide +kernel
set_option maxRecDepth 20000 in
theorem dX5_dividedBy_40 : decode cX5_dividedBy 40 = .ok (.iadd, 1) := by decide +kernel
set_option maxRecDepth 20000 in
theorem dX5_dividedBy_41 : decode cX5_dividedBy 41 = .ok (.newarray .int, 2) := by decide +kernel
set_option maxRecDepth 20000 in
theorem dX5_dividedBy_43 : decode cX5_dividedBy 43 = .ok (.astore_n 2, 1) := by decide +kernel
set_option maxRecDepth 20000 in
theorem dX5_dividedBy_44 : decode cX5_dividedBy 44 = .ok (.new 53, 3) := by decide +kernel
set_option maxRecDepth 20000 in
theorem dX5_dividedBy_47 : decode cX5_dividedBy 47 = .ok (.dup, 1) := by decide +kernel
set_option maxRecDepth 20000 in
theorem dX5_dividedBy_48 : decode cX5_dividedBy 48 = .ok (.aload_n 0, 1) := by decide +kernel
set_option maxRecDepth 20000 in
theorem dX5_dividedBy_49 : decode cX5_dividedBy 49 = .ok (.invokespecial 55, 3) := by decide +kernel
set_option maxRecDepth 20000 in
theorem dX5_dividedBy_52 : decode cX5_dividedBy 52 = .ok (.new 53, 3) := by decide +kernel
set_option maxRecDepth 20000 in
theorem dX5_dividedBy_55 : decode cX5_dividedBy 55 = .ok (.dup, 1) := by decide +kernel
set_option maxRecDepth 20000 in
theorem dX5_dividedBy_56 : decode cX5_dividedBy 56 = .ok (.aload_n 1, 1) := by decide +kernel
set_option maxRecDepth 20000 in
theorem dX5_dividedBy_57 : decode cX5_dividedBy 57 = .ok (.invokespecial 55, 3) := by decide +kernel
set_option maxRecDepth 20000 in
theorem dX5_dividedBy_60 : decode cX5_dividedBy 60 = .ok (.aload_n 2, 1) := by decide +kernel
set_option maxRecDepth 20000 in
theorem dX5_dividedBy_61 : decode cX5_dividedBy 61 = .ok (.invokevirtual 58, 3) := by decide +kernel
set_option maxRecDepth 20000 in
theorem dX5_dividedBy_64 : decode cX5_dividedBy 64 = .ok (.new 8, 3) := by decide +kernel
set_option maxRecDepth 20000 in
theorem dX5_dividedBy_67 : decode cX5_dividedBy 67 = .ok (.dup, 1) := by decide +kernel
set_option maxRecDepth 20000 in
theorem dX5_dividedBy_68 : decode cX5_dividedBy 68 = .ok (.aload_n 0, 1) := by decide +kernel
set_option maxRecDepth 20000 in
theorem dX5_dividedBy_69 : decode cX5_dividedBy 69 = .ok (.getfield 7, 3) := by decide +kernel
set_option maxRecDepth 20000 in
theorem dX5_dividedBy_72 : decode cX5_dividedBy 72 = .ok (.aload_n 1, 1) := by decide +kernel
set_option maxRecDepth 20000 in
theorem dX5_dividedBy_73 : decode cX5_dividedBy 73 = .ok (.getfield 7, 3) := by decide +kernel
set_option maxRecDepth 20000 in
theorem dX5_dividedBy_76 : decode cX5_dividedBy 76 = .ok (.imul, 1) := by decide +kernel
set_option maxRecDepth 20000 in
theorem dX5_dividedBy_77 : decode cX5_dividedBy 77 = .ok (.aload_n 2, 1) := by decide +kernel
set_option maxRecDepth 20000 in
theorem dX5_dividedBy_78 : decode cX5_dividedBy 78 = .ok (.invokespecial 21, 3) := by decide +kernel
set_option maxRecDepth 20000 in
theorem dX5_dividedBy_81 : decode cX5_dividedBy 81 = .ok (.areturn, 1) := by decide +kernel
set_option maxRecDepth 20000 in
theorem dX5_commonDivisor_0 : decode cX5_commonDivisor 0 = .ok (.new 53, 3) := by decide +kernel
set_option maxRecDepth 20000 in
theorem dX5_commonDivisor_3 : decode cX5_commonDivisor 3 = .ok (.dup, 1) := by decide +kernel
set_option maxRecDepth 20000 in
theorem dX5_commonDivisor_4 : decode cX5_commonDivisor 4 = .ok (.aload_n 0, 1) := by decide +kernel
set_option maxRecDepth 20000 in
theorem dX5_commonDivisor_5 : decode cX5_commonDivisor 5 = .ok (.invokespecial 55, 3) := by decide +kernel
set_option maxRecDepth 20000 in
theorem dX5_commonDivisor_8 : decode cX5_commonDivisor 8 = .ok (.astore_n 2, 1) := by decide +kernel
set_option maxRecDepth 20000 in
theorem dX5_commonDivisor_9 : decode cX5_commonDivisor 9 = .ok (.new 53, 3) := by decide +kernel
set_option maxRecDepth 20000 in
theorem dX5_commonDivisor_12 : decode cX5_commonDivisor 12 = .ok (.dup, 1) := by decide +kernel
set_option maxRecDepth 20000 in
theorem dX5_commonDivisor_13 : decode cX5_commonDivisor 13 = .ok (.aload_n 1, 1) := by decide +kernel
set_option maxRecDepth 20000 in
theorem dX5_commonDivisor_14 : decode cX5_commonDivisor 14 = .ok (.invokespecial 55, 3) := by decide +kernel
set_option maxRecDepth 20000 in
theorem dX5_commonDivisor_17 : decode cX5_commonDivisor 17 = .ok (.astore_n 3, 1) := by decide +kernel
set_option maxRecDepth 20000 in
theorem dX5_commonDivisor_18 : decode cX5_commonDivisor 18 = .ok (.iconst 0, 1) := by decide +kernel
set_option maxRecDepth 20000 in
theorem dX5_commonDivisor_19 : decode cX5_commonDivisor 19 = .ok (.newarray .int, 2) := by decide +kernel
set_option maxRecDepth 20000 in
theorem dX5_commonDivisor_21 : decode cX5_commonDivisor 21 = .ok (.astore 4, 2) := by decide +kernel
set_option maxRecDepth 20000 in
theorem dX5_commonDivisor_23 : decode cX5_commonDivisor 23 = .ok (.iconst 0, 1) := by decide +kernel
set_option maxRecDepth 20000 in
theorem dX5_commonDivisor_24 : decode cX5_commonDivisor 24 = .ok (.istore 5, 2) := by decide +kernel
set_option maxRecDepth 20000 in
theorem dX5_commonDivisor_26 : decode cX5_commonDivisor 26 = .ok (.iload 5, 2) := by decide +kernel
set_option maxRecDepth 20000 in
theorem dX5_commonDivisor_28 : decode cX5_commonDivisor 28 = .ok (.ldc 62, 2) := by decide +kernel
set_option maxRecDepth 20000 in
theorem dX5_commonDivisor_30 : decode cX5_commonDivisor 30 = .ok (.if_icmp .ge 31, 3) := by decide +kernel
set_option maxRecDepth 20000 in
theorem dX5_commonDivisor_33 : decode cX5_commonDivisor 33 = .ok (.aload_n 3, 1) := by decide +kernel
set_option maxRecDepth 20000 in
theorem dX5_commonDivisor_34 : decode cX5_commonDivisor 34 = .ok (.invokevirtual 63, 3) := by decide +kernel
set_option maxRecDepth 20000 in
theorem dX5_commonDivisor_37 : decode cX5_commonDivisor 37 = .ok (.ifCond .ne 24, 3) := by decide +kernel
set_option maxRecDepth 20000 in
theorem dX5_commonDivisor_40 : decode cX5_commonDivisor 40 = .ok (.aload_n 2, 1) := by decide +kernel
set_option maxRecDepth 20000 in
theorem dX5_commonDivisor_41 : decode cX5_commonDivisor 41 = .ok (.aload_n 3, 1) := by decide +kernel
set_option maxRecDepth 20000 in
theorem dX5_commonDivisor_42 : decode cX5_commonDivisor 42 = .ok (.aload 4, 2) := by decide +kernel
set_option maxRecDepth 20000 in
theorem dX5_commonDivisor_44 : decode cX5_commonDivisor 44 = .ok (.invokevirtual 58, 3) := by decide +kernel
set_option maxRecDepth 20000 in
theorem dX5_commonDivisor_47 : decode cX5_commonDivisor 47 = .ok (.aload_n 2, 1) := by decide +kernel
set_option maxRecDepth 20000 in
theorem dX5_commonDivisor_48 : decode cX5_commonDivisor 48 = .ok (.astore 6, 2) := by decide +kernel
set_option maxRecDepth 20000 in
theorem dX5_commonDivisor_50 : decode cX5_commonDivisor 50 = .ok (.aload_n 3, 1) := by decide +kernel
set_option maxRecDepth 20000 in
theorem dX5_commonDivisor_51 : decode cX5_commonDivisor 51 = .ok (.astore_n 2, 1) := by decide +kernel
set_option maxRecDepth 20000 in
theorem dX5_commonDivisor_52 : decode cX5_commonDivisor 52 = .ok (.aload 6, 2) := by decide +kernel
set_option maxRecDepth 20000 in
theorem dX5_commonDivisor_54 : decode cX5_commonDivisor 54 = .ok (.astore_n 3, 1) := by decide +kernel
set_option maxRecDepth 20000 in
theorem dX5_commonDivisor_55 : decode cX5_commonDivisor 55 = .ok (.iinc 5 1, 3) := by decide +kernel
set_option maxRecDepth 20000 in
theorem dX5_commonDivisor_58 : decode cX5_commonDivisor 58 = .ok (.goto (-32), 3) := by decide +kernel
set_option maxRecDepth 20000 in
theorem dX5_commonDivisor_61 : decode cX5_commonDivisor 61 = .ok (.aload_n 2, 1) := by decide +kernel
set_option maxRecDepth 20000 in
theorem dX5_commonDivisor_62 : decode cX5_commonDivisor 62 = .ok (.invokevirtual 67, 3) := by decide +kernel
set_option maxRecDepth 20000 in
theorem dX5_commonDivisor_65 : decode cX5_commonDivisor 65 = .ok (.areturn, 1) := by decide +kernel
set_option maxRecDepth 20000 in
theorem dX3_init_0 : decode cX3_init 0 = .ok (.aload_n 0, 1) := by decide +kernel
set_option maxRecDepth 20000 in
theorem dX3_init_1 : decode cX3_init 1 = .ok (.invokespecial 1, 3) := by decide +kernel
set_option maxRecDepth 20000 in
theorem dX3_init_4 : decode cX3_init 4 = .ok (.aload_n 0, 1) := by decide +kernel
set_option maxRecDepth 20000 in
theorem dX3_init_5 : decode cX3_init 5 = .ok (.aload_n 1, 1) := by decide +kernel
set_option maxRecDepth 20000 in
theorem dX3_init_6 : decode cX3_init 6 = .ok (.invokevirtual 7, 3) := by decide +kernel
set_option maxRecDepth 20000 in
theorem dX3_init_9 : decode cX3_init 9 = .ok (.putfield 13, 3) := by decide +kernel
set_option maxRecDepth 20000 in
theorem dX3_init_12 : decode cX3_init 12 = .ok (.aload_n 0, 1) := by decide +kernel
set_option maxRecDepth 20000 in
theorem dX3_init_13 : decode cX3_init 13 = .ok (.aload_n 1, 1) := by decide +kernel
set_option maxRecDepth 20000 in
theorem dX3_init_14 : decode cX3_init 14 = .ok (.invokevirtual 19, 3) := by decide +kernel
set_option maxRecDepth 20000 in
theorem dX3_init_17 : decode cX3_init 17 = .ok (.putfield 23, 3) := by decide +kernel
set_option maxRecDepth 20000 in
theorem dX3_init_20 : decode cX3_init 20 = .ok (.return_, 1) := by decide +kernel
set_option maxRecDepth 20000 in
theorem dX3_isNothing_0 : decode cX3_isNothing 0 = .ok (.aload_n 0, 1) := by decide +kernel
set_option maxRecDepth 20000 in
theorem dX3_isNothing_1 : decode cX3_isNothing 1 = .ok (.getfield 23, 3) := by decide +kernel
set_option maxRecDepth 20000 in
theorem dX3_isNothing_4 : decode cX3_isNothing 4 = .ok (.ifCond .ne 7, 3) := by decide +kernel
set_option maxRecDepth 20000 in
theorem dX3_isNothing_7 : decode cX3_isNothing 7 = .ok (.iconst 1, 1) := by decide +kernel
set_option maxRecDepth 20000 in
theorem dX3_isNothing_8 : decode cX3_isNothing 8 = .ok (.goto 4, 3) := by decide +kernel
set_option maxRecDepth 20000 in
theorem dX3_isNothing_11 : decode cX3_isNothing 11 = .ok (.iconst 0, 1) := by decide +kernel
set_option maxRecDepth 20000 in
theorem dX3_isNothing_12 : decode cX3_isNothing 12 = .ok (.ireturn, 1) := by decide +kernel
set_option maxRecDepth 20000 in
theorem dX3_whole_0 : decode cX3_whole 0 = .ok (.new 8, 3) := by decide +kernel
set_option maxRecDepth 20000 in
theorem dX3_whole_3 : decode cX3_whole 3 = .ok (.dup, 1) := by decide +kernel
set_option maxRecDepth 20000 in
theorem dX3_whole_4 : decode cX3_whole 4 = .ok (.iconst 1, 1) := by decide +kernel
set_option maxRecDepth 20000 in
theorem dX3_whole_5 : decode cX3_whole 5 = .ok (.aload_n 0, 1) := by decide +kernel
set_option maxRecDepth 20000 in
theorem dX3_whole_6 : decode cX3_whole 6 = .ok (.getfield 13, 3) := by decide +kernel
set_option maxRecDepth 20000 in
theorem dX3_whole_9 : decode cX3_whole 9 = .ok (.invokespecial 26, 3) := by decide +kernel
set_option maxRecDepth 20000 in
theorem dX3_whole_12 : decode cX3_whole 12 = .ok (.areturn, 1) := by decide +kernel
set_option maxRecDepth 20000 in
theorem dX3_divideBy_0 : decode cX3_divideBy 0 = .ok (.aload_n 1, 1) := by decide +kernel
set_option maxRecDepth 20000 in
theorem dX3_divideBy_1 : decode cX3_divideBy 1 = .ok (.invokevirtual 29, 3) := by decide +kernel
set_option maxRecDepth 20000 in
theorem dX3_divideBy_4 : decode cX3_divideBy 4 = .ok (.lstore_n 3, 1) := by decide +kernel
set_option maxRecDepth 20000 in
theorem dX3_divideBy_5 : decode cX3_divideBy 5 = .ok (.lload_n 3, 1) := by decide +kernel
set_option maxRecDepth 20000 in
theorem dX3_divideBy_6 : decode cX3_divideBy 6 = .ok (.lconst 0, 1) := by decide +kernel
set_option maxRecDepth 20000 in
theorem dX3_divideBy_7 : decode cX3_divideBy 7 = .ok (.lcmp, 1) := by decide +kernel
set_option maxRecDepth 20000 in
theorem dX3_divideBy_8 : decode cX3_divideBy 8 = .ok (.ifCond .ne 4, 3) := by decide +kernel
set_option maxRecDepth 20000 in
theorem dX3_divideBy_11 : decode cX3_divideBy 11 = .ok (.return_, 1) := by decide +kernel
set_option maxRecDepth 20000 in
theorem dX3_divideBy_12 : decode cX3_divideBy 12 = .ok (.aload_n 0, 1) := by decide +kernel
set_option maxRecDepth 20000 in
theorem dX3_divideBy_13 : decode cX3_divideBy 13 = .ok (.getfield 23, 3) := by decide +kernel
set_option maxRecDepth 20000 in
theorem dX3_divideBy_16 : decode cX3_divideBy 16 = .ok (.aload_n 1, 1) := by decide +kernel
set_option maxRecDepth 20000 in
theorem dX3_divideBy_17 : decode cX3_divideBy 17 = .ok (.getfield 23, 3) := by decide +kernel
set_option maxRecDepth 20000 in
theorem dX3_divideBy_20 : decode cX3_divideBy 20 = .ok (.isub, 1) := by decide +kernel
set_option maxRecDepth 20000 in
theorem dX3_divideBy_21 : decode cX3_divideBy 21 = .ok (.istore 5, 2) := by decide +kernel
set_option maxRecDepth 20000 in
theorem dX3_divideBy_23 : decode cX3_divideBy 23 = .ok (.iload 5, 2) := by decide +kernel
set_option maxRecDepth 20000 in
theorem dX3_divideBy_25 : decode cX3_divideBy 25 = .ok (.ifCond .lt 65, 3) := by decide +kernel
set_option maxRecDepth 20000 in
theorem dX3_divideBy_28 : decode cX3_divideBy 28 = .ok (.aload_n 0, 1) := by decide +kernel
set_option maxRecDepth 20000 in
theorem dX3_divideBy_29 : decode cX3_divideBy 29 = .ok (.iload 5, 2) := by decide +kernel
set_option maxRecDepth 20000 in
theorem dX3_divideBy_31 : decode cX3_divideBy 31 = .ok (.aload_n 1, 1) := by decide +kernel
set_option maxRecDepth 20000 in
theorem dX3_divideBy_32 : decode cX3_divideBy 32 = .ok (.getfield 23, 3) := by decide +kernel
set_option maxRecDepth 20000 in
theorem dX3_divideBy_35 : decode cX3_divideBy 35 = .ok (.iadd, 1) := by decide +kernel
set_option maxRecDepth 20000 in
theorem dX3_divideBy_36 : decode cX3_divideBy 36 = .ok (.invokevirtual 33, 3) := by decide +kernel
set_option maxRecDepth 20000 in
theorem dX3_divideBy_39 : decode cX3_divideBy 39 = .ok (.lload_n 3, 1) := by decide +kernel
set_option maxRecDepth 20000 in
theorem dX3_divideBy_40 : decode cX3_divideBy 40 = .ok (.ldiv, 1) := by decide +kernel
set_option maxRecDepth 20000 in
theorem dX3_divideBy_41 : decode cX3_divideBy 41 = .ok (.l2i, 1) := by decide +kernel
set_option maxRecDepth 20000 in
theorem dX3_divideBy_42 : decode cX3_divideBy 42 = .ok (.istore 6, 2) := by decide +kernel
set_option maxRecDepth 20000 in
theorem dX3_divideBy_44 : decode cX3_divideBy 44 = .ok (.iload 6, 2) := by decide +kernel
set_option maxRecDepth 20000 in
theorem dX3_divideBy_46 : decode cX3_divideBy 46 = .ok (.ifCond .le 25, 3) := by decide +kernel
set_option maxRecDepth 20000 in
theorem dX3_divideBy_49 : decode cX3_divideBy 49 = .ok (.aload_n 0, 1) := by decide +kernel
set_option maxRecDepth 20000 in
theorem dX3_divideBy_50 : decode cX3_divideBy 50 = .ok (.aload_n 1, 1) := by decide +kernel
set_option maxRecDepth 20000 in
theorem dX3_divideBy_51 : decode cX3_divideBy 51 = .ok (.iload 5, 2) := by decide +kernel
set_option maxRecDepth 20000 in
theorem dX3_divideBy_53 : decode cX3_divideBy 53 = .ok (.iload 6, 2) := by decide +kernel
set_option maxRecDepth 20000 in
theorem dX3_divideBy_55 : decode cX3_divideBy 55 = .ok (.invokevirtual 37, 3) := by decide +kernel
set_option maxRecDepth 20000 in
theorem dX3_divideBy_58 : decode cX3_divideBy 58 = .ok (.ifCond .eq 13, 3) := by decide +kernel
set_option maxRecDepth 20000 in
theorem dX3_divideBy_61 : decode cX3_divideBy 61 = .ok (.aload_n 0, 1) := by decide +kernel
set_option maxRecDepth 20000 in
theorem dX3_divideBy_62 : decode cX3_divideBy 62 = .ok (.aload_n 1, 1) := by decide +kernel
set_option maxRecDepth 20000 in
theorem dX3_divideBy_63 : decode cX3_divideBy 63 = .ok (.iload 5, 2) := by decide +kernel
set_option maxRecDepth 20000 in
theorem dX3_divideBy_65 : decode cX3_divideBy 65 = .ok (.invokevirtual 41, 3) := by decide +kernel
set_option maxRecDepth 20000 in
theorem dX3_divideBy_68 : decode cX3_divideBy 68 = .ok (.iinc 6 (-1), 3) := by decide +kernel
set_option maxRecDepth 20000 in
theorem dX3_divideBy_71 : decode cX3_divideBy 71 = .ok (.iload 5, 2) := by decide +kernel
set_option maxRecDepth 20000 in
theorem dX3_divideBy_73 : decode cX3_divideBy 73 = .ok (.aload_n 2, 1) := by decide +kernel
set_option maxRecDepth 20000 in
theorem dX3_divideBy_74 : decode cX3_divideBy 74 = .ok (.arraylength, 1) := by decide +kernel
set_option maxRecDepth 20000 in
theorem dX3_divideBy_75 : decode cX3_divideBy 75 = .ok (.if_icmp .ge 9, 3) := by decide +kernel
set_option maxRecDepth 20000 in
theorem dX3_divideBy_78 : decode cX3_divideBy 78 = .ok (.aload_n 2, 1) := by decide +kernel
set_option maxRecDepth 20000 in
theorem dX3_divideBy_79 : decode cX3_divideBy 79 = .ok (.iload 5, 2) := by decide +kernel
set_option maxRecDepth 20000 in
theorem dX3_divideBy_81 : decode cX3_divideBy 81 = .ok (.iload 6, 2) := by decide +kernel
set_option maxRecDepth 20000 in
theorem dX3_divideBy_83 : decode cX3_divideBy 83 = .ok (.iastore, 1) := by decide +kernel
set_option maxRecDepth 20000 in
theorem dX3_divideBy_84 : decode cX3_divideBy 84 = .ok (.iinc 5 (-1), 3) := by decide +kernel
set_option maxRecDepth 20000 in
theorem dX3_divideBy_87 : decode cX3_divideBy 87 = .ok (.goto (-64), 3) := by decide +kernel
set_option maxRecDepth 20000 in
theorem dX3_divideBy_90 : decode cX3_divideBy 90 = .ok (.aload_n 0, 1) := by decide +kernel
set_option maxRecDepth 20000 in
theorem dX3_divideBy_91 : decode cX3_divideBy 91 = .ok (.getfield 23, 3) := by decide +kernel
set_option maxRecDepth 20000 in
theorem dX3_divideBy_94 : decode cX3_divideBy 94 = .ok (.ifCond .le 30, 3) := by decide +kernel
set_option maxRecDepth 20000 in
theorem dX3_divideBy_97 : decode cX3_divideBy 97 = .ok (.aload_n 0, 1) := by decide +kernel
set_option maxRecDepth 20000 in
theorem dX3_divideBy_98 : decode cX3_divideBy 98 = .ok (.getfield 13, 3) := by decide +kernel
set_option maxRecDepth 20000 in
theorem dX3_divideBy_101 : decode cX3_divideBy 101 = .ok (.aload_n 0, 1) := by decide +kernel
set_option maxRecDepth 20000 in
theorem dX3_divideBy_102 : decode cX3_divideBy 102 = .ok (.getfield 23, 3) := by decide +kernel
set_option maxRecDepth 20000 in
theorem dX3_divideBy_105 : decode cX3_divideBy 105 = .ok (.iconst 1, 1) := by decide +kernel
set_option maxRecDepth 20000 in
theorem dX3_divideBy_106 : decode cX3_divideBy 106 = .ok (.isub, 1) := by decide +kernel
set_option maxRecDepth 20000 in
theorem dX3_divideBy_107 : decode cX3_divideBy 107 = .ok (.iaload, 1) := by decide +kernel
set_option maxRecDepth 20000 in
theorem dX3_divideBy_108 : decode cX3_divideBy 108 = .ok (.ifCond .ne 16, 3) := by decide +kernel
set_option maxRecDepth 20000 in
theorem dX3_divideBy_111 : decode cX3_divideBy 111 = .ok (.aload_n 0, 1) := by decide +kernel
set_option maxRecDepth 20000 in
theorem dX3_divideBy_112 : decode cX3_divideBy 112 = .ok (.dup, 1) := by decide +kernel
set_option maxRecDepth 20000 in
theorem dX3_divideBy_113 : decode cX3_divideBy 113 = .ok (.getfield 23, 3) := by decide +kernel
set_option maxRecDepth 20000 in
theorem dX3_divideBy_116 : decode cX3_divideBy 116 = .ok (.iconst 1, 1) := by decide +kernel
set_option maxRecDepth 20000 in
theorem dX3_divideBy_117 : decode cX3_divideBy 117 = .ok (.isub, 1) := by decide +kernel
set_option maxRecDepth 20000 in
theorem dX3_divideBy_118 : decode cX3_divideBy 118 = .ok (.putfield 23, 3) := by decide +kernel
set_option maxRecDepth 20000 in
theorem dX3_divideBy_121 : decode cX3_divideBy 121 = .ok (.goto (-31), 3) := by decide +kernel
set_option maxRecDepth 20000 in
theorem dX3_divideBy_124 : decode cX3_divideBy 124 = .ok (.return_, 1) := by decide +kernel
set_option maxRecDepth 20000 in
theorem dX3_digit_0 : decode cX3_digit 0 = .ok (.iload_n 1, 1) := by decide +kernel
set_option maxRecDepth 20000 in
theorem dX3_digit_1 : decode cX3_digit 1 = .ok (.ifCond .lt 20, 3) := by decide +kernel
set_option maxRecDepth 20000 in
theorem dX3_digit_4 : decode cX3_digit 4 = .ok (.iload_n 1, 1) := by decide +kernel
set_option maxRecDepth 20000 in
theorem dX3_digit_5 : decode cX3_digit 5 = .ok (.aload_n 0, 1) := by decide +kernel
set_option maxRecDepth 20000 in
theorem dX3_digit_6 : decode cX3_digit 6 = .ok (.getfield 23, 3) := by decide +kernel
set_option maxRecDepth 20000 in
theorem dX3_digit_9 : decode cX3_digit 9 = .ok (.if_icmp .ge 12, 3) := by decide +kernel
set_option maxRecDepth 20000 in
theorem dX3_digit_12 : decode cX3_digit 12 = .ok (.aload_n 0, 1) := by decide +kernel
set_option maxRecDepth 20000 in
theorem dX3_digit_13 : decode cX3_digit 13 = .ok (.getfield 13, 3) := by decide +kernel
set_option maxRecDepth 20000 in
theorem dX3_digit_16 : decode cX3_digit 16 = .ok (.iload_n 1, 1) := by decide +kernel
set_option maxRecDepth 20000 in
theorem dX3_digit_17 : decode cX3_digit 17 = .ok (.iaload, 1) := by decide +kernel
set_option maxRecDepth 20000 in
theorem dX3_digit_18 : decode cX3_digit 18 = .ok (.goto 4, 3) := by decide +kernel
set_option maxRecDepth 20000 in
theorem dX3_digit_21 : decode cX3_digit 21 = .ok (.iconst 0, 1) := by decide +kernel
set_option maxRecDepth 20000 in
theorem dX3_digit_22 : decode cX3_digit 22 = .ok (.ireturn, 1) := by decide +kernel
set_option maxRecDepth 20000 in
theorem dX3_head_0 : decode cX3_head 0 = .ok (.aload_n 0, 1) := by decide +kernel
set_option maxRecDepth 20000 in
theorem dX3_head_1 : decode cX3_head 1 = .ok (.aload_n 0, 1) := by decide +kernel
set_option maxRecDepth 20000 in
theorem dX3_head_2 : decode cX3_head 2 = .ok (.getfield 23, 3) := by decide +kernel
set_option maxRecDepth 20000 in
theorem dX3_head_5 : decode cX3_head 5 = .ok (.iconst 1, 1) := by decide +kernel
set_option maxRecDepth 20000 in
theorem dX3_head_6 : decode cX3_head 6 = .ok (.isub, 1) := by decide +kernel
set_option maxRecDepth 20000 in
theorem dX3_head_7 : decode cX3_head 7 = .ok (.invokevirtual 45, 3) := by decide +kernel
set_option maxRecDepth 20000 in
theorem dX3_head_10 : decode cX3_head 10 = .ok (.i2l, 1) := by decide +kernel
set_option maxRecDepth 20000 in
theorem dX3_head_11 : decode cX3_head 11 = .ok (.bipush 16, 2) := by decide +kernel
set_option maxRecDepth 20000 in
theorem dX3_head_13 : decode cX3_head 13 = .ok (.lshl, 1) := by decide +kernel
set_option maxRecDepth 20000 in
theorem dX3_head_14 : decode cX3_head 14 = .ok (.aload_n 0, 1) := by decide +kernel
set_option maxRecDepth 20000 in
theorem dX3_head_15 : decode cX3_head 15 = .ok (.aload_n 0, 1) := by decide +kernel
set_option maxRecDepth 20000 in
theorem dX3_head_16 : decode cX3_head 16 = .ok (.getfield 23, 3) := by decide +kernel
set_option maxRecDepth 20000 in
theorem dX3_head_19 : decode cX3_head 19 = .ok (.iconst 2, 1) := by decide +kernel
set_option maxRecDepth 20000 in
theorem dX3_head_20 : decode cX3_head 20 = .ok (.isub, 1) := by decide +kernel
set_option maxRecDepth 20000 in
theorem dX3_head_21 : decode cX3_head 21 = .ok (.invokevirtual 45, 3) := by decide +kernel
set_option maxRecDepth 20000 in
theorem dX3_head_24 : decode cX3_head 24 = .ok (.i2l, 1) := by decide +kernel
set_option maxRecDepth 20000 in
theorem dX3_head_25 : decode cX3_head 25 = .ok (.ladd, 1) := by decide +kernel
set_option maxRecDepth 20000 in
theorem dX3_head_26 : decode cX3_head 26 = .ok (.lreturn, 1) := by decide +kernel
set_option maxRecDepth 20000 in
theorem dX3_headBelow_0 : decode cX3_headBelow 0 = .ok (.aload_n 0, 1) := by decide +kernel
set_option maxRecDepth 20000 in
theorem dX3_headBelow_1 : decode cX3_headBelow 1 = .ok (.iload_n 1, 1) := by decide +kernel
set_option maxRecDepth 20000 in
theorem dX3_headBelow_2 : decode cX3_headBelow 2 = .ok (.invokevirtual 45, 3) := by decide +kernel
set_option maxRecDepth 20000 in
theorem dX3_headBelow_5 : decode cX3_headBelow 5 = .ok (.i2l, 1) := by decide +kernel
set_option maxRecDepth 20000 in
theorem dX3_headBelow_6 : decode cX3_headBelow 6 = .ok (.bipush 16, 2) := by decide +kernel
set_option maxRecDepth 20000 in
theorem dX3_headBelow_8 : decode cX3_headBelow 8 = .ok (.lshl, 1) := by decide +kernel
set_option maxRecDepth 20000 in
theorem dX3_headBelow_9 : decode cX3_headBelow 9 = .ok (.aload_n 0, 1) := by decide +kernel
set_option maxRecDepth 20000 in
theorem dX3_headBelow_10 : decode cX3_headBelow 10 = .ok (.iload_n 1, 1) := by decide +kernel
set_option maxRecDepth 20000 in
theorem dX3_headBelow_11 : decode cX3_headBelow 11 = .ok (.iconst 1, 1) := by decide +kernel
set_option maxRecDepth 20000 in
theorem dX3_headBelow_12 : decode cX3_headBelow 12 = .ok (.isub, 1) := by decide +kernel
set_option maxRecDepth 20000 in
theorem dX3_headBelow_13 : decode cX3_headBelow 13 = .ok (.invokevirtual 45, 3) := by decide +kernel
set_option maxRecDepth 20000 in
theorem dX3_headBelow_16 : decode cX3_headBelow 16 = .ok (.i2l, 1) := by decide +kernel
set_option maxRecDepth 20000 in
theorem dX3_headBelow_17 : decode cX3_headBelow 17 = .ok (.ladd, 1) := by decide +kernel
set_option maxRecDepth 20000 in
theorem dX3_headBelow_18 : decode cX3_headBelow 18 = .ok (.lstore_n 2, 1) := by decide +kernel
set_option maxRecDepth 20000 in
theorem dX3_headBelow_19 : decode cX3_headBelow 19 = .ok (.lload_n 2, 1) := by decide +kernel
set_option maxRecDepth 20000 in
theorem dX3_headBelow_20 : decode cX3_headBelow 20 = .ok (.bipush 16, 2) := by decide +kernel
set_option maxRecDepth 20000 in
theorem dX3_headBelow_22 : decode cX3_headBelow 22 = .ok (.lshl, 1) := by decide +kernel
set_option maxRecDepth 20000 in
theorem dX3_headBelow_23 : decode cX3_headBelow 23 = .ok (.aload_n 0, 1) := by decide +kernel
set_option maxRecDepth 20000 in
theorem dX3_headBelow_24 : decode cX3_headBelow 24 = .ok (.iload_n 1, 1) := by decide +kernel
set_option maxRecDepth 20000 in
theorem dX3_headBelow_25 : decode cX3_headBelow 25 = .ok (.iconst 2, 1) := by decide +kernel
set_option maxRecDepth 20000 in
theorem dX3_headBelow_26 : decode cX3_headBelow 26 = .ok (.isub, 1) := by decide +kernel
set_option maxRecDepth 20000 in
theorem dX3_headBelow_27 : decode cX3_headBelow 27 = .ok (.invokevirtual 45, 3) := by decide +kernel
set_option maxRecDepth 20000 in
theorem dX3_headBelow_30 : decode cX3_headBelow 30 = .ok (.i2l, 1) := by decide +kernel
set_option maxRecDepth 20000 in
theorem dX3_headBelow_31 : decode cX3_headBelow 31 = .ok (.ladd, 1) := by decide +kernel
set_option maxRecDepth 20000 in
theorem dX3_headBelow_32 : decode cX3_headBelow 32 = .ok (.lreturn, 1) := by decide +kernel
set_option maxRecDepth 20000 in
theorem dX3_takesTooMuch_0 : decode cX3_takesTooMuch 0 = .ok (.iload_n 3, 1) := by decide +kernel
set_option maxRecDepth 20000 in
theorem dX3_takesTooMuch_1 : decode cX3_takesTooMuch 1 = .ok (.i2l, 1) := by decide +kernel
set_option maxRecDepth 20000 in
theorem dX3_takesTooMuch_2 : decode cX3_takesTooMuch 2 = .ok (.lstore 4, 2) := by decide +kernel
set_option maxRecDepth 20000 in
theorem dX3_takesTooMuch_4 : decode cX3_takesTooMuch 4 = .ok (.lconst 0, 1) := by decide +kernel
set_option maxRecDepth 20000 in
theorem dX3_takesTooMuch_5 : decode cX3_takesTooMuch 5 = .ok (.lstore 6, 2) := by decide +kernel
set_option maxRecDepth 20000 in
theorem dX3_takesTooMuch_7 : decode cX3_takesTooMuch 7 = .ok (.iconst 0, 1) := by decide +kernel
set_option maxRecDepth 20000 in
theorem dX3_takesTooMuch_8 : decode cX3_takesTooMuch 8 = .ok (.istore 8, 2) := by decide +kernel
set_option maxRecDepth 20000 in
theorem dX3_takesTooMuch_10 : decode cX3_takesTooMuch 10 = .ok (.iload 8, 2) := by decide +kernel
set_option maxRecDepth 20000 in
theorem dX3_takesTooMuch_12 : decode cX3_takesTooMuch 12 = .ok (.aload_n 1, 1) := by decide +kernel
set_option maxRecDepth 20000 in
theorem dX3_takesTooMuch_13 : decode cX3_takesTooMuch 13 = .ok (.getfield 23, 3) := by decide +kernel
set_option maxRecDepth 20000 in
theorem dX3_takesTooMuch_16 : decode cX3_takesTooMuch 16 = .ok (.if_icmp .ge 59, 3) := by decide +kernel
set_option maxRecDepth 20000 in
theorem dX3_takesTooMuch_19 : decode cX3_takesTooMuch 19 = .ok (.aload_n 0, 1) := by decide +kernel
set_option maxRecDepth 20000 in
theorem dX3_takesTooMuch_20 : decode cX3_takesTooMuch 20 = .ok (.getfield 13, 3) := by decide +kernel
set_option maxRecDepth 20000 in
theorem dX3_takesTooMuch_23 : decode cX3_takesTooMuch 23 = .ok (.iload_n 2, 1) := by decide +kernel
set_option maxRecDepth 20000 in
theorem dX3_takesTooMuch_24 : decode cX3_takesTooMuch 24 = .ok (.iload 8, 2) := by decide +kernel
set_option maxRecDepth 20000 in
theorem dX3_takesTooMuch_26 : decode cX3_takesTooMuch 26 = .ok (.iadd, 1) := by decide +kernel
set_option maxRecDepth 20000 in
theorem dX3_takesTooMuch_27 : decode cX3_takesTooMuch 27 = .ok (.iaload, 1) := by decide +kernel
set_option maxRecDepth 20000 in
theorem dX3_takesTooMuch_28 : decode cX3_takesTooMuch 28 = .ok (.i2l, 1) := by decide +kernel
set_option maxRecDepth 20000 in
theorem dX3_takesTooMuch_29 : decode cX3_takesTooMuch 29 = .ok (.lload 4, 2) := by decide +kernel
set_option maxRecDepth 20000 in
theorem dX3_takesTooMuch_31 : decode cX3_takesTooMuch 31 = .ok (.aload_n 1, 1) := by decide +kernel
set_option maxRecDepth 20000 in
theorem dX3_takesTooMuch_32 : decode cX3_takesTooMuch 32 = .ok (.getfield 13, 3) := by decide +kernel
set_option maxRecDepth 20000 in
theorem dX3_takesTooMuch_35 : decode cX3_takesTooMuch 35 = .ok (.iload 8, 2) := by decide +kernel
set_option maxRecDepth 20000 in
theorem dX3_takesTooMuch_37 : decode cX3_takesTooMuch 37 = .ok (.iaload, 1) := by decide +kernel
set_option maxRecDepth 20000 in
theorem dX3_takesTooMuch_38 : decode cX3_takesTooMuch 38 = .ok (.i2l, 1) := by decide +kernel
set_option maxRecDepth 20000 in
theorem dX3_takesTooMuch_39 : decode cX3_takesTooMuch 39 = .ok (.lmul, 1) := by decide +kernel
set_option maxRecDepth 20000 in
theorem dX3_takesTooMuch_40 : decode cX3_takesTooMuch 40 = .ok (.lsub, 1) := by decide +kernel
set_option maxRecDepth 20000 in
theorem dX3_takesTooMuch_41 : decode cX3_takesTooMuch 41 = .ok (.lload 6, 2) := by decide +kernel
set_option maxRecDepth 20000 in
theorem dX3_takesTooMuch_43 : decode cX3_takesTooMuch 43 = .ok (.ladd, 1) := by decide +kernel
set_option maxRecDepth 20000 in
theorem dX3_takesTooMuch_44 : decode cX3_takesTooMuch 44 = .ok (.lstore 9, 2) := by decide +kernel
set_option maxRecDepth 20000 in
theorem dX3_takesTooMuch_46 : decode cX3_takesTooMuch 46 = .ok (.aload_n 0, 1) := by decide +kernel
set_option maxRecDepth 20000 in
theorem dX3_takesTooMuch_47 : decode cX3_takesTooMuch 47 = .ok (.getfield 13, 3) := by decide +kernel
set_option maxRecDepth 20000 in
theorem dX3_takesTooMuch_50 : decode cX3_takesTooMuch 50 = .ok (.iload_n 2, 1) := by decide +kernel
set_option maxRecDepth 20000 in
theorem dX3_takesTooMuch_51 : decode cX3_takesTooMuch 51 = .ok (.iload 8, 2) := by decide +kernel
set_option maxRecDepth 20000 in
theorem dX3_takesTooMuch_53 : decode cX3_takesTooMuch 53 = .ok (.iadd, 1) := by decide +kernel
set_option maxRecDepth 20000 in
theorem dX3_takesTooMuch_54 : decode cX3_takesTooMuch 54 = .ok (.lload 9, 2) := by decide +kernel
set_option maxRecDepth 20000 in
theorem dX3_takesTooMuch_56 : decode cX3_takesTooMuch 56 = .ok (.ldc2_w 49, 3) := by decide +kernel
set_option maxRecDepth 20000 in
theorem dX3_takesTooMuch_59 : decode cX3_takesTooMuch 59 = .ok (.land, 1) := by decide +kernel
set_option maxRecDepth 20000 in
theorem dX3_takesTooMuch_60 : decode cX3_takesTooMuch 60 = .ok (.l2i, 1) := by decide +kernel
set_option maxRecDepth 20000 in
theorem dX3_takesTooMuch_61 : decode cX3_takesTooMuch 61 = .ok (.iastore, 1) := by decide +kernel
set_option maxRecDepth 20000 in
theorem dX3_takesTooMuch_62 : decode cX3_takesTooMuch 62 = .ok (.lload 9, 2) := by decide +kernel
set_option maxRecDepth 20000 in
theorem dX3_takesTooMuch_64 : decode cX3_takesTooMuch 64 = .ok (.bipush 16, 2) := by decide +kernel
set_option maxRecDepth 20000 in
theorem dX3_takesTooMuch_66 : decode cX3_takesTooMuch 66 = .ok (.lshr, 1) := by decide +kernel
set_option maxRecDepth 20000 in
theorem dX3_takesTooMuch_67 : decode cX3_takesTooMuch 67 = .ok (.lstore 6, 2) := by decide +kernel
set_option maxRecDepth 20000 in
theorem dX3_takesTooMuch_69 : decode cX3_takesTooMuch 69 = .ok (.iinc 8 1, 3) := by decide +kernel
set_option maxRecDepth 20000 in
theorem dX3_takesTooMuch_72 : decode cX3_takesTooMuch 72 = .ok (.goto (-62), 3) := by decide +kernel
set_option maxRecDepth 20000 in
theorem dX3_takesTooMuch_75 : decode cX3_takesTooMuch 75 = .ok (.aload_n 0, 1) := by decide +kernel
set_option maxRecDepth 20000 in
theorem dX3_takesTooMuch_76 : decode cX3_takesTooMuch 76 = .ok (.iload_n 2, 1) := by decide +kernel
set_option maxRecDepth 20000 in
theorem dX3_takesTooMuch_77 : decode cX3_takesTooMuch 77 = .ok (.aload_n 1, 1) := by decide +kernel
set_option maxRecDepth 20000 in
theorem dX3_takesTooMuch_78 : decode cX3_takesTooMuch 78 = .ok (.getfield 23, 3) := by decide +kernel
set_option maxRecDepth 20000 in
theorem dX3_takesTooMuch_81 : decode cX3_takesTooMuch 81 = .ok (.iadd, 1) := by decide +kernel
set_option maxRecDepth 20000 in
theorem dX3_takesTooMuch_82 : decode cX3_takesTooMuch 82 = .ok (.lload 6, 2) := by decide +kernel
set_option maxRecDepth 20000 in
theorem dX3_takesTooMuch_84 : decode cX3_takesTooMuch 84 = .ok (.invokevirtual 51, 3) := by decide +kernel
set_option maxRecDepth 20000 in
theorem dX3_takesTooMuch_87 : decode cX3_takesTooMuch 87 = .ok (.lconst 0, 1) := by decide +kernel
set_option maxRecDepth 20000 in
theorem dX3_takesTooMuch_88 : decode cX3_takesTooMuch 88 = .ok (.lcmp, 1) := by decide +kernel
set_option maxRecDepth 20000 in
theorem dX3_takesTooMuch_89 : decode cX3_takesTooMuch 89 = .ok (.ifCond .ge 7, 3) := by decide +kernel
set_option maxRecDepth 20000 in
theorem dX3_takesTooMuch_92 : decode cX3_takesTooMuch 92 = .ok (.iconst 1, 1) := by decide +kernel
set_option maxRecDepth 20000 in
theorem dX3_takesTooMuch_93 : decode cX3_takesTooMuch 93 = .ok (.goto 4, 3) := by decide +kernel
set_option maxRecDepth 20000 in
theorem dX3_takesTooMuch_96 : decode cX3_takesTooMuch 96 = .ok (.iconst 0, 1) := by decide +kernel
set_option maxRecDepth 20000 in
theorem dX3_takesTooMuch_97 : decode cX3_takesTooMuch 97 = .ok (.ireturn, 1) := by decide +kernel
set_option maxRecDepth 20000 in
theorem dX3_giveBack_0 : decode cX3_giveBack 0 = .ok (.iconst 0, 1) := by decide +kernel
set_option maxRecDepth 20000 in
theorem dX3_giveBack_1 : decode cX3_giveBack 1 = .ok (.istore_n 3, 1) := by decide +kernel
set_option maxRecDepth 20000 in
theorem dX3_giveBack_2 : decode cX3_giveBack 2 = .ok (.iconst 0, 1) := by decide +kernel
set_option maxRecDepth 20000 in
theorem dX3_giveBack_3 : decode cX3_giveBack 3 = .ok (.istore 4, 2) := by decide +kernel
set_option maxRecDepth 20000 in
theorem dX3_giveBack_5 : decode cX3_giveBack 5 = .ok (.iload 4, 2) := by decide +kernel
set_option maxRecDepth 20000 in
theorem dX3_giveBack_7 : decode cX3_giveBack 7 = .ok (.aload_n 1, 1) := by decide +kernel
set_option maxRecDepth 20000 in
theorem dX3_giveBack_8 : decode cX3_giveBack 8 = .ok (.getfield 23, 3) := by decide +kernel
set_option maxRecDepth 20000 in
theorem dX3_giveBack_11 : decode cX3_giveBack 11 = .ok (.if_icmp .ge 50, 3) := by decide +kernel
set_option maxRecDepth 20000 in
theorem dX3_giveBack_14 : decode cX3_giveBack 14 = .ok (.aload_n 0, 1) := by decide +kernel
set_option maxRecDepth 20000 in
theorem dX3_giveBack_15 : decode cX3_giveBack 15 = .ok (.getfield 13, 3) := by decide +kernel
set_option maxRecDepth 20000 in
theorem dX3_giveBack_18 : decode cX3_giveBack 18 = .ok (.iload_n 2, 1) := by decide +kernel
set_option maxRecDepth 20000 in
theorem dX3_giveBack_19 : decode cX3_giveBack 19 = .ok (.iload 4, 2) := by decide +kernel
set_option maxRecDepth 20000 in
theorem dX3_giveBack_21 : decode cX3_giveBack 21 = .ok (.iadd, 1) := by decide +kernel
set_option maxRecDepth 20000 in
theorem dX3_giveBack_22 : decode cX3_giveBack 22 = .ok (.iaload, 1) := by decide +kernel
set_option maxRecDepth 20000 in
theorem dX3_giveBack_23 : decode cX3_giveBack 23 = .ok (.aload_n 1, 1) := by decide +kernel
set_option maxRecDepth 20000 in
theorem dX3_giveBack_24 : decode cX3_giveBack 24 = .ok (.getfield 13, 3) := by decide +kernel
set_option maxRecDepth 20000 in
theorem dX3_giveBack_27 : decode cX3_giveBack 27 = .ok (.iload 4, 2) := by decide +kernel
set_option maxRecDepth 20000 in
theorem dX3_giveBack_29 : decode cX3_giveBack 29 = .ok (.iaload, 1) := by decide +kernel
set_option maxRecDepth 20000 in
theorem dX3_giveBack_30 : decode cX3_giveBack 30 = .ok (.iadd, 1) := by decide +kernel
set_option maxRecDepth 20000 in
theorem dX3_giveBack_31 : decode cX3_giveBack 31 = .ok (.iload_n 3, 1) := by decide +kernel
set_option maxRecDepth 20000 in
theorem dX3_giveBack_32 : decode cX3_giveBack 32 = .ok (.iadd, 1) := by decide +kernel
set_option maxRecDepth 20000 in
theorem dX3_giveBack_33 : decode cX3_giveBack 33 = .ok (.istore 5, 2) := by decide +kernel
set_option maxRecDepth 20000 in
theorem dX3_giveBack_35 : decode cX3_giveBack 35 = .ok (.aload_n 0, 1) := by decide +kernel
set_option maxRecDepth 20000 in
theorem dX3_giveBack_36 : decode cX3_giveBack 36 = .ok (.getfield 13, 3) := by decide +kernel
set_option maxRecDepth 20000 in
theorem dX3_giveBack_39 : decode cX3_giveBack 39 = .ok (.iload_n 2, 1) := by decide +kernel
set_option maxRecDepth 20000 in
theorem dX3_giveBack_40 : decode cX3_giveBack 40 = .ok (.iload 4, 2) := by decide +kernel
set_option maxRecDepth 20000 in
theorem dX3_giveBack_42 : decode cX3_giveBack 42 = .ok (.iadd, 1) := by decide +kernel
set_option maxRecDepth 20000 in
theorem dX3_giveBack_43 : decode cX3_giveBack 43 = .ok (.iload 5, 2) := by decide +kernel
set_option maxRecDepth 20000 in
theorem dX3_giveBack_45 : decode cX3_giveBack 45 = .ok (.ldc 55, 2) := by decide +kernel
set_option maxRecDepth 20000 in
theorem dX3_giveBack_47 : decode cX3_giveBack 47 = .ok (.iand, 1) := by decide +kernel
set_option maxRecDepth 20000 in
theorem dX3_giveBack_48 : decode cX3_giveBack 48 = .ok (.iastore, 1) := by decide +kernel
set_option maxRecDepth 20000 in
theorem dX3_giveBack_49 : decode cX3_giveBack 49 = .ok (.iload 5, 2) := by decide +kernel
set_option maxRecDepth 20000 in
theorem dX3_giveBack_51 : decode cX3_giveBack 51 = .ok (.bipush 16, 2) := by decide +kernel
set_option maxRecDepth 20000 in
theorem dX3_giveBack_53 : decode cX3_giveBack 53 = .ok (.ishr, 1) := by decide +kernel
set_option maxRecDepth 20000 in
theorem dX3_giveBack_54 : decode cX3_giveBack 54 = .ok (.istore_n 3, 1) := by decide +kernel
set_option maxRecDepth 20000 in
theorem dX3_giveBack_55 : decode cX3_giveBack 55 = .ok (.iinc 4 1, 3) := by decide +kernel
set_option maxRecDepth 20000 in
theorem dX3_giveBack_58 : decode cX3_giveBack 58 = .ok (.goto (-53), 3) := by decide +kernel
set_option maxRecDepth 20000 in
theorem dX3_giveBack_61 : decode cX3_giveBack 61 = .ok (.aload_n 0, 1) := by decide +kernel
set_option maxRecDepth 20000 in
theorem dX3_giveBack_62 : decode cX3_giveBack 62 = .ok (.iload_n 2, 1) := by decide +kernel
set_option maxRecDepth 20000 in
theorem dX3_giveBack_63 : decode cX3_giveBack 63 = .ok (.aload_n 1, 1) := by decide +kernel
set_option maxRecDepth 20000 in
theorem dX3_giveBack_64 : decode cX3_giveBack 64 = .ok (.getfield 23, 3) := by decide +kernel
set_option maxRecDepth 20000 in
theorem dX3_giveBack_67 : decode cX3_giveBack 67 = .ok (.iadd, 1) := by decide +kernel
set_option maxRecDepth 20000 in
theorem dX3_giveBack_68 : decode cX3_giveBack 68 = .ok (.iload_n 3, 1) := by decide +kernel
set_option maxRecDepth 20000 in
theorem dX3_giveBack_69 : decode cX3_giveBack 69 = .ok (.i2l, 1) := by decide +kernel
set_option maxRecDepth 20000 in
theorem dX3_giveBack_70 : decode cX3_giveBack 70 = .ok (.invokevirtual 51, 3) := by decide +kernel
set_option maxRecDepth 20000 in
theorem dX3_giveBack_73 : decode cX3_giveBack 73 = .ok (.pop2, 1) := by decide +kernel
set_option maxRecDepth 20000 in
theorem dX3_giveBack_74 : decode cX3_giveBack 74 = .ok (.return_, 1) := by decide +kernel
set_option maxRecDepth 20000 in
theorem dX3_carryInto_0 : decode cX3_carryInto 0 = .ok (.iload_n 1, 1) := by decide +kernel
set_option maxRecDepth 20000 in
theorem dX3_carryInto_1 : decode cX3_carryInto 1 = .ok (.aload_n 0, 1) := by decide +kernel
set_option maxRecDepth 20000 in
theorem dX3_carryInto_2 : decode cX3_carryInto 2 = .ok (.getfield 23, 3) := by decide +kernel
set_option maxRecDepth 20000 in
theorem dX3_carryInto_5 : decode cX3_carryInto 5 = .ok (.if_icmp .lt 5, 3) := by decide +kernel
set_option maxRecDepth 20000 in
theorem dX3_carryInto_8 : decode cX3_carryInto 8 = .ok (.lload_n 2, 1) := by decide +kernel
set_option maxRecDepth 20000 in
theorem dX3_carryInto_9 : decode cX3_carryInto 9 = .ok (.lreturn, 1) := by decide +kernel
set_option maxRecDepth 20000 in
theorem dX3_carryInto_10 : decode cX3_carryInto 10 = .ok (.aload_n 0, 1) := by decide +kernel
set_option maxRecDepth 20000 in
theorem dX3_carryInto_11 : decode cX3_carryInto 11 = .ok (.getfield 13, 3) := by decide +kernel
set_option maxRecDepth 20000 in
theorem dX3_carryInto_14 : decode cX3_carryInto 14 = .ok (.iload_n 1, 1) := by decide +kernel
set_option maxRecDepth 20000 in
theorem dX3_carryInto_15 : decode cX3_carryInto 15 = .ok (.iaload, 1) := by decide +kernel
set_option maxRecDepth 20000 in
theorem dX3_carryInto_16 : decode cX3_carryInto 16 = .ok (.i2l, 1) := by decide +kernel
set_option maxRecDepth 20000 in
theorem dX3_carryInto_17 : decode cX3_carryInto 17 = .ok (.lload_n 2, 1) := by decide +kernel
set_option maxRecDepth 20000 in
theorem dX3_carryInto_18 : decode cX3_carryInto 18 = .ok (.ladd, 1) := by decide +kernel
set_option maxRecDepth 20000 in
theorem dX3_carryInto_19 : decode cX3_carryInto 19 = .ok (.lstore 4, 2) := by decide +kernel
set_option maxRecDepth 20000 in
theorem dX3_carryInto_21 : decode cX3_carryInto 21 = .ok (.aload_n 0, 1) := by decide +kernel
set_option maxRecDepth 20000 in
theorem dX3_carryInto_22 : decode cX3_carryInto 22 = .ok (.getfield 13, 3) := by decide +kernel
set_option maxRecDepth 20000 in
theorem dX3_carryInto_25 : decode cX3_carryInto 25 = .ok (.iload_n 1, 1) := by decide +kernel
set_option maxRecDepth 20000 in
theorem dX3_carryInto_26 : decode cX3_carryInto 26 = .ok (.lload 4, 2) := by decide +kernel
set_option maxRecDepth 20000 in
theorem dX3_carryInto_28 : decode cX3_carryInto 28 = .ok (.ldc2_w 49, 3) := by decide +kernel
set_option maxRecDepth 20000 in
theorem dX3_carryInto_31 : decode cX3_carryInto 31 = .ok (.land, 1) := by decide +kernel
set_option maxRecDepth 20000 in
theorem dX3_carryInto_32 : decode cX3_carryInto 32 = .ok (.l2i, 1) := by decide +kernel
set_option maxRecDepth 20000 in
theorem dX3_carryInto_33 : decode cX3_carryInto 33 = .ok (.iastore, 1) := by decide +kernel
set_option maxRecDepth 20000 in
theorem dX3_carryInto_34 : decode cX3_carryInto 34 = .ok (.lload 4, 2) := by decide +kernel
set_option maxRecDepth 20000 in
theorem dX3_carryInto_36 : decode cX3_carryInto 36 = .ok (.bipush 16, 2) := by decide +kernel
set_option maxRecDepth 20000 in
theorem dX3_carryInto_38 : decode cX3_carryInto 38 = .ok (.lshr, 1) := by decide +kernel
set_option maxRecDepth 20000 in
theorem dX3_carryInto_39 : decode cX3_carryInto 39 = .ok (.lreturn, 1) := by decide +kernel
set_option maxRecDepth 20000 in
theorem dX0_init_0 : decode cX0_init 0 = .ok (.aload_n 0, 1) := by decide +kernel
set_option maxRecDepth 20000 in
theorem dX0_init_1 : decode cX0_init 1 = .ok (.invokespecial 1, 3) := by decide +kernel
set_option maxRecDepth 20000 in
theorem dX0_init_4 : decode cX0_init 4 = .ok (.aload_n 0, 1) := by decide +kernel
set_option maxRecDepth 20000 in
theorem dX0_init_5 : decode cX0_init 5 = .ok (.aload_n 1, 1) := by decide +kernel
set_option maxRecDepth 20000 in
theorem dX0_init_6 : decode cX0_init 6 = .ok (.putfield 7, 3) := by decide +kernel
set_option maxRecDepth 20000 in
theorem dX0_init_9 : decode cX0_init 9 = .ok (.aload_n 0, 1) := by decide +kernel
set_option maxRecDepth 20000 in
theorem dX0_init_10 : decode cX0_init 10 = .ok (.aload_n 2, 1) := by decide +kernel
set_option maxRecDepth 20000 in
theorem dX0_init_11 : decode cX0_init 11 = .ok (.putfield 13, 3) := by decide +kernel
set_option maxRecDepth 20000 in
theorem dX0_init_14 : decode cX0_init 14 = .ok (.return_, 1) := by decide +kernel
set_option maxRecDepth 20000 in
theorem dX0_above_0 : decode cX0_above 0 = .ok (.aload_n 0, 1) := by decide +kernel
set_option maxRecDepth 20000 in
theorem dX0_above_1 : decode cX0_above 1 = .ok (.getfield 7, 3) := by decide +kernel
set_option maxRecDepth 20000 in
theorem dX0_above_4 : decode cX0_above 4 = .ok (.areturn, 1) := by decide +kernel
set_option maxRecDepth 20000 in
theorem dX0_below_0 : decode cX0_below 0 = .ok (.aload_n 0, 1) := by decide +kernel
set_option maxRecDepth 20000 in
theorem dX0_below_1 : decode cX0_below 1 = .ok (.getfield 13, 3) := by decide +kernel
set_option maxRecDepth 20000 in
theorem dX0_below_4 : decode cX0_below 4 = .ok (.areturn, 1) := by decide +kernel
set_option maxRecDepth 20000 in
theorem dX0_sense_0 : decode cX0_sense 0 = .ok (.aload_n 0, 1) := by decide +kernel
set_option maxRecDepth 20000 in
theorem dX0_sense_1 : decode cX0_sense 1 = .ok (.getfield 7, 3) := by decide +kernel
set_option maxRecDepth 20000 in
theorem dX0_sense_4 : decode cX0_sense 4 = .ok (.invokevirtual 16, 3) := by decide +kernel
set_option maxRecDepth 20000 in
theorem dX0_sense_7 : decode cX0_sense 7 = .ok (.ireturn, 1) := by decide +kernel
set_option maxRecDepth 20000 in
theorem dX0_bringToLowestTerms_0 : decode cX0_bringToLowestTerms 0 = .ok (.aload_n 0, 1) := by decide +kernel
set_option maxRecDepth 20000 in
theorem dX0_bringToLowestTerms_1 : decode cX0_bringToLowestTerms 1 = .ok (.getfield 22, 3) := by decide +kernel
set_option maxRecDepth 20000 in
theorem dX0_bringToLowestTerms_4 : decode cX0_bringToLowestTerms 4 = .ok (.ifCond .eq 4, 3) := by decide +kernel
set_option maxRecDepth 20000 in
theorem dX0_bringToLowestTerms_7 : decode cX0_bringToLowestTerms 7 = .ok (.return_, 1) := by decide +kernel
set_option maxRecDepth 20000 in
theorem dX0_bringToLowestTerms_8 : decode cX0_bringToLowestTerms 8 = .ok (.aload_n 0, 1) := by decide +kernel
set_option maxRecDepth 20000 in
theorem dX0_bringToLowestTerms_9 : decode cX0_bringToLowestTerms 9 = .ok (.getfield 13, 3) := by decide +kernel
set_option maxRecDepth 20000 in
theorem dX0_bringToLowestTerms_12 : decode cX0_bringToLowestTerms 12 = .ok (.aload_n 0, 1) := by decide +kernel
set_option maxRecDepth 20000 in
theorem dX0_bringToLowestTerms_13 : decode cX0_bringToLowestTerms 13 = .ok (.getfield 7, 3) := by decide +kernel
set_option maxRecDepth 20000 in
theorem dX0_bringToLowestTerms_16 : decode cX0_bringToLowestTerms 16 = .ok (.invokestatic 26, 3) := by decide +kernel
set_option maxRecDepth 20000 in
theorem dX0_bringToLowestTerms_19 : decode cX0_bringToLowestTerms 19 = .ok (.astore_n 1, 1) := by decide +kernel
set_option maxRecDepth 20000 in
theorem dX0_bringToLowestTerms_20 : decode cX0_bringToLowestTerms 20 = .ok (.aload_n 0, 1) := by decide +kernel
set_option maxRecDepth 20000 in
theorem dX0_bringToLowestTerms_21 : decode cX0_bringToLowestTerms 21 = .ok (.aload_n 0, 1) := by decide +kernel
set_option maxRecDepth 20000 in
theorem dX0_bringToLowestTerms_22 : decode cX0_bringToLowestTerms 22 = .ok (.getfield 7, 3) := by decide +kernel
set_option maxRecDepth 20000 in
theorem dX0_bringToLowestTerms_25 : decode cX0_bringToLowestTerms 25 = .ok (.aload_n 1, 1) := by decide +kernel
set_option maxRecDepth 20000 in
theorem dX0_bringToLowestTerms_26 : decode cX0_bringToLowestTerms 26 = .ok (.invokevirtual 30, 3) := by decide +kernel
set_option maxRecDepth 20000 in
theorem dX0_bringToLowestTerms_29 : decode cX0_bringToLowestTerms 29 = .ok (.putfield 7, 3) := by decide +kernel
set_option maxRecDepth 20000 in
theorem dX0_bringToLowestTerms_32 : decode cX0_bringToLowestTerms 32 = .ok (.aload_n 0, 1) := by decide +kernel
set_option maxRecDepth 20000 in
theorem dX0_bringToLowestTerms_33 : decode cX0_bringToLowestTerms 33 = .ok (.aload_n 0, 1) := by decide +kernel
set_option maxRecDepth 20000 in
theorem dX0_bringToLowestTerms_34 : decode cX0_bringToLowestTerms 34 = .ok (.getfield 13, 3) := by decide +kernel
set_option maxRecDepth 20000 in
theorem dX0_bringToLowestTerms_37 : decode cX0_bringToLowestTerms 37 = .ok (.aload_n 1, 1) := by decide +kernel
set_option maxRecDepth 20000 in
theorem dX0_bringToLowestTerms_38 : decode cX0_bringToLowestTerms 38 = .ok (.invokevirtual 30, 3) := by decide +kernel
set_option maxRecDepth 20000 in
theorem dX0_bringToLowestTerms_41 : decode cX0_bringToLowestTerms 41 = .ok (.putfield 13, 3) := by decide +kernel
set_option maxRecDepth 20000 in
theorem dX0_bringToLowestTerms_44 : decode cX0_bringToLowestTerms 44 = .ok (.aload_n 0, 1) := by decide +kernel
set_option maxRecDepth 20000 in
theorem dX0_bringToLowestTerms_45 : decode cX0_bringToLowestTerms 45 = .ok (.iconst 1, 1) := by decide +kernel
set_option maxRecDepth 20000 in
theorem dX0_bringToLowestTerms_46 : decode cX0_bringToLowestTerms 46 = .ok (.putfield 22, 3) := by decide +kernel
set_option maxRecDepth 20000 in
theorem dX0_bringToLowestTerms_49 : decode cX0_bringToLowestTerms 49 = .ok (.return_, 1) := by decide +kernel
set_option maxRecDepth 20000 in
theorem dX0_against_0 : decode cX0_against 0 = .ok (.aload_n 0, 1) := by decide +kernel
set_option maxRecDepth 20000 in
theorem dX0_against_1 : decode cX0_against 1 = .ok (.getfield 7, 3) := by decide +kernel
set_option maxRecDepth 20000 in
theorem dX0_against_4 : decode cX0_against 4 = .ok (.iload_n 2, 1) := by decide +kernel
set_option maxRecDepth 20000 in
theorem dX0_against_5 : decode cX0_against 5 = .ok (.i2l, 1) := by decide +kernel
set_option maxRecDepth 20000 in
theorem dX0_against_6 : decode cX0_against 6 = .ok (.invokestatic 34, 3) := by decide +kernel
set_option maxRecDepth 20000 in
theorem dX0_against_9 : decode cX0_against 9 = .ok (.invokevirtual 38, 3) := by decide +kernel
set_option maxRecDepth 20000 in
theorem dX0_against_12 : decode cX0_against 12 = .ok (.astore_n 3, 1) := by decide +kernel
set_option maxRecDepth 20000 in
theorem dX0_against_13 : decode cX0_against 13 = .ok (.aload_n 0, 1) := by decide +kernel
set_option maxRecDepth 20000 in
theorem dX0_against_14 : decode cX0_against 14 = .ok (.getfield 13, 3) := by decide +kernel
set_option maxRecDepth 20000 in
theorem dX0_against_17 : decode cX0_against 17 = .ok (.iload_n 1, 1) := by decide +kernel
set_option maxRecDepth 20000 in
theorem dX0_against_18 : decode cX0_against 18 = .ok (.i2l, 1) := by decide +kernel
set_option maxRecDepth 20000 in
theorem dX0_against_19 : decode cX0_against 19 = .ok (.invokestatic 34, 3) := by decide +kernel
set_option maxRecDepth 20000 in
theorem dX0_against_22 : decode cX0_against 22 = .ok (.invokevirtual 38, 3) := by decide +kernel
set_option maxRecDepth 20000 in
theorem dX0_against_25 : decode cX0_against 25 = .ok (.astore 4, 2) := by decide +kernel
set_option maxRecDepth 20000 in
theorem dX0_against_27 : decode cX0_against 27 = .ok (.aload_n 3, 1) := by decide +kernel
set_option maxRecDepth 20000 in
theorem dX0_against_28 : decode cX0_against 28 = .ok (.aload 4, 2) := by decide +kernel
set_option maxRecDepth 20000 in
theorem dX0_against_30 : decode cX0_against 30 = .ok (.invokevirtual 41, 3) := by decide +kernel
set_option maxRecDepth 20000 in
theorem dX0_against_33 : decode cX0_against 33 = .ok (.invokevirtual 45, 3) := by decide +kernel
set_option maxRecDepth 20000 in
theorem dX0_against_36 : decode cX0_against 36 = .ok (.invokevirtual 16, 3) := by decide +kernel
set_option maxRecDepth 20000 in
theorem dX0_against_39 : decode cX0_against 39 = .ok (.ireturn, 1) := by decide +kernel
set_option maxRecDepth 20000 in
theorem dX0_multipleDown_0 : decode cX0_multipleDown 0 = .ok (.aload_n 0, 1) := by decide +kernel
set_option maxRecDepth 20000 in
theorem dX0_multipleDown_1 : decode cX0_multipleDown 1 = .ok (.getfield 7, 3) := by decide +kernel
set_option maxRecDepth 20000 in
theorem dX0_multipleDown_4 : decode cX0_multipleDown 4 = .ok (.iload_n 1, 1) := by decide +kernel
set_option maxRecDepth 20000 in
theorem dX0_multipleDown_5 : decode cX0_multipleDown 5 = .ok (.i2l, 1) := by decide +kernel
set_option maxRecDepth 20000 in
theorem dX0_multipleDown_6 : decode cX0_multipleDown 6 = .ok (.invokestatic 34, 3) := by decide +kernel
set_option maxRecDepth 20000 in
theorem dX0_multipleDown_9 : decode cX0_multipleDown 9 = .ok (.invokevirtual 38, 3) := by decide +kernel
set_option maxRecDepth 20000 in
theorem dX0_multipleDown_12 : decode cX0_multipleDown 12 = .ok (.astore_n 2, 1) := by decide +kernel
set_option maxRecDepth 20000 in
theorem dX0_multipleDown_13 : decode cX0_multipleDown 13 = .ok (.aload_n 2, 1) := by decide +kernel
set_option maxRecDepth 20000 in
theorem dX0_multipleDown_14 : decode cX0_multipleDown 14 = .ok (.invokevirtual 16, 3) := by decide +kernel
set_option maxRecDepth 20000 in
theorem dX0_multipleDown_17 : decode cX0_multipleDown 17 = .ok (.ifCond .ge 22, 3) := by decide +kernel
set_option maxRecDepth 20000 in
theorem dX0_multipleDown_20 : decode cX0_multipleDown 20 = .ok (.aload_n 2, 1) := by decide +kernel
set_option maxRecDepth 20000 in
theorem dX0_multipleDown_21 : decode cX0_multipleDown 21 = .ok (.aload_n 0, 1) := by decide +kernel
set_option maxRecDepth 20000 in
theorem dX0_multipleDown_22 : decode cX0_multipleDown 22 = .ok (.getfield 13, 3) := by decide +kernel
set_option maxRecDepth 20000 in
theorem dX0_multipleDown_25 : decode cX0_multipleDown 25 = .ok (.invokevirtual 41, 3) := by decide +kernel
set_option maxRecDepth 20000 in
theorem dX0_multipleDown_28 : decode cX0_multipleDown 28 = .ok (.invokevirtual 45, 3) := by decide +kernel
set_option maxRecDepth 20000 in
theorem dX0_multipleDown_31 : decode cX0_multipleDown 31 = .ok (.lconst 1, 1) := by decide +kernel
set_option maxRecDepth 20000 in
theorem dX0_multipleDown_32 : decode cX0_multipleDown 32 = .ok (.invokestatic 34, 3) := by decide +kernel
set_option maxRecDepth 20000 in
theorem dX0_multipleDown_35 : decode cX0_multipleDown 35 = .ok (.invokevirtual 45, 3) := by decide +kernel
set_option maxRecDepth 20000 in
theorem dX0_multipleDown_38 : decode cX0_multipleDown 38 = .ok (.astore_n 2, 1) := by decide +kernel
set_option maxRecDepth 20000 in
theorem dX0_multipleDown_39 : decode cX0_multipleDown 39 = .ok (.aload_n 2, 1) := by decide +kernel
set_option maxRecDepth 20000 in
theorem dX0_multipleDown_40 : decode cX0_multipleDown 40 = .ok (.aload_n 0, 1) := by decide +kernel
set_option maxRecDepth 20000 in
theorem dX0_multipleDown_41 : decode cX0_multipleDown 41 = .ok (.getfield 13, 3) := by decide +kernel
set_option maxRecDepth 20000 in
theorem dX0_multipleDown_44 : decode cX0_multipleDown 44 = .ok (.invokevirtual 30, 3) := by decide +kernel
set_option maxRecDepth 20000 in
theorem dX0_multipleDown_47 : decode cX0_multipleDown 47 = .ok (.astore_n 3, 1) := by decide +kernel
set_option maxRecDepth 20000 in
theorem dX0_multipleDown_48 : decode cX0_multipleDown 48 = .ok (.aload_n 3, 1) := by decide +kernel
set_option maxRecDepth 20000 in
theorem dX0_multipleDown_49 : decode cX0_multipleDown 49 = .ok (.ldc2_w 48, 3) := by decide +kernel
set_option maxRecDepth 20000 in
theorem dX0_multipleDown_52 : decode cX0_multipleDown 52 = .ok (.invokestatic 34, 3) := by decide +kernel
set_option maxRecDepth 20000 in
theorem dX0_multipleDown_55 : decode cX0_multipleDown 55 = .ok (.invokevirtual 50, 3) := by decide +kernel
set_option maxRecDepth 20000 in
theorem dX0_multipleDown_58 : decode cX0_multipleDown 58 = .ok (.ifCond .lt 13, 3) := by decide +kernel
set_option maxRecDepth 20000 in
theorem dX0_multipleDown_61 : decode cX0_multipleDown 61 = .ok (.aload_n 3, 1) := by decide +kernel
set_option maxRecDepth 20000 in
theorem dX0_multipleDown_62 : decode cX0_multipleDown 62 = .ok (.invokevirtual 16, 3) := by decide +kernel
set_option maxRecDepth 20000 in
theorem dX0_multipleDown_65 : decode cX0_multipleDown 65 = .ok (.i2l, 1) := by decide +kernel
set_option maxRecDepth 20000 in
theorem dX0_multipleDown_66 : decode cX0_multipleDown 66 = .ok (.ldc2_w 48, 3) := by decide +kernel
set_option maxRecDepth 20000 in
theorem dX0_multipleDown_69 : decode cX0_multipleDown 69 = .ok (.lmul, 1) := by decide +kernel
set_option maxRecDepth 20000 in
theorem dX0_multipleDown_70 : decode cX0_multipleDown 70 = .ok (.lreturn, 1) := by decide +kernel
set_option maxRecDepth 20000 in
theorem dX0_multipleDown_71 : decode cX0_multipleDown 71 = .ok (.aload_n 3, 1) := by decide +kernel
set_option maxRecDepth 20000 in
theorem dX0_multipleDown_72 : decode cX0_multipleDown 72 = .ok (.invokevirtual 54, 3) := by decide +kernel
set_option maxRecDepth 20000 in
theorem dX0_multipleDown_75 : decode cX0_multipleDown 75 = .ok (.lreturn, 1) := by decide +kernel
set_option maxRecDepth 20000 in
theorem dX4_init_0 : decode cX4_init 0 = .ok (.aload_n 0, 1) := by decide +kernel
set_option maxRecDepth 20000 in
theorem dX4_init_1 : decode cX4_init 1 = .ok (.invokespecial 1, 3) := by decide +kernel
set_option maxRecDepth 20000 in
theorem dX4_init_4 : decode cX4_init 4 = .ok (.aload_n 0, 1) := by decide +kernel
set_option maxRecDepth 20000 in
theorem dX4_init_5 : decode cX4_init 5 = .ok (.iload_n 1, 1) := by decide +kernel
set_option maxRecDepth 20000 in
theorem dX4_init_6 : decode cX4_init 6 = .ok (.putfield 7, 3) := by decide +kernel
set_option maxRecDepth 20000 in
theorem dX4_init_9 : decode cX4_init 9 = .ok (.aload_n 0, 1) := by decide +kernel
set_option maxRecDepth 20000 in
theorem dX4_init_10 : decode cX4_init 10 = .ok (.iload_n 2, 1) := by decide +kernel
set_option maxRecDepth 20000 in
theorem dX4_init_11 : decode cX4_init 11 = .ok (.putfield 13, 3) := by decide +kernel
set_option maxRecDepth 20000 in
theorem dX4_init_14 : decode cX4_init 14 = .ok (.aload_n 0, 1) := by decide +kernel
set_option maxRecDepth 20000 in
theorem dX4_init_15 : decode cX4_init 15 = .ok (.aload_n 3, 1) := by decide +kernel
set_option maxRecDepth 20000 in
theorem dX4_init_16 : decode cX4_init 16 = .ok (.putfield 16, 3) := by decide +kernel
set_option maxRecDepth 20000 in
theorem dX4_init_19 : decode cX4_init 19 = .ok (.aload_n 0, 1) := by decide +kernel
set_option maxRecDepth 20000 in
theorem dX4_init_20 : decode cX4_init 20 = .ok (.aload 4, 2) := by decide +kernel
set_option maxRecDepth 20000 in
theorem dX4_init_22 : decode cX4_init 22 = .ok (.putfield 20, 3) := by decide +kernel
set_option maxRecDepth 20000 in
theorem dX4_init_25 : decode cX4_init 25 = .ok (.aload_n 0, 1) := by decide +kernel
set_option maxRecDepth 20000 in
theorem dX4_init_26 : decode cX4_init 26 = .ok (.aload_n 3, 1) := by decide +kernel
set_option maxRecDepth 20000 in
theorem dX4_init_27 : decode cX4_init 27 = .ok (.arraylength, 1) := by decide +kernel
set_option maxRecDepth 20000 in
theorem dX4_init_28 : decode cX4_init 28 = .ok (.anewarray 24, 3) := by decide +kernel
set_option maxRecDepth 20000 in
theorem dX4_init_31 : decode cX4_init 31 = .ok (.putfield 26, 3) := by decide +kernel
set_option maxRecDepth 20000 in
theorem dX4_init_34 : decode cX4_init 34 = .ok (.return_, 1) := by decide +kernel
set_option maxRecDepth 20000 in
theorem dX4_ofFraction_0 : decode cX4_ofFraction 0 = .ok (.iconst 1, 1) := by decide +kernel
set_option maxRecDepth 20000 in
theorem dX4_ofFraction_1 : decode cX4_ofFraction 1 = .ok (.anewarray 30, 3) := by decide +kernel
set_option maxRecDepth 20000 in
theorem dX4_ofFraction_4 : decode cX4_ofFraction 4 = .ok (.dup, 1) := by decide +kernel
set_option maxRecDepth 20000 in
theorem dX4_ofFraction_5 : decode cX4_ofFraction 5 = .ok (.iconst 0, 1) := by decide +kernel
set_option maxRecDepth 20000 in
theorem dX4_ofFraction_6 : decode cX4_ofFraction 6 = .ok (.iload_n 0, 1) := by decide +kernel
set_option maxRecDepth 20000 in
theorem dX4_ofFraction_7 : decode cX4_ofFraction 7 = .ok (.i2l, 1) := by decide +kernel
set_option maxRecDepth 20000 in
theorem dX4_ofFraction_8 : decode cX4_ofFraction 8 = .ok (.invokestatic 32, 3) := by decide +kernel
set_option maxRecDepth 20000 in
theorem dX4_ofFraction_11 : decode cX4_ofFraction 11 = .ok (.aastore, 1) := by decide +kernel
set_option maxRecDepth 20000 in
theorem dX4_ofFraction_12 : decode cX4_ofFraction 12 = .ok (.astore_n 2, 1) := by decide +kernel
set_option maxRecDepth 20000 in
theorem dX4_ofFraction_13 : decode cX4_ofFraction 13 = .ok (.new 8, 3) := by decide +kernel
set_option maxRecDepth 20000 in
theorem dX4_ofFraction_16 : decode cX4_ofFraction 16 = .ok (.dup, 1) := by decide +kernel
set_option maxRecDepth 20000 in
theorem dX4_ofFraction_17 : decode cX4_ofFraction 17 = .ok (.iconst 1, 1) := by decide +kernel
set_option maxRecDepth 20000 in
theorem dX4_ofFraction_18 : decode cX4_ofFraction 18 = .ok (.iconst 1, 1) := by decide +kernel
set_option maxRecDepth 20000 in
theorem dX4_ofFraction_19 : decode cX4_ofFraction 19 = .ok (.aload_n 2, 1) := by decide +kernel
set_option maxRecDepth 20000 in
theorem dX4_ofFraction_20 : decode cX4_ofFraction 20 = .ok (.iload_n 1, 1) := by decide +kernel
set_option maxRecDepth 20000 in
theorem dX4_ofFraction_21 : decode cX4_ofFraction 21 = .ok (.i2l, 1) := by decide +kernel
set_option maxRecDepth 20000 in
theorem dX4_ofFraction_22 : decode cX4_ofFraction 22 = .ok (.invokestatic 32, 3) := by decide +kernel
set_option maxRecDepth 20000 in
theorem dX4_ofFraction_25 : decode cX4_ofFraction 25 = .ok (.invokespecial 36, 3) := by decide +kernel
set_option maxRecDepth 20000 in
theorem dX4_ofFraction_28 : decode cX4_ofFraction 28 = .ok (.areturn, 1) := by decide +kernel
set_option maxRecDepth 20000 in
theorem dX4_has_0 : decode cX4_has 0 = .ok (.iload_n 1, 1) := by decide +kernel
set_option maxRecDepth 20000 in
theorem dX4_has_1 : decode cX4_has 1 = .ok (.ifCond .lt 27, 3) := by decide +kernel
set_option maxRecDepth 20000 in
theorem dX4_has_4 : decode cX4_has 4 = .ok (.iload_n 1, 1) := by decide +kernel
set_option maxRecDepth 20000 in
theorem dX4_has_5 : decode cX4_has 5 = .ok (.aload_n 0, 1) := by decide +kernel
set_option maxRecDepth 20000 in
theorem dX4_has_6 : decode cX4_has 6 = .ok (.getfield 7, 3) := by decide +kernel
set_option maxRecDepth 20000 in
theorem dX4_has_9 : decode cX4_has 9 = .ok (.if_icmp .ge 19, 3) := by decide +kernel
set_option maxRecDepth 20000 in
theorem dX4_has_12 : decode cX4_has 12 = .ok (.iload_n 2, 1) := by decide +kernel
set_option maxRecDepth 20000 in
theorem dX4_has_13 : decode cX4_has 13 = .ok (.ifCond .lt 15, 3) := by decide +kernel
set_option maxRecDepth 20000 in
theorem dX4_has_16 : decode cX4_has 16 = .ok (.iload_n 2, 1) := by decide +kernel
set_option maxRecDepth 20000 in
theorem dX4_has_17 : decode cX4_has 17 = .ok (.aload_n 0, 1) := by decide +kernel
set_option maxRecDepth 20000 in
theorem dX4_has_18 : decode cX4_has 18 = .ok (.getfield 13, 3) := by decide +kernel
set_option maxRecDepth 20000 in
theorem dX4_has_21 : decode cX4_has 21 = .ok (.if_icmp .ge 7, 3) := by decide +kernel
set_option maxRecDepth 20000 in
theorem dX4_has_24 : decode cX4_has 24 = .ok (.iconst 1, 1) := by decide +kernel
set_option maxRecDepth 20000 in
theorem dX4_has_25 : decode cX4_has 25 = .ok (.goto 4, 3) := by decide +kernel
set_option maxRecDepth 20000 in
theorem dX4_has_28 : decode cX4_has 28 = .ok (.iconst 0, 1) := by decide +kernel
set_option maxRecDepth 20000 in
theorem dX4_has_29 : decode cX4_has 29 = .ok (.ireturn, 1) := by decide +kernel
set_option maxRecDepth 20000 in
theorem dX4_number_0 : decode cX4_number 0 = .ok (.iload_n 1, 1) := by decide +kernel
set_option maxRecDepth 20000 in
theorem dX4_number_1 : decode cX4_number 1 = .ok (.aload_n 0, 1) := by decide +kernel
set_option maxRecDepth 20000 in
theorem dX4_number_2 : decode cX4_number 2 = .ok (.getfield 13, 3) := by decide +kernel
set_option maxRecDepth 20000 in
theorem dX4_number_5 : decode cX4_number 5 = .ok (.imul, 1) := by decide +kernel
set_option maxRecDepth 20000 in
theorem dX4_number_6 : decode cX4_number 6 = .ok (.iload_n 2, 1) := by decide +kernel
set_option maxRecDepth 20000 in
theorem dX4_number_7 : decode cX4_number 7 = .ok (.iadd, 1) := by decide +kernel
set_option maxRecDepth 20000 in
theorem dX4_number_8 : decode cX4_number 8 = .ok (.istore_n 3, 1) := by decide +kernel
set_option maxRecDepth 20000 in
theorem dX4_number_9 : decode cX4_number 9 = .ok (.aload_n 0, 1) := by decide +kernel
set_option maxRecDepth 20000 in
theorem dX4_number_10 : decode cX4_number 10 = .ok (.getfield 26, 3) := by decide +kernel
set_option maxRecDepth 20000 in
theorem dX4_number_13 : decode cX4_number 13 = .ok (.iload_n 3, 1) := by decide +kernel
set_option maxRecDepth 20000 in
theorem dX4_number_14 : decode cX4_number 14 = .ok (.aaload, 1) := by decide +kernel
set_option maxRecDepth 20000 in
theorem dX4_number_15 : decode cX4_number 15 = .ok (.ifnonnull 26, 3) := by decide +kernel
set_option maxRecDepth 20000 in
theorem dX4_number_18 : decode cX4_number 18 = .ok (.aload_n 0, 1) := by decide +kernel
set_option maxRecDepth 20000 in
theorem dX4_number_19 : decode cX4_number 19 = .ok (.getfield 26, 3) := by decide +kernel
set_option maxRecDepth 20000 in
theorem dX4_number_22 : decode cX4_number 22 = .ok (.iload_n 3, 1) := by decide +kernel
set_option maxRecDepth 20000 in
theorem dX4_number_23 : decode cX4_number 23 = .ok (.new 24, 3) := by decide +kernel
set_option maxRecDepth 20000 in
theorem dX4_number_26 : decode cX4_number 26 = .ok (.dup, 1) := by decide +kernel
set_option maxRecDepth 20000 in
theorem dX4_number_27 : decode cX4_number 27 = .ok (.aload_n 0, 1) := by decide +kernel
set_option maxRecDepth 20000 in
theorem dX4_number_28 : decode cX4_number 28 = .ok (.getfield 16, 3) := by decide +kernel
set_option maxRecDepth 20000 in
theorem dX4_number_31 : decode cX4_number 31 = .ok (.iload_n 3, 1) := by decide +kernel
set_option maxRecDepth 20000 in
theorem dX4_number_32 : decode cX4_number 32 = .ok (.aaload, 1) := by decide +kernel
set_option maxRecDepth 20000 in
theorem dX4_number_33 : decode cX4_number 33 = .ok (.aload_n 0, 1) := by decide +kernel
set_option maxRecDepth 20000 in
theorem dX4_number_34 : decode cX4_number 34 = .ok (.getfield 20, 3) := by decide +kernel
set_option maxRecDepth 20000 in
theorem dX4_number_37 : decode cX4_number 37 = .ok (.invokespecial 39, 3) := by decide +kernel
set_option maxRecDepth 20000 in
theorem dX4_number_40 : decode cX4_number 40 = .ok (.aastore, 1) := by decide +kernel
set_option maxRecDepth 20000 in
theorem dX4_number_41 : decode cX4_number 41 = .ok (.aload_n 0, 1) := by decide +kernel
set_option maxRecDepth 20000 in
theorem dX4_number_42 : decode cX4_number 42 = .ok (.getfield 26, 3) := by decide +kernel
set_option maxRecDepth 20000 in
theorem dX4_number_45 : decode cX4_number 45 = .ok (.iload_n 3, 1) := by decide +kernel
set_option maxRecDepth 20000 in
theorem dX4_number_46 : decode cX4_number 46 = .ok (.aaload, 1) := by decide +kernel
set_option maxRecDepth 20000 in
theorem dX4_number_47 : decode cX4_number 47 = .ok (.areturn, 1) := by decide +kernel
set_option maxRecDepth 20000 in
theorem dX4_isNothing_0 : decode cX4_isNothing 0 = .ok (.aload_n 0, 1) := by decide +kernel
set_option maxRecDepth 20000 in
theorem dX4_isNothing_1 : decode cX4_isNothing 1 = .ok (.getfield 16, 3) := by decide +kernel
set_option maxRecDepth 20000 in
theorem dX4_isNothing_4 : decode cX4_isNothing 4 = .ok (.iconst 0, 1) := by decide +kernel
set_option maxRecDepth 20000 in
theorem dX4_isNothing_5 : decode cX4_isNothing 5 = .ok (.aaload, 1) := by decide +kernel
set_option maxRecDepth 20000 in
theorem dX4_isNothing_6 : decode cX4_isNothing 6 = .ok (.invokevirtual 42, 3) := by decide +kernel
set_option maxRecDepth 20000 in
theorem dX4_isNothing_9 : decode cX4_isNothing 9 = .ok (.ifCond .ne 7, 3) := by decide +kernel
set_option maxRecDepth 20000 in
theorem dX4_isNothing_12 : decode cX4_isNothing 12 = .ok (.iconst 1, 1) := by decide +kernel
set_option maxRecDepth 20000 in
theorem dX4_isNothing_13 : decode cX4_isNothing 13 = .ok (.goto 4, 3) := by decide +kernel
set_option maxRecDepth 20000 in
theorem dX4_isNothing_16 : decode cX4_isNothing 16 = .ok (.iconst 0, 1) := by decide +kernel
set_option maxRecDepth 20000 in
theorem dX4_isNothing_17 : decode cX4_isNothing 17 = .ok (.ireturn, 1) := by decide +kernel
set_option maxRecDepth 20000 in
theorem dX4_turned_0 : decode cX4_turned 0 = .ok (.aload_n 0, 1) := by decide +kernel
set_option maxRecDepth 20000 in
theorem dX4_turned_1 : decode cX4_turned 1 = .ok (.getfield 16, 3) := by decide +kernel
set_option maxRecDepth 20000 in
theorem dX4_turned_4 : decode cX4_turned 4 = .ok (.arraylength, 1) := by decide +kernel
set_option maxRecDepth 20000 in
theorem dX4_turned_5 : decode cX4_turned 5 = .ok (.anewarray 30, 3) := by decide +kernel
set_option maxRecDepth 20000 in
theorem dX4_turned_8 : decode cX4_turned 8 = .ok (.astore_n 1, 1) := by decide +kernel
set_option maxRecDepth 20000 in
theorem dX4_turned_9 : decode cX4_turned 9 = .ok (.iconst 0, 1) := by decide +kernel
set_option maxRecDepth 20000 in
theorem dX4_turned_10 : decode cX4_turned 10 = .ok (.istore_n 2, 1) := by decide +kernel
set_option maxRecDepth 20000 in
theorem dX4_turned_11 : decode cX4_turned 11 = .ok (.iload_n 2, 1) := by decide +kernel
set_option maxRecDepth 20000 in
theorem dX4_turned_12 : decode cX4_turned 12 = .ok (.aload_n 0, 1) := by decide +kernel
set_option maxRecDepth 20000 in
theorem dX4_turned_13 : decode cX4_turned 13 = .ok (.getfield 7, 3) := by decide +kernel
set_option maxRecDepth 20000 in
theorem dX4_turned_16 : decode cX4_turned 16 = .ok (.if_icmp .ge 48, 3) := by decide +kernel
set_option maxRecDepth 20000 in
theorem dX4_turned_19 : decode cX4_turned 19 = .ok (.iconst 0, 1) := by decide +kernel
set_option maxRecDepth 20000 in
theorem dX4_turned_20 : decode cX4_turned 20 = .ok (.istore_n 3, 1) := by decide +kernel
set_option maxRecDepth 20000 in
theorem dX4_turned_21 : decode cX4_turned 21 = .ok (.iload_n 3, 1) := by decide +kernel
set_option maxRecDepth 20000 in
theorem dX4_turned_22 : decode cX4_turned 22 = .ok (.aload_n 0, 1) := by decide +kernel
set_option maxRecDepth 20000 in
theorem dX4_turned_23 : decode cX4_turned 23 = .ok (.getfield 13, 3) := by decide +kernel
set_option maxRecDepth 20000 in
theorem dX4_turned_26 : decode cX4_turned 26 = .ok (.if_icmp .ge 32, 3) := by decide +kernel
set_option maxRecDepth 20000 in
theorem dX4_turned_29 : decode cX4_turned 29 = .ok (.aload_n 1, 1) := by decide +kernel
set_option maxRecDepth 20000 in
theorem dX4_turned_30 : decode cX4_turned 30 = .ok (.iload_n 3, 1) := by decide +kernel
set_option maxRecDepth 20000 in
theorem dX4_turned_31 : decode cX4_turned 31 = .ok (.aload_n 0, 1) := by decide +kernel
set_option maxRecDepth 20000 in
theorem dX4_turned_32 : decode cX4_turned 32 = .ok (.getfield 7, 3) := by decide +kernel
set_option maxRecDepth 20000 in
theorem dX4_turned_35 : decode cX4_turned 35 = .ok (.imul, 1) := by decide +kernel
set_option maxRecDepth 20000 in
theorem dX4_turned_36 : decode cX4_turned 36 = .ok (.iload_n 2, 1) := by decide +kernel
set_option maxRecDepth 20000 in
theorem dX4_turned_37 : decode cX4_turned 37 = .ok (.iadd, 1) := by decide +kernel
set_option maxRecDepth 20000 in
theorem dX4_turned_38 : decode cX4_turned 38 = .ok (.aload_n 0, 1) := by decide +kernel
set_option maxRecDepth 20000 in
theorem dX4_turned_39 : decode cX4_turned 39 = .ok (.getfield 16, 3) := by decide +kernel
set_option maxRecDepth 20000 in
theorem dX4_turned_42 : decode cX4_turned 42 = .ok (.iload_n 2, 1) := by decide +kernel
set_option maxRecDepth 20000 in
theorem dX4_turned_43 : decode cX4_turned 43 = .ok (.aload_n 0, 1) := by decide +kernel
set_option maxRecDepth 20000 in
theorem dX4_turned_44 : decode cX4_turned 44 = .ok (.getfield 13, 3) := by decide +kernel
set_option maxRecDepth 20000 in
theorem dX4_turned_47 : decode cX4_turned 47 = .ok (.imul, 1) := by decide +kernel
set_option maxRecDepth 20000 in
theorem dX4_turned_48 : decode cX4_turned 48 = .ok (.iload_n 3, 1) := by decide +kernel
set_option maxRecDepth 20000 in
theorem dX4_turned_49 : decode cX4_turned 49 = .ok (.iadd, 1) := by decide +kernel
set_option maxRecDepth 20000 in
theorem dX4_turned_50 : decode cX4_turned 50 = .ok (.aaload, 1) := by decide +kernel
set_option maxRecDepth 20000 in
theorem dX4_turned_51 : decode cX4_turned 51 = .ok (.aastore, 1) := by decide +kernel
set_option maxRecDepth 20000 in
theorem dX4_turned_52 : decode cX4_turned 52 = .ok (.iinc 3 1, 3) := by decide +kernel
set_option maxRecDepth 20000 in
theorem dX4_turned_55 : decode cX4_turned 55 = .ok (.goto (-34), 3) := by decide +kernel
set_option maxRecDepth 20000 in
theorem dX4_turned_58 : decode cX4_turned 58 = .ok (.iinc 2 1, 3) := by decide +kernel
set_option maxRecDepth 20000 in
theorem dX4_turned_61 : decode cX4_turned 61 = .ok (.goto (-50), 3) := by decide +kernel
set_option maxRecDepth 20000 in
theorem dX4_turned_64 : decode cX4_turned 64 = .ok (.new 8, 3) := by decide +kernel
set_option maxRecDepth 20000 in
theorem dX4_turned_67 : decode cX4_turned 67 = .ok (.dup, 1) := by decide +kernel
set_option maxRecDepth 20000 in
theorem dX4_turned_68 : decode cX4_turned 68 = .ok (.aload_n 0, 1) := by decide +kernel
set_option maxRecDepth 20000 in
theorem dX4_turned_69 : decode cX4_turned 69 = .ok (.getfield 13, 3) := by decide +kernel
set_option maxRecDepth 20000 in
theorem dX4_turned_72 : decode cX4_turned 72 = .ok (.aload_n 0, 1) := by decide +kernel
set_option maxRecDepth 20000 in
theorem dX4_turned_73 : decode cX4_turned 73 = .ok (.getfield 7, 3) := by decide +kernel
set_option maxRecDepth 20000 in
theorem dX4_turned_76 : decode cX4_turned 76 = .ok (.aload_n 1, 1) := by decide +kernel
set_option maxRecDepth 20000 in
theorem dX4_turned_77 : decode cX4_turned 77 = .ok (.aload_n 0, 1) := by decide +kernel
set_option maxRecDepth 20000 in
theorem dX4_turned_78 : decode cX4_turned 78 = .ok (.getfield 20, 3) := by decide +kernel
set_option maxRecDepth 20000 in
theorem dX4_turned_81 : decode cX4_turned 81 = .ok (.invokespecial 36, 3) := by decide +kernel
set_option maxRecDepth 20000 in
theorem dX4_turned_84 : decode cX4_turned 84 = .ok (.areturn, 1) := by decide +kernel
set_option maxRecDepth 20000 in
theorem dX4_times_0 : decode cX4_times 0 = .ok (.aload_n 0, 1) := by decide +kernel
set_option maxRecDepth 20000 in
theorem dX4_times_1 : decode cX4_times 1 = .ok (.getfield 7, 3) := by decide +kernel
set_option maxRecDepth 20000 in
theorem dX4_times_4 : decode cX4_times 4 = .ok (.aload_n 1, 1) := by decide +kernel
set_option maxRecDepth 20000 in
theorem dX4_times_5 : decode cX4_times 5 = .ok (.getfield 13, 3) := by decide +kernel
set_option maxRecDepth 20000 in
theorem dX4_times_8 : decode cX4_times 8 = .ok (.imul, 1) := by decide +kernel
set_option maxRecDepth 20000 in
theorem dX4_times_9 : decode cX4_times 9 = .ok (.anewarray 30, 3) := by decide +kernel
set_option maxRecDepth 20000 in
theorem dX4_times_12 : decode cX4_times 12 = .ok (.astore_n 2, 1) := by decide +kernel
set_option maxRecDepth 20000 in
theorem dX4_times_13 : decode cX4_times 13 = .ok (.iconst 0, 1) := by decide +kernel
set_option maxRecDepth 20000 in
theorem dX4_times_14 : decode cX4_times 14 = .ok (.istore_n 3, 1) := by decide +kernel
set_option maxRecDepth 20000 in
theorem dX4_times_15 : decode cX4_times 15 = .ok (.iload_n 3, 1) := by decide +kernel
set_option maxRecDepth 20000 in
theorem dX4_times_16 : decode cX4_times 16 = .ok (.aload_n 0, 1) := by decide +kernel
set_option maxRecDepth 20000 in
theorem dX4_times_17 : decode cX4_times 17 = .ok (.getfield 7, 3) := by decide +kernel
set_option maxRecDepth 20000 in
theorem dX4_times_20 : decode cX4_times 20 = .ok (.if_icmp .ge 46, 3) := by decide +kernel
set_option maxRecDepth 20000 in
theorem dX4_times_23 : decode cX4_times 23 = .ok (.iconst 0, 1) := by decide +kernel
set_option maxRecDepth 20000 in
theorem dX4_times_24 : decode cX4_times 24 = .ok (.istore 4, 2) := by decide +kernel
set_option maxRecDepth 20000 in
theorem dX4_times_26 : decode cX4_times 26 = .ok (.iload 4, 2) := by decide +kernel
set_option maxRecDepth 20000 in
theorem dX4_times_28 : decode cX4_times 28 = .ok (.aload_n 1, 1) := by decide +kernel
set_option maxRecDepth 20000 in
theorem dX4_times_29 : decode cX4_times 29 = .ok (.getfield 13, 3) := by decide +kernel
set_option maxRecDepth 20000 in
theorem dX4_times_32 : decode cX4_times 32 = .ok (.if_icmp .ge 28, 3) := by decide +kernel
set_option maxRecDepth 20000 in
theorem dX4_times_35 : decode cX4_times 35 = .ok (.aload_n 2, 1) := by decide +kernel
set_option maxRecDepth 20000 in
theorem dX4_times_36 : decode cX4_times 36 = .ok (.iload_n 3, 1) := by decide +kernel
set_option maxRecDepth 20000 in
theorem dX4_times_37 : decode cX4_times 37 = .ok (.aload_n 1, 1) := by decide +kernel
set_option maxRecDepth 20000 in
theorem dX4_times_38 : decode cX4_times 38 = .ok (.getfield 13, 3) := by decide +kernel
set_option maxRecDepth 20000 in
theorem dX4_times_41 : decode cX4_times 41 = .ok (.imul, 1) := by decide +kernel
set_option maxRecDepth 20000 in
theorem dX4_times_42 : decode cX4_times 42 = .ok (.iload 4, 2) := by decide +kernel
set_option maxRecDepth 20000 in
theorem dX4_times_44 : decode cX4_times 44 = .ok (.iadd, 1) := by decide +kernel
set_option maxRecDepth 20000 in
theorem dX4_times_45 : decode cX4_times 45 = .ok (.aload_n 0, 1) := by decide +kernel
set_option maxRecDepth 20000 in
theorem dX4_times_46 : decode cX4_times 46 = .ok (.iload_n 3, 1) := by decide +kernel
set_option maxRecDepth 20000 in
theorem dX4_times_47 : decode cX4_times 47 = .ok (.aload_n 1, 1) := by decide +kernel
set_option maxRecDepth 20000 in
theorem dX4_times_48 : decode cX4_times 48 = .ok (.iload 4, 2) := by decide +kernel
set_option maxRecDepth 20000 in
theorem dX4_times_50 : decode cX4_times 50 = .ok (.invokevirtual 46, 3) := by decide +kernel
set_option maxRecDepth 20000 in
theorem dX4_times_53 : decode cX4_times 53 = .ok (.aastore, 1) := by decide +kernel
set_option maxRecDepth 20000 in
theorem dX4_times_54 : decode cX4_times 54 = .ok (.iinc 4 1, 3) := by decide +kernel
set_option maxRecDepth 20000 in
theorem dX4_times_57 : decode cX4_times 57 = .ok (.goto (-31), 3) := by decide +kernel
set_option maxRecDepth 20000 in
theorem dX4_times_60 : decode cX4_times 60 = .ok (.iinc 3 1, 3) := by decide +kernel
set_option maxRecDepth 20000 in
theorem dX4_times_63 : decode cX4_times 63 = .ok (.goto (-48), 3) := by decide +kernel
set_option maxRecDepth 20000 in
theorem dX4_times_66 : decode cX4_times 66 = .ok (.new 8, 3) := by decide +kernel
set_option maxRecDepth 20000 in
theorem dX4_times_69 : decode cX4_times 69 = .ok (.dup, 1) := by decide +kernel
set_option maxRecDepth 20000 in
theorem dX4_times_70 : decode cX4_times 70 = .ok (.aload_n 0, 1) := by decide +kernel
set_option maxRecDepth 20000 in
theorem dX4_times_71 : decode cX4_times 71 = .ok (.getfield 7, 3) := by decide +kernel
set_option maxRecDepth 20000 in
theorem dX4_times_74 : decode cX4_times 74 = .ok (.aload_n 1, 1) := by decide +kernel
set_option maxRecDepth 20000 in
theorem dX4_times_75 : decode cX4_times 75 = .ok (.getfield 13, 3) := by decide +kernel
set_option maxRecDepth 20000 in
theorem dX4_times_78 : decode cX4_times 78 = .ok (.aload_n 2, 1) := by decide +kernel
set_option maxRecDepth 20000 in
theorem dX4_times_79 : decode cX4_times 79 = .ok (.aload_n 0, 1) := by decide +kernel
set_option maxRecDepth 20000 in
theorem dX4_times_80 : decode cX4_times 80 = .ok (.getfield 20, 3) := by decide +kernel
set_option maxRecDepth 20000 in
theorem dX4_times_83 : decode cX4_times 83 = .ok (.aload_n 1, 1) := by decide +kernel
set_option maxRecDepth 20000 in
theorem dX4_times_84 : decode cX4_times 84 = .ok (.getfield 20, 3) := by decide +kernel
set_option maxRecDepth 20000 in
theorem dX4_times_87 : decode cX4_times 87 = .ok (.invokevirtual 50, 3) := by decide +kernel
set_option maxRecDepth 20000 in
theorem dX4_times_90 : decode cX4_times 90 = .ok (.invokespecial 36, 3) := by decide +kernel
set_option maxRecDepth 20000 in
theorem dX4_times_93 : decode cX4_times 93 = .ok (.areturn, 1) := by decide +kernel
set_option maxRecDepth 20000 in
theorem dX4_rowTimesColumn_0 : decode cX4_rowTimesColumn 0 = .ok (.aload_n 0, 1) := by decide +kernel
set_option maxRecDepth 20000 in
theorem dX4_rowTimesColumn_1 : decode cX4_rowTimesColumn 1 = .ok (.getfield 16, 3) := by decide +kernel
set_option maxRecDepth 20000 in
theorem dX4_rowTimesColumn_4 : decode cX4_rowTimesColumn 4 = .ok (.iload_n 1, 1) := by decide +kernel
set_option maxRecDepth 20000 in
theorem dX4_rowTimesColumn_5 : decode cX4_rowTimesColumn 5 = .ok (.aload_n 0, 1) := by decide +kernel
set_option maxRecDepth 20000 in
theorem dX4_rowTimesColumn_6 : decode cX4_rowTimesColumn 6 = .ok (.getfield 13, 3) := by decide +kernel
set_option maxRecDepth 20000 in
theorem dX4_rowTimesColumn_9 : decode cX4_rowTimesColumn 9 = .ok (.imul, 1) := by decide +kernel
set_option maxRecDepth 20000 in
theorem dX4_rowTimesColumn_10 : decode cX4_rowTimesColumn 10 = .ok (.aaload, 1) := by decide +kernel
set_option maxRecDepth 20000 in
theorem dX4_rowTimesColumn_11 : decode cX4_rowTimesColumn 11 = .ok (.aload_n 2, 1) := by decide +kernel
set_option maxRecDepth 20000 in
theorem dX4_rowTimesColumn_12 : decode cX4_rowTimesColumn 12 = .ok (.getfield 16, 3) := by decide +kernel
set_option maxRecDepth 20000 in
theorem dX4_rowTimesColumn_15 : decode cX4_rowTimesColumn 15 = .ok (.iload_n 3, 1) := by decide +kernel
set_option maxRecDepth 20000 in
theorem dX4_rowTimesColumn_16 : decode cX4_rowTimesColumn 16 = .ok (.aaload, 1) := by decide +kernel
set_option maxRecDepth 20000 in
theorem dX4_rowTimesColumn_17 : decode cX4_rowTimesColumn 17 = .ok (.invokevirtual 50, 3) := by decide +kernel
set_option maxRecDepth 20000 in
theorem dX4_rowTimesColumn_20 : decode cX4_rowTimesColumn 20 = .ok (.astore 4, 2) := by decide +kernel
set_option maxRecDepth 20000 in
theorem dX4_rowTimesColumn_22 : decode cX4_rowTimesColumn 22 = .ok (.iconst 1, 1) := by decide +kernel
set_option maxRecDepth 20000 in
theorem dX4_rowTimesColumn_23 : decode cX4_rowTimesColumn 23 = .ok (.istore 5, 2) := by decide +kernel
set_option maxRecDepth 20000 in
theorem dX4_rowTimesColumn_25 : decode cX4_rowTimesColumn 25 = .ok (.iload 5, 2) := by decide +kernel
set_option maxRecDepth 20000 in
theorem dX4_rowTimesColumn_27 : decode cX4_rowTimesColumn 27 = .ok (.aload_n 0, 1) := by decide +kernel
set_option maxRecDepth 20000 in
theorem dX4_rowTimesColumn_28 : decode cX4_rowTimesColumn 28 = .ok (.getfield 13, 3) := by decide +kernel
set_option maxRecDepth 20000 in
theorem dX4_rowTimesColumn_31 : decode cX4_rowTimesColumn 31 = .ok (.if_icmp .ge 47, 3) := by decide +kernel
set_option maxRecDepth 20000 in
theorem dX4_rowTimesColumn_34 : decode cX4_rowTimesColumn 34 = .ok (.aload 4, 2) := by decide +kernel
set_option maxRecDepth 20000 in
theorem dX4_rowTimesColumn_36 : decode cX4_rowTimesColumn 36 = .ok (.aload_n 0, 1) := by decide +kernel
set_option maxRecDepth 20000 in
theorem dX4_rowTimesColumn_37 : decode cX4_rowTimesColumn 37 = .ok (.getfield 16, 3) := by decide +kernel
set_option maxRecDepth 20000 in
theorem dX4_rowTimesColumn_40 : decode cX4_rowTimesColumn 40 = .ok (.iload_n 1, 1) := by decide +kernel
set_option maxRecDepth 20000 in
theorem dX4_rowTimesColumn_41 : decode cX4_rowTimesColumn 41 = .ok (.aload_n 0, 1) := by decide +kernel
set_option maxRecDepth 20000 in
theorem dX4_rowTimesColumn_42 : decode cX4_rowTimesColumn 42 = .ok (.getfield 13, 3) := by decide +kernel
set_option maxRecDepth 20000 in
theorem dX4_rowTimesColumn_45 : decode cX4_rowTimesColumn 45 = .ok (.imul, 1) := by decide +kernel
set_option maxRecDepth 20000 in
theorem dX4_rowTimesColumn_46 : decode cX4_rowTimesColumn 46 = .ok (.iload 5, 2) := by decide +kernel
set_option maxRecDepth 20000 in
theorem dX4_rowTimesColumn_48 : decode cX4_rowTimesColumn 48 = .ok (.iadd, 1) := by decide +kernel
set_option maxRecDepth 20000 in
theorem dX4_rowTimesColumn_49 : decode cX4_rowTimesColumn 49 = .ok (.aaload, 1) := by decide +kernel
set_option maxRecDepth 20000 in
theorem dX4_rowTimesColumn_50 : decode cX4_rowTimesColumn 50 = .ok (.aload_n 2, 1) := by decide +kernel
set_option maxRecDepth 20000 in
theorem dX4_rowTimesColumn_51 : decode cX4_rowTimesColumn 51 = .ok (.getfield 16, 3) := by decide +kernel
set_option maxRecDepth 20000 in
theorem dX4_rowTimesColumn_54 : decode cX4_rowTimesColumn 54 = .ok (.iload 5, 2) := by decide +kernel
set_option maxRecDepth 20000 in
theorem dX4_rowTimesColumn_56 : decode cX4_rowTimesColumn 56 = .ok (.aload_n 2, 1) := by decide +kernel
set_option maxRecDepth 20000 in
theorem dX4_rowTimesColumn_57 : decode cX4_rowTimesColumn 57 = .ok (.getfield 13, 3) := by decide +kernel
set_option maxRecDepth 20000 in
theorem dX4_rowTimesColumn_60 : decode cX4_rowTimesColumn 60 = .ok (.imul, 1) := by decide +kernel
set_option maxRecDepth 20000 in
theorem dX4_rowTimesColumn_61 : decode cX4_rowTimesColumn 61 = .ok (.iload_n 3, 1) := by decide +kernel
set_option maxRecDepth 20000 in
theorem dX4_rowTimesColumn_62 : decode cX4_rowTimesColumn 62 = .ok (.iadd, 1) := by decide +kernel
set_option maxRecDepth 20000 in
theorem dX4_rowTimesColumn_63 : decode cX4_rowTimesColumn 63 = .ok (.aaload, 1) := by decide +kernel
set_option maxRecDepth 20000 in
theorem dX4_rowTimesColumn_64 : decode cX4_rowTimesColumn 64 = .ok (.invokevirtual 50, 3) := by decide +kernel
set_option maxRecDepth 20000 in
theorem dX4_rowTimesColumn_67 : decode cX4_rowTimesColumn 67 = .ok (.invokevirtual 54, 3) := by decide +kernel
set_option maxRecDepth 20000 in
theorem dX4_rowTimesColumn_70 : decode cX4_rowTimesColumn 70 = .ok (.astore 4, 2) := by decide +kernel
set_option maxRecDepth 20000 in
theorem dX4_rowTimesColumn_72 : decode cX4_rowTimesColumn 72 = .ok (.iinc 5 1, 3) := by decide +kernel
set_option maxRecDepth 20000 in
theorem dX4_rowTimesColumn_75 : decode cX4_rowTimesColumn 75 = .ok (.goto (-50), 3) := by decide +kernel
set_option maxRecDepth 20000 in
theorem dX4_rowTimesColumn_78 : decode cX4_rowTimesColumn 78 = .ok (.aload 4, 2) := by decide +kernel
set_option maxRecDepth 20000 in
theorem dX4_rowTimesColumn_80 : decode cX4_rowTimesColumn 80 = .ok (.areturn, 1) := by decide +kernel
set_option maxRecDepth 20000 in
theorem dX4_plus_0 : decode cX4_plus 0 = .ok (.aload_n 0, 1) := by decide +kernel
set_option maxRecDepth 20000 in
theorem dX4_plus_1 : decode cX4_plus 1 = .ok (.getfield 20, 3) := by decide +kernel
set_option maxRecDepth 20000 in
theorem dX4_plus_4 : decode cX4_plus 4 = .ok (.aload_n 1, 1) := by decide +kernel
set_option maxRecDepth 20000 in
theorem dX4_plus_5 : decode cX4_plus 5 = .ok (.getfield 20, 3) := by decide +kernel
set_option maxRecDepth 20000 in
theorem dX4_plus_8 : decode cX4_plus 8 = .ok (.invokestatic 57, 3) := by decide +kernel
set_option maxRecDepth 20000 in
theorem dX4_plus_11 : decode cX4_plus 11 = .ok (.astore_n 2, 1) := by decide +kernel
set_option maxRecDepth 20000 in
theorem dX4_plus_12 : decode cX4_plus 12 = .ok (.aload_n 1, 1) := by decide +kernel
set_option maxRecDepth 20000 in
theorem dX4_plus_13 : decode cX4_plus 13 = .ok (.getfield 20, 3) := by decide +kernel
set_option maxRecDepth 20000 in
theorem dX4_plus_16 : decode cX4_plus 16 = .ok (.aload_n 2, 1) := by decide +kernel
set_option maxRecDepth 20000 in
theorem dX4_plus_17 : decode cX4_plus 17 = .ok (.invokevirtual 61, 3) := by decide +kernel
set_option maxRecDepth 20000 in
theorem dX4_plus_20 : decode cX4_plus 20 = .ok (.astore_n 3, 1) := by decide +kernel
set_option maxRecDepth 20000 in
theorem dX4_plus_21 : decode cX4_plus 21 = .ok (.aload_n 0, 1) := by decide +kernel
set_option maxRecDepth 20000 in
theorem dX4_plus_22 : decode cX4_plus 22 = .ok (.getfield 20, 3) := by decide +kernel
set_option maxRecDepth 20000 in
theorem dX4_plus_25 : decode cX4_plus 25 = .ok (.aload_n 2, 1) := by decide +kernel
set_option maxRecDepth 20000 in
theorem dX4_plus_26 : decode cX4_plus 26 = .ok (.invokevirtual 61, 3) := by decide +kernel
set_option maxRecDepth 20000 in
theorem dX4_plus_29 : decode cX4_plus 29 = .ok (.astore 4, 2) := by decide +kernel
set_option maxRecDepth 20000 in
theorem dX4_plus_31 : decode cX4_plus 31 = .ok (.aload_n 0, 1) := by decide +kernel
set_option maxRecDepth 20000 in
theorem dX4_plus_32 : decode cX4_plus 32 = .ok (.getfield 16, 3) := by decide +kernel
set_option maxRecDepth 20000 in
theorem dX4_plus_35 : decode cX4_plus 35 = .ok (.arraylength, 1) := by decide +kernel
set_option maxRecDepth 20000 in
theorem dX4_plus_36 : decode cX4_plus 36 = .ok (.anewarray 30, 3) := by decide +kernel
set_option maxRecDepth 20000 in
theorem dX4_plus_39 : decode cX4_plus 39 = .ok (.astore 5, 2) := by decide +kernel
set_option maxRecDepth 20000 in
theorem dX4_plus_41 : decode cX4_plus 41 = .ok (.iconst 0, 1) := by decide +kernel
set_option maxRecDepth 20000 in
theorem dX4_plus_42 : decode cX4_plus 42 = .ok (.istore 6, 2) := by decide +kernel
set_option maxRecDepth 20000 in
theorem dX4_plus_44 : decode cX4_plus 44 = .ok (.iload 6, 2) := by decide +kernel
set_option maxRecDepth 20000 in
theorem dX4_plus_46 : decode cX4_plus 46 = .ok (.aload_n 0, 1) := by decide +kernel
set_option maxRecDepth 20000 in
theorem dX4_plus_47 : decode cX4_plus 47 = .ok (.getfield 16, 3) := by decide +kernel
set_option maxRecDepth 20000 in
theorem dX4_plus_50 : decode cX4_plus 50 = .ok (.arraylength, 1) := by decide +kernel
set_option maxRecDepth 20000 in
theorem dX4_plus_51 : decode cX4_plus 51 = .ok (.if_icmp .ge 40, 3) := by decide +kernel
set_option maxRecDepth 20000 in
theorem dX4_plus_54 : decode cX4_plus 54 = .ok (.aload 5, 2) := by decide +kernel
set_option maxRecDepth 20000 in
theorem dX4_plus_56 : decode cX4_plus 56 = .ok (.iload 6, 2) := by decide +kernel
set_option maxRecDepth 20000 in
theorem dX4_plus_58 : decode cX4_plus 58 = .ok (.aload_n 0, 1) := by decide +kernel
set_option maxRecDepth 20000 in
theorem dX4_plus_59 : decode cX4_plus 59 = .ok (.getfield 16, 3) := by decide +kernel
set_option maxRecDepth 20000 in
theorem dX4_plus_62 : decode cX4_plus 62 = .ok (.iload 6, 2) := by decide +kernel
set_option maxRecDepth 20000 in
theorem dX4_plus_64 : decode cX4_plus 64 = .ok (.aaload, 1) := by decide +kernel
set_option maxRecDepth 20000 in
theorem dX4_plus_65 : decode cX4_plus 65 = .ok (.aload_n 3, 1) := by decide +kernel
set_option maxRecDepth 20000 in
theorem dX4_plus_66 : decode cX4_plus 66 = .ok (.invokevirtual 50, 3) := by decide +kernel
set_option maxRecDepth 20000 in
theorem dX4_plus_69 : decode cX4_plus 69 = .ok (.aload_n 1, 1) := by decide +kernel
set_option maxRecDepth 20000 in
theorem dX4_plus_70 : decode cX4_plus 70 = .ok (.getfield 16, 3) := by decide +kernel
set_option maxRecDepth 20000 in
theorem dX4_plus_73 : decode cX4_plus 73 = .ok (.iload 6, 2) := by decide +kernel
set_option maxRecDepth 20000 in
theorem dX4_plus_75 : decode cX4_plus 75 = .ok (.aaload, 1) := by decide +kernel
set_option maxRecDepth 20000 in
theorem dX4_plus_76 : decode cX4_plus 76 = .ok (.aload 4, 2) := by decide +kernel
set_option maxRecDepth 20000 in
theorem dX4_plus_78 : decode cX4_plus 78 = .ok (.invokevirtual 50, 3) := by decide +kernel
set_option maxRecDepth 20000 in
theorem dX4_plus_81 : decode cX4_plus 81 = .ok (.invokevirtual 54, 3) := by decide +kernel
set_option maxRecDepth 20000 in
theorem dX4_plus_84 : decode cX4_plus 84 = .ok (.aastore, 1) := by decide +kernel
set_option maxRecDepth 20000 in
theorem dX4_plus_85 : decode cX4_plus 85 = .ok (.iinc 6 1, 3) := by decide +kernel
set_option maxRecDepth 20000 in
theorem dX4_plus_88 : decode cX4_plus 88 = .ok (.goto (-44), 3) := by decide +kernel
set_option maxRecDepth 20000 in
theorem dX4_plus_91 : decode cX4_plus 91 = .ok (.new 8, 3) := by decide +kernel
set_option maxRecDepth 20000 in
theorem dX4_plus_94 : decode cX4_plus 94 = .ok (.dup, 1) := by decide +kernel
set_option maxRecDepth 20000 in
theorem dX4_plus_95 : decode cX4_plus 95 = .ok (.aload_n 0, 1) := by decide +kernel
set_option maxRecDepth 20000 in
theorem dX4_plus_96 : decode cX4_plus 96 = .ok (.getfield 7, 3) := by decide +kernel
set_option maxRecDepth 20000 in
theorem dX4_plus_99 : decode cX4_plus 99 = .ok (.aload_n 0, 1) := by decide +kernel
set_option maxRecDepth 20000 in
theorem dX4_plus_100 : decode cX4_plus 100 = .ok (.getfield 13, 3) := by decide +kernel
set_option maxRecDepth 20000 in
theorem dX4_plus_103 : decode cX4_plus 103 = .ok (.aload 5, 2) := by decide +kernel
set_option maxRecDepth 20000 in
theorem dX4_plus_105 : decode cX4_plus 105 = .ok (.aload_n 0, 1) := by decide +kernel
set_option maxRecDepth 20000 in
theorem dX4_plus_106 : decode cX4_plus 106 = .ok (.getfield 20, 3) := by decide +kernel
set_option maxRecDepth 20000 in
theorem dX4_plus_109 : decode cX4_plus 109 = .ok (.aload_n 3, 1) := by decide +kernel
set_option maxRecDepth 20000 in
theorem dX4_plus_110 : decode cX4_plus 110 = .ok (.invokevirtual 50, 3) := by decide +kernel
set_option maxRecDepth 20000 in
theorem dX4_plus_113 : decode cX4_plus 113 = .ok (.invokespecial 36, 3) := by decide +kernel
set_option maxRecDepth 20000 in
theorem dX4_plus_116 : decode cX4_plus 116 = .ok (.areturn, 1) := by decide +kernel
set_option maxRecDepth 20000 in
theorem dX4_minus_0 : decode cX4_minus 0 = .ok (.aload_n 1, 1) := by decide +kernel
set_option maxRecDepth 20000 in
theorem dX4_minus_1 : decode cX4_minus 1 = .ok (.getfield 16, 3) := by decide +kernel
set_option maxRecDepth 20000 in
theorem dX4_minus_4 : decode cX4_minus 4 = .ok (.arraylength, 1) := by decide +kernel
set_option maxRecDepth 20000 in
theorem dX4_minus_5 : decode cX4_minus 5 = .ok (.anewarray 30, 3) := by decide +kernel
set_option maxRecDepth 20000 in
theorem dX4_minus_8 : decode cX4_minus 8 = .ok (.astore_n 2, 1) := by decide +kernel
set_option maxRecDepth 20000 in
theorem dX4_minus_9 : decode cX4_minus 9 = .ok (.iconst 0, 1) := by decide +kernel
set_option maxRecDepth 20000 in
theorem dX4_minus_10 : decode cX4_minus 10 = .ok (.istore_n 3, 1) := by decide +kernel
set_option maxRecDepth 20000 in
theorem dX4_minus_11 : decode cX4_minus 11 = .ok (.iload_n 3, 1) := by decide +kernel
set_option maxRecDepth 20000 in
theorem dX4_minus_12 : decode cX4_minus 12 = .ok (.aload_n 2, 1) := by decide +kernel
set_option maxRecDepth 20000 in
theorem dX4_minus_13 : decode cX4_minus 13 = .ok (.arraylength, 1) := by decide +kernel
set_option maxRecDepth 20000 in
theorem dX4_minus_14 : decode cX4_minus 14 = .ok (.if_icmp .ge 21, 3) := by decide +kernel
set_option maxRecDepth 20000 in
theorem dX4_minus_17 : decode cX4_minus 17 = .ok (.aload_n 2, 1) := by decide +kernel
set_option maxRecDepth 20000 in
theorem dX4_minus_18 : decode cX4_minus 18 = .ok (.iload_n 3, 1) := by decide +kernel
set_option maxRecDepth 20000 in
theorem dX4_minus_19 : decode cX4_minus 19 = .ok (.aload_n 1, 1) := by decide +kernel
set_option maxRecDepth 20000 in
theorem dX4_minus_20 : decode cX4_minus 20 = .ok (.getfield 16, 3) := by decide +kernel
set_option maxRecDepth 20000 in
theorem dX4_minus_23 : decode cX4_minus 23 = .ok (.iload_n 3, 1) := by decide +kernel
set_option maxRecDepth 20000 in
theorem dX4_minus_24 : decode cX4_minus 24 = .ok (.aaload, 1) := by decide +kernel
set_option maxRecDepth 20000 in
theorem dX4_minus_25 : decode cX4_minus 25 = .ok (.invokevirtual 64, 3) := by decide +kernel
set_option maxRecDepth 20000 in
theorem dX4_minus_28 : decode cX4_minus 28 = .ok (.aastore, 1) := by decide +kernel
set_option maxRecDepth 20000 in
theorem dX4_minus_29 : decode cX4_minus 29 = .ok (.iinc 3 1, 3) := by decide +kernel
set_option maxRecDepth 20000 in
theorem dX4_minus_32 : decode cX4_minus 32 = .ok (.goto (-21), 3) := by decide +kernel
set_option maxRecDepth 20000 in
theorem dX4_minus_35 : decode cX4_minus 35 = .ok (.aload_n 0, 1) := by decide +kernel
set_option maxRecDepth 20000 in
theorem dX4_minus_36 : decode cX4_minus 36 = .ok (.new 8, 3) := by decide +kernel
set_option maxRecDepth 20000 in
theorem dX4_minus_39 : decode cX4_minus 39 = .ok (.dup, 1) := by decide +kernel
set_option maxRecDepth 20000 in
theorem dX4_minus_40 : decode cX4_minus 40 = .ok (.aload_n 0, 1) := by decide +kernel
set_option maxRecDepth 20000 in
theorem dX4_minus_41 : decode cX4_minus 41 = .ok (.getfield 7, 3) := by decide +kernel
set_option maxRecDepth 20000 in
theorem dX4_minus_44 : decode cX4_minus 44 = .ok (.aload_n 0, 1) := by decide +kernel
set_option maxRecDepth 20000 in
theorem dX4_minus_45 : decode cX4_minus 45 = .ok (.getfield 13, 3) := by decide +kernel
set_option maxRecDepth 20000 in
theorem dX4_minus_48 : decode cX4_minus 48 = .ok (.aload_n 2, 1) := by decide +kernel
set_option maxRecDepth 20000 in
theorem dX4_minus_49 : decode cX4_minus 49 = .ok (.aload_n 1, 1) := by decide +kernel
set_option maxRecDepth 20000 in
theorem dX4_minus_50 : decode cX4_minus 50 = .ok (.getfield 20, 3) := by decide +kernel
set_option maxRecDepth 20000 in
theorem dX4_minus_53 : decode cX4_minus 53 = .ok (.invokespecial 36, 3) := by decide +kernel
set_option maxRecDepth 20000 in
theorem dX4_minus_56 : decode cX4_minus 56 = .ok (.invokevirtual 68, 3) := by decide +kernel
set_option maxRecDepth 20000 in
theorem dX4_minus_59 : decode cX4_minus 59 = .ok (.areturn, 1) := by decide +kernel
set_option maxRecDepth 20000 in
theorem dX4_over_0 : decode cX4_over 0 = .ok (.aload_n 0, 1) := by decide +kernel
set_option maxRecDepth 20000 in
theorem dX4_over_1 : decode cX4_over 1 = .ok (.getfield 20, 3) := by decide +kernel
set_option maxRecDepth 20000 in
theorem dX4_over_4 : decode cX4_over 4 = .ok (.aload_n 1, 1) := by decide +kernel
set_option maxRecDepth 20000 in
theorem dX4_over_5 : decode cX4_over 5 = .ok (.getfield 20, 3) := by decide +kernel
set_option maxRecDepth 20000 in
theorem dX4_over_8 : decode cX4_over 8 = .ok (.invokestatic 57, 3) := by decide +kernel
set_option maxRecDepth 20000 in
theorem dX4_over_11 : decode cX4_over 11 = .ok (.astore_n 2, 1) := by decide +kernel
set_option maxRecDepth 20000 in
theorem dX4_over_12 : decode cX4_over 12 = .ok (.aload_n 1, 1) := by decide +kernel
set_option maxRecDepth 20000 in
theorem dX4_over_13 : decode cX4_over 13 = .ok (.getfield 20, 3) := by decide +kernel
set_option maxRecDepth 20000 in
theorem dX4_over_16 : decode cX4_over 16 = .ok (.aload_n 2, 1) := by decide +kernel
set_option maxRecDepth 20000 in
theorem dX4_over_17 : decode cX4_over 17 = .ok (.invokevirtual 61, 3) := by decide +kernel
set_option maxRecDepth 20000 in
theorem dX4_over_20 : decode cX4_over 20 = .ok (.astore_n 3, 1) := by decide +kernel
set_option maxRecDepth 20000 in
theorem dX4_over_21 : decode cX4_over 21 = .ok (.aload_n 0, 1) := by decide +kernel
set_option maxRecDepth 20000 in
theorem dX4_over_22 : decode cX4_over 22 = .ok (.getfield 16, 3) := by decide +kernel
set_option maxRecDepth 20000 in
theorem dX4_over_25 : decode cX4_over 25 = .ok (.arraylength, 1) := by decide +kernel
set_option maxRecDepth 20000 in
theorem dX4_over_26 : decode cX4_over 26 = .ok (.anewarray 30, 3) := by decide +kernel
set_option maxRecDepth 20000 in
theorem dX4_over_29 : decode cX4_over 29 = .ok (.astore 4, 2) := by decide +kernel
set_option maxRecDepth 20000 in
theorem dX4_over_31 : decode cX4_over 31 = .ok (.iconst 0, 1) := by decide +kernel
set_option maxRecDepth 20000 in
theorem dX4_over_32 : decode cX4_over 32 = .ok (.istore 5, 2) := by decide +kernel
set_option maxRecDepth 20000 in
theorem dX4_over_34 : decode cX4_over 34 = .ok (.iload 5, 2) := by decide +kernel
set_option maxRecDepth 20000 in
theorem dX4_over_36 : decode cX4_over 36 = .ok (.aload_n 0, 1) := by decide +kernel
set_option maxRecDepth 20000 in
theorem dX4_over_37 : decode cX4_over 37 = .ok (.getfield 16, 3) := by decide +kernel
set_option maxRecDepth 20000 in
theorem dX4_over_40 : decode cX4_over 40 = .ok (.arraylength, 1) := by decide +kernel
set_option maxRecDepth 20000 in
theorem dX4_over_41 : decode cX4_over 41 = .ok (.if_icmp .ge 25, 3) := by decide +kernel
set_option maxRecDepth 20000 in
theorem dX4_over_44 : decode cX4_over 44 = .ok (.aload 4, 2) := by decide +kernel
set_option maxRecDepth 20000 in
theorem dX4_over_46 : decode cX4_over 46 = .ok (.iload 5, 2) := by decide +kernel
set_option maxRecDepth 20000 in
theorem dX4_over_48 : decode cX4_over 48 = .ok (.aload_n 0, 1) := by decide +kernel
set_option maxRecDepth 20000 in
theorem dX4_over_49 : decode cX4_over 49 = .ok (.getfield 16, 3) := by decide +kernel
set_option maxRecDepth 20000 in
theorem dX4_over_52 : decode cX4_over 52 = .ok (.iload 5, 2) := by decide +kernel
set_option maxRecDepth 20000 in
theorem dX4_over_54 : decode cX4_over 54 = .ok (.aaload, 1) := by decide +kernel
set_option maxRecDepth 20000 in
theorem dX4_over_55 : decode cX4_over 55 = .ok (.aload_n 3, 1) := by decide +kernel
set_option maxRecDepth 20000 in
theorem dX4_over_56 : decode cX4_over 56 = .ok (.invokevirtual 50, 3) := by decide +kernel
set_option maxRecDepth 20000 in
theorem dX4_over_59 : decode cX4_over 59 = .ok (.aastore, 1) := by decide +kernel
set_option maxRecDepth 20000 in
theorem dX4_over_60 : decode cX4_over 60 = .ok (.iinc 5 1, 3) := by decide +kernel
set_option maxRecDepth 20000 in
theorem dX4_over_63 : decode cX4_over 63 = .ok (.goto (-29), 3) := by decide +kernel
set_option maxRecDepth 20000 in
theorem dX4_over_66 : decode cX4_over 66 = .ok (.aload_n 0, 1) := by decide +kernel
set_option maxRecDepth 20000 in
theorem dX4_over_67 : decode cX4_over 67 = .ok (.getfield 20, 3) := by decide +kernel
set_option maxRecDepth 20000 in
theorem dX4_over_70 : decode cX4_over 70 = .ok (.aload_n 2, 1) := by decide +kernel
set_option maxRecDepth 20000 in
theorem dX4_over_71 : decode cX4_over 71 = .ok (.invokevirtual 61, 3) := by decide +kernel
set_option maxRecDepth 20000 in
theorem dX4_over_74 : decode cX4_over 74 = .ok (.aload_n 1, 1) := by decide +kernel
set_option maxRecDepth 20000 in
theorem dX4_over_75 : decode cX4_over 75 = .ok (.getfield 16, 3) := by decide +kernel
set_option maxRecDepth 20000 in
theorem dX4_over_78 : decode cX4_over 78 = .ok (.iconst 0, 1) := by decide +kernel
set_option maxRecDepth 20000 in
theorem dX4_over_79 : decode cX4_over 79 = .ok (.aaload, 1) := by decide +kernel
set_option maxRecDepth 20000 in
theorem dX4_over_80 : decode cX4_over 80 = .ok (.invokevirtual 50, 3) := by decide +kernel
set_option maxRecDepth 20000 in
theorem dX4_over_83 : decode cX4_over 83 = .ok (.astore 5, 2) := by decide +kernel
set_option maxRecDepth 20000 in
theorem dX4_over_85 : decode cX4_over 85 = .ok (.new 8, 3) := by decide +kernel
set_option maxRecDepth 20000 in
theorem dX4_over_88 : decode cX4_over 88 = .ok (.dup, 1) := by decide +kernel
set_option maxRecDepth 20000 in
theorem dX4_over_89 : decode cX4_over 89 = .ok (.aload_n 0, 1) := by decide +kernel
set_option maxRecDepth 20000 in
theorem dX4_over_90 : decode cX4_over 90 = .ok (.getfield 7, 3) := by decide +kernel
set_option maxRecDepth 20000 in
theorem dX4_over_93 : decode cX4_over 93 = .ok (.aload_n 0, 1) := by decide +kernel
set_option maxRecDepth 20000 in
theorem dX4_over_94 : decode cX4_over 94 = .ok (.getfield 13, 3) := by decide +kernel
set_option maxRecDepth 20000 in
theorem dX4_over_97 : decode cX4_over 97 = .ok (.aload 4, 2) := by decide +kernel
set_option maxRecDepth 20000 in
theorem dX4_over_99 : decode cX4_over 99 = .ok (.aload 5, 2) := by decide +kernel
set_option maxRecDepth 20000 in
theorem dX4_over_101 : decode cX4_over 101 = .ok (.invokespecial 36, 3) := by decide +kernel
set_option maxRecDepth 20000 in
theorem dX4_over_104 : decode cX4_over 104 = .ok (.areturn, 1) := by decide +kernel
set_option maxRecDepth 20000 in
theorem dX4_shortened_0 : decode cX4_shortened 0 = .ok (.aload_n 0, 1) := by decide +kernel
set_option maxRecDepth 20000 in
theorem dX4_shortened_1 : decode cX4_shortened 1 = .ok (.getfield 20, 3) := by decide +kernel
set_option maxRecDepth 20000 in
theorem dX4_shortened_4 : decode cX4_shortened 4 = .ok (.astore_n 1, 1) := by decide +kernel
set_option maxRecDepth 20000 in
theorem dX4_shortened_5 : decode cX4_shortened 5 = .ok (.iconst 0, 1) := by decide +kernel
set_option maxRecDepth 20000 in
theorem dX4_shortened_6 : decode cX4_shortened 6 = .ok (.istore_n 2, 1) := by decide +kernel
set_option maxRecDepth 20000 in
theorem dX4_shortened_7 : decode cX4_shortened 7 = .ok (.iload_n 2, 1) := by decide +kernel
set_option maxRecDepth 20000 in
theorem dX4_shortened_8 : decode cX4_shortened 8 = .ok (.aload_n 0, 1) := by decide +kernel
set_option maxRecDepth 20000 in
theorem dX4_shortened_9 : decode cX4_shortened 9 = .ok (.getfield 16, 3) := by decide +kernel
set_option maxRecDepth 20000 in
theorem dX4_shortened_12 : decode cX4_shortened 12 = .ok (.arraylength, 1) := by decide +kernel
set_option maxRecDepth 20000 in
theorem dX4_shortened_13 : decode cX4_shortened 13 = .ok (.if_icmp .ge 20, 3) := by decide +kernel
set_option maxRecDepth 20000 in
theorem dX4_shortened_16 : decode cX4_shortened 16 = .ok (.aload_n 1, 1) := by decide +kernel
set_option maxRecDepth 20000 in
theorem dX4_shortened_17 : decode cX4_shortened 17 = .ok (.aload_n 0, 1) := by decide +kernel
set_option maxRecDepth 20000 in
theorem dX4_shortened_18 : decode cX4_shortened 18 = .ok (.getfield 16, 3) := by decide +kernel
set_option maxRecDepth 20000 in
theorem dX4_shortened_21 : decode cX4_shortened 21 = .ok (.iload_n 2, 1) := by decide +kernel
set_option maxRecDepth 20000 in
theorem dX4_shortened_22 : decode cX4_shortened 22 = .ok (.aaload, 1) := by decide +kernel
set_option maxRecDepth 20000 in
theorem dX4_shortened_23 : decode cX4_shortened 23 = .ok (.invokestatic 57, 3) := by decide +kernel
set_option maxRecDepth 20000 in
theorem dX4_shortened_26 : decode cX4_shortened 26 = .ok (.astore_n 1, 1) := by decide +kernel
set_option maxRecDepth 20000 in
theorem dX4_shortened_27 : decode cX4_shortened 27 = .ok (.iinc 2 1, 3) := by decide +kernel
set_option maxRecDepth 20000 in
theorem dX4_shortened_30 : decode cX4_shortened 30 = .ok (.goto (-23), 3) := by decide +kernel
set_option maxRecDepth 20000 in
theorem dX4_shortened_33 : decode cX4_shortened 33 = .ok (.aload_n 0, 1) := by decide +kernel
set_option maxRecDepth 20000 in
theorem dX4_shortened_34 : decode cX4_shortened 34 = .ok (.getfield 16, 3) := by decide +kernel
set_option maxRecDepth 20000 in
theorem dX4_shortened_37 : decode cX4_shortened 37 = .ok (.arraylength, 1) := by decide +kernel
set_option maxRecDepth 20000 in
theorem dX4_shortened_38 : decode cX4_shortened 38 = .ok (.anewarray 30, 3) := by decide +kernel
set_option maxRecDepth 20000 in
theorem dX4_shortened_41 : decode cX4_shortened 41 = .ok (.astore_n 2, 1) := by decide +kernel
set_option maxRecDepth 20000 in
theorem dX4_shortened_42 : decode cX4_shortened 42 = .ok (.iconst 0, 1) := by decide +kernel
set_option maxRecDepth 20000 in
theorem dX4_shortened_43 : decode cX4_shortened 43 = .ok (.istore_n 3, 1) := by decide +kernel
set_option maxRecDepth 20000 in
theorem dX4_shortened_44 : decode cX4_shortened 44 = .ok (.iload_n 3, 1) := by decide +kernel
set_option maxRecDepth 20000 in
theorem dX4_shortened_45 : decode cX4_shortened 45 = .ok (.aload_n 0, 1) := by decide +kernel
set_option maxRecDepth 20000 in
theorem dX4_shortened_46 : decode cX4_shortened 46 = .ok (.getfield 16, 3) := by decide +kernel
set_option maxRecDepth 20000 in
theorem dX4_shortened_49 : decode cX4_shortened 49 = .ok (.arraylength, 1) := by decide +kernel
set_option maxRecDepth 20000 in
theorem dX4_shortened_50 : decode cX4_shortened 50 = .ok (.if_icmp .ge 22, 3) := by decide +kernel
set_option maxRecDepth 20000 in
theorem dX4_shortened_53 : decode cX4_shortened 53 = .ok (.aload_n 2, 1) := by decide +kernel
set_option maxRecDepth 20000 in
theorem dX4_shortened_54 : decode cX4_shortened 54 = .ok (.iload_n 3, 1) := by decide +kernel
set_option maxRecDepth 20000 in
theorem dX4_shortened_55 : decode cX4_shortened 55 = .ok (.aload_n 0, 1) := by decide +kernel
set_option maxRecDepth 20000 in
theorem dX4_shortened_56 : decode cX4_shortened 56 = .ok (.getfield 16, 3) := by decide +kernel
set_option maxRecDepth 20000 in
theorem dX4_shortened_59 : decode cX4_shortened 59 = .ok (.iload_n 3, 1) := by decide +kernel
set_option maxRecDepth 20000 in
theorem dX4_shortened_60 : decode cX4_shortened 60 = .ok (.aaload, 1) := by decide +kernel
set_option maxRecDepth 20000 in
theorem dX4_shortened_61 : decode cX4_shortened 61 = .ok (.aload_n 1, 1) := by decide +kernel
set_option maxRecDepth 20000 in
theorem dX4_shortened_62 : decode cX4_shortened 62 = .ok (.invokevirtual 61, 3) := by decide +kernel
set_option maxRecDepth 20000 in
theorem dX4_shortened_65 : decode cX4_shortened 65 = .ok (.aastore, 1) := by decide +kernel
set_option maxRecDepth 20000 in
theorem dX4_shortened_66 : decode cX4_shortened 66 = .ok (.iinc 3 1, 3) := by decide +kernel
set_option maxRecDepth 20000 in
theorem dX4_shortened_69 : decode cX4_shortened 69 = .ok (.goto (-25), 3) := by decide +kernel
set_option maxRecDepth 20000 in
theorem dX4_shortened_72 : decode cX4_shortened 72 = .ok (.new 8, 3) := by decide +kernel
set_option maxRecDepth 20000 in
theorem dX4_shortened_75 : decode cX4_shortened 75 = .ok (.dup, 1) := by decide +kernel
set_option maxRecDepth 20000 in
theorem dX4_shortened_76 : decode cX4_shortened 76 = .ok (.aload_n 0, 1) := by decide +kernel
set_option maxRecDepth 20000 in
theorem dX4_shortened_77 : decode cX4_shortened 77 = .ok (.getfield 7, 3) := by decide +kernel
set_option maxRecDepth 20000 in
theorem dX4_shortened_80 : decode cX4_shortened 80 = .ok (.aload_n 0, 1) := by decide +kernel
set_option maxRecDepth 20000 in
theorem dX4_shortened_81 : decode cX4_shortened 81 = .ok (.getfield 13, 3) := by decide +kernel
set_option maxRecDepth 20000 in
theorem dX4_shortened_84 : decode cX4_shortened 84 = .ok (.aload_n 2, 1) := by decide +kernel
set_option maxRecDepth 20000 in
theorem dX4_shortened_85 : decode cX4_shortened 85 = .ok (.aload_n 0, 1) := by decide +kernel
set_option maxRecDepth 20000 in
theorem dX4_shortened_86 : decode cX4_shortened 86 = .ok (.getfield 20, 3) := by decide +kernel
set_option maxRecDepth 20000 in
theorem dX4_shortened_89 : decode cX4_shortened 89 = .ok (.aload_n 1, 1) := by decide +kernel
set_option maxRecDepth 20000 in
theorem dX4_shortened_90 : decode cX4_shortened 90 = .ok (.invokevirtual 61, 3) := by decide +kernel
set_option maxRecDepth 20000 in
theorem dX4_shortened_93 : decode cX4_shortened 93 = .ok (.invokespecial 36, 3) := by decide +kernel
set_option maxRecDepth 20000 in
theorem dX4_shortened_96 : decode cX4_shortened 96 = .ok (.areturn, 1) := by decide +kernel
set_option maxRecDepth 20000 in
theorem dX2_init_0 : decode cX2_init 0 = .ok (.aload_n 0, 1) := by decide +kernel
set_option maxRecDepth 20000 in
theorem dX2_init_1 : decode cX2_init 1 = .ok (.invokespecial 1, 3) := by decide +kernel
set_option maxRecDepth 20000 in
theorem dX2_init_4 : decode cX2_init 4 = .ok (.aload_n 0, 1) := by decide +kernel
set_option maxRecDepth 20000 in
theorem dX2_init_5 : decode cX2_init 5 = .ok (.iload_n 1, 1) := by decide +kernel
set_option maxRecDepth 20000 in
theorem dX2_init_6 : decode cX2_init 6 = .ok (.putfield 7, 3) := by decide +kernel
set_option maxRecDepth 20000 in
theorem dX2_init_9 : decode cX2_init 9 = .ok (.aload_n 0, 1) := by decide +kernel
set_option maxRecDepth 20000 in
theorem dX2_init_10 : decode cX2_init 10 = .ok (.iload_n 2, 1) := by decide +kernel
set_option maxRecDepth 20000 in
theorem dX2_init_11 : decode cX2_init 11 = .ok (.putfield 13, 3) := by decide +kernel
set_option maxRecDepth 20000 in
theorem dX2_init_14 : decode cX2_init 14 = .ok (.aload_n 0, 1) := by decide +kernel
set_option maxRecDepth 20000 in
theorem dX2_init_15 : decode cX2_init 15 = .ok (.iload_n 1, 1) := by decide +kernel
set_option maxRecDepth 20000 in
theorem dX2_init_16 : decode cX2_init 16 = .ok (.iload_n 2, 1) := by decide +kernel
set_option maxRecDepth 20000 in
theorem dX2_init_17 : decode cX2_init 17 = .ok (.imul, 1) := by decide +kernel
set_option maxRecDepth 20000 in
theorem dX2_init_18 : decode cX2_init 18 = .ok (.newarray .int, 2) := by decide +kernel
set_option maxRecDepth 20000 in
theorem dX2_init_20 : decode cX2_init 20 = .ok (.putfield 16, 3) := by decide +kernel
set_option maxRecDepth 20000 in
theorem dX2_init_23 : decode cX2_init 23 = .ok (.aload_n 0, 1) := by decide +kernel
set_option maxRecDepth 20000 in
theorem dX2_init_24 : decode cX2_init 24 = .ok (.iload_n 1, 1) := by decide +kernel
set_option maxRecDepth 20000 in
theorem dX2_init_25 : decode cX2_init 25 = .ok (.iload_n 2, 1) := by decide +kernel
set_option maxRecDepth 20000 in
theorem dX2_init_26 : decode cX2_init 26 = .ok (.imul, 1) := by decide +kernel
set_option maxRecDepth 20000 in
theorem dX2_init_27 : decode cX2_init 27 = .ok (.newarray .int, 2) := by decide +kernel
set_option maxRecDepth 20000 in
theorem dX2_init_29 : decode cX2_init 29 = .ok (.putfield 20, 3) := by decide +kernel
set_option maxRecDepth 20000 in
theorem dX2_init_32 : decode cX2_init 32 = .ok (.aload_n 0, 1) := by decide +kernel
set_option maxRecDepth 20000 in
theorem dX2_init_33 : decode cX2_init 33 = .ok (.getfield 20, 3) := by decide +kernel
set_option maxRecDepth 20000 in
theorem dX2_init_36 : decode cX2_init 36 = .ok (.iconst 1, 1) := by decide +kernel
set_option maxRecDepth 20000 in
theorem dX2_init_37 : decode cX2_init 37 = .ok (.invokestatic 23, 3) := by decide +kernel
set_option maxRecDepth 20000 in
theorem dX2_init_40 : decode cX2_init 40 = .ok (.return_, 1) := by decide +kernel
set_option maxRecDepth 20000 in
theorem dX2_has_0 : decode cX2_has 0 = .ok (.iload_n 1, 1) := by decide +kernel
set_option maxRecDepth 20000 in
theorem dX2_has_1 : decode cX2_has 1 = .ok (.ifCond .lt 27, 3) := by decide +kernel
set_option maxRecDepth 20000 in
theorem dX2_has_4 : decode cX2_has 4 = .ok (.iload_n 1, 1) := by decide +kernel
set_option maxRecDepth 20000 in
theorem dX2_has_5 : decode cX2_has 5 = .ok (.aload_n 0, 1) := by decide +kernel
set_option maxRecDepth 20000 in
theorem dX2_has_6 : decode cX2_has 6 = .ok (.getfield 7, 3) := by decide +kernel
set_option maxRecDepth 20000 in
theorem dX2_has_9 : decode cX2_has 9 = .ok (.if_icmp .ge 19, 3) := by decide +kernel
set_option maxRecDepth 20000 in
theorem dX2_has_12 : decode cX2_has 12 = .ok (.iload_n 2, 1) := by decide +kernel
set_option maxRecDepth 20000 in
theorem dX2_has_13 : decode cX2_has 13 = .ok (.ifCond .lt 15, 3) := by decide +kernel
set_option maxRecDepth 20000 in
theorem dX2_has_16 : decode cX2_has 16 = .ok (.iload_n 2, 1) := by decide +kernel
set_option maxRecDepth 20000 in
theorem dX2_has_17 : decode cX2_has 17 = .ok (.aload_n 0, 1) := by decide +kernel
set_option maxRecDepth 20000 in
theorem dX2_has_18 : decode cX2_has 18 = .ok (.getfield 13, 3) := by decide +kernel
set_option maxRecDepth 20000 in
theorem dX2_has_21 : decode cX2_has 21 = .ok (.if_icmp .ge 7, 3) := by decide +kernel
set_option maxRecDepth 20000 in
theorem dX2_has_24 : decode cX2_has 24 = .ok (.iconst 1, 1) := by decide +kernel
set_option maxRecDepth 20000 in
theorem dX2_has_25 : decode cX2_has 25 = .ok (.goto 4, 3) := by decide +kernel
set_option maxRecDepth 20000 in
theorem dX2_has_28 : decode cX2_has 28 = .ok (.iconst 0, 1) := by decide +kernel
set_option maxRecDepth 20000 in
theorem dX2_has_29 : decode cX2_has 29 = .ok (.ireturn, 1) := by decide +kernel
set_option maxRecDepth 20000 in
theorem dX2_put_0 : decode cX2_put 0 = .ok (.aload_n 0, 1) := by decide +kernel
set_option maxRecDepth 20000 in
theorem dX2_put_1 : decode cX2_put 1 = .ok (.getfield 16, 3) := by decide +kernel
set_option maxRecDepth 20000 in
theorem dX2_put_4 : decode cX2_put 4 = .ok (.iload_n 1, 1) := by decide +kernel
set_option maxRecDepth 20000 in
theorem dX2_put_5 : decode cX2_put 5 = .ok (.aload_n 0, 1) := by decide +kernel
set_option maxRecDepth 20000 in
theorem dX2_put_6 : decode cX2_put 6 = .ok (.getfield 13, 3) := by decide +kernel
set_option maxRecDepth 20000 in
theorem dX2_put_9 : decode cX2_put 9 = .ok (.imul, 1) := by decide +kernel
set_option maxRecDepth 20000 in
theorem dX2_put_10 : decode cX2_put 10 = .ok (.iload_n 2, 1) := by decide +kernel
set_option maxRecDepth 20000 in
theorem dX2_put_11 : decode cX2_put 11 = .ok (.iadd, 1) := by decide +kernel
set_option maxRecDepth 20000 in
theorem dX2_put_12 : decode cX2_put 12 = .ok (.iload_n 3, 1) := by decide +kernel
set_option maxRecDepth 20000 in
theorem dX2_put_13 : decode cX2_put 13 = .ok (.iastore, 1) := by decide +kernel
set_option maxRecDepth 20000 in
theorem dX2_put_14 : decode cX2_put 14 = .ok (.aload_n 0, 1) := by decide +kernel
set_option maxRecDepth 20000 in
theorem dX2_put_15 : decode cX2_put 15 = .ok (.getfield 20, 3) := by decide +kernel
set_option maxRecDepth 20000 in
theorem dX2_put_18 : decode cX2_put 18 = .ok (.iload_n 1, 1) := by decide +kernel
set_option maxRecDepth 20000 in
theorem dX2_put_19 : decode cX2_put 19 = .ok (.aload_n 0, 1) := by decide +kernel
set_option maxRecDepth 20000 in
theorem dX2_put_20 : decode cX2_put 20 = .ok (.getfield 13, 3) := by decide +kernel
set_option maxRecDepth 20000 in
theorem dX2_put_23 : decode cX2_put 23 = .ok (.imul, 1) := by decide +kernel
set_option maxRecDepth 20000 in
theorem dX2_put_24 : decode cX2_put 24 = .ok (.iload_n 2, 1) := by decide +kernel
set_option maxRecDepth 20000 in
theorem dX2_put_25 : decode cX2_put 25 = .ok (.iadd, 1) := by decide +kernel
set_option maxRecDepth 20000 in
theorem dX2_put_26 : decode cX2_put 26 = .ok (.iload 4, 2) := by decide +kernel
set_option maxRecDepth 20000 in
theorem dX2_put_28 : decode cX2_put 28 = .ok (.iastore, 1) := by decide +kernel
set_option maxRecDepth 20000 in
theorem dX2_put_29 : decode cX2_put 29 = .ok (.return_, 1) := by decide +kernel
set_option maxRecDepth 20000 in
theorem dX2_isFit_0 : decode cX2_isFit 0 = .ok (.aload_n 0, 1) := by decide +kernel
set_option maxRecDepth 20000 in
theorem dX2_isFit_1 : decode cX2_isFit 1 = .ok (.getfield 16, 3) := by decide +kernel
set_option maxRecDepth 20000 in
theorem dX2_isFit_4 : decode cX2_isFit 4 = .ok (.arraylength, 1) := by decide +kernel
set_option maxRecDepth 20000 in
theorem dX2_isFit_5 : decode cX2_isFit 5 = .ok (.iconst 1, 1) := by decide +kernel
set_option maxRecDepth 20000 in
theorem dX2_isFit_6 : decode cX2_isFit 6 = .ok (.isub, 1) := by decide +kernel
set_option maxRecDepth 20000 in
theorem dX2_isFit_7 : decode cX2_isFit 7 = .ok (.istore_n 1, 1) := by decide +kernel
set_option maxRecDepth 20000 in
theorem dX2_isFit_8 : decode cX2_isFit 8 = .ok (.aload_n 0, 1) := by decide +kernel
set_option maxRecDepth 20000 in
theorem dX2_isFit_9 : decode cX2_isFit 9 = .ok (.getfield 16, 3) := by decide +kernel
set_option maxRecDepth 20000 in
theorem dX2_isFit_12 : decode cX2_isFit 12 = .ok (.iconst 0, 1) := by decide +kernel
set_option maxRecDepth 20000 in
theorem dX2_isFit_13 : decode cX2_isFit 13 = .ok (.iaload, 1) := by decide +kernel
set_option maxRecDepth 20000 in
theorem dX2_isFit_14 : decode cX2_isFit 14 = .ok (.ifCond .lt 12, 3) := by decide +kernel
set_option maxRecDepth 20000 in
theorem dX2_isFit_17 : decode cX2_isFit 17 = .ok (.aload_n 0, 1) := by decide +kernel
set_option maxRecDepth 20000 in
theorem dX2_isFit_18 : decode cX2_isFit 18 = .ok (.getfield 16, 3) := by decide +kernel
set_option maxRecDepth 20000 in
theorem dX2_isFit_21 : decode cX2_isFit 21 = .ok (.iload_n 1, 1) := by decide +kernel
set_option maxRecDepth 20000 in
theorem dX2_isFit_22 : decode cX2_isFit 22 = .ok (.iaload, 1) := by decide +kernel
set_option maxRecDepth 20000 in
theorem dX2_isFit_23 : decode cX2_isFit 23 = .ok (.ifCond .ge 5, 3) := by decide +kernel
set_option maxRecDepth 20000 in
theorem dX2_isFit_26 : decode cX2_isFit 26 = .ok (.iconst 0, 1) := by decide +kernel
set_option maxRecDepth 20000 in
theorem dX2_isFit_27 : decode cX2_isFit 27 = .ok (.ireturn, 1) := by decide +kernel
set_option maxRecDepth 20000 in
theorem dX2_isFit_28 : decode cX2_isFit 28 = .ok (.iload_n 1, 1) := by decide +kernel
set_option maxRecDepth 20000 in
theorem dX2_isFit_29 : decode cX2_isFit 29 = .ok (.ifCond .ne 5, 3) := by decide +kernel
set_option maxRecDepth 20000 in
theorem dX2_isFit_32 : decode cX2_isFit 32 = .ok (.iconst 1, 1) := by decide +kernel
set_option maxRecDepth 20000 in
theorem dX2_isFit_33 : decode cX2_isFit 33 = .ok (.ireturn, 1) := by decide +kernel
set_option maxRecDepth 20000 in
theorem dX2_isFit_34 : decode cX2_isFit 34 = .ok (.aload_n 0, 1) := by decide +kernel
set_option maxRecDepth 20000 in
theorem dX2_isFit_35 : decode cX2_isFit 35 = .ok (.getfield 16, 3) := by decide +kernel
set_option maxRecDepth 20000 in
theorem dX2_isFit_38 : decode cX2_isFit 38 = .ok (.iconst 0, 1) := by decide +kernel
set_option maxRecDepth 20000 in
theorem dX2_isFit_39 : decode cX2_isFit 39 = .ok (.iaload, 1) := by decide +kernel
set_option maxRecDepth 20000 in
theorem dX2_isFit_40 : decode cX2_isFit 40 = .ok (.aload_n 0, 1) := by decide +kernel
set_option maxRecDepth 20000 in
theorem dX2_isFit_41 : decode cX2_isFit 41 = .ok (.getfield 16, 3) := by decide +kernel
set_option maxRecDepth 20000 in
theorem dX2_isFit_44 : decode cX2_isFit 44 = .ok (.iload_n 1, 1) := by decide +kernel
set_option maxRecDepth 20000 in
theorem dX2_isFit_45 : decode cX2_isFit 45 = .ok (.iaload, 1) := by decide +kernel
set_option maxRecDepth 20000 in
theorem dX2_isFit_46 : decode cX2_isFit 46 = .ok (.imul, 1) := by decide +kernel
set_option maxRecDepth 20000 in
theorem dX2_isFit_47 : decode cX2_isFit 47 = .ok (.aload_n 0, 1) := by decide +kernel
set_option maxRecDepth 20000 in
theorem dX2_isFit_48 : decode cX2_isFit 48 = .ok (.getfield 20, 3) := by decide +kernel
set_option maxRecDepth 20000 in
theorem dX2_isFit_51 : decode cX2_isFit 51 = .ok (.iconst 1, 1) := by decide +kernel
set_option maxRecDepth 20000 in
theorem dX2_isFit_52 : decode cX2_isFit 52 = .ok (.iaload, 1) := by decide +kernel
set_option maxRecDepth 20000 in
theorem dX2_isFit_53 : decode cX2_isFit 53 = .ok (.imul, 1) := by decide +kernel
set_option maxRecDepth 20000 in
theorem dX2_isFit_54 : decode cX2_isFit 54 = .ok (.aload_n 0, 1) := by decide +kernel
set_option maxRecDepth 20000 in
theorem dX2_isFit_55 : decode cX2_isFit 55 = .ok (.getfield 20, 3) := by decide +kernel
set_option maxRecDepth 20000 in
theorem dX2_isFit_58 : decode cX2_isFit 58 = .ok (.iconst 1, 1) := by decide +kernel
set_option maxRecDepth 20000 in
theorem dX2_isFit_59 : decode cX2_isFit 59 = .ok (.iaload, 1) := by decide +kernel
set_option maxRecDepth 20000 in
theorem dX2_isFit_60 : decode cX2_isFit 60 = .ok (.imul, 1) := by decide +kernel
set_option maxRecDepth 20000 in
theorem dX2_isFit_61 : decode cX2_isFit 61 = .ok (.istore_n 2, 1) := by decide +kernel
set_option maxRecDepth 20000 in
theorem dX2_isFit_62 : decode cX2_isFit 62 = .ok (.aload_n 0, 1) := by decide +kernel
set_option maxRecDepth 20000 in
theorem dX2_isFit_63 : decode cX2_isFit 63 = .ok (.getfield 16, 3) := by decide +kernel
set_option maxRecDepth 20000 in
theorem dX2_isFit_66 : decode cX2_isFit 66 = .ok (.iconst 1, 1) := by decide +kernel
set_option maxRecDepth 20000 in
theorem dX2_isFit_67 : decode cX2_isFit 67 = .ok (.iaload, 1) := by decide +kernel
set_option maxRecDepth 20000 in
theorem dX2_isFit_68 : decode cX2_isFit 68 = .ok (.aload_n 0, 1) := by decide +kernel
set_option maxRecDepth 20000 in
theorem dX2_isFit_69 : decode cX2_isFit 69 = .ok (.getfield 16, 3) := by decide +kernel
set_option maxRecDepth 20000 in
theorem dX2_isFit_72 : decode cX2_isFit 72 = .ok (.iconst 1, 1) := by decide +kernel
set_option maxRecDepth 20000 in
theorem dX2_isFit_73 : decode cX2_isFit 73 = .ok (.iaload, 1) := by decide +kernel
set_option maxRecDepth 20000 in
theorem dX2_isFit_74 : decode cX2_isFit 74 = .ok (.imul, 1) := by decide +kernel
set_option maxRecDepth 20000 in
theorem dX2_isFit_75 : decode cX2_isFit 75 = .ok (.aload_n 0, 1) := by decide +kernel
set_option maxRecDepth 20000 in
theorem dX2_isFit_76 : decode cX2_isFit 76 = .ok (.getfield 20, 3) := by decide +kernel
set_option maxRecDepth 20000 in
theorem dX2_isFit_79 : decode cX2_isFit 79 = .ok (.iconst 0, 1) := by decide +kernel
set_option maxRecDepth 20000 in
theorem dX2_isFit_80 : decode cX2_isFit 80 = .ok (.iaload, 1) := by decide +kernel
set_option maxRecDepth 20000 in
theorem dX2_isFit_81 : decode cX2_isFit 81 = .ok (.imul, 1) := by decide +kernel
set_option maxRecDepth 20000 in
theorem dX2_isFit_82 : decode cX2_isFit 82 = .ok (.aload_n 0, 1) := by decide +kernel
set_option maxRecDepth 20000 in
theorem dX2_isFit_83 : decode cX2_isFit 83 = .ok (.getfield 20, 3) := by decide +kernel
set_option maxRecDepth 20000 in
theorem dX2_isFit_86 : decode cX2_isFit 86 = .ok (.iload_n 1, 1) := by decide +kernel
set_option maxRecDepth 20000 in
theorem dX2_isFit_87 : decode cX2_isFit 87 = .ok (.iaload, 1) := by decide +kernel
set_option maxRecDepth 20000 in
theorem dX2_isFit_88 : decode cX2_isFit 88 = .ok (.imul, 1) := by decide +kernel
set_option maxRecDepth 20000 in
theorem dX2_isFit_89 : decode cX2_isFit 89 = .ok (.istore_n 3, 1) := by decide +kernel
set_option maxRecDepth 20000 in
theorem dX2_isFit_90 : decode cX2_isFit 90 = .ok (.iload_n 2, 1) := by decide +kernel
set_option maxRecDepth 20000 in
theorem dX2_isFit_91 : decode cX2_isFit 91 = .ok (.iload_n 3, 1) := by decide +kernel
set_option maxRecDepth 20000 in
theorem dX2_isFit_92 : decode cX2_isFit 92 = .ok (.if_icmp .lt 7, 3) := by decide +kernel
set_option maxRecDepth 20000 in
theorem dX2_isFit_95 : decode cX2_isFit 95 = .ok (.iconst 1, 1) := by decide +kernel
set_option maxRecDepth 20000 in
theorem dX2_isFit_96 : decode cX2_isFit 96 = .ok (.goto 4, 3) := by decide +kernel
set_option maxRecDepth 20000 in
theorem dX2_isFit_99 : decode cX2_isFit 99 = .ok (.iconst 0, 1) := by decide +kernel
set_option maxRecDepth 20000 in
theorem dX2_isFit_100 : decode cX2_isFit 100 = .ok (.ireturn, 1) := by decide +kernel
set_option maxRecDepth 20000 in
theorem dX2_table_0 : decode cX2_table 0 = .ok (.aload_n 0, 1) := by decide +kernel
set_option maxRecDepth 20000 in
theorem dX2_table_1 : decode cX2_table 1 = .ok (.invokevirtual 29, 3) := by decide +kernel
set_option maxRecDepth 20000 in
theorem dX2_table_4 : decode cX2_table 4 = .ok (.istore_n 1, 1) := by decide +kernel
set_option maxRecDepth 20000 in
theorem dX2_table_5 : decode cX2_table 5 = .ok (.aload_n 0, 1) := by decide +kernel
set_option maxRecDepth 20000 in
theorem dX2_table_6 : decode cX2_table 6 = .ok (.getfield 16, 3) := by decide +kernel
set_option maxRecDepth 20000 in
theorem dX2_table_9 : decode cX2_table 9 = .ok (.arraylength, 1) := by decide +kernel
set_option maxRecDepth 20000 in
theorem dX2_table_10 : decode cX2_table 10 = .ok (.anewarray 33, 3) := by decide +kernel
set_option maxRecDepth 20000 in
theorem dX2_table_13 : decode cX2_table 13 = .ok (.astore_n 2, 1) := by decide +kernel
set_option maxRecDepth 20000 in
theorem dX2_table_14 : decode cX2_table 14 = .ok (.iconst 0, 1) := by decide +kernel
set_option maxRecDepth 20000 in
theorem dX2_table_15 : decode cX2_table 15 = .ok (.istore_n 3, 1) := by decide +kernel
set_option maxRecDepth 20000 in
theorem dX2_table_16 : decode cX2_table 16 = .ok (.iload_n 3, 1) := by decide +kernel
set_option maxRecDepth 20000 in
theorem dX2_table_17 : decode cX2_table 17 = .ok (.aload_n 0, 1) := by decide +kernel
set_option maxRecDepth 20000 in
theorem dX2_table_18 : decode cX2_table 18 = .ok (.getfield 16, 3) := by decide +kernel
set_option maxRecDepth 20000 in
theorem dX2_table_21 : decode cX2_table 21 = .ok (.arraylength, 1) := by decide +kernel
set_option maxRecDepth 20000 in
theorem dX2_table_22 : decode cX2_table 22 = .ok (.if_icmp .ge 31, 3) := by decide +kernel
set_option maxRecDepth 20000 in
theorem dX2_table_25 : decode cX2_table 25 = .ok (.aload_n 2, 1) := by decide +kernel
set_option maxRecDepth 20000 in
theorem dX2_table_26 : decode cX2_table 26 = .ok (.iload_n 3, 1) := by decide +kernel
set_option maxRecDepth 20000 in
theorem dX2_table_27 : decode cX2_table 27 = .ok (.aload_n 0, 1) := by decide +kernel
set_option maxRecDepth 20000 in
theorem dX2_table_28 : decode cX2_table 28 = .ok (.getfield 16, 3) := by decide +kernel
set_option maxRecDepth 20000 in
theorem dX2_table_31 : decode cX2_table 31 = .ok (.iload_n 3, 1) := by decide +kernel
set_option maxRecDepth 20000 in
theorem dX2_table_32 : decode cX2_table 32 = .ok (.iaload, 1) := by decide +kernel
set_option maxRecDepth 20000 in
theorem dX2_table_33 : decode cX2_table 33 = .ok (.iload_n 1, 1) := by decide +kernel
set_option maxRecDepth 20000 in
theorem dX2_table_34 : decode cX2_table 34 = .ok (.aload_n 0, 1) := by decide +kernel
set_option maxRecDepth 20000 in
theorem dX2_table_35 : decode cX2_table 35 = .ok (.getfield 20, 3) := by decide +kernel
set_option maxRecDepth 20000 in
theorem dX2_table_38 : decode cX2_table 38 = .ok (.iload_n 3, 1) := by decide +kernel
set_option maxRecDepth 20000 in
theorem dX2_table_39 : decode cX2_table 39 = .ok (.iaload, 1) := by decide +kernel
set_option maxRecDepth 20000 in
theorem dX2_table_40 : decode cX2_table 40 = .ok (.idiv, 1) := by decide +kernel
set_option maxRecDepth 20000 in
theorem dX2_table_41 : decode cX2_table 41 = .ok (.imul, 1) := by decide +kernel
set_option maxRecDepth 20000 in
theorem dX2_table_42 : decode cX2_table 42 = .ok (.i2l, 1) := by decide +kernel
set_option maxRecDepth 20000 in
theorem dX2_table_43 : decode cX2_table 43 = .ok (.invokestatic 35, 3) := by decide +kernel
set_option maxRecDepth 20000 in
theorem dX2_table_46 : decode cX2_table 46 = .ok (.aastore, 1) := by decide +kernel
set_option maxRecDepth 20000 in
theorem dX2_table_47 : decode cX2_table 47 = .ok (.iinc 3 1, 3) := by decide +kernel
set_option maxRecDepth 20000 in
theorem dX2_table_50 : decode cX2_table 50 = .ok (.goto (-34), 3) := by decide +kernel
set_option maxRecDepth 20000 in
theorem dX2_table_53 : decode cX2_table 53 = .ok (.new 39, 3) := by decide +kernel
set_option maxRecDepth 20000 in
theorem dX2_table_56 : decode cX2_table 56 = .ok (.dup, 1) := by decide +kernel
set_option maxRecDepth 20000 in
theorem dX2_table_57 : decode cX2_table 57 = .ok (.aload_n 0, 1) := by decide +kernel
set_option maxRecDepth 20000 in
theorem dX2_table_58 : decode cX2_table 58 = .ok (.getfield 7, 3) := by decide +kernel
set_option maxRecDepth 20000 in
theorem dX2_table_61 : decode cX2_table 61 = .ok (.aload_n 0, 1) := by decide +kernel
set_option maxRecDepth 20000 in
theorem dX2_table_62 : decode cX2_table 62 = .ok (.getfield 13, 3) := by decide +kernel
set_option maxRecDepth 20000 in
theorem dX2_table_65 : decode cX2_table 65 = .ok (.aload_n 2, 1) := by decide +kernel
set_option maxRecDepth 20000 in
theorem dX2_table_66 : decode cX2_table 66 = .ok (.iload_n 1, 1) := by decide +kernel
set_option maxRecDepth 20000 in
theorem dX2_table_67 : decode cX2_table 67 = .ok (.i2l, 1) := by decide +kernel
set_option maxRecDepth 20000 in
theorem dX2_table_68 : decode cX2_table 68 = .ok (.invokestatic 35, 3) := by decide +kernel
set_option maxRecDepth 20000 in
theorem dX2_table_71 : decode cX2_table 71 = .ok (.invokespecial 41, 3) := by decide +kernel
set_option maxRecDepth 20000 in
theorem dX2_table_74 : decode cX2_table 74 = .ok (.areturn, 1) := by decide +kernel
set_option maxRecDepth 20000 in
theorem dX2_commonBelow_0 : decode cX2_commonBelow 0 = .ok (.iconst 1, 1) := by decide +kernel
set_option maxRecDepth 20000 in
theorem dX2_commonBelow_1 : decode cX2_commonBelow 1 = .ok (.istore_n 1, 1) := by decide +kernel
set_option maxRecDepth 20000 in
theorem dX2_commonBelow_2 : decode cX2_commonBelow 2 = .ok (.iconst 0, 1) := by decide +kernel
set_option maxRecDepth 20000 in
theorem dX2_commonBelow_3 : decode cX2_commonBelow 3 = .ok (.istore_n 2, 1) := by decide +kernel
set_option maxRecDepth 20000 in
theorem dX2_commonBelow_4 : decode cX2_commonBelow 4 = .ok (.iload_n 2, 1) := by decide +kernel
set_option maxRecDepth 20000 in
theorem dX2_commonBelow_5 : decode cX2_commonBelow 5 = .ok (.aload_n 0, 1) := by decide +kernel
set_option maxRecDepth 20000 in
theorem dX2_commonBelow_6 : decode cX2_commonBelow 6 = .ok (.getfield 20, 3) := by decide +kernel
set_option maxRecDepth 20000 in
theorem dX2_commonBelow_9 : decode cX2_commonBelow 9 = .ok (.arraylength, 1) := by decide +kernel
set_option maxRecDepth 20000 in
theorem dX2_commonBelow_10 : decode cX2_commonBelow 10 = .ok (.if_icmp .ge 48, 3) := by decide +kernel
set_option maxRecDepth 20000 in
theorem dX2_commonBelow_13 : decode cX2_commonBelow 13 = .ok (.iload_n 1, 1) := by decide +kernel
set_option maxRecDepth 20000 in
theorem dX2_commonBelow_14 : decode cX2_commonBelow 14 = .ok (.istore_n 3, 1) := by decide +kernel
set_option maxRecDepth 20000 in
theorem dX2_commonBelow_15 : decode cX2_commonBelow 15 = .ok (.iconst 1, 1) := by decide +kernel
set_option maxRecDepth 20000 in
theorem dX2_commonBelow_16 : decode cX2_commonBelow 16 = .ok (.istore 4, 2) := by decide +kernel
set_option maxRecDepth 20000 in
theorem dX2_commonBelow_18 : decode cX2_commonBelow 18 = .ok (.iload 4, 2) := by decide +kernel
set_option maxRecDepth 20000 in
theorem dX2_commonBelow_20 : decode cX2_commonBelow 20 = .ok (.aload_n 0, 1) := by decide +kernel
set_option maxRecDepth 20000 in
theorem dX2_commonBelow_21 : decode cX2_commonBelow 21 = .ok (.getfield 20, 3) := by decide +kernel
set_option maxRecDepth 20000 in
theorem dX2_commonBelow_24 : decode cX2_commonBelow 24 = .ok (.iload_n 2, 1) := by decide +kernel
set_option maxRecDepth 20000 in
theorem dX2_commonBelow_25 : decode cX2_commonBelow 25 = .ok (.iaload, 1) := by decide +kernel
set_option maxRecDepth 20000 in
theorem dX2_commonBelow_26 : decode cX2_commonBelow 26 = .ok (.if_icmp .ge 24, 3) := by decide +kernel
set_option maxRecDepth 20000 in
theorem dX2_commonBelow_29 : decode cX2_commonBelow 29 = .ok (.iload_n 3, 1) := by decide +kernel
set_option maxRecDepth 20000 in
theorem dX2_commonBelow_30 : decode cX2_commonBelow 30 = .ok (.aload_n 0, 1) := by decide +kernel
set_option maxRecDepth 20000 in
theorem dX2_commonBelow_31 : decode cX2_commonBelow 31 = .ok (.getfield 20, 3) := by decide +kernel
set_option maxRecDepth 20000 in
theorem dX2_commonBelow_34 : decode cX2_commonBelow 34 = .ok (.iload_n 2, 1) := by decide +kernel
set_option maxRecDepth 20000 in
theorem dX2_commonBelow_35 : decode cX2_commonBelow 35 = .ok (.iaload, 1) := by decide +kernel
set_option maxRecDepth 20000 in
theorem dX2_commonBelow_36 : decode cX2_commonBelow 36 = .ok (.irem, 1) := by decide +kernel
set_option maxRecDepth 20000 in
theorem dX2_commonBelow_37 : decode cX2_commonBelow 37 = .ok (.ifCond .eq 13, 3) := by decide +kernel
set_option maxRecDepth 20000 in
theorem dX2_commonBelow_40 : decode cX2_commonBelow 40 = .ok (.iload_n 3, 1) := by decide +kernel
set_option maxRecDepth 20000 in
theorem dX2_commonBelow_41 : decode cX2_commonBelow 41 = .ok (.iload_n 1, 1) := by decide +kernel
set_option maxRecDepth 20000 in
theorem dX2_commonBelow_42 : decode cX2_commonBelow 42 = .ok (.iadd, 1) := by decide +kernel
set_option maxRecDepth 20000 in
theorem dX2_commonBelow_43 : decode cX2_commonBelow 43 = .ok (.istore_n 3, 1) := by decide +kernel
set_option maxRecDepth 20000 in
theorem dX2_commonBelow_44 : decode cX2_commonBelow 44 = .ok (.iinc 4 1, 3) := by decide +kernel
set_option maxRecDepth 20000 in
theorem dX2_commonBelow_47 : decode cX2_commonBelow 47 = .ok (.goto (-29), 3) := by decide +kernel
set_option maxRecDepth 20000 in
theorem dX2_commonBelow_50 : decode cX2_commonBelow 50 = .ok (.iload_n 3, 1) := by decide +kernel
set_option maxRecDepth 20000 in
theorem dX2_commonBelow_51 : decode cX2_commonBelow 51 = .ok (.istore_n 1, 1) := by decide +kernel
set_option maxRecDepth 20000 in
theorem dX2_commonBelow_52 : decode cX2_commonBelow 52 = .ok (.iinc 2 1, 3) := by decide +kernel
set_option maxRecDepth 20000 in
theorem dX2_commonBelow_55 : decode cX2_commonBelow 55 = .ok (.goto (-51), 3) := by decide +kernel
set_option maxRecDepth 20000 in
theorem dX2_commonBelow_58 : decode cX2_commonBelow 58 = .ok (.iload_n 1, 1) := by decide +kernel
set_option maxRecDepth 20000 in
theorem dX2_commonBelow_59 : decode cX2_commonBelow 59 = .ok (.ireturn, 1) := by decide +kernel
set_option maxRecDepth 20000 in
theorem dX1_init_0 : decode cX1_init 0 = .ok (.aload_n 0, 1) := by decide +kernel
set_option maxRecDepth 20000 in
theorem dX1_init_1 : decode cX1_init 1 = .ok (.invokespecial 1, 3) := by decide +kernel
set_option maxRecDepth 20000 in
theorem dX1_init_4 : decode cX1_init 4 = .ok (.aload_n 0, 1) := by decide +kernel
set_option maxRecDepth 20000 in
theorem dX1_init_5 : decode cX1_init 5 = .ok (.iload_n 1, 1) := by decide +kernel
set_option maxRecDepth 20000 in
theorem dX1_init_6 : decode cX1_init 6 = .ok (.putfield 7, 3) := by decide +kernel
set_option maxRecDepth 20000 in
theorem dX1_init_9 : decode cX1_init 9 = .ok (.aload_n 0, 1) := by decide +kernel
set_option maxRecDepth 20000 in
theorem dX1_init_10 : decode cX1_init 10 = .ok (.bipush 7, 2) := by decide +kernel
set_option maxRecDepth 20000 in
theorem dX1_init_12 : decode cX1_init 12 = .ok (.anewarray 13, 3) := by decide +kernel
set_option maxRecDepth 20000 in
theorem dX1_init_15 : decode cX1_init 15 = .ok (.putfield 15, 3) := by decide +kernel
set_option maxRecDepth 20000 in
theorem dX1_init_18 : decode cX1_init 18 = .ok (.iconst 0, 1) := by decide +kernel
set_option maxRecDepth 20000 in
theorem dX1_init_19 : decode cX1_init 19 = .ok (.istore_n 2, 1) := by decide +kernel
set_option maxRecDepth 20000 in
theorem dX1_init_20 : decode cX1_init 20 = .ok (.iload_n 2, 1) := by decide +kernel
set_option maxRecDepth 20000 in
theorem dX1_init_21 : decode cX1_init 21 = .ok (.bipush 7, 2) := by decide +kernel
set_option maxRecDepth 20000 in
theorem dX1_init_23 : decode cX1_init 23 = .ok (.if_icmp .ge 59, 3) := by decide +kernel
set_option maxRecDepth 20000 in
theorem dX1_init_26 : decode cX1_init 26 = .ok (.iload_n 2, 1) := by decide +kernel
set_option maxRecDepth 20000 in
theorem dX1_init_27 : decode cX1_init 27 = .ok (.bipush 6, 2) := by decide +kernel
set_option maxRecDepth 20000 in
theorem dX1_init_29 : decode cX1_init 29 = .ok (.if_icmp .ne 7, 3) := by decide +kernel
set_option maxRecDepth 20000 in
theorem dX1_init_32 : decode cX1_init 32 = .ok (.iconst 1, 1) := by decide +kernel
set_option maxRecDepth 20000 in
theorem dX1_init_33 : decode cX1_init 33 = .ok (.goto 4, 3) := by decide +kernel
set_option maxRecDepth 20000 in
theorem dX1_init_36 : decode cX1_init 36 = .ok (.iload_n 1, 1) := by decide +kernel
set_option maxRecDepth 20000 in
theorem dX1_init_37 : decode cX1_init 37 = .ok (.istore_n 3, 1) := by decide +kernel
set_option maxRecDepth 20000 in
theorem dX1_init_38 : decode cX1_init 38 = .ok (.iload_n 2, 1) := by decide +kernel
set_option maxRecDepth 20000 in
theorem dX1_init_39 : decode cX1_init 39 = .ok (.iconst 1, 1) := by decide +kernel
set_option maxRecDepth 20000 in
theorem dX1_init_40 : decode cX1_init 40 = .ok (.if_icmp .eq 13, 3) := by decide +kernel
set_option maxRecDepth 20000 in
theorem dX1_init_43 : decode cX1_init 43 = .ok (.iload_n 2, 1) := by decide +kernel
set_option maxRecDepth 20000 in
theorem dX1_init_44 : decode cX1_init 44 = .ok (.iconst 2, 1) := by decide +kernel
set_option maxRecDepth 20000 in
theorem dX1_init_45 : decode cX1_init 45 = .ok (.if_icmp .eq 8, 3) := by decide +kernel
set_option maxRecDepth 20000 in
theorem dX1_init_48 : decode cX1_init 48 = .ok (.iload_n 2, 1) := by decide +kernel
set_option maxRecDepth 20000 in
theorem dX1_init_49 : decode cX1_init 49 = .ok (.iconst 4, 1) := by decide +kernel
set_option maxRecDepth 20000 in
theorem dX1_init_50 : decode cX1_init 50 = .ok (.if_icmp .ne 7, 3) := by decide +kernel
set_option maxRecDepth 20000 in
theorem dX1_init_53 : decode cX1_init 53 = .ok (.iload_n 1, 1) := by decide +kernel
set_option maxRecDepth 20000 in
theorem dX1_init_54 : decode cX1_init 54 = .ok (.goto 4, 3) := by decide +kernel
set_option maxRecDepth 20000 in
theorem dX1_init_57 : decode cX1_init 57 = .ok (.iconst 1, 1) := by decide +kernel
set_option maxRecDepth 20000 in
theorem dX1_init_58 : decode cX1_init 58 = .ok (.istore 4, 2) := by decide +kernel
set_option maxRecDepth 20000 in
theorem dX1_init_60 : decode cX1_init 60 = .ok (.aload_n 0, 1) := by decide +kernel
set_option maxRecDepth 20000 in
theorem dX1_init_61 : decode cX1_init 61 = .ok (.getfield 15, 3) := by decide +kernel
set_option maxRecDepth 20000 in
theorem dX1_init_64 : decode cX1_init 64 = .ok (.iload_n 2, 1) := by decide +kernel
set_option maxRecDepth 20000 in
theorem dX1_init_65 : decode cX1_init 65 = .ok (.new 13, 3) := by decide +kernel
set_option maxRecDepth 20000 in
theorem dX1_init_68 : decode cX1_init 68 = .ok (.dup, 1) := by decide +kernel
set_option maxRecDepth 20000 in
theorem dX1_init_69 : decode cX1_init 69 = .ok (.iload_n 3, 1) := by decide +kernel
set_option maxRecDepth 20000 in
theorem dX1_init_70 : decode cX1_init 70 = .ok (.iload 4, 2) := by decide +kernel
set_option maxRecDepth 20000 in
theorem dX1_init_72 : decode cX1_init 72 = .ok (.invokespecial 19, 3) := by decide +kernel
set_option maxRecDepth 20000 in
theorem dX1_init_75 : decode cX1_init 75 = .ok (.aastore, 1) := by decide +kernel
set_option maxRecDepth 20000 in
theorem dX1_init_76 : decode cX1_init 76 = .ok (.iinc 2 1, 3) := by decide +kernel
set_option maxRecDepth 20000 in
theorem dX1_init_79 : decode cX1_init 79 = .ok (.goto (-59), 3) := by decide +kernel
set_option maxRecDepth 20000 in
theorem dX1_init_82 : decode cX1_init 82 = .ok (.iconst 0, 1) := by decide +kernel
set_option maxRecDepth 20000 in
theorem dX1_init_83 : decode cX1_init 83 = .ok (.istore_n 2, 1) := by decide +kernel
set_option maxRecDepth 20000 in
theorem dX1_init_84 : decode cX1_init 84 = .ok (.iload_n 2, 1) := by decide +kernel
set_option maxRecDepth 20000 in
theorem dX1_init_85 : decode cX1_init 85 = .ok (.iload_n 1, 1) := by decide +kernel
set_option maxRecDepth 20000 in
theorem dX1_init_86 : decode cX1_init 86 = .ok (.if_icmp .ge 48, 3) := by decide +kernel
set_option maxRecDepth 20000 in
theorem dX1_init_89 : decode cX1_init 89 = .ok (.aload_n 0, 1) := by decide +kernel
set_option maxRecDepth 20000 in
theorem dX1_init_90 : decode cX1_init 90 = .ok (.getfield 15, 3) := by decide +kernel
set_option maxRecDepth 20000 in
theorem dX1_init_93 : decode cX1_init 93 = .ok (.iconst 1, 1) := by decide +kernel
set_option maxRecDepth 20000 in
theorem dX1_init_94 : decode cX1_init 94 = .ok (.aaload, 1) := by decide +kernel
set_option maxRecDepth 20000 in
theorem dX1_init_95 : decode cX1_init 95 = .ok (.iload_n 2, 1) := by decide +kernel
set_option maxRecDepth 20000 in
theorem dX1_init_96 : decode cX1_init 96 = .ok (.iload_n 2, 1) := by decide +kernel
set_option maxRecDepth 20000 in
theorem dX1_init_97 : decode cX1_init 97 = .ok (.iconst 1, 1) := by decide +kernel
set_option maxRecDepth 20000 in
theorem dX1_init_98 : decode cX1_init 98 = .ok (.iconst 1, 1) := by decide +kernel
set_option maxRecDepth 20000 in
theorem dX1_init_99 : decode cX1_init 99 = .ok (.invokevirtual 22, 3) := by decide +kernel
set_option maxRecDepth 20000 in
theorem dX1_init_102 : decode cX1_init 102 = .ok (.aload_n 0, 1) := by decide +kernel
set_option maxRecDepth 20000 in
theorem dX1_init_103 : decode cX1_init 103 = .ok (.getfield 15, 3) := by decide +kernel
set_option maxRecDepth 20000 in
theorem dX1_init_106 : decode cX1_init 106 = .ok (.iconst 2, 1) := by decide +kernel
set_option maxRecDepth 20000 in
theorem dX1_init_107 : decode cX1_init 107 = .ok (.aaload, 1) := by decide +kernel
set_option maxRecDepth 20000 in
theorem dX1_init_108 : decode cX1_init 108 = .ok (.iload_n 2, 1) := by decide +kernel
set_option maxRecDepth 20000 in
theorem dX1_init_109 : decode cX1_init 109 = .ok (.iload_n 2, 1) := by decide +kernel
set_option maxRecDepth 20000 in
theorem dX1_init_110 : decode cX1_init 110 = .ok (.iconst 1, 1) := by decide +kernel
set_option maxRecDepth 20000 in
theorem dX1_init_111 : decode cX1_init 111 = .ok (.iconst 1, 1) := by decide +kernel
set_option maxRecDepth 20000 in
theorem dX1_init_112 : decode cX1_init 112 = .ok (.invokevirtual 22, 3) := by decide +kernel
set_option maxRecDepth 20000 in
theorem dX1_init_115 : decode cX1_init 115 = .ok (.aload_n 0, 1) := by decide +kernel
set_option maxRecDepth 20000 in
theorem dX1_init_116 : decode cX1_init 116 = .ok (.getfield 15, 3) := by decide +kernel
set_option maxRecDepth 20000 in
theorem dX1_init_119 : decode cX1_init 119 = .ok (.iconst 5, 1) := by decide +kernel
set_option maxRecDepth 20000 in
theorem dX1_init_120 : decode cX1_init 120 = .ok (.aaload, 1) := by decide +kernel
set_option maxRecDepth 20000 in
theorem dX1_init_121 : decode cX1_init 121 = .ok (.iload_n 2, 1) := by decide +kernel
set_option maxRecDepth 20000 in
theorem dX1_init_122 : decode cX1_init 122 = .ok (.iconst 0, 1) := by decide +kernel
set_option maxRecDepth 20000 in
theorem dX1_init_123 : decode cX1_init 123 = .ok (.iconst 1, 1) := by decide +kernel
set_option maxRecDepth 20000 in
theorem dX1_init_124 : decode cX1_init 124 = .ok (.iconst 1, 1) := by decide +kernel
set_option maxRecDepth 20000 in
theorem dX1_init_125 : decode cX1_init 125 = .ok (.invokevirtual 22, 3) := by decide +kernel
set_option maxRecDepth 20000 in
theorem dX1_init_128 : decode cX1_init 128 = .ok (.iinc 2 1, 3) := by decide +kernel
set_option maxRecDepth 20000 in
theorem dX1_init_131 : decode cX1_init 131 = .ok (.goto (-47), 3) := by decide +kernel
set_option maxRecDepth 20000 in
theorem dX1_init_134 : decode cX1_init 134 = .ok (.aload_n 0, 1) := by decide +kernel
set_option maxRecDepth 20000 in
theorem dX1_init_135 : decode cX1_init 135 = .ok (.getfield 15, 3) := by decide +kernel
set_option maxRecDepth 20000 in
theorem dX1_init_138 : decode cX1_init 138 = .ok (.bipush 6, 2) := by decide +kernel
set_option maxRecDepth 20000 in
theorem dX1_init_140 : decode cX1_init 140 = .ok (.aaload, 1) := by decide +kernel
set_option maxRecDepth 20000 in
theorem dX1_init_141 : decode cX1_init 141 = .ok (.iconst 0, 1) := by decide +kernel
set_option maxRecDepth 20000 in
theorem dX1_init_142 : decode cX1_init 142 = .ok (.iconst 0, 1) := by decide +kernel
set_option maxRecDepth 20000 in
theorem dX1_init_143 : decode cX1_init 143 = .ok (.iconst 1, 1) := by decide +kernel
set_option maxRecDepth 20000 in
theorem dX1_init_144 : decode cX1_init 144 = .ok (.iconst 1, 1) := by decide +kernel
set_option maxRecDepth 20000 in
theorem dX1_init_145 : decode cX1_init 145 = .ok (.invokevirtual 22, 3) := by decide +kernel
set_option maxRecDepth 20000 in
theorem dX1_init_148 : decode cX1_init 148 = .ok (.return_, 1) := by decide +kernel
set_option maxRecDepth 20000 in
theorem dX1_size_0 : decode cX1_size 0 = .ok (.aload_n 0, 1) := by decide +kernel
set_option maxRecDepth 20000 in
theorem dX1_size_1 : decode cX1_size 1 = .ok (.getfield 7, 3) := by decide +kernel
set_option maxRecDepth 20000 in
theorem dX1_size_4 : decode cX1_size 4 = .ok (.ireturn, 1) := by decide +kernel
set_option maxRecDepth 20000 in
theorem dX1_has_0 : decode cX1_has 0 = .ok (.iload_n 1, 1) := by decide +kernel
set_option maxRecDepth 20000 in
theorem dX1_has_1 : decode cX1_has 1 = .ok (.ifCond .lt 27, 3) := by decide +kernel
set_option maxRecDepth 20000 in
theorem dX1_has_4 : decode cX1_has 4 = .ok (.iload_n 1, 1) := by decide +kernel
set_option maxRecDepth 20000 in
theorem dX1_has_5 : decode cX1_has 5 = .ok (.bipush 7, 2) := by decide +kernel
set_option maxRecDepth 20000 in
theorem dX1_has_7 : decode cX1_has 7 = .ok (.if_icmp .ge 21, 3) := by decide +kernel
set_option maxRecDepth 20000 in
theorem dX1_has_10 : decode cX1_has 10 = .ok (.aload_n 0, 1) := by decide +kernel
set_option maxRecDepth 20000 in
theorem dX1_has_11 : decode cX1_has 11 = .ok (.getfield 15, 3) := by decide +kernel
set_option maxRecDepth 20000 in
theorem dX1_has_14 : decode cX1_has 14 = .ok (.iload_n 1, 1) := by decide +kernel
set_option maxRecDepth 20000 in
theorem dX1_has_15 : decode cX1_has 15 = .ok (.aaload, 1) := by decide +kernel
set_option maxRecDepth 20000 in
theorem dX1_has_16 : decode cX1_has 16 = .ok (.iload_n 2, 1) := by decide +kernel
set_option maxRecDepth 20000 in
theorem dX1_has_17 : decode cX1_has 17 = .ok (.iload_n 3, 1) := by decide +kernel
set_option maxRecDepth 20000 in
theorem dX1_has_18 : decode cX1_has 18 = .ok (.invokevirtual 26, 3) := by decide +kernel
set_option maxRecDepth 20000 in
theorem dX1_has_21 : decode cX1_has 21 = .ok (.ifCond .eq 7, 3) := by decide +kernel
set_option maxRecDepth 20000 in
theorem dX1_has_24 : decode cX1_has 24 = .ok (.iconst 1, 1) := by decide +kernel
set_option maxRecDepth 20000 in
theorem dX1_has_25 : decode cX1_has 25 = .ok (.goto 4, 3) := by decide +kernel
set_option maxRecDepth 20000 in
theorem dX1_has_28 : decode cX1_has 28 = .ok (.iconst 0, 1) := by decide +kernel
set_option maxRecDepth 20000 in
theorem dX1_has_29 : decode cX1_has 29 = .ok (.ireturn, 1) := by decide +kernel
set_option maxRecDepth 20000 in
theorem dX1_put_0 : decode cX1_put 0 = .ok (.aload_n 0, 1) := by decide +kernel
set_option maxRecDepth 20000 in
theorem dX1_put_1 : decode cX1_put 1 = .ok (.getfield 15, 3) := by decide +kernel
set_option maxRecDepth 20000 in
theorem dX1_put_4 : decode cX1_put 4 = .ok (.iload_n 1, 1) := by decide +kernel
set_option maxRecDepth 20000 in
theorem dX1_put_5 : decode cX1_put 5 = .ok (.aaload, 1) := by decide +kernel
set_option maxRecDepth 20000 in
theorem dX1_put_6 : decode cX1_put 6 = .ok (.iload_n 2, 1) := by decide +kernel
set_option maxRecDepth 20000 in
theorem dX1_put_7 : decode cX1_put 7 = .ok (.iload_n 3, 1) := by decide +kernel
set_option maxRecDepth 20000 in
theorem dX1_put_8 : decode cX1_put 8 = .ok (.iload 4, 2) := by decide +kernel
set_option maxRecDepth 20000 in
theorem dX1_put_10 : decode cX1_put 10 = .ok (.iload 5, 2) := by decide +kernel
set_option maxRecDepth 20000 in
theorem dX1_put_12 : decode cX1_put 12 = .ok (.invokevirtual 22, 3) := by decide +kernel
set_option maxRecDepth 20000 in
theorem dX1_put_15 : decode cX1_put 15 = .ok (.iload_n 1, 1) := by decide +kernel
set_option maxRecDepth 20000 in
theorem dX1_put_16 : decode cX1_put 16 = .ok (.iconst 1, 1) := by decide +kernel
set_option maxRecDepth 20000 in
theorem dX1_put_17 : decode cX1_put 17 = .ok (.if_icmp .eq 8, 3) := by decide +kernel
set_option maxRecDepth 20000 in
theorem dX1_put_20 : decode cX1_put 20 = .ok (.iload_n 1, 1) := by decide +kernel
set_option maxRecDepth 20000 in
theorem dX1_put_21 : decode cX1_put 21 = .ok (.iconst 4, 1) := by decide +kernel
set_option maxRecDepth 20000 in
theorem dX1_put_22 : decode cX1_put 22 = .ok (.if_icmp .ne 18, 3) := by decide +kernel
set_option maxRecDepth 20000 in
theorem dX1_put_25 : decode cX1_put 25 = .ok (.aload_n 0, 1) := by decide +kernel
set_option maxRecDepth 20000 in
theorem dX1_put_26 : decode cX1_put 26 = .ok (.getfield 15, 3) := by decide +kernel
set_option maxRecDepth 20000 in
theorem dX1_put_29 : decode cX1_put 29 = .ok (.iload_n 1, 1) := by decide +kernel
set_option maxRecDepth 20000 in
theorem dX1_put_30 : decode cX1_put 30 = .ok (.aaload, 1) := by decide +kernel
set_option maxRecDepth 20000 in
theorem dX1_put_31 : decode cX1_put 31 = .ok (.iload_n 3, 1) := by decide +kernel
set_option maxRecDepth 20000 in
theorem dX1_put_32 : decode cX1_put 32 = .ok (.iload_n 2, 1) := by decide +kernel
set_option maxRecDepth 20000 in
theorem dX1_put_33 : decode cX1_put 33 = .ok (.iload 4, 2) := by decide +kernel
set_option maxRecDepth 20000 in
theorem dX1_put_35 : decode cX1_put 35 = .ok (.iload 5, 2) := by decide +kernel
set_option maxRecDepth 20000 in
theorem dX1_put_37 : decode cX1_put 37 = .ok (.invokevirtual 22, 3) := by decide +kernel
set_option maxRecDepth 20000 in
theorem dX1_put_40 : decode cX1_put 40 = .ok (.return_, 1) := by decide +kernel
set_option maxRecDepth 20000 in
theorem dX1_isFit_0 : decode cX1_isFit 0 = .ok (.aload_n 0, 1) := by decide +kernel
set_option maxRecDepth 20000 in
theorem dX1_isFit_1 : decode cX1_isFit 1 = .ok (.getfield 15, 3) := by decide +kernel
set_option maxRecDepth 20000 in
theorem dX1_isFit_4 : decode cX1_isFit 4 = .ok (.iload_n 1, 1) := by decide +kernel
set_option maxRecDepth 20000 in
theorem dX1_isFit_5 : decode cX1_isFit 5 = .ok (.aaload, 1) := by decide +kernel
set_option maxRecDepth 20000 in
theorem dX1_isFit_6 : decode cX1_isFit 6 = .ok (.invokevirtual 30, 3) := by decide +kernel
set_option maxRecDepth 20000 in
theorem dX1_isFit_9 : decode cX1_isFit 9 = .ok (.ireturn, 1) := by decide +kernel
set_option maxRecDepth 20000 in
theorem dX1_table_0 : decode cX1_table 0 = .ok (.aload_n 0, 1) := by decide +kernel
set_option maxRecDepth 20000 in
theorem dX1_table_1 : decode cX1_table 1 = .ok (.getfield 15, 3) := by decide +kernel
set_option maxRecDepth 20000 in
theorem dX1_table_4 : decode cX1_table 4 = .ok (.iload_n 1, 1) := by decide +kernel
set_option maxRecDepth 20000 in
theorem dX1_table_5 : decode cX1_table 5 = .ok (.aaload, 1) := by decide +kernel
set_option maxRecDepth 20000 in
theorem dX1_table_6 : decode cX1_table 6 = .ok (.invokevirtual 34, 3) := by decide +kernel
set_option maxRecDepth 20000 in
theorem dX1_table_9 : decode cX1_table 9 = .ok (.areturn, 1) := by decide +kernel
theorem dJ9_max_7cf53_0 : decode cJ9_max_7cf53 0 = .ok (.iload_n 0, 1) := by decide +kernel
theorem dJ9_max_7cf53_1 : decode cJ9_max_7cf53 1 = .ok (.iload_n 1, 1) := by decide +kernel
theorem dJ9_max_7cf53_2 : decode cJ9_max_7cf53 2 = .ok (.if_icmp .lt 7, 3) := by decide +kernel
theorem dJ9_max_7cf53_5 : decode cJ9_max_7cf53 5 = .ok (.iload_n 0, 1) := by decide +kernel
theorem dJ9_max_7cf53_6 : decode cJ9_max_7cf53 6 = .ok (.goto 4, 3) := by decide +kernel
theorem dJ9_max_7cf53_9 : decode cJ9_max_7cf53 9 = .ok (.iload_n 1, 1) := by decide +kernel
theorem dJ9_max_7cf53_10 : decode cJ9_max_7cf53 10 = .ok (.ireturn, 1) := by decide +kernel
theorem dJ9_min_7cf53_0 : decode cJ9_min_7cf53 0 = .ok (.iload_n 0, 1) := by decide +kernel
theorem dJ9_min_7cf53_1 : decode cJ9_min_7cf53 1 = .ok (.iload_n 1, 1) := by decide +kernel
theorem dJ9_min_7cf53_2 : decode cJ9_min_7cf53 2 = .ok (.if_icmp .gt 7, 3) := by decide +kernel
theorem dJ9_min_7cf53_5 : decode cJ9_min_7cf53 5 = .ok (.iload_n 0, 1) := by decide +kernel
theorem dJ9_min_7cf53_6 : decode cJ9_min_7cf53 6 = .ok (.goto 4, 3) := by decide +kernel
theorem dJ9_min_7cf53_9 : decode cJ9_min_7cf53 9 = .ok (.iload_n 1, 1) := by decide +kernel
theorem dJ9_min_7cf53_10 : decode cJ9_min_7cf53 10 = .ok (.ireturn, 1) := by decide +kernel
theorem dJ7_fill_53178_0 : decode cJ7_fill_53178 0 = .ok (.iconst 0, 1) := by decide +kernel
theorem dJ7_fill_53178_1 : decode cJ7_fill_53178 1 = .ok (.istore_n 2, 1) := by decide +kernel
theorem dJ7_fill_53178_2 : decode cJ7_fill_53178 2 = .ok (.aload_n 0, 1) := by decide +kernel
theorem dJ7_fill_53178_3 : decode cJ7_fill_53178 3 = .ok (.arraylength, 1) := by decide +kernel
theorem dJ7_fill_53178_4 : decode cJ7_fill_53178 4 = .ok (.istore_n 3, 1) := by decide +kernel
theorem dJ7_fill_53178_5 : decode cJ7_fill_53178 5 = .ok (.iload_n 2, 1) := by decide +kernel
theorem dJ7_fill_53178_6 : decode cJ7_fill_53178 6 = .ok (.iload_n 3, 1) := by decide +kernel
theorem dJ7_fill_53178_7 : decode cJ7_fill_53178 7 = .ok (.if_icmp .ge 13, 3) := by decide +kernel
theorem dJ7_fill_53178_10 : decode cJ7_fill_53178 10 = .ok (.aload_n 0, 1) := by decide +kernel
theorem dJ7_fill_53178_11 : decode cJ7_fill_53178 11 = .ok (.iload_n 2, 1) := by decide +kernel
theorem dJ7_fill_53178_12 : decode cJ7_fill_53178 12 = .ok (.iload_n 1, 1) := by decide +kernel
theorem dJ7_fill_53178_13 : decode cJ7_fill_53178 13 = .ok (.iastore, 1) := by decide +kernel
theorem dJ7_fill_53178_14 : decode cJ7_fill_53178 14 = .ok (.iinc 2 1, 3) := by decide +kernel
theorem dJ7_fill_53178_17 : decode cJ7_fill_53178 17 = .ok (.goto (-12), 3) := by decide +kernel
theorem dJ7_fill_53178_20 : decode cJ7_fill_53178 20 = .ok (.return_, 1) := by decide +kernel
theorem dJ7_copyOf_59c91_0 : decode cJ7_copyOf_59c91 0 = .ok (.iload_n 1, 1) := by decide +kernel
theorem dJ7_copyOf_59c91_1 : decode cJ7_copyOf_59c91 1 = .ok (.aload_n 0, 1) := by decide +kernel
theorem dJ7_copyOf_59c91_2 : decode cJ7_copyOf_59c91 2 = .ok (.arraylength, 1) := by decide +kernel
theorem dJ7_copyOf_59c91_3 : decode cJ7_copyOf_59c91 3 = .ok (.if_icmp .ne 11, 3) := by decide +kernel
theorem dJ7_copyOf_59c91_6 : decode cJ7_copyOf_59c91 6 = .ok (.aload_n 0, 1) := by decide +kernel
theorem dJ7_copyOf_59c91_7 : decode cJ7_copyOf_59c91 7 = .ok (.invokevirtual 316, 3) := by decide +kernel
theorem dJ7_copyOf_59c91_10 : decode cJ7_copyOf_59c91 10 = .ok (.checkcast 317, 3) := by decide +kernel
theorem dJ7_copyOf_59c91_13 : decode cJ7_copyOf_59c91 13 = .ok (.areturn, 1) := by decide +kernel
theorem dJ7_copyOf_59c91_14 : decode cJ7_copyOf_59c91 14 = .ok (.iload_n 1, 1) := by decide +kernel
theorem dJ7_copyOf_59c91_15 : decode cJ7_copyOf_59c91 15 = .ok (.newarray .int, 2) := by decide +kernel
theorem dJ7_copyOf_59c91_17 : decode cJ7_copyOf_59c91 17 = .ok (.astore_n 2, 1) := by decide +kernel
theorem dJ7_copyOf_59c91_18 : decode cJ7_copyOf_59c91 18 = .ok (.aload_n 0, 1) := by decide +kernel
theorem dJ7_copyOf_59c91_19 : decode cJ7_copyOf_59c91 19 = .ok (.iconst 0, 1) := by decide +kernel
theorem dJ7_copyOf_59c91_20 : decode cJ7_copyOf_59c91 20 = .ok (.aload_n 2, 1) := by decide +kernel
theorem dJ7_copyOf_59c91_21 : decode cJ7_copyOf_59c91 21 = .ok (.iconst 0, 1) := by decide +kernel
theorem dJ7_copyOf_59c91_22 : decode cJ7_copyOf_59c91 22 = .ok (.aload_n 0, 1) := by decide +kernel
theorem dJ7_copyOf_59c91_23 : decode cJ7_copyOf_59c91 23 = .ok (.arraylength, 1) := by decide +kernel
theorem dJ7_copyOf_59c91_24 : decode cJ7_copyOf_59c91 24 = .ok (.iload_n 1, 1) := by decide +kernel
theorem dJ7_copyOf_59c91_25 : decode cJ7_copyOf_59c91 25 = .ok (.invokestatic 304, 3) := by decide +kernel
theorem dJ7_copyOf_59c91_28 : decode cJ7_copyOf_59c91 28 = .ok (.invokestatic 150, 3) := by decide +kernel
theorem dJ7_copyOf_59c91_31 : decode cJ7_copyOf_59c91 31 = .ok (.aload_n 2, 1) := by decide +kernel
theorem dJ7_copyOf_59c91_32 : decode cJ7_copyOf_59c91 32 = .ok (.areturn, 1) := by decide +kernel
