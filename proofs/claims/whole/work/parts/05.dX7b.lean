set_option maxRecDepth 20000 in
theorem dX7_multiply_6 : decode cX7_multiply 6 = .ok (.aload_n 0, 1) := by decide +kernel
set_option maxRecDepth 20000 in
theorem dX7_multiply_7 : decode cX7_multiply 7 = .ok (.getfield 43, 3) := by decide +kernel
set_option maxRecDepth 20000 in
theorem dX7_multiply_10 : decode cX7_multiply 10 = .ok (.iload_n 3, 1) := by decide +kernel
set_option maxRecDepth 20000 in
theorem dX7_multiply_11 : decode cX7_multiply 11 = .ok (.iaload, 1) := by decide +kernel
set_option maxRecDepth 20000 in
theorem dX7_multiply_12 : decode cX7_multiply 12 = .ok (.imul, 1) := by decide +kernel
set_option maxRecDepth 20000 in
theorem dX7_multiply_13 : decode cX7_multiply 13 = .ok (.istore 4, 2) := by decide +kernel
set_option maxRecDepth 20000 in
theorem dX7_multiply_15 : decode cX7_multiply 15 = .ok (.aload_n 0, 1) := by decide +kernel
set_option maxRecDepth 20000 in
theorem dX7_multiply_16 : decode cX7_multiply 16 = .ok (.iconst 2, 1) := by decide +kernel
set_option maxRecDepth 20000 in
theorem dX7_multiply_17 : decode cX7_multiply 17 = .ok (.iload_n 1, 1) := by decide +kernel
set_option maxRecDepth 20000 in
theorem dX7_multiply_18 : decode cX7_multiply 18 = .ok (.imul, 1) := by decide +kernel
set_option maxRecDepth 20000 in
theorem dX7_multiply_19 : decode cX7_multiply 19 = .ok (.iconst 2, 1) := by decide +kernel
set_option maxRecDepth 20000 in
theorem dX7_multiply_20 : decode cX7_multiply 20 = .ok (.iload_n 2, 1) := by decide +kernel
set_option maxRecDepth 20000 in
theorem dX7_multiply_21 : decode cX7_multiply 21 = .ok (.imul, 1) := by decide +kernel
set_option maxRecDepth 20000 in
theorem dX7_multiply_22 : decode cX7_multiply 22 = .ok (.iconst 2, 1) := by decide +kernel
set_option maxRecDepth 20000 in
theorem dX7_multiply_23 : decode cX7_multiply 23 = .ok (.iload_n 3, 1) := by decide +kernel
set_option maxRecDepth 20000 in
theorem dX7_multiply_24 : decode cX7_multiply 24 = .ok (.imul, 1) := by decide +kernel
set_option maxRecDepth 20000 in
theorem dX7_multiply_25 : decode cX7_multiply 25 = .ok (.invokevirtual 108, 3) := by decide +kernel
set_option maxRecDepth 20000 in
theorem dX7_multiply_28 : decode cX7_multiply 28 = .ok (.aload_n 0, 1) := by decide +kernel
set_option maxRecDepth 20000 in
theorem dX7_multiply_29 : decode cX7_multiply 29 = .ok (.iconst 2, 1) := by decide +kernel
set_option maxRecDepth 20000 in
theorem dX7_multiply_30 : decode cX7_multiply 30 = .ok (.iload_n 1, 1) := by decide +kernel
set_option maxRecDepth 20000 in
theorem dX7_multiply_31 : decode cX7_multiply 31 = .ok (.imul, 1) := by decide +kernel
set_option maxRecDepth 20000 in
theorem dX7_multiply_32 : decode cX7_multiply 32 = .ok (.iconst 1, 1) := by decide +kernel
set_option maxRecDepth 20000 in
theorem dX7_multiply_33 : decode cX7_multiply 33 = .ok (.iadd, 1) := by decide +kernel
set_option maxRecDepth 20000 in
theorem dX7_multiply_34 : decode cX7_multiply 34 = .ok (.iconst 2, 1) := by decide +kernel
set_option maxRecDepth 20000 in
theorem dX7_multiply_35 : decode cX7_multiply 35 = .ok (.iload_n 2, 1) := by decide +kernel
set_option maxRecDepth 20000 in
theorem dX7_multiply_36 : decode cX7_multiply 36 = .ok (.imul, 1) := by decide +kernel
set_option maxRecDepth 20000 in
theorem dX7_multiply_37 : decode cX7_multiply 37 = .ok (.iconst 1, 1) := by decide +kernel
set_option maxRecDepth 20000 in
theorem dX7_multiply_38 : decode cX7_multiply 38 = .ok (.iadd, 1) := by decide +kernel
set_option maxRecDepth 20000 in
theorem dX7_multiply_39 : decode cX7_multiply 39 = .ok (.iconst 2, 1) := by decide +kernel
set_option maxRecDepth 20000 in
theorem dX7_multiply_40 : decode cX7_multiply 40 = .ok (.iload_n 3, 1) := by decide +kernel
set_option maxRecDepth 20000 in
theorem dX7_multiply_41 : decode cX7_multiply 41 = .ok (.imul, 1) := by decide +kernel
set_option maxRecDepth 20000 in
theorem dX7_multiply_42 : decode cX7_multiply 42 = .ok (.iconst 1, 1) := by decide +kernel
set_option maxRecDepth 20000 in
theorem dX7_multiply_43 : decode cX7_multiply 43 = .ok (.iadd, 1) := by decide +kernel
set_option maxRecDepth 20000 in
theorem dX7_multiply_44 : decode cX7_multiply 44 = .ok (.invokevirtual 108, 3) := by decide +kernel
set_option maxRecDepth 20000 in
theorem dX7_multiply_47 : decode cX7_multiply 47 = .ok (.aload_n 0, 1) := by decide +kernel
set_option maxRecDepth 20000 in
theorem dX7_multiply_48 : decode cX7_multiply 48 = .ok (.getfield 43, 3) := by decide +kernel
set_option maxRecDepth 20000 in
theorem dX7_multiply_51 : decode cX7_multiply 51 = .ok (.iload_n 1, 1) := by decide +kernel
set_option maxRecDepth 20000 in
theorem dX7_multiply_52 : decode cX7_multiply 52 = .ok (.iload 4, 2) := by decide +kernel
set_option maxRecDepth 20000 in
theorem dX7_multiply_54 : decode cX7_multiply 54 = .ok (.iastore, 1) := by decide +kernel
set_option maxRecDepth 20000 in
theorem dX7_multiply_55 : decode cX7_multiply 55 = .ok (.aload_n 0, 1) := by decide +kernel
set_option maxRecDepth 20000 in
theorem dX7_multiply_56 : decode cX7_multiply 56 = .ok (.iload_n 1, 1) := by decide +kernel
set_option maxRecDepth 20000 in
theorem dX7_multiply_57 : decode cX7_multiply 57 = .ok (.invokevirtual 102, 3) := by decide +kernel
set_option maxRecDepth 20000 in
theorem dX7_multiply_60 : decode cX7_multiply 60 = .ok (.return_, 1) := by decide +kernel
set_option maxRecDepth 20000 in
theorem dX7_quotient_0 : decode cX7_quotient 0 = .ok (.aload_n 0, 1) := by decide +kernel
set_option maxRecDepth 20000 in
theorem dX7_quotient_1 : decode cX7_quotient 1 = .ok (.getfield 43, 3) := by decide +kernel
set_option maxRecDepth 20000 in
theorem dX7_quotient_4 : decode cX7_quotient 4 = .ok (.iload_n 2, 1) := by decide +kernel
set_option maxRecDepth 20000 in
theorem dX7_quotient_5 : decode cX7_quotient 5 = .ok (.iaload, 1) := by decide +kernel
set_option maxRecDepth 20000 in
theorem dX7_quotient_6 : decode cX7_quotient 6 = .ok (.aload_n 0, 1) := by decide +kernel
set_option maxRecDepth 20000 in
theorem dX7_quotient_7 : decode cX7_quotient 7 = .ok (.getfield 43, 3) := by decide +kernel
set_option maxRecDepth 20000 in
theorem dX7_quotient_10 : decode cX7_quotient 10 = .ok (.iload_n 3, 1) := by decide +kernel
set_option maxRecDepth 20000 in
theorem dX7_quotient_11 : decode cX7_quotient 11 = .ok (.iaload, 1) := by decide +kernel
set_option maxRecDepth 20000 in
theorem dX7_quotient_12 : decode cX7_quotient 12 = .ok (.imul, 1) := by decide +kernel
set_option maxRecDepth 20000 in
theorem dX7_quotient_13 : decode cX7_quotient 13 = .ok (.istore 4, 2) := by decide +kernel
set_option maxRecDepth 20000 in
theorem dX7_quotient_15 : decode cX7_quotient 15 = .ok (.aload_n 0, 1) := by decide +kernel
set_option maxRecDepth 20000 in
theorem dX7_quotient_16 : decode cX7_quotient 16 = .ok (.bipush 54, 2) := by decide +kernel
set_option maxRecDepth 20000 in
theorem dX7_quotient_18 : decode cX7_quotient 18 = .ok (.iconst 2, 1) := by decide +kernel
set_option maxRecDepth 20000 in
theorem dX7_quotient_19 : decode cX7_quotient 19 = .ok (.iload_n 2, 1) := by decide +kernel
set_option maxRecDepth 20000 in
theorem dX7_quotient_20 : decode cX7_quotient 20 = .ok (.imul, 1) := by decide +kernel
set_option maxRecDepth 20000 in
theorem dX7_quotient_21 : decode cX7_quotient 21 = .ok (.iconst 2, 1) := by decide +kernel
set_option maxRecDepth 20000 in
theorem dX7_quotient_22 : decode cX7_quotient 22 = .ok (.iload_n 3, 1) := by decide +kernel
set_option maxRecDepth 20000 in
theorem dX7_quotient_23 : decode cX7_quotient 23 = .ok (.imul, 1) := by decide +kernel
set_option maxRecDepth 20000 in
theorem dX7_quotient_24 : decode cX7_quotient 24 = .ok (.iconst 1, 1) := by decide +kernel
set_option maxRecDepth 20000 in
theorem dX7_quotient_25 : decode cX7_quotient 25 = .ok (.iadd, 1) := by decide +kernel
set_option maxRecDepth 20000 in
theorem dX7_quotient_26 : decode cX7_quotient 26 = .ok (.invokevirtual 108, 3) := by decide +kernel
set_option maxRecDepth 20000 in
theorem dX7_quotient_29 : decode cX7_quotient 29 = .ok (.aload_n 0, 1) := by decide +kernel
set_option maxRecDepth 20000 in
theorem dX7_quotient_30 : decode cX7_quotient 30 = .ok (.bipush 55, 2) := by decide +kernel
set_option maxRecDepth 20000 in
theorem dX7_quotient_32 : decode cX7_quotient 32 = .ok (.iconst 2, 1) := by decide +kernel
set_option maxRecDepth 20000 in
theorem dX7_quotient_33 : decode cX7_quotient 33 = .ok (.iload_n 2, 1) := by decide +kernel
set_option maxRecDepth 20000 in
theorem dX7_quotient_34 : decode cX7_quotient 34 = .ok (.imul, 1) := by decide +kernel
set_option maxRecDepth 20000 in
theorem dX7_quotient_35 : decode cX7_quotient 35 = .ok (.iconst 1, 1) := by decide +kernel
set_option maxRecDepth 20000 in
theorem dX7_quotient_36 : decode cX7_quotient 36 = .ok (.iadd, 1) := by decide +kernel
set_option maxRecDepth 20000 in
theorem dX7_quotient_37 : decode cX7_quotient 37 = .ok (.iconst 2, 1) := by decide +kernel
set_option maxRecDepth 20000 in
theorem dX7_quotient_38 : decode cX7_quotient 38 = .ok (.iload_n 3, 1) := by decide +kernel
set_option maxRecDepth 20000 in
theorem dX7_quotient_39 : decode cX7_quotient 39 = .ok (.imul, 1) := by decide +kernel
set_option maxRecDepth 20000 in
theorem dX7_quotient_40 : decode cX7_quotient 40 = .ok (.invokevirtual 108, 3) := by decide +kernel
set_option maxRecDepth 20000 in
theorem dX7_quotient_43 : decode cX7_quotient 43 = .ok (.aload_n 0, 1) := by decide +kernel
set_option maxRecDepth 20000 in
theorem dX7_quotient_44 : decode cX7_quotient 44 = .ok (.iconst 2, 1) := by decide +kernel
set_option maxRecDepth 20000 in
theorem dX7_quotient_45 : decode cX7_quotient 45 = .ok (.iload_n 1, 1) := by decide +kernel
set_option maxRecDepth 20000 in
theorem dX7_quotient_46 : decode cX7_quotient 46 = .ok (.imul, 1) := by decide +kernel
set_option maxRecDepth 20000 in
theorem dX7_quotient_47 : decode cX7_quotient 47 = .ok (.bipush 54, 2) := by decide +kernel
set_option maxRecDepth 20000 in
theorem dX7_quotient_49 : decode cX7_quotient 49 = .ok (.invokevirtual 71, 3) := by decide +kernel
set_option maxRecDepth 20000 in
theorem dX7_quotient_52 : decode cX7_quotient 52 = .ok (.aload_n 0, 1) := by decide +kernel
set_option maxRecDepth 20000 in
theorem dX7_quotient_53 : decode cX7_quotient 53 = .ok (.iconst 2, 1) := by decide +kernel
set_option maxRecDepth 20000 in
theorem dX7_quotient_54 : decode cX7_quotient 54 = .ok (.iload_n 1, 1) := by decide +kernel
set_option maxRecDepth 20000 in
theorem dX7_quotient_55 : decode cX7_quotient 55 = .ok (.imul, 1) := by decide +kernel
set_option maxRecDepth 20000 in
theorem dX7_quotient_56 : decode cX7_quotient 56 = .ok (.iconst 1, 1) := by decide +kernel
set_option maxRecDepth 20000 in
theorem dX7_quotient_57 : decode cX7_quotient 57 = .ok (.iadd, 1) := by decide +kernel
set_option maxRecDepth 20000 in
theorem dX7_quotient_58 : decode cX7_quotient 58 = .ok (.bipush 55, 2) := by decide +kernel
set_option maxRecDepth 20000 in
theorem dX7_quotient_60 : decode cX7_quotient 60 = .ok (.invokevirtual 71, 3) := by decide +kernel
set_option maxRecDepth 20000 in
theorem dX7_quotient_63 : decode cX7_quotient 63 = .ok (.aload_n 0, 1) := by decide +kernel
set_option maxRecDepth 20000 in
theorem dX7_quotient_64 : decode cX7_quotient 64 = .ok (.getfield 43, 3) := by decide +kernel
set_option maxRecDepth 20000 in
theorem dX7_quotient_67 : decode cX7_quotient 67 = .ok (.iload_n 1, 1) := by decide +kernel
set_option maxRecDepth 20000 in
theorem dX7_quotient_68 : decode cX7_quotient 68 = .ok (.iload 4, 2) := by decide +kernel
set_option maxRecDepth 20000 in
theorem dX7_quotient_70 : decode cX7_quotient 70 = .ok (.iastore, 1) := by decide +kernel
set_option maxRecDepth 20000 in
theorem dX7_quotient_71 : decode cX7_quotient 71 = .ok (.aload_n 0, 1) := by decide +kernel
set_option maxRecDepth 20000 in
theorem dX7_quotient_72 : decode cX7_quotient 72 = .ok (.iload_n 1, 1) := by decide +kernel
set_option maxRecDepth 20000 in
theorem dX7_quotient_73 : decode cX7_quotient 73 = .ok (.invokevirtual 102, 3) := by decide +kernel
set_option maxRecDepth 20000 in
theorem dX7_quotient_76 : decode cX7_quotient 76 = .ok (.return_, 1) := by decide +kernel
set_option maxRecDepth 20000 in
theorem dX7_cov_0 : decode cX7_cov 0 = .ok (.iconst 2, 1) := by decide +kernel
set_option maxRecDepth 20000 in
theorem dX7_cov_1 : decode cX7_cov 1 = .ok (.iconst 2, 1) := by decide +kernel
set_option maxRecDepth 20000 in
theorem dX7_cov_2 : decode cX7_cov 2 = .ok (.iload_n 0, 1) := by decide +kernel
set_option maxRecDepth 20000 in
theorem dX7_cov_3 : decode cX7_cov 3 = .ok (.imul, 1) := by decide +kernel
set_option maxRecDepth 20000 in
theorem dX7_cov_4 : decode cX7_cov 4 = .ok (.iadd, 1) := by decide +kernel
set_option maxRecDepth 20000 in
theorem dX7_cov_5 : decode cX7_cov 5 = .ok (.iload_n 1, 1) := by decide +kernel
set_option maxRecDepth 20000 in
theorem dX7_cov_6 : decode cX7_cov 6 = .ok (.iadd, 1) := by decide +kernel
set_option maxRecDepth 20000 in
theorem dX7_cov_7 : decode cX7_cov 7 = .ok (.ireturn, 1) := by decide +kernel
set_option maxRecDepth 20000 in
theorem dX7_doPredict_0 : decode cX7_doPredict 0 = .ok (.iconst 0, 1) := by decide +kernel
set_option maxRecDepth 20000 in
theorem dX7_doPredict_1 : decode cX7_doPredict 1 = .ok (.istore_n 1, 1) := by decide +kernel
set_option maxRecDepth 20000 in
theorem dX7_doPredict_2 : decode cX7_doPredict 2 = .ok (.iload_n 1, 1) := by decide +kernel
set_option maxRecDepth 20000 in
theorem dX7_doPredict_3 : decode cX7_doPredict 3 = .ok (.aload_n 0, 1) := by decide +kernel
set_option maxRecDepth 20000 in
theorem dX7_doPredict_4 : decode cX7_doPredict 4 = .ok (.getfield 13, 3) := by decide +kernel
set_option maxRecDepth 20000 in
theorem dX7_doPredict_7 : decode cX7_doPredict 7 = .ok (.if_icmp .ge 100, 3) := by decide +kernel
set_option maxRecDepth 20000 in
theorem dX7_doPredict_10 : decode cX7_doPredict 10 = .ok (.iconst 0, 1) := by decide +kernel
set_option maxRecDepth 20000 in
theorem dX7_doPredict_11 : decode cX7_doPredict 11 = .ok (.istore_n 2, 1) := by decide +kernel
set_option maxRecDepth 20000 in
theorem dX7_doPredict_12 : decode cX7_doPredict 12 = .ok (.iload_n 2, 1) := by decide +kernel
set_option maxRecDepth 20000 in
theorem dX7_doPredict_13 : decode cX7_doPredict 13 = .ok (.aload_n 0, 1) := by decide +kernel
set_option maxRecDepth 20000 in
theorem dX7_doPredict_14 : decode cX7_doPredict 14 = .ok (.getfield 13, 3) := by decide +kernel
set_option maxRecDepth 20000 in
theorem dX7_doPredict_17 : decode cX7_doPredict 17 = .ok (.if_icmp .ge 84, 3) := by decide +kernel
set_option maxRecDepth 20000 in
theorem dX7_doPredict_20 : decode cX7_doPredict 20 = .ok (.aload_n 0, 1) := by decide +kernel
set_option maxRecDepth 20000 in
theorem dX7_doPredict_21 : decode cX7_doPredict 21 = .ok (.bipush 10, 2) := by decide +kernel
set_option maxRecDepth 20000 in
theorem dX7_doPredict_23 : decode cX7_doPredict 23 = .ok (.iconst 2, 1) := by decide +kernel
set_option maxRecDepth 20000 in
theorem dX7_doPredict_24 : decode cX7_doPredict 24 = .ok (.iload_n 1, 1) := by decide +kernel
set_option maxRecDepth 20000 in
theorem dX7_doPredict_25 : decode cX7_doPredict 25 = .ok (.imul, 1) := by decide +kernel
set_option maxRecDepth 20000 in
theorem dX7_doPredict_26 : decode cX7_doPredict 26 = .ok (.iadd, 1) := by decide +kernel
set_option maxRecDepth 20000 in
theorem dX7_doPredict_27 : decode cX7_doPredict 27 = .ok (.iload_n 2, 1) := by decide +kernel
set_option maxRecDepth 20000 in
theorem dX7_doPredict_28 : decode cX7_doPredict 28 = .ok (.iadd, 1) := by decide +kernel
set_option maxRecDepth 20000 in
theorem dX7_doPredict_29 : decode cX7_doPredict 29 = .ok (.iconst 0, 1) := by decide +kernel
set_option maxRecDepth 20000 in
theorem dX7_doPredict_30 : decode cX7_doPredict 30 = .ok (.iconst 1, 1) := by decide +kernel
set_option maxRecDepth 20000 in
theorem dX7_doPredict_31 : decode cX7_doPredict 31 = .ok (.invokevirtual 105, 3) := by decide +kernel
set_option maxRecDepth 20000 in
theorem dX7_doPredict_34 : decode cX7_doPredict 34 = .ok (.iconst 0, 1) := by decide +kernel
set_option maxRecDepth 20000 in
theorem dX7_doPredict_35 : decode cX7_doPredict 35 = .ok (.istore_n 3, 1) := by decide +kernel
set_option maxRecDepth 20000 in
theorem dX7_doPredict_36 : decode cX7_doPredict 36 = .ok (.iload_n 3, 1) := by decide +kernel
set_option maxRecDepth 20000 in
theorem dX7_doPredict_37 : decode cX7_doPredict 37 = .ok (.aload_n 0, 1) := by decide +kernel
set_option maxRecDepth 20000 in
theorem dX7_doPredict_38 : decode cX7_doPredict 38 = .ok (.getfield 13, 3) := by decide +kernel
set_option maxRecDepth 20000 in
theorem dX7_doPredict_41 : decode cX7_doPredict 41 = .ok (.if_icmp .ge 54, 3) := by decide +kernel
set_option maxRecDepth 20000 in
theorem dX7_doPredict_44 : decode cX7_doPredict 44 = .ok (.aload_n 0, 1) := by decide +kernel
set_option maxRecDepth 20000 in
theorem dX7_doPredict_45 : decode cX7_doPredict 45 = .ok (.bipush 20, 2) := by decide +kernel
set_option maxRecDepth 20000 in
theorem dX7_doPredict_47 : decode cX7_doPredict 47 = .ok (.iconst 2, 1) := by decide +kernel
set_option maxRecDepth 20000 in
theorem dX7_doPredict_48 : decode cX7_doPredict 48 = .ok (.iload_n 1, 1) := by decide +kernel
set_option maxRecDepth 20000 in
theorem dX7_doPredict_49 : decode cX7_doPredict 49 = .ok (.iload_n 3, 1) := by decide +kernel
set_option maxRecDepth 20000 in
theorem dX7_doPredict_50 : decode cX7_doPredict 50 = .ok (.invokevirtual 117, 3) := by decide +kernel
set_option maxRecDepth 20000 in
theorem dX7_doPredict_53 : decode cX7_doPredict 53 = .ok (.aload_n 0, 1) := by decide +kernel
set_option maxRecDepth 20000 in
theorem dX7_doPredict_54 : decode cX7_doPredict 54 = .ok (.bipush 21, 2) := by decide +kernel
set_option maxRecDepth 20000 in
theorem dX7_doPredict_56 : decode cX7_doPredict 56 = .ok (.bipush 20, 2) := by decide +kernel
set_option maxRecDepth 20000 in
theorem dX7_doPredict_58 : decode cX7_doPredict 58 = .ok (.iload_n 3, 1) := by decide +kernel
set_option maxRecDepth 20000 in
theorem dX7_doPredict_59 : decode cX7_doPredict 59 = .ok (.iload_n 2, 1) := by decide +kernel
set_option maxRecDepth 20000 in
theorem dX7_doPredict_60 : decode cX7_doPredict 60 = .ok (.invokestatic 121, 3) := by decide +kernel
set_option maxRecDepth 20000 in
theorem dX7_doPredict_63 : decode cX7_doPredict 63 = .ok (.invokevirtual 124, 3) := by decide +kernel
set_option maxRecDepth 20000 in
theorem dX7_doPredict_66 : decode cX7_doPredict 66 = .ok (.aload_n 0, 1) := by decide +kernel
set_option maxRecDepth 20000 in
theorem dX7_doPredict_67 : decode cX7_doPredict 67 = .ok (.bipush 10, 2) := by decide +kernel
set_option maxRecDepth 20000 in
theorem dX7_doPredict_69 : decode cX7_doPredict 69 = .ok (.iconst 2, 1) := by decide +kernel
set_option maxRecDepth 20000 in
theorem dX7_doPredict_70 : decode cX7_doPredict 70 = .ok (.iload_n 1, 1) := by decide +kernel
set_option maxRecDepth 20000 in
theorem dX7_doPredict_71 : decode cX7_doPredict 71 = .ok (.imul, 1) := by decide +kernel
set_option maxRecDepth 20000 in
theorem dX7_doPredict_72 : decode cX7_doPredict 72 = .ok (.iadd, 1) := by decide +kernel
set_option maxRecDepth 20000 in
theorem dX7_doPredict_73 : decode cX7_doPredict 73 = .ok (.iload_n 2, 1) := by decide +kernel
set_option maxRecDepth 20000 in
theorem dX7_doPredict_74 : decode cX7_doPredict 74 = .ok (.iadd, 1) := by decide +kernel
set_option maxRecDepth 20000 in
theorem dX7_doPredict_75 : decode cX7_doPredict 75 = .ok (.bipush 10, 2) := by decide +kernel
set_option maxRecDepth 20000 in
theorem dX7_doPredict_77 : decode cX7_doPredict 77 = .ok (.iconst 2, 1) := by decide +kernel
set_option maxRecDepth 20000 in
theorem dX7_doPredict_78 : decode cX7_doPredict 78 = .ok (.iload_n 1, 1) := by decide +kernel
set_option maxRecDepth 20000 in
theorem dX7_doPredict_79 : decode cX7_doPredict 79 = .ok (.imul, 1) := by decide +kernel
set_option maxRecDepth 20000 in
theorem dX7_doPredict_80 : decode cX7_doPredict 80 = .ok (.iadd, 1) := by decide +kernel
set_option maxRecDepth 20000 in
theorem dX7_doPredict_81 : decode cX7_doPredict 81 = .ok (.iload_n 2, 1) := by decide +kernel
set_option maxRecDepth 20000 in
theorem dX7_doPredict_82 : decode cX7_doPredict 82 = .ok (.iadd, 1) := by decide +kernel
set_option maxRecDepth 20000 in
theorem dX7_doPredict_83 : decode cX7_doPredict 83 = .ok (.bipush 21, 2) := by decide +kernel
set_option maxRecDepth 20000 in
theorem dX7_doPredict_85 : decode cX7_doPredict 85 = .ok (.iconst 1, 1) := by decide +kernel
set_option maxRecDepth 20000 in
theorem dX7_doPredict_86 : decode cX7_doPredict 86 = .ok (.invokevirtual 127, 3) := by decide +kernel
set_option maxRecDepth 20000 in
theorem dX7_doPredict_89 : decode cX7_doPredict 89 = .ok (.iinc 3 1, 3) := by decide +kernel
set_option maxRecDepth 20000 in
theorem dX7_doPredict_92 : decode cX7_doPredict 92 = .ok (.goto (-56), 3) := by decide +kernel
set_option maxRecDepth 20000 in
theorem dX7_doPredict_95 : decode cX7_doPredict 95 = .ok (.iinc 2 1, 3) := by decide +kernel
set_option maxRecDepth 20000 in
theorem dX7_doPredict_98 : decode cX7_doPredict 98 = .ok (.goto (-86), 3) := by decide +kernel
set_option maxRecDepth 20000 in
theorem dX7_doPredict_101 : decode cX7_doPredict 101 = .ok (.iinc 1 1, 3) := by decide +kernel
set_option maxRecDepth 20000 in
theorem dX7_doPredict_104 : decode cX7_doPredict 104 = .ok (.goto (-102), 3) := by decide +kernel
set_option maxRecDepth 20000 in
theorem dX7_doPredict_107 : decode cX7_doPredict 107 = .ok (.iconst 0, 1) := by decide +kernel
set_option maxRecDepth 20000 in
theorem dX7_doPredict_108 : decode cX7_doPredict 108 = .ok (.istore_n 1, 1) := by decide +kernel
set_option maxRecDepth 20000 in
theorem dX7_doPredict_109 : decode cX7_doPredict 109 = .ok (.iload_n 1, 1) := by decide +kernel
set_option maxRecDepth 20000 in
theorem dX7_doPredict_110 : decode cX7_doPredict 110 = .ok (.aload_n 0, 1) := by decide +kernel
set_option maxRecDepth 20000 in
theorem dX7_doPredict_111 : decode cX7_doPredict 111 = .ok (.getfield 13, 3) := by decide +kernel
set_option maxRecDepth 20000 in
theorem dX7_doPredict_114 : decode cX7_doPredict 114 = .ok (.if_icmp .ge 97, 3) := by decide +kernel
set_option maxRecDepth 20000 in
theorem dX7_doPredict_117 : decode cX7_doPredict 117 = .ok (.iconst 0, 1) := by decide +kernel
set_option maxRecDepth 20000 in
theorem dX7_doPredict_118 : decode cX7_doPredict 118 = .ok (.istore_n 2, 1) := by decide +kernel
set_option maxRecDepth 20000 in
theorem dX7_doPredict_119 : decode cX7_doPredict 119 = .ok (.iload_n 2, 1) := by decide +kernel
set_option maxRecDepth 20000 in
theorem dX7_doPredict_120 : decode cX7_doPredict 120 = .ok (.aload_n 0, 1) := by decide +kernel
set_option maxRecDepth 20000 in
theorem dX7_doPredict_121 : decode cX7_doPredict 121 = .ok (.getfield 13, 3) := by decide +kernel
set_option maxRecDepth 20000 in
theorem dX7_doPredict_124 : decode cX7_doPredict 124 = .ok (.if_icmp .ge 81, 3) := by decide +kernel
set_option maxRecDepth 20000 in
theorem dX7_doPredict_127 : decode cX7_doPredict 127 = .ok (.aload_n 0, 1) := by decide +kernel
set_option maxRecDepth 20000 in
theorem dX7_doPredict_128 : decode cX7_doPredict 128 = .ok (.bipush 14, 2) := by decide +kernel
set_option maxRecDepth 20000 in
theorem dX7_doPredict_130 : decode cX7_doPredict 130 = .ok (.iconst 4, 1) := by decide +kernel
set_option maxRecDepth 20000 in
theorem dX7_doPredict_131 : decode cX7_doPredict 131 = .ok (.iload_n 1, 1) := by decide +kernel
set_option maxRecDepth 20000 in
theorem dX7_doPredict_132 : decode cX7_doPredict 132 = .ok (.iload_n 2, 1) := by decide +kernel
set_option maxRecDepth 20000 in
theorem dX7_doPredict_133 : decode cX7_doPredict 133 = .ok (.invokevirtual 117, 3) := by decide +kernel
set_option maxRecDepth 20000 in
theorem dX7_doPredict_136 : decode cX7_doPredict 136 = .ok (.iconst 0, 1) := by decide +kernel
set_option maxRecDepth 20000 in
theorem dX7_doPredict_137 : decode cX7_doPredict 137 = .ok (.istore_n 3, 1) := by decide +kernel
set_option maxRecDepth 20000 in
theorem dX7_doPredict_138 : decode cX7_doPredict 138 = .ok (.iload_n 3, 1) := by decide +kernel
set_option maxRecDepth 20000 in
theorem dX7_doPredict_139 : decode cX7_doPredict 139 = .ok (.aload_n 0, 1) := by decide +kernel
set_option maxRecDepth 20000 in
theorem dX7_doPredict_140 : decode cX7_doPredict 140 = .ok (.getfield 13, 3) := by decide +kernel
set_option maxRecDepth 20000 in
theorem dX7_doPredict_143 : decode cX7_doPredict 143 = .ok (.if_icmp .ge 45, 3) := by decide +kernel
set_option maxRecDepth 20000 in
theorem dX7_doPredict_146 : decode cX7_doPredict 146 = .ok (.aload_n 0, 1) := by decide +kernel
set_option maxRecDepth 20000 in
theorem dX7_doPredict_147 : decode cX7_doPredict 147 = .ok (.bipush 20, 2) := by decide +kernel
set_option maxRecDepth 20000 in
theorem dX7_doPredict_149 : decode cX7_doPredict 149 = .ok (.iconst 2, 1) := by decide +kernel
set_option maxRecDepth 20000 in
theorem dX7_doPredict_150 : decode cX7_doPredict 150 = .ok (.iload_n 2, 1) := by decide +kernel
set_option maxRecDepth 20000 in
theorem dX7_doPredict_151 : decode cX7_doPredict 151 = .ok (.iload_n 3, 1) := by decide +kernel
set_option maxRecDepth 20000 in
theorem dX7_doPredict_152 : decode cX7_doPredict 152 = .ok (.invokevirtual 117, 3) := by decide +kernel
set_option maxRecDepth 20000 in
theorem dX7_doPredict_155 : decode cX7_doPredict 155 = .ok (.aload_n 0, 1) := by decide +kernel
set_option maxRecDepth 20000 in
theorem dX7_doPredict_156 : decode cX7_doPredict 156 = .ok (.bipush 21, 2) := by decide +kernel
set_option maxRecDepth 20000 in
theorem dX7_doPredict_158 : decode cX7_doPredict 158 = .ok (.bipush 10, 2) := by decide +kernel
set_option maxRecDepth 20000 in
theorem dX7_doPredict_160 : decode cX7_doPredict 160 = .ok (.iconst 2, 1) := by decide +kernel
set_option maxRecDepth 20000 in
theorem dX7_doPredict_161 : decode cX7_doPredict 161 = .ok (.iload_n 1, 1) := by decide +kernel
set_option maxRecDepth 20000 in
theorem dX7_doPredict_162 : decode cX7_doPredict 162 = .ok (.imul, 1) := by decide +kernel
set_option maxRecDepth 20000 in
theorem dX7_doPredict_163 : decode cX7_doPredict 163 = .ok (.iadd, 1) := by decide +kernel
set_option maxRecDepth 20000 in
theorem dX7_doPredict_164 : decode cX7_doPredict 164 = .ok (.iload_n 3, 1) := by decide +kernel
set_option maxRecDepth 20000 in
theorem dX7_doPredict_165 : decode cX7_doPredict 165 = .ok (.iadd, 1) := by decide +kernel
set_option maxRecDepth 20000 in
theorem dX7_doPredict_166 : decode cX7_doPredict 166 = .ok (.bipush 20, 2) := by decide +kernel
set_option maxRecDepth 20000 in
theorem dX7_doPredict_168 : decode cX7_doPredict 168 = .ok (.invokevirtual 124, 3) := by decide +kernel
set_option maxRecDepth 20000 in
theorem dX7_doPredict_171 : decode cX7_doPredict 171 = .ok (.aload_n 0, 1) := by decide +kernel
set_option maxRecDepth 20000 in
theorem dX7_doPredict_172 : decode cX7_doPredict 172 = .ok (.bipush 14, 2) := by decide +kernel
set_option maxRecDepth 20000 in
theorem dX7_doPredict_174 : decode cX7_doPredict 174 = .ok (.bipush 14, 2) := by decide +kernel
set_option maxRecDepth 20000 in
theorem dX7_doPredict_176 : decode cX7_doPredict 176 = .ok (.bipush 21, 2) := by decide +kernel
set_option maxRecDepth 20000 in
theorem dX7_doPredict_178 : decode cX7_doPredict 178 = .ok (.iconst 1, 1) := by decide +kernel
set_option maxRecDepth 20000 in
theorem dX7_doPredict_179 : decode cX7_doPredict 179 = .ok (.invokevirtual 127, 3) := by decide +kernel
set_option maxRecDepth 20000 in
theorem dX7_doPredict_182 : decode cX7_doPredict 182 = .ok (.iinc 3 1, 3) := by decide +kernel
set_option maxRecDepth 20000 in
theorem dX7_doPredict_185 : decode cX7_doPredict 185 = .ok (.goto (-47), 3) := by decide +kernel
set_option maxRecDepth 20000 in
theorem dX7_doPredict_188 : decode cX7_doPredict 188 = .ok (.aload_n 0, 1) := by decide +kernel
set_option maxRecDepth 20000 in
theorem dX7_doPredict_189 : decode cX7_doPredict 189 = .ok (.iload_n 1, 1) := by decide +kernel
set_option maxRecDepth 20000 in
theorem dX7_doPredict_190 : decode cX7_doPredict 190 = .ok (.iload_n 2, 1) := by decide +kernel
set_option maxRecDepth 20000 in
theorem dX7_doPredict_191 : decode cX7_doPredict 191 = .ok (.invokestatic 121, 3) := by decide +kernel
set_option maxRecDepth 20000 in
theorem dX7_doPredict_194 : decode cX7_doPredict 194 = .ok (.bipush 14, 2) := by decide +kernel
set_option maxRecDepth 20000 in
theorem dX7_doPredict_196 : decode cX7_doPredict 196 = .ok (.invokevirtual 130, 3) := by decide +kernel
set_option maxRecDepth 20000 in
theorem dX7_doPredict_199 : decode cX7_doPredict 199 = .ok (.iinc 2 1, 3) := by decide +kernel
set_option maxRecDepth 20000 in
theorem dX7_doPredict_202 : decode cX7_doPredict 202 = .ok (.goto (-83), 3) := by decide +kernel
set_option maxRecDepth 20000 in
theorem dX7_doPredict_205 : decode cX7_doPredict 205 = .ok (.iinc 1 1, 3) := by decide +kernel
set_option maxRecDepth 20000 in
theorem dX7_doPredict_208 : decode cX7_doPredict 208 = .ok (.goto (-99), 3) := by decide +kernel
set_option maxRecDepth 20000 in
theorem dX7_doPredict_211 : decode cX7_doPredict 211 = .ok (.iconst 0, 1) := by decide +kernel
set_option maxRecDepth 20000 in
theorem dX7_doPredict_212 : decode cX7_doPredict 212 = .ok (.istore_n 1, 1) := by decide +kernel
set_option maxRecDepth 20000 in
theorem dX7_doPredict_213 : decode cX7_doPredict 213 = .ok (.iload_n 1, 1) := by decide +kernel
set_option maxRecDepth 20000 in
theorem dX7_doPredict_214 : decode cX7_doPredict 214 = .ok (.aload_n 0, 1) := by decide +kernel
set_option maxRecDepth 20000 in
theorem dX7_doPredict_215 : decode cX7_doPredict 215 = .ok (.getfield 13, 3) := by decide +kernel
set_option maxRecDepth 20000 in
theorem dX7_doPredict_218 : decode cX7_doPredict 218 = .ok (.if_icmp .ge 69, 3) := by decide +kernel
set_option maxRecDepth 20000 in
theorem dX7_doPredict_221 : decode cX7_doPredict 221 = .ok (.aload_n 0, 1) := by decide +kernel
set_option maxRecDepth 20000 in
theorem dX7_doPredict_222 : decode cX7_doPredict 222 = .ok (.bipush 10, 2) := by decide +kernel
set_option maxRecDepth 20000 in
theorem dX7_doPredict_224 : decode cX7_doPredict 224 = .ok (.iload_n 1, 1) := by decide +kernel
set_option maxRecDepth 20000 in
theorem dX7_doPredict_225 : decode cX7_doPredict 225 = .ok (.iadd, 1) := by decide +kernel
set_option maxRecDepth 20000 in
theorem dX7_doPredict_226 : decode cX7_doPredict 226 = .ok (.iconst 3, 1) := by decide +kernel
set_option maxRecDepth 20000 in
theorem dX7_doPredict_227 : decode cX7_doPredict 227 = .ok (.iload_n 1, 1) := by decide +kernel
set_option maxRecDepth 20000 in
theorem dX7_doPredict_228 : decode cX7_doPredict 228 = .ok (.iconst 0, 1) := by decide +kernel
set_option maxRecDepth 20000 in
theorem dX7_doPredict_229 : decode cX7_doPredict 229 = .ok (.invokevirtual 117, 3) := by decide +kernel
set_option maxRecDepth 20000 in
theorem dX7_doPredict_232 : decode cX7_doPredict 232 = .ok (.iconst 0, 1) := by decide +kernel
set_option maxRecDepth 20000 in
theorem dX7_doPredict_233 : decode cX7_doPredict 233 = .ok (.istore_n 2, 1) := by decide +kernel
set_option maxRecDepth 20000 in
theorem dX7_doPredict_234 : decode cX7_doPredict 234 = .ok (.iload_n 2, 1) := by decide +kernel
set_option maxRecDepth 20000 in
theorem dX7_doPredict_235 : decode cX7_doPredict 235 = .ok (.aload_n 0, 1) := by decide +kernel
set_option maxRecDepth 20000 in
theorem dX7_doPredict_236 : decode cX7_doPredict 236 = .ok (.getfield 13, 3) := by decide +kernel
set_option maxRecDepth 20000 in
theorem dX7_doPredict_239 : decode cX7_doPredict 239 = .ok (.if_icmp .ge 42, 3) := by decide +kernel
set_option maxRecDepth 20000 in
theorem dX7_doPredict_242 : decode cX7_doPredict 242 = .ok (.aload_n 0, 1) := by decide +kernel
set_option maxRecDepth 20000 in
theorem dX7_doPredict_243 : decode cX7_doPredict 243 = .ok (.bipush 20, 2) := by decide +kernel
set_option maxRecDepth 20000 in
theorem dX7_doPredict_245 : decode cX7_doPredict 245 = .ok (.iconst 2, 1) := by decide +kernel
set_option maxRecDepth 20000 in
theorem dX7_doPredict_246 : decode cX7_doPredict 246 = .ok (.iload_n 1, 1) := by decide +kernel
set_option maxRecDepth 20000 in
theorem dX7_doPredict_247 : decode cX7_doPredict 247 = .ok (.iload_n 2, 1) := by decide +kernel
set_option maxRecDepth 20000 in
theorem dX7_doPredict_248 : decode cX7_doPredict 248 = .ok (.invokevirtual 117, 3) := by decide +kernel
set_option maxRecDepth 20000 in
theorem dX7_doPredict_251 : decode cX7_doPredict 251 = .ok (.aload_n 0, 1) := by decide +kernel
set_option maxRecDepth 20000 in
theorem dX7_doPredict_252 : decode cX7_doPredict 252 = .ok (.bipush 21, 2) := by decide +kernel
set_option maxRecDepth 20000 in
theorem dX7_doPredict_254 : decode cX7_doPredict 254 = .ok (.bipush 20, 2) := by decide +kernel
set_option maxRecDepth 20000 in
theorem dX7_doPredict_256 : decode cX7_doPredict 256 = .ok (.iload_n 2, 1) := by decide +kernel
set_option maxRecDepth 20000 in
theorem dX7_doPredict_257 : decode cX7_doPredict 257 = .ok (.invokevirtual 124, 3) := by decide +kernel
set_option maxRecDepth 20000 in
theorem dX7_doPredict_260 : decode cX7_doPredict 260 = .ok (.aload_n 0, 1) := by decide +kernel
set_option maxRecDepth 20000 in
theorem dX7_doPredict_261 : decode cX7_doPredict 261 = .ok (.bipush 10, 2) := by decide +kernel
set_option maxRecDepth 20000 in
theorem dX7_doPredict_263 : decode cX7_doPredict 263 = .ok (.iload_n 1, 1) := by decide +kernel
set_option maxRecDepth 20000 in
theorem dX7_doPredict_264 : decode cX7_doPredict 264 = .ok (.iadd, 1) := by decide +kernel
set_option maxRecDepth 20000 in
theorem dX7_doPredict_265 : decode cX7_doPredict 265 = .ok (.bipush 10, 2) := by decide +kernel
set_option maxRecDepth 20000 in
theorem dX7_doPredict_267 : decode cX7_doPredict 267 = .ok (.iload_n 1, 1) := by decide +kernel
set_option maxRecDepth 20000 in
theorem dX7_doPredict_268 : decode cX7_doPredict 268 = .ok (.iadd, 1) := by decide +kernel
set_option maxRecDepth 20000 in
theorem dX7_doPredict_269 : decode cX7_doPredict 269 = .ok (.bipush 21, 2) := by decide +kernel
set_option maxRecDepth 20000 in
theorem dX7_doPredict_271 : decode cX7_doPredict 271 = .ok (.iconst 1, 1) := by decide +kernel
set_option maxRecDepth 20000 in
theorem dX7_doPredict_272 : decode cX7_doPredict 272 = .ok (.invokevirtual 127, 3) := by decide +kernel
set_option maxRecDepth 20000 in
theorem dX7_doPredict_275 : decode cX7_doPredict 275 = .ok (.iinc 2 1, 3) := by decide +kernel
set_option maxRecDepth 20000 in
theorem dX7_doPredict_278 : decode cX7_doPredict 278 = .ok (.goto (-44), 3) := by decide +kernel
set_option maxRecDepth 20000 in
theorem dX7_doPredict_281 : decode cX7_doPredict 281 = .ok (.iinc 1 1, 3) := by decide +kernel
set_option maxRecDepth 20000 in
theorem dX7_doPredict_284 : decode cX7_doPredict 284 = .ok (.goto (-71), 3) := by decide +kernel
set_option maxRecDepth 20000 in
theorem dX7_doPredict_287 : decode cX7_doPredict 287 = .ok (.iconst 0, 1) := by decide +kernel
set_option maxRecDepth 20000 in
theorem dX7_doPredict_288 : decode cX7_doPredict 288 = .ok (.istore_n 1, 1) := by decide +kernel
set_option maxRecDepth 20000 in
theorem dX7_doPredict_289 : decode cX7_doPredict 289 = .ok (.iload_n 1, 1) := by decide +kernel
set_option maxRecDepth 20000 in
theorem dX7_doPredict_290 : decode cX7_doPredict 290 = .ok (.aload_n 0, 1) := by decide +kernel
set_option maxRecDepth 20000 in
theorem dX7_doPredict_291 : decode cX7_doPredict 291 = .ok (.getfield 13, 3) := by decide +kernel
set_option maxRecDepth 20000 in
theorem dX7_doPredict_294 : decode cX7_doPredict 294 = .ok (.if_icmp .ge 18, 3) := by decide +kernel
set_option maxRecDepth 20000 in
theorem dX7_doPredict_297 : decode cX7_doPredict 297 = .ok (.aload_n 0, 1) := by decide +kernel
set_option maxRecDepth 20000 in
theorem dX7_doPredict_298 : decode cX7_doPredict 298 = .ok (.iload_n 1, 1) := by decide +kernel
set_option maxRecDepth 20000 in
theorem dX7_doPredict_299 : decode cX7_doPredict 299 = .ok (.bipush 10, 2) := by decide +kernel
set_option maxRecDepth 20000 in
theorem dX7_doPredict_301 : decode cX7_doPredict 301 = .ok (.iload_n 1, 1) := by decide +kernel
set_option maxRecDepth 20000 in
theorem dX7_doPredict_302 : decode cX7_doPredict 302 = .ok (.iadd, 1) := by decide +kernel
set_option maxRecDepth 20000 in
theorem dX7_doPredict_303 : decode cX7_doPredict 303 = .ok (.invokevirtual 130, 3) := by decide +kernel
set_option maxRecDepth 20000 in
theorem dX7_doPredict_306 : decode cX7_doPredict 306 = .ok (.iinc 1 1, 3) := by decide +kernel
set_option maxRecDepth 20000 in
theorem dX7_doPredict_309 : decode cX7_doPredict 309 = .ok (.goto (-20), 3) := by decide +kernel
set_option maxRecDepth 20000 in
theorem dX7_doPredict_312 : decode cX7_doPredict 312 = .ok (.return_, 1) := by decide +kernel
set_option maxRecDepth 20000 in
theorem dX7_variance_0 : decode cX7_variance 0 = .ok (.aload_n 0, 1) := by decide +kernel
set_option maxRecDepth 20000 in
theorem dX7_variance_1 : decode cX7_variance 1 = .ok (.bipush 12, 2) := by decide +kernel
set_option maxRecDepth 20000 in
theorem dX7_variance_3 : decode cX7_variance 3 = .ok (.bipush 6, 2) := by decide +kernel
set_option maxRecDepth 20000 in
theorem dX7_variance_5 : decode cX7_variance 5 = .ok (.iconst 0, 1) := by decide +kernel
set_option maxRecDepth 20000 in
theorem dX7_variance_6 : decode cX7_variance 6 = .ok (.iconst 0, 1) := by decide +kernel
set_option maxRecDepth 20000 in
theorem dX7_variance_7 : decode cX7_variance 7 = .ok (.invokevirtual 117, 3) := by decide +kernel
set_option maxRecDepth 20000 in
theorem dX7_variance_10 : decode cX7_variance 10 = .ok (.iconst 0, 1) := by decide +kernel
set_option maxRecDepth 20000 in
theorem dX7_variance_11 : decode cX7_variance 11 = .ok (.istore_n 1, 1) := by decide +kernel
set_option maxRecDepth 20000 in
theorem dX7_variance_12 : decode cX7_variance 12 = .ok (.iload_n 1, 1) := by decide +kernel
set_option maxRecDepth 20000 in
theorem dX7_variance_13 : decode cX7_variance 13 = .ok (.aload_n 0, 1) := by decide +kernel
set_option maxRecDepth 20000 in
theorem dX7_variance_14 : decode cX7_variance 14 = .ok (.getfield 13, 3) := by decide +kernel
set_option maxRecDepth 20000 in
theorem dX7_variance_17 : decode cX7_variance 17 = .ok (.if_icmp .ge 72, 3) := by decide +kernel
set_option maxRecDepth 20000 in
theorem dX7_variance_20 : decode cX7_variance 20 = .ok (.aload_n 0, 1) := by decide +kernel
set_option maxRecDepth 20000 in
theorem dX7_variance_21 : decode cX7_variance 21 = .ok (.bipush 10, 2) := by decide +kernel
set_option maxRecDepth 20000 in
theorem dX7_variance_23 : decode cX7_variance 23 = .ok (.iload_n 1, 1) := by decide +kernel
set_option maxRecDepth 20000 in
theorem dX7_variance_24 : decode cX7_variance 24 = .ok (.iadd, 1) := by decide +kernel
set_option maxRecDepth 20000 in
theorem dX7_variance_25 : decode cX7_variance 25 = .ok (.iconst 0, 1) := by decide +kernel
set_option maxRecDepth 20000 in
theorem dX7_variance_26 : decode cX7_variance 26 = .ok (.iconst 1, 1) := by decide +kernel
set_option maxRecDepth 20000 in
theorem dX7_variance_27 : decode cX7_variance 27 = .ok (.invokevirtual 105, 3) := by decide +kernel
set_option maxRecDepth 20000 in
theorem dX7_variance_30 : decode cX7_variance 30 = .ok (.iconst 0, 1) := by decide +kernel
set_option maxRecDepth 20000 in
theorem dX7_variance_31 : decode cX7_variance 31 = .ok (.istore_n 2, 1) := by decide +kernel
set_option maxRecDepth 20000 in
theorem dX7_variance_32 : decode cX7_variance 32 = .ok (.iload_n 2, 1) := by decide +kernel
set_option maxRecDepth 20000 in
theorem dX7_variance_33 : decode cX7_variance 33 = .ok (.aload_n 0, 1) := by decide +kernel
set_option maxRecDepth 20000 in
theorem dX7_variance_34 : decode cX7_variance 34 = .ok (.getfield 13, 3) := by decide +kernel
set_option maxRecDepth 20000 in
theorem dX7_variance_37 : decode cX7_variance 37 = .ok (.if_icmp .ge 46, 3) := by decide +kernel
set_option maxRecDepth 20000 in
theorem dX7_variance_40 : decode cX7_variance 40 = .ok (.aload_n 0, 1) := by decide +kernel
set_option maxRecDepth 20000 in
theorem dX7_variance_41 : decode cX7_variance 41 = .ok (.bipush 20, 2) := by decide +kernel
set_option maxRecDepth 20000 in
theorem dX7_variance_43 : decode cX7_variance 43 = .ok (.iconst 5, 1) := by decide +kernel
set_option maxRecDepth 20000 in
theorem dX7_variance_44 : decode cX7_variance 44 = .ok (.iload_n 2, 1) := by decide +kernel
set_option maxRecDepth 20000 in
theorem dX7_variance_45 : decode cX7_variance 45 = .ok (.iconst 0, 1) := by decide +kernel
set_option maxRecDepth 20000 in
theorem dX7_variance_46 : decode cX7_variance 46 = .ok (.invokevirtual 117, 3) := by decide +kernel
set_option maxRecDepth 20000 in
theorem dX7_variance_49 : decode cX7_variance 49 = .ok (.aload_n 0, 1) := by decide +kernel
set_option maxRecDepth 20000 in
theorem dX7_variance_50 : decode cX7_variance 50 = .ok (.bipush 21, 2) := by decide +kernel
set_option maxRecDepth 20000 in
theorem dX7_variance_52 : decode cX7_variance 52 = .ok (.iload_n 1, 1) := by decide +kernel
set_option maxRecDepth 20000 in
theorem dX7_variance_53 : decode cX7_variance 53 = .ok (.iload_n 2, 1) := by decide +kernel
set_option maxRecDepth 20000 in
theorem dX7_variance_54 : decode cX7_variance 54 = .ok (.invokestatic 121, 3) := by decide +kernel
set_option maxRecDepth 20000 in
theorem dX7_variance_57 : decode cX7_variance 57 = .ok (.bipush 20, 2) := by decide +kernel
set_option maxRecDepth 20000 in
theorem dX7_variance_59 : decode cX7_variance 59 = .ok (.invokevirtual 124, 3) := by decide +kernel
set_option maxRecDepth 20000 in
theorem dX7_variance_62 : decode cX7_variance 62 = .ok (.aload_n 0, 1) := by decide +kernel
set_option maxRecDepth 20000 in
theorem dX7_variance_63 : decode cX7_variance 63 = .ok (.bipush 10, 2) := by decide +kernel
set_option maxRecDepth 20000 in
theorem dX7_variance_65 : decode cX7_variance 65 = .ok (.iload_n 1, 1) := by decide +kernel
set_option maxRecDepth 20000 in
theorem dX7_variance_66 : decode cX7_variance 66 = .ok (.iadd, 1) := by decide +kernel
set_option maxRecDepth 20000 in
theorem dX7_variance_67 : decode cX7_variance 67 = .ok (.bipush 10, 2) := by decide +kernel
set_option maxRecDepth 20000 in
theorem dX7_variance_69 : decode cX7_variance 69 = .ok (.iload_n 1, 1) := by decide +kernel
set_option maxRecDepth 20000 in
theorem dX7_variance_70 : decode cX7_variance 70 = .ok (.iadd, 1) := by decide +kernel
set_option maxRecDepth 20000 in
theorem dX7_variance_71 : decode cX7_variance 71 = .ok (.bipush 21, 2) := by decide +kernel
set_option maxRecDepth 20000 in
theorem dX7_variance_73 : decode cX7_variance 73 = .ok (.iconst 1, 1) := by decide +kernel
set_option maxRecDepth 20000 in
theorem dX7_variance_74 : decode cX7_variance 74 = .ok (.invokevirtual 127, 3) := by decide +kernel
set_option maxRecDepth 20000 in
theorem dX7_variance_77 : decode cX7_variance 77 = .ok (.iinc 2 1, 3) := by decide +kernel
set_option maxRecDepth 20000 in
theorem dX7_variance_80 : decode cX7_variance 80 = .ok (.goto (-48), 3) := by decide +kernel
set_option maxRecDepth 20000 in
theorem dX7_variance_83 : decode cX7_variance 83 = .ok (.iinc 1 1, 3) := by decide +kernel
set_option maxRecDepth 20000 in
theorem dX7_variance_86 : decode cX7_variance 86 = .ok (.goto (-74), 3) := by decide +kernel
set_option maxRecDepth 20000 in
theorem dX7_variance_89 : decode cX7_variance 89 = .ok (.iconst 0, 1) := by decide +kernel
set_option maxRecDepth 20000 in
theorem dX7_variance_90 : decode cX7_variance 90 = .ok (.istore_n 1, 1) := by decide +kernel
set_option maxRecDepth 20000 in
theorem dX7_variance_91 : decode cX7_variance 91 = .ok (.iload_n 1, 1) := by decide +kernel
set_option maxRecDepth 20000 in
theorem dX7_variance_92 : decode cX7_variance 92 = .ok (.aload_n 0, 1) := by decide +kernel
set_option maxRecDepth 20000 in
theorem dX7_variance_93 : decode cX7_variance 93 = .ok (.getfield 13, 3) := by decide +kernel
set_option maxRecDepth 20000 in
theorem dX7_variance_96 : decode cX7_variance 96 = .ok (.if_icmp .ge 41, 3) := by decide +kernel
set_option maxRecDepth 20000 in
theorem dX7_variance_99 : decode cX7_variance 99 = .ok (.aload_n 0, 1) := by decide +kernel
set_option maxRecDepth 20000 in
theorem dX7_variance_100 : decode cX7_variance 100 = .ok (.bipush 20, 2) := by decide +kernel
set_option maxRecDepth 20000 in
theorem dX7_variance_102 : decode cX7_variance 102 = .ok (.iconst 5, 1) := by decide +kernel
set_option maxRecDepth 20000 in
theorem dX7_variance_103 : decode cX7_variance 103 = .ok (.iload_n 1, 1) := by decide +kernel
set_option maxRecDepth 20000 in
theorem dX7_variance_104 : decode cX7_variance 104 = .ok (.iconst 0, 1) := by decide +kernel
set_option maxRecDepth 20000 in
theorem dX7_variance_105 : decode cX7_variance 105 = .ok (.invokevirtual 117, 3) := by decide +kernel
set_option maxRecDepth 20000 in
theorem dX7_variance_108 : decode cX7_variance 108 = .ok (.aload_n 0, 1) := by decide +kernel
set_option maxRecDepth 20000 in
theorem dX7_variance_109 : decode cX7_variance 109 = .ok (.bipush 21, 2) := by decide +kernel
set_option maxRecDepth 20000 in
theorem dX7_variance_111 : decode cX7_variance 111 = .ok (.bipush 20, 2) := by decide +kernel
set_option maxRecDepth 20000 in
theorem dX7_variance_113 : decode cX7_variance 113 = .ok (.bipush 10, 2) := by decide +kernel
set_option maxRecDepth 20000 in
theorem dX7_variance_115 : decode cX7_variance 115 = .ok (.iload_n 1, 1) := by decide +kernel
set_option maxRecDepth 20000 in
theorem dX7_variance_116 : decode cX7_variance 116 = .ok (.iadd, 1) := by decide +kernel
set_option maxRecDepth 20000 in
theorem dX7_variance_117 : decode cX7_variance 117 = .ok (.invokevirtual 124, 3) := by decide +kernel
set_option maxRecDepth 20000 in
theorem dX7_variance_120 : decode cX7_variance 120 = .ok (.aload_n 0, 1) := by decide +kernel
set_option maxRecDepth 20000 in
theorem dX7_variance_121 : decode cX7_variance 121 = .ok (.bipush 12, 2) := by decide +kernel
set_option maxRecDepth 20000 in
theorem dX7_variance_123 : decode cX7_variance 123 = .ok (.bipush 12, 2) := by decide +kernel
set_option maxRecDepth 20000 in
theorem dX7_variance_125 : decode cX7_variance 125 = .ok (.bipush 21, 2) := by decide +kernel
set_option maxRecDepth 20000 in
theorem dX7_variance_127 : decode cX7_variance 127 = .ok (.iconst 1, 1) := by decide +kernel
set_option maxRecDepth 20000 in
theorem dX7_variance_128 : decode cX7_variance 128 = .ok (.invokevirtual 127, 3) := by decide +kernel
set_option maxRecDepth 20000 in
theorem dX7_variance_131 : decode cX7_variance 131 = .ok (.iinc 1 1, 3) := by decide +kernel
set_option maxRecDepth 20000 in
theorem dX7_variance_134 : decode cX7_variance 134 = .ok (.goto (-43), 3) := by decide +kernel
set_option maxRecDepth 20000 in
theorem dX7_variance_137 : decode cX7_variance 137 = .ok (.aload_n 0, 1) := by decide +kernel
set_option maxRecDepth 20000 in
theorem dX7_variance_138 : decode cX7_variance 138 = .ok (.getfield 43, 3) := by decide +kernel
set_option maxRecDepth 20000 in
theorem dX7_variance_141 : decode cX7_variance 141 = .ok (.bipush 12, 2) := by decide +kernel
set_option maxRecDepth 20000 in
theorem dX7_variance_143 : decode cX7_variance 143 = .ok (.iaload, 1) := by decide +kernel
set_option maxRecDepth 20000 in
theorem dX7_variance_144 : decode cX7_variance 144 = .ok (.ifCond .eq 7, 3) := by decide +kernel
set_option maxRecDepth 20000 in
theorem dX7_variance_147 : decode cX7_variance 147 = .ok (.iconst 1, 1) := by decide +kernel
set_option maxRecDepth 20000 in
theorem dX7_variance_148 : decode cX7_variance 148 = .ok (.goto 4, 3) := by decide +kernel
set_option maxRecDepth 20000 in
theorem dX7_variance_151 : decode cX7_variance 151 = .ok (.iconst 0, 1) := by decide +kernel
set_option maxRecDepth 20000 in
theorem dX7_variance_152 : decode cX7_variance 152 = .ok (.ireturn, 1) := by decide +kernel
set_option maxRecDepth 20000 in
theorem dX7_doMeasure_0 : decode cX7_doMeasure 0 = .ok (.aload_n 0, 1) := by decide +kernel
set_option maxRecDepth 20000 in
theorem dX7_doMeasure_1 : decode cX7_doMeasure 1 = .ok (.bipush 7, 2) := by decide +kernel
set_option maxRecDepth 20000 in
theorem dX7_doMeasure_3 : decode cX7_doMeasure 3 = .ok (.bipush 12, 2) := by decide +kernel
set_option maxRecDepth 20000 in
theorem dX7_doMeasure_5 : decode cX7_doMeasure 5 = .ok (.invokevirtual 130, 3) := by decide +kernel
set_option maxRecDepth 20000 in
theorem dX7_doMeasure_8 : decode cX7_doMeasure 8 = .ok (.aload_n 0, 1) := by decide +kernel
set_option maxRecDepth 20000 in
theorem dX7_doMeasure_9 : decode cX7_doMeasure 9 = .ok (.bipush 6, 2) := by decide +kernel
set_option maxRecDepth 20000 in
theorem dX7_doMeasure_11 : decode cX7_doMeasure 11 = .ok (.iload_n 1, 1) := by decide +kernel
set_option maxRecDepth 20000 in
theorem dX7_doMeasure_12 : decode cX7_doMeasure 12 = .ok (.iload_n 2, 1) := by decide +kernel
set_option maxRecDepth 20000 in
theorem dX7_doMeasure_13 : decode cX7_doMeasure 13 = .ok (.invokevirtual 105, 3) := by decide +kernel
set_option maxRecDepth 20000 in
theorem dX7_doMeasure_16 : decode cX7_doMeasure 16 = .ok (.iconst 0, 1) := by decide +kernel
set_option maxRecDepth 20000 in
theorem dX7_doMeasure_17 : decode cX7_doMeasure 17 = .ok (.istore_n 3, 1) := by decide +kernel
set_option maxRecDepth 20000 in
theorem dX7_doMeasure_18 : decode cX7_doMeasure 18 = .ok (.iload_n 3, 1) := by decide +kernel
set_option maxRecDepth 20000 in
theorem dX7_doMeasure_19 : decode cX7_doMeasure 19 = .ok (.aload_n 0, 1) := by decide +kernel
set_option maxRecDepth 20000 in
theorem dX7_doMeasure_20 : decode cX7_doMeasure 20 = .ok (.getfield 13, 3) := by decide +kernel
set_option maxRecDepth 20000 in
theorem dX7_doMeasure_23 : decode cX7_doMeasure 23 = .ok (.if_icmp .ge 38, 3) := by decide +kernel
set_option maxRecDepth 20000 in
theorem dX7_doMeasure_26 : decode cX7_doMeasure 26 = .ok (.aload_n 0, 1) := by decide +kernel
set_option maxRecDepth 20000 in
theorem dX7_doMeasure_27 : decode cX7_doMeasure 27 = .ok (.bipush 20, 2) := by decide +kernel
set_option maxRecDepth 20000 in
theorem dX7_doMeasure_29 : decode cX7_doMeasure 29 = .ok (.iconst 5, 1) := by decide +kernel
set_option maxRecDepth 20000 in
theorem dX7_doMeasure_30 : decode cX7_doMeasure 30 = .ok (.iload_n 3, 1) := by decide +kernel
set_option maxRecDepth 20000 in
theorem dX7_doMeasure_31 : decode cX7_doMeasure 31 = .ok (.iconst 0, 1) := by decide +kernel
set_option maxRecDepth 20000 in
theorem dX7_doMeasure_32 : decode cX7_doMeasure 32 = .ok (.invokevirtual 117, 3) := by decide +kernel
set_option maxRecDepth 20000 in
theorem dX7_doMeasure_35 : decode cX7_doMeasure 35 = .ok (.aload_n 0, 1) := by decide +kernel
set_option maxRecDepth 20000 in
theorem dX7_doMeasure_36 : decode cX7_doMeasure 36 = .ok (.bipush 21, 2) := by decide +kernel
set_option maxRecDepth 20000 in
theorem dX7_doMeasure_38 : decode cX7_doMeasure 38 = .ok (.bipush 20, 2) := by decide +kernel
set_option maxRecDepth 20000 in
theorem dX7_doMeasure_40 : decode cX7_doMeasure 40 = .ok (.iload_n 3, 1) := by decide +kernel
set_option maxRecDepth 20000 in
theorem dX7_doMeasure_41 : decode cX7_doMeasure 41 = .ok (.invokevirtual 124, 3) := by decide +kernel
set_option maxRecDepth 20000 in
theorem dX7_doMeasure_44 : decode cX7_doMeasure 44 = .ok (.aload_n 0, 1) := by decide +kernel
set_option maxRecDepth 20000 in
theorem dX7_doMeasure_45 : decode cX7_doMeasure 45 = .ok (.bipush 6, 2) := by decide +kernel
set_option maxRecDepth 20000 in
theorem dX7_doMeasure_47 : decode cX7_doMeasure 47 = .ok (.bipush 6, 2) := by decide +kernel
set_option maxRecDepth 20000 in
theorem dX7_doMeasure_49 : decode cX7_doMeasure 49 = .ok (.bipush 21, 2) := by decide +kernel
set_option maxRecDepth 20000 in
theorem dX7_doMeasure_51 : decode cX7_doMeasure 51 = .ok (.iconst (-1), 1) := by decide +kernel
set_option maxRecDepth 20000 in
theorem dX7_doMeasure_52 : decode cX7_doMeasure 52 = .ok (.invokevirtual 127, 3) := by decide +kernel
set_option maxRecDepth 20000 in
theorem dX7_doMeasure_55 : decode cX7_doMeasure 55 = .ok (.iinc 3 1, 3) := by decide +kernel
set_option maxRecDepth 20000 in
theorem dX7_doMeasure_58 : decode cX7_doMeasure 58 = .ok (.goto (-40), 3) := by decide +kernel
set_option maxRecDepth 20000 in
theorem dX7_doMeasure_61 : decode cX7_doMeasure 61 = .ok (.iconst 0, 1) := by decide +kernel
set_option maxRecDepth 20000 in
theorem dX7_doMeasure_62 : decode cX7_doMeasure 62 = .ok (.istore_n 3, 1) := by decide +kernel
set_option maxRecDepth 20000 in
theorem dX7_doMeasure_63 : decode cX7_doMeasure 63 = .ok (.iload_n 3, 1) := by decide +kernel
set_option maxRecDepth 20000 in
theorem dX7_doMeasure_64 : decode cX7_doMeasure 64 = .ok (.aload_n 0, 1) := by decide +kernel
set_option maxRecDepth 20000 in
theorem dX7_doMeasure_65 : decode cX7_doMeasure 65 = .ok (.getfield 13, 3) := by decide +kernel
set_option maxRecDepth 20000 in
theorem dX7_doMeasure_68 : decode cX7_doMeasure 68 = .ok (.if_icmp .ge 44, 3) := by decide +kernel
set_option maxRecDepth 20000 in
theorem dX7_doMeasure_71 : decode cX7_doMeasure 71 = .ok (.aload_n 0, 1) := by decide +kernel
set_option maxRecDepth 20000 in
theorem dX7_doMeasure_72 : decode cX7_doMeasure 72 = .ok (.bipush 8, 2) := by decide +kernel
set_option maxRecDepth 20000 in
theorem dX7_doMeasure_74 : decode cX7_doMeasure 74 = .ok (.iload_n 3, 1) := by decide +kernel
set_option maxRecDepth 20000 in
theorem dX7_doMeasure_75 : decode cX7_doMeasure 75 = .ok (.iadd, 1) := by decide +kernel
set_option maxRecDepth 20000 in
theorem dX7_doMeasure_76 : decode cX7_doMeasure 76 = .ok (.bipush 10, 2) := by decide +kernel
set_option maxRecDepth 20000 in
theorem dX7_doMeasure_78 : decode cX7_doMeasure 78 = .ok (.iload_n 3, 1) := by decide +kernel
set_option maxRecDepth 20000 in
theorem dX7_doMeasure_79 : decode cX7_doMeasure 79 = .ok (.iadd, 1) := by decide +kernel
set_option maxRecDepth 20000 in
theorem dX7_doMeasure_80 : decode cX7_doMeasure 80 = .ok (.bipush 7, 2) := by decide +kernel
set_option maxRecDepth 20000 in
theorem dX7_doMeasure_82 : decode cX7_doMeasure 82 = .ok (.invokevirtual 133, 3) := by decide +kernel
set_option maxRecDepth 20000 in
theorem dX7_doMeasure_85 : decode cX7_doMeasure 85 = .ok (.aload_n 0, 1) := by decide +kernel
set_option maxRecDepth 20000 in
theorem dX7_doMeasure_86 : decode cX7_doMeasure 86 = .ok (.bipush 21, 2) := by decide +kernel
set_option maxRecDepth 20000 in
theorem dX7_doMeasure_88 : decode cX7_doMeasure 88 = .ok (.bipush 8, 2) := by decide +kernel
set_option maxRecDepth 20000 in
theorem dX7_doMeasure_90 : decode cX7_doMeasure 90 = .ok (.iload_n 3, 1) := by decide +kernel
set_option maxRecDepth 20000 in
theorem dX7_doMeasure_91 : decode cX7_doMeasure 91 = .ok (.iadd, 1) := by decide +kernel
set_option maxRecDepth 20000 in
theorem dX7_doMeasure_92 : decode cX7_doMeasure 92 = .ok (.bipush 6, 2) := by decide +kernel
set_option maxRecDepth 20000 in
theorem dX7_doMeasure_94 : decode cX7_doMeasure 94 = .ok (.invokevirtual 124, 3) := by decide +kernel
set_option maxRecDepth 20000 in
theorem dX7_doMeasure_97 : decode cX7_doMeasure 97 = .ok (.aload_n 0, 1) := by decide +kernel
set_option maxRecDepth 20000 in
theorem dX7_doMeasure_98 : decode cX7_doMeasure 98 = .ok (.iload_n 3, 1) := by decide +kernel
set_option maxRecDepth 20000 in
theorem dX7_doMeasure_99 : decode cX7_doMeasure 99 = .ok (.iload_n 3, 1) := by decide +kernel
set_option maxRecDepth 20000 in
theorem dX7_doMeasure_100 : decode cX7_doMeasure 100 = .ok (.bipush 21, 2) := by decide +kernel
set_option maxRecDepth 20000 in
theorem dX7_doMeasure_102 : decode cX7_doMeasure 102 = .ok (.iconst 1, 1) := by decide +kernel
set_option maxRecDepth 20000 in
theorem dX7_doMeasure_103 : decode cX7_doMeasure 103 = .ok (.invokevirtual 127, 3) := by decide +kernel
set_option maxRecDepth 20000 in
theorem dX7_doMeasure_106 : decode cX7_doMeasure 106 = .ok (.iinc 3 1, 3) := by decide +kernel
set_option maxRecDepth 20000 in
theorem dX7_doMeasure_109 : decode cX7_doMeasure 109 = .ok (.goto (-46), 3) := by decide +kernel
set_option maxRecDepth 20000 in
theorem dX7_doMeasure_112 : decode cX7_doMeasure 112 = .ok (.iconst 0, 1) := by decide +kernel
set_option maxRecDepth 20000 in
theorem dX7_doMeasure_113 : decode cX7_doMeasure 113 = .ok (.istore_n 3, 1) := by decide +kernel
set_option maxRecDepth 20000 in
theorem dX7_doMeasure_114 : decode cX7_doMeasure 114 = .ok (.iload_n 3, 1) := by decide +kernel
set_option maxRecDepth 20000 in
theorem dX7_doMeasure_115 : decode cX7_doMeasure 115 = .ok (.aload_n 0, 1) := by decide +kernel
set_option maxRecDepth 20000 in
theorem dX7_doMeasure_116 : decode cX7_doMeasure 116 = .ok (.getfield 13, 3) := by decide +kernel
set_option maxRecDepth 20000 in
theorem dX7_doMeasure_119 : decode cX7_doMeasure 119 = .ok (.if_icmp .ge 61, 3) := by decide +kernel
set_option maxRecDepth 20000 in
theorem dX7_doMeasure_122 : decode cX7_doMeasure 122 = .ok (.iconst 0, 1) := by decide +kernel
set_option maxRecDepth 20000 in
theorem dX7_doMeasure_123 : decode cX7_doMeasure 123 = .ok (.istore 4, 2) := by decide +kernel
set_option maxRecDepth 20000 in
theorem dX7_doMeasure_125 : decode cX7_doMeasure 125 = .ok (.iload 4, 2) := by decide +kernel
set_option maxRecDepth 20000 in
theorem dX7_doMeasure_127 : decode cX7_doMeasure 127 = .ok (.aload_n 0, 1) := by decide +kernel
set_option maxRecDepth 20000 in
theorem dX7_doMeasure_128 : decode cX7_doMeasure 128 = .ok (.getfield 13, 3) := by decide +kernel
set_option maxRecDepth 20000 in
theorem dX7_doMeasure_131 : decode cX7_doMeasure 131 = .ok (.if_icmp .ge 43, 3) := by decide +kernel
set_option maxRecDepth 20000 in
theorem dX7_doMeasure_134 : decode cX7_doMeasure 134 = .ok (.aload_n 0, 1) := by decide +kernel
set_option maxRecDepth 20000 in
theorem dX7_doMeasure_135 : decode cX7_doMeasure 135 = .ok (.bipush 21, 2) := by decide +kernel
set_option maxRecDepth 20000 in
theorem dX7_doMeasure_137 : decode cX7_doMeasure 137 = .ok (.bipush 8, 2) := by decide +kernel
set_option maxRecDepth 20000 in
theorem dX7_doMeasure_139 : decode cX7_doMeasure 139 = .ok (.iload_n 3, 1) := by decide +kernel
set_option maxRecDepth 20000 in
theorem dX7_doMeasure_140 : decode cX7_doMeasure 140 = .ok (.iadd, 1) := by decide +kernel
set_option maxRecDepth 20000 in
theorem dX7_doMeasure_141 : decode cX7_doMeasure 141 = .ok (.bipush 10, 2) := by decide +kernel
set_option maxRecDepth 20000 in
theorem dX7_doMeasure_143 : decode cX7_doMeasure 143 = .ok (.iload 4, 2) := by decide +kernel
set_option maxRecDepth 20000 in
theorem dX7_doMeasure_145 : decode cX7_doMeasure 145 = .ok (.iadd, 1) := by decide +kernel
set_option maxRecDepth 20000 in
theorem dX7_doMeasure_146 : decode cX7_doMeasure 146 = .ok (.invokevirtual 124, 3) := by decide +kernel
set_option maxRecDepth 20000 in
theorem dX7_doMeasure_149 : decode cX7_doMeasure 149 = .ok (.aload_n 0, 1) := by decide +kernel
set_option maxRecDepth 20000 in
theorem dX7_doMeasure_150 : decode cX7_doMeasure 150 = .ok (.iload_n 3, 1) := by decide +kernel
set_option maxRecDepth 20000 in
theorem dX7_doMeasure_151 : decode cX7_doMeasure 151 = .ok (.iload 4, 2) := by decide +kernel
set_option maxRecDepth 20000 in
theorem dX7_doMeasure_153 : decode cX7_doMeasure 153 = .ok (.invokestatic 121, 3) := by decide +kernel
set_option maxRecDepth 20000 in
theorem dX7_doMeasure_156 : decode cX7_doMeasure 156 = .ok (.iload_n 3, 1) := by decide +kernel
set_option maxRecDepth 20000 in
theorem dX7_doMeasure_157 : decode cX7_doMeasure 157 = .ok (.iload 4, 2) := by decide +kernel
set_option maxRecDepth 20000 in
theorem dX7_doMeasure_159 : decode cX7_doMeasure 159 = .ok (.invokestatic 121, 3) := by decide +kernel
set_option maxRecDepth 20000 in
theorem dX7_doMeasure_162 : decode cX7_doMeasure 162 = .ok (.bipush 21, 2) := by decide +kernel
set_option maxRecDepth 20000 in
theorem dX7_doMeasure_164 : decode cX7_doMeasure 164 = .ok (.iconst (-1), 1) := by decide +kernel
set_option maxRecDepth 20000 in
theorem dX7_doMeasure_165 : decode cX7_doMeasure 165 = .ok (.invokevirtual 127, 3) := by decide +kernel
set_option maxRecDepth 20000 in
theorem dX7_doMeasure_168 : decode cX7_doMeasure 168 = .ok (.iinc 4 1, 3) := by decide +kernel
set_option maxRecDepth 20000 in
theorem dX7_doMeasure_171 : decode cX7_doMeasure 171 = .ok (.goto (-46), 3) := by decide +kernel
set_option maxRecDepth 20000 in
theorem dX7_doMeasure_174 : decode cX7_doMeasure 174 = .ok (.iinc 3 1, 3) := by decide +kernel
set_option maxRecDepth 20000 in
theorem dX7_doMeasure_177 : decode cX7_doMeasure 177 = .ok (.goto (-63), 3) := by decide +kernel
set_option maxRecDepth 20000 in
theorem dX7_doMeasure_180 : decode cX7_doMeasure 180 = .ok (.return_, 1) := by decide +kernel
set_option maxRecDepth 20000 in
theorem dX7_fit_0 : decode cX7_fit 0 = .ok (.aload_n 0, 1) := by decide +kernel
set_option maxRecDepth 20000 in
theorem dX7_fit_1 : decode cX7_fit 1 = .ok (.getfield 16, 3) := by decide +kernel
set_option maxRecDepth 20000 in
theorem dX7_fit_4 : decode cX7_fit 4 = .ok (.iload_n 1, 1) := by decide +kernel
set_option maxRecDepth 20000 in
theorem dX7_fit_5 : decode cX7_fit 5 = .ok (.iconst 0, 1) := by decide +kernel
set_option maxRecDepth 20000 in
theorem dX7_fit_6 : decode cX7_fit 6 = .ok (.iconst 0, 1) := by decide +kernel
set_option maxRecDepth 20000 in
theorem dX7_fit_7 : decode cX7_fit 7 = .ok (.invokestatic 53, 3) := by decide +kernel
set_option maxRecDepth 20000 in
theorem dX7_fit_10 : decode cX7_fit 10 = .ok (.iaload, 1) := by decide +kernel
set_option maxRecDepth 20000 in
theorem dX7_fit_11 : decode cX7_fit 11 = .ok (.i2l, 1) := by decide +kernel
set_option maxRecDepth 20000 in
theorem dX7_fit_12 : decode cX7_fit 12 = .ok (.lstore_n 2, 1) := by decide +kernel
set_option maxRecDepth 20000 in
theorem dX7_fit_13 : decode cX7_fit 13 = .ok (.aload_n 0, 1) := by decide +kernel
set_option maxRecDepth 20000 in
theorem dX7_fit_14 : decode cX7_fit 14 = .ok (.getfield 16, 3) := by decide +kernel
set_option maxRecDepth 20000 in
theorem dX7_fit_17 : decode cX7_fit 17 = .ok (.iload_n 1, 1) := by decide +kernel
set_option maxRecDepth 20000 in
theorem dX7_fit_18 : decode cX7_fit 18 = .ok (.iconst 1, 1) := by decide +kernel
set_option maxRecDepth 20000 in
theorem dX7_fit_19 : decode cX7_fit 19 = .ok (.iconst 1, 1) := by decide +kernel
set_option maxRecDepth 20000 in
theorem dX7_fit_20 : decode cX7_fit 20 = .ok (.invokestatic 53, 3) := by decide +kernel
set_option maxRecDepth 20000 in
theorem dX7_fit_23 : decode cX7_fit 23 = .ok (.iaload, 1) := by decide +kernel
set_option maxRecDepth 20000 in
theorem dX7_fit_24 : decode cX7_fit 24 = .ok (.i2l, 1) := by decide +kernel
set_option maxRecDepth 20000 in
theorem dX7_fit_25 : decode cX7_fit 25 = .ok (.lstore 4, 2) := by decide +kernel
set_option maxRecDepth 20000 in
theorem dX7_fit_27 : decode cX7_fit 27 = .ok (.lload_n 2, 1) := by decide +kernel
set_option maxRecDepth 20000 in
theorem dX7_fit_28 : decode cX7_fit 28 = .ok (.lconst 0, 1) := by decide +kernel
set_option maxRecDepth 20000 in
theorem dX7_fit_29 : decode cX7_fit 29 = .ok (.lcmp, 1) := by decide +kernel
set_option maxRecDepth 20000 in
theorem dX7_fit_30 : decode cX7_fit 30 = .ok (.ifCond .lt 18, 3) := by decide +kernel
set_option maxRecDepth 20000 in
theorem dX7_fit_33 : decode cX7_fit 33 = .ok (.aload_n 0, 1) := by decide +kernel
set_option maxRecDepth 20000 in
theorem dX7_fit_34 : decode cX7_fit 34 = .ok (.getfield 13, 3) := by decide +kernel
set_option maxRecDepth 20000 in
theorem dX7_fit_37 : decode cX7_fit 37 = .ok (.iconst 2, 1) := by decide +kernel
set_option maxRecDepth 20000 in
theorem dX7_fit_38 : decode cX7_fit 38 = .ok (.if_icmp .ne 12, 3) := by decide +kernel
set_option maxRecDepth 20000 in
theorem dX7_fit_41 : decode cX7_fit 41 = .ok (.lload 4, 2) := by decide +kernel
set_option maxRecDepth 20000 in
theorem dX7_fit_43 : decode cX7_fit 43 = .ok (.lconst 0, 1) := by decide +kernel
set_option maxRecDepth 20000 in
theorem dX7_fit_44 : decode cX7_fit 44 = .ok (.lcmp, 1) := by decide +kernel
set_option maxRecDepth 20000 in
theorem dX7_fit_45 : decode cX7_fit 45 = .ok (.ifCond .ge 5, 3) := by decide +kernel
set_option maxRecDepth 20000 in
theorem dX7_fit_48 : decode cX7_fit 48 = .ok (.iconst 0, 1) := by decide +kernel
set_option maxRecDepth 20000 in
theorem dX7_fit_49 : decode cX7_fit 49 = .ok (.ireturn, 1) := by decide +kernel
set_option maxRecDepth 20000 in
theorem dX7_fit_50 : decode cX7_fit 50 = .ok (.aload_n 0, 1) := by decide +kernel
set_option maxRecDepth 20000 in
theorem dX7_fit_51 : decode cX7_fit 51 = .ok (.getfield 13, 3) := by decide +kernel
set_option maxRecDepth 20000 in
theorem dX7_fit_54 : decode cX7_fit 54 = .ok (.iconst 1, 1) := by decide +kernel
set_option maxRecDepth 20000 in
theorem dX7_fit_55 : decode cX7_fit 55 = .ok (.if_icmp .ne 5, 3) := by decide +kernel
set_option maxRecDepth 20000 in
theorem dX7_fit_58 : decode cX7_fit 58 = .ok (.iconst 1, 1) := by decide +kernel
set_option maxRecDepth 20000 in
theorem dX7_fit_59 : decode cX7_fit 59 = .ok (.ireturn, 1) := by decide +kernel
set_option maxRecDepth 20000 in
theorem dX7_fit_60 : decode cX7_fit 60 = .ok (.aload_n 0, 1) := by decide +kernel
set_option maxRecDepth 20000 in
theorem dX7_fit_61 : decode cX7_fit 61 = .ok (.getfield 16, 3) := by decide +kernel
set_option maxRecDepth 20000 in
theorem dX7_fit_64 : decode cX7_fit 64 = .ok (.iload_n 1, 1) := by decide +kernel
set_option maxRecDepth 20000 in
theorem dX7_fit_65 : decode cX7_fit 65 = .ok (.iconst 0, 1) := by decide +kernel
set_option maxRecDepth 20000 in
theorem dX7_fit_66 : decode cX7_fit 66 = .ok (.iconst 1, 1) := by decide +kernel
set_option maxRecDepth 20000 in
theorem dX7_fit_67 : decode cX7_fit 67 = .ok (.invokestatic 53, 3) := by decide +kernel
set_option maxRecDepth 20000 in
theorem dX7_fit_70 : decode cX7_fit 70 = .ok (.iaload, 1) := by decide +kernel
set_option maxRecDepth 20000 in
theorem dX7_fit_71 : decode cX7_fit 71 = .ok (.i2l, 1) := by decide +kernel
set_option maxRecDepth 20000 in
theorem dX7_fit_72 : decode cX7_fit 72 = .ok (.lstore 6, 2) := by decide +kernel
set_option maxRecDepth 20000 in
theorem dX7_fit_74 : decode cX7_fit 74 = .ok (.aload_n 0, 1) := by decide +kernel
set_option maxRecDepth 20000 in
theorem dX7_fit_75 : decode cX7_fit 75 = .ok (.getfield 20, 3) := by decide +kernel
set_option maxRecDepth 20000 in
theorem dX7_fit_78 : decode cX7_fit 78 = .ok (.iload_n 1, 1) := by decide +kernel
set_option maxRecDepth 20000 in
theorem dX7_fit_79 : decode cX7_fit 79 = .ok (.iconst 0, 1) := by decide +kernel
set_option maxRecDepth 20000 in
theorem dX7_fit_80 : decode cX7_fit 80 = .ok (.iconst 1, 1) := by decide +kernel
set_option maxRecDepth 20000 in
theorem dX7_fit_81 : decode cX7_fit 81 = .ok (.invokestatic 53, 3) := by decide +kernel
set_option maxRecDepth 20000 in
theorem dX7_fit_84 : decode cX7_fit 84 = .ok (.iaload, 1) := by decide +kernel
set_option maxRecDepth 20000 in
theorem dX7_fit_85 : decode cX7_fit 85 = .ok (.i2l, 1) := by decide +kernel
set_option maxRecDepth 20000 in
theorem dX7_fit_86 : decode cX7_fit 86 = .ok (.lstore 8, 2) := by decide +kernel
set_option maxRecDepth 20000 in
theorem dX7_fit_88 : decode cX7_fit 88 = .ok (.lload_n 2, 1) := by decide +kernel
set_option maxRecDepth 20000 in
theorem dX7_fit_89 : decode cX7_fit 89 = .ok (.lload 4, 2) := by decide +kernel
set_option maxRecDepth 20000 in
theorem dX7_fit_91 : decode cX7_fit 91 = .ok (.lmul, 1) := by decide +kernel
set_option maxRecDepth 20000 in
theorem dX7_fit_92 : decode cX7_fit 92 = .ok (.lload 8, 2) := by decide +kernel
set_option maxRecDepth 20000 in
theorem dX7_fit_94 : decode cX7_fit 94 = .ok (.lmul, 1) := by decide +kernel
set_option maxRecDepth 20000 in
theorem dX7_fit_95 : decode cX7_fit 95 = .ok (.lload 8, 2) := by decide +kernel
set_option maxRecDepth 20000 in
theorem dX7_fit_97 : decode cX7_fit 97 = .ok (.lmul, 1) := by decide +kernel
set_option maxRecDepth 20000 in
theorem dX7_fit_98 : decode cX7_fit 98 = .ok (.lload 6, 2) := by decide +kernel
set_option maxRecDepth 20000 in
theorem dX7_fit_100 : decode cX7_fit 100 = .ok (.lload 6, 2) := by decide +kernel
set_option maxRecDepth 20000 in
theorem dX7_fit_102 : decode cX7_fit 102 = .ok (.lmul, 1) := by decide +kernel
set_option maxRecDepth 20000 in
theorem dX7_fit_103 : decode cX7_fit 103 = .ok (.aload_n 0, 1) := by decide +kernel
set_option maxRecDepth 20000 in
theorem dX7_fit_104 : decode cX7_fit 104 = .ok (.getfield 20, 3) := by decide +kernel
set_option maxRecDepth 20000 in
theorem dX7_fit_107 : decode cX7_fit 107 = .ok (.iload_n 1, 1) := by decide +kernel
set_option maxRecDepth 20000 in
theorem dX7_fit_108 : decode cX7_fit 108 = .ok (.iconst 0, 1) := by decide +kernel
set_option maxRecDepth 20000 in
theorem dX7_fit_109 : decode cX7_fit 109 = .ok (.iconst 0, 1) := by decide +kernel
set_option maxRecDepth 20000 in
theorem dX7_fit_110 : decode cX7_fit 110 = .ok (.invokestatic 53, 3) := by decide +kernel
set_option maxRecDepth 20000 in
theorem dX7_fit_113 : decode cX7_fit 113 = .ok (.iaload, 1) := by decide +kernel
set_option maxRecDepth 20000 in
theorem dX7_fit_114 : decode cX7_fit 114 = .ok (.i2l, 1) := by decide +kernel
set_option maxRecDepth 20000 in
theorem dX7_fit_115 : decode cX7_fit 115 = .ok (.lmul, 1) := by decide +kernel
set_option maxRecDepth 20000 in
theorem dX7_fit_116 : decode cX7_fit 116 = .ok (.aload_n 0, 1) := by decide +kernel
set_option maxRecDepth 20000 in
theorem dX7_fit_117 : decode cX7_fit 117 = .ok (.getfield 20, 3) := by decide +kernel
set_option maxRecDepth 20000 in
theorem dX7_fit_120 : decode cX7_fit 120 = .ok (.iload_n 1, 1) := by decide +kernel
set_option maxRecDepth 20000 in
theorem dX7_fit_121 : decode cX7_fit 121 = .ok (.iconst 1, 1) := by decide +kernel
set_option maxRecDepth 20000 in
theorem dX7_fit_122 : decode cX7_fit 122 = .ok (.iconst 1, 1) := by decide +kernel
set_option maxRecDepth 20000 in
theorem dX7_fit_123 : decode cX7_fit 123 = .ok (.invokestatic 53, 3) := by decide +kernel
set_option maxRecDepth 20000 in
theorem dX7_fit_126 : decode cX7_fit 126 = .ok (.iaload, 1) := by decide +kernel
set_option maxRecDepth 20000 in
theorem dX7_fit_127 : decode cX7_fit 127 = .ok (.i2l, 1) := by decide +kernel
set_option maxRecDepth 20000 in
theorem dX7_fit_128 : decode cX7_fit 128 = .ok (.lmul, 1) := by decide +kernel
set_option maxRecDepth 20000 in
theorem dX7_fit_129 : decode cX7_fit 129 = .ok (.lcmp, 1) := by decide +kernel
set_option maxRecDepth 20000 in
theorem dX7_fit_130 : decode cX7_fit 130 = .ok (.ifCond .lt 7, 3) := by decide +kernel
set_option maxRecDepth 20000 in
theorem dX7_fit_133 : decode cX7_fit 133 = .ok (.iconst 1, 1) := by decide +kernel
set_option maxRecDepth 20000 in
theorem dX7_fit_134 : decode cX7_fit 134 = .ok (.goto 4, 3) := by decide +kernel
set_option maxRecDepth 20000 in
theorem dX7_fit_137 : decode cX7_fit 137 = .ok (.iconst 0, 1) := by decide +kernel
set_option maxRecDepth 20000 in
theorem dX7_fit_138 : decode cX7_fit 138 = .ok (.ireturn, 1) := by decide +kernel
set_option maxRecDepth 20000 in
theorem dX7_thrown_0 : decode cX7_thrown 0 = .ok (.aload_n 0, 1) := by decide +kernel
set_option maxRecDepth 20000 in
theorem dX7_thrown_1 : decode cX7_thrown 1 = .ok (.getfield 7, 3) := by decide +kernel
set_option maxRecDepth 20000 in
theorem dX7_thrown_4 : decode cX7_thrown 4 = .ok (.ireturn, 1) := by decide +kernel
set_option maxRecDepth 20000 in
theorem dX7_begin_0 : decode cX7_begin 0 = .ok (.aload_n 0, 1) := by decide +kernel
set_option maxRecDepth 20000 in
theorem dX7_begin_1 : decode cX7_begin 1 = .ok (.iload_n 1, 1) := by decide +kernel
set_option maxRecDepth 20000 in
theorem dX7_begin_2 : decode cX7_begin 2 = .ok (.iconst 1, 1) := by decide +kernel
set_option maxRecDepth 20000 in
theorem dX7_begin_3 : decode cX7_begin 3 = .ok (.if_icmp .lt 8, 3) := by decide +kernel
set_option maxRecDepth 20000 in
theorem dX7_begin_6 : decode cX7_begin 6 = .ok (.iload_n 1, 1) := by decide +kernel
set_option maxRecDepth 20000 in
theorem dX7_begin_7 : decode cX7_begin 7 = .ok (.iconst 2, 1) := by decide +kernel
set_option maxRecDepth 20000 in
theorem dX7_begin_8 : decode cX7_begin 8 = .ok (.if_icmp .le 7, 3) := by decide +kernel
set_option maxRecDepth 20000 in
theorem dX7_begin_11 : decode cX7_begin 11 = .ok (.iconst 1, 1) := by decide +kernel
set_option maxRecDepth 20000 in
theorem dX7_begin_12 : decode cX7_begin 12 = .ok (.goto 4, 3) := by decide +kernel
set_option maxRecDepth 20000 in
theorem dX7_begin_15 : decode cX7_begin 15 = .ok (.iconst 0, 1) := by decide +kernel
set_option maxRecDepth 20000 in
theorem dX7_begin_16 : decode cX7_begin 16 = .ok (.putfield 7, 3) := by decide +kernel
set_option maxRecDepth 20000 in
theorem dX7_begin_19 : decode cX7_begin 19 = .ok (.aload_n 0, 1) := by decide +kernel
set_option maxRecDepth 20000 in
theorem dX7_begin_20 : decode cX7_begin 20 = .ok (.getfield 7, 3) := by decide +kernel
set_option maxRecDepth 20000 in
theorem dX7_begin_23 : decode cX7_begin 23 = .ok (.ifCond .ne 8, 3) := by decide +kernel
set_option maxRecDepth 20000 in
theorem dX7_begin_26 : decode cX7_begin 26 = .ok (.aload_n 0, 1) := by decide +kernel
set_option maxRecDepth 20000 in
theorem dX7_begin_27 : decode cX7_begin 27 = .ok (.iload_n 1, 1) := by decide +kernel
set_option maxRecDepth 20000 in
theorem dX7_begin_28 : decode cX7_begin 28 = .ok (.invokevirtual 49, 3) := by decide +kernel
set_option maxRecDepth 20000 in
theorem dX7_begin_31 : decode cX7_begin 31 = .ok (.return_, 1) := by decide +kernel
set_option maxRecDepth 20000 in
theorem dX7_noFraction_0 : decode cX7_noFraction 0 = .ok (.iload_n 0, 1) := by decide +kernel
set_option maxRecDepth 20000 in
theorem dX7_noFraction_1 : decode cX7_noFraction 1 = .ok (.bipush (-20), 2) := by decide +kernel
set_option maxRecDepth 20000 in
theorem dX7_noFraction_3 : decode cX7_noFraction 3 = .ok (.if_icmp .lt 20, 3) := by decide +kernel
set_option maxRecDepth 20000 in
theorem dX7_noFraction_6 : decode cX7_noFraction 6 = .ok (.iload_n 0, 1) := by decide +kernel
set_option maxRecDepth 20000 in
theorem dX7_noFraction_7 : decode cX7_noFraction 7 = .ok (.bipush 20, 2) := by decide +kernel
set_option maxRecDepth 20000 in
theorem dX7_noFraction_9 : decode cX7_noFraction 9 = .ok (.if_icmp .gt 14, 3) := by decide +kernel
set_option maxRecDepth 20000 in
theorem dX7_noFraction_12 : decode cX7_noFraction 12 = .ok (.iload_n 1, 1) := by decide +kernel
set_option maxRecDepth 20000 in
theorem dX7_noFraction_13 : decode cX7_noFraction 13 = .ok (.iconst 1, 1) := by decide +kernel
set_option maxRecDepth 20000 in
theorem dX7_noFraction_14 : decode cX7_noFraction 14 = .ok (.if_icmp .lt 9, 3) := by decide +kernel
set_option maxRecDepth 20000 in
theorem dX7_noFraction_17 : decode cX7_noFraction 17 = .ok (.iload_n 1, 1) := by decide +kernel
set_option maxRecDepth 20000 in
theorem dX7_noFraction_18 : decode cX7_noFraction 18 = .ok (.bipush 20, 2) := by decide +kernel
set_option maxRecDepth 20000 in
theorem dX7_noFraction_20 : decode cX7_noFraction 20 = .ok (.if_icmp .le 7, 3) := by decide +kernel
set_option maxRecDepth 20000 in
theorem dX7_noFraction_23 : decode cX7_noFraction 23 = .ok (.iconst 1, 1) := by decide +kernel
set_option maxRecDepth 20000 in
theorem dX7_noFraction_24 : decode cX7_noFraction 24 = .ok (.goto 4, 3) := by decide +kernel
set_option maxRecDepth 20000 in
theorem dX7_noFraction_27 : decode cX7_noFraction 27 = .ok (.iconst 0, 1) := by decide +kernel
set_option maxRecDepth 20000 in
theorem dX7_noFraction_28 : decode cX7_noFraction 28 = .ok (.ireturn, 1) := by decide +kernel
set_option maxRecDepth 20000 in
theorem dX7_noModel_0 : decode cX7_noModel 0 = .ok (.iload_n 1, 1) := by decide +kernel
set_option maxRecDepth 20000 in
theorem dX7_noModel_1 : decode cX7_noModel 1 = .ok (.ifCond .lt 17, 3) := by decide +kernel
set_option maxRecDepth 20000 in
theorem dX7_noModel_4 : decode cX7_noModel 4 = .ok (.iload_n 1, 1) := by decide +kernel
set_option maxRecDepth 20000 in
theorem dX7_noModel_5 : decode cX7_noModel 5 = .ok (.bipush 6, 2) := by decide +kernel
set_option maxRecDepth 20000 in
theorem dX7_noModel_7 : decode cX7_noModel 7 = .ok (.if_icmp .gt 11, 3) := by decide +kernel
set_option maxRecDepth 20000 in
theorem dX7_noModel_10 : decode cX7_noModel 10 = .ok (.iload_n 2, 1) := by decide +kernel
set_option maxRecDepth 20000 in
theorem dX7_noModel_11 : decode cX7_noModel 11 = .ok (.ifCond .lt 7, 3) := by decide +kernel
set_option maxRecDepth 20000 in
theorem dX7_noModel_14 : decode cX7_noModel 14 = .ok (.iload_n 3, 1) := by decide +kernel
set_option maxRecDepth 20000 in
theorem dX7_noModel_15 : decode cX7_noModel 15 = .ok (.ifCond .ge 5, 3) := by decide +kernel
set_option maxRecDepth 20000 in
theorem dX7_noModel_18 : decode cX7_noModel 18 = .ok (.iconst 1, 1) := by decide +kernel
set_option maxRecDepth 20000 in
theorem dX7_noModel_19 : decode cX7_noModel 19 = .ok (.ireturn, 1) := by decide +kernel
set_option maxRecDepth 20000 in
theorem dX7_noModel_20 : decode cX7_noModel 20 = .ok (.iload_n 1, 1) := by decide +kernel
set_option maxRecDepth 20000 in
theorem dX7_noModel_21 : decode cX7_noModel 21 = .ok (.iconst 1, 1) := by decide +kernel
set_option maxRecDepth 20000 in
theorem dX7_noModel_22 : decode cX7_noModel 22 = .ok (.if_icmp .eq 13, 3) := by decide +kernel
set_option maxRecDepth 20000 in
theorem dX7_noModel_25 : decode cX7_noModel 25 = .ok (.iload_n 1, 1) := by decide +kernel
set_option maxRecDepth 20000 in
theorem dX7_noModel_26 : decode cX7_noModel 26 = .ok (.iconst 2, 1) := by decide +kernel
set_option maxRecDepth 20000 in
theorem dX7_noModel_27 : decode cX7_noModel 27 = .ok (.if_icmp .eq 8, 3) := by decide +kernel
set_option maxRecDepth 20000 in
theorem dX7_noModel_30 : decode cX7_noModel 30 = .ok (.iload_n 1, 1) := by decide +kernel
set_option maxRecDepth 20000 in
theorem dX7_noModel_31 : decode cX7_noModel 31 = .ok (.iconst 4, 1) := by decide +kernel
set_option maxRecDepth 20000 in
theorem dX7_noModel_32 : decode cX7_noModel 32 = .ok (.if_icmp .ne 7, 3) := by decide +kernel
set_option maxRecDepth 20000 in
theorem dX7_noModel_35 : decode cX7_noModel 35 = .ok (.iconst 1, 1) := by decide +kernel
set_option maxRecDepth 20000 in
theorem dX7_noModel_36 : decode cX7_noModel 36 = .ok (.goto 4, 3) := by decide +kernel
set_option maxRecDepth 20000 in
theorem dX7_noModel_39 : decode cX7_noModel 39 = .ok (.iconst 0, 1) := by decide +kernel
set_option maxRecDepth 20000 in
theorem dX7_noModel_40 : decode cX7_noModel 40 = .ok (.istore 4, 2) := by decide +kernel
set_option maxRecDepth 20000 in
theorem dX7_noModel_42 : decode cX7_noModel 42 = .ok (.iload_n 2, 1) := by decide +kernel
set_option maxRecDepth 20000 in
theorem dX7_noModel_43 : decode cX7_noModel 43 = .ok (.iload_n 1, 1) := by decide +kernel
set_option maxRecDepth 20000 in
theorem dX7_noModel_44 : decode cX7_noModel 44 = .ok (.bipush 6, 2) := by decide +kernel
set_option maxRecDepth 20000 in
theorem dX7_noModel_46 : decode cX7_noModel 46 = .ok (.if_icmp .ne 7, 3) := by decide +kernel
set_option maxRecDepth 20000 in
theorem dX7_noModel_49 : decode cX7_noModel 49 = .ok (.iconst 1, 1) := by decide +kernel
set_option maxRecDepth 20000 in
theorem dX7_noModel_50 : decode cX7_noModel 50 = .ok (.goto 7, 3) := by decide +kernel
set_option maxRecDepth 20000 in
theorem dX7_noModel_53 : decode cX7_noModel 53 = .ok (.aload_n 0, 1) := by decide +kernel
set_option maxRecDepth 20000 in
theorem dX7_noModel_54 : decode cX7_noModel 54 = .ok (.getfield 13, 3) := by decide +kernel
set_option maxRecDepth 20000 in
theorem dX7_noModel_57 : decode cX7_noModel 57 = .ok (.if_icmp .ge 20, 3) := by decide +kernel
set_option maxRecDepth 20000 in
theorem dX7_noModel_60 : decode cX7_noModel 60 = .ok (.iload_n 3, 1) := by decide +kernel
set_option maxRecDepth 20000 in
theorem dX7_noModel_61 : decode cX7_noModel 61 = .ok (.iload 4, 2) := by decide +kernel
set_option maxRecDepth 20000 in
theorem dX7_noModel_63 : decode cX7_noModel 63 = .ok (.ifCond .eq 10, 3) := by decide +kernel
set_option maxRecDepth 20000 in
theorem dX7_noModel_66 : decode cX7_noModel 66 = .ok (.aload_n 0, 1) := by decide +kernel
set_option maxRecDepth 20000 in
theorem dX7_noModel_67 : decode cX7_noModel 67 = .ok (.getfield 13, 3) := by decide +kernel
set_option maxRecDepth 20000 in
theorem dX7_noModel_70 : decode cX7_noModel 70 = .ok (.goto 4, 3) := by decide +kernel
set_option maxRecDepth 20000 in
theorem dX7_noModel_73 : decode cX7_noModel 73 = .ok (.iconst 1, 1) := by decide +kernel
set_option maxRecDepth 20000 in
theorem dX7_noModel_74 : decode cX7_noModel 74 = .ok (.if_icmp .lt 7, 3) := by decide +kernel
set_option maxRecDepth 20000 in
theorem dX7_noModel_77 : decode cX7_noModel 77 = .ok (.iconst 1, 1) := by decide +kernel
set_option maxRecDepth 20000 in
theorem dX7_noModel_78 : decode cX7_noModel 78 = .ok (.goto 4, 3) := by decide +kernel
set_option maxRecDepth 20000 in
theorem dX7_noModel_81 : decode cX7_noModel 81 = .ok (.iconst 0, 1) := by decide +kernel
set_option maxRecDepth 20000 in
theorem dX7_noModel_82 : decode cX7_noModel 82 = .ok (.ireturn, 1) := by decide +kernel
set_option maxRecDepth 20000 in
theorem dX7_set_0 : decode cX7_set 0 = .ok (.aload_n 0, 1) := by decide +kernel
set_option maxRecDepth 20000 in
theorem dX7_set_1 : decode cX7_set 1 = .ok (.aload_n 0, 1) := by decide +kernel
set_option maxRecDepth 20000 in
theorem dX7_set_2 : decode cX7_set 2 = .ok (.iload_n 1, 1) := by decide +kernel
set_option maxRecDepth 20000 in
theorem dX7_set_3 : decode cX7_set 3 = .ok (.iload_n 2, 1) := by decide +kernel
set_option maxRecDepth 20000 in
theorem dX7_set_4 : decode cX7_set 4 = .ok (.iload_n 3, 1) := by decide +kernel
set_option maxRecDepth 20000 in
theorem dX7_set_5 : decode cX7_set 5 = .ok (.invokevirtual 136, 3) := by decide +kernel
set_option maxRecDepth 20000 in
theorem dX7_set_8 : decode cX7_set 8 = .ok (.ifCond .ne 13, 3) := by decide +kernel
set_option maxRecDepth 20000 in
theorem dX7_set_11 : decode cX7_set 11 = .ok (.iload 4, 2) := by decide +kernel
set_option maxRecDepth 20000 in
theorem dX7_set_13 : decode cX7_set 13 = .ok (.iload 5, 2) := by decide +kernel
set_option maxRecDepth 20000 in
theorem dX7_set_15 : decode cX7_set 15 = .ok (.invokestatic 140, 3) := by decide +kernel
set_option maxRecDepth 20000 in
theorem dX7_set_18 : decode cX7_set 18 = .ok (.ifCond .eq 7, 3) := by decide +kernel
set_option maxRecDepth 20000 in
theorem dX7_set_21 : decode cX7_set 21 = .ok (.iconst 1, 1) := by decide +kernel
set_option maxRecDepth 20000 in
theorem dX7_set_22 : decode cX7_set 22 = .ok (.goto 4, 3) := by decide +kernel
set_option maxRecDepth 20000 in
theorem dX7_set_25 : decode cX7_set 25 = .ok (.iconst 0, 1) := by decide +kernel
set_option maxRecDepth 20000 in
theorem dX7_set_26 : decode cX7_set 26 = .ok (.putfield 7, 3) := by decide +kernel
set_option maxRecDepth 20000 in
theorem dX7_set_29 : decode cX7_set 29 = .ok (.aload_n 0, 1) := by decide +kernel
set_option maxRecDepth 20000 in
theorem dX7_set_30 : decode cX7_set 30 = .ok (.getfield 7, 3) := by decide +kernel
set_option maxRecDepth 20000 in
theorem dX7_set_33 : decode cX7_set 33 = .ok (.ifCond .eq 4, 3) := by decide +kernel
set_option maxRecDepth 20000 in
theorem dX7_set_36 : decode cX7_set 36 = .ok (.return_, 1) := by decide +kernel
set_option maxRecDepth 20000 in
theorem dX7_set_37 : decode cX7_set 37 = .ok (.aload_n 0, 1) := by decide +kernel
set_option maxRecDepth 20000 in
theorem dX7_set_38 : decode cX7_set 38 = .ok (.getfield 16, 3) := by decide +kernel
set_option maxRecDepth 20000 in
theorem dX7_set_41 : decode cX7_set 41 = .ok (.iload_n 1, 1) := by decide +kernel
set_option maxRecDepth 20000 in
theorem dX7_set_42 : decode cX7_set 42 = .ok (.iload_n 2, 1) := by decide +kernel
set_option maxRecDepth 20000 in
theorem dX7_set_43 : decode cX7_set 43 = .ok (.iload_n 3, 1) := by decide +kernel
set_option maxRecDepth 20000 in
theorem dX7_set_44 : decode cX7_set 44 = .ok (.invokestatic 53, 3) := by decide +kernel
set_option maxRecDepth 20000 in
theorem dX7_set_47 : decode cX7_set 47 = .ok (.iload 4, 2) := by decide +kernel
set_option maxRecDepth 20000 in
theorem dX7_set_49 : decode cX7_set 49 = .ok (.iastore, 1) := by decide +kernel
set_option maxRecDepth 20000 in
theorem dX7_set_50 : decode cX7_set 50 = .ok (.aload_n 0, 1) := by decide +kernel
set_option maxRecDepth 20000 in
theorem dX7_set_51 : decode cX7_set 51 = .ok (.getfield 20, 3) := by decide +kernel
set_option maxRecDepth 20000 in
theorem dX7_set_54 : decode cX7_set 54 = .ok (.iload_n 1, 1) := by decide +kernel
set_option maxRecDepth 20000 in
theorem dX7_set_55 : decode cX7_set 55 = .ok (.iload_n 2, 1) := by decide +kernel
set_option maxRecDepth 20000 in
theorem dX7_set_56 : decode cX7_set 56 = .ok (.iload_n 3, 1) := by decide +kernel
set_option maxRecDepth 20000 in
theorem dX7_set_57 : decode cX7_set 57 = .ok (.invokestatic 53, 3) := by decide +kernel
set_option maxRecDepth 20000 in
theorem dX7_set_60 : decode cX7_set 60 = .ok (.iload 5, 2) := by decide +kernel
set_option maxRecDepth 20000 in
theorem dX7_set_62 : decode cX7_set 62 = .ok (.iastore, 1) := by decide +kernel
set_option maxRecDepth 20000 in
theorem dX7_set_63 : decode cX7_set 63 = .ok (.iload_n 1, 1) := by decide +kernel
set_option maxRecDepth 20000 in
theorem dX7_set_64 : decode cX7_set 64 = .ok (.iconst 1, 1) := by decide +kernel
set_option maxRecDepth 20000 in
theorem dX7_set_65 : decode cX7_set 65 = .ok (.if_icmp .eq 8, 3) := by decide +kernel
set_option maxRecDepth 20000 in
theorem dX7_set_68 : decode cX7_set 68 = .ok (.iload_n 1, 1) := by decide +kernel
set_option maxRecDepth 20000 in
theorem dX7_set_69 : decode cX7_set 69 = .ok (.iconst 4, 1) := by decide +kernel
set_option maxRecDepth 20000 in
theorem dX7_set_70 : decode cX7_set 70 = .ok (.if_icmp .ne 29, 3) := by decide +kernel
set_option maxRecDepth 20000 in
theorem dX7_set_73 : decode cX7_set 73 = .ok (.aload_n 0, 1) := by decide +kernel
set_option maxRecDepth 20000 in
theorem dX7_set_74 : decode cX7_set 74 = .ok (.getfield 16, 3) := by decide +kernel
set_option maxRecDepth 20000 in
theorem dX7_set_77 : decode cX7_set 77 = .ok (.iload_n 1, 1) := by decide +kernel
set_option maxRecDepth 20000 in
theorem dX7_set_78 : decode cX7_set 78 = .ok (.iload_n 3, 1) := by decide +kernel
set_option maxRecDepth 20000 in
theorem dX7_set_79 : decode cX7_set 79 = .ok (.iload_n 2, 1) := by decide +kernel
set_option maxRecDepth 20000 in
theorem dX7_set_80 : decode cX7_set 80 = .ok (.invokestatic 53, 3) := by decide +kernel
set_option maxRecDepth 20000 in
theorem dX7_set_83 : decode cX7_set 83 = .ok (.iload 4, 2) := by decide +kernel
set_option maxRecDepth 20000 in
theorem dX7_set_85 : decode cX7_set 85 = .ok (.iastore, 1) := by decide +kernel
set_option maxRecDepth 20000 in
theorem dX7_set_86 : decode cX7_set 86 = .ok (.aload_n 0, 1) := by decide +kernel
set_option maxRecDepth 20000 in
theorem dX7_set_87 : decode cX7_set 87 = .ok (.getfield 20, 3) := by decide +kernel
set_option maxRecDepth 20000 in
theorem dX7_set_90 : decode cX7_set 90 = .ok (.iload_n 1, 1) := by decide +kernel
set_option maxRecDepth 20000 in
theorem dX7_set_91 : decode cX7_set 91 = .ok (.iload_n 3, 1) := by decide +kernel
set_option maxRecDepth 20000 in
theorem dX7_set_92 : decode cX7_set 92 = .ok (.iload_n 2, 1) := by decide +kernel
set_option maxRecDepth 20000 in
theorem dX7_set_93 : decode cX7_set 93 = .ok (.invokestatic 53, 3) := by decide +kernel
set_option maxRecDepth 20000 in
theorem dX7_set_96 : decode cX7_set 96 = .ok (.iload 5, 2) := by decide +kernel
set_option maxRecDepth 20000 in
theorem dX7_set_98 : decode cX7_set 98 = .ok (.iastore, 1) := by decide +kernel
set_option maxRecDepth 20000 in
theorem dX7_set_99 : decode cX7_set 99 = .ok (.return_, 1) := by decide +kernel
set_option maxRecDepth 20000 in
theorem dX7_start_0 : decode cX7_start 0 = .ok (.aload_n 0, 1) := by decide +kernel
set_option maxRecDepth 20000 in
theorem dX7_start_1 : decode cX7_start 1 = .ok (.aload_n 0, 1) := by decide +kernel
set_option maxRecDepth 20000 in
theorem dX7_start_2 : decode cX7_start 2 = .ok (.getfield 27, 3) := by decide +kernel
set_option maxRecDepth 20000 in
theorem dX7_start_5 : decode cX7_start 5 = .ok (.bipush 24, 2) := by decide +kernel
set_option maxRecDepth 20000 in
theorem dX7_start_7 : decode cX7_start 7 = .ok (.if_icmp .eq 11, 3) := by decide +kernel
set_option maxRecDepth 20000 in
theorem dX7_start_10 : decode cX7_start 10 = .ok (.aload_n 0, 1) := by decide +kernel
set_option maxRecDepth 20000 in
theorem dX7_start_11 : decode cX7_start 11 = .ok (.iconst 1, 1) := by decide +kernel
set_option maxRecDepth 20000 in
theorem dX7_start_12 : decode cX7_start 12 = .ok (.invokevirtual 144, 3) := by decide +kernel
set_option maxRecDepth 20000 in
theorem dX7_start_15 : decode cX7_start 15 = .ok (.ifCond .ne 7, 3) := by decide +kernel
set_option maxRecDepth 20000 in
theorem dX7_start_18 : decode cX7_start 18 = .ok (.iconst 1, 1) := by decide +kernel
set_option maxRecDepth 20000 in
theorem dX7_start_19 : decode cX7_start 19 = .ok (.goto 4, 3) := by decide +kernel
set_option maxRecDepth 20000 in
theorem dX7_start_22 : decode cX7_start 22 = .ok (.iconst 0, 1) := by decide +kernel
set_option maxRecDepth 20000 in
theorem dX7_start_23 : decode cX7_start 23 = .ok (.putfield 7, 3) := by decide +kernel
set_option maxRecDepth 20000 in
theorem dX7_start_26 : decode cX7_start 26 = .ok (.aload_n 0, 1) := by decide +kernel
set_option maxRecDepth 20000 in
theorem dX7_start_27 : decode cX7_start 27 = .ok (.getfield 7, 3) := by decide +kernel
set_option maxRecDepth 20000 in
theorem dX7_start_30 : decode cX7_start 30 = .ok (.ifCond .eq 4, 3) := by decide +kernel
set_option maxRecDepth 20000 in
theorem dX7_start_33 : decode cX7_start 33 = .ok (.return_, 1) := by decide +kernel
set_option maxRecDepth 20000 in
theorem dX7_start_34 : decode cX7_start 34 = .ok (.aload_n 0, 1) := by decide +kernel
set_option maxRecDepth 20000 in
theorem dX7_start_35 : decode cX7_start 35 = .ok (.dup, 1) := by decide +kernel
set_option maxRecDepth 20000 in
theorem dX7_start_36 : decode cX7_start 36 = .ok (.getfield 27, 3) := by decide +kernel
set_option maxRecDepth 20000 in
theorem dX7_start_39 : decode cX7_start 39 = .ok (.iconst 1, 1) := by decide +kernel
set_option maxRecDepth 20000 in
theorem dX7_start_40 : decode cX7_start 40 = .ok (.iadd, 1) := by decide +kernel
set_option maxRecDepth 20000 in
theorem dX7_start_41 : decode cX7_start 41 = .ok (.putfield 27, 3) := by decide +kernel
set_option maxRecDepth 20000 in
theorem dX7_start_44 : decode cX7_start 44 = .ok (.aload_n 0, 1) := by decide +kernel
set_option maxRecDepth 20000 in
theorem dX7_start_45 : decode cX7_start 45 = .ok (.iconst 1, 1) := by decide +kernel
set_option maxRecDepth 20000 in
theorem dX7_start_46 : decode cX7_start 46 = .ok (.putfield 23, 3) := by decide +kernel
set_option maxRecDepth 20000 in
theorem dX7_start_49 : decode cX7_start 49 = .ok (.aload_n 0, 1) := by decide +kernel
set_option maxRecDepth 20000 in
theorem dX7_start_50 : decode cX7_start 50 = .ok (.iconst 0, 1) := by decide +kernel
set_option maxRecDepth 20000 in
theorem dX7_start_51 : decode cX7_start 51 = .ok (.putfield 30, 3) := by decide +kernel
set_option maxRecDepth 20000 in
theorem dX7_start_54 : decode cX7_start 54 = .ok (.aload_n 0, 1) := by decide +kernel
set_option maxRecDepth 20000 in
theorem dX7_start_55 : decode cX7_start 55 = .ok (.iconst 0, 1) := by decide +kernel
set_option maxRecDepth 20000 in
theorem dX7_start_56 : decode cX7_start 56 = .ok (.putfield 33, 3) := by decide +kernel
set_option maxRecDepth 20000 in
theorem dX7_start_59 : decode cX7_start 59 = .ok (.iconst 0, 1) := by decide +kernel
set_option maxRecDepth 20000 in
theorem dX7_start_60 : decode cX7_start 60 = .ok (.istore_n 1, 1) := by decide +kernel
set_option maxRecDepth 20000 in
theorem dX7_start_61 : decode cX7_start 61 = .ok (.iload_n 1, 1) := by decide +kernel
set_option maxRecDepth 20000 in
theorem dX7_start_62 : decode cX7_start 62 = .ok (.aload_n 0, 1) := by decide +kernel
set_option maxRecDepth 20000 in
theorem dX7_start_63 : decode cX7_start 63 = .ok (.getfield 13, 3) := by decide +kernel
set_option maxRecDepth 20000 in
theorem dX7_start_66 : decode cX7_start 66 = .ok (.if_icmp .ge 45, 3) := by decide +kernel
set_option maxRecDepth 20000 in
theorem dX7_start_69 : decode cX7_start 69 = .ok (.aload_n 0, 1) := by decide +kernel
set_option maxRecDepth 20000 in
theorem dX7_start_70 : decode cX7_start 70 = .ok (.iload_n 1, 1) := by decide +kernel
set_option maxRecDepth 20000 in
theorem dX7_start_71 : decode cX7_start 71 = .ok (.iconst 0, 1) := by decide +kernel
set_option maxRecDepth 20000 in
theorem dX7_start_72 : decode cX7_start 72 = .ok (.iload_n 1, 1) := by decide +kernel
set_option maxRecDepth 20000 in
theorem dX7_start_73 : decode cX7_start 73 = .ok (.iconst 0, 1) := by decide +kernel
set_option maxRecDepth 20000 in
theorem dX7_start_74 : decode cX7_start 74 = .ok (.invokevirtual 117, 3) := by decide +kernel
set_option maxRecDepth 20000 in
theorem dX7_start_77 : decode cX7_start 77 = .ok (.iconst 0, 1) := by decide +kernel
set_option maxRecDepth 20000 in
theorem dX7_start_78 : decode cX7_start 78 = .ok (.istore_n 2, 1) := by decide +kernel
set_option maxRecDepth 20000 in
theorem dX7_start_79 : decode cX7_start 79 = .ok (.iload_n 2, 1) := by decide +kernel
set_option maxRecDepth 20000 in
theorem dX7_start_80 : decode cX7_start 80 = .ok (.aload_n 0, 1) := by decide +kernel
set_option maxRecDepth 20000 in
theorem dX7_start_81 : decode cX7_start 81 = .ok (.getfield 13, 3) := by decide +kernel
set_option maxRecDepth 20000 in
theorem dX7_start_84 : decode cX7_start 84 = .ok (.if_icmp .ge 21, 3) := by decide +kernel
set_option maxRecDepth 20000 in
theorem dX7_start_87 : decode cX7_start 87 = .ok (.aload_n 0, 1) := by decide +kernel
set_option maxRecDepth 20000 in
theorem dX7_start_88 : decode cX7_start 88 = .ok (.iload_n 1, 1) := by decide +kernel
set_option maxRecDepth 20000 in
theorem dX7_start_89 : decode cX7_start 89 = .ok (.iload_n 2, 1) := by decide +kernel
set_option maxRecDepth 20000 in
theorem dX7_start_90 : decode cX7_start 90 = .ok (.invokestatic 121, 3) := by decide +kernel
set_option maxRecDepth 20000 in
theorem dX7_start_93 : decode cX7_start 93 = .ok (.iconst 1, 1) := by decide +kernel
set_option maxRecDepth 20000 in
theorem dX7_start_94 : decode cX7_start 94 = .ok (.iload_n 1, 1) := by decide +kernel
set_option maxRecDepth 20000 in
theorem dX7_start_95 : decode cX7_start 95 = .ok (.iload_n 2, 1) := by decide +kernel
set_option maxRecDepth 20000 in
theorem dX7_start_96 : decode cX7_start 96 = .ok (.invokevirtual 117, 3) := by decide +kernel
set_option maxRecDepth 20000 in
theorem dX7_start_99 : decode cX7_start 99 = .ok (.iinc 2 1, 3) := by decide +kernel
set_option maxRecDepth 20000 in
theorem dX7_start_102 : decode cX7_start 102 = .ok (.goto (-23), 3) := by decide +kernel
set_option maxRecDepth 20000 in
theorem dX7_start_105 : decode cX7_start 105 = .ok (.iinc 1 1, 3) := by decide +kernel
set_option maxRecDepth 20000 in
theorem dX7_start_108 : decode cX7_start 108 = .ok (.goto (-47), 3) := by decide +kernel
set_option maxRecDepth 20000 in
theorem dX7_start_111 : decode cX7_start 111 = .ok (.return_, 1) := by decide +kernel
set_option maxRecDepth 20000 in
theorem dX7_predict_0 : decode cX7_predict 0 = .ok (.aload_n 0, 1) := by decide +kernel
set_option maxRecDepth 20000 in
theorem dX7_predict_1 : decode cX7_predict 1 = .ok (.aload_n 0, 1) := by decide +kernel
set_option maxRecDepth 20000 in
theorem dX7_predict_2 : decode cX7_predict 2 = .ok (.getfield 23, 3) := by decide +kernel
set_option maxRecDepth 20000 in
theorem dX7_predict_5 : decode cX7_predict 5 = .ok (.ifCond .eq 19, 3) := by decide +kernel
set_option maxRecDepth 20000 in
theorem dX7_predict_8 : decode cX7_predict 8 = .ok (.aload_n 0, 1) := by decide +kernel
set_option maxRecDepth 20000 in
theorem dX7_predict_9 : decode cX7_predict 9 = .ok (.iconst 4, 1) := by decide +kernel
set_option maxRecDepth 20000 in
theorem dX7_predict_10 : decode cX7_predict 10 = .ok (.invokevirtual 144, 3) := by decide +kernel
set_option maxRecDepth 20000 in
theorem dX7_predict_13 : decode cX7_predict 13 = .ok (.ifCond .eq 11, 3) := by decide +kernel
set_option maxRecDepth 20000 in
theorem dX7_predict_16 : decode cX7_predict 16 = .ok (.aload_n 0, 1) := by decide +kernel
set_option maxRecDepth 20000 in
theorem dX7_predict_17 : decode cX7_predict 17 = .ok (.getfield 30, 3) := by decide +kernel
set_option maxRecDepth 20000 in
theorem dX7_predict_20 : decode cX7_predict 20 = .ok (.iconst 4, 1) := by decide +kernel
set_option maxRecDepth 20000 in
theorem dX7_predict_21 : decode cX7_predict 21 = .ok (.if_icmp .ne 7, 3) := by decide +kernel
set_option maxRecDepth 20000 in
theorem dX7_predict_24 : decode cX7_predict 24 = .ok (.iconst 1, 1) := by decide +kernel
set_option maxRecDepth 20000 in
theorem dX7_predict_25 : decode cX7_predict 25 = .ok (.goto 4, 3) := by decide +kernel
set_option maxRecDepth 20000 in
theorem dX7_predict_28 : decode cX7_predict 28 = .ok (.iconst 0, 1) := by decide +kernel
set_option maxRecDepth 20000 in
theorem dX7_predict_29 : decode cX7_predict 29 = .ok (.putfield 7, 3) := by decide +kernel
set_option maxRecDepth 20000 in
theorem dX7_predict_32 : decode cX7_predict 32 = .ok (.aload_n 0, 1) := by decide +kernel
set_option maxRecDepth 20000 in
theorem dX7_predict_33 : decode cX7_predict 33 = .ok (.getfield 7, 3) := by decide +kernel
set_option maxRecDepth 20000 in
theorem dX7_predict_36 : decode cX7_predict 36 = .ok (.ifCond .eq 5, 3) := by decide +kernel
set_option maxRecDepth 20000 in
theorem dX7_predict_39 : decode cX7_predict 39 = .ok (.iconst 0, 1) := by decide +kernel
set_option maxRecDepth 20000 in
theorem dX7_predict_40 : decode cX7_predict 40 = .ok (.ireturn, 1) := by decide +kernel
set_option maxRecDepth 20000 in
theorem dX7_predict_41 : decode cX7_predict 41 = .ok (.aload_n 0, 1) := by decide +kernel
set_option maxRecDepth 20000 in
theorem dX7_predict_42 : decode cX7_predict 42 = .ok (.invokevirtual 148, 3) := by decide +kernel
set_option maxRecDepth 20000 in
theorem dX7_predict_45 : decode cX7_predict 45 = .ok (.aload_n 0, 1) := by decide +kernel
set_option maxRecDepth 20000 in
theorem dX7_predict_46 : decode cX7_predict 46 = .ok (.dup, 1) := by decide +kernel
set_option maxRecDepth 20000 in
theorem dX7_predict_47 : decode cX7_predict 47 = .ok (.getfield 30, 3) := by decide +kernel
set_option maxRecDepth 20000 in
theorem dX7_predict_50 : decode cX7_predict 50 = .ok (.iconst 1, 1) := by decide +kernel
set_option maxRecDepth 20000 in
theorem dX7_predict_51 : decode cX7_predict 51 = .ok (.iadd, 1) := by decide +kernel
set_option maxRecDepth 20000 in
theorem dX7_predict_52 : decode cX7_predict 52 = .ok (.putfield 30, 3) := by decide +kernel
set_option maxRecDepth 20000 in
theorem dX7_predict_55 : decode cX7_predict 55 = .ok (.aload_n 0, 1) := by decide +kernel
set_option maxRecDepth 20000 in
theorem dX7_predict_56 : decode cX7_predict 56 = .ok (.getfield 30, 3) := by decide +kernel
set_option maxRecDepth 20000 in
theorem dX7_predict_59 : decode cX7_predict 59 = .ok (.ireturn, 1) := by decide +kernel
set_option maxRecDepth 20000 in
theorem dX7_measure_0 : decode cX7_measure 0 = .ok (.aload_n 0, 1) := by decide +kernel
set_option maxRecDepth 20000 in
theorem dX7_measure_1 : decode cX7_measure 1 = .ok (.iload_n 1, 1) := by decide +kernel
set_option maxRecDepth 20000 in
theorem dX7_measure_2 : decode cX7_measure 2 = .ok (.iload_n 2, 1) := by decide +kernel
set_option maxRecDepth 20000 in
theorem dX7_measure_3 : decode cX7_measure 3 = .ok (.invokestatic 140, 3) := by decide +kernel
set_option maxRecDepth 20000 in
theorem dX7_measure_6 : decode cX7_measure 6 = .ok (.ifCond .eq 7, 3) := by decide +kernel
set_option maxRecDepth 20000 in
theorem dX7_measure_9 : decode cX7_measure 9 = .ok (.iconst 1, 1) := by decide +kernel
set_option maxRecDepth 20000 in
theorem dX7_measure_10 : decode cX7_measure 10 = .ok (.goto 49, 3) := by decide +kernel
set_option maxRecDepth 20000 in
theorem dX7_measure_13 : decode cX7_measure 13 = .ok (.aload_n 0, 1) := by decide +kernel
set_option maxRecDepth 20000 in
theorem dX7_measure_14 : decode cX7_measure 14 = .ok (.getfield 23, 3) := by decide +kernel
set_option maxRecDepth 20000 in
theorem dX7_measure_17 : decode cX7_measure 17 = .ok (.ifCond .eq 26, 3) := by decide +kernel
set_option maxRecDepth 20000 in
theorem dX7_measure_20 : decode cX7_measure 20 = .ok (.aload_n 0, 1) := by decide +kernel
set_option maxRecDepth 20000 in
theorem dX7_measure_21 : decode cX7_measure 21 = .ok (.getfield 16, 3) := by decide +kernel
set_option maxRecDepth 20000 in
theorem dX7_measure_24 : decode cX7_measure 24 = .ok (.bipush 6, 2) := by decide +kernel
set_option maxRecDepth 20000 in
theorem dX7_measure_26 : decode cX7_measure 26 = .ok (.iconst 0, 1) := by decide +kernel
set_option maxRecDepth 20000 in
theorem dX7_measure_27 : decode cX7_measure 27 = .ok (.iconst 0, 1) := by decide +kernel
set_option maxRecDepth 20000 in
theorem dX7_measure_28 : decode cX7_measure 28 = .ok (.invokestatic 53, 3) := by decide +kernel
set_option maxRecDepth 20000 in
theorem dX7_measure_31 : decode cX7_measure 31 = .ok (.iaload, 1) := by decide +kernel
set_option maxRecDepth 20000 in
theorem dX7_measure_32 : decode cX7_measure 32 = .ok (.ifCond .lt 11, 3) := by decide +kernel
set_option maxRecDepth 20000 in
theorem dX7_measure_35 : decode cX7_measure 35 = .ok (.aload_n 0, 1) := by decide +kernel
set_option maxRecDepth 20000 in
theorem dX7_measure_36 : decode cX7_measure 36 = .ok (.getfield 33, 3) := by decide +kernel
set_option maxRecDepth 20000 in
theorem dX7_measure_39 : decode cX7_measure 39 = .ok (.iconst 3, 1) := by decide +kernel
set_option maxRecDepth 20000 in
theorem dX7_measure_40 : decode cX7_measure 40 = .ok (.if_icmp .ne 7, 3) := by decide +kernel
set_option maxRecDepth 20000 in
theorem dX7_measure_43 : decode cX7_measure 43 = .ok (.iconst 2, 1) := by decide +kernel
set_option maxRecDepth 20000 in
theorem dX7_measure_44 : decode cX7_measure 44 = .ok (.goto 15, 3) := by decide +kernel
set_option maxRecDepth 20000 in
theorem dX7_measure_47 : decode cX7_measure 47 = .ok (.aload_n 0, 1) := by decide +kernel
set_option maxRecDepth 20000 in
theorem dX7_measure_48 : decode cX7_measure 48 = .ok (.invokevirtual 151, 3) := by decide +kernel
set_option maxRecDepth 20000 in
theorem dX7_measure_51 : decode cX7_measure 51 = .ok (.ifCond .ne 7, 3) := by decide +kernel
set_option maxRecDepth 20000 in
theorem dX7_measure_54 : decode cX7_measure 54 = .ok (.iconst 3, 1) := by decide +kernel
set_option maxRecDepth 20000 in
theorem dX7_measure_55 : decode cX7_measure 55 = .ok (.goto 4, 3) := by decide +kernel
set_option maxRecDepth 20000 in
theorem dX7_measure_58 : decode cX7_measure 58 = .ok (.iconst 0, 1) := by decide +kernel
set_option maxRecDepth 20000 in
theorem dX7_measure_59 : decode cX7_measure 59 = .ok (.putfield 7, 3) := by decide +kernel
set_option maxRecDepth 20000 in
theorem dX7_measure_62 : decode cX7_measure 62 = .ok (.aload_n 0, 1) := by decide +kernel
set_option maxRecDepth 20000 in
theorem dX7_measure_63 : decode cX7_measure 63 = .ok (.getfield 7, 3) := by decide +kernel
set_option maxRecDepth 20000 in
theorem dX7_measure_66 : decode cX7_measure 66 = .ok (.ifCond .eq 5, 3) := by decide +kernel
set_option maxRecDepth 20000 in
theorem dX7_measure_69 : decode cX7_measure 69 = .ok (.iconst 0, 1) := by decide +kernel
set_option maxRecDepth 20000 in
theorem dX7_measure_70 : decode cX7_measure 70 = .ok (.ireturn, 1) := by decide +kernel
set_option maxRecDepth 20000 in
theorem dX7_measure_71 : decode cX7_measure 71 = .ok (.aload_n 0, 1) := by decide +kernel
set_option maxRecDepth 20000 in
theorem dX7_measure_72 : decode cX7_measure 72 = .ok (.iload_n 1, 1) := by decide +kernel
set_option maxRecDepth 20000 in
theorem dX7_measure_73 : decode cX7_measure 73 = .ok (.iload_n 2, 1) := by decide +kernel
set_option maxRecDepth 20000 in
theorem dX7_measure_74 : decode cX7_measure 74 = .ok (.invokevirtual 155, 3) := by decide +kernel
set_option maxRecDepth 20000 in
theorem dX7_measure_77 : decode cX7_measure 77 = .ok (.aload_n 0, 1) := by decide +kernel
set_option maxRecDepth 20000 in
theorem dX7_measure_78 : decode cX7_measure 78 = .ok (.dup, 1) := by decide +kernel
set_option maxRecDepth 20000 in
theorem dX7_measure_79 : decode cX7_measure 79 = .ok (.getfield 33, 3) := by decide +kernel
set_option maxRecDepth 20000 in
theorem dX7_measure_82 : decode cX7_measure 82 = .ok (.iconst 1, 1) := by decide +kernel
set_option maxRecDepth 20000 in
theorem dX7_measure_83 : decode cX7_measure 83 = .ok (.iadd, 1) := by decide +kernel
set_option maxRecDepth 20000 in
theorem dX7_measure_84 : decode cX7_measure 84 = .ok (.putfield 33, 3) := by decide +kernel
set_option maxRecDepth 20000 in
theorem dX7_measure_87 : decode cX7_measure 87 = .ok (.aload_n 0, 1) := by decide +kernel
set_option maxRecDepth 20000 in
theorem dX7_measure_88 : decode cX7_measure 88 = .ok (.getfield 33, 3) := by decide +kernel
set_option maxRecDepth 20000 in
theorem dX7_measure_91 : decode cX7_measure 91 = .ok (.ireturn, 1) := by decide +kernel
set_option maxRecDepth 20000 in
theorem dX7_asked_0 : decode cX7_asked 0 = .ok (.aload_n 0, 1) := by decide +kernel
set_option maxRecDepth 20000 in
theorem dX7_asked_1 : decode cX7_asked 1 = .ok (.aload_n 0, 1) := by decide +kernel
set_option maxRecDepth 20000 in
theorem dX7_asked_2 : decode cX7_asked 2 = .ok (.getfield 23, 3) := by decide +kernel
set_option maxRecDepth 20000 in
theorem dX7_asked_5 : decode cX7_asked 5 = .ok (.ifCond .eq 20, 3) := by decide +kernel
set_option maxRecDepth 20000 in
theorem dX7_asked_8 : decode cX7_asked 8 = .ok (.iload_n 1, 1) := by decide +kernel
set_option maxRecDepth 20000 in
theorem dX7_asked_9 : decode cX7_asked 9 = .ok (.iconst 1, 1) := by decide +kernel
set_option maxRecDepth 20000 in
theorem dX7_asked_10 : decode cX7_asked 10 = .ok (.if_icmp .le 19, 3) := by decide +kernel
set_option maxRecDepth 20000 in
theorem dX7_asked_13 : decode cX7_asked 13 = .ok (.iload_n 1, 1) := by decide +kernel
set_option maxRecDepth 20000 in
theorem dX7_asked_14 : decode cX7_asked 14 = .ok (.iconst 5, 1) := by decide +kernel
set_option maxRecDepth 20000 in
theorem dX7_asked_15 : decode cX7_asked 15 = .ok (.if_icmp .ge 14, 3) := by decide +kernel
set_option maxRecDepth 20000 in
theorem dX7_asked_18 : decode cX7_asked 18 = .ok (.aload_n 0, 1) := by decide +kernel
set_option maxRecDepth 20000 in
theorem dX7_asked_19 : decode cX7_asked 19 = .ok (.getfield 33, 3) := by decide +kernel
set_option maxRecDepth 20000 in
theorem dX7_asked_22 : decode cX7_asked 22 = .ok (.ifCond .ne 7, 3) := by decide +kernel
set_option maxRecDepth 20000 in
theorem dX7_asked_25 : decode cX7_asked 25 = .ok (.iconst 1, 1) := by decide +kernel
set_option maxRecDepth 20000 in
theorem dX7_asked_26 : decode cX7_asked 26 = .ok (.goto 4, 3) := by decide +kernel
set_option maxRecDepth 20000 in
theorem dX7_asked_29 : decode cX7_asked 29 = .ok (.iconst 0, 1) := by decide +kernel
set_option maxRecDepth 20000 in
theorem dX7_asked_30 : decode cX7_asked 30 = .ok (.putfield 7, 3) := by decide +kernel
set_option maxRecDepth 20000 in
theorem dX7_asked_33 : decode cX7_asked 33 = .ok (.aload_n 0, 1) := by decide +kernel
set_option maxRecDepth 20000 in
theorem dX7_asked_34 : decode cX7_asked 34 = .ok (.getfield 7, 3) := by decide +kernel
set_option maxRecDepth 20000 in
theorem dX7_asked_37 : decode cX7_asked 37 = .ok (.ifCond .eq 5, 3) := by decide +kernel
set_option maxRecDepth 20000 in
theorem dX7_asked_40 : decode cX7_asked 40 = .ok (.iconst 0, 1) := by decide +kernel
set_option maxRecDepth 20000 in
theorem dX7_asked_41 : decode cX7_asked 41 = .ok (.ireturn, 1) := by decide +kernel
set_option maxRecDepth 20000 in
theorem dX7_asked_42 : decode cX7_asked 42 = .ok (.iload_n 1, 1) := by decide +kernel
set_option maxRecDepth 20000 in
theorem dX7_asked_43 : decode cX7_asked 43 = .ok (.ifCond .lt 55, 3) := by decide +kernel
set_option maxRecDepth 20000 in
theorem dX7_asked_46 : decode cX7_asked 46 = .ok (.iload_n 1, 1) := by decide +kernel
set_option maxRecDepth 20000 in
theorem dX7_asked_47 : decode cX7_asked 47 = .ok (.iconst 4, 1) := by decide +kernel
set_option maxRecDepth 20000 in
theorem dX7_asked_48 : decode cX7_asked 48 = .ok (.if_icmp .gt 50, 3) := by decide +kernel
set_option maxRecDepth 20000 in
theorem dX7_asked_51 : decode cX7_asked 51 = .ok (.iload_n 2, 1) := by decide +kernel
set_option maxRecDepth 20000 in
theorem dX7_asked_52 : decode cX7_asked 52 = .ok (.ifCond .lt 46, 3) := by decide +kernel
set_option maxRecDepth 20000 in
theorem dX7_asked_55 : decode cX7_asked 55 = .ok (.iload_n 3, 1) := by decide +kernel
set_option maxRecDepth 20000 in
theorem dX7_asked_56 : decode cX7_asked 56 = .ok (.ifCond .lt 42, 3) := by decide +kernel
set_option maxRecDepth 20000 in
theorem dX7_asked_59 : decode cX7_asked 59 = .ok (.iload_n 2, 1) := by decide +kernel
set_option maxRecDepth 20000 in
theorem dX7_asked_60 : decode cX7_asked 60 = .ok (.iload_n 1, 1) := by decide +kernel
set_option maxRecDepth 20000 in
theorem dX7_asked_61 : decode cX7_asked 61 = .ok (.iconst 2, 1) := by decide +kernel
set_option maxRecDepth 20000 in
theorem dX7_asked_62 : decode cX7_asked 62 = .ok (.if_icmp .eq 8, 3) := by decide +kernel
set_option maxRecDepth 20000 in
theorem dX7_asked_65 : decode cX7_asked 65 = .ok (.iload_n 1, 1) := by decide +kernel
set_option maxRecDepth 20000 in
theorem dX7_asked_66 : decode cX7_asked 66 = .ok (.iconst 3, 1) := by decide +kernel
set_option maxRecDepth 20000 in
theorem dX7_asked_67 : decode cX7_asked 67 = .ok (.if_icmp .ne 7, 3) := by decide +kernel
set_option maxRecDepth 20000 in
theorem dX7_asked_70 : decode cX7_asked 70 = .ok (.iconst 1, 1) := by decide +kernel
set_option maxRecDepth 20000 in
theorem dX7_asked_71 : decode cX7_asked 71 = .ok (.goto 7, 3) := by decide +kernel
set_option maxRecDepth 20000 in
theorem dX7_asked_74 : decode cX7_asked 74 = .ok (.aload_n 0, 1) := by decide +kernel
set_option maxRecDepth 20000 in
theorem dX7_asked_75 : decode cX7_asked 75 = .ok (.getfield 13, 3) := by decide +kernel
set_option maxRecDepth 20000 in
theorem dX7_asked_78 : decode cX7_asked 78 = .ok (.if_icmp .ge 20, 3) := by decide +kernel
set_option maxRecDepth 20000 in
theorem dX7_asked_81 : decode cX7_asked 81 = .ok (.iload_n 3, 1) := by decide +kernel
set_option maxRecDepth 20000 in
theorem dX7_asked_82 : decode cX7_asked 82 = .ok (.iload_n 1, 1) := by decide +kernel
set_option maxRecDepth 20000 in
theorem dX7_asked_83 : decode cX7_asked 83 = .ok (.iconst 1, 1) := by decide +kernel
set_option maxRecDepth 20000 in
theorem dX7_asked_84 : decode cX7_asked 84 = .ok (.if_icmp .ne 10, 3) := by decide +kernel
set_option maxRecDepth 20000 in
theorem dX7_asked_87 : decode cX7_asked 87 = .ok (.aload_n 0, 1) := by decide +kernel
set_option maxRecDepth 20000 in
theorem dX7_asked_88 : decode cX7_asked 88 = .ok (.getfield 13, 3) := by decide +kernel
set_option maxRecDepth 20000 in
theorem dX7_asked_91 : decode cX7_asked 91 = .ok (.goto 4, 3) := by decide +kernel
set_option maxRecDepth 20000 in
theorem dX7_asked_94 : decode cX7_asked 94 = .ok (.iconst 1, 1) := by decide +kernel
set_option maxRecDepth 20000 in
theorem dX7_asked_95 : decode cX7_asked 95 = .ok (.if_icmp .lt 7, 3) := by decide +kernel
set_option maxRecDepth 20000 in
theorem dX7_asked_98 : decode cX7_asked 98 = .ok (.iconst 1, 1) := by decide +kernel
set_option maxRecDepth 20000 in
theorem dX7_asked_99 : decode cX7_asked 99 = .ok (.goto 4, 3) := by decide +kernel
set_option maxRecDepth 20000 in
theorem dX7_asked_102 : decode cX7_asked 102 = .ok (.iconst 0, 1) := by decide +kernel
set_option maxRecDepth 20000 in
theorem dX7_asked_103 : decode cX7_asked 103 = .ok (.istore 4, 2) := by decide +kernel
set_option maxRecDepth 20000 in
theorem dX7_asked_105 : decode cX7_asked 105 = .ok (.iload 4, 2) := by decide +kernel
set_option maxRecDepth 20000 in
theorem dX7_asked_107 : decode cX7_asked 107 = .ok (.ifCond .eq 8, 3) := by decide +kernel
set_option maxRecDepth 20000 in
theorem dX7_asked_110 : decode cX7_asked 110 = .ok (.aload_n 0, 1) := by decide +kernel
set_option maxRecDepth 20000 in
theorem dX7_asked_111 : decode cX7_asked 111 = .ok (.iconst 2, 1) := by decide +kernel
set_option maxRecDepth 20000 in
theorem dX7_asked_112 : decode cX7_asked 112 = .ok (.putfield 7, 3) := by decide +kernel
set_option maxRecDepth 20000 in
theorem dX7_asked_115 : decode cX7_asked 115 = .ok (.iload 4, 2) := by decide +kernel
set_option maxRecDepth 20000 in
theorem dX7_asked_117 : decode cX7_asked 117 = .ok (.ifCond .eq 5, 3) := by decide +kernel
set_option maxRecDepth 20000 in
theorem dX7_asked_120 : decode cX7_asked 120 = .ok (.iconst 0, 1) := by decide +kernel
set_option maxRecDepth 20000 in
theorem dX7_asked_121 : decode cX7_asked 121 = .ok (.ireturn, 1) := by decide +kernel
set_option maxRecDepth 20000 in
theorem dX7_asked_122 : decode cX7_asked 122 = .ok (.iload_n 1, 1) := by decide +kernel
set_option maxRecDepth 20000 in
theorem dX7_asked_123 : decode cX7_asked 123 = .ok (.ifCond .ne 7, 3) := by decide +kernel
set_option maxRecDepth 20000 in
theorem dX7_asked_126 : decode cX7_asked 126 = .ok (.iload_n 2, 1) := by decide +kernel
set_option maxRecDepth 20000 in
theorem dX7_asked_127 : decode cX7_asked 127 = .ok (.goto 40, 3) := by decide +kernel
set_option maxRecDepth 20000 in
theorem dX7_asked_130 : decode cX7_asked 130 = .ok (.iload_n 1, 1) := by decide +kernel
set_option maxRecDepth 20000 in
theorem dX7_asked_131 : decode cX7_asked 131 = .ok (.iconst 1, 1) := by decide +kernel
set_option maxRecDepth 20000 in
theorem dX7_asked_132 : decode cX7_asked 132 = .ok (.if_icmp .ne 11, 3) := by decide +kernel
set_option maxRecDepth 20000 in
theorem dX7_asked_135 : decode cX7_asked 135 = .ok (.iload_n 2, 1) := by decide +kernel
set_option maxRecDepth 20000 in
theorem dX7_asked_136 : decode cX7_asked 136 = .ok (.iload_n 3, 1) := by decide +kernel
set_option maxRecDepth 20000 in
theorem dX7_asked_137 : decode cX7_asked 137 = .ok (.invokestatic 121, 3) := by decide +kernel
set_option maxRecDepth 20000 in
theorem dX7_asked_140 : decode cX7_asked 140 = .ok (.goto 27, 3) := by decide +kernel
set_option maxRecDepth 20000 in
theorem dX7_asked_143 : decode cX7_asked 143 = .ok (.iload_n 1, 1) := by decide +kernel
set_option maxRecDepth 20000 in
theorem dX7_asked_144 : decode cX7_asked 144 = .ok (.iconst 2, 1) := by decide +kernel
set_option maxRecDepth 20000 in
theorem dX7_asked_145 : decode cX7_asked 145 = .ok (.if_icmp .ne 8, 3) := by decide +kernel
set_option maxRecDepth 20000 in
theorem dX7_asked_148 : decode cX7_asked 148 = .ok (.bipush 6, 2) := by decide +kernel
set_option maxRecDepth 20000 in
theorem dX7_asked_150 : decode cX7_asked 150 = .ok (.goto 17, 3) := by decide +kernel
set_option maxRecDepth 20000 in
theorem dX7_asked_153 : decode cX7_asked 153 = .ok (.iload_n 1, 1) := by decide +kernel
set_option maxRecDepth 20000 in
theorem dX7_asked_154 : decode cX7_asked 154 = .ok (.iconst 3, 1) := by decide +kernel
set_option maxRecDepth 20000 in
theorem dX7_asked_155 : decode cX7_asked 155 = .ok (.if_icmp .ne 8, 3) := by decide +kernel
set_option maxRecDepth 20000 in
theorem dX7_asked_158 : decode cX7_asked 158 = .ok (.bipush 7, 2) := by decide +kernel
set_option maxRecDepth 20000 in
theorem dX7_asked_160 : decode cX7_asked 160 = .ok (.goto 7, 3) := by decide +kernel
set_option maxRecDepth 20000 in
theorem dX7_asked_163 : decode cX7_asked 163 = .ok (.bipush 8, 2) := by decide +kernel
set_option maxRecDepth 20000 in
theorem dX7_asked_165 : decode cX7_asked 165 = .ok (.iload_n 2, 1) := by decide +kernel
set_option maxRecDepth 20000 in
theorem dX7_asked_166 : decode cX7_asked 166 = .ok (.iadd, 1) := by decide +kernel
set_option maxRecDepth 20000 in
theorem dX7_asked_167 : decode cX7_asked 167 = .ok (.ireturn, 1) := by decide +kernel
set_option maxRecDepth 20000 in
theorem dX7_sign_0 : decode cX7_sign 0 = .ok (.aload_n 0, 1) := by decide +kernel
set_option maxRecDepth 20000 in
theorem dX7_sign_1 : decode cX7_sign 1 = .ok (.iload_n 1, 1) := by decide +kernel
set_option maxRecDepth 20000 in
theorem dX7_sign_2 : decode cX7_sign 2 = .ok (.iload_n 2, 1) := by decide +kernel
set_option maxRecDepth 20000 in
theorem dX7_sign_3 : decode cX7_sign 3 = .ok (.iload_n 3, 1) := by decide +kernel
set_option maxRecDepth 20000 in
theorem dX7_sign_4 : decode cX7_sign 4 = .ok (.invokevirtual 158, 3) := by decide +kernel
set_option maxRecDepth 20000 in
theorem dX7_sign_7 : decode cX7_sign 7 = .ok (.istore 4, 2) := by decide +kernel
set_option maxRecDepth 20000 in
theorem dX7_sign_9 : decode cX7_sign 9 = .ok (.aload_n 0, 1) := by decide +kernel
set_option maxRecDepth 20000 in
theorem dX7_sign_10 : decode cX7_sign 10 = .ok (.getfield 7, 3) := by decide +kernel
set_option maxRecDepth 20000 in
theorem dX7_sign_13 : decode cX7_sign 13 = .ok (.ifCond .eq 7, 3) := by decide +kernel
set_option maxRecDepth 20000 in
theorem dX7_sign_16 : decode cX7_sign 16 = .ok (.iconst 0, 1) := by decide +kernel
set_option maxRecDepth 20000 in
theorem dX7_sign_17 : decode cX7_sign 17 = .ok (.goto 10, 3) := by decide +kernel
set_option maxRecDepth 20000 in
theorem dX7_sign_20 : decode cX7_sign 20 = .ok (.aload_n 0, 1) := by decide +kernel
set_option maxRecDepth 20000 in
theorem dX7_sign_21 : decode cX7_sign 21 = .ok (.getfield 43, 3) := by decide +kernel
set_option maxRecDepth 20000 in
theorem dX7_sign_24 : decode cX7_sign 24 = .ok (.iload 4, 2) := by decide +kernel
set_option maxRecDepth 20000 in
theorem dX7_sign_26 : decode cX7_sign 26 = .ok (.iaload, 1) := by decide +kernel
set_option maxRecDepth 20000 in
theorem dX7_sign_27 : decode cX7_sign 27 = .ok (.ireturn, 1) := by decide +kernel
set_option maxRecDepth 20000 in
theorem dX7_pieces_0 : decode cX7_pieces 0 = .ok (.aload_n 0, 1) := by decide +kernel
set_option maxRecDepth 20000 in
theorem dX7_pieces_1 : decode cX7_pieces 1 = .ok (.iload_n 1, 1) := by decide +kernel
set_option maxRecDepth 20000 in
theorem dX7_pieces_2 : decode cX7_pieces 2 = .ok (.iload_n 2, 1) := by decide +kernel
set_option maxRecDepth 20000 in
theorem dX7_pieces_3 : decode cX7_pieces 3 = .ok (.iload_n 3, 1) := by decide +kernel
set_option maxRecDepth 20000 in
theorem dX7_pieces_4 : decode cX7_pieces 4 = .ok (.invokevirtual 158, 3) := by decide +kernel
set_option maxRecDepth 20000 in
theorem dX7_pieces_7 : decode cX7_pieces 7 = .ok (.istore 5, 2) := by decide +kernel
set_option maxRecDepth 20000 in
theorem dX7_pieces_9 : decode cX7_pieces 9 = .ok (.aload_n 0, 1) := by decide +kernel
set_option maxRecDepth 20000 in
theorem dX7_pieces_10 : decode cX7_pieces 10 = .ok (.getfield 7, 3) := by decide +kernel
set_option maxRecDepth 20000 in
theorem dX7_pieces_13 : decode cX7_pieces 13 = .ok (.ifCond .ne 19, 3) := by decide +kernel
set_option maxRecDepth 20000 in
theorem dX7_pieces_16 : decode cX7_pieces 16 = .ok (.iload 4, 2) := by decide +kernel
set_option maxRecDepth 20000 in
theorem dX7_pieces_18 : decode cX7_pieces 18 = .ok (.ifCond .lt 9, 3) := by decide +kernel
set_option maxRecDepth 20000 in
theorem dX7_pieces_21 : decode cX7_pieces 21 = .ok (.iload 4, 2) := by decide +kernel
set_option maxRecDepth 20000 in
theorem dX7_pieces_23 : decode cX7_pieces 23 = .ok (.iconst 1, 1) := by decide +kernel
set_option maxRecDepth 20000 in
theorem dX7_pieces_24 : decode cX7_pieces 24 = .ok (.if_icmp .le 8, 3) := by decide +kernel
set_option maxRecDepth 20000 in
theorem dX7_pieces_27 : decode cX7_pieces 27 = .ok (.aload_n 0, 1) := by decide +kernel
set_option maxRecDepth 20000 in
theorem dX7_pieces_28 : decode cX7_pieces 28 = .ok (.iconst 2, 1) := by decide +kernel
set_option maxRecDepth 20000 in
theorem dX7_pieces_29 : decode cX7_pieces 29 = .ok (.putfield 7, 3) := by decide +kernel
set_option maxRecDepth 20000 in
theorem dX7_pieces_32 : decode cX7_pieces 32 = .ok (.aload_n 0, 1) := by decide +kernel
set_option maxRecDepth 20000 in
theorem dX7_pieces_33 : decode cX7_pieces 33 = .ok (.getfield 7, 3) := by decide +kernel
set_option maxRecDepth 20000 in
theorem dX7_pieces_36 : decode cX7_pieces 36 = .ok (.ifCond .eq 7, 3) := by decide +kernel
set_option maxRecDepth 20000 in
theorem dX7_pieces_39 : decode cX7_pieces 39 = .ok (.iconst 0, 1) := by decide +kernel
set_option maxRecDepth 20000 in
theorem dX7_pieces_40 : decode cX7_pieces 40 = .ok (.goto 15, 3) := by decide +kernel
set_option maxRecDepth 20000 in
theorem dX7_pieces_43 : decode cX7_pieces 43 = .ok (.aload_n 0, 1) := by decide +kernel
set_option maxRecDepth 20000 in
theorem dX7_pieces_44 : decode cX7_pieces 44 = .ok (.getfield 40, 3) := by decide +kernel
set_option maxRecDepth 20000 in
theorem dX7_pieces_47 : decode cX7_pieces 47 = .ok (.iconst 2, 1) := by decide +kernel
set_option maxRecDepth 20000 in
theorem dX7_pieces_48 : decode cX7_pieces 48 = .ok (.iload 5, 2) := by decide +kernel
set_option maxRecDepth 20000 in
theorem dX7_pieces_50 : decode cX7_pieces 50 = .ok (.imul, 1) := by decide +kernel
set_option maxRecDepth 20000 in
theorem dX7_pieces_51 : decode cX7_pieces 51 = .ok (.iload 4, 2) := by decide +kernel
set_option maxRecDepth 20000 in
theorem dX7_pieces_53 : decode cX7_pieces 53 = .ok (.iadd, 1) := by decide +kernel
set_option maxRecDepth 20000 in
theorem dX7_pieces_54 : decode cX7_pieces 54 = .ok (.iaload, 1) := by decide +kernel
set_option maxRecDepth 20000 in
theorem dX7_pieces_55 : decode cX7_pieces 55 = .ok (.ireturn, 1) := by decide +kernel
set_option maxRecDepth 20000 in
theorem dX7_piece_0 : decode cX7_piece 0 = .ok (.aload_n 0, 1) := by decide +kernel
set_option maxRecDepth 20000 in
theorem dX7_piece_1 : decode cX7_piece 1 = .ok (.iload_n 1, 1) := by decide +kernel
set_option maxRecDepth 20000 in
theorem dX7_piece_2 : decode cX7_piece 2 = .ok (.iload_n 2, 1) := by decide +kernel
set_option maxRecDepth 20000 in
theorem dX7_piece_3 : decode cX7_piece 3 = .ok (.iload_n 3, 1) := by decide +kernel
set_option maxRecDepth 20000 in
theorem dX7_piece_4 : decode cX7_piece 4 = .ok (.invokevirtual 158, 3) := by decide +kernel
set_option maxRecDepth 20000 in
theorem dX7_piece_7 : decode cX7_piece 7 = .ok (.istore 6, 2) := by decide +kernel
set_option maxRecDepth 20000 in
theorem dX7_piece_9 : decode cX7_piece 9 = .ok (.aload_n 0, 1) := by decide +kernel
set_option maxRecDepth 20000 in
theorem dX7_piece_10 : decode cX7_piece 10 = .ok (.getfield 7, 3) := by decide +kernel
set_option maxRecDepth 20000 in
theorem dX7_piece_13 : decode cX7_piece 13 = .ok (.ifCond .ne 24, 3) := by decide +kernel
set_option maxRecDepth 20000 in
theorem dX7_piece_16 : decode cX7_piece 16 = .ok (.iload 4, 2) := by decide +kernel
set_option maxRecDepth 20000 in
theorem dX7_piece_18 : decode cX7_piece 18 = .ok (.ifCond .lt 14, 3) := by decide +kernel
set_option maxRecDepth 20000 in
theorem dX7_piece_21 : decode cX7_piece 21 = .ok (.iload 4, 2) := by decide +kernel
set_option maxRecDepth 20000 in
theorem dX7_piece_23 : decode cX7_piece 23 = .ok (.iconst 1, 1) := by decide +kernel
set_option maxRecDepth 20000 in
theorem dX7_piece_24 : decode cX7_piece 24 = .ok (.if_icmp .gt 8, 3) := by decide +kernel
set_option maxRecDepth 20000 in
theorem dX7_piece_27 : decode cX7_piece 27 = .ok (.iload 5, 2) := by decide +kernel
set_option maxRecDepth 20000 in
theorem dX7_piece_29 : decode cX7_piece 29 = .ok (.ifCond .ge 8, 3) := by decide +kernel
set_option maxRecDepth 20000 in
theorem dX7_piece_32 : decode cX7_piece 32 = .ok (.aload_n 0, 1) := by decide +kernel
set_option maxRecDepth 20000 in
theorem dX7_piece_33 : decode cX7_piece 33 = .ok (.iconst 2, 1) := by decide +kernel
set_option maxRecDepth 20000 in
theorem dX7_piece_34 : decode cX7_piece 34 = .ok (.putfield 7, 3) := by decide +kernel
set_option maxRecDepth 20000 in
theorem dX7_piece_37 : decode cX7_piece 37 = .ok (.aload_n 0, 1) := by decide +kernel
set_option maxRecDepth 20000 in
theorem dX7_piece_38 : decode cX7_piece 38 = .ok (.getfield 7, 3) := by decide +kernel
set_option maxRecDepth 20000 in
theorem dX7_piece_41 : decode cX7_piece 41 = .ok (.ifCond .eq 7, 3) := by decide +kernel
set_option maxRecDepth 20000 in
theorem dX7_piece_44 : decode cX7_piece 44 = .ok (.iconst 0, 1) := by decide +kernel
set_option maxRecDepth 20000 in
theorem dX7_piece_45 : decode cX7_piece 45 = .ok (.goto 16, 3) := by decide +kernel
set_option maxRecDepth 20000 in
theorem dX7_piece_48 : decode cX7_piece 48 = .ok (.aload_n 0, 1) := by decide +kernel
set_option maxRecDepth 20000 in
theorem dX7_piece_49 : decode cX7_piece 49 = .ok (.iconst 2, 1) := by decide +kernel
set_option maxRecDepth 20000 in
theorem dX7_piece_50 : decode cX7_piece 50 = .ok (.iload 6, 2) := by decide +kernel
set_option maxRecDepth 20000 in
theorem dX7_piece_52 : decode cX7_piece 52 = .ok (.imul, 1) := by decide +kernel
set_option maxRecDepth 20000 in
theorem dX7_piece_53 : decode cX7_piece 53 = .ok (.iload 4, 2) := by decide +kernel
set_option maxRecDepth 20000 in
theorem dX7_piece_55 : decode cX7_piece 55 = .ok (.iadd, 1) := by decide +kernel
set_option maxRecDepth 20000 in
theorem dX7_piece_56 : decode cX7_piece 56 = .ok (.iload 5, 2) := by decide +kernel
set_option maxRecDepth 20000 in
theorem dX7_piece_58 : decode cX7_piece 58 = .ok (.invokevirtual 62, 3) := by decide +kernel
set_option maxRecDepth 20000 in
theorem dX7_piece_61 : decode cX7_piece 61 = .ok (.ireturn, 1) := by decide +kernel
set_option maxRecDepth 20000 in
theorem dX7_scaled_0 : decode cX7_scaled 0 = .ok (.aload_n 0, 1) := by decide +kernel
set_option maxRecDepth 20000 in
theorem dX7_scaled_1 : decode cX7_scaled 1 = .ok (.iload_n 1, 1) := by decide +kernel
set_option maxRecDepth 20000 in
theorem dX7_scaled_2 : decode cX7_scaled 2 = .ok (.iload_n 2, 1) := by decide +kernel
set_option maxRecDepth 20000 in
theorem dX7_scaled_3 : decode cX7_scaled 3 = .ok (.iload_n 3, 1) := by decide +kernel
set_option maxRecDepth 20000 in
theorem dX7_scaled_4 : decode cX7_scaled 4 = .ok (.invokevirtual 158, 3) := by decide +kernel
set_option maxRecDepth 20000 in
theorem dX7_scaled_7 : decode cX7_scaled 7 = .ok (.istore 5, 2) := by decide +kernel
set_option maxRecDepth 20000 in
theorem dX7_scaled_9 : decode cX7_scaled 9 = .ok (.aload_n 0, 1) := by decide +kernel
set_option maxRecDepth 20000 in
theorem dX7_scaled_10 : decode cX7_scaled 10 = .ok (.getfield 7, 3) := by decide +kernel
set_option maxRecDepth 20000 in
theorem dX7_scaled_13 : decode cX7_scaled 13 = .ok (.ifCond .ne 21, 3) := by decide +kernel
set_option maxRecDepth 20000 in
theorem dX7_scaled_16 : decode cX7_scaled 16 = .ok (.iload 4, 2) := by decide +kernel
set_option maxRecDepth 20000 in
theorem dX7_scaled_18 : decode cX7_scaled 18 = .ok (.iconst 1, 1) := by decide +kernel
set_option maxRecDepth 20000 in
theorem dX7_scaled_19 : decode cX7_scaled 19 = .ok (.if_icmp .lt 10, 3) := by decide +kernel
set_option maxRecDepth 20000 in
theorem dX7_scaled_22 : decode cX7_scaled 22 = .ok (.iload 4, 2) := by decide +kernel
set_option maxRecDepth 20000 in
theorem dX7_scaled_24 : decode cX7_scaled 24 = .ok (.ldc 161, 2) := by decide +kernel
set_option maxRecDepth 20000 in
theorem dX7_scaled_26 : decode cX7_scaled 26 = .ok (.if_icmp .le 8, 3) := by decide +kernel
set_option maxRecDepth 20000 in
theorem dX7_scaled_29 : decode cX7_scaled 29 = .ok (.aload_n 0, 1) := by decide +kernel
set_option maxRecDepth 20000 in
theorem dX7_scaled_30 : decode cX7_scaled 30 = .ok (.iconst 2, 1) := by decide +kernel
set_option maxRecDepth 20000 in
theorem dX7_scaled_31 : decode cX7_scaled 31 = .ok (.putfield 7, 3) := by decide +kernel
set_option maxRecDepth 20000 in
theorem dX7_scaled_34 : decode cX7_scaled 34 = .ok (.aload_n 0, 1) := by decide +kernel
set_option maxRecDepth 20000 in
theorem dX7_scaled_35 : decode cX7_scaled 35 = .ok (.getfield 7, 3) := by decide +kernel
set_option maxRecDepth 20000 in
theorem dX7_scaled_38 : decode cX7_scaled 38 = .ok (.ifCond .eq 5, 3) := by decide +kernel
set_option maxRecDepth 20000 in
theorem dX7_scaled_41 : decode cX7_scaled 41 = .ok (.lconst 0, 1) := by decide +kernel
set_option maxRecDepth 20000 in
theorem dX7_scaled_42 : decode cX7_scaled 42 = .ok (.lreturn, 1) := by decide +kernel
set_option maxRecDepth 20000 in
theorem dX7_scaled_43 : decode cX7_scaled 43 = .ok (.aload_n 0, 1) := by decide +kernel
set_option maxRecDepth 20000 in
theorem dX7_scaled_44 : decode cX7_scaled 44 = .ok (.bipush 56, 2) := by decide +kernel
set_option maxRecDepth 20000 in
theorem dX7_scaled_46 : decode cX7_scaled 46 = .ok (.iload 4, 2) := by decide +kernel
set_option maxRecDepth 20000 in
theorem dX7_scaled_48 : decode cX7_scaled 48 = .ok (.invokevirtual 99, 3) := by decide +kernel
set_option maxRecDepth 20000 in
theorem dX7_scaled_51 : decode cX7_scaled 51 = .ok (.aload_n 0, 1) := by decide +kernel
set_option maxRecDepth 20000 in
theorem dX7_scaled_52 : decode cX7_scaled 52 = .ok (.bipush 57, 2) := by decide +kernel
set_option maxRecDepth 20000 in
theorem dX7_scaled_54 : decode cX7_scaled 54 = .ok (.iconst 2, 1) := by decide +kernel
set_option maxRecDepth 20000 in
theorem dX7_scaled_55 : decode cX7_scaled 55 = .ok (.iload 5, 2) := by decide +kernel
set_option maxRecDepth 20000 in
theorem dX7_scaled_57 : decode cX7_scaled 57 = .ok (.imul, 1) := by decide +kernel
set_option maxRecDepth 20000 in
theorem dX7_scaled_58 : decode cX7_scaled 58 = .ok (.bipush 56, 2) := by decide +kernel
set_option maxRecDepth 20000 in
theorem dX7_scaled_60 : decode cX7_scaled 60 = .ok (.invokevirtual 108, 3) := by decide +kernel
set_option maxRecDepth 20000 in
theorem dX7_scaled_63 : decode cX7_scaled 63 = .ok (.aload_n 0, 1) := by decide +kernel
set_option maxRecDepth 20000 in
theorem dX7_scaled_64 : decode cX7_scaled 64 = .ok (.bipush 57, 2) := by decide +kernel
set_option maxRecDepth 20000 in
theorem dX7_scaled_66 : decode cX7_scaled 66 = .ok (.iconst 2, 1) := by decide +kernel
set_option maxRecDepth 20000 in
theorem dX7_scaled_67 : decode cX7_scaled 67 = .ok (.iload 5, 2) := by decide +kernel
set_option maxRecDepth 20000 in
theorem dX7_scaled_69 : decode cX7_scaled 69 = .ok (.imul, 1) := by decide +kernel
set_option maxRecDepth 20000 in
theorem dX7_scaled_70 : decode cX7_scaled 70 = .ok (.iconst 1, 1) := by decide +kernel
set_option maxRecDepth 20000 in
theorem dX7_scaled_71 : decode cX7_scaled 71 = .ok (.iadd, 1) := by decide +kernel
set_option maxRecDepth 20000 in
theorem dX7_scaled_72 : decode cX7_scaled 72 = .ok (.invokevirtual 93, 3) := by decide +kernel
set_option maxRecDepth 20000 in
theorem dX7_scaled_75 : decode cX7_scaled 75 = .ok (.aload_n 0, 1) := by decide +kernel
set_option maxRecDepth 20000 in
theorem dX7_scaled_76 : decode cX7_scaled 76 = .ok (.getfield 43, 3) := by decide +kernel
set_option maxRecDepth 20000 in
theorem dX7_scaled_79 : decode cX7_scaled 79 = .ok (.iload 5, 2) := by decide +kernel
set_option maxRecDepth 20000 in
theorem dX7_scaled_81 : decode cX7_scaled 81 = .ok (.iaload, 1) := by decide +kernel
set_option maxRecDepth 20000 in
theorem dX7_scaled_82 : decode cX7_scaled 82 = .ok (.ifCond .ge 17, 3) := by decide +kernel
set_option maxRecDepth 20000 in
theorem dX7_scaled_85 : decode cX7_scaled 85 = .ok (.aload_n 0, 1) := by decide +kernel
set_option maxRecDepth 20000 in
theorem dX7_scaled_86 : decode cX7_scaled 86 = .ok (.getfield 40, 3) := by decide +kernel
set_option maxRecDepth 20000 in
theorem dX7_scaled_89 : decode cX7_scaled 89 = .ok (.bipush 61, 2) := by decide +kernel
set_option maxRecDepth 20000 in
theorem dX7_scaled_91 : decode cX7_scaled 91 = .ok (.iaload, 1) := by decide +kernel
set_option maxRecDepth 20000 in
theorem dX7_scaled_92 : decode cX7_scaled 92 = .ok (.ifCond .le 7, 3) := by decide +kernel
set_option maxRecDepth 20000 in
theorem dX7_scaled_95 : decode cX7_scaled 95 = .ok (.iconst 1, 1) := by decide +kernel
set_option maxRecDepth 20000 in
theorem dX7_scaled_96 : decode cX7_scaled 96 = .ok (.goto 4, 3) := by decide +kernel
set_option maxRecDepth 20000 in
theorem dX7_scaled_99 : decode cX7_scaled 99 = .ok (.iconst 0, 1) := by decide +kernel
set_option maxRecDepth 20000 in
theorem dX7_scaled_100 : decode cX7_scaled 100 = .ok (.istore 6, 2) := by decide +kernel
set_option maxRecDepth 20000 in
theorem dX7_scaled_102 : decode cX7_scaled 102 = .ok (.lconst 0, 1) := by decide +kernel
set_option maxRecDepth 20000 in
theorem dX7_scaled_103 : decode cX7_scaled 103 = .ok (.lstore 7, 2) := by decide +kernel
set_option maxRecDepth 20000 in
theorem dX7_scaled_105 : decode cX7_scaled 105 = .ok (.iconst 3, 1) := by decide +kernel
set_option maxRecDepth 20000 in
theorem dX7_scaled_106 : decode cX7_scaled 106 = .ok (.istore 9, 2) := by decide +kernel
set_option maxRecDepth 20000 in
theorem dX7_scaled_108 : decode cX7_scaled 108 = .ok (.iload 9, 2) := by decide +kernel
set_option maxRecDepth 20000 in
theorem dX7_scaled_110 : decode cX7_scaled 110 = .ok (.ifCond .lt 26, 3) := by decide +kernel
set_option maxRecDepth 20000 in
theorem dX7_scaled_113 : decode cX7_scaled 113 = .ok (.lload 7, 2) := by decide +kernel
set_option maxRecDepth 20000 in
theorem dX7_scaled_115 : decode cX7_scaled 115 = .ok (.bipush 16, 2) := by decide +kernel
set_option maxRecDepth 20000 in
theorem dX7_scaled_117 : decode cX7_scaled 117 = .ok (.lshl, 1) := by decide +kernel
set_option maxRecDepth 20000 in
theorem dX7_scaled_118 : decode cX7_scaled 118 = .ok (.aload_n 0, 1) := by decide +kernel
set_option maxRecDepth 20000 in
theorem dX7_scaled_119 : decode cX7_scaled 119 = .ok (.bipush 60, 2) := by decide +kernel
set_option maxRecDepth 20000 in
theorem dX7_scaled_121 : decode cX7_scaled 121 = .ok (.iload 9, 2) := by decide +kernel
set_option maxRecDepth 20000 in
theorem dX7_scaled_123 : decode cX7_scaled 123 = .ok (.invokevirtual 62, 3) := by decide +kernel
set_option maxRecDepth 20000 in
theorem dX7_scaled_126 : decode cX7_scaled 126 = .ok (.i2l, 1) := by decide +kernel
set_option maxRecDepth 20000 in
theorem dX7_scaled_127 : decode cX7_scaled 127 = .ok (.lor, 1) := by decide +kernel
set_option maxRecDepth 20000 in
theorem dX7_scaled_128 : decode cX7_scaled 128 = .ok (.lstore 7, 2) := by decide +kernel
set_option maxRecDepth 20000 in
theorem dX7_scaled_130 : decode cX7_scaled 130 = .ok (.iinc 9 (-1), 3) := by decide +kernel
set_option maxRecDepth 20000 in
theorem dX7_scaled_133 : decode cX7_scaled 133 = .ok (.goto (-25), 3) := by decide +kernel
set_option maxRecDepth 20000 in
theorem dX7_scaled_136 : decode cX7_scaled 136 = .ok (.aload_n 0, 1) := by decide +kernel
set_option maxRecDepth 20000 in
theorem dX7_scaled_137 : decode cX7_scaled 137 = .ok (.getfield 40, 3) := by decide +kernel
set_option maxRecDepth 20000 in
theorem dX7_scaled_140 : decode cX7_scaled 140 = .ok (.bipush 60, 2) := by decide +kernel
set_option maxRecDepth 20000 in
theorem dX7_scaled_142 : decode cX7_scaled 142 = .ok (.iaload, 1) := by decide +kernel
set_option maxRecDepth 20000 in
theorem dX7_scaled_143 : decode cX7_scaled 143 = .ok (.iconst 4, 1) := by decide +kernel
set_option maxRecDepth 20000 in
theorem dX7_scaled_144 : decode cX7_scaled 144 = .ok (.if_icmp .gt 19, 3) := by decide +kernel
set_option maxRecDepth 20000 in
theorem dX7_scaled_147 : decode cX7_scaled 147 = .ok (.lload 7, 2) := by decide +kernel
set_option maxRecDepth 20000 in
theorem dX7_scaled_149 : decode cX7_scaled 149 = .ok (.lconst 0, 1) := by decide +kernel
set_option maxRecDepth 20000 in
theorem dX7_scaled_150 : decode cX7_scaled 150 = .ok (.lcmp, 1) := by decide +kernel
set_option maxRecDepth 20000 in
theorem dX7_scaled_151 : decode cX7_scaled 151 = .ok (.ifCond .lt 12, 3) := by decide +kernel
set_option maxRecDepth 20000 in
theorem dX7_scaled_154 : decode cX7_scaled 154 = .ok (.lload 7, 2) := by decide +kernel
set_option maxRecDepth 20000 in
theorem dX7_scaled_156 : decode cX7_scaled 156 = .ok (.ldc2_w 162, 3) := by decide +kernel
set_option maxRecDepth 20000 in
theorem dX7_scaled_159 : decode cX7_scaled 159 = .ok (.lcmp, 1) := by decide +kernel
set_option maxRecDepth 20000 in
theorem dX7_scaled_160 : decode cX7_scaled 160 = .ok (.ifCond .le 7, 3) := by decide +kernel
set_option maxRecDepth 20000 in
theorem dX7_scaled_163 : decode cX7_scaled 163 = .ok (.iconst 1, 1) := by decide +kernel
set_option maxRecDepth 20000 in
theorem dX7_scaled_164 : decode cX7_scaled 164 = .ok (.goto 4, 3) := by decide +kernel
set_option maxRecDepth 20000 in
theorem dX7_scaled_167 : decode cX7_scaled 167 = .ok (.iconst 0, 1) := by decide +kernel
set_option maxRecDepth 20000 in
theorem dX7_scaled_168 : decode cX7_scaled 168 = .ok (.istore 9, 2) := by decide +kernel
set_option maxRecDepth 20000 in
theorem dX7_scaled_170 : decode cX7_scaled 170 = .ok (.iload 9, 2) := by decide +kernel
set_option maxRecDepth 20000 in
theorem dX7_scaled_172 : decode cX7_scaled 172 = .ok (.ifCond .eq 11, 3) := by decide +kernel
set_option maxRecDepth 20000 in
theorem dX7_scaled_175 : decode cX7_scaled 175 = .ok (.ldc2_w 162, 3) := by decide +kernel
set_option maxRecDepth 20000 in
theorem dX7_scaled_178 : decode cX7_scaled 178 = .ok (.lstore 7, 2) := by decide +kernel
set_option maxRecDepth 20000 in
theorem dX7_scaled_180 : decode cX7_scaled 180 = .ok (.goto 14, 3) := by decide +kernel
set_option maxRecDepth 20000 in
theorem dX7_scaled_183 : decode cX7_scaled 183 = .ok (.iload 6, 2) := by decide +kernel
set_option maxRecDepth 20000 in
theorem dX7_scaled_185 : decode cX7_scaled 185 = .ok (.ifCond .eq 9, 3) := by decide +kernel
set_option maxRecDepth 20000 in
theorem dX7_scaled_188 : decode cX7_scaled 188 = .ok (.lload 7, 2) := by decide +kernel
set_option maxRecDepth 20000 in
theorem dX7_scaled_190 : decode cX7_scaled 190 = .ok (.lconst 1, 1) := by decide +kernel
set_option maxRecDepth 20000 in
theorem dX7_scaled_191 : decode cX7_scaled 191 = .ok (.ladd, 1) := by decide +kernel
set_option maxRecDepth 20000 in
theorem dX7_scaled_192 : decode cX7_scaled 192 = .ok (.lstore 7, 2) := by decide +kernel
set_option maxRecDepth 20000 in
theorem dX7_scaled_194 : decode cX7_scaled 194 = .ok (.lload 7, 2) := by decide +kernel
set_option maxRecDepth 20000 in
theorem dX7_scaled_196 : decode cX7_scaled 196 = .ok (.ldc2_w 162, 3) := by decide +kernel
set_option maxRecDepth 20000 in
theorem dX7_scaled_199 : decode cX7_scaled 199 = .ok (.lcmp, 1) := by decide +kernel
set_option maxRecDepth 20000 in
theorem dX7_scaled_200 : decode cX7_scaled 200 = .ok (.ifCond .le 8, 3) := by decide +kernel
set_option maxRecDepth 20000 in
theorem dX7_scaled_203 : decode cX7_scaled 203 = .ok (.ldc2_w 162, 3) := by decide +kernel
set_option maxRecDepth 20000 in
theorem dX7_scaled_206 : decode cX7_scaled 206 = .ok (.lstore 7, 2) := by decide +kernel
set_option maxRecDepth 20000 in
theorem dX7_scaled_208 : decode cX7_scaled 208 = .ok (.aload_n 0, 1) := by decide +kernel
set_option maxRecDepth 20000 in
theorem dX7_scaled_209 : decode cX7_scaled 209 = .ok (.getfield 43, 3) := by decide +kernel
set_option maxRecDepth 20000 in
theorem dX7_scaled_212 : decode cX7_scaled 212 = .ok (.iload 5, 2) := by decide +kernel
set_option maxRecDepth 20000 in
theorem dX7_scaled_214 : decode cX7_scaled 214 = .ok (.iaload, 1) := by decide +kernel
set_option maxRecDepth 20000 in
theorem dX7_scaled_215 : decode cX7_scaled 215 = .ok (.ifCond .ge 9, 3) := by decide +kernel
set_option maxRecDepth 20000 in
theorem dX7_scaled_218 : decode cX7_scaled 218 = .ok (.lload 7, 2) := by decide +kernel
set_option maxRecDepth 20000 in
theorem dX7_scaled_220 : decode cX7_scaled 220 = .ok (.lneg, 1) := by decide +kernel
set_option maxRecDepth 20000 in
theorem dX7_scaled_221 : decode cX7_scaled 221 = .ok (.goto 5, 3) := by decide +kernel
set_option maxRecDepth 20000 in
theorem dX7_scaled_224 : decode cX7_scaled 224 = .ok (.lload 7, 2) := by decide +kernel
set_option maxRecDepth 20000 in
theorem dX7_scaled_226 : decode cX7_scaled 226 = .ok (.lreturn, 1) := by decide +kernel
set_option maxRecDepth 20000 in
theorem dX7_compare_0 : decode cX7_compare 0 = .ok (.aload_n 0, 1) := by decide +kernel
set_option maxRecDepth 20000 in
theorem dX7_compare_1 : decode cX7_compare 1 = .ok (.iload_n 1, 1) := by decide +kernel
set_option maxRecDepth 20000 in
theorem dX7_compare_2 : decode cX7_compare 2 = .ok (.iload_n 2, 1) := by decide +kernel
set_option maxRecDepth 20000 in
theorem dX7_compare_3 : decode cX7_compare 3 = .ok (.iload_n 3, 1) := by decide +kernel
set_option maxRecDepth 20000 in
theorem dX7_compare_4 : decode cX7_compare 4 = .ok (.invokevirtual 158, 3) := by decide +kernel
set_option maxRecDepth 20000 in
theorem dX7_compare_7 : decode cX7_compare 7 = .ok (.istore 6, 2) := by decide +kernel
set_option maxRecDepth 20000 in
theorem dX7_compare_9 : decode cX7_compare 9 = .ok (.aload_n 0, 1) := by decide +kernel
set_option maxRecDepth 20000 in
theorem dX7_compare_10 : decode cX7_compare 10 = .ok (.getfield 7, 3) := by decide +kernel
set_option maxRecDepth 20000 in
theorem dX7_compare_13 : decode cX7_compare 13 = .ok (.ifCond .ne 18, 3) := by decide +kernel
set_option maxRecDepth 20000 in
theorem dX7_compare_16 : decode cX7_compare 16 = .ok (.iload 4, 2) := by decide +kernel
set_option maxRecDepth 20000 in
theorem dX7_compare_18 : decode cX7_compare 18 = .ok (.iload 5, 2) := by decide +kernel
set_option maxRecDepth 20000 in
theorem dX7_compare_20 : decode cX7_compare 20 = .ok (.invokestatic 140, 3) := by decide +kernel
set_option maxRecDepth 20000 in
theorem dX7_compare_23 : decode cX7_compare 23 = .ok (.ifCond .eq 8, 3) := by decide +kernel
set_option maxRecDepth 20000 in
theorem dX7_compare_26 : decode cX7_compare 26 = .ok (.aload_n 0, 1) := by decide +kernel
set_option maxRecDepth 20000 in
theorem dX7_compare_27 : decode cX7_compare 27 = .ok (.iconst 2, 1) := by decide +kernel
set_option maxRecDepth 20000 in
theorem dX7_compare_28 : decode cX7_compare 28 = .ok (.putfield 7, 3) := by decide +kernel
set_option maxRecDepth 20000 in
theorem dX7_compare_31 : decode cX7_compare 31 = .ok (.aload_n 0, 1) := by decide +kernel
set_option maxRecDepth 20000 in
theorem dX7_compare_32 : decode cX7_compare 32 = .ok (.getfield 7, 3) := by decide +kernel
set_option maxRecDepth 20000 in
theorem dX7_compare_35 : decode cX7_compare 35 = .ok (.ifCond .eq 5, 3) := by decide +kernel
set_option maxRecDepth 20000 in
theorem dX7_compare_38 : decode cX7_compare 38 = .ok (.iconst 0, 1) := by decide +kernel
set_option maxRecDepth 20000 in
theorem dX7_compare_39 : decode cX7_compare 39 = .ok (.ireturn, 1) := by decide +kernel
set_option maxRecDepth 20000 in
theorem dX7_compare_40 : decode cX7_compare 40 = .ok (.aload_n 0, 1) := by decide +kernel
set_option maxRecDepth 20000 in
theorem dX7_compare_41 : decode cX7_compare 41 = .ok (.bipush 20, 2) := by decide +kernel
set_option maxRecDepth 20000 in
theorem dX7_compare_43 : decode cX7_compare 43 = .ok (.iload 4, 2) := by decide +kernel
set_option maxRecDepth 20000 in
theorem dX7_compare_45 : decode cX7_compare 45 = .ok (.iload 5, 2) := by decide +kernel
set_option maxRecDepth 20000 in
theorem dX7_compare_47 : decode cX7_compare 47 = .ok (.invokevirtual 105, 3) := by decide +kernel
set_option maxRecDepth 20000 in
theorem dX7_compare_50 : decode cX7_compare 50 = .ok (.aload_n 0, 1) := by decide +kernel
set_option maxRecDepth 20000 in
theorem dX7_compare_51 : decode cX7_compare 51 = .ok (.bipush 21, 2) := by decide +kernel
set_option maxRecDepth 20000 in
theorem dX7_compare_53 : decode cX7_compare 53 = .ok (.iload 6, 2) := by decide +kernel
set_option maxRecDepth 20000 in
theorem dX7_compare_55 : decode cX7_compare 55 = .ok (.bipush 20, 2) := by decide +kernel
set_option maxRecDepth 20000 in
theorem dX7_compare_57 : decode cX7_compare 57 = .ok (.iconst (-1), 1) := by decide +kernel
set_option maxRecDepth 20000 in
theorem dX7_compare_58 : decode cX7_compare 58 = .ok (.invokevirtual 127, 3) := by decide +kernel
set_option maxRecDepth 20000 in
theorem dX7_compare_61 : decode cX7_compare 61 = .ok (.aload_n 0, 1) := by decide +kernel
set_option maxRecDepth 20000 in
theorem dX7_compare_62 : decode cX7_compare 62 = .ok (.getfield 43, 3) := by decide +kernel
set_option maxRecDepth 20000 in
theorem dX7_compare_65 : decode cX7_compare 65 = .ok (.bipush 21, 2) := by decide +kernel
set_option maxRecDepth 20000 in
theorem dX7_compare_67 : decode cX7_compare 67 = .ok (.iaload, 1) := by decide +kernel
set_option maxRecDepth 20000 in
theorem dX7_compare_68 : decode cX7_compare 68 = .ok (.ireturn, 1) := by decide +kernel
set_option maxRecDepth 20000 in
theorem dX7_about_0 : decode cX7_about 0 = .ok (.aload_n 0, 1) := by decide +kernel
set_option maxRecDepth 20000 in
theorem dX7_about_1 : decode cX7_about 1 = .ok (.iconst 0, 1) := by decide +kernel
set_option maxRecDepth 20000 in
theorem dX7_about_2 : decode cX7_about 2 = .ok (.putfield 7, 3) := by decide +kernel
set_option maxRecDepth 20000 in
theorem dX7_about_5 : decode cX7_about 5 = .ok (.iload_n 1, 1) := by decide +kernel
set_option maxRecDepth 20000 in
theorem dX7_about_6 : decode cX7_about 6 = .ok (.ifCond .ne 10, 3) := by decide +kernel
set_option maxRecDepth 20000 in
theorem dX7_about_9 : decode cX7_about 9 = .ok (.aload_n 0, 1) := by decide +kernel
set_option maxRecDepth 20000 in
theorem dX7_about_10 : decode cX7_about 10 = .ok (.getfield 13, 3) := by decide +kernel
set_option maxRecDepth 20000 in
theorem dX7_about_13 : decode cX7_about 13 = .ok (.goto 48, 3) := by decide +kernel
set_option maxRecDepth 20000 in
theorem dX7_about_16 : decode cX7_about 16 = .ok (.iload_n 1, 1) := by decide +kernel
set_option maxRecDepth 20000 in
theorem dX7_about_17 : decode cX7_about 17 = .ok (.iconst 1, 1) := by decide +kernel
set_option maxRecDepth 20000 in
theorem dX7_about_18 : decode cX7_about 18 = .ok (.if_icmp .ne 18, 3) := by decide +kernel
set_option maxRecDepth 20000 in
theorem dX7_about_21 : decode cX7_about 21 = .ok (.aload_n 0, 1) := by decide +kernel
set_option maxRecDepth 20000 in
theorem dX7_about_22 : decode cX7_about 22 = .ok (.getfield 23, 3) := by decide +kernel
set_option maxRecDepth 20000 in
theorem dX7_about_25 : decode cX7_about 25 = .ok (.ifCond .eq 7, 3) := by decide +kernel
set_option maxRecDepth 20000 in
theorem dX7_about_28 : decode cX7_about 28 = .ok (.iconst 1, 1) := by decide +kernel
set_option maxRecDepth 20000 in
theorem dX7_about_29 : decode cX7_about 29 = .ok (.goto 32, 3) := by decide +kernel
set_option maxRecDepth 20000 in
theorem dX7_about_32 : decode cX7_about 32 = .ok (.iconst 0, 1) := by decide +kernel
set_option maxRecDepth 20000 in
theorem dX7_about_33 : decode cX7_about 33 = .ok (.goto 28, 3) := by decide +kernel
set_option maxRecDepth 20000 in
theorem dX7_about_36 : decode cX7_about 36 = .ok (.iload_n 1, 1) := by decide +kernel
set_option maxRecDepth 20000 in
theorem dX7_about_37 : decode cX7_about 37 = .ok (.iconst 2, 1) := by decide +kernel
set_option maxRecDepth 20000 in
theorem dX7_about_38 : decode cX7_about 38 = .ok (.if_icmp .ne 10, 3) := by decide +kernel
set_option maxRecDepth 20000 in
theorem dX7_about_41 : decode cX7_about 41 = .ok (.aload_n 0, 1) := by decide +kernel
set_option maxRecDepth 20000 in
theorem dX7_about_42 : decode cX7_about 42 = .ok (.getfield 30, 3) := by decide +kernel
set_option maxRecDepth 20000 in
theorem dX7_about_45 : decode cX7_about 45 = .ok (.goto 16, 3) := by decide +kernel
set_option maxRecDepth 20000 in
theorem dX7_about_48 : decode cX7_about 48 = .ok (.iload_n 1, 1) := by decide +kernel
set_option maxRecDepth 20000 in
theorem dX7_about_49 : decode cX7_about 49 = .ok (.iconst 3, 1) := by decide +kernel
set_option maxRecDepth 20000 in
theorem dX7_about_50 : decode cX7_about 50 = .ok (.if_icmp .ne 10, 3) := by decide +kernel
set_option maxRecDepth 20000 in
theorem dX7_about_53 : decode cX7_about 53 = .ok (.aload_n 0, 1) := by decide +kernel
set_option maxRecDepth 20000 in
theorem dX7_about_54 : decode cX7_about 54 = .ok (.getfield 33, 3) := by decide +kernel
set_option maxRecDepth 20000 in
theorem dX7_about_57 : decode cX7_about 57 = .ok (.goto 4, 3) := by decide +kernel
set_option maxRecDepth 20000 in
theorem dX7_about_60 : decode cX7_about 60 = .ok (.iconst (-1), 1) := by decide +kernel
set_option maxRecDepth 20000 in
theorem dX7_about_61 : decode cX7_about 61 = .ok (.ireturn, 1) := by decide +kernel
