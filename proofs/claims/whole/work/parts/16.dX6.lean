set_option maxRecDepth 20000 in
theorem dX6_init_0 : decode cX6_init 0 = .ok (.aload_n 0, 1) := by decide +kernel
set_option maxRecDepth 20000 in
theorem dX6_init_1 : decode cX6_init 1 = .ok (.invokespecial 1, 3) := by decide +kernel
set_option maxRecDepth 20000 in
theorem dX6_init_4 : decode cX6_init 4 = .ok (.aload_n 0, 1) := by decide +kernel
set_option maxRecDepth 20000 in
theorem dX6_init_5 : decode cX6_init 5 = .ok (.new 7, 3) := by decide +kernel
set_option maxRecDepth 20000 in
theorem dX6_init_8 : decode cX6_init 8 = .ok (.dup, 1) := by decide +kernel
set_option maxRecDepth 20000 in
theorem dX6_init_9 : decode cX6_init 9 = .ok (.iconst 1, 1) := by decide +kernel
set_option maxRecDepth 20000 in
theorem dX6_init_10 : decode cX6_init 10 = .ok (.invokespecial 9, 3) := by decide +kernel
set_option maxRecDepth 20000 in
theorem dX6_init_13 : decode cX6_init 13 = .ok (.putfield 12, 3) := by decide +kernel
set_option maxRecDepth 20000 in
theorem dX6_init_16 : decode cX6_init 16 = .ok (.iconst 0, 1) := by decide +kernel
set_option maxRecDepth 20000 in
theorem dX6_init_17 : decode cX6_init 17 = .ok (.iconst 1, 1) := by decide +kernel
set_option maxRecDepth 20000 in
theorem dX6_init_18 : decode cX6_init 18 = .ok (.invokestatic 18, 3) := by decide +kernel
set_option maxRecDepth 20000 in
theorem dX6_init_21 : decode cX6_init 21 = .ok (.astore_n 1, 1) := by decide +kernel
set_option maxRecDepth 20000 in
theorem dX6_init_22 : decode cX6_init 22 = .ok (.aload_n 0, 1) := by decide +kernel
set_option maxRecDepth 20000 in
theorem dX6_init_23 : decode cX6_init 23 = .ok (.aload_n 1, 1) := by decide +kernel
set_option maxRecDepth 20000 in
theorem dX6_init_24 : decode cX6_init 24 = .ok (.putfield 24, 3) := by decide +kernel
set_option maxRecDepth 20000 in
theorem dX6_init_27 : decode cX6_init 27 = .ok (.aload_n 0, 1) := by decide +kernel
set_option maxRecDepth 20000 in
theorem dX6_init_28 : decode cX6_init 28 = .ok (.aload_n 1, 1) := by decide +kernel
set_option maxRecDepth 20000 in
theorem dX6_init_29 : decode cX6_init 29 = .ok (.putfield 28, 3) := by decide +kernel
set_option maxRecDepth 20000 in
theorem dX6_init_32 : decode cX6_init 32 = .ok (.aload_n 0, 1) := by decide +kernel
set_option maxRecDepth 20000 in
theorem dX6_init_33 : decode cX6_init 33 = .ok (.aload_n 1, 1) := by decide +kernel
set_option maxRecDepth 20000 in
theorem dX6_init_34 : decode cX6_init 34 = .ok (.putfield 31, 3) := by decide +kernel
set_option maxRecDepth 20000 in
theorem dX6_init_37 : decode cX6_init 37 = .ok (.aload_n 0, 1) := by decide +kernel
set_option maxRecDepth 20000 in
theorem dX6_init_38 : decode cX6_init 38 = .ok (.aload_n 1, 1) := by decide +kernel
set_option maxRecDepth 20000 in
theorem dX6_init_39 : decode cX6_init 39 = .ok (.putfield 34, 3) := by decide +kernel
set_option maxRecDepth 20000 in
theorem dX6_init_42 : decode cX6_init 42 = .ok (.aload_n 0, 1) := by decide +kernel
set_option maxRecDepth 20000 in
theorem dX6_init_43 : decode cX6_init 43 = .ok (.aload_n 1, 1) := by decide +kernel
set_option maxRecDepth 20000 in
theorem dX6_init_44 : decode cX6_init 44 = .ok (.putfield 37, 3) := by decide +kernel
set_option maxRecDepth 20000 in
theorem dX6_init_47 : decode cX6_init 47 = .ok (.return_, 1) := by decide +kernel
set_option maxRecDepth 20000 in
theorem dX6_begin_0 : decode cX6_begin 0 = .ok (.iload_n 1, 1) := by decide +kernel
set_option maxRecDepth 20000 in
theorem dX6_begin_1 : decode cX6_begin 1 = .ok (.iconst 1, 1) := by decide +kernel
set_option maxRecDepth 20000 in
theorem dX6_begin_2 : decode cX6_begin 2 = .ok (.if_icmp .eq 16, 3) := by decide +kernel
set_option maxRecDepth 20000 in
theorem dX6_begin_5 : decode cX6_begin 5 = .ok (.iload_n 1, 1) := by decide +kernel
set_option maxRecDepth 20000 in
theorem dX6_begin_6 : decode cX6_begin 6 = .ok (.iconst 2, 1) := by decide +kernel
set_option maxRecDepth 20000 in
theorem dX6_begin_7 : decode cX6_begin 7 = .ok (.if_icmp .eq 11, 3) := by decide +kernel
set_option maxRecDepth 20000 in
theorem dX6_begin_10 : decode cX6_begin 10 = .ok (.new 40, 3) := by decide +kernel
set_option maxRecDepth 20000 in
theorem dX6_begin_13 : decode cX6_begin 13 = .ok (.dup, 1) := by decide +kernel
set_option maxRecDepth 20000 in
theorem dX6_begin_14 : decode cX6_begin 14 = .ok (.invokespecial 42, 3) := by decide +kernel
set_option maxRecDepth 20000 in
theorem dX6_begin_17 : decode cX6_begin 17 = .ok (.athrow, 1) := by decide +kernel
set_option maxRecDepth 20000 in
theorem dX6_begin_18 : decode cX6_begin 18 = .ok (.aload_n 0, 1) := by decide +kernel
set_option maxRecDepth 20000 in
theorem dX6_begin_19 : decode cX6_begin 19 = .ok (.new 7, 3) := by decide +kernel
set_option maxRecDepth 20000 in
theorem dX6_begin_22 : decode cX6_begin 22 = .ok (.dup, 1) := by decide +kernel
set_option maxRecDepth 20000 in
theorem dX6_begin_23 : decode cX6_begin 23 = .ok (.iload_n 1, 1) := by decide +kernel
set_option maxRecDepth 20000 in
theorem dX6_begin_24 : decode cX6_begin 24 = .ok (.invokespecial 9, 3) := by decide +kernel
set_option maxRecDepth 20000 in
theorem dX6_begin_27 : decode cX6_begin 27 = .ok (.putfield 12, 3) := by decide +kernel
set_option maxRecDepth 20000 in
theorem dX6_begin_30 : decode cX6_begin 30 = .ok (.aload_n 0, 1) := by decide +kernel
set_option maxRecDepth 20000 in
theorem dX6_begin_31 : decode cX6_begin 31 = .ok (.iconst 0, 1) := by decide +kernel
set_option maxRecDepth 20000 in
theorem dX6_begin_32 : decode cX6_begin 32 = .ok (.putfield 43, 3) := by decide +kernel
set_option maxRecDepth 20000 in
theorem dX6_begin_35 : decode cX6_begin 35 = .ok (.aload_n 0, 1) := by decide +kernel
set_option maxRecDepth 20000 in
theorem dX6_begin_36 : decode cX6_begin 36 = .ok (.iconst 0, 1) := by decide +kernel
set_option maxRecDepth 20000 in
theorem dX6_begin_37 : decode cX6_begin 37 = .ok (.putfield 47, 3) := by decide +kernel
set_option maxRecDepth 20000 in
theorem dX6_begin_40 : decode cX6_begin 40 = .ok (.aload_n 0, 1) := by decide +kernel
set_option maxRecDepth 20000 in
theorem dX6_begin_41 : decode cX6_begin 41 = .ok (.iconst 0, 1) := by decide +kernel
set_option maxRecDepth 20000 in
theorem dX6_begin_42 : decode cX6_begin 42 = .ok (.putfield 51, 3) := by decide +kernel
set_option maxRecDepth 20000 in
theorem dX6_begin_45 : decode cX6_begin 45 = .ok (.return_, 1) := by decide +kernel
set_option maxRecDepth 20000 in
theorem dX6_set_0 : decode cX6_set 0 = .ok (.aload_n 0, 1) := by decide +kernel
set_option maxRecDepth 20000 in
theorem dX6_set_1 : decode cX6_set 1 = .ok (.getfield 12, 3) := by decide +kernel
set_option maxRecDepth 20000 in
theorem dX6_set_4 : decode cX6_set 4 = .ok (.iload_n 1, 1) := by decide +kernel
set_option maxRecDepth 20000 in
theorem dX6_set_5 : decode cX6_set 5 = .ok (.iload_n 2, 1) := by decide +kernel
set_option maxRecDepth 20000 in
theorem dX6_set_6 : decode cX6_set 6 = .ok (.iload_n 3, 1) := by decide +kernel
set_option maxRecDepth 20000 in
theorem dX6_set_7 : decode cX6_set 7 = .ok (.invokevirtual 54, 3) := by decide +kernel
set_option maxRecDepth 20000 in
theorem dX6_set_10 : decode cX6_set 10 = .ok (.ifCond .eq 13, 3) := by decide +kernel
set_option maxRecDepth 20000 in
theorem dX6_set_13 : decode cX6_set 13 = .ok (.iload 4, 2) := by decide +kernel
set_option maxRecDepth 20000 in
theorem dX6_set_15 : decode cX6_set 15 = .ok (.iload 5, 2) := by decide +kernel
set_option maxRecDepth 20000 in
theorem dX6_set_17 : decode cX6_set 17 = .ok (.invokestatic 58, 3) := by decide +kernel
set_option maxRecDepth 20000 in
theorem dX6_set_20 : decode cX6_set 20 = .ok (.ifCond .ne 11, 3) := by decide +kernel
set_option maxRecDepth 20000 in
theorem dX6_set_23 : decode cX6_set 23 = .ok (.new 40, 3) := by decide +kernel
set_option maxRecDepth 20000 in
theorem dX6_set_26 : decode cX6_set 26 = .ok (.dup, 1) := by decide +kernel
set_option maxRecDepth 20000 in
theorem dX6_set_27 : decode cX6_set 27 = .ok (.invokespecial 42, 3) := by decide +kernel
set_option maxRecDepth 20000 in
theorem dX6_set_30 : decode cX6_set 30 = .ok (.athrow, 1) := by decide +kernel
set_option maxRecDepth 20000 in
theorem dX6_set_31 : decode cX6_set 31 = .ok (.aload_n 0, 1) := by decide +kernel
set_option maxRecDepth 20000 in
theorem dX6_set_32 : decode cX6_set 32 = .ok (.getfield 12, 3) := by decide +kernel
set_option maxRecDepth 20000 in
theorem dX6_set_35 : decode cX6_set 35 = .ok (.iload_n 1, 1) := by decide +kernel
set_option maxRecDepth 20000 in
theorem dX6_set_36 : decode cX6_set 36 = .ok (.iload_n 2, 1) := by decide +kernel
set_option maxRecDepth 20000 in
theorem dX6_set_37 : decode cX6_set 37 = .ok (.iload_n 3, 1) := by decide +kernel
set_option maxRecDepth 20000 in
theorem dX6_set_38 : decode cX6_set 38 = .ok (.iload 4, 2) := by decide +kernel
set_option maxRecDepth 20000 in
theorem dX6_set_40 : decode cX6_set 40 = .ok (.iload 5, 2) := by decide +kernel
set_option maxRecDepth 20000 in
theorem dX6_set_42 : decode cX6_set 42 = .ok (.invokevirtual 62, 3) := by decide +kernel
set_option maxRecDepth 20000 in
theorem dX6_set_45 : decode cX6_set 45 = .ok (.return_, 1) := by decide +kernel
set_option maxRecDepth 20000 in
theorem dX6_start_0 : decode cX6_start 0 = .ok (.aload_n 0, 1) := by decide +kernel
set_option maxRecDepth 20000 in
theorem dX6_start_1 : decode cX6_start 1 = .ok (.getfield 12, 3) := by decide +kernel
set_option maxRecDepth 20000 in
theorem dX6_start_4 : decode cX6_start 4 = .ok (.iconst 1, 1) := by decide +kernel
set_option maxRecDepth 20000 in
theorem dX6_start_5 : decode cX6_start 5 = .ok (.invokevirtual 66, 3) := by decide +kernel
set_option maxRecDepth 20000 in
theorem dX6_start_8 : decode cX6_start 8 = .ok (.ifCond .eq 12, 3) := by decide +kernel
set_option maxRecDepth 20000 in
theorem dX6_start_11 : decode cX6_start 11 = .ok (.aload_n 0, 1) := by decide +kernel
set_option maxRecDepth 20000 in
theorem dX6_start_12 : decode cX6_start 12 = .ok (.getfield 70, 3) := by decide +kernel
set_option maxRecDepth 20000 in
theorem dX6_start_15 : decode cX6_start 15 = .ok (.bipush 24, 2) := by decide +kernel
set_option maxRecDepth 20000 in
theorem dX6_start_17 : decode cX6_start 17 = .ok (.if_icmp .lt 11, 3) := by decide +kernel
set_option maxRecDepth 20000 in
theorem dX6_start_20 : decode cX6_start 20 = .ok (.new 73, 3) := by decide +kernel
set_option maxRecDepth 20000 in
theorem dX6_start_23 : decode cX6_start 23 = .ok (.dup, 1) := by decide +kernel
set_option maxRecDepth 20000 in
theorem dX6_start_24 : decode cX6_start 24 = .ok (.invokespecial 75, 3) := by decide +kernel
set_option maxRecDepth 20000 in
theorem dX6_start_27 : decode cX6_start 27 = .ok (.athrow, 1) := by decide +kernel
set_option maxRecDepth 20000 in
theorem dX6_start_28 : decode cX6_start 28 = .ok (.aload_n 0, 1) := by decide +kernel
set_option maxRecDepth 20000 in
theorem dX6_start_29 : decode cX6_start 29 = .ok (.aload_n 0, 1) := by decide +kernel
set_option maxRecDepth 20000 in
theorem dX6_start_30 : decode cX6_start 30 = .ok (.getfield 12, 3) := by decide +kernel
set_option maxRecDepth 20000 in
theorem dX6_start_33 : decode cX6_start 33 = .ok (.iconst 0, 1) := by decide +kernel
set_option maxRecDepth 20000 in
theorem dX6_start_34 : decode cX6_start 34 = .ok (.invokevirtual 76, 3) := by decide +kernel
set_option maxRecDepth 20000 in
theorem dX6_start_37 : decode cX6_start 37 = .ok (.putfield 24, 3) := by decide +kernel
set_option maxRecDepth 20000 in
theorem dX6_start_40 : decode cX6_start 40 = .ok (.aload_n 0, 1) := by decide +kernel
set_option maxRecDepth 20000 in
theorem dX6_start_41 : decode cX6_start 41 = .ok (.aload_n 0, 1) := by decide +kernel
set_option maxRecDepth 20000 in
theorem dX6_start_42 : decode cX6_start 42 = .ok (.getfield 12, 3) := by decide +kernel
set_option maxRecDepth 20000 in
theorem dX6_start_45 : decode cX6_start 45 = .ok (.iconst 1, 1) := by decide +kernel
set_option maxRecDepth 20000 in
theorem dX6_start_46 : decode cX6_start 46 = .ok (.invokevirtual 76, 3) := by decide +kernel
set_option maxRecDepth 20000 in
theorem dX6_start_49 : decode cX6_start 49 = .ok (.putfield 28, 3) := by decide +kernel
set_option maxRecDepth 20000 in
theorem dX6_start_52 : decode cX6_start 52 = .ok (.aload_n 0, 1) := by decide +kernel
set_option maxRecDepth 20000 in
theorem dX6_start_53 : decode cX6_start 53 = .ok (.dup, 1) := by decide +kernel
set_option maxRecDepth 20000 in
theorem dX6_start_54 : decode cX6_start 54 = .ok (.getfield 70, 3) := by decide +kernel
set_option maxRecDepth 20000 in
theorem dX6_start_57 : decode cX6_start 57 = .ok (.iconst 1, 1) := by decide +kernel
set_option maxRecDepth 20000 in
theorem dX6_start_58 : decode cX6_start 58 = .ok (.iadd, 1) := by decide +kernel
set_option maxRecDepth 20000 in
theorem dX6_start_59 : decode cX6_start 59 = .ok (.putfield 70, 3) := by decide +kernel
set_option maxRecDepth 20000 in
theorem dX6_start_62 : decode cX6_start 62 = .ok (.aload_n 0, 1) := by decide +kernel
set_option maxRecDepth 20000 in
theorem dX6_start_63 : decode cX6_start 63 = .ok (.iconst 1, 1) := by decide +kernel
set_option maxRecDepth 20000 in
theorem dX6_start_64 : decode cX6_start 64 = .ok (.putfield 43, 3) := by decide +kernel
set_option maxRecDepth 20000 in
theorem dX6_start_67 : decode cX6_start 67 = .ok (.aload_n 0, 1) := by decide +kernel
set_option maxRecDepth 20000 in
theorem dX6_start_68 : decode cX6_start 68 = .ok (.iconst 0, 1) := by decide +kernel
set_option maxRecDepth 20000 in
theorem dX6_start_69 : decode cX6_start 69 = .ok (.putfield 47, 3) := by decide +kernel
set_option maxRecDepth 20000 in
theorem dX6_start_72 : decode cX6_start 72 = .ok (.aload_n 0, 1) := by decide +kernel
set_option maxRecDepth 20000 in
theorem dX6_start_73 : decode cX6_start 73 = .ok (.iconst 0, 1) := by decide +kernel
set_option maxRecDepth 20000 in
theorem dX6_start_74 : decode cX6_start 74 = .ok (.putfield 51, 3) := by decide +kernel
set_option maxRecDepth 20000 in
theorem dX6_start_77 : decode cX6_start 77 = .ok (.return_, 1) := by decide +kernel
set_option maxRecDepth 20000 in
theorem dX6_predict_0 : decode cX6_predict 0 = .ok (.aload_n 0, 1) := by decide +kernel
set_option maxRecDepth 20000 in
theorem dX6_predict_1 : decode cX6_predict 1 = .ok (.getfield 43, 3) := by decide +kernel
set_option maxRecDepth 20000 in
theorem dX6_predict_4 : decode cX6_predict 4 = .ok (.ifCond .eq 22, 3) := by decide +kernel
set_option maxRecDepth 20000 in
theorem dX6_predict_7 : decode cX6_predict 7 = .ok (.aload_n 0, 1) := by decide +kernel
set_option maxRecDepth 20000 in
theorem dX6_predict_8 : decode cX6_predict 8 = .ok (.getfield 12, 3) := by decide +kernel
set_option maxRecDepth 20000 in
theorem dX6_predict_11 : decode cX6_predict 11 = .ok (.iconst 4, 1) := by decide +kernel
set_option maxRecDepth 20000 in
theorem dX6_predict_12 : decode cX6_predict 12 = .ok (.invokevirtual 66, 3) := by decide +kernel
set_option maxRecDepth 20000 in
theorem dX6_predict_15 : decode cX6_predict 15 = .ok (.ifCond .eq 11, 3) := by decide +kernel
set_option maxRecDepth 20000 in
theorem dX6_predict_18 : decode cX6_predict 18 = .ok (.aload_n 0, 1) := by decide +kernel
set_option maxRecDepth 20000 in
theorem dX6_predict_19 : decode cX6_predict 19 = .ok (.getfield 47, 3) := by decide +kernel
set_option maxRecDepth 20000 in
theorem dX6_predict_22 : decode cX6_predict 22 = .ok (.iconst 4, 1) := by decide +kernel
set_option maxRecDepth 20000 in
theorem dX6_predict_23 : decode cX6_predict 23 = .ok (.if_icmp .lt 11, 3) := by decide +kernel
set_option maxRecDepth 20000 in
theorem dX6_predict_26 : decode cX6_predict 26 = .ok (.new 73, 3) := by decide +kernel
set_option maxRecDepth 20000 in
theorem dX6_predict_29 : decode cX6_predict 29 = .ok (.dup, 1) := by decide +kernel
set_option maxRecDepth 20000 in
theorem dX6_predict_30 : decode cX6_predict 30 = .ok (.invokespecial 75, 3) := by decide +kernel
set_option maxRecDepth 20000 in
theorem dX6_predict_33 : decode cX6_predict 33 = .ok (.athrow, 1) := by decide +kernel
set_option maxRecDepth 20000 in
theorem dX6_predict_34 : decode cX6_predict 34 = .ok (.aload_n 0, 1) := by decide +kernel
set_option maxRecDepth 20000 in
theorem dX6_predict_35 : decode cX6_predict 35 = .ok (.getfield 12, 3) := by decide +kernel
set_option maxRecDepth 20000 in
theorem dX6_predict_38 : decode cX6_predict 38 = .ok (.iconst 2, 1) := by decide +kernel
set_option maxRecDepth 20000 in
theorem dX6_predict_39 : decode cX6_predict 39 = .ok (.invokevirtual 76, 3) := by decide +kernel
set_option maxRecDepth 20000 in
theorem dX6_predict_42 : decode cX6_predict 42 = .ok (.astore_n 1, 1) := by decide +kernel
set_option maxRecDepth 20000 in
theorem dX6_predict_43 : decode cX6_predict 43 = .ok (.aload_n 0, 1) := by decide +kernel
set_option maxRecDepth 20000 in
theorem dX6_predict_44 : decode cX6_predict 44 = .ok (.aload_n 1, 1) := by decide +kernel
set_option maxRecDepth 20000 in
theorem dX6_predict_45 : decode cX6_predict 45 = .ok (.aload_n 0, 1) := by decide +kernel
set_option maxRecDepth 20000 in
theorem dX6_predict_46 : decode cX6_predict 46 = .ok (.getfield 24, 3) := by decide +kernel
set_option maxRecDepth 20000 in
theorem dX6_predict_49 : decode cX6_predict 49 = .ok (.invokevirtual 80, 3) := by decide +kernel
set_option maxRecDepth 20000 in
theorem dX6_predict_52 : decode cX6_predict 52 = .ok (.aload_n 0, 1) := by decide +kernel
set_option maxRecDepth 20000 in
theorem dX6_predict_53 : decode cX6_predict 53 = .ok (.getfield 12, 3) := by decide +kernel
set_option maxRecDepth 20000 in
theorem dX6_predict_56 : decode cX6_predict 56 = .ok (.iconst 3, 1) := by decide +kernel
set_option maxRecDepth 20000 in
theorem dX6_predict_57 : decode cX6_predict 57 = .ok (.invokevirtual 76, 3) := by decide +kernel
set_option maxRecDepth 20000 in
theorem dX6_predict_60 : decode cX6_predict 60 = .ok (.invokevirtual 84, 3) := by decide +kernel
set_option maxRecDepth 20000 in
theorem dX6_predict_63 : decode cX6_predict 63 = .ok (.putfield 24, 3) := by decide +kernel
set_option maxRecDepth 20000 in
theorem dX6_predict_66 : decode cX6_predict 66 = .ok (.aload_n 0, 1) := by decide +kernel
set_option maxRecDepth 20000 in
theorem dX6_predict_67 : decode cX6_predict 67 = .ok (.aload_n 1, 1) := by decide +kernel
set_option maxRecDepth 20000 in
theorem dX6_predict_68 : decode cX6_predict 68 = .ok (.aload_n 0, 1) := by decide +kernel
set_option maxRecDepth 20000 in
theorem dX6_predict_69 : decode cX6_predict 69 = .ok (.getfield 28, 3) := by decide +kernel
set_option maxRecDepth 20000 in
theorem dX6_predict_72 : decode cX6_predict 72 = .ok (.invokevirtual 80, 3) := by decide +kernel
set_option maxRecDepth 20000 in
theorem dX6_predict_75 : decode cX6_predict 75 = .ok (.aload_n 1, 1) := by decide +kernel
set_option maxRecDepth 20000 in
theorem dX6_predict_76 : decode cX6_predict 76 = .ok (.invokevirtual 87, 3) := by decide +kernel
set_option maxRecDepth 20000 in
theorem dX6_predict_79 : decode cX6_predict 79 = .ok (.invokevirtual 80, 3) := by decide +kernel
set_option maxRecDepth 20000 in
theorem dX6_predict_82 : decode cX6_predict 82 = .ok (.aload_n 0, 1) := by decide +kernel
set_option maxRecDepth 20000 in
theorem dX6_predict_83 : decode cX6_predict 83 = .ok (.getfield 12, 3) := by decide +kernel
set_option maxRecDepth 20000 in
theorem dX6_predict_86 : decode cX6_predict 86 = .ok (.iconst 4, 1) := by decide +kernel
set_option maxRecDepth 20000 in
theorem dX6_predict_87 : decode cX6_predict 87 = .ok (.invokevirtual 76, 3) := by decide +kernel
set_option maxRecDepth 20000 in
theorem dX6_predict_90 : decode cX6_predict 90 = .ok (.invokevirtual 84, 3) := by decide +kernel
set_option maxRecDepth 20000 in
theorem dX6_predict_93 : decode cX6_predict 93 = .ok (.putfield 28, 3) := by decide +kernel
set_option maxRecDepth 20000 in
theorem dX6_predict_96 : decode cX6_predict 96 = .ok (.aload_n 0, 1) := by decide +kernel
set_option maxRecDepth 20000 in
theorem dX6_predict_97 : decode cX6_predict 97 = .ok (.dup, 1) := by decide +kernel
set_option maxRecDepth 20000 in
theorem dX6_predict_98 : decode cX6_predict 98 = .ok (.getfield 47, 3) := by decide +kernel
set_option maxRecDepth 20000 in
theorem dX6_predict_101 : decode cX6_predict 101 = .ok (.iconst 1, 1) := by decide +kernel
set_option maxRecDepth 20000 in
theorem dX6_predict_102 : decode cX6_predict 102 = .ok (.iadd, 1) := by decide +kernel
set_option maxRecDepth 20000 in
theorem dX6_predict_103 : decode cX6_predict 103 = .ok (.putfield 47, 3) := by decide +kernel
set_option maxRecDepth 20000 in
theorem dX6_predict_106 : decode cX6_predict 106 = .ok (.aload_n 0, 1) := by decide +kernel
set_option maxRecDepth 20000 in
theorem dX6_predict_107 : decode cX6_predict 107 = .ok (.getfield 47, 3) := by decide +kernel
set_option maxRecDepth 20000 in
theorem dX6_predict_110 : decode cX6_predict 110 = .ok (.ireturn, 1) := by decide +kernel
set_option maxRecDepth 20000 in
theorem dX6_measure_0 : decode cX6_measure 0 = .ok (.iload_n 1, 1) := by decide +kernel
set_option maxRecDepth 20000 in
theorem dX6_measure_1 : decode cX6_measure 1 = .ok (.iload_n 2, 1) := by decide +kernel
set_option maxRecDepth 20000 in
theorem dX6_measure_2 : decode cX6_measure 2 = .ok (.invokestatic 58, 3) := by decide +kernel
set_option maxRecDepth 20000 in
theorem dX6_measure_5 : decode cX6_measure 5 = .ok (.ifCond .ne 11, 3) := by decide +kernel
set_option maxRecDepth 20000 in
theorem dX6_measure_8 : decode cX6_measure 8 = .ok (.new 40, 3) := by decide +kernel
set_option maxRecDepth 20000 in
theorem dX6_measure_11 : decode cX6_measure 11 = .ok (.dup, 1) := by decide +kernel
set_option maxRecDepth 20000 in
theorem dX6_measure_12 : decode cX6_measure 12 = .ok (.invokespecial 42, 3) := by decide +kernel
set_option maxRecDepth 20000 in
theorem dX6_measure_15 : decode cX6_measure 15 = .ok (.athrow, 1) := by decide +kernel
set_option maxRecDepth 20000 in
theorem dX6_measure_16 : decode cX6_measure 16 = .ok (.aload_n 0, 1) := by decide +kernel
set_option maxRecDepth 20000 in
theorem dX6_measure_17 : decode cX6_measure 17 = .ok (.getfield 43, 3) := by decide +kernel
set_option maxRecDepth 20000 in
theorem dX6_measure_20 : decode cX6_measure 20 = .ok (.ifCond .eq 23, 3) := by decide +kernel
set_option maxRecDepth 20000 in
theorem dX6_measure_23 : decode cX6_measure 23 = .ok (.aload_n 0, 1) := by decide +kernel
set_option maxRecDepth 20000 in
theorem dX6_measure_24 : decode cX6_measure 24 = .ok (.getfield 12, 3) := by decide +kernel
set_option maxRecDepth 20000 in
theorem dX6_measure_27 : decode cX6_measure 27 = .ok (.bipush 6, 2) := by decide +kernel
set_option maxRecDepth 20000 in
theorem dX6_measure_29 : decode cX6_measure 29 = .ok (.invokevirtual 66, 3) := by decide +kernel
set_option maxRecDepth 20000 in
theorem dX6_measure_32 : decode cX6_measure 32 = .ok (.ifCond .eq 11, 3) := by decide +kernel
set_option maxRecDepth 20000 in
theorem dX6_measure_35 : decode cX6_measure 35 = .ok (.aload_n 0, 1) := by decide +kernel
set_option maxRecDepth 20000 in
theorem dX6_measure_36 : decode cX6_measure 36 = .ok (.getfield 51, 3) := by decide +kernel
set_option maxRecDepth 20000 in
theorem dX6_measure_39 : decode cX6_measure 39 = .ok (.iconst 3, 1) := by decide +kernel
set_option maxRecDepth 20000 in
theorem dX6_measure_40 : decode cX6_measure 40 = .ok (.if_icmp .lt 11, 3) := by decide +kernel
set_option maxRecDepth 20000 in
theorem dX6_measure_43 : decode cX6_measure 43 = .ok (.new 73, 3) := by decide +kernel
set_option maxRecDepth 20000 in
theorem dX6_measure_46 : decode cX6_measure 46 = .ok (.dup, 1) := by decide +kernel
set_option maxRecDepth 20000 in
theorem dX6_measure_47 : decode cX6_measure 47 = .ok (.invokespecial 75, 3) := by decide +kernel
set_option maxRecDepth 20000 in
theorem dX6_measure_50 : decode cX6_measure 50 = .ok (.athrow, 1) := by decide +kernel
set_option maxRecDepth 20000 in
theorem dX6_measure_51 : decode cX6_measure 51 = .ok (.aload_n 0, 1) := by decide +kernel
set_option maxRecDepth 20000 in
theorem dX6_measure_52 : decode cX6_measure 52 = .ok (.getfield 12, 3) := by decide +kernel
set_option maxRecDepth 20000 in
theorem dX6_measure_55 : decode cX6_measure 55 = .ok (.iconst 5, 1) := by decide +kernel
set_option maxRecDepth 20000 in
theorem dX6_measure_56 : decode cX6_measure 56 = .ok (.invokevirtual 76, 3) := by decide +kernel
set_option maxRecDepth 20000 in
theorem dX6_measure_59 : decode cX6_measure 59 = .ok (.astore_n 3, 1) := by decide +kernel
set_option maxRecDepth 20000 in
theorem dX6_measure_60 : decode cX6_measure 60 = .ok (.aload_n 3, 1) := by decide +kernel
set_option maxRecDepth 20000 in
theorem dX6_measure_61 : decode cX6_measure 61 = .ok (.invokevirtual 87, 3) := by decide +kernel
set_option maxRecDepth 20000 in
theorem dX6_measure_64 : decode cX6_measure 64 = .ok (.astore 4, 2) := by decide +kernel
set_option maxRecDepth 20000 in
theorem dX6_measure_66 : decode cX6_measure 66 = .ok (.aload 4, 2) := by decide +kernel
set_option maxRecDepth 20000 in
theorem dX6_measure_68 : decode cX6_measure 68 = .ok (.aload_n 0, 1) := by decide +kernel
set_option maxRecDepth 20000 in
theorem dX6_measure_69 : decode cX6_measure 69 = .ok (.getfield 28, 3) := by decide +kernel
set_option maxRecDepth 20000 in
theorem dX6_measure_72 : decode cX6_measure 72 = .ok (.invokevirtual 80, 3) := by decide +kernel
set_option maxRecDepth 20000 in
theorem dX6_measure_75 : decode cX6_measure 75 = .ok (.astore 5, 2) := by decide +kernel
set_option maxRecDepth 20000 in
theorem dX6_measure_77 : decode cX6_measure 77 = .ok (.aload 5, 2) := by decide +kernel
set_option maxRecDepth 20000 in
theorem dX6_measure_79 : decode cX6_measure 79 = .ok (.aload_n 3, 1) := by decide +kernel
set_option maxRecDepth 20000 in
theorem dX6_measure_80 : decode cX6_measure 80 = .ok (.invokevirtual 80, 3) := by decide +kernel
set_option maxRecDepth 20000 in
theorem dX6_measure_83 : decode cX6_measure 83 = .ok (.aload_n 0, 1) := by decide +kernel
set_option maxRecDepth 20000 in
theorem dX6_measure_84 : decode cX6_measure 84 = .ok (.getfield 12, 3) := by decide +kernel
set_option maxRecDepth 20000 in
theorem dX6_measure_87 : decode cX6_measure 87 = .ok (.bipush 6, 2) := by decide +kernel
set_option maxRecDepth 20000 in
theorem dX6_measure_89 : decode cX6_measure 89 = .ok (.invokevirtual 76, 3) := by decide +kernel
set_option maxRecDepth 20000 in
theorem dX6_measure_92 : decode cX6_measure 92 = .ok (.invokevirtual 84, 3) := by decide +kernel
set_option maxRecDepth 20000 in
theorem dX6_measure_95 : decode cX6_measure 95 = .ok (.astore 6, 2) := by decide +kernel
set_option maxRecDepth 20000 in
theorem dX6_measure_97 : decode cX6_measure 97 = .ok (.aload 6, 2) := by decide +kernel
set_option maxRecDepth 20000 in
theorem dX6_measure_99 : decode cX6_measure 99 = .ok (.invokevirtual 91, 3) := by decide +kernel
set_option maxRecDepth 20000 in
theorem dX6_measure_102 : decode cX6_measure 102 = .ok (.ifCond .eq 11, 3) := by decide +kernel
set_option maxRecDepth 20000 in
theorem dX6_measure_105 : decode cX6_measure 105 = .ok (.new 95, 3) := by decide +kernel
set_option maxRecDepth 20000 in
theorem dX6_measure_108 : decode cX6_measure 108 = .ok (.dup, 1) := by decide +kernel
set_option maxRecDepth 20000 in
theorem dX6_measure_109 : decode cX6_measure 109 = .ok (.invokespecial 97, 3) := by decide +kernel
set_option maxRecDepth 20000 in
theorem dX6_measure_112 : decode cX6_measure 112 = .ok (.athrow, 1) := by decide +kernel
set_option maxRecDepth 20000 in
theorem dX6_measure_113 : decode cX6_measure 113 = .ok (.aload_n 0, 1) := by decide +kernel
set_option maxRecDepth 20000 in
theorem dX6_measure_114 : decode cX6_measure 114 = .ok (.aload 6, 2) := by decide +kernel
set_option maxRecDepth 20000 in
theorem dX6_measure_116 : decode cX6_measure 116 = .ok (.putfield 34, 3) := by decide +kernel
set_option maxRecDepth 20000 in
theorem dX6_measure_119 : decode cX6_measure 119 = .ok (.aload_n 0, 1) := by decide +kernel
set_option maxRecDepth 20000 in
theorem dX6_measure_120 : decode cX6_measure 120 = .ok (.iload_n 1, 1) := by decide +kernel
set_option maxRecDepth 20000 in
theorem dX6_measure_121 : decode cX6_measure 121 = .ok (.iload_n 2, 1) := by decide +kernel
set_option maxRecDepth 20000 in
theorem dX6_measure_122 : decode cX6_measure 122 = .ok (.invokestatic 18, 3) := by decide +kernel
set_option maxRecDepth 20000 in
theorem dX6_measure_125 : decode cX6_measure 125 = .ok (.aload 4, 2) := by decide +kernel
set_option maxRecDepth 20000 in
theorem dX6_measure_127 : decode cX6_measure 127 = .ok (.aload_n 0, 1) := by decide +kernel
set_option maxRecDepth 20000 in
theorem dX6_measure_128 : decode cX6_measure 128 = .ok (.getfield 24, 3) := by decide +kernel
set_option maxRecDepth 20000 in
theorem dX6_measure_131 : decode cX6_measure 131 = .ok (.invokevirtual 80, 3) := by decide +kernel
set_option maxRecDepth 20000 in
theorem dX6_measure_134 : decode cX6_measure 134 = .ok (.invokevirtual 98, 3) := by decide +kernel
set_option maxRecDepth 20000 in
theorem dX6_measure_137 : decode cX6_measure 137 = .ok (.putfield 31, 3) := by decide +kernel
set_option maxRecDepth 20000 in
theorem dX6_measure_140 : decode cX6_measure 140 = .ok (.aload_n 0, 1) := by decide +kernel
set_option maxRecDepth 20000 in
theorem dX6_measure_141 : decode cX6_measure 141 = .ok (.aload 5, 2) := by decide +kernel
set_option maxRecDepth 20000 in
theorem dX6_measure_143 : decode cX6_measure 143 = .ok (.invokevirtual 87, 3) := by decide +kernel
set_option maxRecDepth 20000 in
theorem dX6_measure_146 : decode cX6_measure 146 = .ok (.aload 6, 2) := by decide +kernel
set_option maxRecDepth 20000 in
theorem dX6_measure_148 : decode cX6_measure 148 = .ok (.invokevirtual 101, 3) := by decide +kernel
set_option maxRecDepth 20000 in
theorem dX6_measure_151 : decode cX6_measure 151 = .ok (.putfield 37, 3) := by decide +kernel
set_option maxRecDepth 20000 in
theorem dX6_measure_154 : decode cX6_measure 154 = .ok (.aload_n 0, 1) := by decide +kernel
set_option maxRecDepth 20000 in
theorem dX6_measure_155 : decode cX6_measure 155 = .ok (.aload_n 0, 1) := by decide +kernel
set_option maxRecDepth 20000 in
theorem dX6_measure_156 : decode cX6_measure 156 = .ok (.getfield 24, 3) := by decide +kernel
set_option maxRecDepth 20000 in
theorem dX6_measure_159 : decode cX6_measure 159 = .ok (.aload_n 0, 1) := by decide +kernel
set_option maxRecDepth 20000 in
theorem dX6_measure_160 : decode cX6_measure 160 = .ok (.getfield 37, 3) := by decide +kernel
set_option maxRecDepth 20000 in
theorem dX6_measure_163 : decode cX6_measure 163 = .ok (.aload_n 0, 1) := by decide +kernel
set_option maxRecDepth 20000 in
theorem dX6_measure_164 : decode cX6_measure 164 = .ok (.getfield 31, 3) := by decide +kernel
set_option maxRecDepth 20000 in
theorem dX6_measure_167 : decode cX6_measure 167 = .ok (.invokevirtual 80, 3) := by decide +kernel
set_option maxRecDepth 20000 in
theorem dX6_measure_170 : decode cX6_measure 170 = .ok (.invokevirtual 84, 3) := by decide +kernel
set_option maxRecDepth 20000 in
theorem dX6_measure_173 : decode cX6_measure 173 = .ok (.invokevirtual 104, 3) := by decide +kernel
set_option maxRecDepth 20000 in
theorem dX6_measure_176 : decode cX6_measure 176 = .ok (.putfield 24, 3) := by decide +kernel
set_option maxRecDepth 20000 in
theorem dX6_measure_179 : decode cX6_measure 179 = .ok (.aload_n 0, 1) := by decide +kernel
set_option maxRecDepth 20000 in
theorem dX6_measure_180 : decode cX6_measure 180 = .ok (.aload_n 0, 1) := by decide +kernel
set_option maxRecDepth 20000 in
theorem dX6_measure_181 : decode cX6_measure 181 = .ok (.getfield 28, 3) := by decide +kernel
set_option maxRecDepth 20000 in
theorem dX6_measure_184 : decode cX6_measure 184 = .ok (.aload_n 0, 1) := by decide +kernel
set_option maxRecDepth 20000 in
theorem dX6_measure_185 : decode cX6_measure 185 = .ok (.getfield 37, 3) := by decide +kernel
set_option maxRecDepth 20000 in
theorem dX6_measure_188 : decode cX6_measure 188 = .ok (.aload 5, 2) := by decide +kernel
set_option maxRecDepth 20000 in
theorem dX6_measure_190 : decode cX6_measure 190 = .ok (.invokevirtual 80, 3) := by decide +kernel
set_option maxRecDepth 20000 in
theorem dX6_measure_193 : decode cX6_measure 193 = .ok (.invokevirtual 98, 3) := by decide +kernel
set_option maxRecDepth 20000 in
theorem dX6_measure_196 : decode cX6_measure 196 = .ok (.invokevirtual 104, 3) := by decide +kernel
set_option maxRecDepth 20000 in
theorem dX6_measure_199 : decode cX6_measure 199 = .ok (.putfield 28, 3) := by decide +kernel
set_option maxRecDepth 20000 in
theorem dX6_measure_202 : decode cX6_measure 202 = .ok (.aload_n 0, 1) := by decide +kernel
set_option maxRecDepth 20000 in
theorem dX6_measure_203 : decode cX6_measure 203 = .ok (.dup, 1) := by decide +kernel
set_option maxRecDepth 20000 in
theorem dX6_measure_204 : decode cX6_measure 204 = .ok (.getfield 51, 3) := by decide +kernel
set_option maxRecDepth 20000 in
theorem dX6_measure_207 : decode cX6_measure 207 = .ok (.iconst 1, 1) := by decide +kernel
set_option maxRecDepth 20000 in
theorem dX6_measure_208 : decode cX6_measure 208 = .ok (.iadd, 1) := by decide +kernel
set_option maxRecDepth 20000 in
theorem dX6_measure_209 : decode cX6_measure 209 = .ok (.putfield 51, 3) := by decide +kernel
set_option maxRecDepth 20000 in
theorem dX6_measure_212 : decode cX6_measure 212 = .ok (.aload_n 0, 1) := by decide +kernel
set_option maxRecDepth 20000 in
theorem dX6_measure_213 : decode cX6_measure 213 = .ok (.getfield 51, 3) := by decide +kernel
set_option maxRecDepth 20000 in
theorem dX6_measure_216 : decode cX6_measure 216 = .ok (.ireturn, 1) := by decide +kernel
set_option maxRecDepth 20000 in
theorem dX6_sign_0 : decode cX6_sign 0 = .ok (.aload_n 0, 1) := by decide +kernel
set_option maxRecDepth 20000 in
theorem dX6_sign_1 : decode cX6_sign 1 = .ok (.iload_n 1, 1) := by decide +kernel
set_option maxRecDepth 20000 in
theorem dX6_sign_2 : decode cX6_sign 2 = .ok (.iload_n 2, 1) := by decide +kernel
set_option maxRecDepth 20000 in
theorem dX6_sign_3 : decode cX6_sign 3 = .ok (.iload_n 3, 1) := by decide +kernel
set_option maxRecDepth 20000 in
theorem dX6_sign_4 : decode cX6_sign 4 = .ok (.invokevirtual 107, 3) := by decide +kernel
set_option maxRecDepth 20000 in
theorem dX6_sign_7 : decode cX6_sign 7 = .ok (.invokevirtual 111, 3) := by decide +kernel
set_option maxRecDepth 20000 in
theorem dX6_sign_10 : decode cX6_sign 10 = .ok (.ireturn, 1) := by decide +kernel
set_option maxRecDepth 20000 in
theorem dX6_pieces_0 : decode cX6_pieces 0 = .ok (.aload_n 0, 1) := by decide +kernel
set_option maxRecDepth 20000 in
theorem dX6_pieces_1 : decode cX6_pieces 1 = .ok (.iload_n 1, 1) := by decide +kernel
set_option maxRecDepth 20000 in
theorem dX6_pieces_2 : decode cX6_pieces 2 = .ok (.iload_n 2, 1) := by decide +kernel
set_option maxRecDepth 20000 in
theorem dX6_pieces_3 : decode cX6_pieces 3 = .ok (.iload_n 3, 1) := by decide +kernel
set_option maxRecDepth 20000 in
theorem dX6_pieces_4 : decode cX6_pieces 4 = .ok (.iload 4, 2) := by decide +kernel
set_option maxRecDepth 20000 in
theorem dX6_pieces_6 : decode cX6_pieces 6 = .ok (.invokevirtual 117, 3) := by decide +kernel
set_option maxRecDepth 20000 in
theorem dX6_pieces_9 : decode cX6_pieces 9 = .ok (.invokevirtual 121, 3) := by decide +kernel
set_option maxRecDepth 20000 in
theorem dX6_pieces_12 : decode cX6_pieces 12 = .ok (.ireturn, 1) := by decide +kernel
set_option maxRecDepth 20000 in
theorem dX6_piece_0 : decode cX6_piece 0 = .ok (.aload_n 0, 1) := by decide +kernel
set_option maxRecDepth 20000 in
theorem dX6_piece_1 : decode cX6_piece 1 = .ok (.iload_n 1, 1) := by decide +kernel
set_option maxRecDepth 20000 in
theorem dX6_piece_2 : decode cX6_piece 2 = .ok (.iload_n 2, 1) := by decide +kernel
set_option maxRecDepth 20000 in
theorem dX6_piece_3 : decode cX6_piece 3 = .ok (.iload_n 3, 1) := by decide +kernel
set_option maxRecDepth 20000 in
theorem dX6_piece_4 : decode cX6_piece 4 = .ok (.iload 4, 2) := by decide +kernel
set_option maxRecDepth 20000 in
theorem dX6_piece_6 : decode cX6_piece 6 = .ok (.invokevirtual 117, 3) := by decide +kernel
set_option maxRecDepth 20000 in
theorem dX6_piece_9 : decode cX6_piece 9 = .ok (.astore 6, 2) := by decide +kernel
set_option maxRecDepth 20000 in
theorem dX6_piece_11 : decode cX6_piece 11 = .ok (.iload 5, 2) := by decide +kernel
set_option maxRecDepth 20000 in
theorem dX6_piece_13 : decode cX6_piece 13 = .ok (.ifCond .ge 11, 3) := by decide +kernel
set_option maxRecDepth 20000 in
theorem dX6_piece_16 : decode cX6_piece 16 = .ok (.new 40, 3) := by decide +kernel
set_option maxRecDepth 20000 in
theorem dX6_piece_19 : decode cX6_piece 19 = .ok (.dup, 1) := by decide +kernel
set_option maxRecDepth 20000 in
theorem dX6_piece_20 : decode cX6_piece 20 = .ok (.invokespecial 42, 3) := by decide +kernel
set_option maxRecDepth 20000 in
theorem dX6_piece_23 : decode cX6_piece 23 = .ok (.athrow, 1) := by decide +kernel
set_option maxRecDepth 20000 in
theorem dX6_piece_24 : decode cX6_piece 24 = .ok (.aload 6, 2) := by decide +kernel
set_option maxRecDepth 20000 in
theorem dX6_piece_26 : decode cX6_piece 26 = .ok (.iload 5, 2) := by decide +kernel
set_option maxRecDepth 20000 in
theorem dX6_piece_28 : decode cX6_piece 28 = .ok (.invokevirtual 126, 3) := by decide +kernel
set_option maxRecDepth 20000 in
theorem dX6_piece_31 : decode cX6_piece 31 = .ok (.ireturn, 1) := by decide +kernel
set_option maxRecDepth 20000 in
theorem dX6_scaled_0 : decode cX6_scaled 0 = .ok (.aload_n 0, 1) := by decide +kernel
set_option maxRecDepth 20000 in
theorem dX6_scaled_1 : decode cX6_scaled 1 = .ok (.iload_n 1, 1) := by decide +kernel
set_option maxRecDepth 20000 in
theorem dX6_scaled_2 : decode cX6_scaled 2 = .ok (.iload_n 2, 1) := by decide +kernel
set_option maxRecDepth 20000 in
theorem dX6_scaled_3 : decode cX6_scaled 3 = .ok (.iload_n 3, 1) := by decide +kernel
set_option maxRecDepth 20000 in
theorem dX6_scaled_4 : decode cX6_scaled 4 = .ok (.invokevirtual 107, 3) := by decide +kernel
set_option maxRecDepth 20000 in
theorem dX6_scaled_7 : decode cX6_scaled 7 = .ok (.astore 5, 2) := by decide +kernel
set_option maxRecDepth 20000 in
theorem dX6_scaled_9 : decode cX6_scaled 9 = .ok (.iload 4, 2) := by decide +kernel
set_option maxRecDepth 20000 in
theorem dX6_scaled_11 : decode cX6_scaled 11 = .ok (.iconst 1, 1) := by decide +kernel
set_option maxRecDepth 20000 in
theorem dX6_scaled_12 : decode cX6_scaled 12 = .ok (.if_icmp .lt 10, 3) := by decide +kernel
set_option maxRecDepth 20000 in
theorem dX6_scaled_15 : decode cX6_scaled 15 = .ok (.iload 4, 2) := by decide +kernel
set_option maxRecDepth 20000 in
theorem dX6_scaled_17 : decode cX6_scaled 17 = .ok (.ldc 130, 2) := by decide +kernel
set_option maxRecDepth 20000 in
theorem dX6_scaled_19 : decode cX6_scaled 19 = .ok (.if_icmp .le 11, 3) := by decide +kernel
set_option maxRecDepth 20000 in
theorem dX6_scaled_22 : decode cX6_scaled 22 = .ok (.new 40, 3) := by decide +kernel
set_option maxRecDepth 20000 in
theorem dX6_scaled_25 : decode cX6_scaled 25 = .ok (.dup, 1) := by decide +kernel
set_option maxRecDepth 20000 in
theorem dX6_scaled_26 : decode cX6_scaled 26 = .ok (.invokespecial 42, 3) := by decide +kernel
set_option maxRecDepth 20000 in
theorem dX6_scaled_29 : decode cX6_scaled 29 = .ok (.athrow, 1) := by decide +kernel
set_option maxRecDepth 20000 in
theorem dX6_scaled_30 : decode cX6_scaled 30 = .ok (.aload 5, 2) := by decide +kernel
set_option maxRecDepth 20000 in
theorem dX6_scaled_32 : decode cX6_scaled 32 = .ok (.iload 4, 2) := by decide +kernel
set_option maxRecDepth 20000 in
theorem dX6_scaled_34 : decode cX6_scaled 34 = .ok (.invokevirtual 131, 3) := by decide +kernel
set_option maxRecDepth 20000 in
theorem dX6_scaled_37 : decode cX6_scaled 37 = .ok (.lreturn, 1) := by decide +kernel
set_option maxRecDepth 20000 in
theorem dX6_compare_0 : decode cX6_compare 0 = .ok (.aload_n 0, 1) := by decide +kernel
set_option maxRecDepth 20000 in
theorem dX6_compare_1 : decode cX6_compare 1 = .ok (.iload_n 1, 1) := by decide +kernel
set_option maxRecDepth 20000 in
theorem dX6_compare_2 : decode cX6_compare 2 = .ok (.iload_n 2, 1) := by decide +kernel
set_option maxRecDepth 20000 in
theorem dX6_compare_3 : decode cX6_compare 3 = .ok (.iload_n 3, 1) := by decide +kernel
set_option maxRecDepth 20000 in
theorem dX6_compare_4 : decode cX6_compare 4 = .ok (.invokevirtual 107, 3) := by decide +kernel
set_option maxRecDepth 20000 in
theorem dX6_compare_7 : decode cX6_compare 7 = .ok (.astore 6, 2) := by decide +kernel
set_option maxRecDepth 20000 in
theorem dX6_compare_9 : decode cX6_compare 9 = .ok (.iload 4, 2) := by decide +kernel
set_option maxRecDepth 20000 in
theorem dX6_compare_11 : decode cX6_compare 11 = .ok (.iload 5, 2) := by decide +kernel
set_option maxRecDepth 20000 in
theorem dX6_compare_13 : decode cX6_compare 13 = .ok (.invokestatic 58, 3) := by decide +kernel
set_option maxRecDepth 20000 in
theorem dX6_compare_16 : decode cX6_compare 16 = .ok (.ifCond .ne 11, 3) := by decide +kernel
set_option maxRecDepth 20000 in
theorem dX6_compare_19 : decode cX6_compare 19 = .ok (.new 40, 3) := by decide +kernel
set_option maxRecDepth 20000 in
theorem dX6_compare_22 : decode cX6_compare 22 = .ok (.dup, 1) := by decide +kernel
set_option maxRecDepth 20000 in
theorem dX6_compare_23 : decode cX6_compare 23 = .ok (.invokespecial 42, 3) := by decide +kernel
set_option maxRecDepth 20000 in
theorem dX6_compare_26 : decode cX6_compare 26 = .ok (.athrow, 1) := by decide +kernel
set_option maxRecDepth 20000 in
theorem dX6_compare_27 : decode cX6_compare 27 = .ok (.aload 6, 2) := by decide +kernel
set_option maxRecDepth 20000 in
theorem dX6_compare_29 : decode cX6_compare 29 = .ok (.iload 4, 2) := by decide +kernel
set_option maxRecDepth 20000 in
theorem dX6_compare_31 : decode cX6_compare 31 = .ok (.iload 5, 2) := by decide +kernel
set_option maxRecDepth 20000 in
theorem dX6_compare_33 : decode cX6_compare 33 = .ok (.invokevirtual 135, 3) := by decide +kernel
set_option maxRecDepth 20000 in
theorem dX6_compare_36 : decode cX6_compare 36 = .ok (.ireturn, 1) := by decide +kernel
set_option maxRecDepth 20000 in
theorem dX6_about_0 : decode cX6_about 0 = .ok (.iload_n 1, 1) := by decide +kernel
set_option maxRecDepth 20000 in
theorem dX6_about_1 : decode cX6_about 1 = .ok (.tableswitch 62 0 3 #[31, 39, 52, 57], 31) := by decide +kernel
set_option maxRecDepth 20000 in
theorem dX6_about_32 : decode cX6_about 32 = .ok (.aload_n 0, 1) := by decide +kernel
set_option maxRecDepth 20000 in
theorem dX6_about_33 : decode cX6_about 33 = .ok (.getfield 12, 3) := by decide +kernel
set_option maxRecDepth 20000 in
theorem dX6_about_36 : decode cX6_about 36 = .ok (.invokevirtual 139, 3) := by decide +kernel
set_option maxRecDepth 20000 in
theorem dX6_about_39 : decode cX6_about 39 = .ok (.ireturn, 1) := by decide +kernel
set_option maxRecDepth 20000 in
theorem dX6_about_40 : decode cX6_about 40 = .ok (.aload_n 0, 1) := by decide +kernel
set_option maxRecDepth 20000 in
theorem dX6_about_41 : decode cX6_about 41 = .ok (.getfield 43, 3) := by decide +kernel
set_option maxRecDepth 20000 in
theorem dX6_about_44 : decode cX6_about 44 = .ok (.ifCond .eq 7, 3) := by decide +kernel
set_option maxRecDepth 20000 in
theorem dX6_about_47 : decode cX6_about 47 = .ok (.iconst 1, 1) := by decide +kernel
set_option maxRecDepth 20000 in
theorem dX6_about_48 : decode cX6_about 48 = .ok (.goto 4, 3) := by decide +kernel
set_option maxRecDepth 20000 in
theorem dX6_about_51 : decode cX6_about 51 = .ok (.iconst 0, 1) := by decide +kernel
set_option maxRecDepth 20000 in
theorem dX6_about_52 : decode cX6_about 52 = .ok (.ireturn, 1) := by decide +kernel
set_option maxRecDepth 20000 in
theorem dX6_about_53 : decode cX6_about 53 = .ok (.aload_n 0, 1) := by decide +kernel
set_option maxRecDepth 20000 in
theorem dX6_about_54 : decode cX6_about 54 = .ok (.getfield 47, 3) := by decide +kernel
set_option maxRecDepth 20000 in
theorem dX6_about_57 : decode cX6_about 57 = .ok (.ireturn, 1) := by decide +kernel
set_option maxRecDepth 20000 in
theorem dX6_about_58 : decode cX6_about 58 = .ok (.aload_n 0, 1) := by decide +kernel
set_option maxRecDepth 20000 in
theorem dX6_about_59 : decode cX6_about 59 = .ok (.getfield 51, 3) := by decide +kernel
set_option maxRecDepth 20000 in
theorem dX6_about_62 : decode cX6_about 62 = .ok (.ireturn, 1) := by decide +kernel
set_option maxRecDepth 20000 in
theorem dX6_about_63 : decode cX6_about 63 = .ok (.iconst (-1), 1) := by decide +kernel
set_option maxRecDepth 20000 in
theorem dX6_about_64 : decode cX6_about 64 = .ok (.ireturn, 1) := by decide +kernel
set_option maxRecDepth 20000 in
theorem dX6_isFraction_0 : decode cX6_isFraction 0 = .ok (.iload_n 0, 1) := by decide +kernel
set_option maxRecDepth 20000 in
theorem dX6_isFraction_1 : decode cX6_isFraction 1 = .ok (.bipush (-20), 2) := by decide +kernel
set_option maxRecDepth 20000 in
theorem dX6_isFraction_3 : decode cX6_isFraction 3 = .ok (.if_icmp .lt 24, 3) := by decide +kernel
set_option maxRecDepth 20000 in
theorem dX6_isFraction_6 : decode cX6_isFraction 6 = .ok (.iload_n 0, 1) := by decide +kernel
set_option maxRecDepth 20000 in
theorem dX6_isFraction_7 : decode cX6_isFraction 7 = .ok (.bipush 20, 2) := by decide +kernel
set_option maxRecDepth 20000 in
theorem dX6_isFraction_9 : decode cX6_isFraction 9 = .ok (.if_icmp .gt 18, 3) := by decide +kernel
set_option maxRecDepth 20000 in
theorem dX6_isFraction_12 : decode cX6_isFraction 12 = .ok (.iload_n 1, 1) := by decide +kernel
set_option maxRecDepth 20000 in
theorem dX6_isFraction_13 : decode cX6_isFraction 13 = .ok (.iconst 1, 1) := by decide +kernel
set_option maxRecDepth 20000 in
theorem dX6_isFraction_14 : decode cX6_isFraction 14 = .ok (.if_icmp .lt 13, 3) := by decide +kernel
set_option maxRecDepth 20000 in
theorem dX6_isFraction_17 : decode cX6_isFraction 17 = .ok (.iload_n 1, 1) := by decide +kernel
set_option maxRecDepth 20000 in
theorem dX6_isFraction_18 : decode cX6_isFraction 18 = .ok (.bipush 20, 2) := by decide +kernel
set_option maxRecDepth 20000 in
theorem dX6_isFraction_20 : decode cX6_isFraction 20 = .ok (.if_icmp .gt 7, 3) := by decide +kernel
set_option maxRecDepth 20000 in
theorem dX6_isFraction_23 : decode cX6_isFraction 23 = .ok (.iconst 1, 1) := by decide +kernel
set_option maxRecDepth 20000 in
theorem dX6_isFraction_24 : decode cX6_isFraction 24 = .ok (.goto 4, 3) := by decide +kernel
set_option maxRecDepth 20000 in
theorem dX6_isFraction_27 : decode cX6_isFraction 27 = .ok (.iconst 0, 1) := by decide +kernel
set_option maxRecDepth 20000 in
theorem dX6_isFraction_28 : decode cX6_isFraction 28 = .ok (.ireturn, 1) := by decide +kernel
set_option maxRecDepth 20000 in
theorem dX6_number_0 : decode cX6_number 0 = .ok (.iload_n 1, 1) := by decide +kernel
set_option maxRecDepth 20000 in
theorem dX6_number_1 : decode cX6_number 1 = .ok (.iconst 2, 1) := by decide +kernel
set_option maxRecDepth 20000 in
theorem dX6_number_2 : decode cX6_number 2 = .ok (.if_icmp .lt 12, 3) := by decide +kernel
set_option maxRecDepth 20000 in
theorem dX6_number_5 : decode cX6_number 5 = .ok (.iload_n 1, 1) := by decide +kernel
set_option maxRecDepth 20000 in
theorem dX6_number_6 : decode cX6_number 6 = .ok (.iconst 4, 1) := by decide +kernel
set_option maxRecDepth 20000 in
theorem dX6_number_7 : decode cX6_number 7 = .ok (.if_icmp .gt 7, 3) := by decide +kernel
set_option maxRecDepth 20000 in
theorem dX6_number_10 : decode cX6_number 10 = .ok (.iconst 1, 1) := by decide +kernel
set_option maxRecDepth 20000 in
theorem dX6_number_11 : decode cX6_number 11 = .ok (.goto 4, 3) := by decide +kernel
set_option maxRecDepth 20000 in
theorem dX6_number_14 : decode cX6_number 14 = .ok (.iconst 0, 1) := by decide +kernel
set_option maxRecDepth 20000 in
theorem dX6_number_15 : decode cX6_number 15 = .ok (.istore 4, 2) := by decide +kernel
set_option maxRecDepth 20000 in
theorem dX6_number_17 : decode cX6_number 17 = .ok (.aload_n 0, 1) := by decide +kernel
set_option maxRecDepth 20000 in
theorem dX6_number_18 : decode cX6_number 18 = .ok (.getfield 43, 3) := by decide +kernel
set_option maxRecDepth 20000 in
theorem dX6_number_21 : decode cX6_number 21 = .ok (.ifCond .eq 15, 3) := by decide +kernel
set_option maxRecDepth 20000 in
theorem dX6_number_24 : decode cX6_number 24 = .ok (.iload 4, 2) := by decide +kernel
set_option maxRecDepth 20000 in
theorem dX6_number_26 : decode cX6_number 26 = .ok (.ifCond .eq 18, 3) := by decide +kernel
set_option maxRecDepth 20000 in
theorem dX6_number_29 : decode cX6_number 29 = .ok (.aload_n 0, 1) := by decide +kernel
set_option maxRecDepth 20000 in
theorem dX6_number_30 : decode cX6_number 30 = .ok (.getfield 51, 3) := by decide +kernel
set_option maxRecDepth 20000 in
theorem dX6_number_33 : decode cX6_number 33 = .ok (.ifCond .ne 11, 3) := by decide +kernel
set_option maxRecDepth 20000 in
theorem dX6_number_36 : decode cX6_number 36 = .ok (.new 73, 3) := by decide +kernel
set_option maxRecDepth 20000 in
theorem dX6_number_39 : decode cX6_number 39 = .ok (.dup, 1) := by decide +kernel
set_option maxRecDepth 20000 in
theorem dX6_number_40 : decode cX6_number 40 = .ok (.invokespecial 75, 3) := by decide +kernel
set_option maxRecDepth 20000 in
theorem dX6_number_43 : decode cX6_number 43 = .ok (.athrow, 1) := by decide +kernel
set_option maxRecDepth 20000 in
theorem dX6_number_44 : decode cX6_number 44 = .ok (.iload_n 1, 1) := by decide +kernel
set_option maxRecDepth 20000 in
theorem dX6_number_45 : decode cX6_number 45 = .ok (.ifCond .lt 21, 3) := by decide +kernel
set_option maxRecDepth 20000 in
theorem dX6_number_48 : decode cX6_number 48 = .ok (.iload_n 1, 1) := by decide +kernel
set_option maxRecDepth 20000 in
theorem dX6_number_49 : decode cX6_number 49 = .ok (.iconst 4, 1) := by decide +kernel
set_option maxRecDepth 20000 in
theorem dX6_number_50 : decode cX6_number 50 = .ok (.if_icmp .gt 16, 3) := by decide +kernel
set_option maxRecDepth 20000 in
theorem dX6_number_53 : decode cX6_number 53 = .ok (.aload_n 0, 1) := by decide +kernel
set_option maxRecDepth 20000 in
theorem dX6_number_54 : decode cX6_number 54 = .ok (.iload_n 1, 1) := by decide +kernel
set_option maxRecDepth 20000 in
theorem dX6_number_55 : decode cX6_number 55 = .ok (.invokevirtual 142, 3) := by decide +kernel
set_option maxRecDepth 20000 in
theorem dX6_number_58 : decode cX6_number 58 = .ok (.iload_n 2, 1) := by decide +kernel
set_option maxRecDepth 20000 in
theorem dX6_number_59 : decode cX6_number 59 = .ok (.iload_n 3, 1) := by decide +kernel
set_option maxRecDepth 20000 in
theorem dX6_number_60 : decode cX6_number 60 = .ok (.invokevirtual 145, 3) := by decide +kernel
set_option maxRecDepth 20000 in
theorem dX6_number_63 : decode cX6_number 63 = .ok (.ifCond .ne 11, 3) := by decide +kernel
set_option maxRecDepth 20000 in
theorem dX6_number_66 : decode cX6_number 66 = .ok (.new 40, 3) := by decide +kernel
set_option maxRecDepth 20000 in
theorem dX6_number_69 : decode cX6_number 69 = .ok (.dup, 1) := by decide +kernel
set_option maxRecDepth 20000 in
theorem dX6_number_70 : decode cX6_number 70 = .ok (.invokespecial 42, 3) := by decide +kernel
set_option maxRecDepth 20000 in
theorem dX6_number_73 : decode cX6_number 73 = .ok (.athrow, 1) := by decide +kernel
set_option maxRecDepth 20000 in
theorem dX6_number_74 : decode cX6_number 74 = .ok (.aload_n 0, 1) := by decide +kernel
set_option maxRecDepth 20000 in
theorem dX6_number_75 : decode cX6_number 75 = .ok (.iload_n 1, 1) := by decide +kernel
set_option maxRecDepth 20000 in
theorem dX6_number_76 : decode cX6_number 76 = .ok (.invokevirtual 142, 3) := by decide +kernel
set_option maxRecDepth 20000 in
theorem dX6_number_79 : decode cX6_number 79 = .ok (.iload_n 2, 1) := by decide +kernel
set_option maxRecDepth 20000 in
theorem dX6_number_80 : decode cX6_number 80 = .ok (.iload_n 3, 1) := by decide +kernel
set_option maxRecDepth 20000 in
theorem dX6_number_81 : decode cX6_number 81 = .ok (.invokevirtual 147, 3) := by decide +kernel
set_option maxRecDepth 20000 in
theorem dX6_number_84 : decode cX6_number 84 = .ok (.areturn, 1) := by decide +kernel
set_option maxRecDepth 20000 in
theorem dX6_tableOf_0 : decode cX6_tableOf 0 = .ok (.iload_n 1, 1) := by decide +kernel
set_option maxRecDepth 20000 in
theorem dX6_tableOf_1 : decode cX6_tableOf 1 = .ok (.tableswitch 51 1 4 #[31, 36, 41, 46], 31) := by decide +kernel
set_option maxRecDepth 20000 in
theorem dX6_tableOf_32 : decode cX6_tableOf 32 = .ok (.aload_n 0, 1) := by decide +kernel
set_option maxRecDepth 20000 in
theorem dX6_tableOf_33 : decode cX6_tableOf 33 = .ok (.getfield 28, 3) := by decide +kernel
set_option maxRecDepth 20000 in
theorem dX6_tableOf_36 : decode cX6_tableOf 36 = .ok (.areturn, 1) := by decide +kernel
set_option maxRecDepth 20000 in
theorem dX6_tableOf_37 : decode cX6_tableOf 37 = .ok (.aload_n 0, 1) := by decide +kernel
set_option maxRecDepth 20000 in
theorem dX6_tableOf_38 : decode cX6_tableOf 38 = .ok (.getfield 31, 3) := by decide +kernel
set_option maxRecDepth 20000 in
theorem dX6_tableOf_41 : decode cX6_tableOf 41 = .ok (.areturn, 1) := by decide +kernel
set_option maxRecDepth 20000 in
theorem dX6_tableOf_42 : decode cX6_tableOf 42 = .ok (.aload_n 0, 1) := by decide +kernel
set_option maxRecDepth 20000 in
theorem dX6_tableOf_43 : decode cX6_tableOf 43 = .ok (.getfield 34, 3) := by decide +kernel
set_option maxRecDepth 20000 in
theorem dX6_tableOf_46 : decode cX6_tableOf 46 = .ok (.areturn, 1) := by decide +kernel
set_option maxRecDepth 20000 in
theorem dX6_tableOf_47 : decode cX6_tableOf 47 = .ok (.aload_n 0, 1) := by decide +kernel
set_option maxRecDepth 20000 in
theorem dX6_tableOf_48 : decode cX6_tableOf 48 = .ok (.getfield 37, 3) := by decide +kernel
set_option maxRecDepth 20000 in
theorem dX6_tableOf_51 : decode cX6_tableOf 51 = .ok (.areturn, 1) := by decide +kernel
set_option maxRecDepth 20000 in
theorem dX6_tableOf_52 : decode cX6_tableOf 52 = .ok (.aload_n 0, 1) := by decide +kernel
set_option maxRecDepth 20000 in
theorem dX6_tableOf_53 : decode cX6_tableOf 53 = .ok (.getfield 24, 3) := by decide +kernel
set_option maxRecDepth 20000 in
theorem dX6_tableOf_56 : decode cX6_tableOf 56 = .ok (.areturn, 1) := by decide +kernel
set_option maxRecDepth 20000 in
theorem dX6_wholeOf_0 : decode cX6_wholeOf 0 = .ok (.aload_n 0, 1) := by decide +kernel
set_option maxRecDepth 20000 in
theorem dX6_wholeOf_1 : decode cX6_wholeOf 1 = .ok (.iload_n 1, 1) := by decide +kernel
set_option maxRecDepth 20000 in
theorem dX6_wholeOf_2 : decode cX6_wholeOf 2 = .ok (.iload_n 2, 1) := by decide +kernel
set_option maxRecDepth 20000 in
theorem dX6_wholeOf_3 : decode cX6_wholeOf 3 = .ok (.iload_n 3, 1) := by decide +kernel
set_option maxRecDepth 20000 in
theorem dX6_wholeOf_4 : decode cX6_wholeOf 4 = .ok (.invokevirtual 107, 3) := by decide +kernel
set_option maxRecDepth 20000 in
theorem dX6_wholeOf_7 : decode cX6_wholeOf 7 = .ok (.astore 5, 2) := by decide +kernel
set_option maxRecDepth 20000 in
theorem dX6_wholeOf_9 : decode cX6_wholeOf 9 = .ok (.iload 4, 2) := by decide +kernel
set_option maxRecDepth 20000 in
theorem dX6_wholeOf_11 : decode cX6_wholeOf 11 = .ok (.ifCond .eq 17, 3) := by decide +kernel
set_option maxRecDepth 20000 in
theorem dX6_wholeOf_14 : decode cX6_wholeOf 14 = .ok (.iload 4, 2) := by decide +kernel
set_option maxRecDepth 20000 in
theorem dX6_wholeOf_16 : decode cX6_wholeOf 16 = .ok (.iconst 1, 1) := by decide +kernel
set_option maxRecDepth 20000 in
theorem dX6_wholeOf_17 : decode cX6_wholeOf 17 = .ok (.if_icmp .eq 11, 3) := by decide +kernel
set_option maxRecDepth 20000 in
theorem dX6_wholeOf_20 : decode cX6_wholeOf 20 = .ok (.new 40, 3) := by decide +kernel
set_option maxRecDepth 20000 in
theorem dX6_wholeOf_23 : decode cX6_wholeOf 23 = .ok (.dup, 1) := by decide +kernel
set_option maxRecDepth 20000 in
theorem dX6_wholeOf_24 : decode cX6_wholeOf 24 = .ok (.invokespecial 42, 3) := by decide +kernel
set_option maxRecDepth 20000 in
theorem dX6_wholeOf_27 : decode cX6_wholeOf 27 = .ok (.athrow, 1) := by decide +kernel
set_option maxRecDepth 20000 in
theorem dX6_wholeOf_28 : decode cX6_wholeOf 28 = .ok (.aload 5, 2) := by decide +kernel
set_option maxRecDepth 20000 in
theorem dX6_wholeOf_30 : decode cX6_wholeOf 30 = .ok (.invokevirtual 150, 3) := by decide +kernel
set_option maxRecDepth 20000 in
theorem dX6_wholeOf_33 : decode cX6_wholeOf 33 = .ok (.iload 4, 2) := by decide +kernel
set_option maxRecDepth 20000 in
theorem dX6_wholeOf_35 : decode cX6_wholeOf 35 = .ok (.ifCond .ne 11, 3) := by decide +kernel
set_option maxRecDepth 20000 in
theorem dX6_wholeOf_38 : decode cX6_wholeOf 38 = .ok (.aload 5, 2) := by decide +kernel
set_option maxRecDepth 20000 in
theorem dX6_wholeOf_40 : decode cX6_wholeOf 40 = .ok (.invokevirtual 153, 3) := by decide +kernel
set_option maxRecDepth 20000 in
theorem dX6_wholeOf_43 : decode cX6_wholeOf 43 = .ok (.goto 8, 3) := by decide +kernel
set_option maxRecDepth 20000 in
theorem dX6_wholeOf_46 : decode cX6_wholeOf 46 = .ok (.aload 5, 2) := by decide +kernel
set_option maxRecDepth 20000 in
theorem dX6_wholeOf_48 : decode cX6_wholeOf 48 = .ok (.invokevirtual 157, 3) := by decide +kernel
set_option maxRecDepth 20000 in
theorem dX6_wholeOf_51 : decode cX6_wholeOf 51 = .ok (.areturn, 1) := by decide +kernel
