set_option maxRecDepth 20000 in
theorem dL_begin_0 : decode cL_begin 0 = .ok (.aload_n 0, 1) := by decide +kernel
set_option maxRecDepth 20000 in
theorem dL_begin_1 : decode cL_begin 1 = .ok (.iload_n 1, 1) := by decide +kernel
set_option maxRecDepth 20000 in
theorem dL_begin_2 : decode cL_begin 2 = .ok (.invokevirtual 7, 3) := by decide +kernel
set_option maxRecDepth 20000 in
theorem dL_begin_5 : decode cL_begin 5 = .ok (.goto 6, 3) := by decide +kernel
set_option maxRecDepth 20000 in
theorem dL_begin_8 : decode cL_begin 8 = .ok (.astore_n 2, 1) := by decide +kernel
set_option maxRecDepth 20000 in
theorem dL_begin_9 : decode cL_begin 9 = .ok (.iconst 1, 1) := by decide +kernel
set_option maxRecDepth 20000 in
theorem dL_begin_10 : decode cL_begin 10 = .ok (.ireturn, 1) := by decide +kernel
set_option maxRecDepth 20000 in
theorem dL_begin_11 : decode cL_begin 11 = .ok (.iconst 0, 1) := by decide +kernel
set_option maxRecDepth 20000 in
theorem dL_begin_12 : decode cL_begin 12 = .ok (.ireturn, 1) := by decide +kernel
set_option maxRecDepth 20000 in
theorem dL_set_0 : decode cL_set 0 = .ok (.aload_n 0, 1) := by decide +kernel
set_option maxRecDepth 20000 in
theorem dL_set_1 : decode cL_set 1 = .ok (.iload_n 1, 1) := by decide +kernel
set_option maxRecDepth 20000 in
theorem dL_set_2 : decode cL_set 2 = .ok (.iload_n 2, 1) := by decide +kernel
set_option maxRecDepth 20000 in
theorem dL_set_3 : decode cL_set 3 = .ok (.iload_n 3, 1) := by decide +kernel
set_option maxRecDepth 20000 in
theorem dL_set_4 : decode cL_set 4 = .ok (.iload 4, 2) := by decide +kernel
set_option maxRecDepth 20000 in
theorem dL_set_6 : decode cL_set 6 = .ok (.iload 5, 2) := by decide +kernel
set_option maxRecDepth 20000 in
theorem dL_set_8 : decode cL_set 8 = .ok (.invokevirtual 15, 3) := by decide +kernel
set_option maxRecDepth 20000 in
theorem dL_set_11 : decode cL_set 11 = .ok (.goto 7, 3) := by decide +kernel
set_option maxRecDepth 20000 in
theorem dL_set_14 : decode cL_set 14 = .ok (.astore 6, 2) := by decide +kernel
set_option maxRecDepth 20000 in
theorem dL_set_16 : decode cL_set 16 = .ok (.iconst 1, 1) := by decide +kernel
set_option maxRecDepth 20000 in
theorem dL_set_17 : decode cL_set 17 = .ok (.ireturn, 1) := by decide +kernel
set_option maxRecDepth 20000 in
theorem dL_set_18 : decode cL_set 18 = .ok (.iconst 0, 1) := by decide +kernel
set_option maxRecDepth 20000 in
theorem dL_set_19 : decode cL_set 19 = .ok (.ireturn, 1) := by decide +kernel
set_option maxRecDepth 20000 in
theorem dL_start_0 : decode cL_start 0 = .ok (.aload_n 0, 1) := by decide +kernel
set_option maxRecDepth 20000 in
theorem dL_start_1 : decode cL_start 1 = .ok (.invokevirtual 19, 3) := by decide +kernel
set_option maxRecDepth 20000 in
theorem dL_start_4 : decode cL_start 4 = .ok (.goto 6, 3) := by decide +kernel
set_option maxRecDepth 20000 in
theorem dL_start_7 : decode cL_start 7 = .ok (.astore_n 1, 1) := by decide +kernel
set_option maxRecDepth 20000 in
theorem dL_start_8 : decode cL_start 8 = .ok (.iconst 1, 1) := by decide +kernel
set_option maxRecDepth 20000 in
theorem dL_start_9 : decode cL_start 9 = .ok (.ireturn, 1) := by decide +kernel
set_option maxRecDepth 20000 in
theorem dL_start_10 : decode cL_start 10 = .ok (.iconst 0, 1) := by decide +kernel
set_option maxRecDepth 20000 in
theorem dL_start_11 : decode cL_start 11 = .ok (.ireturn, 1) := by decide +kernel
set_option maxRecDepth 20000 in
theorem dL_predict_0 : decode cL_predict 0 = .ok (.aload_n 1, 1) := by decide +kernel
set_option maxRecDepth 20000 in
theorem dL_predict_1 : decode cL_predict 1 = .ok (.iconst 0, 1) := by decide +kernel
set_option maxRecDepth 20000 in
theorem dL_predict_2 : decode cL_predict 2 = .ok (.aload_n 0, 1) := by decide +kernel
set_option maxRecDepth 20000 in
theorem dL_predict_3 : decode cL_predict 3 = .ok (.invokevirtual 24, 3) := by decide +kernel
set_option maxRecDepth 20000 in
theorem dL_predict_6 : decode cL_predict 6 = .ok (.i2l, 1) := by decide +kernel
set_option maxRecDepth 20000 in
theorem dL_predict_7 : decode cL_predict 7 = .ok (.lastore, 1) := by decide +kernel
set_option maxRecDepth 20000 in
theorem dL_predict_8 : decode cL_predict 8 = .ok (.goto 6, 3) := by decide +kernel
set_option maxRecDepth 20000 in
theorem dL_predict_11 : decode cL_predict 11 = .ok (.astore_n 2, 1) := by decide +kernel
set_option maxRecDepth 20000 in
theorem dL_predict_12 : decode cL_predict 12 = .ok (.iconst 1, 1) := by decide +kernel
set_option maxRecDepth 20000 in
theorem dL_predict_13 : decode cL_predict 13 = .ok (.ireturn, 1) := by decide +kernel
set_option maxRecDepth 20000 in
theorem dL_predict_14 : decode cL_predict 14 = .ok (.iconst 0, 1) := by decide +kernel
set_option maxRecDepth 20000 in
theorem dL_predict_15 : decode cL_predict 15 = .ok (.ireturn, 1) := by decide +kernel
set_option maxRecDepth 20000 in
theorem dL_measure_0 : decode cL_measure 0 = .ok (.aload_n 3, 1) := by decide +kernel
set_option maxRecDepth 20000 in
theorem dL_measure_1 : decode cL_measure 1 = .ok (.iconst 0, 1) := by decide +kernel
set_option maxRecDepth 20000 in
theorem dL_measure_2 : decode cL_measure 2 = .ok (.aload_n 0, 1) := by decide +kernel
set_option maxRecDepth 20000 in
theorem dL_measure_3 : decode cL_measure 3 = .ok (.iload_n 1, 1) := by decide +kernel
set_option maxRecDepth 20000 in
theorem dL_measure_4 : decode cL_measure 4 = .ok (.iload_n 2, 1) := by decide +kernel
set_option maxRecDepth 20000 in
theorem dL_measure_5 : decode cL_measure 5 = .ok (.invokevirtual 28, 3) := by decide +kernel
set_option maxRecDepth 20000 in
theorem dL_measure_8 : decode cL_measure 8 = .ok (.i2l, 1) := by decide +kernel
set_option maxRecDepth 20000 in
theorem dL_measure_9 : decode cL_measure 9 = .ok (.lastore, 1) := by decide +kernel
set_option maxRecDepth 20000 in
theorem dL_measure_10 : decode cL_measure 10 = .ok (.goto 15, 3) := by decide +kernel
set_option maxRecDepth 20000 in
theorem dL_measure_13 : decode cL_measure 13 = .ok (.astore 4, 2) := by decide +kernel
set_option maxRecDepth 20000 in
theorem dL_measure_15 : decode cL_measure 15 = .ok (.iconst 1, 1) := by decide +kernel
set_option maxRecDepth 20000 in
theorem dL_measure_16 : decode cL_measure 16 = .ok (.ireturn, 1) := by decide +kernel
set_option maxRecDepth 20000 in
theorem dL_measure_17 : decode cL_measure 17 = .ok (.astore 4, 2) := by decide +kernel
set_option maxRecDepth 20000 in
theorem dL_measure_19 : decode cL_measure 19 = .ok (.iconst 2, 1) := by decide +kernel
set_option maxRecDepth 20000 in
theorem dL_measure_20 : decode cL_measure 20 = .ok (.ireturn, 1) := by decide +kernel
set_option maxRecDepth 20000 in
theorem dL_measure_21 : decode cL_measure 21 = .ok (.astore 4, 2) := by decide +kernel
set_option maxRecDepth 20000 in
theorem dL_measure_23 : decode cL_measure 23 = .ok (.iconst 3, 1) := by decide +kernel
set_option maxRecDepth 20000 in
theorem dL_measure_24 : decode cL_measure 24 = .ok (.ireturn, 1) := by decide +kernel
set_option maxRecDepth 20000 in
theorem dL_measure_25 : decode cL_measure 25 = .ok (.iconst 0, 1) := by decide +kernel
set_option maxRecDepth 20000 in
theorem dL_measure_26 : decode cL_measure 26 = .ok (.ireturn, 1) := by decide +kernel
set_option maxRecDepth 20000 in
theorem dL_sign_0 : decode cL_sign 0 = .ok (.aload 4, 2) := by decide +kernel
set_option maxRecDepth 20000 in
theorem dL_sign_2 : decode cL_sign 2 = .ok (.iconst 0, 1) := by decide +kernel
set_option maxRecDepth 20000 in
theorem dL_sign_3 : decode cL_sign 3 = .ok (.aload_n 0, 1) := by decide +kernel
set_option maxRecDepth 20000 in
theorem dL_sign_4 : decode cL_sign 4 = .ok (.iload_n 1, 1) := by decide +kernel
set_option maxRecDepth 20000 in
theorem dL_sign_5 : decode cL_sign 5 = .ok (.iload_n 2, 1) := by decide +kernel
set_option maxRecDepth 20000 in
theorem dL_sign_6 : decode cL_sign 6 = .ok (.iload_n 3, 1) := by decide +kernel
set_option maxRecDepth 20000 in
theorem dL_sign_7 : decode cL_sign 7 = .ok (.invokevirtual 34, 3) := by decide +kernel
set_option maxRecDepth 20000 in
theorem dL_sign_10 : decode cL_sign 10 = .ok (.i2l, 1) := by decide +kernel
set_option maxRecDepth 20000 in
theorem dL_sign_11 : decode cL_sign 11 = .ok (.lastore, 1) := by decide +kernel
set_option maxRecDepth 20000 in
theorem dL_sign_12 : decode cL_sign 12 = .ok (.goto 11, 3) := by decide +kernel
set_option maxRecDepth 20000 in
theorem dL_sign_15 : decode cL_sign 15 = .ok (.astore 5, 2) := by decide +kernel
set_option maxRecDepth 20000 in
theorem dL_sign_17 : decode cL_sign 17 = .ok (.iconst 1, 1) := by decide +kernel
set_option maxRecDepth 20000 in
theorem dL_sign_18 : decode cL_sign 18 = .ok (.ireturn, 1) := by decide +kernel
set_option maxRecDepth 20000 in
theorem dL_sign_19 : decode cL_sign 19 = .ok (.astore 5, 2) := by decide +kernel
set_option maxRecDepth 20000 in
theorem dL_sign_21 : decode cL_sign 21 = .ok (.iconst 2, 1) := by decide +kernel
set_option maxRecDepth 20000 in
theorem dL_sign_22 : decode cL_sign 22 = .ok (.ireturn, 1) := by decide +kernel
set_option maxRecDepth 20000 in
theorem dL_sign_23 : decode cL_sign 23 = .ok (.iconst 0, 1) := by decide +kernel
set_option maxRecDepth 20000 in
theorem dL_sign_24 : decode cL_sign 24 = .ok (.ireturn, 1) := by decide +kernel
set_option maxRecDepth 20000 in
theorem dL_pieces_0 : decode cL_pieces 0 = .ok (.aload 5, 2) := by decide +kernel
set_option maxRecDepth 20000 in
theorem dL_pieces_2 : decode cL_pieces 2 = .ok (.iconst 0, 1) := by decide +kernel
set_option maxRecDepth 20000 in
theorem dL_pieces_3 : decode cL_pieces 3 = .ok (.aload_n 0, 1) := by decide +kernel
set_option maxRecDepth 20000 in
theorem dL_pieces_4 : decode cL_pieces 4 = .ok (.iload_n 1, 1) := by decide +kernel
set_option maxRecDepth 20000 in
theorem dL_pieces_5 : decode cL_pieces 5 = .ok (.iload_n 2, 1) := by decide +kernel
set_option maxRecDepth 20000 in
theorem dL_pieces_6 : decode cL_pieces 6 = .ok (.iload_n 3, 1) := by decide +kernel
set_option maxRecDepth 20000 in
theorem dL_pieces_7 : decode cL_pieces 7 = .ok (.iload 4, 2) := by decide +kernel
set_option maxRecDepth 20000 in
theorem dL_pieces_9 : decode cL_pieces 9 = .ok (.invokevirtual 38, 3) := by decide +kernel
set_option maxRecDepth 20000 in
theorem dL_pieces_12 : decode cL_pieces 12 = .ok (.i2l, 1) := by decide +kernel
set_option maxRecDepth 20000 in
theorem dL_pieces_13 : decode cL_pieces 13 = .ok (.lastore, 1) := by decide +kernel
set_option maxRecDepth 20000 in
theorem dL_pieces_14 : decode cL_pieces 14 = .ok (.goto 11, 3) := by decide +kernel
set_option maxRecDepth 20000 in
theorem dL_pieces_17 : decode cL_pieces 17 = .ok (.astore 6, 2) := by decide +kernel
set_option maxRecDepth 20000 in
theorem dL_pieces_19 : decode cL_pieces 19 = .ok (.iconst 1, 1) := by decide +kernel
set_option maxRecDepth 20000 in
theorem dL_pieces_20 : decode cL_pieces 20 = .ok (.ireturn, 1) := by decide +kernel
set_option maxRecDepth 20000 in
theorem dL_pieces_21 : decode cL_pieces 21 = .ok (.astore 6, 2) := by decide +kernel
set_option maxRecDepth 20000 in
theorem dL_pieces_23 : decode cL_pieces 23 = .ok (.iconst 2, 1) := by decide +kernel
set_option maxRecDepth 20000 in
theorem dL_pieces_24 : decode cL_pieces 24 = .ok (.ireturn, 1) := by decide +kernel
set_option maxRecDepth 20000 in
theorem dL_pieces_25 : decode cL_pieces 25 = .ok (.iconst 0, 1) := by decide +kernel
set_option maxRecDepth 20000 in
theorem dL_pieces_26 : decode cL_pieces 26 = .ok (.ireturn, 1) := by decide +kernel
set_option maxRecDepth 20000 in
theorem dL_piece_0 : decode cL_piece 0 = .ok (.aload 6, 2) := by decide +kernel
set_option maxRecDepth 20000 in
theorem dL_piece_2 : decode cL_piece 2 = .ok (.iconst 0, 1) := by decide +kernel
set_option maxRecDepth 20000 in
theorem dL_piece_3 : decode cL_piece 3 = .ok (.aload_n 0, 1) := by decide +kernel
set_option maxRecDepth 20000 in
theorem dL_piece_4 : decode cL_piece 4 = .ok (.iload_n 1, 1) := by decide +kernel
set_option maxRecDepth 20000 in
theorem dL_piece_5 : decode cL_piece 5 = .ok (.iload_n 2, 1) := by decide +kernel
set_option maxRecDepth 20000 in
theorem dL_piece_6 : decode cL_piece 6 = .ok (.iload_n 3, 1) := by decide +kernel
set_option maxRecDepth 20000 in
theorem dL_piece_7 : decode cL_piece 7 = .ok (.iload 4, 2) := by decide +kernel
set_option maxRecDepth 20000 in
theorem dL_piece_9 : decode cL_piece 9 = .ok (.iload 5, 2) := by decide +kernel
set_option maxRecDepth 20000 in
theorem dL_piece_11 : decode cL_piece 11 = .ok (.invokevirtual 42, 3) := by decide +kernel
set_option maxRecDepth 20000 in
theorem dL_piece_14 : decode cL_piece 14 = .ok (.i2l, 1) := by decide +kernel
set_option maxRecDepth 20000 in
theorem dL_piece_15 : decode cL_piece 15 = .ok (.lastore, 1) := by decide +kernel
set_option maxRecDepth 20000 in
theorem dL_piece_16 : decode cL_piece 16 = .ok (.goto 11, 3) := by decide +kernel
set_option maxRecDepth 20000 in
theorem dL_piece_19 : decode cL_piece 19 = .ok (.astore 7, 2) := by decide +kernel
set_option maxRecDepth 20000 in
theorem dL_piece_21 : decode cL_piece 21 = .ok (.iconst 1, 1) := by decide +kernel
set_option maxRecDepth 20000 in
theorem dL_piece_22 : decode cL_piece 22 = .ok (.ireturn, 1) := by decide +kernel
set_option maxRecDepth 20000 in
theorem dL_piece_23 : decode cL_piece 23 = .ok (.astore 7, 2) := by decide +kernel
set_option maxRecDepth 20000 in
theorem dL_piece_25 : decode cL_piece 25 = .ok (.iconst 2, 1) := by decide +kernel
set_option maxRecDepth 20000 in
theorem dL_piece_26 : decode cL_piece 26 = .ok (.ireturn, 1) := by decide +kernel
set_option maxRecDepth 20000 in
theorem dL_piece_27 : decode cL_piece 27 = .ok (.iconst 0, 1) := by decide +kernel
set_option maxRecDepth 20000 in
theorem dL_piece_28 : decode cL_piece 28 = .ok (.ireturn, 1) := by decide +kernel
set_option maxRecDepth 20000 in
theorem dL_scaled_0 : decode cL_scaled 0 = .ok (.aload 5, 2) := by decide +kernel
set_option maxRecDepth 20000 in
theorem dL_scaled_2 : decode cL_scaled 2 = .ok (.iconst 0, 1) := by decide +kernel
set_option maxRecDepth 20000 in
theorem dL_scaled_3 : decode cL_scaled 3 = .ok (.aload_n 0, 1) := by decide +kernel
set_option maxRecDepth 20000 in
theorem dL_scaled_4 : decode cL_scaled 4 = .ok (.iload_n 1, 1) := by decide +kernel
set_option maxRecDepth 20000 in
theorem dL_scaled_5 : decode cL_scaled 5 = .ok (.iload_n 2, 1) := by decide +kernel
set_option maxRecDepth 20000 in
theorem dL_scaled_6 : decode cL_scaled 6 = .ok (.iload_n 3, 1) := by decide +kernel
set_option maxRecDepth 20000 in
theorem dL_scaled_7 : decode cL_scaled 7 = .ok (.iload 4, 2) := by decide +kernel
set_option maxRecDepth 20000 in
theorem dL_scaled_9 : decode cL_scaled 9 = .ok (.invokevirtual 46, 3) := by decide +kernel
set_option maxRecDepth 20000 in
theorem dL_scaled_12 : decode cL_scaled 12 = .ok (.lastore, 1) := by decide +kernel
set_option maxRecDepth 20000 in
theorem dL_scaled_13 : decode cL_scaled 13 = .ok (.goto 11, 3) := by decide +kernel
set_option maxRecDepth 20000 in
theorem dL_scaled_16 : decode cL_scaled 16 = .ok (.astore 6, 2) := by decide +kernel
set_option maxRecDepth 20000 in
theorem dL_scaled_18 : decode cL_scaled 18 = .ok (.iconst 1, 1) := by decide +kernel
set_option maxRecDepth 20000 in
theorem dL_scaled_19 : decode cL_scaled 19 = .ok (.ireturn, 1) := by decide +kernel
set_option maxRecDepth 20000 in
theorem dL_scaled_20 : decode cL_scaled 20 = .ok (.astore 6, 2) := by decide +kernel
set_option maxRecDepth 20000 in
theorem dL_scaled_22 : decode cL_scaled 22 = .ok (.iconst 2, 1) := by decide +kernel
set_option maxRecDepth 20000 in
theorem dL_scaled_23 : decode cL_scaled 23 = .ok (.ireturn, 1) := by decide +kernel
set_option maxRecDepth 20000 in
theorem dL_scaled_24 : decode cL_scaled 24 = .ok (.iconst 0, 1) := by decide +kernel
set_option maxRecDepth 20000 in
theorem dL_scaled_25 : decode cL_scaled 25 = .ok (.ireturn, 1) := by decide +kernel
set_option maxRecDepth 20000 in
theorem dL_compare_0 : decode cL_compare 0 = .ok (.aload 6, 2) := by decide +kernel
set_option maxRecDepth 20000 in
theorem dL_compare_2 : decode cL_compare 2 = .ok (.iconst 0, 1) := by decide +kernel
set_option maxRecDepth 20000 in
theorem dL_compare_3 : decode cL_compare 3 = .ok (.aload_n 0, 1) := by decide +kernel
set_option maxRecDepth 20000 in
theorem dL_compare_4 : decode cL_compare 4 = .ok (.iload_n 1, 1) := by decide +kernel
set_option maxRecDepth 20000 in
theorem dL_compare_5 : decode cL_compare 5 = .ok (.iload_n 2, 1) := by decide +kernel
set_option maxRecDepth 20000 in
theorem dL_compare_6 : decode cL_compare 6 = .ok (.iload_n 3, 1) := by decide +kernel
set_option maxRecDepth 20000 in
theorem dL_compare_7 : decode cL_compare 7 = .ok (.iload 4, 2) := by decide +kernel
set_option maxRecDepth 20000 in
theorem dL_compare_9 : decode cL_compare 9 = .ok (.iload 5, 2) := by decide +kernel
set_option maxRecDepth 20000 in
theorem dL_compare_11 : decode cL_compare 11 = .ok (.invokevirtual 50, 3) := by decide +kernel
set_option maxRecDepth 20000 in
theorem dL_compare_14 : decode cL_compare 14 = .ok (.i2l, 1) := by decide +kernel
set_option maxRecDepth 20000 in
theorem dL_compare_15 : decode cL_compare 15 = .ok (.lastore, 1) := by decide +kernel
set_option maxRecDepth 20000 in
theorem dL_compare_16 : decode cL_compare 16 = .ok (.goto 11, 3) := by decide +kernel
set_option maxRecDepth 20000 in
theorem dL_compare_19 : decode cL_compare 19 = .ok (.astore 7, 2) := by decide +kernel
set_option maxRecDepth 20000 in
theorem dL_compare_21 : decode cL_compare 21 = .ok (.iconst 1, 1) := by decide +kernel
set_option maxRecDepth 20000 in
theorem dL_compare_22 : decode cL_compare 22 = .ok (.ireturn, 1) := by decide +kernel
set_option maxRecDepth 20000 in
theorem dL_compare_23 : decode cL_compare 23 = .ok (.astore 7, 2) := by decide +kernel
set_option maxRecDepth 20000 in
theorem dL_compare_25 : decode cL_compare 25 = .ok (.iconst 2, 1) := by decide +kernel
set_option maxRecDepth 20000 in
theorem dL_compare_26 : decode cL_compare 26 = .ok (.ireturn, 1) := by decide +kernel
set_option maxRecDepth 20000 in
theorem dL_compare_27 : decode cL_compare 27 = .ok (.iconst 0, 1) := by decide +kernel
set_option maxRecDepth 20000 in
theorem dL_compare_28 : decode cL_compare 28 = .ok (.ireturn, 1) := by decide +kernel
set_option maxRecDepth 20000 in
theorem dL_law_0 : decode cL_law 0 = .ok (.new 8, 3) := by decide +kernel
set_option maxRecDepth 20000 in
theorem dL_law_3 : decode cL_law 3 = .ok (.dup, 1) := by decide +kernel
set_option maxRecDepth 20000 in
theorem dL_law_4 : decode cL_law 4 = .ok (.invokespecial 53, 3) := by decide +kernel
set_option maxRecDepth 20000 in
theorem dL_law_7 : decode cL_law 7 = .ok (.astore_n 1, 1) := by decide +kernel
set_option maxRecDepth 20000 in
theorem dL_law_8 : decode cL_law 8 = .ok (.new 54, 3) := by decide +kernel
set_option maxRecDepth 20000 in
theorem dL_law_11 : decode cL_law 11 = .ok (.dup, 1) := by decide +kernel
set_option maxRecDepth 20000 in
theorem dL_law_12 : decode cL_law 12 = .ok (.invokespecial 56, 3) := by decide +kernel
set_option maxRecDepth 20000 in
theorem dL_law_15 : decode cL_law 15 = .ok (.astore_n 2, 1) := by decide +kernel
set_option maxRecDepth 20000 in
theorem dL_law_16 : decode cL_law 16 = .ok (.iconst 1, 1) := by decide +kernel
set_option maxRecDepth 20000 in
theorem dL_law_17 : decode cL_law 17 = .ok (.newarray .long, 2) := by decide +kernel
set_option maxRecDepth 20000 in
theorem dL_law_19 : decode cL_law 19 = .ok (.astore_n 3, 1) := by decide +kernel
set_option maxRecDepth 20000 in
theorem dL_law_20 : decode cL_law 20 = .ok (.iconst 0, 1) := by decide +kernel
set_option maxRecDepth 20000 in
theorem dL_law_21 : decode cL_law 21 = .ok (.istore 4, 2) := by decide +kernel
set_option maxRecDepth 20000 in
theorem dL_law_23 : decode cL_law 23 = .ok (.iload 4, 2) := by decide +kernel
set_option maxRecDepth 20000 in
theorem dL_law_25 : decode cL_law 25 = .ok (.aload_n 0, 1) := by decide +kernel
set_option maxRecDepth 20000 in
theorem dL_law_26 : decode cL_law 26 = .ok (.arraylength, 1) := by decide +kernel
set_option maxRecDepth 20000 in
theorem dL_law_27 : decode cL_law 27 = .ok (.bipush 6, 2) := by decide +kernel
set_option maxRecDepth 20000 in
theorem dL_law_29 : decode cL_law 29 = .ok (.isub, 1) := by decide +kernel
set_option maxRecDepth 20000 in
theorem dL_law_30 : decode cL_law 30 = .ok (.if_icmp .gt 828, 3) := by decide +kernel
set_option maxRecDepth 20000 in
theorem dL_law_33 : decode cL_law 33 = .ok (.aload_n 0, 1) := by decide +kernel
set_option maxRecDepth 20000 in
theorem dL_law_34 : decode cL_law 34 = .ok (.iload 4, 2) := by decide +kernel
set_option maxRecDepth 20000 in
theorem dL_law_36 : decode cL_law 36 = .ok (.iaload, 1) := by decide +kernel
set_option maxRecDepth 20000 in
theorem dL_law_37 : decode cL_law 37 = .ok (.bipush 15, 2) := by decide +kernel
set_option maxRecDepth 20000 in
theorem dL_law_39 : decode cL_law 39 = .ok (.iand, 1) := by decide +kernel
set_option maxRecDepth 20000 in
theorem dL_law_40 : decode cL_law 40 = .ok (.tableswitch 812 0 10 #[60, 96, 180, 204, 248, 316, 396, 488, 592, 683, 787], 60) := by decide +kernel
set_option maxRecDepth 20000 in
theorem dL_law_100 : decode cL_law 100 = .ok (.aload_n 1, 1) := by decide +kernel
set_option maxRecDepth 20000 in
theorem dL_law_101 : decode cL_law 101 = .ok (.aload_n 0, 1) := by decide +kernel
set_option maxRecDepth 20000 in
theorem dL_law_102 : decode cL_law 102 = .ok (.iload 4, 2) := by decide +kernel
set_option maxRecDepth 20000 in
theorem dL_law_104 : decode cL_law 104 = .ok (.iconst 1, 1) := by decide +kernel
set_option maxRecDepth 20000 in
theorem dL_law_105 : decode cL_law 105 = .ok (.iadd, 1) := by decide +kernel
set_option maxRecDepth 20000 in
theorem dL_law_106 : decode cL_law 106 = .ok (.iaload, 1) := by decide +kernel
set_option maxRecDepth 20000 in
theorem dL_law_107 : decode cL_law 107 = .ok (.invokestatic 57, 3) := by decide +kernel
set_option maxRecDepth 20000 in
theorem dL_law_110 : decode cL_law 110 = .ok (.istore 5, 2) := by decide +kernel
set_option maxRecDepth 20000 in
theorem dL_law_112 : decode cL_law 112 = .ok (.aload_n 2, 1) := by decide +kernel
set_option maxRecDepth 20000 in
theorem dL_law_113 : decode cL_law 113 = .ok (.aload_n 0, 1) := by decide +kernel
set_option maxRecDepth 20000 in
theorem dL_law_114 : decode cL_law 114 = .ok (.iload 4, 2) := by decide +kernel
set_option maxRecDepth 20000 in
theorem dL_law_116 : decode cL_law 116 = .ok (.iconst 1, 1) := by decide +kernel
set_option maxRecDepth 20000 in
theorem dL_law_117 : decode cL_law 117 = .ok (.iadd, 1) := by decide +kernel
set_option maxRecDepth 20000 in
theorem dL_law_118 : decode cL_law 118 = .ok (.iaload, 1) := by decide +kernel
set_option maxRecDepth 20000 in
theorem dL_law_119 : decode cL_law 119 = .ok (.invokevirtual 62, 3) := by decide +kernel
set_option maxRecDepth 20000 in
theorem dL_law_122 : decode cL_law 122 = .ok (.aload_n 2, 1) := by decide +kernel
set_option maxRecDepth 20000 in
theorem dL_law_123 : decode cL_law 123 = .ok (.invokevirtual 63, 3) := by decide +kernel
set_option maxRecDepth 20000 in
theorem dL_law_126 : decode cL_law 126 = .ok (.iload 5, 2) := by decide +kernel
set_option maxRecDepth 20000 in
theorem dL_law_128 : decode cL_law 128 = .ok (.if_icmp .eq 5, 3) := by decide +kernel
set_option maxRecDepth 20000 in
theorem dL_law_131 : decode cL_law 131 = .ok (.iconst 0, 1) := by decide +kernel
set_option maxRecDepth 20000 in
theorem dL_law_132 : decode cL_law 132 = .ok (.ireturn, 1) := by decide +kernel
set_option maxRecDepth 20000 in
theorem dL_law_133 : decode cL_law 133 = .ok (.goto 719, 3) := by decide +kernel
set_option maxRecDepth 20000 in
theorem dL_law_136 : decode cL_law 136 = .ok (.aload_n 1, 1) := by decide +kernel
set_option maxRecDepth 20000 in
theorem dL_law_137 : decode cL_law 137 = .ok (.aload_n 0, 1) := by decide +kernel
set_option maxRecDepth 20000 in
theorem dL_law_138 : decode cL_law 138 = .ok (.iload 4, 2) := by decide +kernel
set_option maxRecDepth 20000 in
theorem dL_law_140 : decode cL_law 140 = .ok (.iconst 1, 1) := by decide +kernel
set_option maxRecDepth 20000 in
theorem dL_law_141 : decode cL_law 141 = .ok (.iadd, 1) := by decide +kernel
set_option maxRecDepth 20000 in
theorem dL_law_142 : decode cL_law 142 = .ok (.iaload, 1) := by decide +kernel
set_option maxRecDepth 20000 in
theorem dL_law_143 : decode cL_law 143 = .ok (.aload_n 0, 1) := by decide +kernel
set_option maxRecDepth 20000 in
theorem dL_law_144 : decode cL_law 144 = .ok (.iload 4, 2) := by decide +kernel
set_option maxRecDepth 20000 in
theorem dL_law_146 : decode cL_law 146 = .ok (.iconst 2, 1) := by decide +kernel
set_option maxRecDepth 20000 in
theorem dL_law_147 : decode cL_law 147 = .ok (.iadd, 1) := by decide +kernel
set_option maxRecDepth 20000 in
theorem dL_law_148 : decode cL_law 148 = .ok (.iaload, 1) := by decide +kernel
set_option maxRecDepth 20000 in
theorem dL_law_149 : decode cL_law 149 = .ok (.aload_n 0, 1) := by decide +kernel
set_option maxRecDepth 20000 in
theorem dL_law_150 : decode cL_law 150 = .ok (.iload 4, 2) := by decide +kernel
set_option maxRecDepth 20000 in
theorem dL_law_152 : decode cL_law 152 = .ok (.iconst 3, 1) := by decide +kernel
set_option maxRecDepth 20000 in
theorem dL_law_153 : decode cL_law 153 = .ok (.iadd, 1) := by decide +kernel
set_option maxRecDepth 20000 in
theorem dL_law_154 : decode cL_law 154 = .ok (.iaload, 1) := by decide +kernel
set_option maxRecDepth 20000 in
theorem dL_law_155 : decode cL_law 155 = .ok (.aload_n 0, 1) := by decide +kernel
set_option maxRecDepth 20000 in
theorem dL_law_156 : decode cL_law 156 = .ok (.iload 4, 2) := by decide +kernel
set_option maxRecDepth 20000 in
theorem dL_law_158 : decode cL_law 158 = .ok (.iconst 4, 1) := by decide +kernel
set_option maxRecDepth 20000 in
theorem dL_law_159 : decode cL_law 159 = .ok (.iadd, 1) := by decide +kernel
set_option maxRecDepth 20000 in
theorem dL_law_160 : decode cL_law 160 = .ok (.iaload, 1) := by decide +kernel
set_option maxRecDepth 20000 in
theorem dL_law_161 : decode cL_law 161 = .ok (.aload_n 0, 1) := by decide +kernel
set_option maxRecDepth 20000 in
theorem dL_law_162 : decode cL_law 162 = .ok (.iload 4, 2) := by decide +kernel
set_option maxRecDepth 20000 in
theorem dL_law_164 : decode cL_law 164 = .ok (.iconst 5, 1) := by decide +kernel
set_option maxRecDepth 20000 in
theorem dL_law_165 : decode cL_law 165 = .ok (.iadd, 1) := by decide +kernel
set_option maxRecDepth 20000 in
theorem dL_law_166 : decode cL_law 166 = .ok (.iaload, 1) := by decide +kernel
set_option maxRecDepth 20000 in
theorem dL_law_167 : decode cL_law 167 = .ok (.invokestatic 66, 3) := by decide +kernel
set_option maxRecDepth 20000 in
theorem dL_law_170 : decode cL_law 170 = .ok (.istore 5, 2) := by decide +kernel
set_option maxRecDepth 20000 in
theorem dL_law_172 : decode cL_law 172 = .ok (.aload_n 2, 1) := by decide +kernel
set_option maxRecDepth 20000 in
theorem dL_law_173 : decode cL_law 173 = .ok (.aload_n 0, 1) := by decide +kernel
set_option maxRecDepth 20000 in
theorem dL_law_174 : decode cL_law 174 = .ok (.iload 4, 2) := by decide +kernel
set_option maxRecDepth 20000 in
theorem dL_law_176 : decode cL_law 176 = .ok (.iconst 1, 1) := by decide +kernel
set_option maxRecDepth 20000 in
theorem dL_law_177 : decode cL_law 177 = .ok (.iadd, 1) := by decide +kernel
set_option maxRecDepth 20000 in
theorem dL_law_178 : decode cL_law 178 = .ok (.iaload, 1) := by decide +kernel
set_option maxRecDepth 20000 in
theorem dL_law_179 : decode cL_law 179 = .ok (.aload_n 0, 1) := by decide +kernel
set_option maxRecDepth 20000 in
theorem dL_law_180 : decode cL_law 180 = .ok (.iload 4, 2) := by decide +kernel
set_option maxRecDepth 20000 in
theorem dL_law_182 : decode cL_law 182 = .ok (.iconst 2, 1) := by decide +kernel
set_option maxRecDepth 20000 in
theorem dL_law_183 : decode cL_law 183 = .ok (.iadd, 1) := by decide +kernel
set_option maxRecDepth 20000 in
theorem dL_law_184 : decode cL_law 184 = .ok (.iaload, 1) := by decide +kernel
set_option maxRecDepth 20000 in
theorem dL_law_185 : decode cL_law 185 = .ok (.aload_n 0, 1) := by decide +kernel
set_option maxRecDepth 20000 in
theorem dL_law_186 : decode cL_law 186 = .ok (.iload 4, 2) := by decide +kernel
set_option maxRecDepth 20000 in
theorem dL_law_188 : decode cL_law 188 = .ok (.iconst 3, 1) := by decide +kernel
set_option maxRecDepth 20000 in
theorem dL_law_189 : decode cL_law 189 = .ok (.iadd, 1) := by decide +kernel
set_option maxRecDepth 20000 in
theorem dL_law_190 : decode cL_law 190 = .ok (.iaload, 1) := by decide +kernel
set_option maxRecDepth 20000 in
theorem dL_law_191 : decode cL_law 191 = .ok (.aload_n 0, 1) := by decide +kernel
set_option maxRecDepth 20000 in
theorem dL_law_192 : decode cL_law 192 = .ok (.iload 4, 2) := by decide +kernel
set_option maxRecDepth 20000 in
theorem dL_law_194 : decode cL_law 194 = .ok (.iconst 4, 1) := by decide +kernel
set_option maxRecDepth 20000 in
theorem dL_law_195 : decode cL_law 195 = .ok (.iadd, 1) := by decide +kernel
set_option maxRecDepth 20000 in
theorem dL_law_196 : decode cL_law 196 = .ok (.iaload, 1) := by decide +kernel
set_option maxRecDepth 20000 in
theorem dL_law_197 : decode cL_law 197 = .ok (.aload_n 0, 1) := by decide +kernel
set_option maxRecDepth 20000 in
theorem dL_law_198 : decode cL_law 198 = .ok (.iload 4, 2) := by decide +kernel
set_option maxRecDepth 20000 in
theorem dL_law_200 : decode cL_law 200 = .ok (.iconst 5, 1) := by decide +kernel
set_option maxRecDepth 20000 in
theorem dL_law_201 : decode cL_law 201 = .ok (.iadd, 1) := by decide +kernel
set_option maxRecDepth 20000 in
theorem dL_law_202 : decode cL_law 202 = .ok (.iaload, 1) := by decide +kernel
set_option maxRecDepth 20000 in
theorem dL_law_203 : decode cL_law 203 = .ok (.invokevirtual 69, 3) := by decide +kernel
set_option maxRecDepth 20000 in
theorem dL_law_206 : decode cL_law 206 = .ok (.aload_n 2, 1) := by decide +kernel
set_option maxRecDepth 20000 in
theorem dL_law_207 : decode cL_law 207 = .ok (.invokevirtual 63, 3) := by decide +kernel
set_option maxRecDepth 20000 in
theorem dL_law_210 : decode cL_law 210 = .ok (.iload 5, 2) := by decide +kernel
set_option maxRecDepth 20000 in
theorem dL_law_212 : decode cL_law 212 = .ok (.if_icmp .eq 5, 3) := by decide +kernel
set_option maxRecDepth 20000 in
theorem dL_law_215 : decode cL_law 215 = .ok (.iconst 0, 1) := by decide +kernel
set_option maxRecDepth 20000 in
theorem dL_law_216 : decode cL_law 216 = .ok (.ireturn, 1) := by decide +kernel
set_option maxRecDepth 20000 in
theorem dL_law_217 : decode cL_law 217 = .ok (.goto 635, 3) := by decide +kernel
set_option maxRecDepth 20000 in
theorem dL_law_220 : decode cL_law 220 = .ok (.aload_n 1, 1) := by decide +kernel
set_option maxRecDepth 20000 in
theorem dL_law_221 : decode cL_law 221 = .ok (.invokestatic 70, 3) := by decide +kernel
set_option maxRecDepth 20000 in
theorem dL_law_224 : decode cL_law 224 = .ok (.istore 5, 2) := by decide +kernel
set_option maxRecDepth 20000 in
theorem dL_law_226 : decode cL_law 226 = .ok (.aload_n 2, 1) := by decide +kernel
set_option maxRecDepth 20000 in
theorem dL_law_227 : decode cL_law 227 = .ok (.invokevirtual 73, 3) := by decide +kernel
set_option maxRecDepth 20000 in
theorem dL_law_230 : decode cL_law 230 = .ok (.aload_n 2, 1) := by decide +kernel
set_option maxRecDepth 20000 in
theorem dL_law_231 : decode cL_law 231 = .ok (.invokevirtual 63, 3) := by decide +kernel
set_option maxRecDepth 20000 in
theorem dL_law_234 : decode cL_law 234 = .ok (.iload 5, 2) := by decide +kernel
set_option maxRecDepth 20000 in
theorem dL_law_236 : decode cL_law 236 = .ok (.if_icmp .eq 5, 3) := by decide +kernel
set_option maxRecDepth 20000 in
theorem dL_law_239 : decode cL_law 239 = .ok (.iconst 0, 1) := by decide +kernel
set_option maxRecDepth 20000 in
theorem dL_law_240 : decode cL_law 240 = .ok (.ireturn, 1) := by decide +kernel
set_option maxRecDepth 20000 in
theorem dL_law_241 : decode cL_law 241 = .ok (.goto 611, 3) := by decide +kernel
set_option maxRecDepth 20000 in
theorem dL_law_244 : decode cL_law 244 = .ok (.aload_n 1, 1) := by decide +kernel
set_option maxRecDepth 20000 in
theorem dL_law_245 : decode cL_law 245 = .ok (.aload_n 3, 1) := by decide +kernel
set_option maxRecDepth 20000 in
theorem dL_law_246 : decode cL_law 246 = .ok (.invokestatic 74, 3) := by decide +kernel
set_option maxRecDepth 20000 in
theorem dL_law_249 : decode cL_law 249 = .ok (.istore 5, 2) := by decide +kernel
set_option maxRecDepth 20000 in
theorem dL_law_251 : decode cL_law 251 = .ok (.aload_n 2, 1) := by decide +kernel
set_option maxRecDepth 20000 in
theorem dL_law_252 : decode cL_law 252 = .ok (.invokevirtual 77, 3) := by decide +kernel
set_option maxRecDepth 20000 in
theorem dL_law_255 : decode cL_law 255 = .ok (.istore 6, 2) := by decide +kernel
set_option maxRecDepth 20000 in
theorem dL_law_257 : decode cL_law 257 = .ok (.aload_n 2, 1) := by decide +kernel
set_option maxRecDepth 20000 in
theorem dL_law_258 : decode cL_law 258 = .ok (.invokevirtual 63, 3) := by decide +kernel
set_option maxRecDepth 20000 in
theorem dL_law_261 : decode cL_law 261 = .ok (.iload 5, 2) := by decide +kernel
set_option maxRecDepth 20000 in
theorem dL_law_263 : decode cL_law 263 = .ok (.if_icmp .eq 5, 3) := by decide +kernel
set_option maxRecDepth 20000 in
theorem dL_law_266 : decode cL_law 266 = .ok (.iconst 0, 1) := by decide +kernel
set_option maxRecDepth 20000 in
theorem dL_law_267 : decode cL_law 267 = .ok (.ireturn, 1) := by decide +kernel
set_option maxRecDepth 20000 in
theorem dL_law_268 : decode cL_law 268 = .ok (.iload 5, 2) := by decide +kernel
set_option maxRecDepth 20000 in
theorem dL_law_270 : decode cL_law 270 = .ok (.ifCond .ne 15, 3) := by decide +kernel
set_option maxRecDepth 20000 in
theorem dL_law_273 : decode cL_law 273 = .ok (.aload_n 3, 1) := by decide +kernel
set_option maxRecDepth 20000 in
theorem dL_law_274 : decode cL_law 274 = .ok (.iconst 0, 1) := by decide +kernel
set_option maxRecDepth 20000 in
theorem dL_law_275 : decode cL_law 275 = .ok (.laload, 1) := by decide +kernel
set_option maxRecDepth 20000 in
theorem dL_law_276 : decode cL_law 276 = .ok (.iload 6, 2) := by decide +kernel
set_option maxRecDepth 20000 in
theorem dL_law_278 : decode cL_law 278 = .ok (.i2l, 1) := by decide +kernel
set_option maxRecDepth 20000 in
theorem dL_law_279 : decode cL_law 279 = .ok (.lcmp, 1) := by decide +kernel
set_option maxRecDepth 20000 in
theorem dL_law_280 : decode cL_law 280 = .ok (.ifCond .eq 5, 3) := by decide +kernel
set_option maxRecDepth 20000 in
theorem dL_law_283 : decode cL_law 283 = .ok (.iconst 0, 1) := by decide +kernel
set_option maxRecDepth 20000 in
theorem dL_law_284 : decode cL_law 284 = .ok (.ireturn, 1) := by decide +kernel
set_option maxRecDepth 20000 in
theorem dL_law_285 : decode cL_law 285 = .ok (.goto 567, 3) := by decide +kernel
set_option maxRecDepth 20000 in
theorem dL_law_288 : decode cL_law 288 = .ok (.aload_n 1, 1) := by decide +kernel
set_option maxRecDepth 20000 in
theorem dL_law_289 : decode cL_law 289 = .ok (.aload_n 0, 1) := by decide +kernel
set_option maxRecDepth 20000 in
theorem dL_law_290 : decode cL_law 290 = .ok (.iload 4, 2) := by decide +kernel
set_option maxRecDepth 20000 in
theorem dL_law_292 : decode cL_law 292 = .ok (.iconst 1, 1) := by decide +kernel
set_option maxRecDepth 20000 in
theorem dL_law_293 : decode cL_law 293 = .ok (.iadd, 1) := by decide +kernel
set_option maxRecDepth 20000 in
theorem dL_law_294 : decode cL_law 294 = .ok (.iaload, 1) := by decide +kernel
set_option maxRecDepth 20000 in
theorem dL_law_295 : decode cL_law 295 = .ok (.aload_n 0, 1) := by decide +kernel
set_option maxRecDepth 20000 in
theorem dL_law_296 : decode cL_law 296 = .ok (.iload 4, 2) := by decide +kernel
set_option maxRecDepth 20000 in
theorem dL_law_298 : decode cL_law 298 = .ok (.iconst 2, 1) := by decide +kernel
set_option maxRecDepth 20000 in
theorem dL_law_299 : decode cL_law 299 = .ok (.iadd, 1) := by decide +kernel
set_option maxRecDepth 20000 in
theorem dL_law_300 : decode cL_law 300 = .ok (.iaload, 1) := by decide +kernel
set_option maxRecDepth 20000 in
theorem dL_law_301 : decode cL_law 301 = .ok (.aload_n 3, 1) := by decide +kernel
set_option maxRecDepth 20000 in
theorem dL_law_302 : decode cL_law 302 = .ok (.invokestatic 78, 3) := by decide +kernel
set_option maxRecDepth 20000 in
theorem dL_law_305 : decode cL_law 305 = .ok (.istore 5, 2) := by decide +kernel
set_option maxRecDepth 20000 in
theorem dL_law_307 : decode cL_law 307 = .ok (.aload_n 2, 1) := by decide +kernel
set_option maxRecDepth 20000 in
theorem dL_law_308 : decode cL_law 308 = .ok (.aload_n 0, 1) := by decide +kernel
set_option maxRecDepth 20000 in
theorem dL_law_309 : decode cL_law 309 = .ok (.iload 4, 2) := by decide +kernel
set_option maxRecDepth 20000 in
theorem dL_law_311 : decode cL_law 311 = .ok (.iconst 1, 1) := by decide +kernel
set_option maxRecDepth 20000 in
theorem dL_law_312 : decode cL_law 312 = .ok (.iadd, 1) := by decide +kernel
set_option maxRecDepth 20000 in
theorem dL_law_313 : decode cL_law 313 = .ok (.iaload, 1) := by decide +kernel
set_option maxRecDepth 20000 in
theorem dL_law_314 : decode cL_law 314 = .ok (.aload_n 0, 1) := by decide +kernel
set_option maxRecDepth 20000 in
theorem dL_law_315 : decode cL_law 315 = .ok (.iload 4, 2) := by decide +kernel
set_option maxRecDepth 20000 in
theorem dL_law_317 : decode cL_law 317 = .ok (.iconst 2, 1) := by decide +kernel
set_option maxRecDepth 20000 in
theorem dL_law_318 : decode cL_law 318 = .ok (.iadd, 1) := by decide +kernel
set_option maxRecDepth 20000 in
theorem dL_law_319 : decode cL_law 319 = .ok (.iaload, 1) := by decide +kernel
set_option maxRecDepth 20000 in
theorem dL_law_320 : decode cL_law 320 = .ok (.invokevirtual 81, 3) := by decide +kernel
set_option maxRecDepth 20000 in
theorem dL_law_323 : decode cL_law 323 = .ok (.istore 6, 2) := by decide +kernel
set_option maxRecDepth 20000 in
theorem dL_law_325 : decode cL_law 325 = .ok (.aload_n 2, 1) := by decide +kernel
set_option maxRecDepth 20000 in
theorem dL_law_326 : decode cL_law 326 = .ok (.invokevirtual 63, 3) := by decide +kernel
set_option maxRecDepth 20000 in
theorem dL_law_329 : decode cL_law 329 = .ok (.iload 5, 2) := by decide +kernel
set_option maxRecDepth 20000 in
theorem dL_law_331 : decode cL_law 331 = .ok (.if_icmp .eq 5, 3) := by decide +kernel
set_option maxRecDepth 20000 in
theorem dL_law_334 : decode cL_law 334 = .ok (.iconst 0, 1) := by decide +kernel
set_option maxRecDepth 20000 in
theorem dL_law_335 : decode cL_law 335 = .ok (.ireturn, 1) := by decide +kernel
set_option maxRecDepth 20000 in
theorem dL_law_336 : decode cL_law 336 = .ok (.iload 5, 2) := by decide +kernel
set_option maxRecDepth 20000 in
theorem dL_law_338 : decode cL_law 338 = .ok (.ifCond .ne 15, 3) := by decide +kernel
set_option maxRecDepth 20000 in
theorem dL_law_341 : decode cL_law 341 = .ok (.aload_n 3, 1) := by decide +kernel
set_option maxRecDepth 20000 in
theorem dL_law_342 : decode cL_law 342 = .ok (.iconst 0, 1) := by decide +kernel
set_option maxRecDepth 20000 in
theorem dL_law_343 : decode cL_law 343 = .ok (.laload, 1) := by decide +kernel
set_option maxRecDepth 20000 in
theorem dL_law_344 : decode cL_law 344 = .ok (.iload 6, 2) := by decide +kernel
set_option maxRecDepth 20000 in
theorem dL_law_346 : decode cL_law 346 = .ok (.i2l, 1) := by decide +kernel
set_option maxRecDepth 20000 in
theorem dL_law_347 : decode cL_law 347 = .ok (.lcmp, 1) := by decide +kernel
set_option maxRecDepth 20000 in
theorem dL_law_348 : decode cL_law 348 = .ok (.ifCond .eq 5, 3) := by decide +kernel
set_option maxRecDepth 20000 in
theorem dL_law_351 : decode cL_law 351 = .ok (.iconst 0, 1) := by decide +kernel
set_option maxRecDepth 20000 in
theorem dL_law_352 : decode cL_law 352 = .ok (.ireturn, 1) := by decide +kernel
set_option maxRecDepth 20000 in
theorem dL_law_353 : decode cL_law 353 = .ok (.goto 499, 3) := by decide +kernel
set_option maxRecDepth 20000 in
theorem dL_law_356 : decode cL_law 356 = .ok (.aload_n 1, 1) := by decide +kernel
set_option maxRecDepth 20000 in
theorem dL_law_357 : decode cL_law 357 = .ok (.aload_n 0, 1) := by decide +kernel
set_option maxRecDepth 20000 in
theorem dL_law_358 : decode cL_law 358 = .ok (.iload 4, 2) := by decide +kernel
set_option maxRecDepth 20000 in
theorem dL_law_360 : decode cL_law 360 = .ok (.iconst 1, 1) := by decide +kernel
set_option maxRecDepth 20000 in
theorem dL_law_361 : decode cL_law 361 = .ok (.iadd, 1) := by decide +kernel
set_option maxRecDepth 20000 in
theorem dL_law_362 : decode cL_law 362 = .ok (.iaload, 1) := by decide +kernel
set_option maxRecDepth 20000 in
theorem dL_law_363 : decode cL_law 363 = .ok (.aload_n 0, 1) := by decide +kernel
set_option maxRecDepth 20000 in
theorem dL_law_364 : decode cL_law 364 = .ok (.iload 4, 2) := by decide +kernel
set_option maxRecDepth 20000 in
theorem dL_law_366 : decode cL_law 366 = .ok (.iconst 2, 1) := by decide +kernel
set_option maxRecDepth 20000 in
theorem dL_law_367 : decode cL_law 367 = .ok (.iadd, 1) := by decide +kernel
set_option maxRecDepth 20000 in
theorem dL_law_368 : decode cL_law 368 = .ok (.iaload, 1) := by decide +kernel
set_option maxRecDepth 20000 in
theorem dL_law_369 : decode cL_law 369 = .ok (.aload_n 0, 1) := by decide +kernel
set_option maxRecDepth 20000 in
theorem dL_law_370 : decode cL_law 370 = .ok (.iload 4, 2) := by decide +kernel
set_option maxRecDepth 20000 in
theorem dL_law_372 : decode cL_law 372 = .ok (.iconst 3, 1) := by decide +kernel
set_option maxRecDepth 20000 in
theorem dL_law_373 : decode cL_law 373 = .ok (.iadd, 1) := by decide +kernel
set_option maxRecDepth 20000 in
theorem dL_law_374 : decode cL_law 374 = .ok (.iaload, 1) := by decide +kernel
set_option maxRecDepth 20000 in
theorem dL_law_375 : decode cL_law 375 = .ok (.aload_n 3, 1) := by decide +kernel
set_option maxRecDepth 20000 in
theorem dL_law_376 : decode cL_law 376 = .ok (.invokestatic 82, 3) := by decide +kernel
set_option maxRecDepth 20000 in
theorem dL_law_379 : decode cL_law 379 = .ok (.istore 5, 2) := by decide +kernel
set_option maxRecDepth 20000 in
theorem dL_law_381 : decode cL_law 381 = .ok (.aload_n 2, 1) := by decide +kernel
set_option maxRecDepth 20000 in
theorem dL_law_382 : decode cL_law 382 = .ok (.aload_n 0, 1) := by decide +kernel
set_option maxRecDepth 20000 in
theorem dL_law_383 : decode cL_law 383 = .ok (.iload 4, 2) := by decide +kernel
set_option maxRecDepth 20000 in
theorem dL_law_385 : decode cL_law 385 = .ok (.iconst 1, 1) := by decide +kernel
set_option maxRecDepth 20000 in
theorem dL_law_386 : decode cL_law 386 = .ok (.iadd, 1) := by decide +kernel
set_option maxRecDepth 20000 in
theorem dL_law_387 : decode cL_law 387 = .ok (.iaload, 1) := by decide +kernel
set_option maxRecDepth 20000 in
theorem dL_law_388 : decode cL_law 388 = .ok (.aload_n 0, 1) := by decide +kernel
set_option maxRecDepth 20000 in
theorem dL_law_389 : decode cL_law 389 = .ok (.iload 4, 2) := by decide +kernel
set_option maxRecDepth 20000 in
theorem dL_law_391 : decode cL_law 391 = .ok (.iconst 2, 1) := by decide +kernel
set_option maxRecDepth 20000 in
theorem dL_law_392 : decode cL_law 392 = .ok (.iadd, 1) := by decide +kernel
set_option maxRecDepth 20000 in
theorem dL_law_393 : decode cL_law 393 = .ok (.iaload, 1) := by decide +kernel
set_option maxRecDepth 20000 in
theorem dL_law_394 : decode cL_law 394 = .ok (.aload_n 0, 1) := by decide +kernel
set_option maxRecDepth 20000 in
theorem dL_law_395 : decode cL_law 395 = .ok (.iload 4, 2) := by decide +kernel
set_option maxRecDepth 20000 in
theorem dL_law_397 : decode cL_law 397 = .ok (.iconst 3, 1) := by decide +kernel
set_option maxRecDepth 20000 in
theorem dL_law_398 : decode cL_law 398 = .ok (.iadd, 1) := by decide +kernel
set_option maxRecDepth 20000 in
theorem dL_law_399 : decode cL_law 399 = .ok (.iaload, 1) := by decide +kernel
set_option maxRecDepth 20000 in
theorem dL_law_400 : decode cL_law 400 = .ok (.invokevirtual 85, 3) := by decide +kernel
set_option maxRecDepth 20000 in
theorem dL_law_403 : decode cL_law 403 = .ok (.istore 6, 2) := by decide +kernel
set_option maxRecDepth 20000 in
theorem dL_law_405 : decode cL_law 405 = .ok (.aload_n 2, 1) := by decide +kernel
set_option maxRecDepth 20000 in
theorem dL_law_406 : decode cL_law 406 = .ok (.invokevirtual 63, 3) := by decide +kernel
set_option maxRecDepth 20000 in
theorem dL_law_409 : decode cL_law 409 = .ok (.iload 5, 2) := by decide +kernel
set_option maxRecDepth 20000 in
theorem dL_law_411 : decode cL_law 411 = .ok (.if_icmp .eq 5, 3) := by decide +kernel
set_option maxRecDepth 20000 in
theorem dL_law_414 : decode cL_law 414 = .ok (.iconst 0, 1) := by decide +kernel
set_option maxRecDepth 20000 in
theorem dL_law_415 : decode cL_law 415 = .ok (.ireturn, 1) := by decide +kernel
set_option maxRecDepth 20000 in
theorem dL_law_416 : decode cL_law 416 = .ok (.iload 5, 2) := by decide +kernel
set_option maxRecDepth 20000 in
theorem dL_law_418 : decode cL_law 418 = .ok (.ifCond .ne 15, 3) := by decide +kernel
set_option maxRecDepth 20000 in
theorem dL_law_421 : decode cL_law 421 = .ok (.aload_n 3, 1) := by decide +kernel
set_option maxRecDepth 20000 in
theorem dL_law_422 : decode cL_law 422 = .ok (.iconst 0, 1) := by decide +kernel
set_option maxRecDepth 20000 in
theorem dL_law_423 : decode cL_law 423 = .ok (.laload, 1) := by decide +kernel
set_option maxRecDepth 20000 in
theorem dL_law_424 : decode cL_law 424 = .ok (.iload 6, 2) := by decide +kernel
set_option maxRecDepth 20000 in
theorem dL_law_426 : decode cL_law 426 = .ok (.i2l, 1) := by decide +kernel
set_option maxRecDepth 20000 in
theorem dL_law_427 : decode cL_law 427 = .ok (.lcmp, 1) := by decide +kernel
set_option maxRecDepth 20000 in
theorem dL_law_428 : decode cL_law 428 = .ok (.ifCond .eq 5, 3) := by decide +kernel
set_option maxRecDepth 20000 in
theorem dL_law_431 : decode cL_law 431 = .ok (.iconst 0, 1) := by decide +kernel
set_option maxRecDepth 20000 in
theorem dL_law_432 : decode cL_law 432 = .ok (.ireturn, 1) := by decide +kernel
set_option maxRecDepth 20000 in
theorem dL_law_433 : decode cL_law 433 = .ok (.goto 419, 3) := by decide +kernel
set_option maxRecDepth 20000 in
theorem dL_law_436 : decode cL_law 436 = .ok (.aload_n 1, 1) := by decide +kernel
set_option maxRecDepth 20000 in
theorem dL_law_437 : decode cL_law 437 = .ok (.aload_n 0, 1) := by decide +kernel
set_option maxRecDepth 20000 in
theorem dL_law_438 : decode cL_law 438 = .ok (.iload 4, 2) := by decide +kernel
set_option maxRecDepth 20000 in
theorem dL_law_440 : decode cL_law 440 = .ok (.iconst 1, 1) := by decide +kernel
set_option maxRecDepth 20000 in
theorem dL_law_441 : decode cL_law 441 = .ok (.iadd, 1) := by decide +kernel
set_option maxRecDepth 20000 in
theorem dL_law_442 : decode cL_law 442 = .ok (.iaload, 1) := by decide +kernel
set_option maxRecDepth 20000 in
theorem dL_law_443 : decode cL_law 443 = .ok (.aload_n 0, 1) := by decide +kernel
set_option maxRecDepth 20000 in
theorem dL_law_444 : decode cL_law 444 = .ok (.iload 4, 2) := by decide +kernel
set_option maxRecDepth 20000 in
theorem dL_law_446 : decode cL_law 446 = .ok (.iconst 2, 1) := by decide +kernel
set_option maxRecDepth 20000 in
theorem dL_law_447 : decode cL_law 447 = .ok (.iadd, 1) := by decide +kernel
set_option maxRecDepth 20000 in
theorem dL_law_448 : decode cL_law 448 = .ok (.iaload, 1) := by decide +kernel
set_option maxRecDepth 20000 in
theorem dL_law_449 : decode cL_law 449 = .ok (.aload_n 0, 1) := by decide +kernel
set_option maxRecDepth 20000 in
theorem dL_law_450 : decode cL_law 450 = .ok (.iload 4, 2) := by decide +kernel
set_option maxRecDepth 20000 in
theorem dL_law_452 : decode cL_law 452 = .ok (.iconst 3, 1) := by decide +kernel
set_option maxRecDepth 20000 in
theorem dL_law_453 : decode cL_law 453 = .ok (.iadd, 1) := by decide +kernel
set_option maxRecDepth 20000 in
theorem dL_law_454 : decode cL_law 454 = .ok (.iaload, 1) := by decide +kernel
set_option maxRecDepth 20000 in
theorem dL_law_455 : decode cL_law 455 = .ok (.aload_n 0, 1) := by decide +kernel
set_option maxRecDepth 20000 in
theorem dL_law_456 : decode cL_law 456 = .ok (.iload 4, 2) := by decide +kernel
set_option maxRecDepth 20000 in
theorem dL_law_458 : decode cL_law 458 = .ok (.iconst 4, 1) := by decide +kernel
set_option maxRecDepth 20000 in
theorem dL_law_459 : decode cL_law 459 = .ok (.iadd, 1) := by decide +kernel
set_option maxRecDepth 20000 in
theorem dL_law_460 : decode cL_law 460 = .ok (.iaload, 1) := by decide +kernel
set_option maxRecDepth 20000 in
theorem dL_law_461 : decode cL_law 461 = .ok (.aload_n 3, 1) := by decide +kernel
set_option maxRecDepth 20000 in
theorem dL_law_462 : decode cL_law 462 = .ok (.invokestatic 86, 3) := by decide +kernel
set_option maxRecDepth 20000 in
theorem dL_law_465 : decode cL_law 465 = .ok (.istore 5, 2) := by decide +kernel
set_option maxRecDepth 20000 in
theorem dL_law_467 : decode cL_law 467 = .ok (.aload_n 2, 1) := by decide +kernel
set_option maxRecDepth 20000 in
theorem dL_law_468 : decode cL_law 468 = .ok (.aload_n 0, 1) := by decide +kernel
set_option maxRecDepth 20000 in
theorem dL_law_469 : decode cL_law 469 = .ok (.iload 4, 2) := by decide +kernel
set_option maxRecDepth 20000 in
theorem dL_law_471 : decode cL_law 471 = .ok (.iconst 1, 1) := by decide +kernel
set_option maxRecDepth 20000 in
theorem dL_law_472 : decode cL_law 472 = .ok (.iadd, 1) := by decide +kernel
set_option maxRecDepth 20000 in
theorem dL_law_473 : decode cL_law 473 = .ok (.iaload, 1) := by decide +kernel
set_option maxRecDepth 20000 in
theorem dL_law_474 : decode cL_law 474 = .ok (.aload_n 0, 1) := by decide +kernel
set_option maxRecDepth 20000 in
theorem dL_law_475 : decode cL_law 475 = .ok (.iload 4, 2) := by decide +kernel
set_option maxRecDepth 20000 in
theorem dL_law_477 : decode cL_law 477 = .ok (.iconst 2, 1) := by decide +kernel
set_option maxRecDepth 20000 in
theorem dL_law_478 : decode cL_law 478 = .ok (.iadd, 1) := by decide +kernel
set_option maxRecDepth 20000 in
theorem dL_law_479 : decode cL_law 479 = .ok (.iaload, 1) := by decide +kernel
set_option maxRecDepth 20000 in
theorem dL_law_480 : decode cL_law 480 = .ok (.aload_n 0, 1) := by decide +kernel
set_option maxRecDepth 20000 in
theorem dL_law_481 : decode cL_law 481 = .ok (.iload 4, 2) := by decide +kernel
set_option maxRecDepth 20000 in
theorem dL_law_483 : decode cL_law 483 = .ok (.iconst 3, 1) := by decide +kernel
set_option maxRecDepth 20000 in
theorem dL_law_484 : decode cL_law 484 = .ok (.iadd, 1) := by decide +kernel
set_option maxRecDepth 20000 in
theorem dL_law_485 : decode cL_law 485 = .ok (.iaload, 1) := by decide +kernel
set_option maxRecDepth 20000 in
theorem dL_law_486 : decode cL_law 486 = .ok (.aload_n 0, 1) := by decide +kernel
set_option maxRecDepth 20000 in
theorem dL_law_487 : decode cL_law 487 = .ok (.iload 4, 2) := by decide +kernel
set_option maxRecDepth 20000 in
theorem dL_law_489 : decode cL_law 489 = .ok (.iconst 4, 1) := by decide +kernel
set_option maxRecDepth 20000 in
theorem dL_law_490 : decode cL_law 490 = .ok (.iadd, 1) := by decide +kernel
set_option maxRecDepth 20000 in
theorem dL_law_491 : decode cL_law 491 = .ok (.iaload, 1) := by decide +kernel
set_option maxRecDepth 20000 in
theorem dL_law_492 : decode cL_law 492 = .ok (.invokevirtual 89, 3) := by decide +kernel
set_option maxRecDepth 20000 in
theorem dL_law_495 : decode cL_law 495 = .ok (.istore 6, 2) := by decide +kernel
set_option maxRecDepth 20000 in
theorem dL_law_497 : decode cL_law 497 = .ok (.aload_n 2, 1) := by decide +kernel
set_option maxRecDepth 20000 in
theorem dL_law_498 : decode cL_law 498 = .ok (.invokevirtual 63, 3) := by decide +kernel
set_option maxRecDepth 20000 in
theorem dL_law_501 : decode cL_law 501 = .ok (.iload 5, 2) := by decide +kernel
set_option maxRecDepth 20000 in
theorem dL_law_503 : decode cL_law 503 = .ok (.if_icmp .eq 5, 3) := by decide +kernel
set_option maxRecDepth 20000 in
theorem dL_law_506 : decode cL_law 506 = .ok (.iconst 0, 1) := by decide +kernel
set_option maxRecDepth 20000 in
theorem dL_law_507 : decode cL_law 507 = .ok (.ireturn, 1) := by decide +kernel
set_option maxRecDepth 20000 in
theorem dL_law_508 : decode cL_law 508 = .ok (.iload 5, 2) := by decide +kernel
set_option maxRecDepth 20000 in
theorem dL_law_510 : decode cL_law 510 = .ok (.ifCond .ne 15, 3) := by decide +kernel
set_option maxRecDepth 20000 in
theorem dL_law_513 : decode cL_law 513 = .ok (.aload_n 3, 1) := by decide +kernel
set_option maxRecDepth 20000 in
theorem dL_law_514 : decode cL_law 514 = .ok (.iconst 0, 1) := by decide +kernel
set_option maxRecDepth 20000 in
theorem dL_law_515 : decode cL_law 515 = .ok (.laload, 1) := by decide +kernel
set_option maxRecDepth 20000 in
theorem dL_law_516 : decode cL_law 516 = .ok (.iload 6, 2) := by decide +kernel
set_option maxRecDepth 20000 in
theorem dL_law_518 : decode cL_law 518 = .ok (.i2l, 1) := by decide +kernel
set_option maxRecDepth 20000 in
theorem dL_law_519 : decode cL_law 519 = .ok (.lcmp, 1) := by decide +kernel
set_option maxRecDepth 20000 in
theorem dL_law_520 : decode cL_law 520 = .ok (.ifCond .eq 5, 3) := by decide +kernel
set_option maxRecDepth 20000 in
theorem dL_law_523 : decode cL_law 523 = .ok (.iconst 0, 1) := by decide +kernel
set_option maxRecDepth 20000 in
theorem dL_law_524 : decode cL_law 524 = .ok (.ireturn, 1) := by decide +kernel
set_option maxRecDepth 20000 in
theorem dL_law_525 : decode cL_law 525 = .ok (.goto 327, 3) := by decide +kernel
set_option maxRecDepth 20000 in
theorem dL_law_528 : decode cL_law 528 = .ok (.aload_n 1, 1) := by decide +kernel
set_option maxRecDepth 20000 in
theorem dL_law_529 : decode cL_law 529 = .ok (.aload_n 0, 1) := by decide +kernel
set_option maxRecDepth 20000 in
theorem dL_law_530 : decode cL_law 530 = .ok (.iload 4, 2) := by decide +kernel
set_option maxRecDepth 20000 in
theorem dL_law_532 : decode cL_law 532 = .ok (.iconst 1, 1) := by decide +kernel
set_option maxRecDepth 20000 in
theorem dL_law_533 : decode cL_law 533 = .ok (.iadd, 1) := by decide +kernel
set_option maxRecDepth 20000 in
theorem dL_law_534 : decode cL_law 534 = .ok (.iaload, 1) := by decide +kernel
set_option maxRecDepth 20000 in
theorem dL_law_535 : decode cL_law 535 = .ok (.aload_n 0, 1) := by decide +kernel
set_option maxRecDepth 20000 in
theorem dL_law_536 : decode cL_law 536 = .ok (.iload 4, 2) := by decide +kernel
set_option maxRecDepth 20000 in
theorem dL_law_538 : decode cL_law 538 = .ok (.iconst 2, 1) := by decide +kernel
set_option maxRecDepth 20000 in
theorem dL_law_539 : decode cL_law 539 = .ok (.iadd, 1) := by decide +kernel
set_option maxRecDepth 20000 in
theorem dL_law_540 : decode cL_law 540 = .ok (.iaload, 1) := by decide +kernel
set_option maxRecDepth 20000 in
theorem dL_law_541 : decode cL_law 541 = .ok (.aload_n 0, 1) := by decide +kernel
set_option maxRecDepth 20000 in
theorem dL_law_542 : decode cL_law 542 = .ok (.iload 4, 2) := by decide +kernel
set_option maxRecDepth 20000 in
theorem dL_law_544 : decode cL_law 544 = .ok (.iconst 3, 1) := by decide +kernel
set_option maxRecDepth 20000 in
theorem dL_law_545 : decode cL_law 545 = .ok (.iadd, 1) := by decide +kernel
set_option maxRecDepth 20000 in
theorem dL_law_546 : decode cL_law 546 = .ok (.iaload, 1) := by decide +kernel
set_option maxRecDepth 20000 in
theorem dL_law_547 : decode cL_law 547 = .ok (.aload_n 0, 1) := by decide +kernel
set_option maxRecDepth 20000 in
theorem dL_law_548 : decode cL_law 548 = .ok (.iload 4, 2) := by decide +kernel
set_option maxRecDepth 20000 in
theorem dL_law_550 : decode cL_law 550 = .ok (.iconst 4, 1) := by decide +kernel
set_option maxRecDepth 20000 in
theorem dL_law_551 : decode cL_law 551 = .ok (.iadd, 1) := by decide +kernel
set_option maxRecDepth 20000 in
theorem dL_law_552 : decode cL_law 552 = .ok (.iaload, 1) := by decide +kernel
set_option maxRecDepth 20000 in
theorem dL_law_553 : decode cL_law 553 = .ok (.aload_n 0, 1) := by decide +kernel
set_option maxRecDepth 20000 in
theorem dL_law_554 : decode cL_law 554 = .ok (.iload 4, 2) := by decide +kernel
set_option maxRecDepth 20000 in
theorem dL_law_556 : decode cL_law 556 = .ok (.iconst 5, 1) := by decide +kernel
set_option maxRecDepth 20000 in
theorem dL_law_557 : decode cL_law 557 = .ok (.iadd, 1) := by decide +kernel
set_option maxRecDepth 20000 in
theorem dL_law_558 : decode cL_law 558 = .ok (.iaload, 1) := by decide +kernel
set_option maxRecDepth 20000 in
theorem dL_law_559 : decode cL_law 559 = .ok (.aload_n 3, 1) := by decide +kernel
set_option maxRecDepth 20000 in
theorem dL_law_560 : decode cL_law 560 = .ok (.invokestatic 90, 3) := by decide +kernel
set_option maxRecDepth 20000 in
theorem dL_law_563 : decode cL_law 563 = .ok (.istore 5, 2) := by decide +kernel
set_option maxRecDepth 20000 in
theorem dL_law_565 : decode cL_law 565 = .ok (.aload_n 2, 1) := by decide +kernel
set_option maxRecDepth 20000 in
theorem dL_law_566 : decode cL_law 566 = .ok (.aload_n 0, 1) := by decide +kernel
set_option maxRecDepth 20000 in
theorem dL_law_567 : decode cL_law 567 = .ok (.iload 4, 2) := by decide +kernel
set_option maxRecDepth 20000 in
theorem dL_law_569 : decode cL_law 569 = .ok (.iconst 1, 1) := by decide +kernel
set_option maxRecDepth 20000 in
theorem dL_law_570 : decode cL_law 570 = .ok (.iadd, 1) := by decide +kernel
set_option maxRecDepth 20000 in
theorem dL_law_571 : decode cL_law 571 = .ok (.iaload, 1) := by decide +kernel
set_option maxRecDepth 20000 in
theorem dL_law_572 : decode cL_law 572 = .ok (.aload_n 0, 1) := by decide +kernel
set_option maxRecDepth 20000 in
theorem dL_law_573 : decode cL_law 573 = .ok (.iload 4, 2) := by decide +kernel
set_option maxRecDepth 20000 in
theorem dL_law_575 : decode cL_law 575 = .ok (.iconst 2, 1) := by decide +kernel
set_option maxRecDepth 20000 in
theorem dL_law_576 : decode cL_law 576 = .ok (.iadd, 1) := by decide +kernel
set_option maxRecDepth 20000 in
theorem dL_law_577 : decode cL_law 577 = .ok (.iaload, 1) := by decide +kernel
set_option maxRecDepth 20000 in
theorem dL_law_578 : decode cL_law 578 = .ok (.aload_n 0, 1) := by decide +kernel
set_option maxRecDepth 20000 in
theorem dL_law_579 : decode cL_law 579 = .ok (.iload 4, 2) := by decide +kernel
set_option maxRecDepth 20000 in
theorem dL_law_581 : decode cL_law 581 = .ok (.iconst 3, 1) := by decide +kernel
set_option maxRecDepth 20000 in
theorem dL_law_582 : decode cL_law 582 = .ok (.iadd, 1) := by decide +kernel
set_option maxRecDepth 20000 in
theorem dL_law_583 : decode cL_law 583 = .ok (.iaload, 1) := by decide +kernel
set_option maxRecDepth 20000 in
theorem dL_law_584 : decode cL_law 584 = .ok (.aload_n 0, 1) := by decide +kernel
set_option maxRecDepth 20000 in
theorem dL_law_585 : decode cL_law 585 = .ok (.iload 4, 2) := by decide +kernel
set_option maxRecDepth 20000 in
theorem dL_law_587 : decode cL_law 587 = .ok (.iconst 4, 1) := by decide +kernel
set_option maxRecDepth 20000 in
theorem dL_law_588 : decode cL_law 588 = .ok (.iadd, 1) := by decide +kernel
set_option maxRecDepth 20000 in
theorem dL_law_589 : decode cL_law 589 = .ok (.iaload, 1) := by decide +kernel
set_option maxRecDepth 20000 in
theorem dL_law_590 : decode cL_law 590 = .ok (.aload_n 0, 1) := by decide +kernel
set_option maxRecDepth 20000 in
theorem dL_law_591 : decode cL_law 591 = .ok (.iload 4, 2) := by decide +kernel
set_option maxRecDepth 20000 in
theorem dL_law_593 : decode cL_law 593 = .ok (.iconst 5, 1) := by decide +kernel
set_option maxRecDepth 20000 in
theorem dL_law_594 : decode cL_law 594 = .ok (.iadd, 1) := by decide +kernel
set_option maxRecDepth 20000 in
theorem dL_law_595 : decode cL_law 595 = .ok (.iaload, 1) := by decide +kernel
set_option maxRecDepth 20000 in
theorem dL_law_596 : decode cL_law 596 = .ok (.invokevirtual 93, 3) := by decide +kernel
set_option maxRecDepth 20000 in
theorem dL_law_599 : decode cL_law 599 = .ok (.istore 6, 2) := by decide +kernel
set_option maxRecDepth 20000 in
theorem dL_law_601 : decode cL_law 601 = .ok (.aload_n 2, 1) := by decide +kernel
set_option maxRecDepth 20000 in
theorem dL_law_602 : decode cL_law 602 = .ok (.invokevirtual 63, 3) := by decide +kernel
set_option maxRecDepth 20000 in
theorem dL_law_605 : decode cL_law 605 = .ok (.iload 5, 2) := by decide +kernel
set_option maxRecDepth 20000 in
theorem dL_law_607 : decode cL_law 607 = .ok (.if_icmp .eq 5, 3) := by decide +kernel
set_option maxRecDepth 20000 in
theorem dL_law_610 : decode cL_law 610 = .ok (.iconst 0, 1) := by decide +kernel
set_option maxRecDepth 20000 in
theorem dL_law_611 : decode cL_law 611 = .ok (.ireturn, 1) := by decide +kernel
set_option maxRecDepth 20000 in
theorem dL_law_612 : decode cL_law 612 = .ok (.iload 5, 2) := by decide +kernel
set_option maxRecDepth 20000 in
theorem dL_law_614 : decode cL_law 614 = .ok (.ifCond .ne 15, 3) := by decide +kernel
set_option maxRecDepth 20000 in
theorem dL_law_617 : decode cL_law 617 = .ok (.aload_n 3, 1) := by decide +kernel
set_option maxRecDepth 20000 in
theorem dL_law_618 : decode cL_law 618 = .ok (.iconst 0, 1) := by decide +kernel
set_option maxRecDepth 20000 in
theorem dL_law_619 : decode cL_law 619 = .ok (.laload, 1) := by decide +kernel
set_option maxRecDepth 20000 in
theorem dL_law_620 : decode cL_law 620 = .ok (.iload 6, 2) := by decide +kernel
set_option maxRecDepth 20000 in
theorem dL_law_622 : decode cL_law 622 = .ok (.i2l, 1) := by decide +kernel
set_option maxRecDepth 20000 in
theorem dL_law_623 : decode cL_law 623 = .ok (.lcmp, 1) := by decide +kernel
set_option maxRecDepth 20000 in
theorem dL_law_624 : decode cL_law 624 = .ok (.ifCond .eq 5, 3) := by decide +kernel
set_option maxRecDepth 20000 in
theorem dL_law_627 : decode cL_law 627 = .ok (.iconst 0, 1) := by decide +kernel
set_option maxRecDepth 20000 in
theorem dL_law_628 : decode cL_law 628 = .ok (.ireturn, 1) := by decide +kernel
set_option maxRecDepth 20000 in
theorem dL_law_629 : decode cL_law 629 = .ok (.goto 223, 3) := by decide +kernel
set_option maxRecDepth 20000 in
theorem dL_law_632 : decode cL_law 632 = .ok (.aload_n 1, 1) := by decide +kernel
set_option maxRecDepth 20000 in
theorem dL_law_633 : decode cL_law 633 = .ok (.aload_n 0, 1) := by decide +kernel
set_option maxRecDepth 20000 in
theorem dL_law_634 : decode cL_law 634 = .ok (.iload 4, 2) := by decide +kernel
set_option maxRecDepth 20000 in
theorem dL_law_636 : decode cL_law 636 = .ok (.iconst 1, 1) := by decide +kernel
set_option maxRecDepth 20000 in
theorem dL_law_637 : decode cL_law 637 = .ok (.iadd, 1) := by decide +kernel
set_option maxRecDepth 20000 in
theorem dL_law_638 : decode cL_law 638 = .ok (.iaload, 1) := by decide +kernel
set_option maxRecDepth 20000 in
theorem dL_law_639 : decode cL_law 639 = .ok (.aload_n 0, 1) := by decide +kernel
set_option maxRecDepth 20000 in
theorem dL_law_640 : decode cL_law 640 = .ok (.iload 4, 2) := by decide +kernel
set_option maxRecDepth 20000 in
theorem dL_law_642 : decode cL_law 642 = .ok (.iconst 2, 1) := by decide +kernel
set_option maxRecDepth 20000 in
theorem dL_law_643 : decode cL_law 643 = .ok (.iadd, 1) := by decide +kernel
set_option maxRecDepth 20000 in
theorem dL_law_644 : decode cL_law 644 = .ok (.iaload, 1) := by decide +kernel
set_option maxRecDepth 20000 in
theorem dL_law_645 : decode cL_law 645 = .ok (.aload_n 0, 1) := by decide +kernel
set_option maxRecDepth 20000 in
theorem dL_law_646 : decode cL_law 646 = .ok (.iload 4, 2) := by decide +kernel
set_option maxRecDepth 20000 in
theorem dL_law_648 : decode cL_law 648 = .ok (.iconst 3, 1) := by decide +kernel
set_option maxRecDepth 20000 in
theorem dL_law_649 : decode cL_law 649 = .ok (.iadd, 1) := by decide +kernel
set_option maxRecDepth 20000 in
theorem dL_law_650 : decode cL_law 650 = .ok (.iaload, 1) := by decide +kernel
set_option maxRecDepth 20000 in
theorem dL_law_651 : decode cL_law 651 = .ok (.aload_n 0, 1) := by decide +kernel
set_option maxRecDepth 20000 in
theorem dL_law_652 : decode cL_law 652 = .ok (.iload 4, 2) := by decide +kernel
set_option maxRecDepth 20000 in
theorem dL_law_654 : decode cL_law 654 = .ok (.iconst 4, 1) := by decide +kernel
set_option maxRecDepth 20000 in
theorem dL_law_655 : decode cL_law 655 = .ok (.iadd, 1) := by decide +kernel
set_option maxRecDepth 20000 in
theorem dL_law_656 : decode cL_law 656 = .ok (.iaload, 1) := by decide +kernel
set_option maxRecDepth 20000 in
theorem dL_law_657 : decode cL_law 657 = .ok (.aload_n 3, 1) := by decide +kernel
set_option maxRecDepth 20000 in
theorem dL_law_658 : decode cL_law 658 = .ok (.invokestatic 94, 3) := by decide +kernel
set_option maxRecDepth 20000 in
theorem dL_law_661 : decode cL_law 661 = .ok (.istore 5, 2) := by decide +kernel
set_option maxRecDepth 20000 in
theorem dL_law_663 : decode cL_law 663 = .ok (.aload_n 2, 1) := by decide +kernel
set_option maxRecDepth 20000 in
theorem dL_law_664 : decode cL_law 664 = .ok (.aload_n 0, 1) := by decide +kernel
set_option maxRecDepth 20000 in
theorem dL_law_665 : decode cL_law 665 = .ok (.iload 4, 2) := by decide +kernel
set_option maxRecDepth 20000 in
theorem dL_law_667 : decode cL_law 667 = .ok (.iconst 1, 1) := by decide +kernel
set_option maxRecDepth 20000 in
theorem dL_law_668 : decode cL_law 668 = .ok (.iadd, 1) := by decide +kernel
set_option maxRecDepth 20000 in
theorem dL_law_669 : decode cL_law 669 = .ok (.iaload, 1) := by decide +kernel
set_option maxRecDepth 20000 in
theorem dL_law_670 : decode cL_law 670 = .ok (.aload_n 0, 1) := by decide +kernel
set_option maxRecDepth 20000 in
theorem dL_law_671 : decode cL_law 671 = .ok (.iload 4, 2) := by decide +kernel
set_option maxRecDepth 20000 in
theorem dL_law_673 : decode cL_law 673 = .ok (.iconst 2, 1) := by decide +kernel
set_option maxRecDepth 20000 in
theorem dL_law_674 : decode cL_law 674 = .ok (.iadd, 1) := by decide +kernel
set_option maxRecDepth 20000 in
theorem dL_law_675 : decode cL_law 675 = .ok (.iaload, 1) := by decide +kernel
set_option maxRecDepth 20000 in
theorem dL_law_676 : decode cL_law 676 = .ok (.aload_n 0, 1) := by decide +kernel
set_option maxRecDepth 20000 in
theorem dL_law_677 : decode cL_law 677 = .ok (.iload 4, 2) := by decide +kernel
set_option maxRecDepth 20000 in
theorem dL_law_679 : decode cL_law 679 = .ok (.iconst 3, 1) := by decide +kernel
set_option maxRecDepth 20000 in
theorem dL_law_680 : decode cL_law 680 = .ok (.iadd, 1) := by decide +kernel
set_option maxRecDepth 20000 in
theorem dL_law_681 : decode cL_law 681 = .ok (.iaload, 1) := by decide +kernel
set_option maxRecDepth 20000 in
theorem dL_law_682 : decode cL_law 682 = .ok (.aload_n 0, 1) := by decide +kernel
set_option maxRecDepth 20000 in
theorem dL_law_683 : decode cL_law 683 = .ok (.iload 4, 2) := by decide +kernel
set_option maxRecDepth 20000 in
theorem dL_law_685 : decode cL_law 685 = .ok (.iconst 4, 1) := by decide +kernel
set_option maxRecDepth 20000 in
theorem dL_law_686 : decode cL_law 686 = .ok (.iadd, 1) := by decide +kernel
set_option maxRecDepth 20000 in
theorem dL_law_687 : decode cL_law 687 = .ok (.iaload, 1) := by decide +kernel
set_option maxRecDepth 20000 in
theorem dL_law_688 : decode cL_law 688 = .ok (.invokevirtual 96, 3) := by decide +kernel
set_option maxRecDepth 20000 in
theorem dL_law_691 : decode cL_law 691 = .ok (.lstore 6, 2) := by decide +kernel
set_option maxRecDepth 20000 in
theorem dL_law_693 : decode cL_law 693 = .ok (.aload_n 2, 1) := by decide +kernel
set_option maxRecDepth 20000 in
theorem dL_law_694 : decode cL_law 694 = .ok (.invokevirtual 63, 3) := by decide +kernel
set_option maxRecDepth 20000 in
theorem dL_law_697 : decode cL_law 697 = .ok (.iload 5, 2) := by decide +kernel
set_option maxRecDepth 20000 in
theorem dL_law_699 : decode cL_law 699 = .ok (.if_icmp .eq 5, 3) := by decide +kernel
set_option maxRecDepth 20000 in
theorem dL_law_702 : decode cL_law 702 = .ok (.iconst 0, 1) := by decide +kernel
set_option maxRecDepth 20000 in
theorem dL_law_703 : decode cL_law 703 = .ok (.ireturn, 1) := by decide +kernel
set_option maxRecDepth 20000 in
theorem dL_law_704 : decode cL_law 704 = .ok (.iload 5, 2) := by decide +kernel
set_option maxRecDepth 20000 in
theorem dL_law_706 : decode cL_law 706 = .ok (.ifCond .ne 14, 3) := by decide +kernel
set_option maxRecDepth 20000 in
theorem dL_law_709 : decode cL_law 709 = .ok (.aload_n 3, 1) := by decide +kernel
set_option maxRecDepth 20000 in
theorem dL_law_710 : decode cL_law 710 = .ok (.iconst 0, 1) := by decide +kernel
set_option maxRecDepth 20000 in
theorem dL_law_711 : decode cL_law 711 = .ok (.laload, 1) := by decide +kernel
set_option maxRecDepth 20000 in
theorem dL_law_712 : decode cL_law 712 = .ok (.lload 6, 2) := by decide +kernel
set_option maxRecDepth 20000 in
theorem dL_law_714 : decode cL_law 714 = .ok (.lcmp, 1) := by decide +kernel
set_option maxRecDepth 20000 in
theorem dL_law_715 : decode cL_law 715 = .ok (.ifCond .eq 5, 3) := by decide +kernel
set_option maxRecDepth 20000 in
theorem dL_law_718 : decode cL_law 718 = .ok (.iconst 0, 1) := by decide +kernel
set_option maxRecDepth 20000 in
theorem dL_law_719 : decode cL_law 719 = .ok (.ireturn, 1) := by decide +kernel
set_option maxRecDepth 20000 in
theorem dL_law_720 : decode cL_law 720 = .ok (.goto 132, 3) := by decide +kernel
set_option maxRecDepth 20000 in
theorem dL_law_723 : decode cL_law 723 = .ok (.aload_n 1, 1) := by decide +kernel
set_option maxRecDepth 20000 in
theorem dL_law_724 : decode cL_law 724 = .ok (.aload_n 0, 1) := by decide +kernel
set_option maxRecDepth 20000 in
theorem dL_law_725 : decode cL_law 725 = .ok (.iload 4, 2) := by decide +kernel
set_option maxRecDepth 20000 in
theorem dL_law_727 : decode cL_law 727 = .ok (.iconst 1, 1) := by decide +kernel
set_option maxRecDepth 20000 in
theorem dL_law_728 : decode cL_law 728 = .ok (.iadd, 1) := by decide +kernel
set_option maxRecDepth 20000 in
theorem dL_law_729 : decode cL_law 729 = .ok (.iaload, 1) := by decide +kernel
set_option maxRecDepth 20000 in
theorem dL_law_730 : decode cL_law 730 = .ok (.aload_n 0, 1) := by decide +kernel
set_option maxRecDepth 20000 in
theorem dL_law_731 : decode cL_law 731 = .ok (.iload 4, 2) := by decide +kernel
set_option maxRecDepth 20000 in
theorem dL_law_733 : decode cL_law 733 = .ok (.iconst 2, 1) := by decide +kernel
set_option maxRecDepth 20000 in
theorem dL_law_734 : decode cL_law 734 = .ok (.iadd, 1) := by decide +kernel
set_option maxRecDepth 20000 in
theorem dL_law_735 : decode cL_law 735 = .ok (.iaload, 1) := by decide +kernel
set_option maxRecDepth 20000 in
theorem dL_law_736 : decode cL_law 736 = .ok (.aload_n 0, 1) := by decide +kernel
set_option maxRecDepth 20000 in
theorem dL_law_737 : decode cL_law 737 = .ok (.iload 4, 2) := by decide +kernel
set_option maxRecDepth 20000 in
theorem dL_law_739 : decode cL_law 739 = .ok (.iconst 3, 1) := by decide +kernel
set_option maxRecDepth 20000 in
theorem dL_law_740 : decode cL_law 740 = .ok (.iadd, 1) := by decide +kernel
set_option maxRecDepth 20000 in
theorem dL_law_741 : decode cL_law 741 = .ok (.iaload, 1) := by decide +kernel
set_option maxRecDepth 20000 in
theorem dL_law_742 : decode cL_law 742 = .ok (.aload_n 0, 1) := by decide +kernel
set_option maxRecDepth 20000 in
theorem dL_law_743 : decode cL_law 743 = .ok (.iload 4, 2) := by decide +kernel
set_option maxRecDepth 20000 in
theorem dL_law_745 : decode cL_law 745 = .ok (.iconst 4, 1) := by decide +kernel
set_option maxRecDepth 20000 in
theorem dL_law_746 : decode cL_law 746 = .ok (.iadd, 1) := by decide +kernel
set_option maxRecDepth 20000 in
theorem dL_law_747 : decode cL_law 747 = .ok (.iaload, 1) := by decide +kernel
set_option maxRecDepth 20000 in
theorem dL_law_748 : decode cL_law 748 = .ok (.aload_n 0, 1) := by decide +kernel
set_option maxRecDepth 20000 in
theorem dL_law_749 : decode cL_law 749 = .ok (.iload 4, 2) := by decide +kernel
set_option maxRecDepth 20000 in
theorem dL_law_751 : decode cL_law 751 = .ok (.iconst 5, 1) := by decide +kernel
set_option maxRecDepth 20000 in
theorem dL_law_752 : decode cL_law 752 = .ok (.iadd, 1) := by decide +kernel
set_option maxRecDepth 20000 in
theorem dL_law_753 : decode cL_law 753 = .ok (.iaload, 1) := by decide +kernel
set_option maxRecDepth 20000 in
theorem dL_law_754 : decode cL_law 754 = .ok (.aload_n 3, 1) := by decide +kernel
set_option maxRecDepth 20000 in
theorem dL_law_755 : decode cL_law 755 = .ok (.invokestatic 97, 3) := by decide +kernel
set_option maxRecDepth 20000 in
theorem dL_law_758 : decode cL_law 758 = .ok (.istore 5, 2) := by decide +kernel
set_option maxRecDepth 20000 in
theorem dL_law_760 : decode cL_law 760 = .ok (.aload_n 2, 1) := by decide +kernel
set_option maxRecDepth 20000 in
theorem dL_law_761 : decode cL_law 761 = .ok (.aload_n 0, 1) := by decide +kernel
set_option maxRecDepth 20000 in
theorem dL_law_762 : decode cL_law 762 = .ok (.iload 4, 2) := by decide +kernel
set_option maxRecDepth 20000 in
theorem dL_law_764 : decode cL_law 764 = .ok (.iconst 1, 1) := by decide +kernel
set_option maxRecDepth 20000 in
theorem dL_law_765 : decode cL_law 765 = .ok (.iadd, 1) := by decide +kernel
set_option maxRecDepth 20000 in
theorem dL_law_766 : decode cL_law 766 = .ok (.iaload, 1) := by decide +kernel
set_option maxRecDepth 20000 in
theorem dL_law_767 : decode cL_law 767 = .ok (.aload_n 0, 1) := by decide +kernel
set_option maxRecDepth 20000 in
theorem dL_law_768 : decode cL_law 768 = .ok (.iload 4, 2) := by decide +kernel
set_option maxRecDepth 20000 in
theorem dL_law_770 : decode cL_law 770 = .ok (.iconst 2, 1) := by decide +kernel
set_option maxRecDepth 20000 in
theorem dL_law_771 : decode cL_law 771 = .ok (.iadd, 1) := by decide +kernel
set_option maxRecDepth 20000 in
theorem dL_law_772 : decode cL_law 772 = .ok (.iaload, 1) := by decide +kernel
set_option maxRecDepth 20000 in
theorem dL_law_773 : decode cL_law 773 = .ok (.aload_n 0, 1) := by decide +kernel
set_option maxRecDepth 20000 in
theorem dL_law_774 : decode cL_law 774 = .ok (.iload 4, 2) := by decide +kernel
set_option maxRecDepth 20000 in
theorem dL_law_776 : decode cL_law 776 = .ok (.iconst 3, 1) := by decide +kernel
set_option maxRecDepth 20000 in
theorem dL_law_777 : decode cL_law 777 = .ok (.iadd, 1) := by decide +kernel
set_option maxRecDepth 20000 in
theorem dL_law_778 : decode cL_law 778 = .ok (.iaload, 1) := by decide +kernel
set_option maxRecDepth 20000 in
theorem dL_law_779 : decode cL_law 779 = .ok (.aload_n 0, 1) := by decide +kernel
set_option maxRecDepth 20000 in
theorem dL_law_780 : decode cL_law 780 = .ok (.iload 4, 2) := by decide +kernel
set_option maxRecDepth 20000 in
theorem dL_law_782 : decode cL_law 782 = .ok (.iconst 4, 1) := by decide +kernel
set_option maxRecDepth 20000 in
theorem dL_law_783 : decode cL_law 783 = .ok (.iadd, 1) := by decide +kernel
set_option maxRecDepth 20000 in
theorem dL_law_784 : decode cL_law 784 = .ok (.iaload, 1) := by decide +kernel
set_option maxRecDepth 20000 in
theorem dL_law_785 : decode cL_law 785 = .ok (.aload_n 0, 1) := by decide +kernel
set_option maxRecDepth 20000 in
theorem dL_law_786 : decode cL_law 786 = .ok (.iload 4, 2) := by decide +kernel
set_option maxRecDepth 20000 in
theorem dL_law_788 : decode cL_law 788 = .ok (.iconst 5, 1) := by decide +kernel
set_option maxRecDepth 20000 in
theorem dL_law_789 : decode cL_law 789 = .ok (.iadd, 1) := by decide +kernel
set_option maxRecDepth 20000 in
theorem dL_law_790 : decode cL_law 790 = .ok (.iaload, 1) := by decide +kernel
set_option maxRecDepth 20000 in
theorem dL_law_791 : decode cL_law 791 = .ok (.invokevirtual 99, 3) := by decide +kernel
set_option maxRecDepth 20000 in
theorem dL_law_794 : decode cL_law 794 = .ok (.istore 6, 2) := by decide +kernel
set_option maxRecDepth 20000 in
theorem dL_law_796 : decode cL_law 796 = .ok (.aload_n 2, 1) := by decide +kernel
set_option maxRecDepth 20000 in
theorem dL_law_797 : decode cL_law 797 = .ok (.invokevirtual 63, 3) := by decide +kernel
set_option maxRecDepth 20000 in
theorem dL_law_800 : decode cL_law 800 = .ok (.iload 5, 2) := by decide +kernel
set_option maxRecDepth 20000 in
theorem dL_law_802 : decode cL_law 802 = .ok (.if_icmp .eq 5, 3) := by decide +kernel
set_option maxRecDepth 20000 in
theorem dL_law_805 : decode cL_law 805 = .ok (.iconst 0, 1) := by decide +kernel
set_option maxRecDepth 20000 in
theorem dL_law_806 : decode cL_law 806 = .ok (.ireturn, 1) := by decide +kernel
set_option maxRecDepth 20000 in
theorem dL_law_807 : decode cL_law 807 = .ok (.iload 5, 2) := by decide +kernel
set_option maxRecDepth 20000 in
theorem dL_law_809 : decode cL_law 809 = .ok (.ifCond .ne 15, 3) := by decide +kernel
set_option maxRecDepth 20000 in
theorem dL_law_812 : decode cL_law 812 = .ok (.aload_n 3, 1) := by decide +kernel
set_option maxRecDepth 20000 in
theorem dL_law_813 : decode cL_law 813 = .ok (.iconst 0, 1) := by decide +kernel
set_option maxRecDepth 20000 in
theorem dL_law_814 : decode cL_law 814 = .ok (.laload, 1) := by decide +kernel
set_option maxRecDepth 20000 in
theorem dL_law_815 : decode cL_law 815 = .ok (.iload 6, 2) := by decide +kernel
set_option maxRecDepth 20000 in
theorem dL_law_817 : decode cL_law 817 = .ok (.i2l, 1) := by decide +kernel
set_option maxRecDepth 20000 in
theorem dL_law_818 : decode cL_law 818 = .ok (.lcmp, 1) := by decide +kernel
set_option maxRecDepth 20000 in
theorem dL_law_819 : decode cL_law 819 = .ok (.ifCond .eq 5, 3) := by decide +kernel
set_option maxRecDepth 20000 in
theorem dL_law_822 : decode cL_law 822 = .ok (.iconst 0, 1) := by decide +kernel
set_option maxRecDepth 20000 in
theorem dL_law_823 : decode cL_law 823 = .ok (.ireturn, 1) := by decide +kernel
set_option maxRecDepth 20000 in
theorem dL_law_824 : decode cL_law 824 = .ok (.goto 28, 3) := by decide +kernel
set_option maxRecDepth 20000 in
theorem dL_law_827 : decode cL_law 827 = .ok (.aload_n 1, 1) := by decide +kernel
set_option maxRecDepth 20000 in
theorem dL_law_828 : decode cL_law 828 = .ok (.aload_n 0, 1) := by decide +kernel
set_option maxRecDepth 20000 in
theorem dL_law_829 : decode cL_law 829 = .ok (.iload 4, 2) := by decide +kernel
set_option maxRecDepth 20000 in
theorem dL_law_831 : decode cL_law 831 = .ok (.iconst 1, 1) := by decide +kernel
set_option maxRecDepth 20000 in
theorem dL_law_832 : decode cL_law 832 = .ok (.iadd, 1) := by decide +kernel
set_option maxRecDepth 20000 in
theorem dL_law_833 : decode cL_law 833 = .ok (.iaload, 1) := by decide +kernel
set_option maxRecDepth 20000 in
theorem dL_law_834 : decode cL_law 834 = .ok (.invokevirtual 100, 3) := by decide +kernel
set_option maxRecDepth 20000 in
theorem dL_law_837 : decode cL_law 837 = .ok (.aload_n 2, 1) := by decide +kernel
set_option maxRecDepth 20000 in
theorem dL_law_838 : decode cL_law 838 = .ok (.aload_n 0, 1) := by decide +kernel
set_option maxRecDepth 20000 in
theorem dL_law_839 : decode cL_law 839 = .ok (.iload 4, 2) := by decide +kernel
set_option maxRecDepth 20000 in
theorem dL_law_841 : decode cL_law 841 = .ok (.iconst 1, 1) := by decide +kernel
set_option maxRecDepth 20000 in
theorem dL_law_842 : decode cL_law 842 = .ok (.iadd, 1) := by decide +kernel
set_option maxRecDepth 20000 in
theorem dL_law_843 : decode cL_law 843 = .ok (.iaload, 1) := by decide +kernel
set_option maxRecDepth 20000 in
theorem dL_law_844 : decode cL_law 844 = .ok (.invokevirtual 104, 3) := by decide +kernel
set_option maxRecDepth 20000 in
theorem dL_law_847 : decode cL_law 847 = .ok (.if_icmp .eq 5, 3) := by decide +kernel
set_option maxRecDepth 20000 in
theorem dL_law_850 : decode cL_law 850 = .ok (.iconst 0, 1) := by decide +kernel
set_option maxRecDepth 20000 in
theorem dL_law_851 : decode cL_law 851 = .ok (.ireturn, 1) := by decide +kernel
set_option maxRecDepth 20000 in
theorem dL_law_852 : decode cL_law 852 = .ok (.iinc 4 6, 3) := by decide +kernel
set_option maxRecDepth 20000 in
theorem dL_law_855 : decode cL_law 855 = .ok (.goto (-832), 3) := by decide +kernel
set_option maxRecDepth 20000 in
theorem dL_law_858 : decode cL_law 858 = .ok (.iconst 1, 1) := by decide +kernel
set_option maxRecDepth 20000 in
theorem dL_law_859 : decode cL_law 859 = .ok (.ireturn, 1) := by decide +kernel
