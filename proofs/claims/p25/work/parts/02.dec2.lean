theorem dX5_undo_0 : decode cX5_undo 0 = .ok (.aload_n 0, 1) := by decide +kernel
theorem dX5_undo_1 : decode cX5_undo 1 = .ok (.getfield 18, 3) := by decide +kernel
theorem dX5_undo_4 : decode cX5_undo 4 = .ok (.getfield 110, 3) := by decide +kernel
theorem dX5_undo_7 : decode cX5_undo 7 = .ok (.ifCond .ne 6, 3) := by decide +kernel
theorem dX5_undo_10 : decode cX5_undo 10 = .ok (.bipush (-2), 2) := by decide +kernel
theorem dX5_undo_12 : decode cX5_undo 12 = .ok (.ireturn, 1) := by decide +kernel
theorem dX5_undo_13 : decode cX5_undo 13 = .ok (.aload_n 0, 1) := by decide +kernel
theorem dX5_undo_14 : decode cX5_undo 14 = .ok (.getfield 18, 3) := by decide +kernel
theorem dX5_undo_17 : decode cX5_undo 17 = .ok (.invokevirtual 113, 3) := by decide +kernel
theorem dX5_undo_20 : decode cX5_undo 20 = .ok (.astore_n 1, 1) := by decide +kernel
theorem dX5_undo_21 : decode cX5_undo 21 = .ok (.aload_n 0, 1) := by decide +kernel
theorem dX5_undo_22 : decode cX5_undo 22 = .ok (.aload_n 1, 1) := by decide +kernel
theorem dX5_undo_23 : decode cX5_undo 23 = .ok (.getfield 117, 3) := by decide +kernel
theorem dX5_undo_26 : decode cX5_undo 26 = .ok (.putfield 34, 3) := by decide +kernel
theorem dX5_undo_29 : decode cX5_undo 29 = .ok (.aload_n 0, 1) := by decide +kernel
theorem dX5_undo_30 : decode cX5_undo 30 = .ok (.getfield 11, 3) := by decide +kernel
theorem dX5_undo_33 : decode cX5_undo 33 = .ok (.aload_n 1, 1) := by decide +kernel
theorem dX5_undo_34 : decode cX5_undo 34 = .ok (.getfield 120, 3) := by decide +kernel
theorem dX5_undo_37 : decode cX5_undo 37 = .ok (.aaload, 1) := by decide +kernel
theorem dX5_undo_38 : decode cX5_undo 38 = .ok (.aload_n 1, 1) := by decide +kernel
theorem dX5_undo_39 : decode cX5_undo 39 = .ok (.getfield 123, 3) := by decide +kernel
theorem dX5_undo_42 : decode cX5_undo 42 = .ok (.invokevirtual 106, 3) := by decide +kernel
theorem dX5_undo_45 : decode cX5_undo 45 = .ok (.aload_n 0, 1) := by decide +kernel
theorem dX5_undo_46 : decode cX5_undo 46 = .ok (.getfield 18, 3) := by decide +kernel
theorem dX5_undo_49 : decode cX5_undo 49 = .ok (.getfield 110, 3) := by decide +kernel
theorem dX5_undo_52 : decode cX5_undo 52 = .ok (.ireturn, 1) := by decide +kernel
theorem dX5_type_0 : decode cX5_type 0 = .ok (.iload_n 1, 1) := by decide +kernel
theorem dX5_type_1 : decode cX5_type 1 = .ok (.iconst 1, 1) := by decide +kernel
theorem dX5_type_2 : decode cX5_type 2 = .ok (.sipush 255, 3) := by decide +kernel
theorem dX5_type_5 : decode cX5_type 5 = .ok (.invokestatic 52, 3) := by decide +kernel
theorem dX5_type_8 : decode cX5_type 8 = .ok (.ifCond .ne 5, 3) := by decide +kernel
theorem dX5_type_11 : decode cX5_type 11 = .ok (.iconst (-1), 1) := by decide +kernel
theorem dX5_type_12 : decode cX5_type 12 = .ok (.ireturn, 1) := by decide +kernel
theorem dX5_type_13 : decode cX5_type 13 = .ok (.aload_n 0, 1) := by decide +kernel
theorem dX5_type_14 : decode cX5_type 14 = .ok (.getfield 25, 3) := by decide +kernel
theorem dX5_type_17 : decode cX5_type 17 = .ok (.getfield 126, 3) := by decide +kernel
theorem dX5_type_20 : decode cX5_type 20 = .ok (.bipush 100, 2) := by decide +kernel
theorem dX5_type_22 : decode cX5_type 22 = .ok (.if_icmp .lt 6, 3) := by decide +kernel
theorem dX5_type_25 : decode cX5_type 25 = .ok (.bipush (-3), 2) := by decide +kernel
theorem dX5_type_27 : decode cX5_type 27 = .ok (.ireturn, 1) := by decide +kernel
theorem dX5_type_28 : decode cX5_type 28 = .ok (.aload_n 0, 1) := by decide +kernel
theorem dX5_type_29 : decode cX5_type 29 = .ok (.getfield 25, 3) := by decide +kernel
theorem dX5_type_32 : decode cX5_type 32 = .ok (.iload_n 1, 1) := by decide +kernel
theorem dX5_type_33 : decode cX5_type 33 = .ok (.i2c, 1) := by decide +kernel
theorem dX5_type_34 : decode cX5_type 34 = .ok (.invokevirtual 127, 3) := by decide +kernel
theorem dX5_type_37 : decode cX5_type 37 = .ok (.aload_n 0, 1) := by decide +kernel
theorem dX5_type_38 : decode cX5_type 38 = .ok (.getfield 25, 3) := by decide +kernel
theorem dX5_type_41 : decode cX5_type 41 = .ok (.getfield 126, 3) := by decide +kernel
theorem dX5_type_44 : decode cX5_type 44 = .ok (.ireturn, 1) := by decide +kernel
theorem dX5_clearText_0 : decode cX5_clearText 0 = .ok (.aload_n 0, 1) := by decide +kernel
theorem dX5_clearText_1 : decode cX5_clearText 1 = .ok (.getfield 25, 3) := by decide +kernel
theorem dX5_clearText_4 : decode cX5_clearText 4 = .ok (.getfield 126, 3) := by decide +kernel
theorem dX5_clearText_7 : decode cX5_clearText 7 = .ok (.istore_n 1, 1) := by decide +kernel
theorem dX5_clearText_8 : decode cX5_clearText 8 = .ok (.aload_n 0, 1) := by decide +kernel
theorem dX5_clearText_9 : decode cX5_clearText 9 = .ok (.getfield 25, 3) := by decide +kernel
theorem dX5_clearText_12 : decode cX5_clearText 12 = .ok (.iconst 0, 1) := by decide +kernel
theorem dX5_clearText_13 : decode cX5_clearText 13 = .ok (.putfield 126, 3) := by decide +kernel
theorem dX5_clearText_16 : decode cX5_clearText 16 = .ok (.iload_n 1, 1) := by decide +kernel
theorem dX5_clearText_17 : decode cX5_clearText 17 = .ok (.ireturn, 1) := by decide +kernel
theorem dX5_evaluate_0 : decode cX5_evaluate 0 = .ok (.aload_n 0, 1) := by decide +kernel
theorem dX5_evaluate_1 : decode cX5_evaluate 1 = .ok (.iload_n 1, 1) := by decide +kernel
theorem dX5_evaluate_2 : decode cX5_evaluate 2 = .ok (.invokevirtual 45, 3) := by decide +kernel
theorem dX5_evaluate_5 : decode cX5_evaluate 5 = .ok (.ifCond .ne 5, 3) := by decide +kernel
theorem dX5_evaluate_8 : decode cX5_evaluate 8 = .ok (.iconst (-1), 1) := by decide +kernel
theorem dX5_evaluate_9 : decode cX5_evaluate 9 = .ok (.ireturn, 1) := by decide +kernel
theorem dX5_evaluate_10 : decode cX5_evaluate 10 = .ok (.aload_n 0, 1) := by decide +kernel
theorem dX5_evaluate_11 : decode cX5_evaluate 11 = .ok (.getfield 25, 3) := by decide +kernel
theorem dX5_evaluate_14 : decode cX5_evaluate 14 = .ok (.aload_n 0, 1) := by decide +kernel
theorem dX5_evaluate_15 : decode cX5_evaluate 15 = .ok (.getfield 11, 3) := by decide +kernel
theorem dX5_evaluate_18 : decode cX5_evaluate 18 = .ok (.aload_n 0, 1) := by decide +kernel
theorem dX5_evaluate_19 : decode cX5_evaluate 19 = .ok (.getfield 34, 3) := by decide +kernel
theorem dX5_evaluate_22 : decode cX5_evaluate 22 = .ok (.invokevirtual 131, 3) := by decide +kernel
theorem dX5_evaluate_25 : decode cX5_evaluate 25 = .ok (.ifCond .ne 15, 3) := by decide +kernel
theorem dX5_evaluate_28 : decode cX5_evaluate 28 = .ok (.sipush (-1000), 3) := by decide +kernel
theorem dX5_evaluate_31 : decode cX5_evaluate 31 = .ok (.aload_n 0, 1) := by decide +kernel
theorem dX5_evaluate_32 : decode cX5_evaluate 32 = .ok (.getfield 25, 3) := by decide +kernel
theorem dX5_evaluate_35 : decode cX5_evaluate 35 = .ok (.getfield 135, 3) := by decide +kernel
theorem dX5_evaluate_38 : decode cX5_evaluate 38 = .ok (.isub, 1) := by decide +kernel
theorem dX5_evaluate_39 : decode cX5_evaluate 39 = .ok (.ireturn, 1) := by decide +kernel
theorem dX5_evaluate_40 : decode cX5_evaluate 40 = .ok (.aload_n 0, 1) := by decide +kernel
theorem dX5_evaluate_41 : decode cX5_evaluate 41 = .ok (.iload_n 1, 1) := by decide +kernel
theorem dX5_evaluate_42 : decode cX5_evaluate 42 = .ok (.invokevirtual 38, 3) := by decide +kernel
theorem dX5_evaluate_45 : decode cX5_evaluate 45 = .ok (.aload_n 0, 1) := by decide +kernel
theorem dX5_evaluate_46 : decode cX5_evaluate 46 = .ok (.getfield 11, 3) := by decide +kernel
theorem dX5_evaluate_49 : decode cX5_evaluate 49 = .ok (.iload_n 1, 1) := by decide +kernel
theorem dX5_evaluate_50 : decode cX5_evaluate 50 = .ok (.aaload, 1) := by decide +kernel
theorem dX5_evaluate_51 : decode cX5_evaluate 51 = .ok (.aload_n 0, 1) := by decide +kernel
theorem dX5_evaluate_52 : decode cX5_evaluate 52 = .ok (.getfield 25, 3) := by decide +kernel
theorem dX5_evaluate_55 : decode cX5_evaluate 55 = .ok (.invokevirtual 138, 3) := by decide +kernel
theorem dX5_evaluate_58 : decode cX5_evaluate 58 = .ok (.invokevirtual 106, 3) := by decide +kernel
theorem dX5_evaluate_61 : decode cX5_evaluate 61 = .ok (.aload_n 0, 1) := by decide +kernel
theorem dX5_evaluate_62 : decode cX5_evaluate 62 = .ok (.getfield 11, 3) := by decide +kernel
theorem dX5_evaluate_65 : decode cX5_evaluate 65 = .ok (.iload_n 1, 1) := by decide +kernel
theorem dX5_evaluate_66 : decode cX5_evaluate 66 = .ok (.aaload, 1) := by decide +kernel
theorem dX5_evaluate_67 : decode cX5_evaluate 67 = .ok (.invokestatic 67, 3) := by decide +kernel
theorem dX5_evaluate_70 : decode cX5_evaluate 70 = .ok (.ireturn, 1) := by decide +kernel
theorem dX5_failure_0 : decode cX5_failure 0 = .ok (.iload_n 1, 1) := by decide +kernel
theorem dX5_failure_1 : decode cX5_failure 1 = .ok (.iconst 0, 1) := by decide +kernel
theorem dX5_failure_2 : decode cX5_failure 2 = .ok (.iconst 2, 1) := by decide +kernel
theorem dX5_failure_3 : decode cX5_failure 3 = .ok (.invokestatic 52, 3) := by decide +kernel
theorem dX5_failure_6 : decode cX5_failure 6 = .ok (.ifCond .ne 5, 3) := by decide +kernel
theorem dX5_failure_9 : decode cX5_failure 9 = .ok (.iconst (-1), 1) := by decide +kernel
theorem dX5_failure_10 : decode cX5_failure 10 = .ok (.ireturn, 1) := by decide +kernel
theorem dX5_failure_11 : decode cX5_failure 11 = .ok (.aload_n 0, 1) := by decide +kernel
theorem dX5_failure_12 : decode cX5_failure 12 = .ok (.getfield 25, 3) := by decide +kernel
theorem dX5_failure_15 : decode cX5_failure 15 = .ok (.getfield 142, 3) := by decide +kernel
theorem dX5_failure_18 : decode cX5_failure 18 = .ok (.ifCond .ne 6, 3) := by decide +kernel
theorem dX5_failure_21 : decode cX5_failure 21 = .ok (.bipush (-9), 2) := by decide +kernel
theorem dX5_failure_23 : decode cX5_failure 23 = .ok (.ireturn, 1) := by decide +kernel
theorem dX5_failure_24 : decode cX5_failure 24 = .ok (.iload_n 1, 1) := by decide +kernel
theorem dX5_failure_25 : decode cX5_failure 25 = .ok (.lookupswitch 43 #[(0, 27), (1, 35)], 27) := by decide +kernel
theorem dX5_failure_52 : decode cX5_failure 52 = .ok (.aload_n 0, 1) := by decide +kernel
theorem dX5_failure_53 : decode cX5_failure 53 = .ok (.getfield 25, 3) := by decide +kernel
theorem dX5_failure_56 : decode cX5_failure 56 = .ok (.getfield 142, 3) := by decide +kernel
theorem dX5_failure_59 : decode cX5_failure 59 = .ok (.ireturn, 1) := by decide +kernel
theorem dX5_failure_60 : decode cX5_failure 60 = .ok (.aload_n 0, 1) := by decide +kernel
theorem dX5_failure_61 : decode cX5_failure 61 = .ok (.getfield 25, 3) := by decide +kernel
theorem dX5_failure_64 : decode cX5_failure 64 = .ok (.getfield 135, 3) := by decide +kernel
theorem dX5_failure_67 : decode cX5_failure 67 = .ok (.ireturn, 1) := by decide +kernel
theorem dX5_failure_68 : decode cX5_failure 68 = .ok (.aload_n 0, 1) := by decide +kernel
theorem dX5_failure_69 : decode cX5_failure 69 = .ok (.getfield 25, 3) := by decide +kernel
theorem dX5_failure_72 : decode cX5_failure 72 = .ok (.getfield 145, 3) := by decide +kernel
theorem dX5_failure_75 : decode cX5_failure 75 = .ok (.ireturn, 1) := by decide +kernel
theorem dX5_count_0 : decode cX5_count 0 = .ok (.iload_n 1, 1) := by decide +kernel
theorem dX5_count_1 : decode cX5_count 1 = .ok (.tableswitch 78 0 5 #[39, 44, 50, 56, 62, 70], 39) := by decide +kernel
theorem dX5_count_40 : decode cX5_count 40 = .ok (.aload_n 0, 1) := by decide +kernel
theorem dX5_count_41 : decode cX5_count 41 = .ok (.getfield 34, 3) := by decide +kernel
theorem dX5_count_44 : decode cX5_count 44 = .ok (.ireturn, 1) := by decide +kernel
theorem dX5_count_45 : decode cX5_count 45 = .ok (.aload_n 0, 1) := by decide +kernel
theorem dX5_count_46 : decode cX5_count 46 = .ok (.iconst 0, 1) := by decide +kernel
theorem dX5_count_47 : decode cX5_count 47 = .ok (.invokevirtual 148, 3) := by decide +kernel
theorem dX5_count_50 : decode cX5_count 50 = .ok (.ireturn, 1) := by decide +kernel
theorem dX5_count_51 : decode cX5_count 51 = .ok (.aload_n 0, 1) := by decide +kernel
theorem dX5_count_52 : decode cX5_count 52 = .ok (.iconst 1, 1) := by decide +kernel
theorem dX5_count_53 : decode cX5_count 53 = .ok (.invokevirtual 148, 3) := by decide +kernel
theorem dX5_count_56 : decode cX5_count 56 = .ok (.ireturn, 1) := by decide +kernel
theorem dX5_count_57 : decode cX5_count 57 = .ok (.aload_n 0, 1) := by decide +kernel
theorem dX5_count_58 : decode cX5_count 58 = .ok (.iconst 5, 1) := by decide +kernel
theorem dX5_count_59 : decode cX5_count 59 = .ok (.invokevirtual 148, 3) := by decide +kernel
theorem dX5_count_62 : decode cX5_count 62 = .ok (.ireturn, 1) := by decide +kernel
theorem dX5_count_63 : decode cX5_count 63 = .ok (.aload_n 0, 1) := by decide +kernel
theorem dX5_count_64 : decode cX5_count 64 = .ok (.getfield 18, 3) := by decide +kernel
theorem dX5_count_67 : decode cX5_count 67 = .ok (.getfield 110, 3) := by decide +kernel
theorem dX5_count_70 : decode cX5_count 70 = .ok (.ireturn, 1) := by decide +kernel
theorem dX5_count_71 : decode cX5_count 71 = .ok (.aload_n 0, 1) := by decide +kernel
theorem dX5_count_72 : decode cX5_count 72 = .ok (.getfield 25, 3) := by decide +kernel
theorem dX5_count_75 : decode cX5_count 75 = .ok (.getfield 126, 3) := by decide +kernel
theorem dX5_count_78 : decode cX5_count 78 = .ok (.ireturn, 1) := by decide +kernel
theorem dX5_count_79 : decode cX5_count 79 = .ok (.iconst (-1), 1) := by decide +kernel
theorem dX5_count_80 : decode cX5_count 80 = .ok (.ireturn, 1) := by decide +kernel
theorem dX5_row_0 : decode cX5_row 0 = .ok (.aload_n 0, 1) := by decide +kernel
theorem dX5_row_1 : decode cX5_row 1 = .ok (.iload_n 1, 1) := by decide +kernel
theorem dX5_row_2 : decode cX5_row 2 = .ok (.invokevirtual 45, 3) := by decide +kernel
theorem dX5_row_5 : decode cX5_row 5 = .ok (.ifCond .eq 13, 3) := by decide +kernel
theorem dX5_row_8 : decode cX5_row 8 = .ok (.iload_n 2, 1) := by decide +kernel
theorem dX5_row_9 : decode cX5_row 9 = .ok (.iconst 0, 1) := by decide +kernel
theorem dX5_row_10 : decode cX5_row 10 = .ok (.bipush 7, 2) := by decide +kernel
theorem dX5_row_12 : decode cX5_row 12 = .ok (.invokestatic 52, 3) := by decide +kernel
theorem dX5_row_15 : decode cX5_row 15 = .ok (.ifCond .ne 5, 3) := by decide +kernel
theorem dX5_row_18 : decode cX5_row 18 = .ok (.iconst (-1), 1) := by decide +kernel
theorem dX5_row_19 : decode cX5_row 19 = .ok (.ireturn, 1) := by decide +kernel
theorem dX5_row_20 : decode cX5_row 20 = .ok (.aload_n 0, 1) := by decide +kernel
theorem dX5_row_21 : decode cX5_row 21 = .ok (.getfield 11, 3) := by decide +kernel
theorem dX5_row_24 : decode cX5_row 24 = .ok (.iload_n 1, 1) := by decide +kernel
theorem dX5_row_25 : decode cX5_row 25 = .ok (.aaload, 1) := by decide +kernel
theorem dX5_row_26 : decode cX5_row 26 = .ok (.iload_n 2, 1) := by decide +kernel
theorem dX5_row_27 : decode cX5_row 27 = .ok (.invokestatic 151, 3) := by decide +kernel
theorem dX5_row_30 : decode cX5_row 30 = .ok (.ireturn, 1) := by decide +kernel
theorem dX5_word_0 : decode cX5_word 0 = .ok (.aload_n 0, 1) := by decide +kernel
theorem dX5_word_1 : decode cX5_word 1 = .ok (.iload_n 1, 1) := by decide +kernel
theorem dX5_word_2 : decode cX5_word 2 = .ok (.invokevirtual 45, 3) := by decide +kernel
theorem dX5_word_5 : decode cX5_word 5 = .ok (.ifCond .eq 7, 3) := by decide +kernel
theorem dX5_word_8 : decode cX5_word 8 = .ok (.iload_n 2, 1) := by decide +kernel
theorem dX5_word_9 : decode cX5_word 9 = .ok (.ifCond .ge 5, 3) := by decide +kernel
theorem dX5_word_12 : decode cX5_word 12 = .ok (.iconst (-1), 1) := by decide +kernel
theorem dX5_word_13 : decode cX5_word 13 = .ok (.ireturn, 1) := by decide +kernel
theorem dX5_word_14 : decode cX5_word 14 = .ok (.aload_n 0, 1) := by decide +kernel
theorem dX5_word_15 : decode cX5_word 15 = .ok (.getfield 11, 3) := by decide +kernel
theorem dX5_word_18 : decode cX5_word 18 = .ok (.iload_n 1, 1) := by decide +kernel
theorem dX5_word_19 : decode cX5_word 19 = .ok (.aaload, 1) := by decide +kernel
theorem dX5_word_20 : decode cX5_word 20 = .ok (.iload_n 2, 1) := by decide +kernel
theorem dX5_word_21 : decode cX5_word 21 = .ok (.invokestatic 155, 3) := by decide +kernel
theorem dX5_word_24 : decode cX5_word 24 = .ok (.ireturn, 1) := by decide +kernel
theorem dX5_bit_0 : decode cX5_bit 0 = .ok (.aload_n 0, 1) := by decide +kernel
theorem dX5_bit_1 : decode cX5_bit 1 = .ok (.iload_n 1, 1) := by decide +kernel
theorem dX5_bit_2 : decode cX5_bit 2 = .ok (.invokevirtual 45, 3) := by decide +kernel
theorem dX5_bit_5 : decode cX5_bit 5 = .ok (.ifCond .eq 12, 3) := by decide +kernel
theorem dX5_bit_8 : decode cX5_bit 8 = .ok (.aload_n 0, 1) := by decide +kernel
theorem dX5_bit_9 : decode cX5_bit 9 = .ok (.iload_n 1, 1) := by decide +kernel
theorem dX5_bit_10 : decode cX5_bit 10 = .ok (.iload_n 2, 1) := by decide +kernel
theorem dX5_bit_11 : decode cX5_bit 11 = .ok (.invokevirtual 73, 3) := by decide +kernel
theorem dX5_bit_14 : decode cX5_bit 14 = .ok (.ifCond .ne 5, 3) := by decide +kernel
theorem dX5_bit_17 : decode cX5_bit 17 = .ok (.iconst (-1), 1) := by decide +kernel
theorem dX5_bit_18 : decode cX5_bit 18 = .ok (.ireturn, 1) := by decide +kernel
theorem dX5_bit_19 : decode cX5_bit 19 = .ok (.aload_n 0, 1) := by decide +kernel
theorem dX5_bit_20 : decode cX5_bit 20 = .ok (.getfield 11, 3) := by decide +kernel
theorem dX5_bit_23 : decode cX5_bit 23 = .ok (.iload_n 1, 1) := by decide +kernel
theorem dX5_bit_24 : decode cX5_bit 24 = .ok (.aaload, 1) := by decide +kernel
theorem dX5_bit_25 : decode cX5_bit 25 = .ok (.iload_n 2, 1) := by decide +kernel
theorem dX5_bit_26 : decode cX5_bit 26 = .ok (.invokevirtual 77, 3) := by decide +kernel
theorem dX5_bit_29 : decode cX5_bit 29 = .ok (.ireturn, 1) := by decide +kernel
theorem dX5_rank_0 : decode cX5_rank 0 = .ok (.aload_n 0, 1) := by decide +kernel
theorem dX5_rank_1 : decode cX5_rank 1 = .ok (.iload_n 1, 1) := by decide +kernel
theorem dX5_rank_2 : decode cX5_rank 2 = .ok (.invokevirtual 45, 3) := by decide +kernel
theorem dX5_rank_5 : decode cX5_rank 5 = .ok (.ifCond .eq 20, 3) := by decide +kernel
theorem dX5_rank_8 : decode cX5_rank 8 = .ok (.iload_n 2, 1) := by decide +kernel
theorem dX5_rank_9 : decode cX5_rank 9 = .ok (.iconst 0, 1) := by decide +kernel
theorem dX5_rank_10 : decode cX5_rank 10 = .ok (.aload_n 0, 1) := by decide +kernel
theorem dX5_rank_11 : decode cX5_rank 11 = .ok (.getfield 11, 3) := by decide +kernel
theorem dX5_rank_14 : decode cX5_rank 14 = .ok (.iload_n 1, 1) := by decide +kernel
theorem dX5_rank_15 : decode cX5_rank 15 = .ok (.aaload, 1) := by decide +kernel
theorem dX5_rank_16 : decode cX5_rank 16 = .ok (.getfield 56, 3) := by decide +kernel
theorem dX5_rank_19 : decode cX5_rank 19 = .ok (.invokestatic 52, 3) := by decide +kernel
theorem dX5_rank_22 : decode cX5_rank 22 = .ok (.ifCond .ne 5, 3) := by decide +kernel
theorem dX5_rank_25 : decode cX5_rank 25 = .ok (.iconst (-1), 1) := by decide +kernel
theorem dX5_rank_26 : decode cX5_rank 26 = .ok (.ireturn, 1) := by decide +kernel
theorem dX5_rank_27 : decode cX5_rank 27 = .ok (.aload_n 0, 1) := by decide +kernel
theorem dX5_rank_28 : decode cX5_rank 28 = .ok (.getfield 11, 3) := by decide +kernel
theorem dX5_rank_31 : decode cX5_rank 31 = .ok (.iload_n 1, 1) := by decide +kernel
theorem dX5_rank_32 : decode cX5_rank 32 = .ok (.aaload, 1) := by decide +kernel
theorem dX5_rank_33 : decode cX5_rank 33 = .ok (.iload_n 2, 1) := by decide +kernel
theorem dX5_rank_34 : decode cX5_rank 34 = .ok (.invokevirtual 158, 3) := by decide +kernel
theorem dX5_rank_37 : decode cX5_rank 37 = .ok (.ireturn, 1) := by decide +kernel
theorem dX5_select_0 : decode cX5_select 0 = .ok (.aload_n 0, 1) := by decide +kernel
theorem dX5_select_1 : decode cX5_select 1 = .ok (.iload_n 1, 1) := by decide +kernel
theorem dX5_select_2 : decode cX5_select 2 = .ok (.invokevirtual 45, 3) := by decide +kernel
theorem dX5_select_5 : decode cX5_select 5 = .ok (.ifCond .eq 7, 3) := by decide +kernel
theorem dX5_select_8 : decode cX5_select 8 = .ok (.iload_n 2, 1) := by decide +kernel
theorem dX5_select_9 : decode cX5_select 9 = .ok (.ifCond .ge 5, 3) := by decide +kernel
theorem dX5_select_12 : decode cX5_select 12 = .ok (.iconst (-1), 1) := by decide +kernel
theorem dX5_select_13 : decode cX5_select 13 = .ok (.ireturn, 1) := by decide +kernel
theorem dX5_select_14 : decode cX5_select 14 = .ok (.aload_n 0, 1) := by decide +kernel
theorem dX5_select_15 : decode cX5_select 15 = .ok (.getfield 11, 3) := by decide +kernel
theorem dX5_select_18 : decode cX5_select 18 = .ok (.iload_n 1, 1) := by decide +kernel
theorem dX5_select_19 : decode cX5_select 19 = .ok (.aaload, 1) := by decide +kernel
theorem dX5_select_20 : decode cX5_select 20 = .ok (.iload_n 2, 1) := by decide +kernel
theorem dX5_select_21 : decode cX5_select 21 = .ok (.invokevirtual 161, 3) := by decide +kernel
theorem dX5_select_24 : decode cX5_select 24 = .ok (.ireturn, 1) := by decide +kernel
theorem dX5_would_0 : decode cX5_would 0 = .ok (.iload_n 1, 1) := by decide +kernel
theorem dX5_would_1 : decode cX5_would 1 = .ok (.invokestatic 84, 3) := by decide +kernel
theorem dX5_would_4 : decode cX5_would 4 = .ok (.ifCond .eq 29, 3) := by decide +kernel
theorem dX5_would_7 : decode cX5_would 7 = .ok (.aload_n 0, 1) := by decide +kernel
theorem dX5_would_8 : decode cX5_would 8 = .ok (.iload_n 2, 1) := by decide +kernel
theorem dX5_would_9 : decode cX5_would 9 = .ok (.invokevirtual 45, 3) := by decide +kernel
theorem dX5_would_12 : decode cX5_would 12 = .ok (.ifCond .eq 21, 3) := by decide +kernel
theorem dX5_would_15 : decode cX5_would 15 = .ok (.aload_n 0, 1) := by decide +kernel
theorem dX5_would_16 : decode cX5_would 16 = .ok (.iload_n 3, 1) := by decide +kernel
theorem dX5_would_17 : decode cX5_would 17 = .ok (.invokevirtual 45, 3) := by decide +kernel
theorem dX5_would_20 : decode cX5_would 20 = .ok (.ifCond .eq 13, 3) := by decide +kernel
theorem dX5_would_23 : decode cX5_would 23 = .ok (.iload 4, 2) := by decide +kernel
theorem dX5_would_25 : decode cX5_would 25 = .ok (.iconst 0, 1) := by decide +kernel
theorem dX5_would_26 : decode cX5_would 26 = .ok (.iconst 2, 1) := by decide +kernel
theorem dX5_would_27 : decode cX5_would 27 = .ok (.invokestatic 52, 3) := by decide +kernel
theorem dX5_would_30 : decode cX5_would 30 = .ok (.ifCond .ne 5, 3) := by decide +kernel
theorem dX5_would_33 : decode cX5_would 33 = .ok (.iconst (-1), 1) := by decide +kernel
theorem dX5_would_34 : decode cX5_would 34 = .ok (.ireturn, 1) := by decide +kernel
theorem dX5_would_35 : decode cX5_would 35 = .ok (.iload 4, 2) := by decide +kernel
theorem dX5_would_37 : decode cX5_would 37 = .ok (.ifCond .ne 19, 3) := by decide +kernel
theorem dX5_would_40 : decode cX5_would 40 = .ok (.aload_n 0, 1) := by decide +kernel
theorem dX5_would_41 : decode cX5_would 41 = .ok (.getfield 11, 3) := by decide +kernel
theorem dX5_would_44 : decode cX5_would 44 = .ok (.iload_n 2, 1) := by decide +kernel
theorem dX5_would_45 : decode cX5_would 45 = .ok (.aaload, 1) := by decide +kernel
theorem dX5_would_46 : decode cX5_would 46 = .ok (.aload_n 0, 1) := by decide +kernel
theorem dX5_would_47 : decode cX5_would 47 = .ok (.getfield 11, 3) := by decide +kernel
theorem dX5_would_50 : decode cX5_would 50 = .ok (.iload_n 3, 1) := by decide +kernel
theorem dX5_would_51 : decode cX5_would 51 = .ok (.aaload, 1) := by decide +kernel
theorem dX5_would_52 : decode cX5_would 52 = .ok (.invokestatic 87, 3) := by decide +kernel
theorem dX5_would_55 : decode cX5_would 55 = .ok (.ireturn, 1) := by decide +kernel
theorem dX5_would_56 : decode cX5_would 56 = .ok (.aload_n 0, 1) := by decide +kernel
theorem dX5_would_57 : decode cX5_would 57 = .ok (.getfield 30, 3) := by decide +kernel
theorem dX5_would_60 : decode cX5_would 60 = .ok (.iload_n 1, 1) := by decide +kernel
theorem dX5_would_61 : decode cX5_would 61 = .ok (.aload_n 0, 1) := by decide +kernel
theorem dX5_would_62 : decode cX5_would 62 = .ok (.getfield 11, 3) := by decide +kernel
theorem dX5_would_65 : decode cX5_would 65 = .ok (.iload_n 2, 1) := by decide +kernel
theorem dX5_would_66 : decode cX5_would 66 = .ok (.aaload, 1) := by decide +kernel
theorem dX5_would_67 : decode cX5_would 67 = .ok (.aload_n 0, 1) := by decide +kernel
theorem dX5_would_68 : decode cX5_would 68 = .ok (.getfield 11, 3) := by decide +kernel
theorem dX5_would_71 : decode cX5_would 71 = .ok (.iload_n 3, 1) := by decide +kernel
theorem dX5_would_72 : decode cX5_would 72 = .ok (.aaload, 1) := by decide +kernel
theorem dX5_would_73 : decode cX5_would 73 = .ok (.invokevirtual 91, 3) := by decide +kernel
theorem dX5_would_76 : decode cX5_would 76 = .ok (.iload 4, 2) := by decide +kernel
theorem dX5_would_78 : decode cX5_would 78 = .ok (.iconst 1, 1) := by decide +kernel
theorem dX5_would_79 : decode cX5_would 79 = .ok (.if_icmp .ne 13, 3) := by decide +kernel
theorem dX5_would_82 : decode cX5_would 82 = .ok (.aload_n 0, 1) := by decide +kernel
theorem dX5_would_83 : decode cX5_would 83 = .ok (.getfield 30, 3) := by decide +kernel
theorem dX5_would_86 : decode cX5_would 86 = .ok (.invokestatic 67, 3) := by decide +kernel
theorem dX5_would_89 : decode cX5_would 89 = .ok (.goto 10, 3) := by decide +kernel
theorem dX5_would_92 : decode cX5_would 92 = .ok (.aload_n 0, 1) := by decide +kernel
theorem dX5_would_93 : decode cX5_would 93 = .ok (.getfield 30, 3) := by decide +kernel
theorem dX5_would_96 : decode cX5_would 96 = .ok (.invokevirtual 98, 3) := by decide +kernel
theorem dX5_would_99 : decode cX5_would 99 = .ok (.ireturn, 1) := by decide +kernel
theorem dX5_same_0 : decode cX5_same 0 = .ok (.aload_n 0, 1) := by decide +kernel
theorem dX5_same_1 : decode cX5_same 1 = .ok (.iload_n 1, 1) := by decide +kernel
theorem dX5_same_2 : decode cX5_same 2 = .ok (.invokevirtual 45, 3) := by decide +kernel
theorem dX5_same_5 : decode cX5_same 5 = .ok (.ifCond .ne 5, 3) := by decide +kernel
theorem dX5_same_8 : decode cX5_same 8 = .ok (.iconst (-1), 1) := by decide +kernel
theorem dX5_same_9 : decode cX5_same 9 = .ok (.ireturn, 1) := by decide +kernel
theorem dX5_same_10 : decode cX5_same 10 = .ok (.iconst 0, 1) := by decide +kernel
theorem dX5_same_11 : decode cX5_same 11 = .ok (.istore_n 2, 1) := by decide +kernel
theorem dX5_same_12 : decode cX5_same 12 = .ok (.iload_n 2, 1) := by decide +kernel
theorem dX5_same_13 : decode cX5_same 13 = .ok (.iload_n 1, 1) := by decide +kernel
theorem dX5_same_14 : decode cX5_same 14 = .ok (.if_icmp .ge 29, 3) := by decide +kernel
theorem dX5_same_17 : decode cX5_same 17 = .ok (.aload_n 0, 1) := by decide +kernel
theorem dX5_same_18 : decode cX5_same 18 = .ok (.getfield 11, 3) := by decide +kernel
theorem dX5_same_21 : decode cX5_same 21 = .ok (.iload_n 2, 1) := by decide +kernel
theorem dX5_same_22 : decode cX5_same 22 = .ok (.aaload, 1) := by decide +kernel
theorem dX5_same_23 : decode cX5_same 23 = .ok (.aload_n 0, 1) := by decide +kernel
theorem dX5_same_24 : decode cX5_same 24 = .ok (.getfield 11, 3) := by decide +kernel
theorem dX5_same_27 : decode cX5_same 27 = .ok (.iload_n 1, 1) := by decide +kernel
theorem dX5_same_28 : decode cX5_same 28 = .ok (.aaload, 1) := by decide +kernel
theorem dX5_same_29 : decode cX5_same 29 = .ok (.invokevirtual 164, 3) := by decide +kernel
theorem dX5_same_32 : decode cX5_same 32 = .ok (.ifCond .eq 5, 3) := by decide +kernel
theorem dX5_same_35 : decode cX5_same 35 = .ok (.iload_n 2, 1) := by decide +kernel
theorem dX5_same_36 : decode cX5_same 36 = .ok (.ireturn, 1) := by decide +kernel
theorem dX5_same_37 : decode cX5_same 37 = .ok (.iinc 2 1, 3) := by decide +kernel
theorem dX5_same_40 : decode cX5_same 40 = .ok (.goto (-28), 3) := by decide +kernel
theorem dX5_same_43 : decode cX5_same 43 = .ok (.iload_n 1, 1) := by decide +kernel
theorem dX5_same_44 : decode cX5_same 44 = .ok (.ireturn, 1) := by decide +kernel
theorem dX5_bestShift_0 : decode cX5_bestShift 0 = .ok (.aload_n 0, 1) := by decide +kernel
theorem dX5_bestShift_1 : decode cX5_bestShift 1 = .ok (.iload_n 1, 1) := by decide +kernel
theorem dX5_bestShift_2 : decode cX5_bestShift 2 = .ok (.invokevirtual 45, 3) := by decide +kernel
theorem dX5_bestShift_5 : decode cX5_bestShift 5 = .ok (.ifCond .ne 5, 3) := by decide +kernel
theorem dX5_bestShift_8 : decode cX5_bestShift 8 = .ok (.iconst (-1), 1) := by decide +kernel
theorem dX5_bestShift_9 : decode cX5_bestShift 9 = .ok (.ireturn, 1) := by decide +kernel
theorem dX5_bestShift_10 : decode cX5_bestShift 10 = .ok (.iconst 0, 1) := by decide +kernel
theorem dX5_bestShift_11 : decode cX5_bestShift 11 = .ok (.istore_n 2, 1) := by decide +kernel
theorem dX5_bestShift_12 : decode cX5_bestShift 12 = .ok (.aload_n 0, 1) := by decide +kernel
theorem dX5_bestShift_13 : decode cX5_bestShift 13 = .ok (.getfield 11, 3) := by decide +kernel
theorem dX5_bestShift_16 : decode cX5_bestShift 16 = .ok (.iload_n 1, 1) := by decide +kernel
theorem dX5_bestShift_17 : decode cX5_bestShift 17 = .ok (.aaload, 1) := by decide +kernel
theorem dX5_bestShift_18 : decode cX5_bestShift 18 = .ok (.invokestatic 67, 3) := by decide +kernel
theorem dX5_bestShift_21 : decode cX5_bestShift 21 = .ok (.istore_n 3, 1) := by decide +kernel
theorem dX5_bestShift_22 : decode cX5_bestShift 22 = .ok (.iconst 1, 1) := by decide +kernel
theorem dX5_bestShift_23 : decode cX5_bestShift 23 = .ok (.istore 4, 2) := by decide +kernel
theorem dX5_bestShift_25 : decode cX5_bestShift 25 = .ok (.iload 4, 2) := by decide +kernel
theorem dX5_bestShift_27 : decode cX5_bestShift 27 = .ok (.bipush 15, 2) := by decide +kernel
theorem dX5_bestShift_29 : decode cX5_bestShift 29 = .ok (.if_icmp .ge 45, 3) := by decide +kernel
theorem dX5_bestShift_32 : decode cX5_bestShift 32 = .ok (.aload_n 0, 1) := by decide +kernel
theorem dX5_bestShift_33 : decode cX5_bestShift 33 = .ok (.getfield 30, 3) := by decide +kernel
theorem dX5_bestShift_36 : decode cX5_bestShift 36 = .ok (.aload_n 0, 1) := by decide +kernel
theorem dX5_bestShift_37 : decode cX5_bestShift 37 = .ok (.getfield 11, 3) := by decide +kernel
theorem dX5_bestShift_40 : decode cX5_bestShift 40 = .ok (.iload_n 1, 1) := by decide +kernel
theorem dX5_bestShift_41 : decode cX5_bestShift 41 = .ok (.aaload, 1) := by decide +kernel
theorem dX5_bestShift_42 : decode cX5_bestShift 42 = .ok (.iload 4, 2) := by decide +kernel
theorem dX5_bestShift_44 : decode cX5_bestShift 44 = .ok (.invokevirtual 102, 3) := by decide +kernel
theorem dX5_bestShift_47 : decode cX5_bestShift 47 = .ok (.aload_n 0, 1) := by decide +kernel
theorem dX5_bestShift_48 : decode cX5_bestShift 48 = .ok (.getfield 30, 3) := by decide +kernel
theorem dX5_bestShift_51 : decode cX5_bestShift 51 = .ok (.invokestatic 67, 3) := by decide +kernel
theorem dX5_bestShift_54 : decode cX5_bestShift 54 = .ok (.istore 5, 2) := by decide +kernel
theorem dX5_bestShift_56 : decode cX5_bestShift 56 = .ok (.iload 5, 2) := by decide +kernel
theorem dX5_bestShift_58 : decode cX5_bestShift 58 = .ok (.iload_n 3, 1) := by decide +kernel
theorem dX5_bestShift_59 : decode cX5_bestShift 59 = .ok (.if_icmp .ge 9, 3) := by decide +kernel
theorem dX5_bestShift_62 : decode cX5_bestShift 62 = .ok (.iload 5, 2) := by decide +kernel
theorem dX5_bestShift_64 : decode cX5_bestShift 64 = .ok (.istore_n 3, 1) := by decide +kernel
theorem dX5_bestShift_65 : decode cX5_bestShift 65 = .ok (.iload 4, 2) := by decide +kernel
theorem dX5_bestShift_67 : decode cX5_bestShift 67 = .ok (.istore_n 2, 1) := by decide +kernel
theorem dX5_bestShift_68 : decode cX5_bestShift 68 = .ok (.iinc 4 1, 3) := by decide +kernel
theorem dX5_bestShift_71 : decode cX5_bestShift 71 = .ok (.goto (-46), 3) := by decide +kernel
theorem dX5_bestShift_74 : decode cX5_bestShift 74 = .ok (.iload_n 2, 1) := by decide +kernel
theorem dX5_bestShift_75 : decode cX5_bestShift 75 = .ok (.ireturn, 1) := by decide +kernel
theorem dX5_record_0 : decode cX5_record 0 = .ok (.aload_n 0, 1) := by decide +kernel
theorem dX5_record_1 : decode cX5_record 1 = .ok (.getfield 18, 3) := by decide +kernel
theorem dX5_record_4 : decode cX5_record 4 = .ok (.aload_n 0, 1) := by decide +kernel
theorem dX5_record_5 : decode cX5_record 5 = .ok (.getfield 34, 3) := by decide +kernel
theorem dX5_record_8 : decode cX5_record 8 = .ok (.iload_n 1, 1) := by decide +kernel
theorem dX5_record_9 : decode cX5_record 9 = .ok (.aload_n 0, 1) := by decide +kernel
theorem dX5_record_10 : decode cX5_record 10 = .ok (.getfield 11, 3) := by decide +kernel
theorem dX5_record_13 : decode cX5_record 13 = .ok (.iload_n 1, 1) := by decide +kernel
theorem dX5_record_14 : decode cX5_record 14 = .ok (.aaload, 1) := by decide +kernel
theorem dX5_record_15 : decode cX5_record 15 = .ok (.invokevirtual 168, 3) := by decide +kernel
theorem dX5_record_18 : decode cX5_record 18 = .ok (.return_, 1) := by decide +kernel
theorem dX5_sum_0 : decode cX5_sum 0 = .ok (.iconst 0, 1) := by decide +kernel
theorem dX5_sum_1 : decode cX5_sum 1 = .ok (.istore_n 2, 1) := by decide +kernel
theorem dX5_sum_2 : decode cX5_sum 2 = .ok (.iconst 0, 1) := by decide +kernel
theorem dX5_sum_3 : decode cX5_sum 3 = .ok (.istore_n 3, 1) := by decide +kernel
theorem dX5_sum_4 : decode cX5_sum 4 = .ok (.iload_n 3, 1) := by decide +kernel
theorem dX5_sum_5 : decode cX5_sum 5 = .ok (.aload_n 0, 1) := by decide +kernel
theorem dX5_sum_6 : decode cX5_sum 6 = .ok (.getfield 34, 3) := by decide +kernel
theorem dX5_sum_9 : decode cX5_sum 9 = .ok (.if_icmp .ge 22, 3) := by decide +kernel
theorem dX5_sum_12 : decode cX5_sum 12 = .ok (.iload_n 2, 1) := by decide +kernel
theorem dX5_sum_13 : decode cX5_sum 13 = .ok (.aload_n 0, 1) := by decide +kernel
theorem dX5_sum_14 : decode cX5_sum 14 = .ok (.getfield 11, 3) := by decide +kernel
theorem dX5_sum_17 : decode cX5_sum 17 = .ok (.iload_n 3, 1) := by decide +kernel
theorem dX5_sum_18 : decode cX5_sum 18 = .ok (.aaload, 1) := by decide +kernel
theorem dX5_sum_19 : decode cX5_sum 19 = .ok (.iload_n 1, 1) := by decide +kernel
theorem dX5_sum_20 : decode cX5_sum 20 = .ok (.invokestatic 151, 3) := by decide +kernel
theorem dX5_sum_23 : decode cX5_sum 23 = .ok (.iadd, 1) := by decide +kernel
theorem dX5_sum_24 : decode cX5_sum 24 = .ok (.istore_n 2, 1) := by decide +kernel
theorem dX5_sum_25 : decode cX5_sum 25 = .ok (.iinc 3 1, 3) := by decide +kernel
theorem dX5_sum_28 : decode cX5_sum 28 = .ok (.goto (-24), 3) := by decide +kernel
theorem dX5_sum_31 : decode cX5_sum 31 = .ok (.iload_n 2, 1) := by decide +kernel
theorem dX5_sum_32 : decode cX5_sum 32 = .ok (.ireturn, 1) := by decide +kernel
theorem dX5_property_0 : decode cX5_property 0 = .ok (.iload_n 1, 1) := by decide +kernel
theorem dX5_property_1 : decode cX5_property 1 = .ok (.tableswitch 83 0 6 #[43, 48, 53, 58, 64, 72, 77], 43) := by decide +kernel
theorem dX5_property_44 : decode cX5_property 44 = .ok (.aload_n 0, 1) := by decide +kernel
theorem dX5_property_45 : decode cX5_property 45 = .ok (.getfield 56, 3) := by decide +kernel
theorem dX5_property_48 : decode cX5_property 48 = .ok (.ireturn, 1) := by decide +kernel
theorem dX5_property_49 : decode cX5_property 49 = .ok (.aload_n 0, 1) := by decide +kernel
theorem dX5_property_50 : decode cX5_property 50 = .ok (.invokestatic 67, 3) := by decide +kernel
theorem dX5_property_53 : decode cX5_property 53 = .ok (.ireturn, 1) := by decide +kernel
theorem dX5_property_54 : decode cX5_property 54 = .ok (.aload_n 0, 1) := by decide +kernel
theorem dX5_property_55 : decode cX5_property 55 = .ok (.invokestatic 172, 3) := by decide +kernel
theorem dX5_property_58 : decode cX5_property 58 = .ok (.ireturn, 1) := by decide +kernel
theorem dX5_property_59 : decode cX5_property 59 = .ok (.aload_n 0, 1) := by decide +kernel
theorem dX5_property_60 : decode cX5_property 60 = .ok (.iconst 0, 1) := by decide +kernel
theorem dX5_property_61 : decode cX5_property 61 = .ok (.invokestatic 175, 3) := by decide +kernel
theorem dX5_property_64 : decode cX5_property 64 = .ok (.ireturn, 1) := by decide +kernel
theorem dX5_property_65 : decode cX5_property 65 = .ok (.aload_n 0, 1) := by decide +kernel
theorem dX5_property_66 : decode cX5_property 66 = .ok (.sipush 32767, 3) := by decide +kernel
theorem dX5_property_69 : decode cX5_property 69 = .ok (.invokestatic 175, 3) := by decide +kernel
theorem dX5_property_72 : decode cX5_property 72 = .ok (.ireturn, 1) := by decide +kernel
theorem dX5_property_73 : decode cX5_property 73 = .ok (.aload_n 0, 1) := by decide +kernel
theorem dX5_property_74 : decode cX5_property 74 = .ok (.invokevirtual 98, 3) := by decide +kernel
theorem dX5_property_77 : decode cX5_property 77 = .ok (.ireturn, 1) := by decide +kernel
theorem dX5_property_78 : decode cX5_property 78 = .ok (.aload_n 0, 1) := by decide +kernel
theorem dX5_property_79 : decode cX5_property 79 = .ok (.iconst 0, 1) := by decide +kernel
theorem dX5_property_80 : decode cX5_property 80 = .ok (.invokevirtual 161, 3) := by decide +kernel
theorem dX5_property_83 : decode cX5_property 83 = .ok (.ireturn, 1) := by decide +kernel
theorem dX5_property_84 : decode cX5_property 84 = .ok (.aload_n 0, 1) := by decide +kernel
theorem dX5_property_85 : decode cX5_property 85 = .ok (.aload_n 0, 1) := by decide +kernel
theorem dX5_property_86 : decode cX5_property 86 = .ok (.invokevirtual 98, 3) := by decide +kernel
theorem dX5_property_89 : decode cX5_property 89 = .ok (.iconst 1, 1) := by decide +kernel
theorem dX5_property_90 : decode cX5_property 90 = .ok (.isub, 1) := by decide +kernel
theorem dX5_property_91 : decode cX5_property 91 = .ok (.invokevirtual 161, 3) := by decide +kernel
theorem dX5_property_94 : decode cX5_property 94 = .ok (.ireturn, 1) := by decide +kernel
theorem dX5_isRow_0 : decode cX5_isRow 0 = .ok (.iload_n 1, 1) := by decide +kernel
theorem dX5_isRow_1 : decode cX5_isRow 1 = .ok (.iconst 0, 1) := by decide +kernel
theorem dX5_isRow_2 : decode cX5_isRow 2 = .ok (.aload_n 0, 1) := by decide +kernel
theorem dX5_isRow_3 : decode cX5_isRow 3 = .ok (.getfield 34, 3) := by decide +kernel
theorem dX5_isRow_6 : decode cX5_isRow 6 = .ok (.iconst 1, 1) := by decide +kernel
theorem dX5_isRow_7 : decode cX5_isRow 7 = .ok (.isub, 1) := by decide +kernel
theorem dX5_isRow_8 : decode cX5_isRow 8 = .ok (.invokestatic 52, 3) := by decide +kernel
theorem dX5_isRow_11 : decode cX5_isRow 11 = .ok (.ireturn, 1) := by decide +kernel
theorem dX5_isPlace_0 : decode cX5_isPlace 0 = .ok (.iload_n 2, 1) := by decide +kernel
theorem dX5_isPlace_1 : decode cX5_isPlace 1 = .ok (.iconst 0, 1) := by decide +kernel
theorem dX5_isPlace_2 : decode cX5_isPlace 2 = .ok (.aload_n 0, 1) := by decide +kernel
theorem dX5_isPlace_3 : decode cX5_isPlace 3 = .ok (.getfield 11, 3) := by decide +kernel
theorem dX5_isPlace_6 : decode cX5_isPlace 6 = .ok (.iload_n 1, 1) := by decide +kernel
theorem dX5_isPlace_7 : decode cX5_isPlace 7 = .ok (.aaload, 1) := by decide +kernel
theorem dX5_isPlace_8 : decode cX5_isPlace 8 = .ok (.getfield 56, 3) := by decide +kernel
theorem dX5_isPlace_11 : decode cX5_isPlace 11 = .ok (.iconst 1, 1) := by decide +kernel
theorem dX5_isPlace_12 : decode cX5_isPlace 12 = .ok (.isub, 1) := by decide +kernel
theorem dX5_isPlace_13 : decode cX5_isPlace 13 = .ok (.invokestatic 52, 3) := by decide +kernel
theorem dX5_isPlace_16 : decode cX5_isPlace 16 = .ok (.ireturn, 1) := by decide +kernel
theorem dX5_isBit_0 : decode cX5_isBit 0 = .ok (.iload_n 0, 1) := by decide +kernel
theorem dX5_isBit_1 : decode cX5_isBit 1 = .ok (.iconst 0, 1) := by decide +kernel
theorem dX5_isBit_2 : decode cX5_isBit 2 = .ok (.iconst 1, 1) := by decide +kernel
theorem dX5_isBit_3 : decode cX5_isBit 3 = .ok (.invokestatic 52, 3) := by decide +kernel
theorem dX5_isBit_6 : decode cX5_isBit 6 = .ok (.ireturn, 1) := by decide +kernel
theorem dX5_isOperation_0 : decode cX5_isOperation 0 = .ok (.iload_n 0, 1) := by decide +kernel
theorem dX5_isOperation_1 : decode cX5_isOperation 1 = .ok (.iconst 0, 1) := by decide +kernel
theorem dX5_isOperation_2 : decode cX5_isOperation 2 = .ok (.iconst 3, 1) := by decide +kernel
theorem dX5_isOperation_3 : decode cX5_isOperation 3 = .ok (.invokestatic 52, 3) := by decide +kernel
theorem dX5_isOperation_6 : decode cX5_isOperation 6 = .ok (.ireturn, 1) := by decide +kernel
theorem dX5_isWithin_0 : decode cX5_isWithin 0 = .ok (.iload_n 0, 1) := by decide +kernel
theorem dX5_isWithin_1 : decode cX5_isWithin 1 = .ok (.iload_n 1, 1) := by decide +kernel
theorem dX5_isWithin_2 : decode cX5_isWithin 2 = .ok (.if_icmp .lt 12, 3) := by decide +kernel
theorem dX5_isWithin_5 : decode cX5_isWithin 5 = .ok (.iload_n 0, 1) := by decide +kernel
theorem dX5_isWithin_6 : decode cX5_isWithin 6 = .ok (.iload_n 2, 1) := by decide +kernel
theorem dX5_isWithin_7 : decode cX5_isWithin 7 = .ok (.if_icmp .gt 7, 3) := by decide +kernel
theorem dX5_isWithin_10 : decode cX5_isWithin 10 = .ok (.iconst 1, 1) := by decide +kernel
theorem dX5_isWithin_11 : decode cX5_isWithin 11 = .ok (.goto 4, 3) := by decide +kernel
theorem dX5_isWithin_14 : decode cX5_isWithin 14 = .ok (.iconst 0, 1) := by decide +kernel
theorem dX5_isWithin_15 : decode cX5_isWithin 15 = .ok (.ireturn, 1) := by decide +kernel
theorem dJ6_bitCount_0f7a4_0 : decode cJ6_bitCount_0f7a4 0 = .ok (.iload_n 0, 1) := by decide +kernel
theorem dJ6_bitCount_0f7a4_1 : decode cJ6_bitCount_0f7a4 1 = .ok (.iload_n 0, 1) := by decide +kernel
theorem dJ6_bitCount_0f7a4_2 : decode cJ6_bitCount_0f7a4 2 = .ok (.iconst 1, 1) := by decide +kernel
theorem dJ6_bitCount_0f7a4_3 : decode cJ6_bitCount_0f7a4 3 = .ok (.iushr, 1) := by decide +kernel
theorem dJ6_bitCount_0f7a4_4 : decode cJ6_bitCount_0f7a4 4 = .ok (.ldc_w 265, 3) := by decide +kernel
theorem dJ6_bitCount_0f7a4_7 : decode cJ6_bitCount_0f7a4 7 = .ok (.iand, 1) := by decide +kernel
theorem dJ6_bitCount_0f7a4_8 : decode cJ6_bitCount_0f7a4 8 = .ok (.isub, 1) := by decide +kernel
theorem dJ6_bitCount_0f7a4_9 : decode cJ6_bitCount_0f7a4 9 = .ok (.istore_n 0, 1) := by decide +kernel
theorem dJ6_bitCount_0f7a4_10 : decode cJ6_bitCount_0f7a4 10 = .ok (.iload_n 0, 1) := by decide +kernel
theorem dJ6_bitCount_0f7a4_11 : decode cJ6_bitCount_0f7a4 11 = .ok (.ldc_w 266, 3) := by decide +kernel
theorem dJ6_bitCount_0f7a4_14 : decode cJ6_bitCount_0f7a4 14 = .ok (.iand, 1) := by decide +kernel
theorem dJ6_bitCount_0f7a4_15 : decode cJ6_bitCount_0f7a4 15 = .ok (.iload_n 0, 1) := by decide +kernel
theorem dJ6_bitCount_0f7a4_16 : decode cJ6_bitCount_0f7a4 16 = .ok (.iconst 2, 1) := by decide +kernel
theorem dJ6_bitCount_0f7a4_17 : decode cJ6_bitCount_0f7a4 17 = .ok (.iushr, 1) := by decide +kernel
theorem dJ6_bitCount_0f7a4_18 : decode cJ6_bitCount_0f7a4 18 = .ok (.ldc_w 266, 3) := by decide +kernel
theorem dJ6_bitCount_0f7a4_21 : decode cJ6_bitCount_0f7a4 21 = .ok (.iand, 1) := by decide +kernel
theorem dJ6_bitCount_0f7a4_22 : decode cJ6_bitCount_0f7a4 22 = .ok (.iadd, 1) := by decide +kernel
theorem dJ6_bitCount_0f7a4_23 : decode cJ6_bitCount_0f7a4 23 = .ok (.istore_n 0, 1) := by decide +kernel
theorem dJ6_bitCount_0f7a4_24 : decode cJ6_bitCount_0f7a4 24 = .ok (.iload_n 0, 1) := by decide +kernel
theorem dJ6_bitCount_0f7a4_25 : decode cJ6_bitCount_0f7a4 25 = .ok (.iload_n 0, 1) := by decide +kernel
theorem dJ6_bitCount_0f7a4_26 : decode cJ6_bitCount_0f7a4 26 = .ok (.iconst 4, 1) := by decide +kernel
theorem dJ6_bitCount_0f7a4_27 : decode cJ6_bitCount_0f7a4 27 = .ok (.iushr, 1) := by decide +kernel
theorem dJ6_bitCount_0f7a4_28 : decode cJ6_bitCount_0f7a4 28 = .ok (.iadd, 1) := by decide +kernel
theorem dJ6_bitCount_0f7a4_29 : decode cJ6_bitCount_0f7a4 29 = .ok (.ldc_w 267, 3) := by decide +kernel
theorem dJ6_bitCount_0f7a4_32 : decode cJ6_bitCount_0f7a4 32 = .ok (.iand, 1) := by decide +kernel
theorem dJ6_bitCount_0f7a4_33 : decode cJ6_bitCount_0f7a4 33 = .ok (.istore_n 0, 1) := by decide +kernel
theorem dJ6_bitCount_0f7a4_34 : decode cJ6_bitCount_0f7a4 34 = .ok (.iload_n 0, 1) := by decide +kernel
theorem dJ6_bitCount_0f7a4_35 : decode cJ6_bitCount_0f7a4 35 = .ok (.iload_n 0, 1) := by decide +kernel
theorem dJ6_bitCount_0f7a4_36 : decode cJ6_bitCount_0f7a4 36 = .ok (.bipush 8, 2) := by decide +kernel
theorem dJ6_bitCount_0f7a4_38 : decode cJ6_bitCount_0f7a4 38 = .ok (.iushr, 1) := by decide +kernel
theorem dJ6_bitCount_0f7a4_39 : decode cJ6_bitCount_0f7a4 39 = .ok (.iadd, 1) := by decide +kernel
theorem dJ6_bitCount_0f7a4_40 : decode cJ6_bitCount_0f7a4 40 = .ok (.istore_n 0, 1) := by decide +kernel
theorem dJ6_bitCount_0f7a4_41 : decode cJ6_bitCount_0f7a4 41 = .ok (.iload_n 0, 1) := by decide +kernel
theorem dJ6_bitCount_0f7a4_42 : decode cJ6_bitCount_0f7a4 42 = .ok (.iload_n 0, 1) := by decide +kernel
theorem dJ6_bitCount_0f7a4_43 : decode cJ6_bitCount_0f7a4 43 = .ok (.bipush 16, 2) := by decide +kernel
theorem dJ6_bitCount_0f7a4_45 : decode cJ6_bitCount_0f7a4 45 = .ok (.iushr, 1) := by decide +kernel
theorem dJ6_bitCount_0f7a4_46 : decode cJ6_bitCount_0f7a4 46 = .ok (.iadd, 1) := by decide +kernel
theorem dJ6_bitCount_0f7a4_47 : decode cJ6_bitCount_0f7a4 47 = .ok (.istore_n 0, 1) := by decide +kernel
theorem dJ6_bitCount_0f7a4_48 : decode cJ6_bitCount_0f7a4 48 = .ok (.iload_n 0, 1) := by decide +kernel
theorem dJ6_bitCount_0f7a4_49 : decode cJ6_bitCount_0f7a4 49 = .ok (.bipush 63, 2) := by decide +kernel
theorem dJ6_bitCount_0f7a4_51 : decode cJ6_bitCount_0f7a4 51 = .ok (.iand, 1) := by decide +kernel
theorem dJ6_bitCount_0f7a4_52 : decode cJ6_bitCount_0f7a4 52 = .ok (.ireturn, 1) := by decide +kernel
theorem dJ9_floorDiv_7cf53_0 : decode cJ9_floorDiv_7cf53 0 = .ok (.iload_n 0, 1) := by decide +kernel
theorem dJ9_floorDiv_7cf53_1 : decode cJ9_floorDiv_7cf53 1 = .ok (.iload_n 1, 1) := by decide +kernel
theorem dJ9_floorDiv_7cf53_2 : decode cJ9_floorDiv_7cf53 2 = .ok (.idiv, 1) := by decide +kernel
theorem dJ9_floorDiv_7cf53_3 : decode cJ9_floorDiv_7cf53 3 = .ok (.istore_n 2, 1) := by decide +kernel
theorem dJ9_floorDiv_7cf53_4 : decode cJ9_floorDiv_7cf53 4 = .ok (.iload_n 0, 1) := by decide +kernel
theorem dJ9_floorDiv_7cf53_5 : decode cJ9_floorDiv_7cf53 5 = .ok (.iload_n 1, 1) := by decide +kernel
theorem dJ9_floorDiv_7cf53_6 : decode cJ9_floorDiv_7cf53 6 = .ok (.ixor, 1) := by decide +kernel
theorem dJ9_floorDiv_7cf53_7 : decode cJ9_floorDiv_7cf53 7 = .ok (.ifCond .ge 14, 3) := by decide +kernel
theorem dJ9_floorDiv_7cf53_10 : decode cJ9_floorDiv_7cf53 10 = .ok (.iload_n 2, 1) := by decide +kernel
theorem dJ9_floorDiv_7cf53_11 : decode cJ9_floorDiv_7cf53 11 = .ok (.iload_n 1, 1) := by decide +kernel
theorem dJ9_floorDiv_7cf53_12 : decode cJ9_floorDiv_7cf53 12 = .ok (.imul, 1) := by decide +kernel
theorem dJ9_floorDiv_7cf53_13 : decode cJ9_floorDiv_7cf53 13 = .ok (.iload_n 0, 1) := by decide +kernel
theorem dJ9_floorDiv_7cf53_14 : decode cJ9_floorDiv_7cf53 14 = .ok (.if_icmp .eq 7, 3) := by decide +kernel
theorem dJ9_floorDiv_7cf53_17 : decode cJ9_floorDiv_7cf53 17 = .ok (.iload_n 2, 1) := by decide +kernel
theorem dJ9_floorDiv_7cf53_18 : decode cJ9_floorDiv_7cf53 18 = .ok (.iconst 1, 1) := by decide +kernel
theorem dJ9_floorDiv_7cf53_19 : decode cJ9_floorDiv_7cf53 19 = .ok (.isub, 1) := by decide +kernel
theorem dJ9_floorDiv_7cf53_20 : decode cJ9_floorDiv_7cf53 20 = .ok (.ireturn, 1) := by decide +kernel
theorem dJ9_floorDiv_7cf53_21 : decode cJ9_floorDiv_7cf53 21 = .ok (.iload_n 2, 1) := by decide +kernel
theorem dJ9_floorDiv_7cf53_22 : decode cJ9_floorDiv_7cf53 22 = .ok (.ireturn, 1) := by decide +kernel
theorem dJ9_floorMod_7cf53_0 : decode cJ9_floorMod_7cf53 0 = .ok (.iload_n 0, 1) := by decide +kernel
theorem dJ9_floorMod_7cf53_1 : decode cJ9_floorMod_7cf53 1 = .ok (.iload_n 1, 1) := by decide +kernel
theorem dJ9_floorMod_7cf53_2 : decode cJ9_floorMod_7cf53 2 = .ok (.irem, 1) := by decide +kernel
theorem dJ9_floorMod_7cf53_3 : decode cJ9_floorMod_7cf53 3 = .ok (.istore_n 2, 1) := by decide +kernel
theorem dJ9_floorMod_7cf53_4 : decode cJ9_floorMod_7cf53 4 = .ok (.iload_n 0, 1) := by decide +kernel
theorem dJ9_floorMod_7cf53_5 : decode cJ9_floorMod_7cf53 5 = .ok (.iload_n 1, 1) := by decide +kernel
theorem dJ9_floorMod_7cf53_6 : decode cJ9_floorMod_7cf53 6 = .ok (.ixor, 1) := by decide +kernel
theorem dJ9_floorMod_7cf53_7 : decode cJ9_floorMod_7cf53 7 = .ok (.ifCond .ge 11, 3) := by decide +kernel
theorem dJ9_floorMod_7cf53_10 : decode cJ9_floorMod_7cf53 10 = .ok (.iload_n 2, 1) := by decide +kernel
theorem dJ9_floorMod_7cf53_11 : decode cJ9_floorMod_7cf53 11 = .ok (.ifCond .eq 7, 3) := by decide +kernel
theorem dJ9_floorMod_7cf53_14 : decode cJ9_floorMod_7cf53 14 = .ok (.iload_n 2, 1) := by decide +kernel
theorem dJ9_floorMod_7cf53_15 : decode cJ9_floorMod_7cf53 15 = .ok (.iload_n 1, 1) := by decide +kernel
theorem dJ9_floorMod_7cf53_16 : decode cJ9_floorMod_7cf53 16 = .ok (.iadd, 1) := by decide +kernel
theorem dJ9_floorMod_7cf53_17 : decode cJ9_floorMod_7cf53 17 = .ok (.ireturn, 1) := by decide +kernel
theorem dJ9_floorMod_7cf53_18 : decode cJ9_floorMod_7cf53 18 = .ok (.iload_n 2, 1) := by decide +kernel
theorem dJ9_floorMod_7cf53_19 : decode cJ9_floorMod_7cf53 19 = .ok (.ireturn, 1) := by decide +kernel
theorem dJ9_max_7cf53_0 : decode cJ9_max_7cf53 0 = .ok (.iload_n 0, 1) := by decide +kernel
theorem dJ9_max_7cf53_1 : decode cJ9_max_7cf53 1 = .ok (.iload_n 1, 1) := by decide +kernel
theorem dJ9_max_7cf53_2 : decode cJ9_max_7cf53 2 = .ok (.if_icmp .lt 7, 3) := by decide +kernel
theorem dJ9_max_7cf53_5 : decode cJ9_max_7cf53 5 = .ok (.iload_n 0, 1) := by decide +kernel
theorem dJ9_max_7cf53_6 : decode cJ9_max_7cf53 6 = .ok (.goto 4, 3) := by decide +kernel
theorem dJ9_max_7cf53_9 : decode cJ9_max_7cf53 9 = .ok (.iload_n 1, 1) := by decide +kernel
theorem dJ9_max_7cf53_10 : decode cJ9_max_7cf53 10 = .ok (.ireturn, 1) := by decide +kernel
theorem dJ9_min_7cf53_0 : decode cJ9_min_7cf53 0 = .ok (.iload_n 0, 1) := by decide +kernel
theorem dJ9_min_7cf53_1 : decode cJ9_min_7cf53 1 = .ok (.iload_n 1, 1) := by decide +kernel
theorem dJ9_min_7cf53_2 : decode cJ9_min_7cf53 2 = .ok (.if_icmp .gt 7, 3) := by decide +kernel
theorem dJ9_min_7cf53_5 : decode cJ9_min_7cf53 5 = .ok (.iload_n 0, 1) := by decide +kernel
theorem dJ9_min_7cf53_6 : decode cJ9_min_7cf53 6 = .ok (.goto 4, 3) := by decide +kernel
theorem dJ9_min_7cf53_9 : decode cJ9_min_7cf53 9 = .ok (.iload_n 1, 1) := by decide +kernel
theorem dJ9_min_7cf53_10 : decode cJ9_min_7cf53 10 = .ok (.ireturn, 1) := by decide +kernel
theorem dL_cell_0 : decode cL_cell 0 = .ok (.iload_n 1, 1) := by decide +kernel
theorem dL_cell_1 : decode cL_cell 1 = .ok (.aload_n 0, 1) := by decide +kernel
theorem dL_cell_2 : decode cL_cell 2 = .ok (.arraylength, 1) := by decide +kernel
theorem dL_cell_3 : decode cL_cell 3 = .ok (.if_icmp .ge 9, 3) := by decide +kernel
theorem dL_cell_6 : decode cL_cell 6 = .ok (.aload_n 0, 1) := by decide +kernel
theorem dL_cell_7 : decode cL_cell 7 = .ok (.iload_n 1, 1) := by decide +kernel
theorem dL_cell_8 : decode cL_cell 8 = .ok (.iaload, 1) := by decide +kernel
theorem dL_cell_9 : decode cL_cell 9 = .ok (.goto 16, 3) := by decide +kernel
theorem dL_cell_12 : decode cL_cell 12 = .ok (.sipush 7919, 3) := by decide +kernel
theorem dL_cell_15 : decode cL_cell 15 = .ok (.iload_n 1, 1) := by decide +kernel
theorem dL_cell_16 : decode cL_cell 16 = .ok (.bipush 17, 2) := by decide +kernel
theorem dL_cell_18 : decode cL_cell 18 = .ok (.iadd, 1) := by decide +kernel
theorem dL_cell_19 : decode cL_cell 19 = .ok (.imul, 1) := by decide +kernel
theorem dL_cell_20 : decode cL_cell 20 = .ok (.iload_n 1, 1) := by decide +kernel
theorem dL_cell_21 : decode cL_cell 21 = .ok (.bipush 43, 2) := by decide +kernel
theorem dL_cell_23 : decode cL_cell 23 = .ok (.iadd, 1) := by decide +kernel
theorem dL_cell_24 : decode cL_cell 24 = .ok (.imul, 1) := by decide +kernel
theorem dL_cell_25 : decode cL_cell 25 = .ok (.ireturn, 1) := by decide +kernel
theorem dL_low_0 : decode cL_low 0 = .ok (.iload_n 0, 1) := by decide +kernel
theorem dL_low_1 : decode cL_low 1 = .ok (.ldc 7, 2) := by decide +kernel
theorem dL_low_3 : decode cL_low 3 = .ok (.iand, 1) := by decide +kernel
theorem dL_low_4 : decode cL_low 4 = .ok (.iload_n 1, 1) := by decide +kernel
theorem dL_low_5 : decode cL_low 5 = .ok (.irem, 1) := by decide +kernel
theorem dL_low_6 : decode cL_low 6 = .ok (.ireturn, 1) := by decide +kernel
theorem dL_all_0 : decode cL_all 0 = .ok (.ldc2_w 8, 3) := by decide +kernel
theorem dL_all_3 : decode cL_all 3 = .ok (.lstore_n 1, 1) := by decide +kernel
theorem dL_all_4 : decode cL_all 4 = .ok (.iconst 0, 1) := by decide +kernel
theorem dL_all_5 : decode cL_all 5 = .ok (.istore_n 3, 1) := by decide +kernel
theorem dL_all_6 : decode cL_all 6 = .ok (.iload_n 3, 1) := by decide +kernel
theorem dL_all_7 : decode cL_all 7 = .ok (.iconst 4, 1) := by decide +kernel
theorem dL_all_8 : decode cL_all 8 = .ok (.if_icmp .ge 22, 3) := by decide +kernel
theorem dL_all_11 : decode cL_all 11 = .ok (.ldc2_w 10, 3) := by decide +kernel
theorem dL_all_14 : decode cL_all 14 = .ok (.lload_n 1, 1) := by decide +kernel
theorem dL_all_15 : decode cL_all 15 = .ok (.lmul, 1) := by decide +kernel
theorem dL_all_16 : decode cL_all 16 = .ok (.aload_n 0, 1) := by decide +kernel
theorem dL_all_17 : decode cL_all 17 = .ok (.iload_n 3, 1) := by decide +kernel
theorem dL_all_18 : decode cL_all 18 = .ok (.invokevirtual 12, 3) := by decide +kernel
theorem dL_all_21 : decode cL_all 21 = .ok (.i2l, 1) := by decide +kernel
theorem dL_all_22 : decode cL_all 22 = .ok (.ladd, 1) := by decide +kernel
theorem dL_all_23 : decode cL_all 23 = .ok (.lstore_n 1, 1) := by decide +kernel
theorem dL_all_24 : decode cL_all 24 = .ok (.iinc 3 1, 3) := by decide +kernel
theorem dL_all_27 : decode cL_all 27 = .ok (.goto (-21), 3) := by decide +kernel
theorem dL_all_30 : decode cL_all 30 = .ok (.iconst 0, 1) := by decide +kernel
theorem dL_all_31 : decode cL_all 31 = .ok (.istore_n 3, 1) := by decide +kernel
theorem dL_all_32 : decode cL_all 32 = .ok (.iload_n 3, 1) := by decide +kernel
theorem dL_all_33 : decode cL_all 33 = .ok (.aload_n 0, 1) := by decide +kernel
theorem dL_all_34 : decode cL_all 34 = .ok (.iconst 0, 1) := by decide +kernel
theorem dL_all_35 : decode cL_all 35 = .ok (.invokevirtual 12, 3) := by decide +kernel
theorem dL_all_38 : decode cL_all 38 = .ok (.if_icmp .ge 75, 3) := by decide +kernel
theorem dL_all_41 : decode cL_all 41 = .ok (.iconst 0, 1) := by decide +kernel
theorem dL_all_42 : decode cL_all 42 = .ok (.istore 4, 2) := by decide +kernel
theorem dL_all_44 : decode cL_all 44 = .ok (.iload 4, 2) := by decide +kernel
theorem dL_all_46 : decode cL_all 46 = .ok (.bipush 8, 2) := by decide +kernel
theorem dL_all_48 : decode cL_all 48 = .ok (.if_icmp .ge 24, 3) := by decide +kernel
theorem dL_all_51 : decode cL_all 51 = .ok (.ldc2_w 10, 3) := by decide +kernel
theorem dL_all_54 : decode cL_all 54 = .ok (.lload_n 1, 1) := by decide +kernel
theorem dL_all_55 : decode cL_all 55 = .ok (.lmul, 1) := by decide +kernel
theorem dL_all_56 : decode cL_all 56 = .ok (.aload_n 0, 1) := by decide +kernel
theorem dL_all_57 : decode cL_all 57 = .ok (.iload_n 3, 1) := by decide +kernel
theorem dL_all_58 : decode cL_all 58 = .ok (.iload 4, 2) := by decide +kernel
theorem dL_all_60 : decode cL_all 60 = .ok (.invokevirtual 18, 3) := by decide +kernel
theorem dL_all_63 : decode cL_all 63 = .ok (.i2l, 1) := by decide +kernel
theorem dL_all_64 : decode cL_all 64 = .ok (.ladd, 1) := by decide +kernel
theorem dL_all_65 : decode cL_all 65 = .ok (.lstore_n 1, 1) := by decide +kernel
theorem dL_all_66 : decode cL_all 66 = .ok (.iinc 4 1, 3) := by decide +kernel
theorem dL_all_69 : decode cL_all 69 = .ok (.goto (-25), 3) := by decide +kernel
theorem dL_all_72 : decode cL_all 72 = .ok (.iconst 0, 1) := by decide +kernel
theorem dL_all_73 : decode cL_all 73 = .ok (.istore 4, 2) := by decide +kernel
theorem dL_all_75 : decode cL_all 75 = .ok (.iload 4, 2) := by decide +kernel
theorem dL_all_77 : decode cL_all 77 = .ok (.aload_n 0, 1) := by decide +kernel
theorem dL_all_78 : decode cL_all 78 = .ok (.iload_n 3, 1) := by decide +kernel
theorem dL_all_79 : decode cL_all 79 = .ok (.iconst 1, 1) := by decide +kernel
theorem dL_all_80 : decode cL_all 80 = .ok (.invokevirtual 18, 3) := by decide +kernel
theorem dL_all_83 : decode cL_all 83 = .ok (.if_icmp .ge 24, 3) := by decide +kernel
theorem dL_all_86 : decode cL_all 86 = .ok (.ldc2_w 10, 3) := by decide +kernel
theorem dL_all_89 : decode cL_all 89 = .ok (.lload_n 1, 1) := by decide +kernel
theorem dL_all_90 : decode cL_all 90 = .ok (.lmul, 1) := by decide +kernel
theorem dL_all_91 : decode cL_all 91 = .ok (.aload_n 0, 1) := by decide +kernel
theorem dL_all_92 : decode cL_all 92 = .ok (.iload_n 3, 1) := by decide +kernel
theorem dL_all_93 : decode cL_all 93 = .ok (.iload 4, 2) := by decide +kernel
theorem dL_all_95 : decode cL_all 95 = .ok (.invokevirtual 22, 3) := by decide +kernel
theorem dL_all_98 : decode cL_all 98 = .ok (.i2l, 1) := by decide +kernel
theorem dL_all_99 : decode cL_all 99 = .ok (.ladd, 1) := by decide +kernel
theorem dL_all_100 : decode cL_all 100 = .ok (.lstore_n 1, 1) := by decide +kernel
theorem dL_all_101 : decode cL_all 101 = .ok (.iinc 4 1, 3) := by decide +kernel
theorem dL_all_104 : decode cL_all 104 = .ok (.goto (-29), 3) := by decide +kernel
theorem dL_all_107 : decode cL_all 107 = .ok (.iinc 3 1, 3) := by decide +kernel
theorem dL_all_110 : decode cL_all 110 = .ok (.goto (-78), 3) := by decide +kernel
theorem dL_all_113 : decode cL_all 113 = .ok (.lload_n 1, 1) := by decide +kernel
theorem dL_all_114 : decode cL_all 114 = .ok (.lreturn, 1) := by decide +kernel
theorem dL_isPacked_0 : decode cL_isPacked 0 = .ok (.aload_n 0, 1) := by decide +kernel
theorem dL_isPacked_1 : decode cL_isPacked 1 = .ok (.iload_n 1, 1) := by decide +kernel
theorem dL_isPacked_2 : decode cL_isPacked 2 = .ok (.iconst 0, 1) := by decide +kernel
theorem dL_isPacked_3 : decode cL_isPacked 3 = .ok (.invokevirtual 18, 3) := by decide +kernel
theorem dL_isPacked_6 : decode cL_isPacked 6 = .ok (.istore_n 2, 1) := by decide +kernel
theorem dL_isPacked_7 : decode cL_isPacked 7 = .ok (.iconst 0, 1) := by decide +kernel
theorem dL_isPacked_8 : decode cL_isPacked 8 = .ok (.istore_n 3, 1) := by decide +kernel
theorem dL_isPacked_9 : decode cL_isPacked 9 = .ok (.iconst 0, 1) := by decide +kernel
theorem dL_isPacked_10 : decode cL_isPacked 10 = .ok (.istore 4, 2) := by decide +kernel
theorem dL_isPacked_12 : decode cL_isPacked 12 = .ok (.iconst (-1), 1) := by decide +kernel
theorem dL_isPacked_13 : decode cL_isPacked 13 = .ok (.istore 5, 2) := by decide +kernel
theorem dL_isPacked_15 : decode cL_isPacked 15 = .ok (.iconst 0, 1) := by decide +kernel
theorem dL_isPacked_16 : decode cL_isPacked 16 = .ok (.istore 6, 2) := by decide +kernel
theorem dL_isPacked_18 : decode cL_isPacked 18 = .ok (.iload 6, 2) := by decide +kernel
theorem dL_isPacked_20 : decode cL_isPacked 20 = .ok (.aload_n 0, 1) := by decide +kernel
theorem dL_isPacked_21 : decode cL_isPacked 21 = .ok (.iload_n 1, 1) := by decide +kernel
theorem dL_isPacked_22 : decode cL_isPacked 22 = .ok (.iconst 1, 1) := by decide +kernel
theorem dL_isPacked_23 : decode cL_isPacked 23 = .ok (.invokevirtual 18, 3) := by decide +kernel
theorem dL_isPacked_26 : decode cL_isPacked 26 = .ok (.if_icmp .ge 227, 3) := by decide +kernel
theorem dL_isPacked_29 : decode cL_isPacked 29 = .ok (.aload_n 0, 1) := by decide +kernel
theorem dL_isPacked_30 : decode cL_isPacked 30 = .ok (.iload_n 1, 1) := by decide +kernel
theorem dL_isPacked_31 : decode cL_isPacked 31 = .ok (.iload 6, 2) := by decide +kernel
theorem dL_isPacked_33 : decode cL_isPacked 33 = .ok (.invokevirtual 22, 3) := by decide +kernel
theorem dL_isPacked_36 : decode cL_isPacked 36 = .ok (.istore 7, 2) := by decide +kernel
theorem dL_isPacked_38 : decode cL_isPacked 38 = .ok (.iload 7, 2) := by decide +kernel
theorem dL_isPacked_40 : decode cL_isPacked 40 = .ok (.ldc 25, 2) := by decide +kernel
theorem dL_isPacked_42 : decode cL_isPacked 42 = .ok (.if_icmp .ge 7, 3) := by decide +kernel
theorem dL_isPacked_45 : decode cL_isPacked 45 = .ok (.iconst 2, 1) := by decide +kernel
theorem dL_isPacked_46 : decode cL_isPacked 46 = .ok (.goto 15, 3) := by decide +kernel
theorem dL_isPacked_49 : decode cL_isPacked 49 = .ok (.iload 7, 2) := by decide +kernel
theorem dL_isPacked_51 : decode cL_isPacked 51 = .ok (.ldc 26, 2) := by decide +kernel
theorem dL_isPacked_53 : decode cL_isPacked 53 = .ok (.if_icmp .ge 7, 3) := by decide +kernel
theorem dL_isPacked_56 : decode cL_isPacked 56 = .ok (.iconst 0, 1) := by decide +kernel
theorem dL_isPacked_57 : decode cL_isPacked 57 = .ok (.goto 4, 3) := by decide +kernel
theorem dL_isPacked_60 : decode cL_isPacked 60 = .ok (.iconst 1, 1) := by decide +kernel
theorem dL_isPacked_61 : decode cL_isPacked 61 = .ok (.istore 8, 2) := by decide +kernel
theorem dL_isPacked_63 : decode cL_isPacked 63 = .ok (.iload 8, 2) := by decide +kernel
theorem dL_isPacked_65 : decode cL_isPacked 65 = .ok (.iconst 2, 1) := by decide +kernel
theorem dL_isPacked_66 : decode cL_isPacked 66 = .ok (.if_icmp .ne 7, 3) := by decide +kernel
theorem dL_isPacked_69 : decode cL_isPacked 69 = .ok (.iconst 1, 1) := by decide +kernel
theorem dL_isPacked_70 : decode cL_isPacked 70 = .ok (.goto 9, 3) := by decide +kernel
theorem dL_isPacked_73 : decode cL_isPacked 73 = .ok (.iload 7, 2) := by decide +kernel
theorem dL_isPacked_75 : decode cL_isPacked 75 = .ok (.sipush 16384, 3) := by decide +kernel
theorem dL_isPacked_78 : decode cL_isPacked 78 = .ok (.irem, 1) := by decide +kernel
theorem dL_isPacked_79 : decode cL_isPacked 79 = .ok (.istore 9, 2) := by decide +kernel
theorem dL_isPacked_81 : decode cL_isPacked 81 = .ok (.iload 9, 2) := by decide +kernel
theorem dL_isPacked_83 : decode cL_isPacked 83 = .ok (.iconst 1, 1) := by decide +kernel
theorem dL_isPacked_84 : decode cL_isPacked 84 = .ok (.if_icmp .lt 42, 3) := by decide +kernel
theorem dL_isPacked_87 : decode cL_isPacked 87 = .ok (.iload 9, 2) := by decide +kernel
theorem dL_isPacked_89 : decode cL_isPacked 89 = .ok (.bipush 20, 2) := by decide +kernel
theorem dL_isPacked_91 : decode cL_isPacked 91 = .ok (.if_icmp .gt 35, 3) := by decide +kernel
theorem dL_isPacked_94 : decode cL_isPacked 94 = .ok (.iload 8, 2) := by decide +kernel
theorem dL_isPacked_96 : decode cL_isPacked 96 = .ok (.iconst 2, 1) := by decide +kernel
theorem dL_isPacked_97 : decode cL_isPacked 97 = .ok (.if_icmp .ne 16, 3) := by decide +kernel
theorem dL_isPacked_100 : decode cL_isPacked 100 = .ok (.iload 7, 2) := by decide +kernel
theorem dL_isPacked_102 : decode cL_isPacked 102 = .ok (.ifCond .eq 24, 3) := by decide +kernel
theorem dL_isPacked_105 : decode cL_isPacked 105 = .ok (.iload 7, 2) := by decide +kernel
theorem dL_isPacked_107 : decode cL_isPacked 107 = .ok (.sipush 32767, 3) := by decide +kernel
theorem dL_isPacked_110 : decode cL_isPacked 110 = .ok (.if_icmp .eq 16, 3) := by decide +kernel
theorem dL_isPacked_113 : decode cL_isPacked 113 = .ok (.iload 8, 2) := by decide +kernel
theorem dL_isPacked_115 : decode cL_isPacked 115 = .ok (.iconst 2, 1) := by decide +kernel
theorem dL_isPacked_116 : decode cL_isPacked 116 = .ok (.if_icmp .ge 12, 3) := by decide +kernel
theorem dL_isPacked_119 : decode cL_isPacked 119 = .ok (.iload 5, 2) := by decide +kernel
theorem dL_isPacked_121 : decode cL_isPacked 121 = .ok (.iload 8, 2) := by decide +kernel
theorem dL_isPacked_123 : decode cL_isPacked 123 = .ok (.if_icmp .ne 5, 3) := by decide +kernel
theorem dL_isPacked_126 : decode cL_isPacked 126 = .ok (.iconst 0, 1) := by decide +kernel
theorem dL_isPacked_127 : decode cL_isPacked 127 = .ok (.ireturn, 1) := by decide +kernel
theorem dL_isPacked_128 : decode cL_isPacked 128 = .ok (.iconst 0, 1) := by decide +kernel
theorem dL_isPacked_129 : decode cL_isPacked 129 = .ok (.istore 10, 2) := by decide +kernel
theorem dL_isPacked_131 : decode cL_isPacked 131 = .ok (.iload 10, 2) := by decide +kernel
theorem dL_isPacked_133 : decode cL_isPacked 133 = .ok (.bipush 15, 2) := by decide +kernel
theorem dL_isPacked_135 : decode cL_isPacked 135 = .ok (.iload 9, 2) := by decide +kernel
theorem dL_isPacked_137 : decode cL_isPacked 137 = .ok (.imul, 1) := by decide +kernel
theorem dL_isPacked_138 : decode cL_isPacked 138 = .ok (.if_icmp .ge 94, 3) := by decide +kernel
theorem dL_isPacked_141 : decode cL_isPacked 141 = .ok (.iload 8, 2) := by decide +kernel
theorem dL_isPacked_143 : decode cL_isPacked 143 = .ok (.iconst 2, 1) := by decide +kernel
theorem dL_isPacked_144 : decode cL_isPacked 144 = .ok (.if_icmp .ne 13, 3) := by decide +kernel
theorem dL_isPacked_147 : decode cL_isPacked 147 = .ok (.iload 7, 2) := by decide +kernel
theorem dL_isPacked_149 : decode cL_isPacked 149 = .ok (.iload 10, 2) := by decide +kernel
theorem dL_isPacked_151 : decode cL_isPacked 151 = .ok (.ishr, 1) := by decide +kernel
theorem dL_isPacked_152 : decode cL_isPacked 152 = .ok (.iconst 1, 1) := by decide +kernel
theorem dL_isPacked_153 : decode cL_isPacked 153 = .ok (.iand, 1) := by decide +kernel
theorem dL_isPacked_154 : decode cL_isPacked 154 = .ok (.goto 5, 3) := by decide +kernel
theorem dL_isPacked_157 : decode cL_isPacked 157 = .ok (.iload 8, 2) := by decide +kernel
theorem dL_isPacked_159 : decode cL_isPacked 159 = .ok (.istore 11, 2) := by decide +kernel
theorem dL_isPacked_161 : decode cL_isPacked 161 = .ok (.iload_n 3, 1) := by decide +kernel
theorem dL_isPacked_162 : decode cL_isPacked 162 = .ok (.iload_n 2, 1) := by decide +kernel
theorem dL_isPacked_163 : decode cL_isPacked 163 = .ok (.if_icmp .ge 45, 3) := by decide +kernel
theorem dL_isPacked_166 : decode cL_isPacked 166 = .ok (.aload_n 0, 1) := by decide +kernel
theorem dL_isPacked_167 : decode cL_isPacked 167 = .ok (.iload_n 1, 1) := by decide +kernel
theorem dL_isPacked_168 : decode cL_isPacked 168 = .ok (.iload_n 3, 1) := by decide +kernel
theorem dL_isPacked_169 : decode cL_isPacked 169 = .ok (.invokevirtual 27, 3) := by decide +kernel
theorem dL_isPacked_172 : decode cL_isPacked 172 = .ok (.iload 11, 2) := by decide +kernel
theorem dL_isPacked_174 : decode cL_isPacked 174 = .ok (.if_icmp .ne 40, 3) := by decide +kernel
theorem dL_isPacked_177 : decode cL_isPacked 177 = .ok (.aload_n 0, 1) := by decide +kernel
theorem dL_isPacked_178 : decode cL_isPacked 178 = .ok (.iload_n 1, 1) := by decide +kernel
theorem dL_isPacked_179 : decode cL_isPacked 179 = .ok (.iload_n 3, 1) := by decide +kernel
theorem dL_isPacked_180 : decode cL_isPacked 180 = .ok (.invokevirtual 30, 3) := by decide +kernel
theorem dL_isPacked_183 : decode cL_isPacked 183 = .ok (.iload 4, 2) := by decide +kernel
theorem dL_isPacked_185 : decode cL_isPacked 185 = .ok (.if_icmp .ne 29, 3) := by decide +kernel
theorem dL_isPacked_188 : decode cL_isPacked 188 = .ok (.iload 11, 2) := by decide +kernel
theorem dL_isPacked_190 : decode cL_isPacked 190 = .ok (.iconst 1, 1) := by decide +kernel
theorem dL_isPacked_191 : decode cL_isPacked 191 = .ok (.if_icmp .ne 25, 3) := by decide +kernel
theorem dL_isPacked_194 : decode cL_isPacked 194 = .ok (.aload_n 0, 1) := by decide +kernel
theorem dL_isPacked_195 : decode cL_isPacked 195 = .ok (.iload_n 1, 1) := by decide +kernel
theorem dL_isPacked_196 : decode cL_isPacked 196 = .ok (.iload 4, 2) := by decide +kernel
theorem dL_isPacked_198 : decode cL_isPacked 198 = .ok (.invokevirtual 33, 3) := by decide +kernel
theorem dL_isPacked_201 : decode cL_isPacked 201 = .ok (.iload_n 3, 1) := by decide +kernel
theorem dL_isPacked_202 : decode cL_isPacked 202 = .ok (.if_icmp .eq 14, 3) := by decide +kernel
theorem dL_isPacked_205 : decode cL_isPacked 205 = .ok (.goto 9, 3) := by decide +kernel
theorem dL_isPacked_208 : decode cL_isPacked 208 = .ok (.iload 11, 2) := by decide +kernel
theorem dL_isPacked_210 : decode cL_isPacked 210 = .ok (.iconst 1, 1) := by decide +kernel
theorem dL_isPacked_211 : decode cL_isPacked 211 = .ok (.if_icmp .ne 5, 3) := by decide +kernel
theorem dL_isPacked_214 : decode cL_isPacked 214 = .ok (.iconst 0, 1) := by decide +kernel
theorem dL_isPacked_215 : decode cL_isPacked 215 = .ok (.ireturn, 1) := by decide +kernel
theorem dL_isPacked_216 : decode cL_isPacked 216 = .ok (.iload 4, 2) := by decide +kernel
theorem dL_isPacked_218 : decode cL_isPacked 218 = .ok (.iload 11, 2) := by decide +kernel
theorem dL_isPacked_220 : decode cL_isPacked 220 = .ok (.iadd, 1) := by decide +kernel
theorem dL_isPacked_221 : decode cL_isPacked 221 = .ok (.istore 4, 2) := by decide +kernel
theorem dL_isPacked_223 : decode cL_isPacked 223 = .ok (.iinc 3 1, 3) := by decide +kernel
theorem dL_isPacked_226 : decode cL_isPacked 226 = .ok (.iinc 10 1, 3) := by decide +kernel
theorem dL_isPacked_229 : decode cL_isPacked 229 = .ok (.goto (-98), 3) := by decide +kernel
theorem dL_isPacked_232 : decode cL_isPacked 232 = .ok (.iload 9, 2) := by decide +kernel
theorem dL_isPacked_234 : decode cL_isPacked 234 = .ok (.bipush 20, 2) := by decide +kernel
theorem dL_isPacked_236 : decode cL_isPacked 236 = .ok (.if_icmp .ne 7, 3) := by decide +kernel
theorem dL_isPacked_239 : decode cL_isPacked 239 = .ok (.iconst (-1), 1) := by decide +kernel
theorem dL_isPacked_240 : decode cL_isPacked 240 = .ok (.goto 5, 3) := by decide +kernel
theorem dL_isPacked_243 : decode cL_isPacked 243 = .ok (.iload 8, 2) := by decide +kernel
theorem dL_isPacked_245 : decode cL_isPacked 245 = .ok (.istore 5, 2) := by decide +kernel
theorem dL_isPacked_247 : decode cL_isPacked 247 = .ok (.iinc 6 1, 3) := by decide +kernel
theorem dL_isPacked_250 : decode cL_isPacked 250 = .ok (.goto (-232), 3) := by decide +kernel
theorem dL_isPacked_253 : decode cL_isPacked 253 = .ok (.iload_n 3, 1) := by decide +kernel
theorem dL_isPacked_254 : decode cL_isPacked 254 = .ok (.iload_n 2, 1) := by decide +kernel
theorem dL_isPacked_255 : decode cL_isPacked 255 = .ok (.if_icmp .lt 82, 3) := by decide +kernel
theorem dL_isPacked_258 : decode cL_isPacked 258 = .ok (.iload_n 3, 1) := by decide +kernel
theorem dL_isPacked_259 : decode cL_isPacked 259 = .ok (.iload_n 2, 1) := by decide +kernel
theorem dL_isPacked_260 : decode cL_isPacked 260 = .ok (.bipush 15, 2) := by decide +kernel
theorem dL_isPacked_262 : decode cL_isPacked 262 = .ok (.iadd, 1) := by decide +kernel
theorem dL_isPacked_263 : decode cL_isPacked 263 = .ok (.if_icmp .ge 74, 3) := by decide +kernel
theorem dL_isPacked_266 : decode cL_isPacked 266 = .ok (.iload 4, 2) := by decide +kernel
theorem dL_isPacked_268 : decode cL_isPacked 268 = .ok (.aload_n 0, 1) := by decide +kernel
theorem dL_isPacked_269 : decode cL_isPacked 269 = .ok (.iload_n 1, 1) := by decide +kernel
theorem dL_isPacked_270 : decode cL_isPacked 270 = .ok (.iconst 5, 1) := by decide +kernel
theorem dL_isPacked_271 : decode cL_isPacked 271 = .ok (.invokevirtual 18, 3) := by decide +kernel
theorem dL_isPacked_274 : decode cL_isPacked 274 = .ok (.if_icmp .ne 63, 3) := by decide +kernel
theorem dL_isPacked_277 : decode cL_isPacked 277 = .ok (.aload_n 0, 1) := by decide +kernel
theorem dL_isPacked_278 : decode cL_isPacked 278 = .ok (.iload_n 1, 1) := by decide +kernel
theorem dL_isPacked_279 : decode cL_isPacked 279 = .ok (.iload_n 2, 1) := by decide +kernel
theorem dL_isPacked_280 : decode cL_isPacked 280 = .ok (.invokevirtual 30, 3) := by decide +kernel
theorem dL_isPacked_283 : decode cL_isPacked 283 = .ok (.iload 4, 2) := by decide +kernel
theorem dL_isPacked_285 : decode cL_isPacked 285 = .ok (.if_icmp .ne 52, 3) := by decide +kernel
theorem dL_isPacked_288 : decode cL_isPacked 288 = .ok (.aload_n 0, 1) := by decide +kernel
theorem dL_isPacked_289 : decode cL_isPacked 289 = .ok (.iload_n 1, 1) := by decide +kernel
theorem dL_isPacked_290 : decode cL_isPacked 290 = .ok (.aload_n 0, 1) := by decide +kernel
theorem dL_isPacked_291 : decode cL_isPacked 291 = .ok (.iload_n 1, 1) := by decide +kernel
theorem dL_isPacked_292 : decode cL_isPacked 292 = .ok (.iconst 1, 1) := by decide +kernel
theorem dL_isPacked_293 : decode cL_isPacked 293 = .ok (.invokevirtual 18, 3) := by decide +kernel
theorem dL_isPacked_296 : decode cL_isPacked 296 = .ok (.invokevirtual 22, 3) := by decide +kernel
theorem dL_isPacked_299 : decode cL_isPacked 299 = .ok (.bipush (-9), 2) := by decide +kernel
theorem dL_isPacked_301 : decode cL_isPacked 301 = .ok (.if_icmp .ne 36, 3) := by decide +kernel
theorem dL_isPacked_304 : decode cL_isPacked 304 = .ok (.aload_n 0, 1) := by decide +kernel
theorem dL_isPacked_305 : decode cL_isPacked 305 = .ok (.iload_n 1, 1) := by decide +kernel
theorem dL_isPacked_306 : decode cL_isPacked 306 = .ok (.iconst 2, 1) := by decide +kernel
theorem dL_isPacked_307 : decode cL_isPacked 307 = .ok (.invokevirtual 18, 3) := by decide +kernel
theorem dL_isPacked_310 : decode cL_isPacked 310 = .ok (.aload_n 0, 1) := by decide +kernel
theorem dL_isPacked_311 : decode cL_isPacked 311 = .ok (.iload_n 1, 1) := by decide +kernel
theorem dL_isPacked_312 : decode cL_isPacked 312 = .ok (.iconst 3, 1) := by decide +kernel
theorem dL_isPacked_313 : decode cL_isPacked 313 = .ok (.invokevirtual 18, 3) := by decide +kernel
theorem dL_isPacked_316 : decode cL_isPacked 316 = .ok (.iadd, 1) := by decide +kernel
theorem dL_isPacked_317 : decode cL_isPacked 317 = .ok (.aload_n 0, 1) := by decide +kernel
theorem dL_isPacked_318 : decode cL_isPacked 318 = .ok (.iload_n 1, 1) := by decide +kernel
theorem dL_isPacked_319 : decode cL_isPacked 319 = .ok (.iconst 4, 1) := by decide +kernel
theorem dL_isPacked_320 : decode cL_isPacked 320 = .ok (.invokevirtual 18, 3) := by decide +kernel
theorem dL_isPacked_323 : decode cL_isPacked 323 = .ok (.iadd, 1) := by decide +kernel
theorem dL_isPacked_324 : decode cL_isPacked 324 = .ok (.aload_n 0, 1) := by decide +kernel
theorem dL_isPacked_325 : decode cL_isPacked 325 = .ok (.iload_n 1, 1) := by decide +kernel
theorem dL_isPacked_326 : decode cL_isPacked 326 = .ok (.iconst 1, 1) := by decide +kernel
theorem dL_isPacked_327 : decode cL_isPacked 327 = .ok (.invokevirtual 18, 3) := by decide +kernel
theorem dL_isPacked_330 : decode cL_isPacked 330 = .ok (.if_icmp .ne 7, 3) := by decide +kernel
theorem dL_isPacked_333 : decode cL_isPacked 333 = .ok (.iconst 1, 1) := by decide +kernel
theorem dL_isPacked_334 : decode cL_isPacked 334 = .ok (.goto 4, 3) := by decide +kernel
theorem dL_isPacked_337 : decode cL_isPacked 337 = .ok (.iconst 0, 1) := by decide +kernel
theorem dL_isPacked_338 : decode cL_isPacked 338 = .ok (.ireturn, 1) := by decide +kernel
theorem dL_isSound_0 : decode cL_isSound 0 = .ok (.aload_n 0, 1) := by decide +kernel
theorem dL_isSound_1 : decode cL_isSound 1 = .ok (.iconst 0, 1) := by decide +kernel
theorem dL_isSound_2 : decode cL_isSound 2 = .ok (.iload_n 1, 1) := by decide +kernel
theorem dL_isSound_3 : decode cL_isSound 3 = .ok (.iload_n 2, 1) := by decide +kernel
theorem dL_isSound_4 : decode cL_isSound 4 = .ok (.iconst 2, 1) := by decide +kernel
theorem dL_isSound_5 : decode cL_isSound 5 = .ok (.invokevirtual 38, 3) := by decide +kernel
theorem dL_isSound_8 : decode cL_isSound 8 = .ok (.istore_n 3, 1) := by decide +kernel
theorem dL_isSound_9 : decode cL_isSound 9 = .ok (.aload_n 0, 1) := by decide +kernel
theorem dL_isSound_10 : decode cL_isSound 10 = .ok (.iconst 1, 1) := by decide +kernel
theorem dL_isSound_11 : decode cL_isSound 11 = .ok (.iload_n 1, 1) := by decide +kernel
theorem dL_isSound_12 : decode cL_isSound 12 = .ok (.iload_n 2, 1) := by decide +kernel
theorem dL_isSound_13 : decode cL_isSound 13 = .ok (.iconst 2, 1) := by decide +kernel
theorem dL_isSound_14 : decode cL_isSound 14 = .ok (.invokevirtual 38, 3) := by decide +kernel
theorem dL_isSound_17 : decode cL_isSound 17 = .ok (.istore 4, 2) := by decide +kernel
theorem dL_isSound_19 : decode cL_isSound 19 = .ok (.aload_n 0, 1) := by decide +kernel
theorem dL_isSound_20 : decode cL_isSound 20 = .ok (.iload_n 1, 1) := by decide +kernel
theorem dL_isSound_21 : decode cL_isSound 21 = .ok (.iconst 5, 1) := by decide +kernel
theorem dL_isSound_22 : decode cL_isSound 22 = .ok (.invokevirtual 18, 3) := by decide +kernel
theorem dL_isSound_25 : decode cL_isSound 25 = .ok (.istore 5, 2) := by decide +kernel
theorem dL_isSound_27 : decode cL_isSound 27 = .ok (.aload_n 0, 1) := by decide +kernel
theorem dL_isSound_28 : decode cL_isSound 28 = .ok (.iload_n 2, 1) := by decide +kernel
theorem dL_isSound_29 : decode cL_isSound 29 = .ok (.iconst 5, 1) := by decide +kernel
theorem dL_isSound_30 : decode cL_isSound 30 = .ok (.invokevirtual 18, 3) := by decide +kernel
theorem dL_isSound_33 : decode cL_isSound 33 = .ok (.istore 6, 2) := by decide +kernel
theorem dL_isSound_35 : decode cL_isSound 35 = .ok (.aload_n 0, 1) := by decide +kernel
theorem dL_isSound_36 : decode cL_isSound 36 = .ok (.iconst 0, 1) := by decide +kernel
theorem dL_isSound_37 : decode cL_isSound 37 = .ok (.iload_n 1, 1) := by decide +kernel
theorem dL_isSound_38 : decode cL_isSound 38 = .ok (.iload_n 2, 1) := by decide +kernel
theorem dL_isSound_39 : decode cL_isSound 39 = .ok (.iconst 0, 1) := by decide +kernel
theorem dL_isSound_40 : decode cL_isSound 40 = .ok (.invokevirtual 38, 3) := by decide +kernel
theorem dL_isSound_43 : decode cL_isSound 43 = .ok (.istore 7, 2) := by decide +kernel
theorem dL_isSound_45 : decode cL_isSound 45 = .ok (.aload_n 0, 1) := by decide +kernel
theorem dL_isSound_46 : decode cL_isSound 46 = .ok (.iload_n 1, 1) := by decide +kernel
theorem dL_isSound_47 : decode cL_isSound 47 = .ok (.iconst 1, 1) := by decide +kernel
theorem dL_isSound_48 : decode cL_isSound 48 = .ok (.invokevirtual 18, 3) := by decide +kernel
theorem dL_isSound_51 : decode cL_isSound 51 = .ok (.aload_n 0, 1) := by decide +kernel
theorem dL_isSound_52 : decode cL_isSound 52 = .ok (.iload_n 2, 1) := by decide +kernel
theorem dL_isSound_53 : decode cL_isSound 53 = .ok (.iconst 1, 1) := by decide +kernel
theorem dL_isSound_54 : decode cL_isSound 54 = .ok (.invokevirtual 18, 3) := by decide +kernel
theorem dL_isSound_57 : decode cL_isSound 57 = .ok (.if_icmp .le 12, 3) := by decide +kernel
theorem dL_isSound_60 : decode cL_isSound 60 = .ok (.aload_n 0, 1) := by decide +kernel
theorem dL_isSound_61 : decode cL_isSound 61 = .ok (.iload_n 1, 1) := by decide +kernel
theorem dL_isSound_62 : decode cL_isSound 62 = .ok (.iconst 1, 1) := by decide +kernel
theorem dL_isSound_63 : decode cL_isSound 63 = .ok (.invokevirtual 18, 3) := by decide +kernel
theorem dL_isSound_66 : decode cL_isSound 66 = .ok (.goto 9, 3) := by decide +kernel
theorem dL_isSound_69 : decode cL_isSound 69 = .ok (.aload_n 0, 1) := by decide +kernel
theorem dL_isSound_70 : decode cL_isSound 70 = .ok (.iload_n 2, 1) := by decide +kernel
theorem dL_isSound_71 : decode cL_isSound 71 = .ok (.iconst 1, 1) := by decide +kernel
theorem dL_isSound_72 : decode cL_isSound 72 = .ok (.invokevirtual 18, 3) := by decide +kernel
theorem dL_isSound_75 : decode cL_isSound 75 = .ok (.istore 8, 2) := by decide +kernel
theorem dL_isSound_77 : decode cL_isSound 77 = .ok (.iload_n 3, 1) := by decide +kernel
theorem dL_isSound_78 : decode cL_isSound 78 = .ok (.iload 4, 2) := by decide +kernel
theorem dL_isSound_80 : decode cL_isSound 80 = .ok (.iadd, 1) := by decide +kernel
theorem dL_isSound_81 : decode cL_isSound 81 = .ok (.iload 5, 2) := by decide +kernel
theorem dL_isSound_83 : decode cL_isSound 83 = .ok (.iload 6, 2) := by decide +kernel
theorem dL_isSound_85 : decode cL_isSound 85 = .ok (.iadd, 1) := by decide +kernel
theorem dL_isSound_86 : decode cL_isSound 86 = .ok (.if_icmp .ne 67, 3) := by decide +kernel
theorem dL_isSound_89 : decode cL_isSound 89 = .ok (.aload_n 0, 1) := by decide +kernel
theorem dL_isSound_90 : decode cL_isSound 90 = .ok (.iconst 2, 1) := by decide +kernel
theorem dL_isSound_91 : decode cL_isSound 91 = .ok (.iload_n 1, 1) := by decide +kernel
theorem dL_isSound_92 : decode cL_isSound 92 = .ok (.iload_n 2, 1) := by decide +kernel
theorem dL_isSound_93 : decode cL_isSound 93 = .ok (.iconst 2, 1) := by decide +kernel
theorem dL_isSound_94 : decode cL_isSound 94 = .ok (.invokevirtual 38, 3) := by decide +kernel
theorem dL_isSound_97 : decode cL_isSound 97 = .ok (.iload 5, 2) := by decide +kernel
theorem dL_isSound_99 : decode cL_isSound 99 = .ok (.iload_n 3, 1) := by decide +kernel
theorem dL_isSound_100 : decode cL_isSound 100 = .ok (.isub, 1) := by decide +kernel
theorem dL_isSound_101 : decode cL_isSound 101 = .ok (.if_icmp .ne 52, 3) := by decide +kernel
theorem dL_isSound_104 : decode cL_isSound 104 = .ok (.aload_n 0, 1) := by decide +kernel
theorem dL_isSound_105 : decode cL_isSound 105 = .ok (.iconst 3, 1) := by decide +kernel
theorem dL_isSound_106 : decode cL_isSound 106 = .ok (.iload_n 1, 1) := by decide +kernel
theorem dL_isSound_107 : decode cL_isSound 107 = .ok (.iload_n 2, 1) := by decide +kernel
theorem dL_isSound_108 : decode cL_isSound 108 = .ok (.iconst 2, 1) := by decide +kernel
theorem dL_isSound_109 : decode cL_isSound 109 = .ok (.invokevirtual 38, 3) := by decide +kernel
theorem dL_isSound_112 : decode cL_isSound 112 = .ok (.iload 4, 2) := by decide +kernel
theorem dL_isSound_114 : decode cL_isSound 114 = .ok (.iload_n 3, 1) := by decide +kernel
theorem dL_isSound_115 : decode cL_isSound 115 = .ok (.isub, 1) := by decide +kernel
theorem dL_isSound_116 : decode cL_isSound 116 = .ok (.if_icmp .ne 37, 3) := by decide +kernel
theorem dL_isSound_119 : decode cL_isSound 119 = .ok (.aload_n 0, 1) := by decide +kernel
theorem dL_isSound_120 : decode cL_isSound 120 = .ok (.iconst 3, 1) := by decide +kernel
theorem dL_isSound_121 : decode cL_isSound 121 = .ok (.iload_n 2, 1) := by decide +kernel
theorem dL_isSound_122 : decode cL_isSound 122 = .ok (.iload_n 1, 1) := by decide +kernel
theorem dL_isSound_123 : decode cL_isSound 123 = .ok (.iconst 2, 1) := by decide +kernel
theorem dL_isSound_124 : decode cL_isSound 124 = .ok (.invokevirtual 38, 3) := by decide +kernel
theorem dL_isSound_127 : decode cL_isSound 127 = .ok (.iload 4, 2) := by decide +kernel
theorem dL_isSound_129 : decode cL_isSound 129 = .ok (.iload_n 3, 1) := by decide +kernel
theorem dL_isSound_130 : decode cL_isSound 130 = .ok (.isub, 1) := by decide +kernel
theorem dL_isSound_131 : decode cL_isSound 131 = .ok (.if_icmp .ne 22, 3) := by decide +kernel
theorem dL_isSound_134 : decode cL_isSound 134 = .ok (.aload_n 0, 1) := by decide +kernel
theorem dL_isSound_135 : decode cL_isSound 135 = .ok (.iconst 1, 1) := by decide +kernel
theorem dL_isSound_136 : decode cL_isSound 136 = .ok (.iload_n 2, 1) := by decide +kernel
theorem dL_isSound_137 : decode cL_isSound 137 = .ok (.iload_n 1, 1) := by decide +kernel
theorem dL_isSound_138 : decode cL_isSound 138 = .ok (.iconst 1, 1) := by decide +kernel
theorem dL_isSound_139 : decode cL_isSound 139 = .ok (.invokevirtual 38, 3) := by decide +kernel
theorem dL_isSound_142 : decode cL_isSound 142 = .ok (.aload_n 0, 1) := by decide +kernel
theorem dL_isSound_143 : decode cL_isSound 143 = .ok (.iconst 1, 1) := by decide +kernel
theorem dL_isSound_144 : decode cL_isSound 144 = .ok (.iload_n 1, 1) := by decide +kernel
theorem dL_isSound_145 : decode cL_isSound 145 = .ok (.iload_n 2, 1) := by decide +kernel
theorem dL_isSound_146 : decode cL_isSound 146 = .ok (.iconst 1, 1) := by decide +kernel
theorem dL_isSound_147 : decode cL_isSound 147 = .ok (.invokevirtual 38, 3) := by decide +kernel
theorem dL_isSound_150 : decode cL_isSound 150 = .ok (.if_icmp .eq 5, 3) := by decide +kernel
theorem dL_isSound_153 : decode cL_isSound 153 = .ok (.iconst 0, 1) := by decide +kernel
theorem dL_isSound_154 : decode cL_isSound 154 = .ok (.ireturn, 1) := by decide +kernel
theorem dL_isSound_155 : decode cL_isSound 155 = .ok (.aload_n 0, 1) := by decide +kernel
theorem dL_isSound_156 : decode cL_isSound 156 = .ok (.iconst 3, 1) := by decide +kernel
theorem dL_isSound_157 : decode cL_isSound 157 = .ok (.iload_n 1, 1) := by decide +kernel
theorem dL_isSound_158 : decode cL_isSound 158 = .ok (.iload_n 2, 1) := by decide +kernel
theorem dL_isSound_159 : decode cL_isSound 159 = .ok (.iconst 0, 1) := by decide +kernel
theorem dL_isSound_160 : decode cL_isSound 160 = .ok (.invokevirtual 38, 3) := by decide +kernel
theorem dL_isSound_163 : decode cL_isSound 163 = .ok (.iload 7, 2) := by decide +kernel
theorem dL_isSound_165 : decode cL_isSound 165 = .ok (.if_icmp .ne 79, 3) := by decide +kernel
theorem dL_isSound_168 : decode cL_isSound 168 = .ok (.aload_n 0, 1) := by decide +kernel
theorem dL_isSound_169 : decode cL_isSound 169 = .ok (.iconst 2, 1) := by decide +kernel
theorem dL_isSound_170 : decode cL_isSound 170 = .ok (.iload_n 2, 1) := by decide +kernel
theorem dL_isSound_171 : decode cL_isSound 171 = .ok (.iload_n 1, 1) := by decide +kernel
theorem dL_isSound_172 : decode cL_isSound 172 = .ok (.iconst 0, 1) := by decide +kernel
theorem dL_isSound_173 : decode cL_isSound 173 = .ok (.invokevirtual 38, 3) := by decide +kernel
theorem dL_isSound_176 : decode cL_isSound 176 = .ok (.iload 7, 2) := by decide +kernel
theorem dL_isSound_178 : decode cL_isSound 178 = .ok (.if_icmp .ne 66, 3) := by decide +kernel
theorem dL_isSound_181 : decode cL_isSound 181 = .ok (.iload 7, 2) := by decide +kernel
theorem dL_isSound_183 : decode cL_isSound 183 = .ok (.iload 8, 2) := by decide +kernel
theorem dL_isSound_185 : decode cL_isSound 185 = .ok (.if_icmp .lt 59, 3) := by decide +kernel
theorem dL_isSound_188 : decode cL_isSound 188 = .ok (.iload 7, 2) := by decide +kernel
theorem dL_isSound_190 : decode cL_isSound 190 = .ok (.aload_n 0, 1) := by decide +kernel
theorem dL_isSound_191 : decode cL_isSound 191 = .ok (.iload_n 1, 1) := by decide +kernel
theorem dL_isSound_192 : decode cL_isSound 192 = .ok (.iconst 1, 1) := by decide +kernel
theorem dL_isSound_193 : decode cL_isSound 193 = .ok (.invokevirtual 18, 3) := by decide +kernel
theorem dL_isSound_196 : decode cL_isSound 196 = .ok (.aload_n 0, 1) := by decide +kernel
theorem dL_isSound_197 : decode cL_isSound 197 = .ok (.iload_n 2, 1) := by decide +kernel
theorem dL_isSound_198 : decode cL_isSound 198 = .ok (.iconst 1, 1) := by decide +kernel
theorem dL_isSound_199 : decode cL_isSound 199 = .ok (.invokevirtual 18, 3) := by decide +kernel
theorem dL_isSound_202 : decode cL_isSound 202 = .ok (.iadd, 1) := by decide +kernel
theorem dL_isSound_203 : decode cL_isSound 203 = .ok (.if_icmp .gt 41, 3) := by decide +kernel
theorem dL_isSound_206 : decode cL_isSound 206 = .ok (.iload_n 1, 1) := by decide +kernel
theorem dL_isSound_207 : decode cL_isSound 207 = .ok (.iload_n 2, 1) := by decide +kernel
theorem dL_isSound_208 : decode cL_isSound 208 = .ok (.if_icmp .ne 14, 3) := by decide +kernel
theorem dL_isSound_211 : decode cL_isSound 211 = .ok (.iload 7, 2) := by decide +kernel
theorem dL_isSound_213 : decode cL_isSound 213 = .ok (.aload_n 0, 1) := by decide +kernel
theorem dL_isSound_214 : decode cL_isSound 214 = .ok (.iload_n 1, 1) := by decide +kernel
theorem dL_isSound_215 : decode cL_isSound 215 = .ok (.iconst 1, 1) := by decide +kernel
theorem dL_isSound_216 : decode cL_isSound 216 = .ok (.invokevirtual 18, 3) := by decide +kernel
theorem dL_isSound_219 : decode cL_isSound 219 = .ok (.if_icmp .ne 25, 3) := by decide +kernel
theorem dL_isSound_222 : decode cL_isSound 222 = .ok (.aload_n 0, 1) := by decide +kernel
theorem dL_isSound_223 : decode cL_isSound 223 = .ok (.iconst 0, 1) := by decide +kernel
theorem dL_isSound_224 : decode cL_isSound 224 = .ok (.iload_n 1, 1) := by decide +kernel
theorem dL_isSound_225 : decode cL_isSound 225 = .ok (.iload_n 2, 1) := by decide +kernel
theorem dL_isSound_226 : decode cL_isSound 226 = .ok (.iconst 1, 1) := by decide +kernel
theorem dL_isSound_227 : decode cL_isSound 227 = .ok (.invokevirtual 38, 3) := by decide +kernel
theorem dL_isSound_230 : decode cL_isSound 230 = .ok (.iload 7, 2) := by decide +kernel
theorem dL_isSound_232 : decode cL_isSound 232 = .ok (.ifCond .le 8, 3) := by decide +kernel
theorem dL_isSound_235 : decode cL_isSound 235 = .ok (.bipush 40, 2) := by decide +kernel
theorem dL_isSound_237 : decode cL_isSound 237 = .ok (.goto 4, 3) := by decide +kernel
theorem dL_isSound_240 : decode cL_isSound 240 = .ok (.iconst 0, 1) := by decide +kernel
theorem dL_isSound_241 : decode cL_isSound 241 = .ok (.if_icmp .le 5, 3) := by decide +kernel
theorem dL_isSound_244 : decode cL_isSound 244 = .ok (.iconst 0, 1) := by decide +kernel
theorem dL_isSound_245 : decode cL_isSound 245 = .ok (.ireturn, 1) := by decide +kernel
theorem dL_isSound_246 : decode cL_isSound 246 = .ok (.aload_n 0, 1) := by decide +kernel
theorem dL_isSound_247 : decode cL_isSound 247 = .ok (.iconst 0, 1) := by decide +kernel
theorem dL_isSound_248 : decode cL_isSound 248 = .ok (.iload_n 1, 1) := by decide +kernel
theorem dL_isSound_249 : decode cL_isSound 249 = .ok (.iload_n 1, 1) := by decide +kernel
theorem dL_isSound_250 : decode cL_isSound 250 = .ok (.iconst 2, 1) := by decide +kernel
theorem dL_isSound_251 : decode cL_isSound 251 = .ok (.invokevirtual 38, 3) := by decide +kernel
theorem dL_isSound_254 : decode cL_isSound 254 = .ok (.iload 5, 2) := by decide +kernel
theorem dL_isSound_256 : decode cL_isSound 256 = .ok (.if_icmp .ne 44, 3) := by decide +kernel
theorem dL_isSound_259 : decode cL_isSound 259 = .ok (.aload_n 0, 1) := by decide +kernel
theorem dL_isSound_260 : decode cL_isSound 260 = .ok (.iconst 3, 1) := by decide +kernel
theorem dL_isSound_261 : decode cL_isSound 261 = .ok (.iload_n 1, 1) := by decide +kernel
theorem dL_isSound_262 : decode cL_isSound 262 = .ok (.iload_n 1, 1) := by decide +kernel
theorem dL_isSound_263 : decode cL_isSound 263 = .ok (.iconst 2, 1) := by decide +kernel
theorem dL_isSound_264 : decode cL_isSound 264 = .ok (.invokevirtual 38, 3) := by decide +kernel
theorem dL_isSound_267 : decode cL_isSound 267 = .ok (.ifCond .ne 33, 3) := by decide +kernel
theorem dL_isSound_270 : decode cL_isSound 270 = .ok (.aload_n 0, 1) := by decide +kernel
theorem dL_isSound_271 : decode cL_isSound 271 = .ok (.iload_n 1, 1) := by decide +kernel
theorem dL_isSound_272 : decode cL_isSound 272 = .ok (.invokevirtual 42, 3) := by decide +kernel
theorem dL_isSound_275 : decode cL_isSound 275 = .ok (.iload_n 1, 1) := by decide +kernel
theorem dL_isSound_276 : decode cL_isSound 276 = .ok (.if_icmp .gt 24, 3) := by decide +kernel
theorem dL_isSound_279 : decode cL_isSound 279 = .ok (.aload_n 0, 1) := by decide +kernel
theorem dL_isSound_280 : decode cL_isSound 280 = .ok (.aload_n 0, 1) := by decide +kernel
theorem dL_isSound_281 : decode cL_isSound 281 = .ok (.iload_n 1, 1) := by decide +kernel
theorem dL_isSound_282 : decode cL_isSound 282 = .ok (.invokevirtual 42, 3) := by decide +kernel
theorem dL_isSound_285 : decode cL_isSound 285 = .ok (.invokevirtual 42, 3) := by decide +kernel
theorem dL_isSound_288 : decode cL_isSound 288 = .ok (.aload_n 0, 1) := by decide +kernel
theorem dL_isSound_289 : decode cL_isSound 289 = .ok (.iload_n 1, 1) := by decide +kernel
theorem dL_isSound_290 : decode cL_isSound 290 = .ok (.invokevirtual 42, 3) := by decide +kernel
theorem dL_isSound_293 : decode cL_isSound 293 = .ok (.if_icmp .ne 7, 3) := by decide +kernel
theorem dL_isSound_296 : decode cL_isSound 296 = .ok (.iconst 1, 1) := by decide +kernel
theorem dL_isSound_297 : decode cL_isSound 297 = .ok (.goto 4, 3) := by decide +kernel
theorem dL_isSound_300 : decode cL_isSound 300 = .ok (.iconst 0, 1) := by decide +kernel
theorem dL_isSound_301 : decode cL_isSound 301 = .ok (.ireturn, 1) := by decide +kernel
theorem dL_isBest_0 : decode cL_isBest 0 = .ok (.aload_n 0, 1) := by decide +kernel
theorem dL_isBest_1 : decode cL_isBest 1 = .ok (.invokestatic 45, 3) := by decide +kernel
theorem dL_isBest_4 : decode cL_isBest 4 = .ok (.lstore_n 3, 1) := by decide +kernel
theorem dL_isBest_5 : decode cL_isBest 5 = .ok (.aload_n 0, 1) := by decide +kernel
theorem dL_isBest_6 : decode cL_isBest 6 = .ok (.iload_n 1, 1) := by decide +kernel
theorem dL_isBest_7 : decode cL_isBest 7 = .ok (.invokevirtual 49, 3) := by decide +kernel
theorem dL_isBest_10 : decode cL_isBest 10 = .ok (.istore 5, 2) := by decide +kernel
theorem dL_isBest_12 : decode cL_isBest 12 = .ok (.iload 5, 2) := by decide +kernel
theorem dL_isBest_14 : decode cL_isBest 14 = .ok (.ifCond .lt 29, 3) := by decide +kernel
theorem dL_isBest_17 : decode cL_isBest 17 = .ok (.iload 5, 2) := by decide +kernel
theorem dL_isBest_19 : decode cL_isBest 19 = .ok (.bipush 14, 2) := by decide +kernel
theorem dL_isBest_21 : decode cL_isBest 21 = .ok (.if_icmp .gt 22, 3) := by decide +kernel
theorem dL_isBest_24 : decode cL_isBest 24 = .ok (.aload_n 0, 1) := by decide +kernel
theorem dL_isBest_25 : decode cL_isBest 25 = .ok (.invokestatic 45, 3) := by decide +kernel
theorem dL_isBest_28 : decode cL_isBest 28 = .ok (.lload_n 3, 1) := by decide +kernel
theorem dL_isBest_29 : decode cL_isBest 29 = .ok (.lcmp, 1) := by decide +kernel
theorem dL_isBest_30 : decode cL_isBest 30 = .ok (.ifCond .ne 13, 3) := by decide +kernel
theorem dL_isBest_33 : decode cL_isBest 33 = .ok (.aload_n 0, 1) := by decide +kernel
theorem dL_isBest_34 : decode cL_isBest 34 = .ok (.iload_n 1, 1) := by decide +kernel
theorem dL_isBest_35 : decode cL_isBest 35 = .ok (.iload 5, 2) := by decide +kernel
theorem dL_isBest_37 : decode cL_isBest 37 = .ok (.invokevirtual 52, 3) := by decide +kernel
theorem dL_isBest_40 : decode cL_isBest 40 = .ok (.ifCond .ge 5, 3) := by decide +kernel
theorem dL_isBest_43 : decode cL_isBest 43 = .ok (.iconst 0, 1) := by decide +kernel
theorem dL_isBest_44 : decode cL_isBest 44 = .ok (.ireturn, 1) := by decide +kernel
theorem dL_isBest_45 : decode cL_isBest 45 = .ok (.aload_n 0, 1) := by decide +kernel
theorem dL_isBest_46 : decode cL_isBest 46 = .ok (.iload_n 1, 1) := by decide +kernel
theorem dL_isBest_47 : decode cL_isBest 47 = .ok (.iconst 1, 1) := by decide +kernel
theorem dL_isBest_48 : decode cL_isBest 48 = .ok (.invokevirtual 18, 3) := by decide +kernel
theorem dL_isBest_51 : decode cL_isBest 51 = .ok (.istore 6, 2) := by decide +kernel
theorem dL_isBest_53 : decode cL_isBest 53 = .ok (.aload_n 0, 1) := by decide +kernel
theorem dL_isBest_54 : decode cL_isBest 54 = .ok (.invokevirtual 55, 3) := by decide +kernel
theorem dL_isBest_57 : decode cL_isBest 57 = .ok (.ifCond .lt 12, 3) := by decide +kernel
theorem dL_isBest_60 : decode cL_isBest 60 = .ok (.aload_n 0, 1) := by decide +kernel
theorem dL_isBest_61 : decode cL_isBest 61 = .ok (.iload_n 1, 1) := by decide +kernel
theorem dL_isBest_62 : decode cL_isBest 62 = .ok (.iload_n 2, 1) := by decide +kernel
theorem dL_isBest_63 : decode cL_isBest 63 = .ok (.invokevirtual 52, 3) := by decide +kernel
theorem dL_isBest_66 : decode cL_isBest 66 = .ok (.ifCond .ge 5, 3) := by decide +kernel
theorem dL_isBest_69 : decode cL_isBest 69 = .ok (.iconst 0, 1) := by decide +kernel
theorem dL_isBest_70 : decode cL_isBest 70 = .ok (.ireturn, 1) := by decide +kernel
theorem dL_isBest_71 : decode cL_isBest 71 = .ok (.aload_n 0, 1) := by decide +kernel
theorem dL_isBest_72 : decode cL_isBest 72 = .ok (.iload_n 1, 1) := by decide +kernel
theorem dL_isBest_73 : decode cL_isBest 73 = .ok (.iconst 1, 1) := by decide +kernel
theorem dL_isBest_74 : decode cL_isBest 74 = .ok (.invokevirtual 18, 3) := by decide +kernel
theorem dL_isBest_77 : decode cL_isBest 77 = .ok (.istore 7, 2) := by decide +kernel
theorem dL_isBest_79 : decode cL_isBest 79 = .ok (.aload_n 0, 1) := by decide +kernel
theorem dL_isBest_80 : decode cL_isBest 80 = .ok (.invokevirtual 55, 3) := by decide +kernel
theorem dL_isBest_83 : decode cL_isBest 83 = .ok (.ifCond .lt 36, 3) := by decide +kernel
theorem dL_isBest_86 : decode cL_isBest 86 = .ok (.aload_n 0, 1) := by decide +kernel
theorem dL_isBest_87 : decode cL_isBest 87 = .ok (.invokestatic 45, 3) := by decide +kernel
theorem dL_isBest_90 : decode cL_isBest 90 = .ok (.lload_n 3, 1) := by decide +kernel
theorem dL_isBest_91 : decode cL_isBest 91 = .ok (.lcmp, 1) := by decide +kernel
theorem dL_isBest_92 : decode cL_isBest 92 = .ok (.ifCond .ne 27, 3) := by decide +kernel
theorem dL_isBest_95 : decode cL_isBest 95 = .ok (.iload 6, 2) := by decide +kernel
theorem dL_isBest_97 : decode cL_isBest 97 = .ok (.iload 7, 2) := by decide +kernel
theorem dL_isBest_99 : decode cL_isBest 99 = .ok (.if_icmp .lt 16, 3) := by decide +kernel
theorem dL_isBest_102 : decode cL_isBest 102 = .ok (.iload 6, 2) := by decide +kernel
theorem dL_isBest_104 : decode cL_isBest 104 = .ok (.iload 7, 2) := by decide +kernel
theorem dL_isBest_106 : decode cL_isBest 106 = .ok (.if_icmp .ne 13, 3) := by decide +kernel
theorem dL_isBest_109 : decode cL_isBest 109 = .ok (.iload 5, 2) := by decide +kernel
theorem dL_isBest_111 : decode cL_isBest 111 = .ok (.iload_n 2, 1) := by decide +kernel
theorem dL_isBest_112 : decode cL_isBest 112 = .ok (.if_icmp .gt 7, 3) := by decide +kernel
theorem dL_isBest_115 : decode cL_isBest 115 = .ok (.iconst 1, 1) := by decide +kernel
theorem dL_isBest_116 : decode cL_isBest 116 = .ok (.goto 4, 3) := by decide +kernel
theorem dL_isBest_119 : decode cL_isBest 119 = .ok (.iconst 0, 1) := by decide +kernel
theorem dL_isBest_120 : decode cL_isBest 120 = .ok (.ireturn, 1) := by decide +kernel
theorem dL_acts_0 : decode cL_acts 0 = .ok (.aload_n 0, 1) := by decide +kernel
theorem dL_acts_1 : decode cL_acts 1 = .ok (.iconst 0, 1) := by decide +kernel
theorem dL_acts_2 : decode cL_acts 2 = .ok (.invokevirtual 12, 3) := by decide +kernel
theorem dL_acts_5 : decode cL_acts 5 = .ok (.istore_n 2, 1) := by decide +kernel
theorem dL_acts_6 : decode cL_acts 6 = .ok (.iload_n 1, 1) := by decide +kernel
theorem dL_acts_7 : decode cL_acts 7 = .ok (.iconst 4, 1) := by decide +kernel
theorem dL_acts_8 : decode cL_acts 8 = .ok (.ishr, 1) := by decide +kernel
theorem dL_acts_9 : decode cL_acts 9 = .ok (.iload_n 1, 1) := by decide +kernel
theorem dL_acts_10 : decode cL_acts 10 = .ok (.bipush 26, 2) := by decide +kernel
theorem dL_acts_12 : decode cL_acts 12 = .ok (.ishr, 1) := by decide +kernel
theorem dL_acts_13 : decode cL_acts 13 = .ok (.bipush 7, 2) := by decide +kernel
theorem dL_acts_15 : decode cL_acts 15 = .ok (.iand, 1) := by decide +kernel
theorem dL_acts_16 : decode cL_acts 16 = .ok (.ifCond .ne 9, 3) := by decide +kernel
theorem dL_acts_19 : decode cL_acts 19 = .ok (.iload_n 2, 1) := by decide +kernel
theorem dL_acts_20 : decode cL_acts 20 = .ok (.iconst 1, 1) := by decide +kernel
theorem dL_acts_21 : decode cL_acts 21 = .ok (.iadd, 1) := by decide +kernel
theorem dL_acts_22 : decode cL_acts 22 = .ok (.goto 4, 3) := by decide +kernel
theorem dL_acts_25 : decode cL_acts 25 = .ok (.iload_n 2, 1) := by decide +kernel
theorem dL_acts_26 : decode cL_acts 26 = .ok (.invokestatic 59, 3) := by decide +kernel
theorem dL_acts_29 : decode cL_acts 29 = .ok (.istore_n 3, 1) := by decide +kernel
theorem dL_acts_30 : decode cL_acts 30 = .ok (.iload_n 1, 1) := by decide +kernel
theorem dL_acts_31 : decode cL_acts 31 = .ok (.bipush 16, 2) := by decide +kernel
theorem dL_acts_33 : decode cL_acts 33 = .ok (.invokestatic 59, 3) := by decide +kernel
theorem dL_acts_36 : decode cL_acts 36 = .ok (.tableswitch 262 0 14 #[76, 76, 76, 125, 125, 148, 148, 184, 200, 200, 200, 230, 236, 236, 256], 76) := by decide +kernel
theorem dL_acts_112 : decode cL_acts 112 = .ok (.aload_n 0, 1) := by decide +kernel
theorem dL_acts_113 : decode cL_acts 113 = .ok (.iload_n 3, 1) := by decide +kernel
theorem dL_acts_114 : decode cL_acts 114 = .ok (.iload_n 1, 1) := by decide +kernel
theorem dL_acts_115 : decode cL_acts 115 = .ok (.bipush 7, 2) := by decide +kernel
theorem dL_acts_117 : decode cL_acts 117 = .ok (.ishr, 1) := by decide +kernel
theorem dL_acts_118 : decode cL_acts 118 = .ok (.iconst 1, 1) := by decide +kernel
theorem dL_acts_119 : decode cL_acts 119 = .ok (.iand, 1) := by decide +kernel
theorem dL_acts_120 : decode cL_acts 120 = .ok (.iload_n 1, 1) := by decide +kernel
theorem dL_acts_121 : decode cL_acts 121 = .ok (.bipush 8, 2) := by decide +kernel
theorem dL_acts_123 : decode cL_acts 123 = .ok (.ishr, 1) := by decide +kernel
theorem dL_acts_124 : decode cL_acts 124 = .ok (.iconst 1, 1) := by decide +kernel
theorem dL_acts_125 : decode cL_acts 125 = .ok (.iand, 1) := by decide +kernel
theorem dL_acts_126 : decode cL_acts 126 = .ok (.ifCond .ne 20, 3) := by decide +kernel
theorem dL_acts_129 : decode cL_acts 129 = .ok (.bipush 15, 2) := by decide +kernel
theorem dL_acts_131 : decode cL_acts 131 = .ok (.iconst 1, 1) := by decide +kernel
theorem dL_acts_132 : decode cL_acts 132 = .ok (.iload_n 1, 1) := by decide +kernel
theorem dL_acts_133 : decode cL_acts 133 = .ok (.bipush 9, 2) := by decide +kernel
theorem dL_acts_135 : decode cL_acts 135 = .ok (.ishr, 1) := by decide +kernel
theorem dL_acts_136 : decode cL_acts 136 = .ok (.bipush 22, 2) := by decide +kernel
theorem dL_acts_138 : decode cL_acts 138 = .ok (.invokestatic 59, 3) := by decide +kernel
theorem dL_acts_141 : decode cL_acts 141 = .ok (.iadd, 1) := by decide +kernel
theorem dL_acts_142 : decode cL_acts 142 = .ok (.imul, 1) := by decide +kernel
theorem dL_acts_143 : decode cL_acts 143 = .ok (.goto 14, 3) := by decide +kernel
theorem dL_acts_146 : decode cL_acts 146 = .ok (.iconst 1, 1) := by decide +kernel
theorem dL_acts_147 : decode cL_acts 147 = .ok (.iload_n 1, 1) := by decide +kernel
theorem dL_acts_148 : decode cL_acts 148 = .ok (.bipush 9, 2) := by decide +kernel
theorem dL_acts_150 : decode cL_acts 150 = .ok (.ishr, 1) := by decide +kernel
theorem dL_acts_151 : decode cL_acts 151 = .ok (.bipush 90, 2) := by decide +kernel
theorem dL_acts_153 : decode cL_acts 153 = .ok (.invokestatic 59, 3) := by decide +kernel
theorem dL_acts_156 : decode cL_acts 156 = .ok (.iadd, 1) := by decide +kernel
theorem dL_acts_157 : decode cL_acts 157 = .ok (.invokevirtual 62, 3) := by decide +kernel
theorem dL_acts_160 : decode cL_acts 160 = .ok (.ireturn, 1) := by decide +kernel
theorem dL_acts_161 : decode cL_acts 161 = .ok (.aload_n 0, 1) := by decide +kernel
theorem dL_acts_162 : decode cL_acts 162 = .ok (.iload_n 3, 1) := by decide +kernel
theorem dL_acts_163 : decode cL_acts 163 = .ok (.iload_n 1, 1) := by decide +kernel
theorem dL_acts_164 : decode cL_acts 164 = .ok (.bipush 9, 2) := by decide +kernel
theorem dL_acts_166 : decode cL_acts 166 = .ok (.ishr, 1) := by decide +kernel
theorem dL_acts_167 : decode cL_acts 167 = .ok (.ldc 66, 2) := by decide +kernel
theorem dL_acts_169 : decode cL_acts 169 = .ok (.iand, 1) := by decide +kernel
theorem dL_acts_170 : decode cL_acts 170 = .ok (.iconst 1, 1) := by decide +kernel
theorem dL_acts_171 : decode cL_acts 171 = .ok (.iload_n 1, 1) := by decide +kernel
theorem dL_acts_172 : decode cL_acts 172 = .ok (.iconst 5, 1) := by decide +kernel
theorem dL_acts_173 : decode cL_acts 173 = .ok (.ishr, 1) := by decide +kernel
theorem dL_acts_174 : decode cL_acts 174 = .ok (.bipush 17, 2) := by decide +kernel
theorem dL_acts_176 : decode cL_acts 176 = .ok (.invokestatic 59, 3) := by decide +kernel
theorem dL_acts_179 : decode cL_acts 179 = .ok (.iadd, 1) := by decide +kernel
theorem dL_acts_180 : decode cL_acts 180 = .ok (.invokevirtual 67, 3) := by decide +kernel
theorem dL_acts_183 : decode cL_acts 183 = .ok (.ireturn, 1) := by decide +kernel
theorem dL_acts_184 : decode cL_acts 184 = .ok (.aload_n 0, 1) := by decide +kernel
theorem dL_acts_185 : decode cL_acts 185 = .ok (.iload_n 3, 1) := by decide +kernel
theorem dL_acts_186 : decode cL_acts 186 = .ok (.iload_n 1, 1) := by decide +kernel
theorem dL_acts_187 : decode cL_acts 187 = .ok (.bipush 9, 2) := by decide +kernel
theorem dL_acts_189 : decode cL_acts 189 = .ok (.ishr, 1) := by decide +kernel
theorem dL_acts_190 : decode cL_acts 190 = .ok (.iconst 1, 1) := by decide +kernel
theorem dL_acts_191 : decode cL_acts 191 = .ok (.aload_n 0, 1) := by decide +kernel
theorem dL_acts_192 : decode cL_acts 192 = .ok (.iload_n 3, 1) := by decide +kernel
theorem dL_acts_193 : decode cL_acts 193 = .ok (.iload_n 2, 1) := by decide +kernel
theorem dL_acts_194 : decode cL_acts 194 = .ok (.if_icmp .ge 7, 3) := by decide +kernel
theorem dL_acts_197 : decode cL_acts 197 = .ok (.iload_n 3, 1) := by decide +kernel
theorem dL_acts_198 : decode cL_acts 198 = .ok (.goto 4, 3) := by decide +kernel
theorem dL_acts_201 : decode cL_acts 201 = .ok (.iconst 0, 1) := by decide +kernel
theorem dL_acts_202 : decode cL_acts 202 = .ok (.iconst 0, 1) := by decide +kernel
theorem dL_acts_203 : decode cL_acts 203 = .ok (.invokevirtual 18, 3) := by decide +kernel
theorem dL_acts_206 : decode cL_acts 206 = .ok (.iadd, 1) := by decide +kernel
theorem dL_acts_207 : decode cL_acts 207 = .ok (.invokestatic 59, 3) := by decide +kernel
theorem dL_acts_210 : decode cL_acts 210 = .ok (.iload_n 1, 1) := by decide +kernel
theorem dL_acts_211 : decode cL_acts 211 = .ok (.bipush 7, 2) := by decide +kernel
theorem dL_acts_213 : decode cL_acts 213 = .ok (.ishr, 1) := by decide +kernel
theorem dL_acts_214 : decode cL_acts 214 = .ok (.iconst 1, 1) := by decide +kernel
theorem dL_acts_215 : decode cL_acts 215 = .ok (.iand, 1) := by decide +kernel
theorem dL_acts_216 : decode cL_acts 216 = .ok (.invokevirtual 70, 3) := by decide +kernel
theorem dL_acts_219 : decode cL_acts 219 = .ok (.ireturn, 1) := by decide +kernel
theorem dL_acts_220 : decode cL_acts 220 = .ok (.aload_n 0, 1) := by decide +kernel
theorem dL_acts_221 : decode cL_acts 221 = .ok (.iload_n 3, 1) := by decide +kernel
theorem dL_acts_222 : decode cL_acts 222 = .ok (.iload_n 1, 1) := by decide +kernel
theorem dL_acts_223 : decode cL_acts 223 = .ok (.bipush 9, 2) := by decide +kernel
theorem dL_acts_225 : decode cL_acts 225 = .ok (.ishr, 1) := by decide +kernel
theorem dL_acts_226 : decode cL_acts 226 = .ok (.sipush 610, 3) := by decide +kernel
theorem dL_acts_229 : decode cL_acts 229 = .ok (.invokestatic 59, 3) := by decide +kernel
theorem dL_acts_232 : decode cL_acts 232 = .ok (.invokevirtual 73, 3) := by decide +kernel
theorem dL_acts_235 : decode cL_acts 235 = .ok (.ireturn, 1) := by decide +kernel
theorem dL_acts_236 : decode cL_acts 236 = .ok (.aload_n 0, 1) := by decide +kernel
theorem dL_acts_237 : decode cL_acts 237 = .ok (.iload_n 3, 1) := by decide +kernel
theorem dL_acts_238 : decode cL_acts 238 = .ok (.iload_n 1, 1) := by decide +kernel
theorem dL_acts_239 : decode cL_acts 239 = .ok (.bipush 9, 2) := by decide +kernel
theorem dL_acts_241 : decode cL_acts 241 = .ok (.ishr, 1) := by decide +kernel
theorem dL_acts_242 : decode cL_acts 242 = .ok (.iconst 4, 1) := by decide +kernel
theorem dL_acts_243 : decode cL_acts 243 = .ok (.invokestatic 59, 3) := by decide +kernel
theorem dL_acts_246 : decode cL_acts 246 = .ok (.iload_n 1, 1) := by decide +kernel
theorem dL_acts_247 : decode cL_acts 247 = .ok (.bipush 11, 2) := by decide +kernel
theorem dL_acts_249 : decode cL_acts 249 = .ok (.ishr, 1) := by decide +kernel
theorem dL_acts_250 : decode cL_acts 250 = .ok (.iload_n 2, 1) := by decide +kernel
theorem dL_acts_251 : decode cL_acts 251 = .ok (.invokestatic 59, 3) := by decide +kernel
theorem dL_acts_254 : decode cL_acts 254 = .ok (.iload_n 1, 1) := by decide +kernel
theorem dL_acts_255 : decode cL_acts 255 = .ok (.bipush 14, 2) := by decide +kernel
theorem dL_acts_257 : decode cL_acts 257 = .ok (.ishr, 1) := by decide +kernel
theorem dL_acts_258 : decode cL_acts 258 = .ok (.iload_n 2, 1) := by decide +kernel
theorem dL_acts_259 : decode cL_acts 259 = .ok (.invokestatic 59, 3) := by decide +kernel
theorem dL_acts_262 : decode cL_acts 262 = .ok (.invokevirtual 76, 3) := by decide +kernel
theorem dL_acts_265 : decode cL_acts 265 = .ok (.ireturn, 1) := by decide +kernel
theorem dL_acts_266 : decode cL_acts 266 = .ok (.aload_n 0, 1) := by decide +kernel
theorem dL_acts_267 : decode cL_acts 267 = .ok (.iload_n 3, 1) := by decide +kernel
theorem dL_acts_268 : decode cL_acts 268 = .ok (.invokevirtual 79, 3) := by decide +kernel
theorem dL_acts_271 : decode cL_acts 271 = .ok (.ireturn, 1) := by decide +kernel
theorem dL_acts_272 : decode cL_acts 272 = .ok (.aload_n 0, 1) := by decide +kernel
theorem dL_acts_273 : decode cL_acts 273 = .ok (.iload_n 3, 1) := by decide +kernel
theorem dL_acts_274 : decode cL_acts 274 = .ok (.iload_n 1, 1) := by decide +kernel
theorem dL_acts_275 : decode cL_acts 275 = .ok (.bipush 9, 2) := by decide +kernel
theorem dL_acts_277 : decode cL_acts 277 = .ok (.ishr, 1) := by decide +kernel
theorem dL_acts_278 : decode cL_acts 278 = .ok (.sipush 1210, 3) := by decide +kernel
theorem dL_acts_281 : decode cL_acts 281 = .ok (.invokestatic 59, 3) := by decide +kernel
theorem dL_acts_284 : decode cL_acts 284 = .ok (.sipush 605, 3) := by decide +kernel
theorem dL_acts_287 : decode cL_acts 287 = .ok (.isub, 1) := by decide +kernel
theorem dL_acts_288 : decode cL_acts 288 = .ok (.invokevirtual 52, 3) := by decide +kernel
theorem dL_acts_291 : decode cL_acts 291 = .ok (.ireturn, 1) := by decide +kernel
theorem dL_acts_292 : decode cL_acts 292 = .ok (.aload_n 0, 1) := by decide +kernel
theorem dL_acts_293 : decode cL_acts 293 = .ok (.iload_n 3, 1) := by decide +kernel
theorem dL_acts_294 : decode cL_acts 294 = .ok (.invokevirtual 82, 3) := by decide +kernel
theorem dL_acts_297 : decode cL_acts 297 = .ok (.ireturn, 1) := by decide +kernel
theorem dL_acts_298 : decode cL_acts 298 = .ok (.aload_n 0, 1) := by decide +kernel
theorem dL_acts_299 : decode cL_acts 299 = .ok (.invokevirtual 85, 3) := by decide +kernel
theorem dL_acts_302 : decode cL_acts 302 = .ok (.ireturn, 1) := by decide +kernel
theorem dL_law_0 : decode cL_law 0 = .ok (.new 13, 3) := by decide +kernel
theorem dL_law_3 : decode cL_law 3 = .ok (.dup, 1) := by decide +kernel
theorem dL_law_4 : decode cL_law 4 = .ok (.invokespecial 88, 3) := by decide +kernel
theorem dL_law_7 : decode cL_law 7 = .ok (.astore_n 1, 1) := by decide +kernel
theorem dL_law_8 : decode cL_law 8 = .ok (.aload_n 0, 1) := by decide +kernel
theorem dL_law_9 : decode cL_law 9 = .ok (.iconst 0, 1) := by decide +kernel
theorem dL_law_10 : decode cL_law 10 = .ok (.invokestatic 89, 3) := by decide +kernel
theorem dL_law_13 : decode cL_law 13 = .ok (.istore_n 2, 1) := by decide +kernel
theorem dL_law_14 : decode cL_law 14 = .ok (.iconst 0, 1) := by decide +kernel
theorem dL_law_15 : decode cL_law 15 = .ok (.istore_n 3, 1) := by decide +kernel
theorem dL_law_16 : decode cL_law 16 = .ok (.iload_n 3, 1) := by decide +kernel
theorem dL_law_17 : decode cL_law 17 = .ok (.iconst 3, 1) := by decide +kernel
theorem dL_law_18 : decode cL_law 18 = .ok (.if_icmp .ge 38, 3) := by decide +kernel
theorem dL_law_21 : decode cL_law 21 = .ok (.aload_n 1, 1) := by decide +kernel
theorem dL_law_22 : decode cL_law 22 = .ok (.invokevirtual 85, 3) := by decide +kernel
theorem dL_law_25 : decode cL_law 25 = .ok (.pop, 1) := by decide +kernel
theorem dL_law_26 : decode cL_law 26 = .ok (.aload_n 1, 1) := by decide +kernel
theorem dL_law_27 : decode cL_law 27 = .ok (.iload_n 3, 1) := by decide +kernel
theorem dL_law_28 : decode cL_law 28 = .ok (.iload_n 2, 1) := by decide +kernel
theorem dL_law_29 : decode cL_law 29 = .ok (.iload_n 3, 1) := by decide +kernel
theorem dL_law_30 : decode cL_law 30 = .ok (.ishr, 1) := by decide +kernel
theorem dL_law_31 : decode cL_law 31 = .ok (.iconst 1, 1) := by decide +kernel
theorem dL_law_32 : decode cL_law 32 = .ok (.iand, 1) := by decide +kernel
theorem dL_law_33 : decode cL_law 33 = .ok (.iconst 1, 1) := by decide +kernel
theorem dL_law_34 : decode cL_law 34 = .ok (.iload_n 2, 1) := by decide +kernel
theorem dL_law_35 : decode cL_law 35 = .ok (.iconst 3, 1) := by decide +kernel
theorem dL_law_36 : decode cL_law 36 = .ok (.iload_n 3, 1) := by decide +kernel
theorem dL_law_37 : decode cL_law 37 = .ok (.imul, 1) := by decide +kernel
theorem dL_law_38 : decode cL_law 38 = .ok (.ishr, 1) := by decide +kernel
theorem dL_law_39 : decode cL_law 39 = .ok (.sipush 300, 3) := by decide +kernel
theorem dL_law_42 : decode cL_law 42 = .ok (.invokestatic 59, 3) := by decide +kernel
theorem dL_law_45 : decode cL_law 45 = .ok (.iadd, 1) := by decide +kernel
theorem dL_law_46 : decode cL_law 46 = .ok (.invokevirtual 62, 3) := by decide +kernel
theorem dL_law_49 : decode cL_law 49 = .ok (.pop, 1) := by decide +kernel
theorem dL_law_50 : decode cL_law 50 = .ok (.iinc 3 1, 3) := by decide +kernel
theorem dL_law_53 : decode cL_law 53 = .ok (.goto (-37), 3) := by decide +kernel
theorem dL_law_56 : decode cL_law 56 = .ok (.aload_n 1, 1) := by decide +kernel
theorem dL_law_57 : decode cL_law 57 = .ok (.bipush 48, 2) := by decide +kernel
theorem dL_law_59 : decode cL_law 59 = .ok (.iload_n 2, 1) := by decide +kernel
theorem dL_law_60 : decode cL_law 60 = .ok (.bipush 9, 2) := by decide +kernel
theorem dL_law_62 : decode cL_law 62 = .ok (.ishr, 1) := by decide +kernel
theorem dL_law_63 : decode cL_law 63 = .ok (.iconst 3, 1) := by decide +kernel
theorem dL_law_64 : decode cL_law 64 = .ok (.invokestatic 59, 3) := by decide +kernel
theorem dL_law_67 : decode cL_law 67 = .ok (.iadd, 1) := by decide +kernel
theorem dL_law_68 : decode cL_law 68 = .ok (.invokevirtual 93, 3) := by decide +kernel
theorem dL_law_71 : decode cL_law 71 = .ok (.pop, 1) := by decide +kernel
theorem dL_law_72 : decode cL_law 72 = .ok (.aload_n 1, 1) := by decide +kernel
theorem dL_law_73 : decode cL_law 73 = .ok (.iload_n 2, 1) := by decide +kernel
theorem dL_law_74 : decode cL_law 74 = .ok (.bipush 12, 2) := by decide +kernel
theorem dL_law_76 : decode cL_law 76 = .ok (.ishr, 1) := by decide +kernel
theorem dL_law_77 : decode cL_law 77 = .ok (.iconst 1, 1) := by decide +kernel
theorem dL_law_78 : decode cL_law 78 = .ok (.iand, 1) := by decide +kernel
theorem dL_law_79 : decode cL_law 79 = .ok (.ifCond .ne 8, 3) := by decide +kernel
theorem dL_law_82 : decode cL_law 82 = .ok (.bipush 38, 2) := by decide +kernel
theorem dL_law_84 : decode cL_law 84 = .ok (.goto 5, 3) := by decide +kernel
theorem dL_law_87 : decode cL_law 87 = .ok (.bipush 94, 2) := by decide +kernel
theorem dL_law_89 : decode cL_law 89 = .ok (.invokevirtual 93, 3) := by decide +kernel
theorem dL_law_92 : decode cL_law 92 = .ok (.pop, 1) := by decide +kernel
theorem dL_law_93 : decode cL_law 93 = .ok (.aload_n 1, 1) := by decide +kernel
theorem dL_law_94 : decode cL_law 94 = .ok (.bipush 126, 2) := by decide +kernel
theorem dL_law_96 : decode cL_law 96 = .ok (.invokevirtual 93, 3) := by decide +kernel
theorem dL_law_99 : decode cL_law 99 = .ok (.pop, 1) := by decide +kernel
theorem dL_law_100 : decode cL_law 100 = .ok (.aload_n 1, 1) := by decide +kernel
theorem dL_law_101 : decode cL_law 101 = .ok (.bipush 48, 2) := by decide +kernel
theorem dL_law_103 : decode cL_law 103 = .ok (.iload_n 2, 1) := by decide +kernel
theorem dL_law_104 : decode cL_law 104 = .ok (.bipush 13, 2) := by decide +kernel
theorem dL_law_106 : decode cL_law 106 = .ok (.ishr, 1) := by decide +kernel
theorem dL_law_107 : decode cL_law 107 = .ok (.iconst 4, 1) := by decide +kernel
theorem dL_law_108 : decode cL_law 108 = .ok (.invokestatic 59, 3) := by decide +kernel
theorem dL_law_111 : decode cL_law 111 = .ok (.iadd, 1) := by decide +kernel
theorem dL_law_112 : decode cL_law 112 = .ok (.invokevirtual 93, 3) := by decide +kernel
theorem dL_law_115 : decode cL_law 115 = .ok (.pop, 1) := by decide +kernel
theorem dL_law_116 : decode cL_law 116 = .ok (.iconst 0, 1) := by decide +kernel
theorem dL_law_117 : decode cL_law 117 = .ok (.istore_n 3, 1) := by decide +kernel
theorem dL_law_118 : decode cL_law 118 = .ok (.iload_n 3, 1) := by decide +kernel
theorem dL_law_119 : decode cL_law 119 = .ok (.bipush 24, 2) := by decide +kernel
theorem dL_law_121 : decode cL_law 121 = .ok (.if_icmp .ge 178, 3) := by decide +kernel
theorem dL_law_124 : decode cL_law 124 = .ok (.aload_n 0, 1) := by decide +kernel
theorem dL_law_125 : decode cL_law 125 = .ok (.iconst 1, 1) := by decide +kernel
theorem dL_law_126 : decode cL_law 126 = .ok (.iload_n 3, 1) := by decide +kernel
theorem dL_law_127 : decode cL_law 127 = .ok (.iadd, 1) := by decide +kernel
theorem dL_law_128 : decode cL_law 128 = .ok (.invokestatic 89, 3) := by decide +kernel
theorem dL_law_131 : decode cL_law 131 = .ok (.istore 4, 2) := by decide +kernel
theorem dL_law_133 : decode cL_law 133 = .ok (.aload_n 1, 1) := by decide +kernel
theorem dL_law_134 : decode cL_law 134 = .ok (.invokestatic 45, 3) := by decide +kernel
theorem dL_law_137 : decode cL_law 137 = .ok (.lstore 5, 2) := by decide +kernel
theorem dL_law_139 : decode cL_law 139 = .ok (.aload_n 1, 1) := by decide +kernel
theorem dL_law_140 : decode cL_law 140 = .ok (.iload 4, 2) := by decide +kernel
theorem dL_law_142 : decode cL_law 142 = .ok (.invokestatic 96, 3) := by decide +kernel
theorem dL_law_145 : decode cL_law 145 = .ok (.istore 7, 2) := by decide +kernel
theorem dL_law_147 : decode cL_law 147 = .ok (.iload 7, 2) := by decide +kernel
theorem dL_law_149 : decode cL_law 149 = .ok (.ifCond .ge 15, 3) := by decide +kernel
theorem dL_law_152 : decode cL_law 152 = .ok (.aload_n 1, 1) := by decide +kernel
theorem dL_law_153 : decode cL_law 153 = .ok (.invokestatic 45, 3) := by decide +kernel
theorem dL_law_156 : decode cL_law 156 = .ok (.lload 5, 2) := by decide +kernel
theorem dL_law_158 : decode cL_law 158 = .ok (.lcmp, 1) := by decide +kernel
theorem dL_law_159 : decode cL_law 159 = .ok (.ifCond .eq 5, 3) := by decide +kernel
theorem dL_law_162 : decode cL_law 162 = .ok (.iconst 0, 1) := by decide +kernel
theorem dL_law_163 : decode cL_law 163 = .ok (.ireturn, 1) := by decide +kernel
theorem dL_law_164 : decode cL_law 164 = .ok (.iload 7, 2) := by decide +kernel
theorem dL_law_166 : decode cL_law 166 = .ok (.ifCond .lt 32, 3) := by decide +kernel
theorem dL_law_169 : decode cL_law 169 = .ok (.iload 4, 2) := by decide +kernel
theorem dL_law_171 : decode cL_law 171 = .ok (.bipush 28, 2) := by decide +kernel
theorem dL_law_173 : decode cL_law 173 = .ok (.ishr, 1) := by decide +kernel
theorem dL_law_174 : decode cL_law 174 = .ok (.iconst 3, 1) := by decide +kernel
theorem dL_law_175 : decode cL_law 175 = .ok (.iand, 1) := by decide +kernel
theorem dL_law_176 : decode cL_law 176 = .ok (.ifCond .ne 22, 3) := by decide +kernel
theorem dL_law_179 : decode cL_law 179 = .ok (.aload_n 1, 1) := by decide +kernel
theorem dL_law_180 : decode cL_law 180 = .ok (.invokevirtual 55, 3) := by decide +kernel
theorem dL_law_183 : decode cL_law 183 = .ok (.ifCond .lt 13, 3) := by decide +kernel
theorem dL_law_186 : decode cL_law 186 = .ok (.aload_n 1, 1) := by decide +kernel
theorem dL_law_187 : decode cL_law 187 = .ok (.invokestatic 45, 3) := by decide +kernel
theorem dL_law_190 : decode cL_law 190 = .ok (.lload 5, 2) := by decide +kernel
theorem dL_law_192 : decode cL_law 192 = .ok (.lcmp, 1) := by decide +kernel
theorem dL_law_193 : decode cL_law 193 = .ok (.ifCond .eq 5, 3) := by decide +kernel
theorem dL_law_196 : decode cL_law 196 = .ok (.iconst 0, 1) := by decide +kernel
theorem dL_law_197 : decode cL_law 197 = .ok (.ireturn, 1) := by decide +kernel
theorem dL_law_198 : decode cL_law 198 = .ok (.aload_n 1, 1) := by decide +kernel
theorem dL_law_199 : decode cL_law 199 = .ok (.iconst 0, 1) := by decide +kernel
theorem dL_law_200 : decode cL_law 200 = .ok (.invokevirtual 12, 3) := by decide +kernel
theorem dL_law_203 : decode cL_law 203 = .ok (.istore 8, 2) := by decide +kernel
theorem dL_law_205 : decode cL_law 205 = .ok (.aload_n 1, 1) := by decide +kernel
theorem dL_law_206 : decode cL_law 206 = .ok (.iload 4, 2) := by decide +kernel
theorem dL_law_208 : decode cL_law 208 = .ok (.bipush 6, 2) := by decide +kernel
theorem dL_law_210 : decode cL_law 210 = .ok (.ishr, 1) := by decide +kernel
theorem dL_law_211 : decode cL_law 211 = .ok (.iload 8, 2) := by decide +kernel
theorem dL_law_213 : decode cL_law 213 = .ok (.invokestatic 59, 3) := by decide +kernel
theorem dL_law_216 : decode cL_law 216 = .ok (.invokestatic 100, 3) := by decide +kernel
theorem dL_law_219 : decode cL_law 219 = .ok (.ifCond .eq 72, 3) := by decide +kernel
theorem dL_law_222 : decode cL_law 222 = .ok (.iload_n 3, 1) := by decide +kernel
theorem dL_law_223 : decode cL_law 223 = .ok (.iconst 3, 1) := by decide +kernel
theorem dL_law_224 : decode cL_law 224 = .ok (.irem, 1) := by decide +kernel
theorem dL_law_225 : decode cL_law 225 = .ok (.iconst 1, 1) := by decide +kernel
theorem dL_law_226 : decode cL_law 226 = .ok (.if_icmp .ne 30, 3) := by decide +kernel
theorem dL_law_229 : decode cL_law 229 = .ok (.aload_n 1, 1) := by decide +kernel
theorem dL_law_230 : decode cL_law 230 = .ok (.iload 4, 2) := by decide +kernel
theorem dL_law_232 : decode cL_law 232 = .ok (.bipush 9, 2) := by decide +kernel
theorem dL_law_234 : decode cL_law 234 = .ok (.ishr, 1) := by decide +kernel
theorem dL_law_235 : decode cL_law 235 = .ok (.iload 8, 2) := by decide +kernel
theorem dL_law_237 : decode cL_law 237 = .ok (.invokestatic 59, 3) := by decide +kernel
theorem dL_law_240 : decode cL_law 240 = .ok (.iload 4, 2) := by decide +kernel
theorem dL_law_242 : decode cL_law 242 = .ok (.bipush 12, 2) := by decide +kernel
theorem dL_law_244 : decode cL_law 244 = .ok (.ishr, 1) := by decide +kernel
theorem dL_law_245 : decode cL_law 245 = .ok (.iload 8, 2) := by decide +kernel
theorem dL_law_247 : decode cL_law 247 = .ok (.invokestatic 59, 3) := by decide +kernel
theorem dL_law_250 : decode cL_law 250 = .ok (.invokestatic 104, 3) := by decide +kernel
theorem dL_law_253 : decode cL_law 253 = .ok (.ifCond .eq 38, 3) := by decide +kernel
theorem dL_law_256 : decode cL_law 256 = .ok (.iload_n 3, 1) := by decide +kernel
theorem dL_law_257 : decode cL_law 257 = .ok (.bipush 8, 2) := by decide +kernel
theorem dL_law_259 : decode cL_law 259 = .ok (.irem, 1) := by decide +kernel
theorem dL_law_260 : decode cL_law 260 = .ok (.iconst 3, 1) := by decide +kernel
theorem dL_law_261 : decode cL_law 261 = .ok (.if_icmp .ne 32, 3) := by decide +kernel
theorem dL_law_264 : decode cL_law 264 = .ok (.aload_n 1, 1) := by decide +kernel
theorem dL_law_265 : decode cL_law 265 = .ok (.iload 4, 2) := by decide +kernel
theorem dL_law_267 : decode cL_law 267 = .ok (.bipush 7, 2) := by decide +kernel
theorem dL_law_269 : decode cL_law 269 = .ok (.ishr, 1) := by decide +kernel
theorem dL_law_270 : decode cL_law 270 = .ok (.iload 8, 2) := by decide +kernel
theorem dL_law_272 : decode cL_law 272 = .ok (.invokestatic 59, 3) := by decide +kernel
theorem dL_law_275 : decode cL_law 275 = .ok (.iload 4, 2) := by decide +kernel
theorem dL_law_277 : decode cL_law 277 = .ok (.bipush 16, 2) := by decide +kernel
theorem dL_law_279 : decode cL_law 279 = .ok (.ishr, 1) := by decide +kernel
theorem dL_law_280 : decode cL_law 280 = .ok (.bipush 15, 2) := by decide +kernel
theorem dL_law_282 : decode cL_law 282 = .ok (.invokestatic 59, 3) := by decide +kernel
theorem dL_law_285 : decode cL_law 285 = .ok (.invokestatic 108, 3) := by decide +kernel
theorem dL_law_288 : decode cL_law 288 = .ok (.ifCond .ne 5, 3) := by decide +kernel
theorem dL_law_291 : decode cL_law 291 = .ok (.iconst 0, 1) := by decide +kernel
theorem dL_law_292 : decode cL_law 292 = .ok (.ireturn, 1) := by decide +kernel
theorem dL_law_293 : decode cL_law 293 = .ok (.iinc 3 1, 3) := by decide +kernel
theorem dL_law_296 : decode cL_law 296 = .ok (.goto (-178), 3) := by decide +kernel
theorem dL_law_299 : decode cL_law 299 = .ok (.aload_n 1, 1) := by decide +kernel
theorem dL_law_300 : decode cL_law 300 = .ok (.iconst 4, 1) := by decide +kernel
theorem dL_law_301 : decode cL_law 301 = .ok (.invokevirtual 12, 3) := by decide +kernel
theorem dL_law_304 : decode cL_law 304 = .ok (.istore_n 3, 1) := by decide +kernel
theorem dL_law_305 : decode cL_law 305 = .ok (.iconst 0, 1) := by decide +kernel
theorem dL_law_306 : decode cL_law 306 = .ok (.istore 4, 2) := by decide +kernel
theorem dL_law_308 : decode cL_law 308 = .ok (.iload 4, 2) := by decide +kernel
theorem dL_law_310 : decode cL_law 310 = .ok (.iload_n 3, 1) := by decide +kernel
theorem dL_law_311 : decode cL_law 311 = .ok (.if_icmp .ge 40, 3) := by decide +kernel
theorem dL_law_314 : decode cL_law 314 = .ok (.aload_n 1, 1) := by decide +kernel
theorem dL_law_315 : decode cL_law 315 = .ok (.invokevirtual 55, 3) := by decide +kernel
theorem dL_law_318 : decode cL_law 318 = .ok (.iload_n 3, 1) := by decide +kernel
theorem dL_law_319 : decode cL_law 319 = .ok (.iconst 1, 1) := by decide +kernel
theorem dL_law_320 : decode cL_law 320 = .ok (.isub, 1) := by decide +kernel
theorem dL_law_321 : decode cL_law 321 = .ok (.iload 4, 2) := by decide +kernel
theorem dL_law_323 : decode cL_law 323 = .ok (.isub, 1) := by decide +kernel
theorem dL_law_324 : decode cL_law 324 = .ok (.if_icmp .ne 19, 3) := by decide +kernel
theorem dL_law_327 : decode cL_law 327 = .ok (.aload_n 1, 1) := by decide +kernel
theorem dL_law_328 : decode cL_law 328 = .ok (.iconst 0, 1) := by decide +kernel
theorem dL_law_329 : decode cL_law 329 = .ok (.invokevirtual 12, 3) := by decide +kernel
theorem dL_law_332 : decode cL_law 332 = .ok (.ifCond .le 13, 3) := by decide +kernel
theorem dL_law_335 : decode cL_law 335 = .ok (.aload_n 1, 1) := by decide +kernel
theorem dL_law_336 : decode cL_law 336 = .ok (.iconst 0, 1) := by decide +kernel
theorem dL_law_337 : decode cL_law 337 = .ok (.invokestatic 100, 3) := by decide +kernel
theorem dL_law_340 : decode cL_law 340 = .ok (.ifCond .ne 5, 3) := by decide +kernel
theorem dL_law_343 : decode cL_law 343 = .ok (.iconst 0, 1) := by decide +kernel
theorem dL_law_344 : decode cL_law 344 = .ok (.ireturn, 1) := by decide +kernel
theorem dL_law_345 : decode cL_law 345 = .ok (.iinc 4 1, 3) := by decide +kernel
theorem dL_law_348 : decode cL_law 348 = .ok (.goto (-40), 3) := by decide +kernel
theorem dL_law_351 : decode cL_law 351 = .ok (.aload_n 1, 1) := by decide +kernel
theorem dL_law_352 : decode cL_law 352 = .ok (.invokevirtual 55, 3) := by decide +kernel
theorem dL_law_355 : decode cL_law 355 = .ok (.bipush (-2), 2) := by decide +kernel
theorem dL_law_357 : decode cL_law 357 = .ok (.if_icmp .ne 92, 3) := by decide +kernel
theorem dL_law_360 : decode cL_law 360 = .ok (.aload_n 1, 1) := by decide +kernel
theorem dL_law_361 : decode cL_law 361 = .ok (.iconst 5, 1) := by decide +kernel
theorem dL_law_362 : decode cL_law 362 = .ok (.invokevirtual 12, 3) := by decide +kernel
theorem dL_law_365 : decode cL_law 365 = .ok (.iconst 4, 1) := by decide +kernel
theorem dL_law_366 : decode cL_law 366 = .ok (.if_icmp .ne 83, 3) := by decide +kernel
theorem dL_law_369 : decode cL_law 369 = .ok (.aload_n 1, 1) := by decide +kernel
theorem dL_law_370 : decode cL_law 370 = .ok (.invokevirtual 111, 3) := by decide +kernel
theorem dL_law_373 : decode cL_law 373 = .ok (.iconst 4, 1) := by decide +kernel
theorem dL_law_374 : decode cL_law 374 = .ok (.if_icmp .ne 75, 3) := by decide +kernel
theorem dL_law_377 : decode cL_law 377 = .ok (.aload_n 1, 1) := by decide +kernel
theorem dL_law_378 : decode cL_law 378 = .ok (.iconst 0, 1) := by decide +kernel
theorem dL_law_379 : decode cL_law 379 = .ok (.invokevirtual 82, 3) := by decide +kernel
theorem dL_law_382 : decode cL_law 382 = .ok (.sipush (-1000), 3) := by decide +kernel
theorem dL_law_385 : decode cL_law 385 = .ok (.if_icmp .ne 64, 3) := by decide +kernel
theorem dL_law_388 : decode cL_law 388 = .ok (.aload_n 1, 1) := by decide +kernel
theorem dL_law_389 : decode cL_law 389 = .ok (.iconst 0, 1) := by decide +kernel
theorem dL_law_390 : decode cL_law 390 = .ok (.invokevirtual 114, 3) := by decide +kernel
theorem dL_law_393 : decode cL_law 393 = .ok (.iconst 1, 1) := by decide +kernel
theorem dL_law_394 : decode cL_law 394 = .ok (.if_icmp .ne 55, 3) := by decide +kernel
theorem dL_law_397 : decode cL_law 397 = .ok (.aload_n 1, 1) := by decide +kernel
theorem dL_law_398 : decode cL_law 398 = .ok (.iconst 1, 1) := by decide +kernel
theorem dL_law_399 : decode cL_law 399 = .ok (.invokevirtual 114, 3) := by decide +kernel
theorem dL_law_402 : decode cL_law 402 = .ok (.ifCond .ne 47, 3) := by decide +kernel
theorem dL_law_405 : decode cL_law 405 = .ok (.aload_n 1, 1) := by decide +kernel
theorem dL_law_406 : decode cL_law 406 = .ok (.bipush 8, 2) := by decide +kernel
theorem dL_law_408 : decode cL_law 408 = .ok (.iconst 0, 1) := by decide +kernel
theorem dL_law_409 : decode cL_law 409 = .ok (.invokevirtual 18, 3) := by decide +kernel
theorem dL_law_412 : decode cL_law 412 = .ok (.iconst (-1), 1) := by decide +kernel
theorem dL_law_413 : decode cL_law 413 = .ok (.if_icmp .ne 36, 3) := by decide +kernel
theorem dL_law_416 : decode cL_law 416 = .ok (.aload_n 1, 1) := by decide +kernel
theorem dL_law_417 : decode cL_law 417 = .ok (.bipush 6, 2) := by decide +kernel
theorem dL_law_419 : decode cL_law 419 = .ok (.invokevirtual 12, 3) := by decide +kernel
theorem dL_law_422 : decode cL_law 422 = .ok (.iconst (-1), 1) := by decide +kernel
theorem dL_law_423 : decode cL_law 423 = .ok (.if_icmp .ne 26, 3) := by decide +kernel
theorem dL_law_426 : decode cL_law 426 = .ok (.aload_n 1, 1) := by decide +kernel
theorem dL_law_427 : decode cL_law 427 = .ok (.bipush 8, 2) := by decide +kernel
theorem dL_law_429 : decode cL_law 429 = .ok (.invokevirtual 42, 3) := by decide +kernel
theorem dL_law_432 : decode cL_law 432 = .ok (.iconst (-1), 1) := by decide +kernel
theorem dL_law_433 : decode cL_law 433 = .ok (.if_icmp .ne 16, 3) := by decide +kernel
theorem dL_law_436 : decode cL_law 436 = .ok (.aload_n 1, 1) := by decide +kernel
theorem dL_law_437 : decode cL_law 437 = .ok (.iconst (-1), 1) := by decide +kernel
theorem dL_law_438 : decode cL_law 438 = .ok (.invokevirtual 49, 3) := by decide +kernel
theorem dL_law_441 : decode cL_law 441 = .ok (.iconst (-1), 1) := by decide +kernel
theorem dL_law_442 : decode cL_law 442 = .ok (.if_icmp .ne 7, 3) := by decide +kernel
theorem dL_law_445 : decode cL_law 445 = .ok (.iconst 1, 1) := by decide +kernel
theorem dL_law_446 : decode cL_law 446 = .ok (.goto 4, 3) := by decide +kernel
theorem dL_law_449 : decode cL_law 449 = .ok (.iconst 0, 1) := by decide +kernel
theorem dL_law_450 : decode cL_law 450 = .ok (.ireturn, 1) := by decide +kernel
