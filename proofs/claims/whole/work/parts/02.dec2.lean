theorem dX5_undo_0 : decode cX5_undo 0 = .ok (.aload_n 0, 1) := by decide +kernel
theorem dX5_undo_1 : decode cX5_undo 1 = .ok (.getfield 18, 3) := by decide +kernel
theorem dX5_undo_4 : decode cX5_undo 4 = .ok (.getfield 110, 3) := by decide +kernel
theorem dX5_undo_7 : decode cX5_undo 7 = .ok (.ifCond .ne 6, 3) := by decide +kernel
theorem dX5_undo_10 : decode cX5_undo 10 = .ok (.bipush (-2), 2) := by decide +kernel
theorem dX5_undo_12 : decode cX5_undo 12 = .ok (.ireturn, 1) := by decide +kernel
theorem dX5_undo_13 : decode cX5_undo 13 = .ok (.aload_n 0, 1) := by decide +kernel
theorem dX5_undo_14 : decode cX5_undo 14 = .ok (.getfield 18, 3) := by decide +kernel
theorem dX5_undo_17 : decode cX5_undo 17 = .ok (.invokevirtual 113, 3) := by decide +kernel
theorem dX5_undo_20 : decode cX5_undo 20 = .ok (.astore_n 1, 1) := by decide +kernel
theorem dX5_undo_21 : decode cX5_undo 21 = .ok (.aload_n 0, 1) := by decide +kernel
theorem dX5_undo_22 : decode cX5_undo 22 = .ok (.aload_n 1, 1) := by decide +kernel
theorem dX5_undo_23 : decode cX5_undo 23 = .ok (.getfield 117, 3) := by decide +kernel
theorem dX5_undo_26 : decode cX5_undo 26 = .ok (.putfield 34, 3) := by decide +kernel
theorem dX5_undo_29 : decode cX5_undo 29 = .ok (.aload_n 0, 1) := by decide +kernel
theorem dX5_undo_30 : decode cX5_undo 30 = .ok (.getfield 11, 3) := by decide +kernel
theorem dX5_undo_33 : decode cX5_undo 33 = .ok (.aload_n 1, 1) := by decide +kernel
theorem dX5_undo_34 : decode cX5_undo 34 = .ok (.getfield 120, 3) := by decide +kernel
theorem dX5_undo_37 : decode cX5_undo 37 = .ok (.aaload, 1) := by decide +kernel
theorem dX5_undo_38 : decode cX5_undo 38 = .ok (.aload_n 1, 1) := by decide +kernel
theorem dX5_undo_39 : decode cX5_undo 39 = .ok (.getfield 123, 3) := by decide +kernel
theorem dX5_undo_42 : decode cX5_undo 42 = .ok (.invokevirtual 106, 3) := by decide +kernel
theorem dX5_undo_45 : decode cX5_undo 45 = .ok (.aload_n 0, 1) := by decide +kernel
theorem dX5_undo_46 : decode cX5_undo 46 = .ok (.getfield 18, 3) := by decide +kernel
theorem dX5_undo_49 : decode cX5_undo 49 = .ok (.getfield 110, 3) := by decide +kernel
theorem dX5_undo_52 : decode cX5_undo 52 = .ok (.ireturn, 1) := by decide +kernel
theorem dX5_type_0 : decode cX5_type 0 = .ok (.iload_n 1, 1) := by decide +kernel
theorem dX5_type_1 : decode cX5_type 1 = .ok (.iconst 1, 1) := by decide +kernel
theorem dX5_type_2 : decode cX5_type 2 = .ok (.sipush 255, 3) := by decide +kernel
theorem dX5_type_5 : decode cX5_type 5 = .ok (.invokestatic 52, 3) := by decide +kernel
theorem dX5_type_8 : decode cX5_type 8 = .ok (.ifCond .ne 5, 3) := by decide +kernel
theorem dX5_type_11 : decode cX5_type 11 = .ok (.iconst (-1), 1) := by decide +kernel
theorem dX5_type_12 : decode cX5_type 12 = .ok (.ireturn, 1) := by decide +kernel
theorem dX5_type_13 : decode cX5_type 13 = .ok (.aload_n 0, 1) := by decide +kernel
theorem dX5_type_14 : decode cX5_type 14 = .ok (.getfield 25, 3) := by decide +kernel
theorem dX5_type_17 : decode cX5_type 17 = .ok (.getfield 126, 3) := by decide +kernel
theorem dX5_type_20 : decode cX5_type 20 = .ok (.bipush 100, 2) := by decide +kernel
theorem dX5_type_22 : decode cX5_type 22 = .ok (.if_icmp .lt 6, 3) := by decide +kernel
theorem dX5_type_25 : decode cX5_type 25 = .ok (.bipush (-3), 2) := by decide +kernel
theorem dX5_type_27 : decode cX5_type 27 = .ok (.ireturn, 1) := by decide +kernel
theorem dX5_type_28 : decode cX5_type 28 = .ok (.aload_n 0, 1) := by decide +kernel
theorem dX5_type_29 : decode cX5_type 29 = .ok (.getfield 25, 3) := by decide +kernel
theorem dX5_type_32 : decode cX5_type 32 = .ok (.iload_n 1, 1) := by decide +kernel
theorem dX5_type_33 : decode cX5_type 33 = .ok (.i2c, 1) := by decide +kernel
theorem dX5_type_34 : decode cX5_type 34 = .ok (.invokevirtual 127, 3) := by decide +kernel
theorem dX5_type_37 : decode cX5_type 37 = .ok (.aload_n 0, 1) := by decide +kernel
theorem dX5_type_38 : decode cX5_type 38 = .ok (.getfield 25, 3) := by decide +kernel
theorem dX5_type_41 : decode cX5_type 41 = .ok (.getfield 126, 3) := by decide +kernel
theorem dX5_type_44 : decode cX5_type 44 = .ok (.ireturn, 1) := by decide +kernel
theorem dX5_clearText_0 : decode cX5_clearText 0 = .ok (.aload_n 0, 1) := by decide +kernel
theorem dX5_clearText_1 : decode cX5_clearText 1 = .ok (.getfield 25, 3) := by decide +kernel
theorem dX5_clearText_4 : decode cX5_clearText 4 = .ok (.getfield 126, 3) := by decide +kernel
theorem dX5_clearText_7 : decode cX5_clearText 7 = .ok (.istore_n 1, 1) := by decide +kernel
theorem dX5_clearText_8 : decode cX5_clearText 8 = .ok (.aload_n 0, 1) := by decide +kernel
theorem dX5_clearText_9 : decode cX5_clearText 9 = .ok (.getfield 25, 3) := by decide +kernel
theorem dX5_clearText_12 : decode cX5_clearText 12 = .ok (.iconst 0, 1) := by decide +kernel
theorem dX5_clearText_13 : decode cX5_clearText 13 = .ok (.putfield 126, 3) := by decide +kernel
theorem dX5_clearText_16 : decode cX5_clearText 16 = .ok (.iload_n 1, 1) := by decide +kernel
theorem dX5_clearText_17 : decode cX5_clearText 17 = .ok (.ireturn, 1) := by decide +kernel
theorem dX5_evaluate_0 : decode cX5_evaluate 0 = .ok (.aload_n 0, 1) := by decide +kernel
theorem dX5_evaluate_1 : decode cX5_evaluate 1 = .ok (.iload_n 1, 1) := by decide +kernel
theorem dX5_evaluate_2 : decode cX5_evaluate 2 = .ok (.invokevirtual 45, 3) := by decide +kernel
theorem dX5_evaluate_5 : decode cX5_evaluate 5 = .ok (.ifCond .ne 5, 3) := by decide +kernel
theorem dX5_evaluate_8 : decode cX5_evaluate 8 = .ok (.iconst (-1), 1) := by decide +kernel
theorem dX5_evaluate_9 : decode cX5_evaluate 9 = .ok (.ireturn, 1) := by decide +kernel
theorem dX5_evaluate_10 : decode cX5_evaluate 10 = .ok (.aload_n 0, 1) := by decide +kernel
theorem dX5_evaluate_11 : decode cX5_evaluate 11 = .ok (.getfield 25, 3) := by decide +kernel
theorem dX5_evaluate_14 : decode cX5_evaluate 14 = .ok (.aload_n 0, 1) := by decide +kernel
theorem dX5_evaluate_15 : decode cX5_evaluate 15 = .ok (.getfield 11, 3) := by decide +kernel
theorem dX5_evaluate_18 : decode cX5_evaluate 18 = .ok (.aload_n 0, 1) := by decide +kernel
theorem dX5_evaluate_19 : decode cX5_evaluate 19 = .ok (.getfield 34, 3) := by decide +kernel
theorem dX5_evaluate_22 : decode cX5_evaluate 22 = .ok (.invokevirtual 131, 3) := by decide +kernel
theorem dX5_evaluate_25 : decode cX5_evaluate 25 = .ok (.ifCond .ne 15, 3) := by decide +kernel
theorem dX5_evaluate_28 : decode cX5_evaluate 28 = .ok (.sipush (-1000), 3) := by decide +kernel
theorem dX5_evaluate_31 : decode cX5_evaluate 31 = .ok (.aload_n 0, 1) := by decide +kernel
theorem dX5_evaluate_32 : decode cX5_evaluate 32 = .ok (.getfield 25, 3) := by decide +kernel
theorem dX5_evaluate_35 : decode cX5_evaluate 35 = .ok (.getfield 135, 3) := by decide +kernel
theorem dX5_evaluate_38 : decode cX5_evaluate 38 = .ok (.isub, 1) := by decide +kernel
theorem dX5_evaluate_39 : decode cX5_evaluate 39 = .ok (.ireturn, 1) := by decide +kernel
theorem dX5_evaluate_40 : decode cX5_evaluate 40 = .ok (.aload_n 0, 1) := by decide +kernel
theorem dX5_evaluate_41 : decode cX5_evaluate 41 = .ok (.iload_n 1, 1) := by decide +kernel
theorem dX5_evaluate_42 : decode cX5_evaluate 42 = .ok (.invokevirtual 38, 3) := by decide +kernel
theorem dX5_evaluate_45 : decode cX5_evaluate 45 = .ok (.aload_n 0, 1) := by decide +kernel
theorem dX5_evaluate_46 : decode cX5_evaluate 46 = .ok (.getfield 11, 3) := by decide +kernel
theorem dX5_evaluate_49 : decode cX5_evaluate 49 = .ok (.iload_n 1, 1) := by decide +kernel
theorem dX5_evaluate_50 : decode cX5_evaluate 50 = .ok (.aaload, 1) := by decide +kernel
theorem dX5_evaluate_51 : decode cX5_evaluate 51 = .ok (.aload_n 0, 1) := by decide +kernel
theorem dX5_evaluate_52 : decode cX5_evaluate 52 = .ok (.getfield 25, 3) := by decide +kernel
theorem dX5_evaluate_55 : decode cX5_evaluate 55 = .ok (.invokevirtual 138, 3) := by decide +kernel
theorem dX5_evaluate_58 : decode cX5_evaluate 58 = .ok (.invokevirtual 106, 3) := by decide +kernel
theorem dX5_evaluate_61 : decode cX5_evaluate 61 = .ok (.aload_n 0, 1) := by decide +kernel
theorem dX5_evaluate_62 : decode cX5_evaluate 62 = .ok (.getfield 11, 3) := by decide +kernel
theorem dX5_evaluate_65 : decode cX5_evaluate 65 = .ok (.iload_n 1, 1) := by decide +kernel
theorem dX5_evaluate_66 : decode cX5_evaluate 66 = .ok (.aaload, 1) := by decide +kernel
theorem dX5_evaluate_67 : decode cX5_evaluate 67 = .ok (.invokestatic 67, 3) := by decide +kernel
theorem dX5_evaluate_70 : decode cX5_evaluate 70 = .ok (.ireturn, 1) := by decide +kernel
theorem dX5_failure_0 : decode cX5_failure 0 = .ok (.iload_n 1, 1) := by decide +kernel
theorem dX5_failure_1 : decode cX5_failure 1 = .ok (.iconst 0, 1) := by decide +kernel
theorem dX5_failure_2 : decode cX5_failure 2 = .ok (.iconst 2, 1) := by decide +kernel
theorem dX5_failure_3 : decode cX5_failure 3 = .ok (.invokestatic 52, 3) := by decide +kernel
theorem dX5_failure_6 : decode cX5_failure 6 = .ok (.ifCond .ne 5, 3) := by decide +kernel
theorem dX5_failure_9 : decode cX5_failure 9 = .ok (.iconst (-1), 1) := by decide +kernel
theorem dX5_failure_10 : decode cX5_failure 10 = .ok (.ireturn, 1) := by decide +kernel
theorem dX5_failure_11 : decode cX5_failure 11 = .ok (.aload_n 0, 1) := by decide +kernel
theorem dX5_failure_12 : decode cX5_failure 12 = .ok (.getfield 25, 3) := by decide +kernel
theorem dX5_failure_15 : decode cX5_failure 15 = .ok (.getfield 142, 3) := by decide +kernel
theorem dX5_failure_18 : decode cX5_failure 18 = .ok (.ifCond .ne 6, 3) := by decide +kernel
theorem dX5_failure_21 : decode cX5_failure 21 = .ok (.bipush (-9), 2) := by decide +kernel
theorem dX5_failure_23 : decode cX5_failure 23 = .ok (.ireturn, 1) := by decide +kernel
theorem dX5_failure_24 : decode cX5_failure 24 = .ok (.iload_n 1, 1) := by decide +kernel
theorem dX5_failure_25 : decode cX5_failure 25 = .ok (.lookupswitch 43 #[(0, 27), (1, 35)], 27) := by decide +kernel
theorem dX5_failure_52 : decode cX5_failure 52 = .ok (.aload_n 0, 1) := by decide +kernel
theorem dX5_failure_53 : decode cX5_failure 53 = .ok (.getfield 25, 3) := by decide +kernel
theorem dX5_failure_56 : decode cX5_failure 56 = .ok (.getfield 142, 3) := by decide +kernel
theorem dX5_failure_59 : decode cX5_failure 59 = .ok (.ireturn, 1) := by decide +kernel
theorem dX5_failure_60 : decode cX5_failure 60 = .ok (.aload_n 0, 1) := by decide +kernel
theorem dX5_failure_61 : decode cX5_failure 61 = .ok (.getfield 25, 3) := by decide +kernel
theorem dX5_failure_64 : decode cX5_failure 64 = .ok (.getfield 135, 3) := by decide +kernel
theorem dX5_failure_67 : decode cX5_failure 67 = .ok (.ireturn, 1) := by decide +kernel
theorem dX5_failure_68 : decode cX5_failure 68 = .ok (.aload_n 0, 1) := by decide +kernel
theorem dX5_failure_69 : decode cX5_failure 69 = .ok (.getfield 25, 3) := by decide +kernel
theorem dX5_failure_72 : decode cX5_failure 72 = .ok (.getfield 145, 3) := by decide +kernel
theorem dX5_failure_75 : decode cX5_failure 75 = .ok (.ireturn, 1) := by decide +kernel
theorem dX5_count_0 : decode cX5_count 0 = .ok (.iload_n 1, 1) := by decide +kernel
theorem dX5_count_1 : decode cX5_count 1 = .ok (.tableswitch 78 0 5 #[39, 44, 50, 56, 62, 70], 39) := by decide +kernel
theorem dX5_count_40 : decode cX5_count 40 = .ok (.aload_n 0, 1) := by decide +kernel
theorem dX5_count_41 : decode cX5_count 41 = .ok (.getfield 34, 3) := by decide +kernel
theorem dX5_count_44 : decode cX5_count 44 = .ok (.ireturn, 1) := by decide +kernel
theorem dX5_count_45 : decode cX5_count 45 = .ok (.aload_n 0, 1) := by decide +kernel
theorem dX5_count_46 : decode cX5_count 46 = .ok (.iconst 0, 1) := by decide +kernel
theorem dX5_count_47 : decode cX5_count 47 = .ok (.invokevirtual 148, 3) := by decide +kernel
theorem dX5_count_50 : decode cX5_count 50 = .ok (.ireturn, 1) := by decide +kernel
theorem dX5_count_51 : decode cX5_count 51 = .ok (.aload_n 0, 1) := by decide +kernel
theorem dX5_count_52 : decode cX5_count 52 = .ok (.iconst 1, 1) := by decide +kernel
theorem dX5_count_53 : decode cX5_count 53 = .ok (.invokevirtual 148, 3) := by decide +kernel
theorem dX5_count_56 : decode cX5_count 56 = .ok (.ireturn, 1) := by decide +kernel
theorem dX5_count_57 : decode cX5_count 57 = .ok (.aload_n 0, 1) := by decide +kernel
theorem dX5_count_58 : decode cX5_count 58 = .ok (.iconst 5, 1) := by decide +kernel
theorem dX5_count_59 : decode cX5_count 59 = .ok (.invokevirtual 148, 3) := by decide +kernel
theorem dX5_count_62 : decode cX5_count 62 = .ok (.ireturn, 1) := by decide +kernel
theorem dX5_count_63 : decode cX5_count 63 = .ok (.aload_n 0, 1) := by decide +kernel
theorem dX5_count_64 : decode cX5_count 64 = .ok (.getfield 18, 3) := by decide +kernel
theorem dX5_count_67 : decode cX5_count 67 = .ok (.getfield 110, 3) := by decide +kernel
theorem dX5_count_70 : decode cX5_count 70 = .ok (.ireturn, 1) := by decide +kernel
theorem dX5_count_71 : decode cX5_count 71 = .ok (.aload_n 0, 1) := by decide +kernel
theorem dX5_count_72 : decode cX5_count 72 = .ok (.getfield 25, 3) := by decide +kernel
theorem dX5_count_75 : decode cX5_count 75 = .ok (.getfield 126, 3) := by decide +kernel
theorem dX5_count_78 : decode cX5_count 78 = .ok (.ireturn, 1) := by decide +kernel
theorem dX5_count_79 : decode cX5_count 79 = .ok (.iconst (-1), 1) := by decide +kernel
theorem dX5_count_80 : decode cX5_count 80 = .ok (.ireturn, 1) := by decide +kernel
theorem dX5_row_0 : decode cX5_row 0 = .ok (.aload_n 0, 1) := by decide +kernel
theorem dX5_row_1 : decode cX5_row 1 = .ok (.iload_n 1, 1) := by decide +kernel
theorem dX5_row_2 : decode cX5_row 2 = .ok (.invokevirtual 45, 3) := by decide +kernel
theorem dX5_row_5 : decode cX5_row 5 = .ok (.ifCond .eq 13, 3) := by decide +kernel
theorem dX5_row_8 : decode cX5_row 8 = .ok (.iload_n 2, 1) := by decide +kernel
theorem dX5_row_9 : decode cX5_row 9 = .ok (.iconst 0, 1) := by decide +kernel
theorem dX5_row_10 : decode cX5_row 10 = .ok (.bipush 7, 2) := by decide +kernel
theorem dX5_row_12 : decode cX5_row 12 = .ok (.invokestatic 52, 3) := by decide +kernel
theorem dX5_row_15 : decode cX5_row 15 = .ok (.ifCond .ne 5, 3) := by decide +kernel
theorem dX5_row_18 : decode cX5_row 18 = .ok (.iconst (-1), 1) := by decide +kernel
theorem dX5_row_19 : decode cX5_row 19 = .ok (.ireturn, 1) := by decide +kernel
theorem dX5_row_20 : decode cX5_row 20 = .ok (.aload_n 0, 1) := by decide +kernel
theorem dX5_row_21 : decode cX5_row 21 = .ok (.getfield 11, 3) := by decide +kernel
theorem dX5_row_24 : decode cX5_row 24 = .ok (.iload_n 1, 1) := by decide +kernel
theorem dX5_row_25 : decode cX5_row 25 = .ok (.aaload, 1) := by decide +kernel
theorem dX5_row_26 : decode cX5_row 26 = .ok (.iload_n 2, 1) := by decide +kernel
theorem dX5_row_27 : decode cX5_row 27 = .ok (.invokestatic 151, 3) := by decide +kernel
theorem dX5_row_30 : decode cX5_row 30 = .ok (.ireturn, 1) := by decide +kernel
theorem dX5_word_0 : decode cX5_word 0 = .ok (.aload_n 0, 1) := by decide +kernel
theorem dX5_word_1 : decode cX5_word 1 = .ok (.iload_n 1, 1) := by decide +kernel
theorem dX5_word_2 : decode cX5_word 2 = .ok (.invokevirtual 45, 3) := by decide +kernel
theorem dX5_word_5 : decode cX5_word 5 = .ok (.ifCond .eq 7, 3) := by decide +kernel
theorem dX5_word_8 : decode cX5_word 8 = .ok (.iload_n 2, 1) := by decide +kernel
theorem dX5_word_9 : decode cX5_word 9 = .ok (.ifCond .ge 5, 3) := by decide +kernel
theorem dX5_word_12 : decode cX5_word 12 = .ok (.iconst (-1), 1) := by decide +kernel
theorem dX5_word_13 : decode cX5_word 13 = .ok (.ireturn, 1) := by decide +kernel
theorem dX5_word_14 : decode cX5_word 14 = .ok (.aload_n 0, 1) := by decide +kernel
theorem dX5_word_15 : decode cX5_word 15 = .ok (.getfield 11, 3) := by decide +kernel
theorem dX5_word_18 : decode cX5_word 18 = .ok (.iload_n 1, 1) := by decide +kernel
theorem dX5_word_19 : decode cX5_word 19 = .ok (.aaload, 1) := by decide +kernel
theorem dX5_word_20 : decode cX5_word 20 = .ok (.iload_n 2, 1) := by decide +kernel
theorem dX5_word_21 : decode cX5_word 21 = .ok (.invokestatic 155, 3) := by decide +kernel
theorem dX5_word_24 : decode cX5_word 24 = .ok (.ireturn, 1) := by decide +kernel
theorem dX5_bit_0 : decode cX5_bit 0 = .ok (.aload_n 0, 1) := by decide +kernel
theorem dX5_bit_1 : decode cX5_bit 1 = .ok (.iload_n 1, 1) := by decide +kernel
theorem dX5_bit_2 : decode cX5_bit 2 = .ok (.invokevirtual 45, 3) := by decide +kernel
theorem dX5_bit_5 : decode cX5_bit 5 = .ok (.ifCond .eq 12, 3) := by decide +kernel
theorem dX5_bit_8 : decode cX5_bit 8 = .ok (.aload_n 0, 1) := by decide +kernel
theorem dX5_bit_9 : decode cX5_bit 9 = .ok (.iload_n 1, 1) := by decide +kernel
theorem dX5_bit_10 : decode cX5_bit 10 = .ok (.iload_n 2, 1) := by decide +kernel
theorem dX5_bit_11 : decode cX5_bit 11 = .ok (.invokevirtual 73, 3) := by decide +kernel
theorem dX5_bit_14 : decode cX5_bit 14 = .ok (.ifCond .ne 5, 3) := by decide +kernel
theorem dX5_bit_17 : decode cX5_bit 17 = .ok (.iconst (-1), 1) := by decide +kernel
theorem dX5_bit_18 : decode cX5_bit 18 = .ok (.ireturn, 1) := by decide +kernel
theorem dX5_bit_19 : decode cX5_bit 19 = .ok (.aload_n 0, 1) := by decide +kernel
theorem dX5_bit_20 : decode cX5_bit 20 = .ok (.getfield 11, 3) := by decide +kernel
theorem dX5_bit_23 : decode cX5_bit 23 = .ok (.iload_n 1, 1) := by decide +kernel
theorem dX5_bit_24 : decode cX5_bit 24 = .ok (.aaload, 1) := by decide +kernel
theorem dX5_bit_25 : decode cX5_bit 25 = .ok (.iload_n 2, 1) := by decide +kernel
theorem dX5_bit_26 : decode cX5_bit 26 = .ok (.invokevirtual 77, 3) := by decide +kernel
theorem dX5_bit_29 : decode cX5_bit 29 = .ok (.ireturn, 1) := by decide +kernel
theorem dX5_rank_0 : decode cX5_rank 0 = .ok (.aload_n 0, 1) := by decide +kernel
theorem dX5_rank_1 : decode cX5_rank 1 = .ok (.iload_n 1, 1) := by decide +kernel
theorem dX5_rank_2 : decode cX5_rank 2 = .ok (.invokevirtual 45, 3) := by decide +kernel
theorem dX5_rank_5 : decode cX5_rank 5 = .ok (.ifCond .eq 20, 3) := by decide +kernel
theorem dX5_rank_8 : decode cX5_rank 8 = .ok (.iload_n 2, 1) := by decide +kernel
theorem dX5_rank_9 : decode cX5_rank 9 = .ok (.iconst 0, 1) := by decide +kernel
theorem dX5_rank_10 : decode cX5_rank 10 = .ok (.aload_n 0, 1) := by decide +kernel
theorem dX5_rank_11 : decode cX5_rank 11 = .ok (.getfield 11, 3) := by decide +kernel
theorem dX5_rank_14 : decode cX5_rank 14 = .ok (.iload_n 1, 1) := by decide +kernel
theorem dX5_rank_15 : decode cX5_rank 15 = .ok (.aaload, 1) := by decide +kernel
theorem dX5_rank_16 : decode cX5_rank 16 = .ok (.getfield 56, 3) := by decide +kernel
theorem dX5_rank_19 : decode cX5_rank 19 = .ok (.invokestatic 52, 3) := by decide +kernel
theorem dX5_rank_22 : decode cX5_rank 22 = .ok (.ifCond .ne 5, 3) := by decide +kernel
theorem dX5_rank_25 : decode cX5_rank 25 = .ok (.iconst (-1), 1) := by decide +kernel
theorem dX5_rank_26 : decode cX5_rank 26 = .ok (.ireturn, 1) := by decide +kernel
theorem dX5_rank_27 : decode cX5_rank 27 = .ok (.aload_n 0, 1) := by decide +kernel
theorem dX5_rank_28 : decode cX5_rank 28 = .ok (.getfield 11, 3) := by decide +kernel
theorem dX5_rank_31 : decode cX5_rank 31 = .ok (.iload_n 1, 1) := by decide +kernel
theorem dX5_rank_32 : decode cX5_rank 32 = .ok (.aaload, 1) := by decide +kernel
theorem dX5_rank_33 : decode cX5_rank 33 = .ok (.iload_n 2, 1) := by decide +kernel
theorem dX5_rank_34 : decode cX5_rank 34 = .ok (.invokevirtual 158, 3) := by decide +kernel
theorem dX5_rank_37 : decode cX5_rank 37 = .ok (.ireturn, 1) := by decide +kernel
theorem dX5_select_0 : decode cX5_select 0 = .ok (.aload_n 0, 1) := by decide +kernel
theorem dX5_select_1 : decode cX5_select 1 = .ok (.iload_n 1, 1) := by decide +kernel
theorem dX5_select_2 : decode cX5_select 2 = .ok (.invokevirtual 45, 3) := by decide +kernel
theorem dX5_select_5 : decode cX5_select 5 = .ok (.ifCond .eq 7, 3) := by decide +kernel
theorem dX5_select_8 : decode cX5_select 8 = .ok (.iload_n 2, 1) := by decide +kernel
theorem dX5_select_9 : decode cX5_select 9 = .ok (.ifCond .ge 5, 3) := by decide +kernel
theorem dX5_select_12 : decode cX5_select 12 = .ok (.iconst (-1), 1) := by decide +kernel
theorem dX5_select_13 : decode cX5_select 13 = .ok (.ireturn, 1) := by decide +kernel
theorem dX5_select_14 : decode cX5_select 14 = .ok (.aload_n 0, 1) := by decide +kernel
theorem dX5_select_15 : decode cX5_select 15 = .ok (.getfield 11, 3) := by decide +kernel
theorem dX5_select_18 : decode cX5_select 18 = .ok (.iload_n 1, 1) := by decide +kernel
theorem dX5_select_19 : decode cX5_select 19 = .ok (.aaload, 1) := by decide +kernel
theorem dX5_select_20 : decode cX5_select 20 = .ok (.iload_n 2, 1) := by decide +kernel
theorem dX5_select_21 : decode cX5_select 21 = .ok (.invokevirtual 161, 3) := by decide +kernel
theorem dX5_select_24 : decode cX5_select 24 = .ok (.ireturn, 1) := by decide +kernel
theorem dX5_would_0 : decode cX5_would 0 = .ok (.iload_n 1, 1) := by decide +kernel
theorem dX5_would_1 : decode cX5_would 1 = .ok (.invokestatic 84, 3) := by decide +kernel
theorem dX5_would_4 : decode cX5_would 4 = .ok (.ifCond .eq 29, 3) := by decide +kernel
theorem dX5_would_7 : decode cX5_would 7 = .ok (.aload_n 0, 1) := by decide +kernel
theorem dX5_would_8 : decode cX5_would 8 = .ok (.iload_n 2, 1) := by decide +kernel
theorem dX5_would_9 : decode cX5_would 9 = .ok (.invokevirtual 45, 3) := by decide +kernel
theorem dX5_would_12 : decode cX5_would 12 = .ok (.ifCond .eq 21, 3) := by decide +kernel
theorem dX5_would_15 : decode cX5_would 15 = .ok (.aload_n 0, 1) := by decide +kernel
theorem dX5_would_16 : decode cX5_would 16 = .ok (.iload_n 3, 1) := by decide +kernel
theorem dX5_would_17 : decode cX5_would 17 = .ok (.invokevirtual 45, 3) := by decide +kernel
theorem dX5_would_20 : decode cX5_would 20 = .ok (.ifCond .eq 13, 3) := by decide +kernel
theorem dX5_would_23 : decode cX5_would 23 = .ok (.iload 4, 2) := by decide +kernel
theorem dX5_would_25 : decode cX5_would 25 = .ok (.iconst 0, 1) := by decide +kernel
theorem dX5_would_26 : decode cX5_would 26 = .ok (.iconst 2, 1) := by decide +kernel
theorem dX5_would_27 : decode cX5_would 27 = .ok (.invokestatic 52, 3) := by decide +kernel
theorem dX5_would_30 : decode cX5_would 30 = .ok (.ifCond .ne 5, 3) := by decide +kernel
theorem dX5_would_33 : decode cX5_would 33 = .ok (.iconst (-1), 1) := by decide +kernel
theorem dX5_would_34 : decode cX5_would 34 = .ok (.ireturn, 1) := by decide +kernel
theorem dX5_would_35 : decode cX5_would 35 = .ok (.iload 4, 2) := by decide +kernel
theorem dX5_would_37 : decode cX5_would 37 = .ok (.ifCond .ne 19, 3) := by decide +kernel
theorem dX5_would_40 : decode cX5_would 40 = .ok (.aload_n 0, 1) := by decide +kernel
theorem dX5_would_41 : decode cX5_would 41 = .ok (.getfield 11, 3) := by decide +kernel
theorem dX5_would_44 : decode cX5_would 44 = .ok (.iload_n 2, 1) := by decide +kernel
theorem dX5_would_45 : decode cX5_would 45 = .ok (.aaload, 1) := by decide +kernel
theorem dX5_would_46 : decode cX5_would 46 = .ok (.aload_n 0, 1) := by decide +kernel
theorem dX5_would_47 : decode cX5_would 47 = .ok (.getfield 11, 3) := by decide +kernel
theorem dX5_would_50 : decode cX5_would 50 = .ok (.iload_n 3, 1) := by decide +kernel
theorem dX5_would_51 : decode cX5_would 51 = .ok (.aaload, 1) := by decide +kernel
theorem dX5_would_52 : decode cX5_would 52 = .ok (.invokestatic 87, 3) := by decide +kernel
theorem dX5_would_55 : decode cX5_would 55 = .ok (.ireturn, 1) := by decide +kernel
theorem dX5_would_56 : decode cX5_would 56 = .ok (.aload_n 0, 1) := by decide +kernel
theorem dX5_would_57 : decode cX5_would 57 = .ok (.getfield 30, 3) := by decide +kernel
theorem dX5_would_60 : decode cX5_would 60 = .ok (.iload_n 1, 1) := by decide +kernel
theorem dX5_would_61 : decode cX5_would 61 = .ok (.aload_n 0, 1) := by decide +kernel
theorem dX5_would_62 : decode cX5_would 62 = .ok (.getfield 11, 3) := by decide +kernel
theorem dX5_would_65 : decode cX5_would 65 = .ok (.iload_n 2, 1) := by decide +kernel
theorem dX5_would_66 : decode cX5_would 66 = .ok (.aaload, 1) := by decide +kernel
theorem dX5_would_67 : decode cX5_would 67 = .ok (.aload_n 0, 1) := by decide +kernel
theorem dX5_would_68 : decode cX5_would 68 = .ok (.getfield 11, 3) := by decide +kernel
theorem dX5_would_71 : decode cX5_would 71 = .ok (.iload_n 3, 1) := by decide +kernel
theorem dX5_would_72 : decode cX5_would 72 = .ok (.aaload, 1) := by decide +kernel
theorem dX5_would_73 : decode cX5_would 73 = .ok (.invokevirtual 91, 3) := by decide +kernel
theorem dX5_would_76 : decode cX5_would 76 = .ok (.iload 4, 2) := by decide +kernel
theorem dX5_would_78 : decode cX5_would 78 = .ok (.iconst 1, 1) := by decide +kernel
theorem dX5_would_79 : decode cX5_would 79 = .ok (.if_icmp .ne 13, 3) := by decide +kernel
theorem dX5_would_82 : decode cX5_would 82 = .ok (.aload_n 0, 1) := by decide +kernel
theorem dX5_would_83 : decode cX5_would 83 = .ok (.getfield 30, 3) := by decide +kernel
theorem dX5_would_86 : decode cX5_would 86 = .ok (.invokestatic 67, 3) := by decide +kernel
theorem dX5_would_89 : decode cX5_would 89 = .ok (.goto 10, 3) := by decide +kernel
theorem dX5_would_92 : decode cX5_would 92 = .ok (.aload_n 0, 1) := by decide +kernel
theorem dX5_would_93 : decode cX5_would 93 = .ok (.getfield 30, 3) := by decide +kernel
theorem dX5_would_96 : decode cX5_would 96 = .ok (.invokevirtual 98, 3) := by decide +kernel
theorem dX5_would_99 : decode cX5_would 99 = .ok (.ireturn, 1) := by decide +kernel
theorem dX5_same_0 : decode cX5_same 0 = .ok (.aload_n 0, 1) := by decide +kernel
theorem dX5_same_1 : decode cX5_same 1 = .ok (.iload_n 1, 1) := by decide +kernel
theorem dX5_same_2 : decode cX5_same 2 = .ok (.invokevirtual 45, 3) := by decide +kernel
theorem dX5_same_5 : decode cX5_same 5 = .ok (.ifCond .ne 5, 3) := by decide +kernel
theorem dX5_same_8 : decode cX5_same 8 = .ok (.iconst (-1), 1) := by decide +kernel
theorem dX5_same_9 : decode cX5_same 9 = .ok (.ireturn, 1) := by decide +kernel
theorem dX5_same_10 : decode cX5_same 10 = .ok (.iconst 0, 1) := by decide +kernel
theorem dX5_same_11 : decode cX5_same 11 = .ok (.istore_n 2, 1) := by decide +kernel
theorem dX5_same_12 : decode cX5_same 12 = .ok (.iload_n 2, 1) := by decide +kernel
theorem dX5_same_13 : decode cX5_same 13 = .ok (.iload_n 1, 1) := by decide +kernel
theorem dX5_same_14 : decode cX5_same 14 = .ok (.if_icmp .ge 29, 3) := by decide +kernel
theorem dX5_same_17 : decode cX5_same 17 = .ok (.aload_n 0, 1) := by decide +kernel
theorem dX5_same_18 : decode cX5_same 18 = .ok (.getfield 11, 3) := by decide +kernel
theorem dX5_same_21 : decode cX5_same 21 = .ok (.iload_n 2, 1) := by decide +kernel
theorem dX5_same_22 : decode cX5_same 22 = .ok (.aaload, 1) := by decide +kernel
theorem dX5_same_23 : decode cX5_same 23 = .ok (.aload_n 0, 1) := by decide +kernel
theorem dX5_same_24 : decode cX5_same 24 = .ok (.getfield 11, 3) := by decide +kernel
theorem dX5_same_27 : decode cX5_same 27 = .ok (.iload_n 1, 1) := by decide +kernel
theorem dX5_same_28 : decode cX5_same 28 = .ok (.aaload, 1) := by decide +kernel
theorem dX5_same_29 : decode cX5_same 29 = .ok (.invokevirtual 164, 3) := by decide +kernel
theorem dX5_same_32 : decode cX5_same 32 = .ok (.ifCond .eq 5, 3) := by decide +kernel
theorem dX5_same_35 : decode cX5_same 35 = .ok (.iload_n 2, 1) := by decide +kernel
theorem dX5_same_36 : decode cX5_same 36 = .ok (.ireturn, 1) := by decide +kernel
theorem dX5_same_37 : decode cX5_same 37 = .ok (.iinc 2 1, 3) := by decide +kernel
theorem dX5_same_40 : decode cX5_same 40 = .ok (.goto (-28), 3) := by decide +kernel
theorem dX5_same_43 : decode cX5_same 43 = .ok (.iload_n 1, 1) := by decide +kernel
theorem dX5_same_44 : decode cX5_same 44 = .ok (.ireturn, 1) := by decide +kernel
theorem dX5_bestShift_0 : decode cX5_bestShift 0 = .ok (.aload_n 0, 1) := by decide +kernel
theorem dX5_bestShift_1 : decode cX5_bestShift 1 = .ok (.iload_n 1, 1) := by decide +kernel
theorem dX5_bestShift_2 : decode cX5_bestShift 2 = .ok (.invokevirtual 45, 3) := by decide +kernel
theorem dX5_bestShift_5 : decode cX5_bestShift 5 = .ok (.ifCond .ne 5, 3) := by decide +kernel
theorem dX5_bestShift_8 : decode cX5_bestShift 8 = .ok (.iconst (-1), 1) := by decide +kernel
theorem dX5_bestShift_9 : decode cX5_bestShift 9 = .ok (.ireturn, 1) := by decide +kernel
theorem dX5_bestShift_10 : decode cX5_bestShift 10 = .ok (.iconst 0, 1) := by decide +kernel
theorem dX5_bestShift_11 : decode cX5_bestShift 11 = .ok (.istore_n 2, 1) := by decide +kernel
theorem dX5_bestShift_12 : decode cX5_bestShift 12 = .ok (.aload_n 0, 1) := by decide +kernel
theorem dX5_bestShift_13 : decode cX5_bestShift 13 = .ok (.getfield 11, 3) := by decide +kernel
theorem dX5_bestShift_16 : decode cX5_bestShift 16 = .ok (.iload_n 1, 1) := by decide +kernel
theorem dX5_bestShift_17 : decode cX5_bestShift 17 = .ok (.aaload, 1) := by decide +kernel
theorem dX5_bestShift_18 : decode cX5_bestShift 18 = .ok (.invokestatic 67, 3) := by decide +kernel
theorem dX5_bestShift_21 : decode cX5_bestShift 21 = .ok (.istore_n 3, 1) := by decide +kernel
theorem dX5_bestShift_22 : decode cX5_bestShift 22 = .ok (.iconst 1, 1) := by decide +kernel
theorem dX5_bestShift_23 : decode cX5_bestShift 23 = .ok (.istore 4, 2) := by decide +kernel
theorem dX5_bestShift_25 : decode cX5_bestShift 25 = .ok (.iload 4, 2) := by decide +kernel
theorem dX5_bestShift_27 : decode cX5_bestShift 27 = .ok (.bipush 15, 2) := by decide +kernel
theorem dX5_bestShift_29 : decode cX5_bestShift 29 = .ok (.if_icmp .ge 45, 3) := by decide +kernel
theorem dX5_bestShift_32 : decode cX5_bestShift 32 = .ok (.aload_n 0, 1) := by decide +kernel
theorem dX5_bestShift_33 : decode cX5_bestShift 33 = .ok (.getfield 30, 3) := by decide +kernel
theorem dX5_bestShift_36 : decode cX5_bestShift 36 = .ok (.aload_n 0, 1) := by decide +kernel
theorem dX5_bestShift_37 : decode cX5_bestShift 37 = .ok (.getfield 11, 3) := by decide +kernel
theorem dX5_bestShift_40 : decode cX5_bestShift 40 = .ok (.iload_n 1, 1) := by decide +kernel
theorem dX5_bestShift_41 : decode cX5_bestShift 41 = .ok (.aaload, 1) := by decide +kernel
theorem dX5_bestShift_42 : decode cX5_bestShift 42 = .ok (.iload 4, 2) := by decide +kernel
theorem dX5_bestShift_44 : decode cX5_bestShift 44 = .ok (.invokevirtual 102, 3) := by decide +kernel
theorem dX5_bestShift_47 : decode cX5_bestShift 47 = .ok (.aload_n 0, 1) := by decide +kernel
theorem dX5_bestShift_48 : decode cX5_bestShift 48 = .ok (.getfield 30, 3) := by decide +kernel
theorem dX5_bestShift_51 : decode cX5_bestShift 51 = .ok (.invokestatic 67, 3) := by decide +kernel
theorem dX5_bestShift_54 : decode cX5_bestShift 54 = .ok (.istore 5, 2) := by decide +kernel
theorem dX5_bestShift_56 : decode cX5_bestShift 56 = .ok (.iload 5, 2) := by decide +kernel
theorem dX5_bestShift_58 : decode cX5_bestShift 58 = .ok (.iload_n 3, 1) := by decide +kernel
theorem dX5_bestShift_59 : decode cX5_bestShift 59 = .ok (.if_icmp .ge 9, 3) := by decide +kernel
theorem dX5_bestShift_62 : decode cX5_bestShift 62 = .ok (.iload 5, 2) := by decide +kernel
theorem dX5_bestShift_64 : decode cX5_bestShift 64 = .ok (.istore_n 3, 1) := by decide +kernel
theorem dX5_bestShift_65 : decode cX5_bestShift 65 = .ok (.iload 4, 2) := by decide +kernel
theorem dX5_bestShift_67 : decode cX5_bestShift 67 = .ok (.istore_n 2, 1) := by decide +kernel
theorem dX5_bestShift_68 : decode cX5_bestShift 68 = .ok (.iinc 4 1, 3) := by decide +kernel
theorem dX5_bestShift_71 : decode cX5_bestShift 71 = .ok (.goto (-46), 3) := by decide +kernel
theorem dX5_bestShift_74 : decode cX5_bestShift 74 = .ok (.iload_n 2, 1) := by decide +kernel
theorem dX5_bestShift_75 : decode cX5_bestShift 75 = .ok (.ireturn, 1) := by decide +kernel
theorem dX5_record_0 : decode cX5_record 0 = .ok (.aload_n 0, 1) := by decide +kernel
theorem dX5_record_1 : decode cX5_record 1 = .ok (.getfield 18, 3) := by decide +kernel
theorem dX5_record_4 : decode cX5_record 4 = .ok (.aload_n 0, 1) := by decide +kernel
theorem dX5_record_5 : decode cX5_record 5 = .ok (.getfield 34, 3) := by decide +kernel
theorem dX5_record_8 : decode cX5_record 8 = .ok (.iload_n 1, 1) := by decide +kernel
theorem dX5_record_9 : decode cX5_record 9 = .ok (.aload_n 0, 1) := by decide +kernel
theorem dX5_record_10 : decode cX5_record 10 = .ok (.getfield 11, 3) := by decide +kernel
theorem dX5_record_13 : decode cX5_record 13 = .ok (.iload_n 1, 1) := by decide +kernel
theorem dX5_record_14 : decode cX5_record 14 = .ok (.aaload, 1) := by decide +kernel
theorem dX5_record_15 : decode cX5_record 15 = .ok (.invokevirtual 168, 3) := by decide +kernel
theorem dX5_record_18 : decode cX5_record 18 = .ok (.return_, 1) := by decide +kernel
theorem dX5_sum_0 : decode cX5_sum 0 = .ok (.iconst 0, 1) := by decide +kernel
theorem dX5_sum_1 : decode cX5_sum 1 = .ok (.istore_n 2, 1) := by decide +kernel
theorem dX5_sum_2 : decode cX5_sum 2 = .ok (.iconst 0, 1) := by decide +kernel
theorem dX5_sum_3 : decode cX5_sum 3 = .ok (.istore_n 3, 1) := by decide +kernel
theorem dX5_sum_4 : decode cX5_sum 4 = .ok (.iload_n 3, 1) := by decide +kernel
theorem dX5_sum_5 : decode cX5_sum 5 = .ok (.aload_n 0, 1) := by decide +kernel
theorem dX5_sum_6 : decode cX5_sum 6 = .ok (.getfield 34, 3) := by decide +kernel
theorem dX5_sum_9 : decode cX5_sum 9 = .ok (.if_icmp .ge 22, 3) := by decide +kernel
theorem dX5_sum_12 : decode cX5_sum 12 = .ok (.iload_n 2, 1) := by decide +kernel
theorem dX5_sum_13 : decode cX5_sum 13 = .ok (.aload_n 0, 1) := by decide +kernel
theorem dX5_sum_14 : decode cX5_sum 14 = .ok (.getfield 11, 3) := by decide +kernel
theorem dX5_sum_17 : decode cX5_sum 17 = .ok (.iload_n 3, 1) := by decide +kernel
theorem dX5_sum_18 : decode cX5_sum 18 = .ok (.aaload, 1) := by decide +kernel
theorem dX5_sum_19 : decode cX5_sum 19 = .ok (.iload_n 1, 1) := by decide +kernel
theorem dX5_sum_20 : decode cX5_sum 20 = .ok (.invokestatic 151, 3) := by decide +kernel
theorem dX5_sum_23 : decode cX5_sum 23 = .ok (.iadd, 1) := by decide +kernel
theorem dX5_sum_24 : decode cX5_sum 24 = .ok (.istore_n 2, 1) := by decide +kernel
theorem dX5_sum_25 : decode cX5_sum 25 = .ok (.iinc 3 1, 3) := by decide +kernel
theorem dX5_sum_28 : decode cX5_sum 28 = .ok (.goto (-24), 3) := by decide +kernel
theorem dX5_sum_31 : decode cX5_sum 31 = .ok (.iload_n 2, 1) := by decide +kernel
theorem dX5_sum_32 : decode cX5_sum 32 = .ok (.ireturn, 1) := by decide +kernel
theorem dX5_property_0 : decode cX5_property 0 = .ok (.iload_n 1, 1) := by decide +kernel
theorem dX5_property_1 : decode cX5_property 1 = .ok (.tableswitch 83 0 6 #[43, 48, 53, 58, 64, 72, 77], 43) := by decide +kernel
theorem dX5_property_44 : decode cX5_property 44 = .ok (.aload_n 0, 1) := by decide +kernel
theorem dX5_property_45 : decode cX5_property 45 = .ok (.getfield 56, 3) := by decide +kernel
theorem dX5_property_48 : decode cX5_property 48 = .ok (.ireturn, 1) := by decide +kernel
theorem dX5_property_49 : decode cX5_property 49 = .ok (.aload_n 0, 1) := by decide +kernel
theorem dX5_property_50 : decode cX5_property 50 = .ok (.invokestatic 67, 3) := by decide +kernel
theorem dX5_property_53 : decode cX5_property 53 = .ok (.ireturn, 1) := by decide +kernel
theorem dX5_property_54 : decode cX5_property 54 = .ok (.aload_n 0, 1) := by decide +kernel
theorem dX5_property_55 : decode cX5_property 55 = .ok (.invokestatic 172, 3) := by decide +kernel
theorem dX5_property_58 : decode cX5_property 58 = .ok (.ireturn, 1) := by decide +kernel
theorem dX5_property_59 : decode cX5_property 59 = .ok (.aload_n 0, 1) := by decide +kernel
theorem dX5_property_60 : decode cX5_property 60 = .ok (.iconst 0, 1) := by decide +kernel
theorem dX5_property_61 : decode cX5_property 61 = .ok (.invokestatic 175, 3) := by decide +kernel
theorem dX5_property_64 : decode cX5_property 64 = .ok (.ireturn, 1) := by decide +kernel
theorem dX5_property_65 : decode cX5_property 65 = .ok (.aload_n 0, 1) := by decide +kernel
theorem dX5_property_66 : decode cX5_property 66 = .ok (.sipush 32767, 3) := by decide +kernel
theorem dX5_property_69 : decode cX5_property 69 = .ok (.invokestatic 175, 3) := by decide +kernel
theorem dX5_property_72 : decode cX5_property 72 = .ok (.ireturn, 1) := by decide +kernel
theorem dX5_property_73 : decode cX5_property 73 = .ok (.aload_n 0, 1) := by decide +kernel
theorem dX5_property_74 : decode cX5_property 74 = .ok (.invokevirtual 98, 3) := by decide +kernel
theorem dX5_property_77 : decode cX5_property 77 = .ok (.ireturn, 1) := by decide +kernel
theorem dX5_property_78 : decode cX5_property 78 = .ok (.aload_n 0, 1) := by decide +kernel
theorem dX5_property_79 : decode cX5_property 79 = .ok (.iconst 0, 1) := by decide +kernel
theorem dX5_property_80 : decode cX5_property 80 = .ok (.invokevirtual 161, 3) := by decide +kernel
theorem dX5_property_83 : decode cX5_property 83 = .ok (.ireturn, 1) := by decide +kernel
theorem dX5_property_84 : decode cX5_property 84 = .ok (.aload_n 0, 1) := by decide +kernel
theorem dX5_property_85 : decode cX5_property 85 = .ok (.aload_n 0, 1) := by decide +kernel
theorem dX5_property_86 : decode cX5_property 86 = .ok (.invokevirtual 98, 3) := by decide +kernel
theorem dX5_property_89 : decode cX5_property 89 = .ok (.iconst 1, 1) := by decide +kernel
theorem dX5_property_90 : decode cX5_property 90 = .ok (.isub, 1) := by decide +kernel
theorem dX5_property_91 : decode cX5_property 91 = .ok (.invokevirtual 161, 3) := by decide +kernel
theorem dX5_property_94 : decode cX5_property 94 = .ok (.ireturn, 1) := by decide +kernel
theorem dX5_isRow_0 : decode cX5_isRow 0 = .ok (.iload_n 1, 1) := by decide +kernel
theorem dX5_isRow_1 : decode cX5_isRow 1 = .ok (.iconst 0, 1) := by decide +kernel
theorem dX5_isRow_2 : decode cX5_isRow 2 = .ok (.aload_n 0, 1) := by decide +kernel
theorem dX5_isRow_3 : decode cX5_isRow 3 = .ok (.getfield 34, 3) := by decide +kernel
theorem dX5_isRow_6 : decode cX5_isRow 6 = .ok (.iconst 1, 1) := by decide +kernel
theorem dX5_isRow_7 : decode cX5_isRow 7 = .ok (.isub, 1) := by decide +kernel
theorem dX5_isRow_8 : decode cX5_isRow 8 = .ok (.invokestatic 52, 3) := by decide +kernel
theorem dX5_isRow_11 : decode cX5_isRow 11 = .ok (.ireturn, 1) := by decide +kernel
theorem dX5_isPlace_0 : decode cX5_isPlace 0 = .ok (.iload_n 2, 1) := by decide +kernel
theorem dX5_isPlace_1 : decode cX5_isPlace 1 = .ok (.iconst 0, 1) := by decide +kernel
theorem dX5_isPlace_2 : decode cX5_isPlace 2 = .ok (.aload_n 0, 1) := by decide +kernel
theorem dX5_isPlace_3 : decode cX5_isPlace 3 = .ok (.getfield 11, 3) := by decide +kernel
theorem dX5_isPlace_6 : decode cX5_isPlace 6 = .ok (.iload_n 1, 1) := by decide +kernel
theorem dX5_isPlace_7 : decode cX5_isPlace 7 = .ok (.aaload, 1) := by decide +kernel
theorem dX5_isPlace_8 : decode cX5_isPlace 8 = .ok (.getfield 56, 3) := by decide +kernel
theorem dX5_isPlace_11 : decode cX5_isPlace 11 = .ok (.iconst 1, 1) := by decide +kernel
theorem dX5_isPlace_12 : decode cX5_isPlace 12 = .ok (.isub, 1) := by decide +kernel
theorem dX5_isPlace_13 : decode cX5_isPlace 13 = .ok (.invokestatic 52, 3) := by decide +kernel
theorem dX5_isPlace_16 : decode cX5_isPlace 16 = .ok (.ireturn, 1) := by decide +kernel
theorem dX5_isBit_0 : decode cX5_isBit 0 = .ok (.iload_n 0, 1) := by decide +kernel
theorem dX5_isBit_1 : decode cX5_isBit 1 = .ok (.iconst 0, 1) := by decide +kernel
theorem dX5_isBit_2 : decode cX5_isBit 2 = .ok (.iconst 1, 1) := by decide +kernel
theorem dX5_isBit_3 : decode cX5_isBit 3 = .ok (.invokestatic 52, 3) := by decide +kernel
theorem dX5_isBit_6 : decode cX5_isBit 6 = .ok (.ireturn, 1) := by decide +kernel
theorem dX5_isOperation_0 : decode cX5_isOperation 0 = .ok (.iload_n 0, 1) := by decide +kernel
theorem dX5_isOperation_1 : decode cX5_isOperation 1 = .ok (.iconst 0, 1) := by decide +kernel
theorem dX5_isOperation_2 : decode cX5_isOperation 2 = .ok (.iconst 3, 1) := by decide +kernel
theorem dX5_isOperation_3 : decode cX5_isOperation 3 = .ok (.invokestatic 52, 3) := by decide +kernel
theorem dX5_isOperation_6 : decode cX5_isOperation 6 = .ok (.ireturn, 1) := by decide +kernel
theorem dX5_isWithin_0 : decode cX5_isWithin 0 = .ok (.iload_n 0, 1) := by decide +kernel
theorem dX5_isWithin_1 : decode cX5_isWithin 1 = .ok (.iload_n 1, 1) := by decide +kernel
theorem dX5_isWithin_2 : decode cX5_isWithin 2 = .ok (.if_icmp .lt 12, 3) := by decide +kernel
theorem dX5_isWithin_5 : decode cX5_isWithin 5 = .ok (.iload_n 0, 1) := by decide +kernel
theorem dX5_isWithin_6 : decode cX5_isWithin 6 = .ok (.iload_n 2, 1) := by decide +kernel
theorem dX5_isWithin_7 : decode cX5_isWithin 7 = .ok (.if_icmp .gt 7, 3) := by decide +kernel
theorem dX5_isWithin_10 : decode cX5_isWithin 10 = .ok (.iconst 1, 1) := by decide +kernel
theorem dX5_isWithin_11 : decode cX5_isWithin 11 = .ok (.goto 4, 3) := by decide +kernel
theorem dX5_isWithin_14 : decode cX5_isWithin 14 = .ok (.iconst 0, 1) := by decide +kernel
theorem dX5_isWithin_15 : decode cX5_isWithin 15 = .ok (.ireturn, 1) := by decide +kernel
theorem dX6_init_0 : decode cX6_init 0 = .ok (.aload_n 0, 1) := by decide +kernel
theorem dX6_init_1 : decode cX6_init 1 = .ok (.invokespecial 1, 3) := by decide +kernel
theorem dX6_init_4 : decode cX6_init 4 = .ok (.aload_n 0, 1) := by decide +kernel
theorem dX6_init_5 : decode cX6_init 5 = .ok (.ldc 7, 2) := by decide +kernel
theorem dX6_init_7 : decode cX6_init 7 = .ok (.newarray .int, 2) := by decide +kernel
theorem dX6_init_9 : decode cX6_init 9 = .ok (.putfield 8, 3) := by decide +kernel
theorem dX6_init_12 : decode cX6_init 12 = .ok (.aload_n 0, 1) := by decide +kernel
theorem dX6_init_13 : decode cX6_init 13 = .ok (.bipush 100, 2) := by decide +kernel
theorem dX6_init_15 : decode cX6_init 15 = .ok (.newarray .int, 2) := by decide +kernel
theorem dX6_init_17 : decode cX6_init 17 = .ok (.putfield 14, 3) := by decide +kernel
theorem dX6_init_20 : decode cX6_init 20 = .ok (.aload_n 0, 1) := by decide +kernel
theorem dX6_init_21 : decode cX6_init 21 = .ok (.bipush 41, 2) := by decide +kernel
theorem dX6_init_23 : decode cX6_init 23 = .ok (.newarray .int, 2) := by decide +kernel
theorem dX6_init_25 : decode cX6_init 25 = .ok (.putfield 17, 3) := by decide +kernel
theorem dX6_init_28 : decode cX6_init 28 = .ok (.aload_n 0, 1) := by decide +kernel
theorem dX6_init_29 : decode cX6_init 29 = .ok (.bipush 40, 2) := by decide +kernel
theorem dX6_init_31 : decode cX6_init 31 = .ok (.newarray .int, 2) := by decide +kernel
theorem dX6_init_33 : decode cX6_init 33 = .ok (.putfield 20, 3) := by decide +kernel
theorem dX6_init_36 : decode cX6_init 36 = .ok (.return_, 1) := by decide +kernel
theorem dX6_in_0 : decode cX6_in 0 = .ok (.iload_n 0, 1) := by decide +kernel
theorem dX6_in_1 : decode cX6_in 1 = .ok (.iload_n 1, 1) := by decide +kernel
theorem dX6_in_2 : decode cX6_in 2 = .ok (.if_icmp .lt 12, 3) := by decide +kernel
theorem dX6_in_5 : decode cX6_in 5 = .ok (.iload_n 0, 1) := by decide +kernel
theorem dX6_in_6 : decode cX6_in 6 = .ok (.iload_n 2, 1) := by decide +kernel
theorem dX6_in_7 : decode cX6_in 7 = .ok (.if_icmp .gt 7, 3) := by decide +kernel
theorem dX6_in_10 : decode cX6_in 10 = .ok (.iconst 1, 1) := by decide +kernel
theorem dX6_in_11 : decode cX6_in 11 = .ok (.goto 4, 3) := by decide +kernel
theorem dX6_in_14 : decode cX6_in 14 = .ok (.iconst 0, 1) := by decide +kernel
theorem dX6_in_15 : decode cX6_in 15 = .ok (.ireturn, 1) := by decide +kernel
theorem dX6_copyState_0 : decode cX6_copyState 0 = .ok (.iconst 0, 1) := by decide +kernel
theorem dX6_copyState_1 : decode cX6_copyState 1 = .ok (.istore_n 3, 1) := by decide +kernel
theorem dX6_copyState_2 : decode cX6_copyState 2 = .ok (.iload_n 3, 1) := by decide +kernel
theorem dX6_copyState_3 : decode cX6_copyState 3 = .ok (.sipush 4809, 3) := by decide +kernel
theorem dX6_copyState_6 : decode cX6_copyState 6 = .ok (.if_icmp .ge 25, 3) := by decide +kernel
theorem dX6_copyState_9 : decode cX6_copyState 9 = .ok (.aload_n 0, 1) := by decide +kernel
theorem dX6_copyState_10 : decode cX6_copyState 10 = .ok (.getfield 8, 3) := by decide +kernel
theorem dX6_copyState_13 : decode cX6_copyState 13 = .ok (.iload_n 2, 1) := by decide +kernel
theorem dX6_copyState_14 : decode cX6_copyState 14 = .ok (.iload_n 3, 1) := by decide +kernel
theorem dX6_copyState_15 : decode cX6_copyState 15 = .ok (.iadd, 1) := by decide +kernel
theorem dX6_copyState_16 : decode cX6_copyState 16 = .ok (.aload_n 0, 1) := by decide +kernel
theorem dX6_copyState_17 : decode cX6_copyState 17 = .ok (.getfield 8, 3) := by decide +kernel
theorem dX6_copyState_20 : decode cX6_copyState 20 = .ok (.iload_n 1, 1) := by decide +kernel
theorem dX6_copyState_21 : decode cX6_copyState 21 = .ok (.iload_n 3, 1) := by decide +kernel
theorem dX6_copyState_22 : decode cX6_copyState 22 = .ok (.iadd, 1) := by decide +kernel
theorem dX6_copyState_23 : decode cX6_copyState 23 = .ok (.iaload, 1) := by decide +kernel
theorem dX6_copyState_24 : decode cX6_copyState 24 = .ok (.iastore, 1) := by decide +kernel
theorem dX6_copyState_25 : decode cX6_copyState 25 = .ok (.iinc 3 1, 3) := by decide +kernel
theorem dX6_copyState_28 : decode cX6_copyState 28 = .ok (.goto (-26), 3) := by decide +kernel
theorem dX6_copyState_31 : decode cX6_copyState 31 = .ok (.return_, 1) := by decide +kernel
theorem dX6_record_0 : decode cX6_record 0 = .ok (.aload_n 0, 1) := by decide +kernel
theorem dX6_record_1 : decode cX6_record 1 = .ok (.getfield 23, 3) := by decide +kernel
theorem dX6_record_4 : decode cX6_record 4 = .ok (.iconst 5, 1) := by decide +kernel
theorem dX6_record_5 : decode cX6_record 5 = .ok (.if_icmp .ne 44, 3) := by decide +kernel
theorem dX6_record_8 : decode cX6_record 8 = .ok (.iconst 1, 1) := by decide +kernel
theorem dX6_record_9 : decode cX6_record 9 = .ok (.istore_n 1, 1) := by decide +kernel
theorem dX6_record_10 : decode cX6_record 10 = .ok (.iload_n 1, 1) := by decide +kernel
theorem dX6_record_11 : decode cX6_record 11 = .ok (.iconst 5, 1) := by decide +kernel
theorem dX6_record_12 : decode cX6_record 12 = .ok (.if_icmp .ge 27, 3) := by decide +kernel
theorem dX6_record_15 : decode cX6_record 15 = .ok (.aload_n 0, 1) := by decide +kernel
theorem dX6_record_16 : decode cX6_record 16 = .ok (.sipush 4809, 3) := by decide +kernel
theorem dX6_record_19 : decode cX6_record 19 = .ok (.sipush 4809, 3) := by decide +kernel
theorem dX6_record_22 : decode cX6_record 22 = .ok (.iload_n 1, 1) := by decide +kernel
theorem dX6_record_23 : decode cX6_record 23 = .ok (.imul, 1) := by decide +kernel
theorem dX6_record_24 : decode cX6_record 24 = .ok (.iadd, 1) := by decide +kernel
theorem dX6_record_25 : decode cX6_record 25 = .ok (.sipush 4809, 3) := by decide +kernel
theorem dX6_record_28 : decode cX6_record 28 = .ok (.iload_n 1, 1) := by decide +kernel
theorem dX6_record_29 : decode cX6_record 29 = .ok (.imul, 1) := by decide +kernel
theorem dX6_record_30 : decode cX6_record 30 = .ok (.invokevirtual 27, 3) := by decide +kernel
theorem dX6_record_33 : decode cX6_record 33 = .ok (.iinc 1 1, 3) := by decide +kernel
theorem dX6_record_36 : decode cX6_record 36 = .ok (.goto (-26), 3) := by decide +kernel
theorem dX6_record_39 : decode cX6_record 39 = .ok (.aload_n 0, 1) := by decide +kernel
theorem dX6_record_40 : decode cX6_record 40 = .ok (.dup, 1) := by decide +kernel
theorem dX6_record_41 : decode cX6_record 41 = .ok (.getfield 23, 3) := by decide +kernel
theorem dX6_record_44 : decode cX6_record 44 = .ok (.iconst 1, 1) := by decide +kernel
theorem dX6_record_45 : decode cX6_record 45 = .ok (.isub, 1) := by decide +kernel
theorem dX6_record_46 : decode cX6_record 46 = .ok (.putfield 23, 3) := by decide +kernel
theorem dX6_record_49 : decode cX6_record 49 = .ok (.aload_n 0, 1) := by decide +kernel
theorem dX6_record_50 : decode cX6_record 50 = .ok (.iconst 0, 1) := by decide +kernel
theorem dX6_record_51 : decode cX6_record 51 = .ok (.sipush 4809, 3) := by decide +kernel
theorem dX6_record_54 : decode cX6_record 54 = .ok (.sipush 4809, 3) := by decide +kernel
theorem dX6_record_57 : decode cX6_record 57 = .ok (.aload_n 0, 1) := by decide +kernel
theorem dX6_record_58 : decode cX6_record 58 = .ok (.getfield 23, 3) := by decide +kernel
theorem dX6_record_61 : decode cX6_record 61 = .ok (.imul, 1) := by decide +kernel
theorem dX6_record_62 : decode cX6_record 62 = .ok (.iadd, 1) := by decide +kernel
theorem dX6_record_63 : decode cX6_record 63 = .ok (.invokevirtual 27, 3) := by decide +kernel
theorem dX6_record_66 : decode cX6_record 66 = .ok (.aload_n 0, 1) := by decide +kernel
theorem dX6_record_67 : decode cX6_record 67 = .ok (.dup, 1) := by decide +kernel
theorem dX6_record_68 : decode cX6_record 68 = .ok (.getfield 23, 3) := by decide +kernel
theorem dX6_record_71 : decode cX6_record 71 = .ok (.iconst 1, 1) := by decide +kernel
theorem dX6_record_72 : decode cX6_record 72 = .ok (.iadd, 1) := by decide +kernel
theorem dX6_record_73 : decode cX6_record 73 = .ok (.putfield 23, 3) := by decide +kernel
theorem dX6_record_76 : decode cX6_record 76 = .ok (.return_, 1) := by decide +kernel
theorem dX6_undo_0 : decode cX6_undo 0 = .ok (.aload_n 0, 1) := by decide +kernel
theorem dX6_undo_1 : decode cX6_undo 1 = .ok (.getfield 23, 3) := by decide +kernel
theorem dX6_undo_4 : decode cX6_undo 4 = .ok (.ifCond .ne 6, 3) := by decide +kernel
theorem dX6_undo_7 : decode cX6_undo 7 = .ok (.bipush (-2), 2) := by decide +kernel
theorem dX6_undo_9 : decode cX6_undo 9 = .ok (.ireturn, 1) := by decide +kernel
theorem dX6_undo_10 : decode cX6_undo 10 = .ok (.aload_n 0, 1) := by decide +kernel
theorem dX6_undo_11 : decode cX6_undo 11 = .ok (.dup, 1) := by decide +kernel
theorem dX6_undo_12 : decode cX6_undo 12 = .ok (.getfield 23, 3) := by decide +kernel
theorem dX6_undo_15 : decode cX6_undo 15 = .ok (.iconst 1, 1) := by decide +kernel
theorem dX6_undo_16 : decode cX6_undo 16 = .ok (.isub, 1) := by decide +kernel
theorem dX6_undo_17 : decode cX6_undo 17 = .ok (.putfield 23, 3) := by decide +kernel
theorem dX6_undo_20 : decode cX6_undo 20 = .ok (.aload_n 0, 1) := by decide +kernel
theorem dX6_undo_21 : decode cX6_undo 21 = .ok (.sipush 4809, 3) := by decide +kernel
theorem dX6_undo_24 : decode cX6_undo 24 = .ok (.sipush 4809, 3) := by decide +kernel
theorem dX6_undo_27 : decode cX6_undo 27 = .ok (.aload_n 0, 1) := by decide +kernel
theorem dX6_undo_28 : decode cX6_undo 28 = .ok (.getfield 23, 3) := by decide +kernel
theorem dX6_undo_31 : decode cX6_undo 31 = .ok (.imul, 1) := by decide +kernel
theorem dX6_undo_32 : decode cX6_undo 32 = .ok (.iadd, 1) := by decide +kernel
theorem dX6_undo_33 : decode cX6_undo 33 = .ok (.iconst 0, 1) := by decide +kernel
theorem dX6_undo_34 : decode cX6_undo 34 = .ok (.invokevirtual 27, 3) := by decide +kernel
theorem dX6_undo_37 : decode cX6_undo 37 = .ok (.aload_n 0, 1) := by decide +kernel
theorem dX6_undo_38 : decode cX6_undo 38 = .ok (.getfield 23, 3) := by decide +kernel
theorem dX6_undo_41 : decode cX6_undo 41 = .ok (.ireturn, 1) := by decide +kernel
theorem dX6_isRow_0 : decode cX6_isRow 0 = .ok (.iload_n 1, 1) := by decide +kernel
theorem dX6_isRow_1 : decode cX6_isRow 1 = .ok (.iconst 0, 1) := by decide +kernel
theorem dX6_isRow_2 : decode cX6_isRow 2 = .ok (.aload_n 0, 1) := by decide +kernel
theorem dX6_isRow_3 : decode cX6_isRow 3 = .ok (.getfield 8, 3) := by decide +kernel
theorem dX6_isRow_6 : decode cX6_isRow 6 = .ok (.sipush 4808, 3) := by decide +kernel
theorem dX6_isRow_9 : decode cX6_isRow 9 = .ok (.iaload, 1) := by decide +kernel
theorem dX6_isRow_10 : decode cX6_isRow 10 = .ok (.iconst 1, 1) := by decide +kernel
theorem dX6_isRow_11 : decode cX6_isRow 11 = .ok (.isub, 1) := by decide +kernel
theorem dX6_isRow_12 : decode cX6_isRow 12 = .ok (.invokestatic 31, 3) := by decide +kernel
theorem dX6_isRow_15 : decode cX6_isRow 15 = .ok (.ireturn, 1) := by decide +kernel
theorem dX6_at_0 : decode cX6_at 0 = .ok (.sipush 601, 3) := by decide +kernel
theorem dX6_at_3 : decode cX6_at 3 = .ok (.iload_n 0, 1) := by decide +kernel
theorem dX6_at_4 : decode cX6_at 4 = .ok (.imul, 1) := by decide +kernel
theorem dX6_at_5 : decode cX6_at 5 = .ok (.ireturn, 1) := by decide +kernel
theorem dX6_asked_0 : decode cX6_asked 0 = .ok (.sipush 28854, 3) := by decide +kernel
theorem dX6_asked_3 : decode cX6_asked 3 = .ok (.sipush 601, 3) := by decide +kernel
theorem dX6_asked_6 : decode cX6_asked 6 = .ok (.iload_n 0, 1) := by decide +kernel
theorem dX6_asked_7 : decode cX6_asked 7 = .ok (.imul, 1) := by decide +kernel
theorem dX6_asked_8 : decode cX6_asked 8 = .ok (.iadd, 1) := by decide +kernel
theorem dX6_asked_9 : decode cX6_asked 9 = .ok (.ireturn, 1) := by decide +kernel
theorem dX6_bitOf_0 : decode cX6_bitOf 0 = .ok (.iload_n 2, 1) := by decide +kernel
theorem dX6_bitOf_1 : decode cX6_bitOf 1 = .ok (.aload_n 0, 1) := by decide +kernel
theorem dX6_bitOf_2 : decode cX6_bitOf 2 = .ok (.getfield 8, 3) := by decide +kernel
theorem dX6_bitOf_5 : decode cX6_bitOf 5 = .ok (.iload_n 1, 1) := by decide +kernel
theorem dX6_bitOf_6 : decode cX6_bitOf 6 = .ok (.iaload, 1) := by decide +kernel
theorem dX6_bitOf_7 : decode cX6_bitOf 7 = .ok (.if_icmp .ge 16, 3) := by decide +kernel
theorem dX6_bitOf_10 : decode cX6_bitOf 10 = .ok (.aload_n 0, 1) := by decide +kernel
theorem dX6_bitOf_11 : decode cX6_bitOf 11 = .ok (.getfield 8, 3) := by decide +kernel
theorem dX6_bitOf_14 : decode cX6_bitOf 14 = .ok (.iload_n 1, 1) := by decide +kernel
theorem dX6_bitOf_15 : decode cX6_bitOf 15 = .ok (.iconst 1, 1) := by decide +kernel
theorem dX6_bitOf_16 : decode cX6_bitOf 16 = .ok (.iadd, 1) := by decide +kernel
theorem dX6_bitOf_17 : decode cX6_bitOf 17 = .ok (.iload_n 2, 1) := by decide +kernel
theorem dX6_bitOf_18 : decode cX6_bitOf 18 = .ok (.iadd, 1) := by decide +kernel
theorem dX6_bitOf_19 : decode cX6_bitOf 19 = .ok (.iaload, 1) := by decide +kernel
theorem dX6_bitOf_20 : decode cX6_bitOf 20 = .ok (.goto 4, 3) := by decide +kernel
theorem dX6_bitOf_23 : decode cX6_bitOf 23 = .ok (.iconst 0, 1) := by decide +kernel
theorem dX6_bitOf_24 : decode cX6_bitOf 24 = .ok (.ireturn, 1) := by decide +kernel
theorem dX6_put_0 : decode cX6_put 0 = .ok (.aload_n 0, 1) := by decide +kernel
theorem dX6_put_1 : decode cX6_put 1 = .ok (.getfield 8, 3) := by decide +kernel
theorem dX6_put_4 : decode cX6_put 4 = .ok (.iload_n 1, 1) := by decide +kernel
theorem dX6_put_5 : decode cX6_put 5 = .ok (.iconst 1, 1) := by decide +kernel
theorem dX6_put_6 : decode cX6_put 6 = .ok (.iadd, 1) := by decide +kernel
theorem dX6_put_7 : decode cX6_put 7 = .ok (.iload_n 2, 1) := by decide +kernel
theorem dX6_put_8 : decode cX6_put 8 = .ok (.iadd, 1) := by decide +kernel
theorem dX6_put_9 : decode cX6_put 9 = .ok (.iload_n 3, 1) := by decide +kernel
theorem dX6_put_10 : decode cX6_put 10 = .ok (.iastore, 1) := by decide +kernel
theorem dX6_put_11 : decode cX6_put 11 = .ok (.return_, 1) := by decide +kernel
theorem dX6_copy_0 : decode cX6_copy 0 = .ok (.iconst 0, 1) := by decide +kernel
theorem dX6_copy_1 : decode cX6_copy 1 = .ok (.istore_n 3, 1) := by decide +kernel
theorem dX6_copy_2 : decode cX6_copy 2 = .ok (.iload_n 3, 1) := by decide +kernel
theorem dX6_copy_3 : decode cX6_copy 3 = .ok (.sipush 601, 3) := by decide +kernel
theorem dX6_copy_6 : decode cX6_copy 6 = .ok (.if_icmp .ge 25, 3) := by decide +kernel
theorem dX6_copy_9 : decode cX6_copy 9 = .ok (.aload_n 0, 1) := by decide +kernel
theorem dX6_copy_10 : decode cX6_copy 10 = .ok (.getfield 8, 3) := by decide +kernel
theorem dX6_copy_13 : decode cX6_copy 13 = .ok (.iload_n 2, 1) := by decide +kernel
theorem dX6_copy_14 : decode cX6_copy 14 = .ok (.iload_n 3, 1) := by decide +kernel
theorem dX6_copy_15 : decode cX6_copy 15 = .ok (.iadd, 1) := by decide +kernel
theorem dX6_copy_16 : decode cX6_copy 16 = .ok (.aload_n 0, 1) := by decide +kernel
theorem dX6_copy_17 : decode cX6_copy 17 = .ok (.getfield 8, 3) := by decide +kernel
theorem dX6_copy_20 : decode cX6_copy 20 = .ok (.iload_n 1, 1) := by decide +kernel
theorem dX6_copy_21 : decode cX6_copy 21 = .ok (.iload_n 3, 1) := by decide +kernel
theorem dX6_copy_22 : decode cX6_copy 22 = .ok (.iadd, 1) := by decide +kernel
theorem dX6_copy_23 : decode cX6_copy 23 = .ok (.iaload, 1) := by decide +kernel
theorem dX6_copy_24 : decode cX6_copy 24 = .ok (.iastore, 1) := by decide +kernel
theorem dX6_copy_25 : decode cX6_copy 25 = .ok (.iinc 3 1, 3) := by decide +kernel
theorem dX6_copy_28 : decode cX6_copy 28 = .ok (.goto (-26), 3) := by decide +kernel
theorem dX6_copy_31 : decode cX6_copy 31 = .ok (.return_, 1) := by decide +kernel
theorem dX6_ones_0 : decode cX6_ones 0 = .ok (.iconst 0, 1) := by decide +kernel
theorem dX6_ones_1 : decode cX6_ones 1 = .ok (.istore_n 2, 1) := by decide +kernel
theorem dX6_ones_2 : decode cX6_ones 2 = .ok (.iconst 0, 1) := by decide +kernel
theorem dX6_ones_3 : decode cX6_ones 3 = .ok (.istore_n 3, 1) := by decide +kernel
theorem dX6_ones_4 : decode cX6_ones 4 = .ok (.iload_n 3, 1) := by decide +kernel
theorem dX6_ones_5 : decode cX6_ones 5 = .ok (.aload_n 0, 1) := by decide +kernel
theorem dX6_ones_6 : decode cX6_ones 6 = .ok (.getfield 8, 3) := by decide +kernel
theorem dX6_ones_9 : decode cX6_ones 9 = .ok (.iload_n 1, 1) := by decide +kernel
theorem dX6_ones_10 : decode cX6_ones 10 = .ok (.iaload, 1) := by decide +kernel
theorem dX6_ones_11 : decode cX6_ones 11 = .ok (.if_icmp .ge 18, 3) := by decide +kernel
theorem dX6_ones_14 : decode cX6_ones 14 = .ok (.iload_n 2, 1) := by decide +kernel
theorem dX6_ones_15 : decode cX6_ones 15 = .ok (.aload_n 0, 1) := by decide +kernel
theorem dX6_ones_16 : decode cX6_ones 16 = .ok (.iload_n 1, 1) := by decide +kernel
theorem dX6_ones_17 : decode cX6_ones 17 = .ok (.iload_n 3, 1) := by decide +kernel
theorem dX6_ones_18 : decode cX6_ones 18 = .ok (.invokevirtual 35, 3) := by decide +kernel
theorem dX6_ones_21 : decode cX6_ones 21 = .ok (.iadd, 1) := by decide +kernel
theorem dX6_ones_22 : decode cX6_ones 22 = .ok (.istore_n 2, 1) := by decide +kernel
theorem dX6_ones_23 : decode cX6_ones 23 = .ok (.iinc 3 1, 3) := by decide +kernel
theorem dX6_ones_26 : decode cX6_ones 26 = .ok (.goto (-22), 3) := by decide +kernel
theorem dX6_ones_29 : decode cX6_ones 29 = .ok (.iload_n 2, 1) := by decide +kernel
theorem dX6_ones_30 : decode cX6_ones 30 = .ok (.ireturn, 1) := by decide +kernel
theorem dX6_groups_0 : decode cX6_groups 0 = .ok (.aload_n 0, 1) := by decide +kernel
theorem dX6_groups_1 : decode cX6_groups 1 = .ok (.getfield 8, 3) := by decide +kernel
theorem dX6_groups_4 : decode cX6_groups 4 = .ok (.iload_n 1, 1) := by decide +kernel
theorem dX6_groups_5 : decode cX6_groups 5 = .ok (.iaload, 1) := by decide +kernel
theorem dX6_groups_6 : decode cX6_groups 6 = .ok (.bipush 15, 2) := by decide +kernel
theorem dX6_groups_8 : decode cX6_groups 8 = .ok (.iadd, 1) := by decide +kernel
theorem dX6_groups_9 : decode cX6_groups 9 = .ok (.iconst 1, 1) := by decide +kernel
theorem dX6_groups_10 : decode cX6_groups 10 = .ok (.isub, 1) := by decide +kernel
theorem dX6_groups_11 : decode cX6_groups 11 = .ok (.bipush 15, 2) := by decide +kernel
theorem dX6_groups_13 : decode cX6_groups 13 = .ok (.idiv, 1) := by decide +kernel
theorem dX6_groups_14 : decode cX6_groups 14 = .ok (.ireturn, 1) := by decide +kernel
theorem dX6_group_0 : decode cX6_group 0 = .ok (.iconst 0, 1) := by decide +kernel
theorem dX6_group_1 : decode cX6_group 1 = .ok (.istore_n 3, 1) := by decide +kernel
theorem dX6_group_2 : decode cX6_group 2 = .ok (.bipush 14, 2) := by decide +kernel
theorem dX6_group_4 : decode cX6_group 4 = .ok (.istore 4, 2) := by decide +kernel
theorem dX6_group_6 : decode cX6_group 6 = .ok (.iload 4, 2) := by decide +kernel
theorem dX6_group_8 : decode cX6_group 8 = .ok (.ifCond .lt 26, 3) := by decide +kernel
theorem dX6_group_11 : decode cX6_group 11 = .ok (.iconst 2, 1) := by decide +kernel
theorem dX6_group_12 : decode cX6_group 12 = .ok (.iload_n 3, 1) := by decide +kernel
theorem dX6_group_13 : decode cX6_group 13 = .ok (.imul, 1) := by decide +kernel
theorem dX6_group_14 : decode cX6_group 14 = .ok (.aload_n 0, 1) := by decide +kernel
theorem dX6_group_15 : decode cX6_group 15 = .ok (.iload_n 1, 1) := by decide +kernel
theorem dX6_group_16 : decode cX6_group 16 = .ok (.bipush 15, 2) := by decide +kernel
theorem dX6_group_18 : decode cX6_group 18 = .ok (.iload_n 2, 1) := by decide +kernel
theorem dX6_group_19 : decode cX6_group 19 = .ok (.imul, 1) := by decide +kernel
theorem dX6_group_20 : decode cX6_group 20 = .ok (.iload 4, 2) := by decide +kernel
theorem dX6_group_22 : decode cX6_group 22 = .ok (.iadd, 1) := by decide +kernel
theorem dX6_group_23 : decode cX6_group 23 = .ok (.invokevirtual 35, 3) := by decide +kernel
theorem dX6_group_26 : decode cX6_group 26 = .ok (.iadd, 1) := by decide +kernel
theorem dX6_group_27 : decode cX6_group 27 = .ok (.istore_n 3, 1) := by decide +kernel
theorem dX6_group_28 : decode cX6_group 28 = .ok (.iinc 4 (-1), 3) := by decide +kernel
theorem dX6_group_31 : decode cX6_group 31 = .ok (.goto (-25), 3) := by decide +kernel
theorem dX6_group_34 : decode cX6_group 34 = .ok (.iload_n 3, 1) := by decide +kernel
theorem dX6_group_35 : decode cX6_group 35 = .ok (.ireturn, 1) := by decide +kernel
theorem dX6_kind_0 : decode cX6_kind 0 = .ok (.aload_n 0, 1) := by decide +kernel
theorem dX6_kind_1 : decode cX6_kind 1 = .ok (.iload_n 1, 1) := by decide +kernel
theorem dX6_kind_2 : decode cX6_kind 2 = .ok (.iload_n 2, 1) := by decide +kernel
theorem dX6_kind_3 : decode cX6_kind 3 = .ok (.invokevirtual 39, 3) := by decide +kernel
theorem dX6_kind_6 : decode cX6_kind 6 = .ok (.istore_n 3, 1) := by decide +kernel
theorem dX6_kind_7 : decode cX6_kind 7 = .ok (.iload_n 3, 1) := by decide +kernel
theorem dX6_kind_8 : decode cX6_kind 8 = .ok (.ifCond .ne 7, 3) := by decide +kernel
theorem dX6_kind_11 : decode cX6_kind 11 = .ok (.iconst 0, 1) := by decide +kernel
theorem dX6_kind_12 : decode cX6_kind 12 = .ok (.goto 15, 3) := by decide +kernel
theorem dX6_kind_15 : decode cX6_kind 15 = .ok (.iload_n 3, 1) := by decide +kernel
theorem dX6_kind_16 : decode cX6_kind 16 = .ok (.sipush 32767, 3) := by decide +kernel
theorem dX6_kind_19 : decode cX6_kind 19 = .ok (.if_icmp .ne 7, 3) := by decide +kernel
theorem dX6_kind_22 : decode cX6_kind 22 = .ok (.iconst 1, 1) := by decide +kernel
theorem dX6_kind_23 : decode cX6_kind 23 = .ok (.goto 4, 3) := by decide +kernel
theorem dX6_kind_26 : decode cX6_kind 26 = .ok (.iconst 2, 1) := by decide +kernel
theorem dX6_kind_27 : decode cX6_kind 27 = .ok (.ireturn, 1) := by decide +kernel
theorem dX6_behind_0 : decode cX6_behind 0 = .ok (.aload_n 0, 1) := by decide +kernel
theorem dX6_behind_1 : decode cX6_behind 1 = .ok (.iload_n 1, 1) := by decide +kernel
theorem dX6_behind_2 : decode cX6_behind 2 = .ok (.iload_n 2, 1) := by decide +kernel
theorem dX6_behind_3 : decode cX6_behind 3 = .ok (.invokevirtual 42, 3) := by decide +kernel
theorem dX6_behind_6 : decode cX6_behind 6 = .ok (.istore_n 3, 1) := by decide +kernel
theorem dX6_behind_7 : decode cX6_behind 7 = .ok (.iload_n 2, 1) := by decide +kernel
theorem dX6_behind_8 : decode cX6_behind 8 = .ok (.iconst 1, 1) := by decide +kernel
theorem dX6_behind_9 : decode cX6_behind 9 = .ok (.iadd, 1) := by decide +kernel
theorem dX6_behind_10 : decode cX6_behind 10 = .ok (.istore 4, 2) := by decide +kernel
theorem dX6_behind_12 : decode cX6_behind 12 = .ok (.iload_n 3, 1) := by decide +kernel
theorem dX6_behind_13 : decode cX6_behind 13 = .ok (.iconst 2, 1) := by decide +kernel
theorem dX6_behind_14 : decode cX6_behind 14 = .ok (.if_icmp .ge 39, 3) := by decide +kernel
theorem dX6_behind_17 : decode cX6_behind 17 = .ok (.iload 4, 2) := by decide +kernel
theorem dX6_behind_19 : decode cX6_behind 19 = .ok (.aload_n 0, 1) := by decide +kernel
theorem dX6_behind_20 : decode cX6_behind 20 = .ok (.iload_n 1, 1) := by decide +kernel
theorem dX6_behind_21 : decode cX6_behind 21 = .ok (.invokevirtual 45, 3) := by decide +kernel
theorem dX6_behind_24 : decode cX6_behind 24 = .ok (.if_icmp .ge 29, 3) := by decide +kernel
theorem dX6_behind_27 : decode cX6_behind 27 = .ok (.iload 4, 2) := by decide +kernel
theorem dX6_behind_29 : decode cX6_behind 29 = .ok (.iload_n 2, 1) := by decide +kernel
theorem dX6_behind_30 : decode cX6_behind 30 = .ok (.isub, 1) := by decide +kernel
theorem dX6_behind_31 : decode cX6_behind 31 = .ok (.bipush 20, 2) := by decide +kernel
theorem dX6_behind_33 : decode cX6_behind 33 = .ok (.if_icmp .ge 20, 3) := by decide +kernel
theorem dX6_behind_36 : decode cX6_behind 36 = .ok (.aload_n 0, 1) := by decide +kernel
theorem dX6_behind_37 : decode cX6_behind 37 = .ok (.iload_n 1, 1) := by decide +kernel
theorem dX6_behind_38 : decode cX6_behind 38 = .ok (.iload 4, 2) := by decide +kernel
theorem dX6_behind_40 : decode cX6_behind 40 = .ok (.invokevirtual 42, 3) := by decide +kernel
theorem dX6_behind_43 : decode cX6_behind 43 = .ok (.iload_n 3, 1) := by decide +kernel
theorem dX6_behind_44 : decode cX6_behind 44 = .ok (.if_icmp .ne 9, 3) := by decide +kernel
theorem dX6_behind_47 : decode cX6_behind 47 = .ok (.iinc 4 1, 3) := by decide +kernel
theorem dX6_behind_50 : decode cX6_behind 50 = .ok (.goto (-38), 3) := by decide +kernel
theorem dX6_behind_53 : decode cX6_behind 53 = .ok (.iload 4, 2) := by decide +kernel
theorem dX6_behind_55 : decode cX6_behind 55 = .ok (.ireturn, 1) := by decide +kernel
theorem dX6_words_0 : decode cX6_words 0 = .ok (.iconst 0, 1) := by decide +kernel
theorem dX6_words_1 : decode cX6_words 1 = .ok (.istore_n 3, 1) := by decide +kernel
theorem dX6_words_2 : decode cX6_words 2 = .ok (.iconst 0, 1) := by decide +kernel
theorem dX6_words_3 : decode cX6_words 3 = .ok (.istore 4, 2) := by decide +kernel
theorem dX6_words_5 : decode cX6_words 5 = .ok (.iload 4, 2) := by decide +kernel
theorem dX6_words_7 : decode cX6_words 7 = .ok (.aload_n 0, 1) := by decide +kernel
theorem dX6_words_8 : decode cX6_words 8 = .ok (.iload_n 1, 1) := by decide +kernel
theorem dX6_words_9 : decode cX6_words 9 = .ok (.invokevirtual 45, 3) := by decide +kernel
theorem dX6_words_12 : decode cX6_words 12 = .ok (.if_icmp .ge 39, 3) := by decide +kernel
theorem dX6_words_15 : decode cX6_words 15 = .ok (.iload_n 3, 1) := by decide +kernel
theorem dX6_words_16 : decode cX6_words 16 = .ok (.iload_n 2, 1) := by decide +kernel
theorem dX6_words_17 : decode cX6_words 17 = .ok (.iconst 3, 1) := by decide +kernel
theorem dX6_words_18 : decode cX6_words 18 = .ok (.if_icmp .eq 14, 3) := by decide +kernel
theorem dX6_words_21 : decode cX6_words 21 = .ok (.aload_n 0, 1) := by decide +kernel
theorem dX6_words_22 : decode cX6_words 22 = .ok (.iload_n 1, 1) := by decide +kernel
theorem dX6_words_23 : decode cX6_words 23 = .ok (.iload 4, 2) := by decide +kernel
theorem dX6_words_25 : decode cX6_words 25 = .ok (.invokevirtual 42, 3) := by decide +kernel
theorem dX6_words_28 : decode cX6_words 28 = .ok (.iload_n 2, 1) := by decide +kernel
theorem dX6_words_29 : decode cX6_words 29 = .ok (.if_icmp .ne 7, 3) := by decide +kernel
theorem dX6_words_32 : decode cX6_words 32 = .ok (.iconst 1, 1) := by decide +kernel
theorem dX6_words_33 : decode cX6_words 33 = .ok (.goto 4, 3) := by decide +kernel
theorem dX6_words_36 : decode cX6_words 36 = .ok (.iconst 0, 1) := by decide +kernel
theorem dX6_words_37 : decode cX6_words 37 = .ok (.iadd, 1) := by decide +kernel
theorem dX6_words_38 : decode cX6_words 38 = .ok (.istore_n 3, 1) := by decide +kernel
theorem dX6_words_39 : decode cX6_words 39 = .ok (.aload_n 0, 1) := by decide +kernel
theorem dX6_words_40 : decode cX6_words 40 = .ok (.iload_n 1, 1) := by decide +kernel
theorem dX6_words_41 : decode cX6_words 41 = .ok (.iload 4, 2) := by decide +kernel
theorem dX6_words_43 : decode cX6_words 43 = .ok (.invokevirtual 49, 3) := by decide +kernel
theorem dX6_words_46 : decode cX6_words 46 = .ok (.istore 4, 2) := by decide +kernel
theorem dX6_words_48 : decode cX6_words 48 = .ok (.goto (-43), 3) := by decide +kernel
theorem dX6_words_51 : decode cX6_words 51 = .ok (.iload_n 3, 1) := by decide +kernel
theorem dX6_words_52 : decode cX6_words 52 = .ok (.ireturn, 1) := by decide +kernel
theorem dX6_codeAt_0 : decode cX6_codeAt 0 = .ok (.aload_n 0, 1) := by decide +kernel
theorem dX6_codeAt_1 : decode cX6_codeAt 1 = .ok (.iload_n 1, 1) := by decide +kernel
theorem dX6_codeAt_2 : decode cX6_codeAt 2 = .ok (.iload_n 2, 1) := by decide +kernel
theorem dX6_codeAt_3 : decode cX6_codeAt 3 = .ok (.invokevirtual 42, 3) := by decide +kernel
theorem dX6_codeAt_6 : decode cX6_codeAt 6 = .ok (.istore_n 3, 1) := by decide +kernel
theorem dX6_codeAt_7 : decode cX6_codeAt 7 = .ok (.iload_n 3, 1) := by decide +kernel
theorem dX6_codeAt_8 : decode cX6_codeAt 8 = .ok (.iconst 2, 1) := by decide +kernel
theorem dX6_codeAt_9 : decode cX6_codeAt 9 = .ok (.if_icmp .ne 12, 3) := by decide +kernel
theorem dX6_codeAt_12 : decode cX6_codeAt 12 = .ok (.aload_n 0, 1) := by decide +kernel
theorem dX6_codeAt_13 : decode cX6_codeAt 13 = .ok (.iload_n 1, 1) := by decide +kernel
theorem dX6_codeAt_14 : decode cX6_codeAt 14 = .ok (.iload_n 2, 1) := by decide +kernel
theorem dX6_codeAt_15 : decode cX6_codeAt 15 = .ok (.invokevirtual 39, 3) := by decide +kernel
theorem dX6_codeAt_18 : decode cX6_codeAt 18 = .ok (.goto 23, 3) := by decide +kernel
theorem dX6_codeAt_21 : decode cX6_codeAt 21 = .ok (.iload_n 3, 1) := by decide +kernel
theorem dX6_codeAt_22 : decode cX6_codeAt 22 = .ok (.ifCond .ne 8, 3) := by decide +kernel
theorem dX6_codeAt_25 : decode cX6_codeAt 25 = .ok (.ldc 52, 2) := by decide +kernel
theorem dX6_codeAt_27 : decode cX6_codeAt 27 = .ok (.goto 5, 3) := by decide +kernel
theorem dX6_codeAt_30 : decode cX6_codeAt 30 = .ok (.ldc 53, 2) := by decide +kernel
theorem dX6_codeAt_32 : decode cX6_codeAt 32 = .ok (.aload_n 0, 1) := by decide +kernel
theorem dX6_codeAt_33 : decode cX6_codeAt 33 = .ok (.iload_n 1, 1) := by decide +kernel
theorem dX6_codeAt_34 : decode cX6_codeAt 34 = .ok (.iload_n 2, 1) := by decide +kernel
theorem dX6_codeAt_35 : decode cX6_codeAt 35 = .ok (.invokevirtual 49, 3) := by decide +kernel
theorem dX6_codeAt_38 : decode cX6_codeAt 38 = .ok (.iadd, 1) := by decide +kernel
theorem dX6_codeAt_39 : decode cX6_codeAt 39 = .ok (.iload_n 2, 1) := by decide +kernel
theorem dX6_codeAt_40 : decode cX6_codeAt 40 = .ok (.isub, 1) := by decide +kernel
theorem dX6_codeAt_41 : decode cX6_codeAt 41 = .ok (.ireturn, 1) := by decide +kernel
theorem dX6_result_0 : decode cX6_result 0 = .ok (.iload_n 0, 1) := by decide +kernel
theorem dX6_result_1 : decode cX6_result 1 = .ok (.ifCond .ne 9, 3) := by decide +kernel
theorem dX6_result_4 : decode cX6_result 4 = .ok (.iload_n 1, 1) := by decide +kernel
theorem dX6_result_5 : decode cX6_result 5 = .ok (.iload_n 2, 1) := by decide +kernel
theorem dX6_result_6 : decode cX6_result 6 = .ok (.iand, 1) := by decide +kernel
theorem dX6_result_7 : decode cX6_result 7 = .ok (.goto 30, 3) := by decide +kernel
theorem dX6_result_10 : decode cX6_result 10 = .ok (.iload_n 0, 1) := by decide +kernel
theorem dX6_result_11 : decode cX6_result 11 = .ok (.iconst 1, 1) := by decide +kernel
theorem dX6_result_12 : decode cX6_result 12 = .ok (.if_icmp .ne 9, 3) := by decide +kernel
theorem dX6_result_15 : decode cX6_result 15 = .ok (.iload_n 1, 1) := by decide +kernel
theorem dX6_result_16 : decode cX6_result 16 = .ok (.iload_n 2, 1) := by decide +kernel
theorem dX6_result_17 : decode cX6_result 17 = .ok (.ior, 1) := by decide +kernel
theorem dX6_result_18 : decode cX6_result 18 = .ok (.goto 19, 3) := by decide +kernel
theorem dX6_result_21 : decode cX6_result 21 = .ok (.iload_n 0, 1) := by decide +kernel
theorem dX6_result_22 : decode cX6_result 22 = .ok (.iconst 2, 1) := by decide +kernel
theorem dX6_result_23 : decode cX6_result 23 = .ok (.if_icmp .ne 11, 3) := by decide +kernel
theorem dX6_result_26 : decode cX6_result 26 = .ok (.iload_n 1, 1) := by decide +kernel
theorem dX6_result_27 : decode cX6_result 27 = .ok (.iload_n 2, 1) := by decide +kernel
theorem dX6_result_28 : decode cX6_result 28 = .ok (.iconst (-1), 1) := by decide +kernel
theorem dX6_result_29 : decode cX6_result 29 = .ok (.ixor, 1) := by decide +kernel
theorem dX6_result_30 : decode cX6_result 30 = .ok (.iand, 1) := by decide +kernel
theorem dX6_result_31 : decode cX6_result 31 = .ok (.goto 6, 3) := by decide +kernel
theorem dX6_result_34 : decode cX6_result 34 = .ok (.iload_n 1, 1) := by decide +kernel
theorem dX6_result_35 : decode cX6_result 35 = .ok (.iload_n 2, 1) := by decide +kernel
theorem dX6_result_36 : decode cX6_result 36 = .ok (.ixor, 1) := by decide +kernel
theorem dX6_result_37 : decode cX6_result 37 = .ok (.ireturn, 1) := by decide +kernel
theorem dX6_operateOn_0 : decode cX6_operateOn 0 = .ok (.aload_n 0, 1) := by decide +kernel
theorem dX6_operateOn_1 : decode cX6_operateOn 1 = .ok (.getfield 8, 3) := by decide +kernel
theorem dX6_operateOn_4 : decode cX6_operateOn 4 = .ok (.iload_n 2, 1) := by decide +kernel
theorem dX6_operateOn_5 : decode cX6_operateOn 5 = .ok (.iaload, 1) := by decide +kernel
theorem dX6_operateOn_6 : decode cX6_operateOn 6 = .ok (.aload_n 0, 1) := by decide +kernel
theorem dX6_operateOn_7 : decode cX6_operateOn 7 = .ok (.getfield 8, 3) := by decide +kernel
theorem dX6_operateOn_10 : decode cX6_operateOn 10 = .ok (.iload_n 3, 1) := by decide +kernel
theorem dX6_operateOn_11 : decode cX6_operateOn 11 = .ok (.iaload, 1) := by decide +kernel
theorem dX6_operateOn_12 : decode cX6_operateOn 12 = .ok (.if_icmp .le 12, 3) := by decide +kernel
theorem dX6_operateOn_15 : decode cX6_operateOn 15 = .ok (.aload_n 0, 1) := by decide +kernel
theorem dX6_operateOn_16 : decode cX6_operateOn 16 = .ok (.getfield 8, 3) := by decide +kernel
theorem dX6_operateOn_19 : decode cX6_operateOn 19 = .ok (.iload_n 2, 1) := by decide +kernel
theorem dX6_operateOn_20 : decode cX6_operateOn 20 = .ok (.iaload, 1) := by decide +kernel
theorem dX6_operateOn_21 : decode cX6_operateOn 21 = .ok (.goto 9, 3) := by decide +kernel
theorem dX6_operateOn_24 : decode cX6_operateOn 24 = .ok (.aload_n 0, 1) := by decide +kernel
theorem dX6_operateOn_25 : decode cX6_operateOn 25 = .ok (.getfield 8, 3) := by decide +kernel
theorem dX6_operateOn_28 : decode cX6_operateOn 28 = .ok (.iload_n 3, 1) := by decide +kernel
theorem dX6_operateOn_29 : decode cX6_operateOn 29 = .ok (.iaload, 1) := by decide +kernel
theorem dX6_operateOn_30 : decode cX6_operateOn 30 = .ok (.istore 5, 2) := by decide +kernel
theorem dX6_operateOn_32 : decode cX6_operateOn 32 = .ok (.iconst 0, 1) := by decide +kernel
theorem dX6_operateOn_33 : decode cX6_operateOn 33 = .ok (.istore 6, 2) := by decide +kernel
theorem dX6_operateOn_35 : decode cX6_operateOn 35 = .ok (.iload 6, 2) := by decide +kernel
theorem dX6_operateOn_37 : decode cX6_operateOn 37 = .ok (.iload 5, 2) := by decide +kernel
theorem dX6_operateOn_39 : decode cX6_operateOn 39 = .ok (.if_icmp .ge 46, 3) := by decide +kernel
theorem dX6_operateOn_42 : decode cX6_operateOn 42 = .ok (.aload_n 0, 1) := by decide +kernel
theorem dX6_operateOn_43 : decode cX6_operateOn 43 = .ok (.iload_n 2, 1) := by decide +kernel
theorem dX6_operateOn_44 : decode cX6_operateOn 44 = .ok (.iload 6, 2) := by decide +kernel
theorem dX6_operateOn_46 : decode cX6_operateOn 46 = .ok (.invokevirtual 35, 3) := by decide +kernel
theorem dX6_operateOn_49 : decode cX6_operateOn 49 = .ok (.istore 7, 2) := by decide +kernel
theorem dX6_operateOn_51 : decode cX6_operateOn 51 = .ok (.aload_n 0, 1) := by decide +kernel
theorem dX6_operateOn_52 : decode cX6_operateOn 52 = .ok (.iload_n 3, 1) := by decide +kernel
theorem dX6_operateOn_53 : decode cX6_operateOn 53 = .ok (.iload 6, 2) := by decide +kernel
theorem dX6_operateOn_55 : decode cX6_operateOn 55 = .ok (.invokevirtual 35, 3) := by decide +kernel
theorem dX6_operateOn_58 : decode cX6_operateOn 58 = .ok (.istore 8, 2) := by decide +kernel
theorem dX6_operateOn_60 : decode cX6_operateOn 60 = .ok (.aload_n 0, 1) := by decide +kernel
theorem dX6_operateOn_61 : decode cX6_operateOn 61 = .ok (.bipush 31, 2) := by decide +kernel
theorem dX6_operateOn_63 : decode cX6_operateOn 63 = .ok (.invokestatic 54, 3) := by decide +kernel
theorem dX6_operateOn_66 : decode cX6_operateOn 66 = .ok (.iload 6, 2) := by decide +kernel
theorem dX6_operateOn_68 : decode cX6_operateOn 68 = .ok (.iload_n 1, 1) := by decide +kernel
theorem dX6_operateOn_69 : decode cX6_operateOn 69 = .ok (.iload 7, 2) := by decide +kernel
theorem dX6_operateOn_71 : decode cX6_operateOn 71 = .ok (.iload 8, 2) := by decide +kernel
theorem dX6_operateOn_73 : decode cX6_operateOn 73 = .ok (.invokestatic 57, 3) := by decide +kernel
theorem dX6_operateOn_76 : decode cX6_operateOn 76 = .ok (.invokevirtual 61, 3) := by decide +kernel
theorem dX6_operateOn_79 : decode cX6_operateOn 79 = .ok (.iinc 6 1, 3) := by decide +kernel
theorem dX6_operateOn_82 : decode cX6_operateOn 82 = .ok (.goto (-47), 3) := by decide +kernel
theorem dX6_operateOn_85 : decode cX6_operateOn 85 = .ok (.aload_n 0, 1) := by decide +kernel
theorem dX6_operateOn_86 : decode cX6_operateOn 86 = .ok (.getfield 8, 3) := by decide +kernel
theorem dX6_operateOn_89 : decode cX6_operateOn 89 = .ok (.bipush 31, 2) := by decide +kernel
theorem dX6_operateOn_91 : decode cX6_operateOn 91 = .ok (.invokestatic 54, 3) := by decide +kernel
theorem dX6_operateOn_94 : decode cX6_operateOn 94 = .ok (.iload 5, 2) := by decide +kernel
theorem dX6_operateOn_96 : decode cX6_operateOn 96 = .ok (.iastore, 1) := by decide +kernel
theorem dX6_operateOn_97 : decode cX6_operateOn 97 = .ok (.aload_n 0, 1) := by decide +kernel
theorem dX6_operateOn_98 : decode cX6_operateOn 98 = .ok (.bipush 31, 2) := by decide +kernel
theorem dX6_operateOn_100 : decode cX6_operateOn 100 = .ok (.invokestatic 54, 3) := by decide +kernel
theorem dX6_operateOn_103 : decode cX6_operateOn 103 = .ok (.iload 4, 2) := by decide +kernel
theorem dX6_operateOn_105 : decode cX6_operateOn 105 = .ok (.invokevirtual 65, 3) := by decide +kernel
theorem dX6_operateOn_108 : decode cX6_operateOn 108 = .ok (.return_, 1) := by decide +kernel
theorem dX6_turn_0 : decode cX6_turn 0 = .ok (.iconst 0, 1) := by decide +kernel
theorem dX6_turn_1 : decode cX6_turn 1 = .ok (.istore_n 2, 1) := by decide +kernel
theorem dX6_turn_2 : decode cX6_turn 2 = .ok (.iload_n 2, 1) := by decide +kernel
theorem dX6_turn_3 : decode cX6_turn 3 = .ok (.aload_n 0, 1) := by decide +kernel
theorem dX6_turn_4 : decode cX6_turn 4 = .ok (.getfield 8, 3) := by decide +kernel
theorem dX6_turn_7 : decode cX6_turn 7 = .ok (.iload_n 1, 1) := by decide +kernel
theorem dX6_turn_8 : decode cX6_turn 8 = .ok (.iaload, 1) := by decide +kernel
theorem dX6_turn_9 : decode cX6_turn 9 = .ok (.if_icmp .ge 23, 3) := by decide +kernel
theorem dX6_turn_12 : decode cX6_turn 12 = .ok (.aload_n 0, 1) := by decide +kernel
theorem dX6_turn_13 : decode cX6_turn 13 = .ok (.iload_n 1, 1) := by decide +kernel
theorem dX6_turn_14 : decode cX6_turn 14 = .ok (.iload_n 2, 1) := by decide +kernel
theorem dX6_turn_15 : decode cX6_turn 15 = .ok (.iconst 1, 1) := by decide +kernel
theorem dX6_turn_16 : decode cX6_turn 16 = .ok (.aload_n 0, 1) := by decide +kernel
theorem dX6_turn_17 : decode cX6_turn 17 = .ok (.iload_n 1, 1) := by decide +kernel
theorem dX6_turn_18 : decode cX6_turn 18 = .ok (.iload_n 2, 1) := by decide +kernel
theorem dX6_turn_19 : decode cX6_turn 19 = .ok (.invokevirtual 35, 3) := by decide +kernel
theorem dX6_turn_22 : decode cX6_turn 22 = .ok (.isub, 1) := by decide +kernel
theorem dX6_turn_23 : decode cX6_turn 23 = .ok (.invokevirtual 61, 3) := by decide +kernel
theorem dX6_turn_26 : decode cX6_turn 26 = .ok (.iinc 2 1, 3) := by decide +kernel
theorem dX6_turn_29 : decode cX6_turn 29 = .ok (.goto (-27), 3) := by decide +kernel
theorem dX6_turn_32 : decode cX6_turn 32 = .ok (.return_, 1) := by decide +kernel
theorem dX6_shiftOn_0 : decode cX6_shiftOn 0 = .ok (.aload_n 0, 1) := by decide +kernel
theorem dX6_shiftOn_1 : decode cX6_shiftOn 1 = .ok (.getfield 8, 3) := by decide +kernel
theorem dX6_shiftOn_4 : decode cX6_shiftOn 4 = .ok (.iload_n 1, 1) := by decide +kernel
theorem dX6_shiftOn_5 : decode cX6_shiftOn 5 = .ok (.iaload, 1) := by decide +kernel
theorem dX6_shiftOn_6 : decode cX6_shiftOn 6 = .ok (.iload_n 2, 1) := by decide +kernel
theorem dX6_shiftOn_7 : decode cX6_shiftOn 7 = .ok (.iadd, 1) := by decide +kernel
theorem dX6_shiftOn_8 : decode cX6_shiftOn 8 = .ok (.istore_n 3, 1) := by decide +kernel
theorem dX6_shiftOn_9 : decode cX6_shiftOn 9 = .ok (.iload_n 3, 1) := by decide +kernel
theorem dX6_shiftOn_10 : decode cX6_shiftOn 10 = .ok (.ifCond .ge 7, 3) := by decide +kernel
theorem dX6_shiftOn_13 : decode cX6_shiftOn 13 = .ok (.iconst 0, 1) := by decide +kernel
theorem dX6_shiftOn_14 : decode cX6_shiftOn 14 = .ok (.goto 17, 3) := by decide +kernel
theorem dX6_shiftOn_17 : decode cX6_shiftOn 17 = .ok (.iload_n 3, 1) := by decide +kernel
theorem dX6_shiftOn_18 : decode cX6_shiftOn 18 = .ok (.sipush 600, 3) := by decide +kernel
theorem dX6_shiftOn_21 : decode cX6_shiftOn 21 = .ok (.if_icmp .le 9, 3) := by decide +kernel
theorem dX6_shiftOn_24 : decode cX6_shiftOn 24 = .ok (.sipush 600, 3) := by decide +kernel
theorem dX6_shiftOn_27 : decode cX6_shiftOn 27 = .ok (.goto 4, 3) := by decide +kernel
theorem dX6_shiftOn_30 : decode cX6_shiftOn 30 = .ok (.iload_n 3, 1) := by decide +kernel
theorem dX6_shiftOn_31 : decode cX6_shiftOn 31 = .ok (.istore_n 3, 1) := by decide +kernel
theorem dX6_shiftOn_32 : decode cX6_shiftOn 32 = .ok (.iconst 0, 1) := by decide +kernel
theorem dX6_shiftOn_33 : decode cX6_shiftOn 33 = .ok (.istore 4, 2) := by decide +kernel
theorem dX6_shiftOn_35 : decode cX6_shiftOn 35 = .ok (.iload 4, 2) := by decide +kernel
theorem dX6_shiftOn_37 : decode cX6_shiftOn 37 = .ok (.iload_n 3, 1) := by decide +kernel
theorem dX6_shiftOn_38 : decode cX6_shiftOn 38 = .ok (.if_icmp .ge 39, 3) := by decide +kernel
theorem dX6_shiftOn_41 : decode cX6_shiftOn 41 = .ok (.aload_n 0, 1) := by decide +kernel
theorem dX6_shiftOn_42 : decode cX6_shiftOn 42 = .ok (.bipush 31, 2) := by decide +kernel
theorem dX6_shiftOn_44 : decode cX6_shiftOn 44 = .ok (.invokestatic 54, 3) := by decide +kernel
theorem dX6_shiftOn_47 : decode cX6_shiftOn 47 = .ok (.iload 4, 2) := by decide +kernel
theorem dX6_shiftOn_49 : decode cX6_shiftOn 49 = .ok (.iload 4, 2) := by decide +kernel
theorem dX6_shiftOn_51 : decode cX6_shiftOn 51 = .ok (.iload_n 2, 1) := by decide +kernel
theorem dX6_shiftOn_52 : decode cX6_shiftOn 52 = .ok (.if_icmp .ge 7, 3) := by decide +kernel
theorem dX6_shiftOn_55 : decode cX6_shiftOn 55 = .ok (.iconst 0, 1) := by decide +kernel
theorem dX6_shiftOn_56 : decode cX6_shiftOn 56 = .ok (.goto 12, 3) := by decide +kernel
theorem dX6_shiftOn_59 : decode cX6_shiftOn 59 = .ok (.aload_n 0, 1) := by decide +kernel
theorem dX6_shiftOn_60 : decode cX6_shiftOn 60 = .ok (.iload_n 1, 1) := by decide +kernel
theorem dX6_shiftOn_61 : decode cX6_shiftOn 61 = .ok (.iload 4, 2) := by decide +kernel
theorem dX6_shiftOn_63 : decode cX6_shiftOn 63 = .ok (.iload_n 2, 1) := by decide +kernel
theorem dX6_shiftOn_64 : decode cX6_shiftOn 64 = .ok (.isub, 1) := by decide +kernel
theorem dX6_shiftOn_65 : decode cX6_shiftOn 65 = .ok (.invokevirtual 35, 3) := by decide +kernel
theorem dX6_shiftOn_68 : decode cX6_shiftOn 68 = .ok (.invokevirtual 61, 3) := by decide +kernel
theorem dX6_shiftOn_71 : decode cX6_shiftOn 71 = .ok (.iinc 4 1, 3) := by decide +kernel
theorem dX6_shiftOn_74 : decode cX6_shiftOn 74 = .ok (.goto (-39), 3) := by decide +kernel
theorem dX6_shiftOn_77 : decode cX6_shiftOn 77 = .ok (.aload_n 0, 1) := by decide +kernel
theorem dX6_shiftOn_78 : decode cX6_shiftOn 78 = .ok (.getfield 8, 3) := by decide +kernel
theorem dX6_shiftOn_81 : decode cX6_shiftOn 81 = .ok (.bipush 31, 2) := by decide +kernel
theorem dX6_shiftOn_83 : decode cX6_shiftOn 83 = .ok (.invokestatic 54, 3) := by decide +kernel
theorem dX6_shiftOn_86 : decode cX6_shiftOn 86 = .ok (.iload_n 3, 1) := by decide +kernel
theorem dX6_shiftOn_87 : decode cX6_shiftOn 87 = .ok (.iastore, 1) := by decide +kernel
theorem dX6_shiftOn_88 : decode cX6_shiftOn 88 = .ok (.aload_n 0, 1) := by decide +kernel
theorem dX6_shiftOn_89 : decode cX6_shiftOn 89 = .ok (.bipush 31, 2) := by decide +kernel
theorem dX6_shiftOn_91 : decode cX6_shiftOn 91 = .ok (.invokestatic 54, 3) := by decide +kernel
theorem dX6_shiftOn_94 : decode cX6_shiftOn 94 = .ok (.iload_n 1, 1) := by decide +kernel
theorem dX6_shiftOn_95 : decode cX6_shiftOn 95 = .ok (.invokevirtual 65, 3) := by decide +kernel
theorem dX6_shiftOn_98 : decode cX6_shiftOn 98 = .ok (.return_, 1) := by decide +kernel
theorem dX6_workOf_0 : decode cX6_workOf 0 = .ok (.iconst 0, 1) := by decide +kernel
theorem dX6_workOf_1 : decode cX6_workOf 1 = .ok (.istore_n 3, 1) := by decide +kernel
theorem dX6_workOf_2 : decode cX6_workOf 2 = .ok (.iload_n 3, 1) := by decide +kernel
theorem dX6_workOf_3 : decode cX6_workOf 3 = .ok (.bipush 41, 2) := by decide +kernel
theorem dX6_workOf_5 : decode cX6_workOf 5 = .ok (.if_icmp .ge 16, 3) := by decide +kernel
theorem dX6_workOf_8 : decode cX6_workOf 8 = .ok (.aload_n 0, 1) := by decide +kernel
theorem dX6_workOf_9 : decode cX6_workOf 9 = .ok (.getfield 17, 3) := by decide +kernel
theorem dX6_workOf_12 : decode cX6_workOf 12 = .ok (.iload_n 3, 1) := by decide +kernel
theorem dX6_workOf_13 : decode cX6_workOf 13 = .ok (.iconst 0, 1) := by decide +kernel
theorem dX6_workOf_14 : decode cX6_workOf 14 = .ok (.iastore, 1) := by decide +kernel
theorem dX6_workOf_15 : decode cX6_workOf 15 = .ok (.iinc 3 1, 3) := by decide +kernel
theorem dX6_workOf_18 : decode cX6_workOf 18 = .ok (.goto (-16), 3) := by decide +kernel
theorem dX6_workOf_21 : decode cX6_workOf 21 = .ok (.iconst 0, 1) := by decide +kernel
theorem dX6_workOf_22 : decode cX6_workOf 22 = .ok (.istore_n 3, 1) := by decide +kernel
theorem dX6_workOf_23 : decode cX6_workOf 23 = .ok (.iload_n 3, 1) := by decide +kernel
theorem dX6_workOf_24 : decode cX6_workOf 24 = .ok (.aload_n 0, 1) := by decide +kernel
theorem dX6_workOf_25 : decode cX6_workOf 25 = .ok (.iload_n 1, 1) := by decide +kernel
theorem dX6_workOf_26 : decode cX6_workOf 26 = .ok (.invokevirtual 45, 3) := by decide +kernel
theorem dX6_workOf_29 : decode cX6_workOf 29 = .ok (.if_icmp .ge 25, 3) := by decide +kernel
theorem dX6_workOf_32 : decode cX6_workOf 32 = .ok (.aload_n 0, 1) := by decide +kernel
theorem dX6_workOf_33 : decode cX6_workOf 33 = .ok (.getfield 17, 3) := by decide +kernel
theorem dX6_workOf_36 : decode cX6_workOf 36 = .ok (.aload_n 0, 1) := by decide +kernel
theorem dX6_workOf_37 : decode cX6_workOf 37 = .ok (.iload_n 1, 1) := by decide +kernel
theorem dX6_workOf_38 : decode cX6_workOf 38 = .ok (.iload_n 3, 1) := by decide +kernel
theorem dX6_workOf_39 : decode cX6_workOf 39 = .ok (.invokevirtual 49, 3) := by decide +kernel
theorem dX6_workOf_42 : decode cX6_workOf 42 = .ok (.iconst 1, 1) := by decide +kernel
theorem dX6_workOf_43 : decode cX6_workOf 43 = .ok (.iastore, 1) := by decide +kernel
theorem dX6_workOf_44 : decode cX6_workOf 44 = .ok (.aload_n 0, 1) := by decide +kernel
theorem dX6_workOf_45 : decode cX6_workOf 45 = .ok (.iload_n 1, 1) := by decide +kernel
theorem dX6_workOf_46 : decode cX6_workOf 46 = .ok (.iload_n 3, 1) := by decide +kernel
theorem dX6_workOf_47 : decode cX6_workOf 47 = .ok (.invokevirtual 49, 3) := by decide +kernel
theorem dX6_workOf_50 : decode cX6_workOf 50 = .ok (.istore_n 3, 1) := by decide +kernel
theorem dX6_workOf_51 : decode cX6_workOf 51 = .ok (.goto (-28), 3) := by decide +kernel
theorem dX6_workOf_54 : decode cX6_workOf 54 = .ok (.iconst 0, 1) := by decide +kernel
theorem dX6_workOf_55 : decode cX6_workOf 55 = .ok (.istore_n 3, 1) := by decide +kernel
theorem dX6_workOf_56 : decode cX6_workOf 56 = .ok (.iload_n 3, 1) := by decide +kernel
theorem dX6_workOf_57 : decode cX6_workOf 57 = .ok (.aload_n 0, 1) := by decide +kernel
theorem dX6_workOf_58 : decode cX6_workOf 58 = .ok (.iload_n 2, 1) := by decide +kernel
theorem dX6_workOf_59 : decode cX6_workOf 59 = .ok (.invokevirtual 45, 3) := by decide +kernel
theorem dX6_workOf_62 : decode cX6_workOf 62 = .ok (.if_icmp .ge 25, 3) := by decide +kernel
theorem dX6_workOf_65 : decode cX6_workOf 65 = .ok (.aload_n 0, 1) := by decide +kernel
theorem dX6_workOf_66 : decode cX6_workOf 66 = .ok (.getfield 17, 3) := by decide +kernel
theorem dX6_workOf_69 : decode cX6_workOf 69 = .ok (.aload_n 0, 1) := by decide +kernel
theorem dX6_workOf_70 : decode cX6_workOf 70 = .ok (.iload_n 2, 1) := by decide +kernel
theorem dX6_workOf_71 : decode cX6_workOf 71 = .ok (.iload_n 3, 1) := by decide +kernel
theorem dX6_workOf_72 : decode cX6_workOf 72 = .ok (.invokevirtual 49, 3) := by decide +kernel
theorem dX6_workOf_75 : decode cX6_workOf 75 = .ok (.iconst 1, 1) := by decide +kernel
theorem dX6_workOf_76 : decode cX6_workOf 76 = .ok (.iastore, 1) := by decide +kernel
theorem dX6_workOf_77 : decode cX6_workOf 77 = .ok (.aload_n 0, 1) := by decide +kernel
theorem dX6_workOf_78 : decode cX6_workOf 78 = .ok (.iload_n 2, 1) := by decide +kernel
theorem dX6_workOf_79 : decode cX6_workOf 79 = .ok (.iload_n 3, 1) := by decide +kernel
theorem dX6_workOf_80 : decode cX6_workOf 80 = .ok (.invokevirtual 49, 3) := by decide +kernel
theorem dX6_workOf_83 : decode cX6_workOf 83 = .ok (.istore_n 3, 1) := by decide +kernel
theorem dX6_workOf_84 : decode cX6_workOf 84 = .ok (.goto (-28), 3) := by decide +kernel
theorem dX6_workOf_87 : decode cX6_workOf 87 = .ok (.iconst 0, 1) := by decide +kernel
theorem dX6_workOf_88 : decode cX6_workOf 88 = .ok (.istore_n 3, 1) := by decide +kernel
theorem dX6_workOf_89 : decode cX6_workOf 89 = .ok (.iconst 0, 1) := by decide +kernel
theorem dX6_workOf_90 : decode cX6_workOf 90 = .ok (.istore 4, 2) := by decide +kernel
theorem dX6_workOf_92 : decode cX6_workOf 92 = .ok (.iload 4, 2) := by decide +kernel
theorem dX6_workOf_94 : decode cX6_workOf 94 = .ok (.bipush 41, 2) := by decide +kernel
theorem dX6_workOf_96 : decode cX6_workOf 96 = .ok (.if_icmp .ge 19, 3) := by decide +kernel
theorem dX6_workOf_99 : decode cX6_workOf 99 = .ok (.iload_n 3, 1) := by decide +kernel
theorem dX6_workOf_100 : decode cX6_workOf 100 = .ok (.aload_n 0, 1) := by decide +kernel
theorem dX6_workOf_101 : decode cX6_workOf 101 = .ok (.getfield 17, 3) := by decide +kernel
theorem dX6_workOf_104 : decode cX6_workOf 104 = .ok (.iload 4, 2) := by decide +kernel
theorem dX6_workOf_106 : decode cX6_workOf 106 = .ok (.iaload, 1) := by decide +kernel
theorem dX6_workOf_107 : decode cX6_workOf 107 = .ok (.iadd, 1) := by decide +kernel
theorem dX6_workOf_108 : decode cX6_workOf 108 = .ok (.istore_n 3, 1) := by decide +kernel
theorem dX6_workOf_109 : decode cX6_workOf 109 = .ok (.iinc 4 1, 3) := by decide +kernel
theorem dX6_workOf_112 : decode cX6_workOf 112 = .ok (.goto (-20), 3) := by decide +kernel
theorem dX6_workOf_115 : decode cX6_workOf 115 = .ok (.iload_n 3, 1) := by decide +kernel
theorem dX6_workOf_116 : decode cX6_workOf 116 = .ok (.ireturn, 1) := by decide +kernel
theorem dX6_make_0 : decode cX6_make 0 = .ok (.aload_n 0, 1) := by decide +kernel
theorem dX6_make_1 : decode cX6_make 1 = .ok (.getfield 8, 3) := by decide +kernel
theorem dX6_make_4 : decode cX6_make 4 = .ok (.sipush 4808, 3) := by decide +kernel
theorem dX6_make_7 : decode cX6_make 7 = .ok (.iaload, 1) := by decide +kernel
theorem dX6_make_8 : decode cX6_make 8 = .ok (.bipush 8, 2) := by decide +kernel
theorem dX6_make_10 : decode cX6_make 10 = .ok (.if_icmp .ne 6, 3) := by decide +kernel
theorem dX6_make_13 : decode cX6_make 13 = .ok (.bipush (-3), 2) := by decide +kernel
theorem dX6_make_15 : decode cX6_make 15 = .ok (.ireturn, 1) := by decide +kernel
theorem dX6_make_16 : decode cX6_make 16 = .ok (.aload_n 0, 1) := by decide +kernel
theorem dX6_make_17 : decode cX6_make 17 = .ok (.invokevirtual 68, 3) := by decide +kernel
theorem dX6_make_20 : decode cX6_make 20 = .ok (.aload_n 0, 1) := by decide +kernel
theorem dX6_make_21 : decode cX6_make 21 = .ok (.getfield 8, 3) := by decide +kernel
theorem dX6_make_24 : decode cX6_make 24 = .ok (.aload_n 0, 1) := by decide +kernel
theorem dX6_make_25 : decode cX6_make 25 = .ok (.getfield 8, 3) := by decide +kernel
theorem dX6_make_28 : decode cX6_make 28 = .ok (.sipush 4808, 3) := by decide +kernel
theorem dX6_make_31 : decode cX6_make 31 = .ok (.iaload, 1) := by decide +kernel
theorem dX6_make_32 : decode cX6_make 32 = .ok (.invokestatic 71, 3) := by decide +kernel
theorem dX6_make_35 : decode cX6_make 35 = .ok (.iconst 0, 1) := by decide +kernel
theorem dX6_make_36 : decode cX6_make 36 = .ok (.iastore, 1) := by decide +kernel
theorem dX6_make_37 : decode cX6_make 37 = .ok (.aload_n 0, 1) := by decide +kernel
theorem dX6_make_38 : decode cX6_make 38 = .ok (.getfield 8, 3) := by decide +kernel
theorem dX6_make_41 : decode cX6_make 41 = .ok (.sipush 4808, 3) := by decide +kernel
theorem dX6_make_44 : decode cX6_make 44 = .ok (.dup2, 1) := by decide +kernel
theorem dX6_make_45 : decode cX6_make 45 = .ok (.iaload, 1) := by decide +kernel
theorem dX6_make_46 : decode cX6_make 46 = .ok (.iconst 1, 1) := by decide +kernel
theorem dX6_make_47 : decode cX6_make 47 = .ok (.iadd, 1) := by decide +kernel
theorem dX6_make_48 : decode cX6_make 48 = .ok (.iastore, 1) := by decide +kernel
theorem dX6_make_49 : decode cX6_make 49 = .ok (.aload_n 0, 1) := by decide +kernel
theorem dX6_make_50 : decode cX6_make 50 = .ok (.getfield 8, 3) := by decide +kernel
theorem dX6_make_53 : decode cX6_make 53 = .ok (.sipush 4808, 3) := by decide +kernel
theorem dX6_make_56 : decode cX6_make 56 = .ok (.iaload, 1) := by decide +kernel
theorem dX6_make_57 : decode cX6_make 57 = .ok (.iconst 1, 1) := by decide +kernel
theorem dX6_make_58 : decode cX6_make 58 = .ok (.isub, 1) := by decide +kernel
theorem dX6_make_59 : decode cX6_make 59 = .ok (.ireturn, 1) := by decide +kernel
theorem dX6_push_0 : decode cX6_push 0 = .ok (.aload_n 0, 1) := by decide +kernel
theorem dX6_push_1 : decode cX6_push 1 = .ok (.iload_n 1, 1) := by decide +kernel
theorem dX6_push_2 : decode cX6_push 2 = .ok (.aload_n 0, 1) := by decide +kernel
theorem dX6_push_3 : decode cX6_push 3 = .ok (.getfield 8, 3) := by decide +kernel
theorem dX6_push_6 : decode cX6_push 6 = .ok (.iload_n 1, 1) := by decide +kernel
theorem dX6_push_7 : decode cX6_push 7 = .ok (.iaload, 1) := by decide +kernel
theorem dX6_push_8 : decode cX6_push 8 = .ok (.iload_n 2, 1) := by decide +kernel
theorem dX6_push_9 : decode cX6_push 9 = .ok (.invokevirtual 61, 3) := by decide +kernel
theorem dX6_push_12 : decode cX6_push 12 = .ok (.aload_n 0, 1) := by decide +kernel
theorem dX6_push_13 : decode cX6_push 13 = .ok (.getfield 8, 3) := by decide +kernel
theorem dX6_push_16 : decode cX6_push 16 = .ok (.iload_n 1, 1) := by decide +kernel
theorem dX6_push_17 : decode cX6_push 17 = .ok (.dup2, 1) := by decide +kernel
theorem dX6_push_18 : decode cX6_push 18 = .ok (.iaload, 1) := by decide +kernel
theorem dX6_push_19 : decode cX6_push 19 = .ok (.iconst 1, 1) := by decide +kernel
theorem dX6_push_20 : decode cX6_push 20 = .ok (.iadd, 1) := by decide +kernel
theorem dX6_push_21 : decode cX6_push 21 = .ok (.iastore, 1) := by decide +kernel
theorem dX6_push_22 : decode cX6_push 22 = .ok (.return_, 1) := by decide +kernel
theorem dX6_append_0 : decode cX6_append 0 = .ok (.aload_n 0, 1) := by decide +kernel
theorem dX6_append_1 : decode cX6_append 1 = .ok (.iload_n 1, 1) := by decide +kernel
theorem dX6_append_2 : decode cX6_append 2 = .ok (.invokevirtual 74, 3) := by decide +kernel
theorem dX6_append_5 : decode cX6_append 5 = .ok (.ifCond .eq 23, 3) := by decide +kernel
theorem dX6_append_8 : decode cX6_append 8 = .ok (.iload_n 2, 1) := by decide +kernel
theorem dX6_append_9 : decode cX6_append 9 = .ok (.iconst 0, 1) := by decide +kernel
theorem dX6_append_10 : decode cX6_append 10 = .ok (.iconst 1, 1) := by decide +kernel
theorem dX6_append_11 : decode cX6_append 11 = .ok (.invokestatic 31, 3) := by decide +kernel
theorem dX6_append_14 : decode cX6_append 14 = .ok (.ifCond .eq 14, 3) := by decide +kernel
theorem dX6_append_17 : decode cX6_append 17 = .ok (.iload_n 3, 1) := by decide +kernel
theorem dX6_append_18 : decode cX6_append 18 = .ok (.iconst 1, 1) := by decide +kernel
theorem dX6_append_19 : decode cX6_append 19 = .ok (.sipush 600, 3) := by decide +kernel
theorem dX6_append_22 : decode cX6_append 22 = .ok (.invokestatic 31, 3) := by decide +kernel
theorem dX6_append_25 : decode cX6_append 25 = .ok (.ifCond .ne 5, 3) := by decide +kernel
theorem dX6_append_28 : decode cX6_append 28 = .ok (.iconst (-1), 1) := by decide +kernel
theorem dX6_append_29 : decode cX6_append 29 = .ok (.ireturn, 1) := by decide +kernel
theorem dX6_append_30 : decode cX6_append 30 = .ok (.aload_n 0, 1) := by decide +kernel
theorem dX6_append_31 : decode cX6_append 31 = .ok (.getfield 8, 3) := by decide +kernel
theorem dX6_append_34 : decode cX6_append 34 = .ok (.iload_n 1, 1) := by decide +kernel
theorem dX6_append_35 : decode cX6_append 35 = .ok (.invokestatic 71, 3) := by decide +kernel
theorem dX6_append_38 : decode cX6_append 38 = .ok (.iaload, 1) := by decide +kernel
theorem dX6_append_39 : decode cX6_append 39 = .ok (.iload_n 3, 1) := by decide +kernel
theorem dX6_append_40 : decode cX6_append 40 = .ok (.iadd, 1) := by decide +kernel
theorem dX6_append_41 : decode cX6_append 41 = .ok (.sipush 600, 3) := by decide +kernel
theorem dX6_append_44 : decode cX6_append 44 = .ok (.if_icmp .le 6, 3) := by decide +kernel
theorem dX6_append_47 : decode cX6_append 47 = .ok (.bipush (-3), 2) := by decide +kernel
theorem dX6_append_49 : decode cX6_append 49 = .ok (.ireturn, 1) := by decide +kernel
theorem dX6_append_50 : decode cX6_append 50 = .ok (.aload_n 0, 1) := by decide +kernel
theorem dX6_append_51 : decode cX6_append 51 = .ok (.invokevirtual 68, 3) := by decide +kernel
theorem dX6_append_54 : decode cX6_append 54 = .ok (.iconst 0, 1) := by decide +kernel
theorem dX6_append_55 : decode cX6_append 55 = .ok (.istore 4, 2) := by decide +kernel
theorem dX6_append_57 : decode cX6_append 57 = .ok (.iload 4, 2) := by decide +kernel
theorem dX6_append_59 : decode cX6_append 59 = .ok (.iload_n 3, 1) := by decide +kernel
theorem dX6_append_60 : decode cX6_append 60 = .ok (.if_icmp .ge 18, 3) := by decide +kernel
theorem dX6_append_63 : decode cX6_append 63 = .ok (.aload_n 0, 1) := by decide +kernel
theorem dX6_append_64 : decode cX6_append 64 = .ok (.iload_n 1, 1) := by decide +kernel
theorem dX6_append_65 : decode cX6_append 65 = .ok (.invokestatic 71, 3) := by decide +kernel
theorem dX6_append_68 : decode cX6_append 68 = .ok (.iload_n 2, 1) := by decide +kernel
theorem dX6_append_69 : decode cX6_append 69 = .ok (.invokevirtual 78, 3) := by decide +kernel
theorem dX6_append_72 : decode cX6_append 72 = .ok (.iinc 4 1, 3) := by decide +kernel
theorem dX6_append_75 : decode cX6_append 75 = .ok (.goto (-18), 3) := by decide +kernel
theorem dX6_append_78 : decode cX6_append 78 = .ok (.aload_n 0, 1) := by decide +kernel
theorem dX6_append_79 : decode cX6_append 79 = .ok (.getfield 8, 3) := by decide +kernel
theorem dX6_append_82 : decode cX6_append 82 = .ok (.iload_n 1, 1) := by decide +kernel
theorem dX6_append_83 : decode cX6_append 83 = .ok (.invokestatic 71, 3) := by decide +kernel
theorem dX6_append_86 : decode cX6_append 86 = .ok (.iaload, 1) := by decide +kernel
theorem dX6_append_87 : decode cX6_append 87 = .ok (.ireturn, 1) := by decide +kernel
theorem dX6_write_0 : decode cX6_write 0 = .ok (.aload_n 0, 1) := by decide +kernel
theorem dX6_write_1 : decode cX6_write 1 = .ok (.iload_n 1, 1) := by decide +kernel
theorem dX6_write_2 : decode cX6_write 2 = .ok (.invokevirtual 74, 3) := by decide +kernel
theorem dX6_write_5 : decode cX6_write 5 = .ok (.ifCond .eq 23, 3) := by decide +kernel
theorem dX6_write_8 : decode cX6_write 8 = .ok (.iload_n 2, 1) := by decide +kernel
theorem dX6_write_9 : decode cX6_write 9 = .ok (.iconst 0, 1) := by decide +kernel
theorem dX6_write_10 : decode cX6_write 10 = .ok (.ldc 81, 2) := by decide +kernel
theorem dX6_write_12 : decode cX6_write 12 = .ok (.invokestatic 31, 3) := by decide +kernel
theorem dX6_write_15 : decode cX6_write 15 = .ok (.ifCond .eq 13, 3) := by decide +kernel
theorem dX6_write_18 : decode cX6_write 18 = .ok (.iload_n 3, 1) := by decide +kernel
theorem dX6_write_19 : decode cX6_write 19 = .ok (.iconst 1, 1) := by decide +kernel
theorem dX6_write_20 : decode cX6_write 20 = .ok (.bipush 16, 2) := by decide +kernel
theorem dX6_write_22 : decode cX6_write 22 = .ok (.invokestatic 31, 3) := by decide +kernel
theorem dX6_write_25 : decode cX6_write 25 = .ok (.ifCond .ne 5, 3) := by decide +kernel
theorem dX6_write_28 : decode cX6_write 28 = .ok (.iconst (-1), 1) := by decide +kernel
theorem dX6_write_29 : decode cX6_write 29 = .ok (.ireturn, 1) := by decide +kernel
theorem dX6_write_30 : decode cX6_write 30 = .ok (.aload_n 0, 1) := by decide +kernel
theorem dX6_write_31 : decode cX6_write 31 = .ok (.getfield 8, 3) := by decide +kernel
theorem dX6_write_34 : decode cX6_write 34 = .ok (.iload_n 1, 1) := by decide +kernel
theorem dX6_write_35 : decode cX6_write 35 = .ok (.invokestatic 71, 3) := by decide +kernel
theorem dX6_write_38 : decode cX6_write 38 = .ok (.iaload, 1) := by decide +kernel
theorem dX6_write_39 : decode cX6_write 39 = .ok (.iload_n 3, 1) := by decide +kernel
theorem dX6_write_40 : decode cX6_write 40 = .ok (.iadd, 1) := by decide +kernel
theorem dX6_write_41 : decode cX6_write 41 = .ok (.sipush 600, 3) := by decide +kernel
theorem dX6_write_44 : decode cX6_write 44 = .ok (.if_icmp .le 6, 3) := by decide +kernel
theorem dX6_write_47 : decode cX6_write 47 = .ok (.bipush (-3), 2) := by decide +kernel
theorem dX6_write_49 : decode cX6_write 49 = .ok (.ireturn, 1) := by decide +kernel
theorem dX6_write_50 : decode cX6_write 50 = .ok (.aload_n 0, 1) := by decide +kernel
theorem dX6_write_51 : decode cX6_write 51 = .ok (.invokevirtual 68, 3) := by decide +kernel
theorem dX6_write_54 : decode cX6_write 54 = .ok (.iconst 0, 1) := by decide +kernel
theorem dX6_write_55 : decode cX6_write 55 = .ok (.istore 4, 2) := by decide +kernel
theorem dX6_write_57 : decode cX6_write 57 = .ok (.iload 4, 2) := by decide +kernel
theorem dX6_write_59 : decode cX6_write 59 = .ok (.iload_n 3, 1) := by decide +kernel
theorem dX6_write_60 : decode cX6_write 60 = .ok (.if_icmp .ge 23, 3) := by decide +kernel
theorem dX6_write_63 : decode cX6_write 63 = .ok (.aload_n 0, 1) := by decide +kernel
theorem dX6_write_64 : decode cX6_write 64 = .ok (.iload_n 1, 1) := by decide +kernel
theorem dX6_write_65 : decode cX6_write 65 = .ok (.invokestatic 71, 3) := by decide +kernel
theorem dX6_write_68 : decode cX6_write 68 = .ok (.iload_n 2, 1) := by decide +kernel
theorem dX6_write_69 : decode cX6_write 69 = .ok (.iload 4, 2) := by decide +kernel
theorem dX6_write_71 : decode cX6_write 71 = .ok (.ishr, 1) := by decide +kernel
theorem dX6_write_72 : decode cX6_write 72 = .ok (.iconst 1, 1) := by decide +kernel
theorem dX6_write_73 : decode cX6_write 73 = .ok (.iand, 1) := by decide +kernel
theorem dX6_write_74 : decode cX6_write 74 = .ok (.invokevirtual 78, 3) := by decide +kernel
theorem dX6_write_77 : decode cX6_write 77 = .ok (.iinc 4 1, 3) := by decide +kernel
theorem dX6_write_80 : decode cX6_write 80 = .ok (.goto (-23), 3) := by decide +kernel
theorem dX6_write_83 : decode cX6_write 83 = .ok (.aload_n 0, 1) := by decide +kernel
theorem dX6_write_84 : decode cX6_write 84 = .ok (.iload_n 1, 1) := by decide +kernel
theorem dX6_write_85 : decode cX6_write 85 = .ok (.invokestatic 71, 3) := by decide +kernel
theorem dX6_write_88 : decode cX6_write 88 = .ok (.iconst 3, 1) := by decide +kernel
theorem dX6_write_89 : decode cX6_write 89 = .ok (.invokevirtual 82, 3) := by decide +kernel
theorem dX6_write_92 : decode cX6_write 92 = .ok (.ireturn, 1) := by decide +kernel
theorem dX6_isPlace_0 : decode cX6_isPlace 0 = .ok (.aload_n 0, 1) := by decide +kernel
theorem dX6_isPlace_1 : decode cX6_isPlace 1 = .ok (.iload_n 1, 1) := by decide +kernel
theorem dX6_isPlace_2 : decode cX6_isPlace 2 = .ok (.invokevirtual 74, 3) := by decide +kernel
theorem dX6_isPlace_5 : decode cX6_isPlace 5 = .ok (.ifCond .eq 28, 3) := by decide +kernel
theorem dX6_isPlace_8 : decode cX6_isPlace 8 = .ok (.iload_n 2, 1) := by decide +kernel
theorem dX6_isPlace_9 : decode cX6_isPlace 9 = .ok (.iconst 0, 1) := by decide +kernel
theorem dX6_isPlace_10 : decode cX6_isPlace 10 = .ok (.aload_n 0, 1) := by decide +kernel
theorem dX6_isPlace_11 : decode cX6_isPlace 11 = .ok (.getfield 8, 3) := by decide +kernel
theorem dX6_isPlace_14 : decode cX6_isPlace 14 = .ok (.iload_n 1, 1) := by decide +kernel
theorem dX6_isPlace_15 : decode cX6_isPlace 15 = .ok (.invokestatic 71, 3) := by decide +kernel
theorem dX6_isPlace_18 : decode cX6_isPlace 18 = .ok (.iaload, 1) := by decide +kernel
theorem dX6_isPlace_19 : decode cX6_isPlace 19 = .ok (.iconst 1, 1) := by decide +kernel
theorem dX6_isPlace_20 : decode cX6_isPlace 20 = .ok (.isub, 1) := by decide +kernel
theorem dX6_isPlace_21 : decode cX6_isPlace 21 = .ok (.iload_n 3, 1) := by decide +kernel
theorem dX6_isPlace_22 : decode cX6_isPlace 22 = .ok (.iadd, 1) := by decide +kernel
theorem dX6_isPlace_23 : decode cX6_isPlace 23 = .ok (.invokestatic 31, 3) := by decide +kernel
theorem dX6_isPlace_26 : decode cX6_isPlace 26 = .ok (.ifCond .eq 7, 3) := by decide +kernel
theorem dX6_isPlace_29 : decode cX6_isPlace 29 = .ok (.iconst 1, 1) := by decide +kernel
theorem dX6_isPlace_30 : decode cX6_isPlace 30 = .ok (.goto 4, 3) := by decide +kernel
theorem dX6_isPlace_33 : decode cX6_isPlace 33 = .ok (.iconst 0, 1) := by decide +kernel
theorem dX6_isPlace_34 : decode cX6_isPlace 34 = .ok (.ireturn, 1) := by decide +kernel
theorem dX6_set_0 : decode cX6_set 0 = .ok (.aload_n 0, 1) := by decide +kernel
theorem dX6_set_1 : decode cX6_set 1 = .ok (.iload_n 1, 1) := by decide +kernel
theorem dX6_set_2 : decode cX6_set 2 = .ok (.iload_n 2, 1) := by decide +kernel
theorem dX6_set_3 : decode cX6_set 3 = .ok (.iconst 0, 1) := by decide +kernel
theorem dX6_set_4 : decode cX6_set 4 = .ok (.invokevirtual 85, 3) := by decide +kernel
theorem dX6_set_7 : decode cX6_set 7 = .ok (.ifCond .eq 12, 3) := by decide +kernel
theorem dX6_set_10 : decode cX6_set 10 = .ok (.iload_n 3, 1) := by decide +kernel
theorem dX6_set_11 : decode cX6_set 11 = .ok (.iconst 0, 1) := by decide +kernel
theorem dX6_set_12 : decode cX6_set 12 = .ok (.iconst 1, 1) := by decide +kernel
theorem dX6_set_13 : decode cX6_set 13 = .ok (.invokestatic 31, 3) := by decide +kernel
theorem dX6_set_16 : decode cX6_set 16 = .ok (.ifCond .ne 5, 3) := by decide +kernel
theorem dX6_set_19 : decode cX6_set 19 = .ok (.iconst (-1), 1) := by decide +kernel
theorem dX6_set_20 : decode cX6_set 20 = .ok (.ireturn, 1) := by decide +kernel
theorem dX6_set_21 : decode cX6_set 21 = .ok (.aload_n 0, 1) := by decide +kernel
theorem dX6_set_22 : decode cX6_set 22 = .ok (.invokevirtual 68, 3) := by decide +kernel
theorem dX6_set_25 : decode cX6_set 25 = .ok (.aload_n 0, 1) := by decide +kernel
theorem dX6_set_26 : decode cX6_set 26 = .ok (.iload_n 1, 1) := by decide +kernel
theorem dX6_set_27 : decode cX6_set 27 = .ok (.invokestatic 71, 3) := by decide +kernel
theorem dX6_set_30 : decode cX6_set 30 = .ok (.iload_n 2, 1) := by decide +kernel
theorem dX6_set_31 : decode cX6_set 31 = .ok (.invokevirtual 35, 3) := by decide +kernel
theorem dX6_set_34 : decode cX6_set 34 = .ok (.istore 4, 2) := by decide +kernel
theorem dX6_set_36 : decode cX6_set 36 = .ok (.aload_n 0, 1) := by decide +kernel
theorem dX6_set_37 : decode cX6_set 37 = .ok (.iload_n 1, 1) := by decide +kernel
theorem dX6_set_38 : decode cX6_set 38 = .ok (.invokestatic 71, 3) := by decide +kernel
theorem dX6_set_41 : decode cX6_set 41 = .ok (.iload_n 2, 1) := by decide +kernel
theorem dX6_set_42 : decode cX6_set 42 = .ok (.iload_n 3, 1) := by decide +kernel
theorem dX6_set_43 : decode cX6_set 43 = .ok (.invokevirtual 61, 3) := by decide +kernel
theorem dX6_set_46 : decode cX6_set 46 = .ok (.iload 4, 2) := by decide +kernel
theorem dX6_set_48 : decode cX6_set 48 = .ok (.ireturn, 1) := by decide +kernel
theorem dX6_resize_0 : decode cX6_resize 0 = .ok (.aload_n 0, 1) := by decide +kernel
theorem dX6_resize_1 : decode cX6_resize 1 = .ok (.iload_n 1, 1) := by decide +kernel
theorem dX6_resize_2 : decode cX6_resize 2 = .ok (.invokevirtual 74, 3) := by decide +kernel
theorem dX6_resize_5 : decode cX6_resize 5 = .ok (.ifCond .eq 14, 3) := by decide +kernel
theorem dX6_resize_8 : decode cX6_resize 8 = .ok (.iload_n 2, 1) := by decide +kernel
theorem dX6_resize_9 : decode cX6_resize 9 = .ok (.iconst 0, 1) := by decide +kernel
theorem dX6_resize_10 : decode cX6_resize 10 = .ok (.sipush 600, 3) := by decide +kernel
theorem dX6_resize_13 : decode cX6_resize 13 = .ok (.invokestatic 31, 3) := by decide +kernel
theorem dX6_resize_16 : decode cX6_resize 16 = .ok (.ifCond .ne 5, 3) := by decide +kernel
theorem dX6_resize_19 : decode cX6_resize 19 = .ok (.iconst (-1), 1) := by decide +kernel
theorem dX6_resize_20 : decode cX6_resize 20 = .ok (.ireturn, 1) := by decide +kernel
theorem dX6_resize_21 : decode cX6_resize 21 = .ok (.aload_n 0, 1) := by decide +kernel
theorem dX6_resize_22 : decode cX6_resize 22 = .ok (.invokevirtual 68, 3) := by decide +kernel
theorem dX6_resize_25 : decode cX6_resize 25 = .ok (.aload_n 0, 1) := by decide +kernel
theorem dX6_resize_26 : decode cX6_resize 26 = .ok (.getfield 8, 3) := by decide +kernel
theorem dX6_resize_29 : decode cX6_resize 29 = .ok (.iload_n 1, 1) := by decide +kernel
theorem dX6_resize_30 : decode cX6_resize 30 = .ok (.invokestatic 71, 3) := by decide +kernel
theorem dX6_resize_33 : decode cX6_resize 33 = .ok (.iaload, 1) := by decide +kernel
theorem dX6_resize_34 : decode cX6_resize 34 = .ok (.istore_n 3, 1) := by decide +kernel
theorem dX6_resize_35 : decode cX6_resize 35 = .ok (.iload_n 3, 1) := by decide +kernel
theorem dX6_resize_36 : decode cX6_resize 36 = .ok (.istore 4, 2) := by decide +kernel
theorem dX6_resize_38 : decode cX6_resize 38 = .ok (.iload 4, 2) := by decide +kernel
theorem dX6_resize_40 : decode cX6_resize 40 = .ok (.iload_n 2, 1) := by decide +kernel
theorem dX6_resize_41 : decode cX6_resize 41 = .ok (.if_icmp .ge 20, 3) := by decide +kernel
theorem dX6_resize_44 : decode cX6_resize 44 = .ok (.aload_n 0, 1) := by decide +kernel
theorem dX6_resize_45 : decode cX6_resize 45 = .ok (.iload_n 1, 1) := by decide +kernel
theorem dX6_resize_46 : decode cX6_resize 46 = .ok (.invokestatic 71, 3) := by decide +kernel
theorem dX6_resize_49 : decode cX6_resize 49 = .ok (.iload 4, 2) := by decide +kernel
theorem dX6_resize_51 : decode cX6_resize 51 = .ok (.iconst 0, 1) := by decide +kernel
theorem dX6_resize_52 : decode cX6_resize 52 = .ok (.invokevirtual 61, 3) := by decide +kernel
theorem dX6_resize_55 : decode cX6_resize 55 = .ok (.iinc 4 1, 3) := by decide +kernel
theorem dX6_resize_58 : decode cX6_resize 58 = .ok (.goto (-20), 3) := by decide +kernel
theorem dX6_resize_61 : decode cX6_resize 61 = .ok (.aload_n 0, 1) := by decide +kernel
theorem dX6_resize_62 : decode cX6_resize 62 = .ok (.getfield 8, 3) := by decide +kernel
theorem dX6_resize_65 : decode cX6_resize 65 = .ok (.iload_n 1, 1) := by decide +kernel
theorem dX6_resize_66 : decode cX6_resize 66 = .ok (.invokestatic 71, 3) := by decide +kernel
theorem dX6_resize_69 : decode cX6_resize 69 = .ok (.iload_n 2, 1) := by decide +kernel
theorem dX6_resize_70 : decode cX6_resize 70 = .ok (.iastore, 1) := by decide +kernel
theorem dX6_resize_71 : decode cX6_resize 71 = .ok (.iload_n 3, 1) := by decide +kernel
theorem dX6_resize_72 : decode cX6_resize 72 = .ok (.ireturn, 1) := by decide +kernel
theorem dX6_operate_0 : decode cX6_operate 0 = .ok (.aload_n 0, 1) := by decide +kernel
theorem dX6_operate_1 : decode cX6_operate 1 = .ok (.iload_n 1, 1) := by decide +kernel
theorem dX6_operate_2 : decode cX6_operate 2 = .ok (.invokevirtual 74, 3) := by decide +kernel
theorem dX6_operate_5 : decode cX6_operate 5 = .ok (.ifCond .eq 29, 3) := by decide +kernel
theorem dX6_operate_8 : decode cX6_operate 8 = .ok (.iload_n 2, 1) := by decide +kernel
theorem dX6_operate_9 : decode cX6_operate 9 = .ok (.iconst 0, 1) := by decide +kernel
theorem dX6_operate_10 : decode cX6_operate 10 = .ok (.iconst 3, 1) := by decide +kernel
theorem dX6_operate_11 : decode cX6_operate 11 = .ok (.invokestatic 31, 3) := by decide +kernel
theorem dX6_operate_14 : decode cX6_operate 14 = .ok (.ifCond .eq 20, 3) := by decide +kernel
theorem dX6_operate_17 : decode cX6_operate 17 = .ok (.aload_n 0, 1) := by decide +kernel
theorem dX6_operate_18 : decode cX6_operate 18 = .ok (.iload_n 3, 1) := by decide +kernel
theorem dX6_operate_19 : decode cX6_operate 19 = .ok (.invokevirtual 74, 3) := by decide +kernel
theorem dX6_operate_22 : decode cX6_operate 22 = .ok (.ifCond .eq 12, 3) := by decide +kernel
theorem dX6_operate_25 : decode cX6_operate 25 = .ok (.aload_n 0, 1) := by decide +kernel
theorem dX6_operate_26 : decode cX6_operate 26 = .ok (.iload 4, 2) := by decide +kernel
theorem dX6_operate_28 : decode cX6_operate 28 = .ok (.invokevirtual 74, 3) := by decide +kernel
theorem dX6_operate_31 : decode cX6_operate 31 = .ok (.ifCond .ne 5, 3) := by decide +kernel
theorem dX6_operate_34 : decode cX6_operate 34 = .ok (.iconst (-1), 1) := by decide +kernel
theorem dX6_operate_35 : decode cX6_operate 35 = .ok (.ireturn, 1) := by decide +kernel
theorem dX6_operate_36 : decode cX6_operate 36 = .ok (.aload_n 0, 1) := by decide +kernel
theorem dX6_operate_37 : decode cX6_operate 37 = .ok (.invokevirtual 68, 3) := by decide +kernel
theorem dX6_operate_40 : decode cX6_operate 40 = .ok (.aload_n 0, 1) := by decide +kernel
theorem dX6_operate_41 : decode cX6_operate 41 = .ok (.iload_n 3, 1) := by decide +kernel
theorem dX6_operate_42 : decode cX6_operate 42 = .ok (.invokestatic 71, 3) := by decide +kernel
theorem dX6_operate_45 : decode cX6_operate 45 = .ok (.iload 4, 2) := by decide +kernel
theorem dX6_operate_47 : decode cX6_operate 47 = .ok (.invokestatic 71, 3) := by decide +kernel
theorem dX6_operate_50 : decode cX6_operate 50 = .ok (.invokevirtual 88, 3) := by decide +kernel
theorem dX6_operate_53 : decode cX6_operate 53 = .ok (.istore 5, 2) := by decide +kernel
theorem dX6_operate_55 : decode cX6_operate 55 = .ok (.aload_n 0, 1) := by decide +kernel
theorem dX6_operate_56 : decode cX6_operate 56 = .ok (.iload_n 2, 1) := by decide +kernel
theorem dX6_operate_57 : decode cX6_operate 57 = .ok (.iload_n 3, 1) := by decide +kernel
theorem dX6_operate_58 : decode cX6_operate 58 = .ok (.invokestatic 71, 3) := by decide +kernel
theorem dX6_operate_61 : decode cX6_operate 61 = .ok (.iload 4, 2) := by decide +kernel
theorem dX6_operate_63 : decode cX6_operate 63 = .ok (.invokestatic 71, 3) := by decide +kernel
theorem dX6_operate_66 : decode cX6_operate 66 = .ok (.iload_n 1, 1) := by decide +kernel
theorem dX6_operate_67 : decode cX6_operate 67 = .ok (.invokestatic 71, 3) := by decide +kernel
theorem dX6_operate_70 : decode cX6_operate 70 = .ok (.invokevirtual 91, 3) := by decide +kernel
theorem dX6_operate_73 : decode cX6_operate 73 = .ok (.iload 5, 2) := by decide +kernel
theorem dX6_operate_75 : decode cX6_operate 75 = .ok (.ireturn, 1) := by decide +kernel
theorem dX6_not_0 : decode cX6_not 0 = .ok (.aload_n 0, 1) := by decide +kernel
theorem dX6_not_1 : decode cX6_not 1 = .ok (.iload_n 1, 1) := by decide +kernel
theorem dX6_not_2 : decode cX6_not 2 = .ok (.invokevirtual 74, 3) := by decide +kernel
theorem dX6_not_5 : decode cX6_not 5 = .ok (.ifCond .ne 5, 3) := by decide +kernel
theorem dX6_not_8 : decode cX6_not 8 = .ok (.iconst (-1), 1) := by decide +kernel
theorem dX6_not_9 : decode cX6_not 9 = .ok (.ireturn, 1) := by decide +kernel
theorem dX6_not_10 : decode cX6_not 10 = .ok (.aload_n 0, 1) := by decide +kernel
theorem dX6_not_11 : decode cX6_not 11 = .ok (.invokevirtual 68, 3) := by decide +kernel
theorem dX6_not_14 : decode cX6_not 14 = .ok (.aload_n 0, 1) := by decide +kernel
theorem dX6_not_15 : decode cX6_not 15 = .ok (.iload_n 1, 1) := by decide +kernel
theorem dX6_not_16 : decode cX6_not 16 = .ok (.invokestatic 71, 3) := by decide +kernel
theorem dX6_not_19 : decode cX6_not 19 = .ok (.invokevirtual 95, 3) := by decide +kernel
theorem dX6_not_22 : decode cX6_not 22 = .ok (.aload_n 0, 1) := by decide +kernel
theorem dX6_not_23 : decode cX6_not 23 = .ok (.iload_n 1, 1) := by decide +kernel
theorem dX6_not_24 : decode cX6_not 24 = .ok (.invokestatic 71, 3) := by decide +kernel
theorem dX6_not_27 : decode cX6_not 27 = .ok (.invokevirtual 99, 3) := by decide +kernel
theorem dX6_not_30 : decode cX6_not 30 = .ok (.ireturn, 1) := by decide +kernel
theorem dX6_shift_0 : decode cX6_shift 0 = .ok (.aload_n 0, 1) := by decide +kernel
theorem dX6_shift_1 : decode cX6_shift 1 = .ok (.iload_n 1, 1) := by decide +kernel
theorem dX6_shift_2 : decode cX6_shift 2 = .ok (.invokevirtual 74, 3) := by decide +kernel
theorem dX6_shift_5 : decode cX6_shift 5 = .ok (.ifCond .eq 16, 3) := by decide +kernel
theorem dX6_shift_8 : decode cX6_shift 8 = .ok (.iload_n 2, 1) := by decide +kernel
theorem dX6_shift_9 : decode cX6_shift 9 = .ok (.sipush (-600), 3) := by decide +kernel
theorem dX6_shift_12 : decode cX6_shift 12 = .ok (.sipush 600, 3) := by decide +kernel
theorem dX6_shift_15 : decode cX6_shift 15 = .ok (.invokestatic 31, 3) := by decide +kernel
theorem dX6_shift_18 : decode cX6_shift 18 = .ok (.ifCond .ne 5, 3) := by decide +kernel
theorem dX6_shift_21 : decode cX6_shift 21 = .ok (.iconst (-1), 1) := by decide +kernel
theorem dX6_shift_22 : decode cX6_shift 22 = .ok (.ireturn, 1) := by decide +kernel
theorem dX6_shift_23 : decode cX6_shift 23 = .ok (.aload_n 0, 1) := by decide +kernel
theorem dX6_shift_24 : decode cX6_shift 24 = .ok (.invokevirtual 68, 3) := by decide +kernel
theorem dX6_shift_27 : decode cX6_shift 27 = .ok (.aload_n 0, 1) := by decide +kernel
theorem dX6_shift_28 : decode cX6_shift 28 = .ok (.iload_n 1, 1) := by decide +kernel
theorem dX6_shift_29 : decode cX6_shift 29 = .ok (.invokestatic 71, 3) := by decide +kernel
theorem dX6_shift_32 : decode cX6_shift 32 = .ok (.iload_n 2, 1) := by decide +kernel
theorem dX6_shift_33 : decode cX6_shift 33 = .ok (.invokevirtual 102, 3) := by decide +kernel
theorem dX6_shift_36 : decode cX6_shift 36 = .ok (.aload_n 0, 1) := by decide +kernel
theorem dX6_shift_37 : decode cX6_shift 37 = .ok (.getfield 8, 3) := by decide +kernel
theorem dX6_shift_40 : decode cX6_shift 40 = .ok (.iload_n 1, 1) := by decide +kernel
theorem dX6_shift_41 : decode cX6_shift 41 = .ok (.invokestatic 71, 3) := by decide +kernel
theorem dX6_shift_44 : decode cX6_shift 44 = .ok (.iaload, 1) := by decide +kernel
theorem dX6_shift_45 : decode cX6_shift 45 = .ok (.ireturn, 1) := by decide +kernel
theorem dX6_type_0 : decode cX6_type 0 = .ok (.iload_n 1, 1) := by decide +kernel
theorem dX6_type_1 : decode cX6_type 1 = .ok (.iconst 1, 1) := by decide +kernel
theorem dX6_type_2 : decode cX6_type 2 = .ok (.sipush 255, 3) := by decide +kernel
theorem dX6_type_5 : decode cX6_type 5 = .ok (.invokestatic 31, 3) := by decide +kernel
theorem dX6_type_8 : decode cX6_type 8 = .ok (.ifCond .ne 5, 3) := by decide +kernel
theorem dX6_type_11 : decode cX6_type 11 = .ok (.iconst (-1), 1) := by decide +kernel
theorem dX6_type_12 : decode cX6_type 12 = .ok (.ireturn, 1) := by decide +kernel
theorem dX6_type_13 : decode cX6_type 13 = .ok (.aload_n 0, 1) := by decide +kernel
theorem dX6_type_14 : decode cX6_type 14 = .ok (.getfield 105, 3) := by decide +kernel
theorem dX6_type_17 : decode cX6_type 17 = .ok (.bipush 100, 2) := by decide +kernel
theorem dX6_type_19 : decode cX6_type 19 = .ok (.if_icmp .ne 6, 3) := by decide +kernel
theorem dX6_type_22 : decode cX6_type 22 = .ok (.bipush (-3), 2) := by decide +kernel
theorem dX6_type_24 : decode cX6_type 24 = .ok (.ireturn, 1) := by decide +kernel
theorem dX6_type_25 : decode cX6_type 25 = .ok (.aload_n 0, 1) := by decide +kernel
theorem dX6_type_26 : decode cX6_type 26 = .ok (.getfield 14, 3) := by decide +kernel
theorem dX6_type_29 : decode cX6_type 29 = .ok (.aload_n 0, 1) := by decide +kernel
theorem dX6_type_30 : decode cX6_type 30 = .ok (.getfield 105, 3) := by decide +kernel
theorem dX6_type_33 : decode cX6_type 33 = .ok (.iload_n 1, 1) := by decide +kernel
theorem dX6_type_34 : decode cX6_type 34 = .ok (.iastore, 1) := by decide +kernel
theorem dX6_type_35 : decode cX6_type 35 = .ok (.aload_n 0, 1) := by decide +kernel
theorem dX6_type_36 : decode cX6_type 36 = .ok (.dup, 1) := by decide +kernel
theorem dX6_type_37 : decode cX6_type 37 = .ok (.getfield 105, 3) := by decide +kernel
theorem dX6_type_40 : decode cX6_type 40 = .ok (.iconst 1, 1) := by decide +kernel
theorem dX6_type_41 : decode cX6_type 41 = .ok (.iadd, 1) := by decide +kernel
theorem dX6_type_42 : decode cX6_type 42 = .ok (.putfield 105, 3) := by decide +kernel
theorem dX6_type_45 : decode cX6_type 45 = .ok (.aload_n 0, 1) := by decide +kernel
theorem dX6_type_46 : decode cX6_type 46 = .ok (.getfield 105, 3) := by decide +kernel
theorem dX6_type_49 : decode cX6_type 49 = .ok (.ireturn, 1) := by decide +kernel
theorem dX6_clearText_0 : decode cX6_clearText 0 = .ok (.aload_n 0, 1) := by decide +kernel
theorem dX6_clearText_1 : decode cX6_clearText 1 = .ok (.getfield 105, 3) := by decide +kernel
theorem dX6_clearText_4 : decode cX6_clearText 4 = .ok (.istore_n 1, 1) := by decide +kernel
theorem dX6_clearText_5 : decode cX6_clearText 5 = .ok (.aload_n 0, 1) := by decide +kernel
theorem dX6_clearText_6 : decode cX6_clearText 6 = .ok (.iconst 0, 1) := by decide +kernel
theorem dX6_clearText_7 : decode cX6_clearText 7 = .ok (.putfield 105, 3) := by decide +kernel
theorem dX6_clearText_10 : decode cX6_clearText 10 = .ok (.iload_n 1, 1) := by decide +kernel
theorem dX6_clearText_11 : decode cX6_clearText 11 = .ok (.ireturn, 1) := by decide +kernel
theorem dX6_code_0 : decode cX6_code 0 = .ok (.aload_n 0, 1) := by decide +kernel
theorem dX6_code_1 : decode cX6_code 1 = .ok (.getfield 108, 3) := by decide +kernel
theorem dX6_code_4 : decode cX6_code 4 = .ok (.aload_n 0, 1) := by decide +kernel
theorem dX6_code_5 : decode cX6_code 5 = .ok (.getfield 105, 3) := by decide +kernel
theorem dX6_code_8 : decode cX6_code 8 = .ok (.if_icmp .ge 30, 3) := by decide +kernel
theorem dX6_code_11 : decode cX6_code 11 = .ok (.aload_n 0, 1) := by decide +kernel
theorem dX6_code_12 : decode cX6_code 12 = .ok (.getfield 14, 3) := by decide +kernel
theorem dX6_code_15 : decode cX6_code 15 = .ok (.aload_n 0, 1) := by decide +kernel
theorem dX6_code_16 : decode cX6_code 16 = .ok (.getfield 108, 3) := by decide +kernel
theorem dX6_code_19 : decode cX6_code 19 = .ok (.iaload, 1) := by decide +kernel
theorem dX6_code_20 : decode cX6_code 20 = .ok (.bipush 32, 2) := by decide +kernel
theorem dX6_code_22 : decode cX6_code 22 = .ok (.if_icmp .ne 16, 3) := by decide +kernel
theorem dX6_code_25 : decode cX6_code 25 = .ok (.aload_n 0, 1) := by decide +kernel
theorem dX6_code_26 : decode cX6_code 26 = .ok (.dup, 1) := by decide +kernel
theorem dX6_code_27 : decode cX6_code 27 = .ok (.getfield 108, 3) := by decide +kernel
theorem dX6_code_30 : decode cX6_code 30 = .ok (.iconst 1, 1) := by decide +kernel
theorem dX6_code_31 : decode cX6_code 31 = .ok (.iadd, 1) := by decide +kernel
theorem dX6_code_32 : decode cX6_code 32 = .ok (.putfield 108, 3) := by decide +kernel
theorem dX6_code_35 : decode cX6_code 35 = .ok (.goto (-35), 3) := by decide +kernel
theorem dX6_code_38 : decode cX6_code 38 = .ok (.aload_n 0, 1) := by decide +kernel
theorem dX6_code_39 : decode cX6_code 39 = .ok (.getfield 108, 3) := by decide +kernel
theorem dX6_code_42 : decode cX6_code 42 = .ok (.aload_n 0, 1) := by decide +kernel
theorem dX6_code_43 : decode cX6_code 43 = .ok (.getfield 105, 3) := by decide +kernel
theorem dX6_code_46 : decode cX6_code 46 = .ok (.if_icmp .ge 15, 3) := by decide +kernel
theorem dX6_code_49 : decode cX6_code 49 = .ok (.aload_n 0, 1) := by decide +kernel
theorem dX6_code_50 : decode cX6_code 50 = .ok (.getfield 14, 3) := by decide +kernel
theorem dX6_code_53 : decode cX6_code 53 = .ok (.aload_n 0, 1) := by decide +kernel
theorem dX6_code_54 : decode cX6_code 54 = .ok (.getfield 108, 3) := by decide +kernel
theorem dX6_code_57 : decode cX6_code 57 = .ok (.iaload, 1) := by decide +kernel
theorem dX6_code_58 : decode cX6_code 58 = .ok (.goto 4, 3) := by decide +kernel
theorem dX6_code_61 : decode cX6_code 61 = .ok (.iconst 0, 1) := by decide +kernel
theorem dX6_code_62 : decode cX6_code 62 = .ok (.ireturn, 1) := by decide +kernel
theorem dX6_wrong_0 : decode cX6_wrong 0 = .ok (.iload_n 1, 1) := by decide +kernel
theorem dX6_wrong_1 : decode cX6_wrong 1 = .ok (.ifCond .eq 23, 3) := by decide +kernel
theorem dX6_wrong_4 : decode cX6_wrong 4 = .ok (.aload_n 0, 1) := by decide +kernel
theorem dX6_wrong_5 : decode cX6_wrong 5 = .ok (.getfield 111, 3) := by decide +kernel
theorem dX6_wrong_8 : decode cX6_wrong 8 = .ok (.ifCond .ge 16, 3) := by decide +kernel
theorem dX6_wrong_11 : decode cX6_wrong 11 = .ok (.aload_n 0, 1) := by decide +kernel
theorem dX6_wrong_12 : decode cX6_wrong 12 = .ok (.iload_n 2, 1) := by decide +kernel
theorem dX6_wrong_13 : decode cX6_wrong 13 = .ok (.putfield 111, 3) := by decide +kernel
theorem dX6_wrong_16 : decode cX6_wrong 16 = .ok (.aload_n 0, 1) := by decide +kernel
theorem dX6_wrong_17 : decode cX6_wrong 17 = .ok (.aload_n 0, 1) := by decide +kernel
theorem dX6_wrong_18 : decode cX6_wrong 18 = .ok (.getfield 114, 3) := by decide +kernel
theorem dX6_wrong_21 : decode cX6_wrong 21 = .ok (.putfield 117, 3) := by decide +kernel
theorem dX6_wrong_24 : decode cX6_wrong 24 = .ok (.return_, 1) := by decide +kernel
theorem dX6_readsNumber_0 : decode cX6_readsNumber 0 = .ok (.aload_n 0, 1) := by decide +kernel
theorem dX6_readsNumber_1 : decode cX6_readsNumber 1 = .ok (.invokevirtual 120, 3) := by decide +kernel
theorem dX6_readsNumber_4 : decode cX6_readsNumber 4 = .ok (.bipush 48, 2) := by decide +kernel
theorem dX6_readsNumber_6 : decode cX6_readsNumber 6 = .ok (.bipush 57, 2) := by decide +kernel
theorem dX6_readsNumber_8 : decode cX6_readsNumber 8 = .ok (.invokestatic 31, 3) := by decide +kernel
theorem dX6_readsNumber_11 : decode cX6_readsNumber 11 = .ok (.ifCond .ne 5, 3) := by decide +kernel
theorem dX6_readsNumber_14 : decode cX6_readsNumber 14 = .ok (.iconst 0, 1) := by decide +kernel
theorem dX6_readsNumber_15 : decode cX6_readsNumber 15 = .ok (.ireturn, 1) := by decide +kernel
theorem dX6_readsNumber_16 : decode cX6_readsNumber 16 = .ok (.aload_n 0, 1) := by decide +kernel
theorem dX6_readsNumber_17 : decode cX6_readsNumber 17 = .ok (.getfield 108, 3) := by decide +kernel
theorem dX6_readsNumber_20 : decode cX6_readsNumber 20 = .ok (.istore_n 1, 1) := by decide +kernel
theorem dX6_readsNumber_21 : decode cX6_readsNumber 21 = .ok (.aload_n 0, 1) := by decide +kernel
theorem dX6_readsNumber_22 : decode cX6_readsNumber 22 = .ok (.iconst 0, 1) := by decide +kernel
theorem dX6_readsNumber_23 : decode cX6_readsNumber 23 = .ok (.putfield 124, 3) := by decide +kernel
theorem dX6_readsNumber_26 : decode cX6_readsNumber 26 = .ok (.aload_n 0, 1) := by decide +kernel
theorem dX6_readsNumber_27 : decode cX6_readsNumber 27 = .ok (.getfield 108, 3) := by decide +kernel
theorem dX6_readsNumber_30 : decode cX6_readsNumber 30 = .ok (.aload_n 0, 1) := by decide +kernel
theorem dX6_readsNumber_31 : decode cX6_readsNumber 31 = .ok (.getfield 105, 3) := by decide +kernel
theorem dX6_readsNumber_34 : decode cX6_readsNumber 34 = .ok (.if_icmp .ge 84, 3) := by decide +kernel
theorem dX6_readsNumber_37 : decode cX6_readsNumber 37 = .ok (.aload_n 0, 1) := by decide +kernel
theorem dX6_readsNumber_38 : decode cX6_readsNumber 38 = .ok (.getfield 14, 3) := by decide +kernel
theorem dX6_readsNumber_41 : decode cX6_readsNumber 41 = .ok (.aload_n 0, 1) := by decide +kernel
theorem dX6_readsNumber_42 : decode cX6_readsNumber 42 = .ok (.getfield 108, 3) := by decide +kernel
theorem dX6_readsNumber_45 : decode cX6_readsNumber 45 = .ok (.iaload, 1) := by decide +kernel
theorem dX6_readsNumber_46 : decode cX6_readsNumber 46 = .ok (.bipush 48, 2) := by decide +kernel
theorem dX6_readsNumber_48 : decode cX6_readsNumber 48 = .ok (.bipush 57, 2) := by decide +kernel
theorem dX6_readsNumber_50 : decode cX6_readsNumber 50 = .ok (.invokestatic 31, 3) := by decide +kernel
theorem dX6_readsNumber_53 : decode cX6_readsNumber 53 = .ok (.ifCond .eq 65, 3) := by decide +kernel
theorem dX6_readsNumber_56 : decode cX6_readsNumber 56 = .ok (.aload_n 0, 1) := by decide +kernel
theorem dX6_readsNumber_57 : decode cX6_readsNumber 57 = .ok (.getfield 108, 3) := by decide +kernel
theorem dX6_readsNumber_60 : decode cX6_readsNumber 60 = .ok (.iload_n 1, 1) := by decide +kernel
theorem dX6_readsNumber_61 : decode cX6_readsNumber 61 = .ok (.isub, 1) := by decide +kernel
theorem dX6_readsNumber_62 : decode cX6_readsNumber 62 = .ok (.iconst 3, 1) := by decide +kernel
theorem dX6_readsNumber_63 : decode cX6_readsNumber 63 = .ok (.if_icmp .ge 55, 3) := by decide +kernel
theorem dX6_readsNumber_66 : decode cX6_readsNumber 66 = .ok (.aload_n 0, 1) := by decide +kernel
theorem dX6_readsNumber_67 : decode cX6_readsNumber 67 = .ok (.getfield 108, 3) := by decide +kernel
theorem dX6_readsNumber_70 : decode cX6_readsNumber 70 = .ok (.iload_n 1, 1) := by decide +kernel
theorem dX6_readsNumber_71 : decode cX6_readsNumber 71 = .ok (.if_icmp .eq 10, 3) := by decide +kernel
theorem dX6_readsNumber_74 : decode cX6_readsNumber 74 = .ok (.aload_n 0, 1) := by decide +kernel
theorem dX6_readsNumber_75 : decode cX6_readsNumber 75 = .ok (.getfield 124, 3) := by decide +kernel
theorem dX6_readsNumber_78 : decode cX6_readsNumber 78 = .ok (.ifCond .le 40, 3) := by decide +kernel
theorem dX6_readsNumber_81 : decode cX6_readsNumber 81 = .ok (.aload_n 0, 1) := by decide +kernel
theorem dX6_readsNumber_82 : decode cX6_readsNumber 82 = .ok (.bipush 10, 2) := by decide +kernel
theorem dX6_readsNumber_84 : decode cX6_readsNumber 84 = .ok (.aload_n 0, 1) := by decide +kernel
theorem dX6_readsNumber_85 : decode cX6_readsNumber 85 = .ok (.getfield 124, 3) := by decide +kernel
theorem dX6_readsNumber_88 : decode cX6_readsNumber 88 = .ok (.imul, 1) := by decide +kernel
theorem dX6_readsNumber_89 : decode cX6_readsNumber 89 = .ok (.aload_n 0, 1) := by decide +kernel
theorem dX6_readsNumber_90 : decode cX6_readsNumber 90 = .ok (.getfield 14, 3) := by decide +kernel
theorem dX6_readsNumber_93 : decode cX6_readsNumber 93 = .ok (.aload_n 0, 1) := by decide +kernel
theorem dX6_readsNumber_94 : decode cX6_readsNumber 94 = .ok (.getfield 108, 3) := by decide +kernel
theorem dX6_readsNumber_97 : decode cX6_readsNumber 97 = .ok (.iaload, 1) := by decide +kernel
theorem dX6_readsNumber_98 : decode cX6_readsNumber 98 = .ok (.iadd, 1) := by decide +kernel
theorem dX6_readsNumber_99 : decode cX6_readsNumber 99 = .ok (.bipush 48, 2) := by decide +kernel
theorem dX6_readsNumber_101 : decode cX6_readsNumber 101 = .ok (.isub, 1) := by decide +kernel
theorem dX6_readsNumber_102 : decode cX6_readsNumber 102 = .ok (.putfield 124, 3) := by decide +kernel
theorem dX6_readsNumber_105 : decode cX6_readsNumber 105 = .ok (.aload_n 0, 1) := by decide +kernel
theorem dX6_readsNumber_106 : decode cX6_readsNumber 106 = .ok (.dup, 1) := by decide +kernel
theorem dX6_readsNumber_107 : decode cX6_readsNumber 107 = .ok (.getfield 108, 3) := by decide +kernel
theorem dX6_readsNumber_110 : decode cX6_readsNumber 110 = .ok (.iconst 1, 1) := by decide +kernel
theorem dX6_readsNumber_111 : decode cX6_readsNumber 111 = .ok (.iadd, 1) := by decide +kernel
theorem dX6_readsNumber_112 : decode cX6_readsNumber 112 = .ok (.putfield 108, 3) := by decide +kernel
theorem dX6_readsNumber_115 : decode cX6_readsNumber 115 = .ok (.goto (-89), 3) := by decide +kernel
theorem dX6_readsNumber_118 : decode cX6_readsNumber 118 = .ok (.aload_n 0, 1) := by decide +kernel
theorem dX6_readsNumber_119 : decode cX6_readsNumber 119 = .ok (.getfield 108, 3) := by decide +kernel
theorem dX6_readsNumber_122 : decode cX6_readsNumber 122 = .ok (.aload_n 0, 1) := by decide +kernel
theorem dX6_readsNumber_123 : decode cX6_readsNumber 123 = .ok (.getfield 105, 3) := by decide +kernel
theorem dX6_readsNumber_126 : decode cX6_readsNumber 126 = .ok (.if_icmp .eq 22, 3) := by decide +kernel
theorem dX6_readsNumber_129 : decode cX6_readsNumber 129 = .ok (.aload_n 0, 1) := by decide +kernel
theorem dX6_readsNumber_130 : decode cX6_readsNumber 130 = .ok (.getfield 14, 3) := by decide +kernel
theorem dX6_readsNumber_133 : decode cX6_readsNumber 133 = .ok (.aload_n 0, 1) := by decide +kernel
theorem dX6_readsNumber_134 : decode cX6_readsNumber 134 = .ok (.getfield 108, 3) := by decide +kernel
theorem dX6_readsNumber_137 : decode cX6_readsNumber 137 = .ok (.iaload, 1) := by decide +kernel
theorem dX6_readsNumber_138 : decode cX6_readsNumber 138 = .ok (.bipush 48, 2) := by decide +kernel
theorem dX6_readsNumber_140 : decode cX6_readsNumber 140 = .ok (.bipush 57, 2) := by decide +kernel
theorem dX6_readsNumber_142 : decode cX6_readsNumber 142 = .ok (.invokestatic 31, 3) := by decide +kernel
theorem dX6_readsNumber_145 : decode cX6_readsNumber 145 = .ok (.ifCond .ne 7, 3) := by decide +kernel
theorem dX6_readsNumber_148 : decode cX6_readsNumber 148 = .ok (.iconst 1, 1) := by decide +kernel
theorem dX6_readsNumber_149 : decode cX6_readsNumber 149 = .ok (.goto 4, 3) := by decide +kernel
theorem dX6_readsNumber_152 : decode cX6_readsNumber 152 = .ok (.iconst 0, 1) := by decide +kernel
theorem dX6_readsNumber_153 : decode cX6_readsNumber 153 = .ok (.ireturn, 1) := by decide +kernel
theorem dX6_push__0 : decode cX6_push_ 0 = .ok (.aload_n 0, 1) := by decide +kernel
theorem dX6_push__1 : decode cX6_push_ 1 = .ok (.getfield 20, 3) := by decide +kernel
theorem dX6_push__4 : decode cX6_push_ 4 = .ok (.aload_n 0, 1) := by decide +kernel
theorem dX6_push__5 : decode cX6_push_ 5 = .ok (.getfield 127, 3) := by decide +kernel
theorem dX6_push__8 : decode cX6_push_ 8 = .ok (.iload_n 1, 1) := by decide +kernel
theorem dX6_push__9 : decode cX6_push_ 9 = .ok (.iastore, 1) := by decide +kernel
theorem dX6_push__10 : decode cX6_push_ 10 = .ok (.aload_n 0, 1) := by decide +kernel
theorem dX6_push__11 : decode cX6_push_ 11 = .ok (.dup, 1) := by decide +kernel
theorem dX6_push__12 : decode cX6_push_ 12 = .ok (.getfield 127, 3) := by decide +kernel
theorem dX6_push__15 : decode cX6_push_ 15 = .ok (.iconst 1, 1) := by decide +kernel
theorem dX6_push__16 : decode cX6_push_ 16 = .ok (.iadd, 1) := by decide +kernel
theorem dX6_push__17 : decode cX6_push_ 17 = .ok (.putfield 127, 3) := by decide +kernel
theorem dX6_push__20 : decode cX6_push_ 20 = .ok (.aload_n 0, 1) := by decide +kernel
theorem dX6_push__21 : decode cX6_push_ 21 = .ok (.dup, 1) := by decide +kernel
theorem dX6_push__22 : decode cX6_push_ 22 = .ok (.getfield 114, 3) := by decide +kernel
theorem dX6_push__25 : decode cX6_push_ 25 = .ok (.iload_n 1, 1) := by decide +kernel
theorem dX6_push__26 : decode cX6_push_ 26 = .ok (.bipush 40, 2) := by decide +kernel
theorem dX6_push__28 : decode cX6_push_ 28 = .ok (.if_icmp .eq 9, 3) := by decide +kernel
theorem dX6_push__31 : decode cX6_push_ 31 = .ok (.iload_n 1, 1) := by decide +kernel
theorem dX6_push__32 : decode cX6_push_ 32 = .ok (.bipush 126, 2) := by decide +kernel
theorem dX6_push__34 : decode cX6_push_ 34 = .ok (.if_icmp .ne 7, 3) := by decide +kernel
theorem dX6_push__37 : decode cX6_push_ 37 = .ok (.iconst 1, 1) := by decide +kernel
theorem dX6_push__38 : decode cX6_push_ 38 = .ok (.goto 4, 3) := by decide +kernel
theorem dX6_push__41 : decode cX6_push_ 41 = .ok (.iconst 0, 1) := by decide +kernel
theorem dX6_push__42 : decode cX6_push_ 42 = .ok (.iadd, 1) := by decide +kernel
theorem dX6_push__43 : decode cX6_push_ 43 = .ok (.putfield 114, 3) := by decide +kernel
theorem dX6_push__46 : decode cX6_push_ 46 = .ok (.return_, 1) := by decide +kernel
theorem dX6_pop_0 : decode cX6_pop 0 = .ok (.aload_n 0, 1) := by decide +kernel
theorem dX6_pop_1 : decode cX6_pop 1 = .ok (.dup, 1) := by decide +kernel
theorem dX6_pop_2 : decode cX6_pop 2 = .ok (.getfield 127, 3) := by decide +kernel
theorem dX6_pop_5 : decode cX6_pop 5 = .ok (.iconst 1, 1) := by decide +kernel
theorem dX6_pop_6 : decode cX6_pop 6 = .ok (.isub, 1) := by decide +kernel
theorem dX6_pop_7 : decode cX6_pop 7 = .ok (.putfield 127, 3) := by decide +kernel
theorem dX6_pop_10 : decode cX6_pop 10 = .ok (.aload_n 0, 1) := by decide +kernel
theorem dX6_pop_11 : decode cX6_pop 11 = .ok (.dup, 1) := by decide +kernel
theorem dX6_pop_12 : decode cX6_pop 12 = .ok (.getfield 114, 3) := by decide +kernel
theorem dX6_pop_15 : decode cX6_pop 15 = .ok (.aload_n 0, 1) := by decide +kernel
theorem dX6_pop_16 : decode cX6_pop 16 = .ok (.getfield 20, 3) := by decide +kernel
theorem dX6_pop_19 : decode cX6_pop 19 = .ok (.aload_n 0, 1) := by decide +kernel
theorem dX6_pop_20 : decode cX6_pop 20 = .ok (.getfield 127, 3) := by decide +kernel
theorem dX6_pop_23 : decode cX6_pop 23 = .ok (.iaload, 1) := by decide +kernel
theorem dX6_pop_24 : decode cX6_pop 24 = .ok (.bipush 40, 2) := by decide +kernel
theorem dX6_pop_26 : decode cX6_pop 26 = .ok (.if_icmp .eq 17, 3) := by decide +kernel
theorem dX6_pop_29 : decode cX6_pop 29 = .ok (.aload_n 0, 1) := by decide +kernel
theorem dX6_pop_30 : decode cX6_pop 30 = .ok (.getfield 20, 3) := by decide +kernel
theorem dX6_pop_33 : decode cX6_pop 33 = .ok (.aload_n 0, 1) := by decide +kernel
theorem dX6_pop_34 : decode cX6_pop 34 = .ok (.getfield 127, 3) := by decide +kernel
theorem dX6_pop_37 : decode cX6_pop 37 = .ok (.iaload, 1) := by decide +kernel
theorem dX6_pop_38 : decode cX6_pop 38 = .ok (.bipush 126, 2) := by decide +kernel
theorem dX6_pop_40 : decode cX6_pop 40 = .ok (.if_icmp .ne 7, 3) := by decide +kernel
theorem dX6_pop_43 : decode cX6_pop 43 = .ok (.iconst 1, 1) := by decide +kernel
theorem dX6_pop_44 : decode cX6_pop 44 = .ok (.goto 4, 3) := by decide +kernel
theorem dX6_pop_47 : decode cX6_pop 47 = .ok (.iconst 0, 1) := by decide +kernel
theorem dX6_pop_48 : decode cX6_pop 48 = .ok (.isub, 1) := by decide +kernel
theorem dX6_pop_49 : decode cX6_pop 49 = .ok (.putfield 114, 3) := by decide +kernel
theorem dX6_pop_52 : decode cX6_pop 52 = .ok (.aload_n 0, 1) := by decide +kernel
theorem dX6_pop_53 : decode cX6_pop 53 = .ok (.getfield 20, 3) := by decide +kernel
theorem dX6_pop_56 : decode cX6_pop 56 = .ok (.aload_n 0, 1) := by decide +kernel
theorem dX6_pop_57 : decode cX6_pop 57 = .ok (.getfield 127, 3) := by decide +kernel
theorem dX6_pop_60 : decode cX6_pop 60 = .ok (.iaload, 1) := by decide +kernel
theorem dX6_pop_61 : decode cX6_pop 61 = .ok (.ireturn, 1) := by decide +kernel
theorem dX6_top_0 : decode cX6_top 0 = .ok (.aload_n 0, 1) := by decide +kernel
theorem dX6_top_1 : decode cX6_top 1 = .ok (.getfield 127, 3) := by decide +kernel
theorem dX6_top_4 : decode cX6_top 4 = .ok (.ifCond .ne 7, 3) := by decide +kernel
theorem dX6_top_7 : decode cX6_top 7 = .ok (.iconst 0, 1) := by decide +kernel
theorem dX6_top_8 : decode cX6_top 8 = .ok (.goto 14, 3) := by decide +kernel
theorem dX6_top_11 : decode cX6_top 11 = .ok (.aload_n 0, 1) := by decide +kernel
theorem dX6_top_12 : decode cX6_top 12 = .ok (.getfield 20, 3) := by decide +kernel
theorem dX6_top_15 : decode cX6_top 15 = .ok (.aload_n 0, 1) := by decide +kernel
theorem dX6_top_16 : decode cX6_top 16 = .ok (.getfield 127, 3) := by decide +kernel
theorem dX6_top_19 : decode cX6_top 19 = .ok (.iconst 1, 1) := by decide +kernel
theorem dX6_top_20 : decode cX6_top 20 = .ok (.isub, 1) := by decide +kernel
theorem dX6_top_21 : decode cX6_top 21 = .ok (.iaload, 1) := by decide +kernel
theorem dX6_top_22 : decode cX6_top 22 = .ok (.ireturn, 1) := by decide +kernel
