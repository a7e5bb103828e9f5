theorem dX0_init_0 : decode cX0_init 0 = .ok (.aload_n 0, 1) := by decide +kernel
theorem dX0_init_1 : decode cX0_init 1 = .ok (.invokespecial 3, 3) := by decide +kernel
theorem dX0_init_4 : decode cX0_init 4 = .ok (.aload_n 0, 1) := by decide +kernel
theorem dX0_init_5 : decode cX0_init 5 = .ok (.bipush 40, 2) := by decide +kernel
theorem dX0_init_7 : decode cX0_init 7 = .ok (.newarray .int, 2) := by decide +kernel
theorem dX0_init_9 : decode cX0_init 9 = .ok (.putfield 9, 3) := by decide +kernel
theorem dX0_init_12 : decode cX0_init 12 = .ok (.return_, 1) := by decide +kernel
theorem dX0_groupCount_0 : decode cX0_groupCount 0 = .ok (.aload_n 0, 1) := by decide +kernel
theorem dX0_groupCount_1 : decode cX0_groupCount 1 = .ok (.getfield 15, 3) := by decide +kernel
theorem dX0_groupCount_4 : decode cX0_groupCount 4 = .ok (.bipush 15, 2) := by decide +kernel
theorem dX0_groupCount_6 : decode cX0_groupCount 6 = .ok (.iadd, 1) := by decide +kernel
theorem dX0_groupCount_7 : decode cX0_groupCount 7 = .ok (.iconst 1, 1) := by decide +kernel
theorem dX0_groupCount_8 : decode cX0_groupCount 8 = .ok (.isub, 1) := by decide +kernel
theorem dX0_groupCount_9 : decode cX0_groupCount 9 = .ok (.bipush 15, 2) := by decide +kernel
theorem dX0_groupCount_11 : decode cX0_groupCount 11 = .ok (.idiv, 1) := by decide +kernel
theorem dX0_groupCount_12 : decode cX0_groupCount 12 = .ok (.ireturn, 1) := by decide +kernel
theorem dX0_groupAt_0 : decode cX0_groupAt 0 = .ok (.iload_n 1, 1) := by decide +kernel
theorem dX0_groupAt_1 : decode cX0_groupAt 1 = .ok (.ifCond .lt 21, 3) := by decide +kernel
theorem dX0_groupAt_4 : decode cX0_groupAt 4 = .ok (.iload_n 1, 1) := by decide +kernel
theorem dX0_groupAt_5 : decode cX0_groupAt 5 = .ok (.aload_n 0, 1) := by decide +kernel
theorem dX0_groupAt_6 : decode cX0_groupAt 6 = .ok (.getfield 9, 3) := by decide +kernel
theorem dX0_groupAt_9 : decode cX0_groupAt 9 = .ok (.arraylength, 1) := by decide +kernel
theorem dX0_groupAt_10 : decode cX0_groupAt 10 = .ok (.if_icmp .ge 12, 3) := by decide +kernel
theorem dX0_groupAt_13 : decode cX0_groupAt 13 = .ok (.aload_n 0, 1) := by decide +kernel
theorem dX0_groupAt_14 : decode cX0_groupAt 14 = .ok (.getfield 9, 3) := by decide +kernel
theorem dX0_groupAt_17 : decode cX0_groupAt 17 = .ok (.iload_n 1, 1) := by decide +kernel
theorem dX0_groupAt_18 : decode cX0_groupAt 18 = .ok (.iaload, 1) := by decide +kernel
theorem dX0_groupAt_19 : decode cX0_groupAt 19 = .ok (.goto 4, 3) := by decide +kernel
theorem dX0_groupAt_22 : decode cX0_groupAt 22 = .ok (.iconst 0, 1) := by decide +kernel
theorem dX0_groupAt_23 : decode cX0_groupAt 23 = .ok (.ireturn, 1) := by decide +kernel
theorem dX0_valueAt_0 : decode cX0_valueAt 0 = .ok (.aload_n 0, 1) := by decide +kernel
theorem dX0_valueAt_1 : decode cX0_valueAt 1 = .ok (.iload_n 1, 1) := by decide +kernel
theorem dX0_valueAt_2 : decode cX0_valueAt 2 = .ok (.bipush 15, 2) := by decide +kernel
theorem dX0_valueAt_4 : decode cX0_valueAt 4 = .ok (.idiv, 1) := by decide +kernel
theorem dX0_valueAt_5 : decode cX0_valueAt 5 = .ok (.invokevirtual 19, 3) := by decide +kernel
theorem dX0_valueAt_8 : decode cX0_valueAt 8 = .ok (.iload_n 1, 1) := by decide +kernel
theorem dX0_valueAt_9 : decode cX0_valueAt 9 = .ok (.bipush 15, 2) := by decide +kernel
theorem dX0_valueAt_11 : decode cX0_valueAt 11 = .ok (.irem, 1) := by decide +kernel
theorem dX0_valueAt_12 : decode cX0_valueAt 12 = .ok (.ishr, 1) := by decide +kernel
theorem dX0_valueAt_13 : decode cX0_valueAt 13 = .ok (.iconst 1, 1) := by decide +kernel
theorem dX0_valueAt_14 : decode cX0_valueAt 14 = .ok (.iand, 1) := by decide +kernel
theorem dX0_valueAt_15 : decode cX0_valueAt 15 = .ok (.ireturn, 1) := by decide +kernel
theorem dX0_putAt_0 : decode cX0_putAt 0 = .ok (.iload_n 1, 1) := by decide +kernel
theorem dX0_putAt_1 : decode cX0_putAt 1 = .ok (.bipush 15, 2) := by decide +kernel
theorem dX0_putAt_3 : decode cX0_putAt 3 = .ok (.idiv, 1) := by decide +kernel
theorem dX0_putAt_4 : decode cX0_putAt 4 = .ok (.istore_n 3, 1) := by decide +kernel
theorem dX0_putAt_5 : decode cX0_putAt 5 = .ok (.iload_n 1, 1) := by decide +kernel
theorem dX0_putAt_6 : decode cX0_putAt 6 = .ok (.ifCond .lt 12, 3) := by decide +kernel
theorem dX0_putAt_9 : decode cX0_putAt 9 = .ok (.iload_n 3, 1) := by decide +kernel
theorem dX0_putAt_10 : decode cX0_putAt 10 = .ok (.aload_n 0, 1) := by decide +kernel
theorem dX0_putAt_11 : decode cX0_putAt 11 = .ok (.getfield 9, 3) := by decide +kernel
theorem dX0_putAt_14 : decode cX0_putAt 14 = .ok (.arraylength, 1) := by decide +kernel
theorem dX0_putAt_15 : decode cX0_putAt 15 = .ok (.if_icmp .lt 4, 3) := by decide +kernel
theorem dX0_putAt_18 : decode cX0_putAt 18 = .ok (.return_, 1) := by decide +kernel
theorem dX0_putAt_19 : decode cX0_putAt 19 = .ok (.iconst 1, 1) := by decide +kernel
theorem dX0_putAt_20 : decode cX0_putAt 20 = .ok (.iload_n 1, 1) := by decide +kernel
theorem dX0_putAt_21 : decode cX0_putAt 21 = .ok (.bipush 15, 2) := by decide +kernel
theorem dX0_putAt_23 : decode cX0_putAt 23 = .ok (.irem, 1) := by decide +kernel
theorem dX0_putAt_24 : decode cX0_putAt 24 = .ok (.ishl, 1) := by decide +kernel
theorem dX0_putAt_25 : decode cX0_putAt 25 = .ok (.istore 4, 2) := by decide +kernel
theorem dX0_putAt_27 : decode cX0_putAt 27 = .ok (.aload_n 0, 1) := by decide +kernel
theorem dX0_putAt_28 : decode cX0_putAt 28 = .ok (.getfield 9, 3) := by decide +kernel
theorem dX0_putAt_31 : decode cX0_putAt 31 = .ok (.iload_n 3, 1) := by decide +kernel
theorem dX0_putAt_32 : decode cX0_putAt 32 = .ok (.iload_n 2, 1) := by decide +kernel
theorem dX0_putAt_33 : decode cX0_putAt 33 = .ok (.iconst 1, 1) := by decide +kernel
theorem dX0_putAt_34 : decode cX0_putAt 34 = .ok (.if_icmp .ne 15, 3) := by decide +kernel
theorem dX0_putAt_37 : decode cX0_putAt 37 = .ok (.aload_n 0, 1) := by decide +kernel
theorem dX0_putAt_38 : decode cX0_putAt 38 = .ok (.getfield 9, 3) := by decide +kernel
theorem dX0_putAt_41 : decode cX0_putAt 41 = .ok (.iload_n 3, 1) := by decide +kernel
theorem dX0_putAt_42 : decode cX0_putAt 42 = .ok (.iaload, 1) := by decide +kernel
theorem dX0_putAt_43 : decode cX0_putAt 43 = .ok (.iload 4, 2) := by decide +kernel
theorem dX0_putAt_45 : decode cX0_putAt 45 = .ok (.ior, 1) := by decide +kernel
theorem dX0_putAt_46 : decode cX0_putAt 46 = .ok (.goto 14, 3) := by decide +kernel
theorem dX0_putAt_49 : decode cX0_putAt 49 = .ok (.aload_n 0, 1) := by decide +kernel
theorem dX0_putAt_50 : decode cX0_putAt 50 = .ok (.getfield 9, 3) := by decide +kernel
theorem dX0_putAt_53 : decode cX0_putAt 53 = .ok (.iload_n 3, 1) := by decide +kernel
theorem dX0_putAt_54 : decode cX0_putAt 54 = .ok (.iaload, 1) := by decide +kernel
theorem dX0_putAt_55 : decode cX0_putAt 55 = .ok (.iload 4, 2) := by decide +kernel
theorem dX0_putAt_57 : decode cX0_putAt 57 = .ok (.iconst (-1), 1) := by decide +kernel
theorem dX0_putAt_58 : decode cX0_putAt 58 = .ok (.ixor, 1) := by decide +kernel
theorem dX0_putAt_59 : decode cX0_putAt 59 = .ok (.iand, 1) := by decide +kernel
theorem dX0_putAt_60 : decode cX0_putAt 60 = .ok (.iastore, 1) := by decide +kernel
theorem dX0_putAt_61 : decode cX0_putAt 61 = .ok (.return_, 1) := by decide +kernel
theorem dX0_copyFrom_0 : decode cX0_copyFrom 0 = .ok (.aload_n 1, 1) := by decide +kernel
theorem dX0_copyFrom_1 : decode cX0_copyFrom 1 = .ok (.getfield 9, 3) := by decide +kernel
theorem dX0_copyFrom_4 : decode cX0_copyFrom 4 = .ok (.iconst 0, 1) := by decide +kernel
theorem dX0_copyFrom_5 : decode cX0_copyFrom 5 = .ok (.aload_n 0, 1) := by decide +kernel
theorem dX0_copyFrom_6 : decode cX0_copyFrom 6 = .ok (.getfield 9, 3) := by decide +kernel
theorem dX0_copyFrom_9 : decode cX0_copyFrom 9 = .ok (.iconst 0, 1) := by decide +kernel
theorem dX0_copyFrom_10 : decode cX0_copyFrom 10 = .ok (.bipush 40, 2) := by decide +kernel
theorem dX0_copyFrom_12 : decode cX0_copyFrom 12 = .ok (.invokestatic 23, 3) := by decide +kernel
theorem dX0_copyFrom_15 : decode cX0_copyFrom 15 = .ok (.aload_n 0, 1) := by decide +kernel
theorem dX0_copyFrom_16 : decode cX0_copyFrom 16 = .ok (.aload_n 1, 1) := by decide +kernel
theorem dX0_copyFrom_17 : decode cX0_copyFrom 17 = .ok (.getfield 15, 3) := by decide +kernel
theorem dX0_copyFrom_20 : decode cX0_copyFrom 20 = .ok (.putfield 15, 3) := by decide +kernel
theorem dX0_copyFrom_23 : decode cX0_copyFrom 23 = .ok (.return_, 1) := by decide +kernel
theorem dX0_cutTo_0 : decode cX0_cutTo 0 = .ok (.iconst 0, 1) := by decide +kernel
theorem dX0_cutTo_1 : decode cX0_cutTo 1 = .ok (.istore_n 2, 1) := by decide +kernel
theorem dX0_cutTo_2 : decode cX0_cutTo 2 = .ok (.iload_n 2, 1) := by decide +kernel
theorem dX0_cutTo_3 : decode cX0_cutTo 3 = .ok (.aload_n 0, 1) := by decide +kernel
theorem dX0_cutTo_4 : decode cX0_cutTo 4 = .ok (.getfield 9, 3) := by decide +kernel
theorem dX0_cutTo_7 : decode cX0_cutTo 7 = .ok (.arraylength, 1) := by decide +kernel
theorem dX0_cutTo_8 : decode cX0_cutTo 8 = .ok (.if_icmp .ge 23, 3) := by decide +kernel
theorem dX0_cutTo_11 : decode cX0_cutTo 11 = .ok (.aload_n 0, 1) := by decide +kernel
theorem dX0_cutTo_12 : decode cX0_cutTo 12 = .ok (.getfield 9, 3) := by decide +kernel
theorem dX0_cutTo_15 : decode cX0_cutTo 15 = .ok (.iload_n 2, 1) := by decide +kernel
theorem dX0_cutTo_16 : decode cX0_cutTo 16 = .ok (.dup2, 1) := by decide +kernel
theorem dX0_cutTo_17 : decode cX0_cutTo 17 = .ok (.iaload, 1) := by decide +kernel
theorem dX0_cutTo_18 : decode cX0_cutTo 18 = .ok (.iload_n 1, 1) := by decide +kernel
theorem dX0_cutTo_19 : decode cX0_cutTo 19 = .ok (.iload_n 2, 1) := by decide +kernel
theorem dX0_cutTo_20 : decode cX0_cutTo 20 = .ok (.invokestatic 29, 3) := by decide +kernel
theorem dX0_cutTo_23 : decode cX0_cutTo 23 = .ok (.iand, 1) := by decide +kernel
theorem dX0_cutTo_24 : decode cX0_cutTo 24 = .ok (.iastore, 1) := by decide +kernel
theorem dX0_cutTo_25 : decode cX0_cutTo 25 = .ok (.iinc 2 1, 3) := by decide +kernel
theorem dX0_cutTo_28 : decode cX0_cutTo 28 = .ok (.goto (-26), 3) := by decide +kernel
theorem dX0_cutTo_31 : decode cX0_cutTo 31 = .ok (.aload_n 0, 1) := by decide +kernel
theorem dX0_cutTo_32 : decode cX0_cutTo 32 = .ok (.iload_n 1, 1) := by decide +kernel
theorem dX0_cutTo_33 : decode cX0_cutTo 33 = .ok (.putfield 15, 3) := by decide +kernel
theorem dX0_cutTo_36 : decode cX0_cutTo 36 = .ok (.return_, 1) := by decide +kernel
theorem dX0_addRun_0 : decode cX0_addRun 0 = .ok (.aload_n 0, 1) := by decide +kernel
theorem dX0_addRun_1 : decode cX0_addRun 1 = .ok (.getfield 15, 3) := by decide +kernel
theorem dX0_addRun_4 : decode cX0_addRun 4 = .ok (.iload_n 2, 1) := by decide +kernel
theorem dX0_addRun_5 : decode cX0_addRun 5 = .ok (.iadd, 1) := by decide +kernel
theorem dX0_addRun_6 : decode cX0_addRun 6 = .ok (.istore_n 3, 1) := by decide +kernel
theorem dX0_addRun_7 : decode cX0_addRun 7 = .ok (.iload_n 1, 1) := by decide +kernel
theorem dX0_addRun_8 : decode cX0_addRun 8 = .ok (.iconst 1, 1) := by decide +kernel
theorem dX0_addRun_9 : decode cX0_addRun 9 = .ok (.if_icmp .ne 50, 3) := by decide +kernel
theorem dX0_addRun_12 : decode cX0_addRun 12 = .ok (.iconst 0, 1) := by decide +kernel
theorem dX0_addRun_13 : decode cX0_addRun 13 = .ok (.istore 4, 2) := by decide +kernel
theorem dX0_addRun_15 : decode cX0_addRun 15 = .ok (.iload 4, 2) := by decide +kernel
theorem dX0_addRun_17 : decode cX0_addRun 17 = .ok (.aload_n 0, 1) := by decide +kernel
theorem dX0_addRun_18 : decode cX0_addRun 18 = .ok (.getfield 9, 3) := by decide +kernel
theorem dX0_addRun_21 : decode cX0_addRun 21 = .ok (.arraylength, 1) := by decide +kernel
theorem dX0_addRun_22 : decode cX0_addRun 22 = .ok (.if_icmp .ge 37, 3) := by decide +kernel
theorem dX0_addRun_25 : decode cX0_addRun 25 = .ok (.aload_n 0, 1) := by decide +kernel
theorem dX0_addRun_26 : decode cX0_addRun 26 = .ok (.getfield 9, 3) := by decide +kernel
theorem dX0_addRun_29 : decode cX0_addRun 29 = .ok (.iload 4, 2) := by decide +kernel
theorem dX0_addRun_31 : decode cX0_addRun 31 = .ok (.dup2, 1) := by decide +kernel
theorem dX0_addRun_32 : decode cX0_addRun 32 = .ok (.iaload, 1) := by decide +kernel
theorem dX0_addRun_33 : decode cX0_addRun 33 = .ok (.iload_n 3, 1) := by decide +kernel
theorem dX0_addRun_34 : decode cX0_addRun 34 = .ok (.iload 4, 2) := by decide +kernel
theorem dX0_addRun_36 : decode cX0_addRun 36 = .ok (.invokestatic 29, 3) := by decide +kernel
theorem dX0_addRun_39 : decode cX0_addRun 39 = .ok (.aload_n 0, 1) := by decide +kernel
theorem dX0_addRun_40 : decode cX0_addRun 40 = .ok (.getfield 15, 3) := by decide +kernel
theorem dX0_addRun_43 : decode cX0_addRun 43 = .ok (.iload 4, 2) := by decide +kernel
theorem dX0_addRun_45 : decode cX0_addRun 45 = .ok (.invokestatic 29, 3) := by decide +kernel
theorem dX0_addRun_48 : decode cX0_addRun 48 = .ok (.iconst (-1), 1) := by decide +kernel
theorem dX0_addRun_49 : decode cX0_addRun 49 = .ok (.ixor, 1) := by decide +kernel
theorem dX0_addRun_50 : decode cX0_addRun 50 = .ok (.iand, 1) := by decide +kernel
theorem dX0_addRun_51 : decode cX0_addRun 51 = .ok (.ior, 1) := by decide +kernel
theorem dX0_addRun_52 : decode cX0_addRun 52 = .ok (.iastore, 1) := by decide +kernel
theorem dX0_addRun_53 : decode cX0_addRun 53 = .ok (.iinc 4 1, 3) := by decide +kernel
theorem dX0_addRun_56 : decode cX0_addRun 56 = .ok (.goto (-41), 3) := by decide +kernel
theorem dX0_addRun_59 : decode cX0_addRun 59 = .ok (.aload_n 0, 1) := by decide +kernel
theorem dX0_addRun_60 : decode cX0_addRun 60 = .ok (.iload_n 3, 1) := by decide +kernel
theorem dX0_addRun_61 : decode cX0_addRun 61 = .ok (.putfield 15, 3) := by decide +kernel
theorem dX0_addRun_64 : decode cX0_addRun 64 = .ok (.return_, 1) := by decide +kernel
theorem dX0_addNumber_0 : decode cX0_addNumber 0 = .ok (.iconst 0, 1) := by decide +kernel
theorem dX0_addNumber_1 : decode cX0_addNumber 1 = .ok (.istore_n 3, 1) := by decide +kernel
theorem dX0_addNumber_2 : decode cX0_addNumber 2 = .ok (.iload_n 3, 1) := by decide +kernel
theorem dX0_addNumber_3 : decode cX0_addNumber 3 = .ok (.iload_n 2, 1) := by decide +kernel
theorem dX0_addNumber_4 : decode cX0_addNumber 4 = .ok (.if_icmp .ge 24, 3) := by decide +kernel
theorem dX0_addNumber_7 : decode cX0_addNumber 7 = .ok (.aload_n 0, 1) := by decide +kernel
theorem dX0_addNumber_8 : decode cX0_addNumber 8 = .ok (.aload_n 0, 1) := by decide +kernel
theorem dX0_addNumber_9 : decode cX0_addNumber 9 = .ok (.getfield 15, 3) := by decide +kernel
theorem dX0_addNumber_12 : decode cX0_addNumber 12 = .ok (.iload_n 3, 1) := by decide +kernel
theorem dX0_addNumber_13 : decode cX0_addNumber 13 = .ok (.iadd, 1) := by decide +kernel
theorem dX0_addNumber_14 : decode cX0_addNumber 14 = .ok (.iload_n 1, 1) := by decide +kernel
theorem dX0_addNumber_15 : decode cX0_addNumber 15 = .ok (.iload_n 3, 1) := by decide +kernel
theorem dX0_addNumber_16 : decode cX0_addNumber 16 = .ok (.ishr, 1) := by decide +kernel
theorem dX0_addNumber_17 : decode cX0_addNumber 17 = .ok (.iconst 1, 1) := by decide +kernel
theorem dX0_addNumber_18 : decode cX0_addNumber 18 = .ok (.iand, 1) := by decide +kernel
theorem dX0_addNumber_19 : decode cX0_addNumber 19 = .ok (.invokevirtual 33, 3) := by decide +kernel
theorem dX0_addNumber_22 : decode cX0_addNumber 22 = .ok (.iinc 3 1, 3) := by decide +kernel
theorem dX0_addNumber_25 : decode cX0_addNumber 25 = .ok (.goto (-23), 3) := by decide +kernel
theorem dX0_addNumber_28 : decode cX0_addNumber 28 = .ok (.aload_n 0, 1) := by decide +kernel
theorem dX0_addNumber_29 : decode cX0_addNumber 29 = .ok (.dup, 1) := by decide +kernel
theorem dX0_addNumber_30 : decode cX0_addNumber 30 = .ok (.getfield 15, 3) := by decide +kernel
theorem dX0_addNumber_33 : decode cX0_addNumber 33 = .ok (.iload_n 2, 1) := by decide +kernel
theorem dX0_addNumber_34 : decode cX0_addNumber 34 = .ok (.iadd, 1) := by decide +kernel
theorem dX0_addNumber_35 : decode cX0_addNumber 35 = .ok (.putfield 15, 3) := by decide +kernel
theorem dX0_addNumber_38 : decode cX0_addNumber 38 = .ok (.return_, 1) := by decide +kernel
theorem dX0_invert_0 : decode cX0_invert 0 = .ok (.iconst 0, 1) := by decide +kernel
theorem dX0_invert_1 : decode cX0_invert 1 = .ok (.istore_n 1, 1) := by decide +kernel
theorem dX0_invert_2 : decode cX0_invert 2 = .ok (.iload_n 1, 1) := by decide +kernel
theorem dX0_invert_3 : decode cX0_invert 3 = .ok (.aload_n 0, 1) := by decide +kernel
theorem dX0_invert_4 : decode cX0_invert 4 = .ok (.getfield 9, 3) := by decide +kernel
theorem dX0_invert_7 : decode cX0_invert 7 = .ok (.arraylength, 1) := by decide +kernel
theorem dX0_invert_8 : decode cX0_invert 8 = .ok (.if_icmp .ge 26, 3) := by decide +kernel
theorem dX0_invert_11 : decode cX0_invert 11 = .ok (.aload_n 0, 1) := by decide +kernel
theorem dX0_invert_12 : decode cX0_invert 12 = .ok (.getfield 9, 3) := by decide +kernel
theorem dX0_invert_15 : decode cX0_invert 15 = .ok (.iload_n 1, 1) := by decide +kernel
theorem dX0_invert_16 : decode cX0_invert 16 = .ok (.dup2, 1) := by decide +kernel
theorem dX0_invert_17 : decode cX0_invert 17 = .ok (.iaload, 1) := by decide +kernel
theorem dX0_invert_18 : decode cX0_invert 18 = .ok (.aload_n 0, 1) := by decide +kernel
theorem dX0_invert_19 : decode cX0_invert 19 = .ok (.getfield 15, 3) := by decide +kernel
theorem dX0_invert_22 : decode cX0_invert 22 = .ok (.iload_n 1, 1) := by decide +kernel
theorem dX0_invert_23 : decode cX0_invert 23 = .ok (.invokestatic 29, 3) := by decide +kernel
theorem dX0_invert_26 : decode cX0_invert 26 = .ok (.ixor, 1) := by decide +kernel
theorem dX0_invert_27 : decode cX0_invert 27 = .ok (.iastore, 1) := by decide +kernel
theorem dX0_invert_28 : decode cX0_invert 28 = .ok (.iinc 1 1, 3) := by decide +kernel
theorem dX0_invert_31 : decode cX0_invert 31 = .ok (.goto (-29), 3) := by decide +kernel
theorem dX0_invert_34 : decode cX0_invert 34 = .ok (.return_, 1) := by decide +kernel
theorem dX0_combine_0 : decode cX0_combine 0 = .ok (.iconst 0, 1) := by decide +kernel
theorem dX0_combine_1 : decode cX0_combine 1 = .ok (.istore 4, 2) := by decide +kernel
theorem dX0_combine_3 : decode cX0_combine 3 = .ok (.iload 4, 2) := by decide +kernel
theorem dX0_combine_5 : decode cX0_combine 5 = .ok (.aload_n 0, 1) := by decide +kernel
theorem dX0_combine_6 : decode cX0_combine 6 = .ok (.getfield 9, 3) := by decide +kernel
theorem dX0_combine_9 : decode cX0_combine 9 = .ok (.arraylength, 1) := by decide +kernel
theorem dX0_combine_10 : decode cX0_combine 10 = .ok (.if_icmp .ge 32, 3) := by decide +kernel
theorem dX0_combine_13 : decode cX0_combine 13 = .ok (.aload_n 0, 1) := by decide +kernel
theorem dX0_combine_14 : decode cX0_combine 14 = .ok (.getfield 9, 3) := by decide +kernel
theorem dX0_combine_17 : decode cX0_combine 17 = .ok (.iload 4, 2) := by decide +kernel
theorem dX0_combine_19 : decode cX0_combine 19 = .ok (.iload_n 1, 1) := by decide +kernel
theorem dX0_combine_20 : decode cX0_combine 20 = .ok (.aload_n 2, 1) := by decide +kernel
theorem dX0_combine_21 : decode cX0_combine 21 = .ok (.iload 4, 2) := by decide +kernel
theorem dX0_combine_23 : decode cX0_combine 23 = .ok (.invokevirtual 19, 3) := by decide +kernel
theorem dX0_combine_26 : decode cX0_combine 26 = .ok (.aload_n 3, 1) := by decide +kernel
theorem dX0_combine_27 : decode cX0_combine 27 = .ok (.iload 4, 2) := by decide +kernel
theorem dX0_combine_29 : decode cX0_combine 29 = .ok (.invokevirtual 19, 3) := by decide +kernel
theorem dX0_combine_32 : decode cX0_combine 32 = .ok (.invokestatic 37, 3) := by decide +kernel
theorem dX0_combine_35 : decode cX0_combine 35 = .ok (.iastore, 1) := by decide +kernel
theorem dX0_combine_36 : decode cX0_combine 36 = .ok (.iinc 4 1, 3) := by decide +kernel
theorem dX0_combine_39 : decode cX0_combine 39 = .ok (.goto (-36), 3) := by decide +kernel
theorem dX0_combine_42 : decode cX0_combine 42 = .ok (.aload_n 0, 1) := by decide +kernel
theorem dX0_combine_43 : decode cX0_combine 43 = .ok (.aload_n 2, 1) := by decide +kernel
theorem dX0_combine_44 : decode cX0_combine 44 = .ok (.getfield 15, 3) := by decide +kernel
theorem dX0_combine_47 : decode cX0_combine 47 = .ok (.aload_n 3, 1) := by decide +kernel
theorem dX0_combine_48 : decode cX0_combine 48 = .ok (.getfield 15, 3) := by decide +kernel
theorem dX0_combine_51 : decode cX0_combine 51 = .ok (.invokestatic 41, 3) := by decide +kernel
theorem dX0_combine_54 : decode cX0_combine 54 = .ok (.putfield 15, 3) := by decide +kernel
theorem dX0_combine_57 : decode cX0_combine 57 = .ok (.return_, 1) := by decide +kernel
theorem dX0_combined_0 : decode cX0_combined 0 = .ok (.iload_n 0, 1) := by decide +kernel
theorem dX0_combined_1 : decode cX0_combined 1 = .ok (.tableswitch 41 0 2 #[27, 31, 35], 27) := by decide +kernel
theorem dX0_combined_28 : decode cX0_combined 28 = .ok (.iload_n 1, 1) := by decide +kernel
theorem dX0_combined_29 : decode cX0_combined 29 = .ok (.iload_n 2, 1) := by decide +kernel
theorem dX0_combined_30 : decode cX0_combined 30 = .ok (.iand, 1) := by decide +kernel
theorem dX0_combined_31 : decode cX0_combined 31 = .ok (.ireturn, 1) := by decide +kernel
theorem dX0_combined_32 : decode cX0_combined 32 = .ok (.iload_n 1, 1) := by decide +kernel
theorem dX0_combined_33 : decode cX0_combined 33 = .ok (.iload_n 2, 1) := by decide +kernel
theorem dX0_combined_34 : decode cX0_combined 34 = .ok (.ior, 1) := by decide +kernel
theorem dX0_combined_35 : decode cX0_combined 35 = .ok (.ireturn, 1) := by decide +kernel
theorem dX0_combined_36 : decode cX0_combined 36 = .ok (.iload_n 1, 1) := by decide +kernel
theorem dX0_combined_37 : decode cX0_combined 37 = .ok (.iload_n 2, 1) := by decide +kernel
theorem dX0_combined_38 : decode cX0_combined 38 = .ok (.iconst (-1), 1) := by decide +kernel
theorem dX0_combined_39 : decode cX0_combined 39 = .ok (.ixor, 1) := by decide +kernel
theorem dX0_combined_40 : decode cX0_combined 40 = .ok (.iand, 1) := by decide +kernel
theorem dX0_combined_41 : decode cX0_combined 41 = .ok (.ireturn, 1) := by decide +kernel
theorem dX0_combined_42 : decode cX0_combined 42 = .ok (.iload_n 1, 1) := by decide +kernel
theorem dX0_combined_43 : decode cX0_combined 43 = .ok (.iload_n 2, 1) := by decide +kernel
theorem dX0_combined_44 : decode cX0_combined 44 = .ok (.ixor, 1) := by decide +kernel
theorem dX0_combined_45 : decode cX0_combined 45 = .ok (.ireturn, 1) := by decide +kernel
theorem dX0_moveFrom_0 : decode cX0_moveFrom 0 = .ok (.iload_n 2, 1) := by decide +kernel
theorem dX0_moveFrom_1 : decode cX0_moveFrom 1 = .ok (.bipush 15, 2) := by decide +kernel
theorem dX0_moveFrom_3 : decode cX0_moveFrom 3 = .ok (.invokestatic 46, 3) := by decide +kernel
theorem dX0_moveFrom_6 : decode cX0_moveFrom 6 = .ok (.istore_n 3, 1) := by decide +kernel
theorem dX0_moveFrom_7 : decode cX0_moveFrom 7 = .ok (.iload_n 2, 1) := by decide +kernel
theorem dX0_moveFrom_8 : decode cX0_moveFrom 8 = .ok (.bipush 15, 2) := by decide +kernel
theorem dX0_moveFrom_10 : decode cX0_moveFrom 10 = .ok (.invokestatic 49, 3) := by decide +kernel
theorem dX0_moveFrom_13 : decode cX0_moveFrom 13 = .ok (.istore 4, 2) := by decide +kernel
theorem dX0_moveFrom_15 : decode cX0_moveFrom 15 = .ok (.iconst 0, 1) := by decide +kernel
theorem dX0_moveFrom_16 : decode cX0_moveFrom 16 = .ok (.istore 5, 2) := by decide +kernel
theorem dX0_moveFrom_18 : decode cX0_moveFrom 18 = .ok (.iload 5, 2) := by decide +kernel
theorem dX0_moveFrom_20 : decode cX0_moveFrom 20 = .ok (.aload_n 0, 1) := by decide +kernel
theorem dX0_moveFrom_21 : decode cX0_moveFrom 21 = .ok (.getfield 9, 3) := by decide +kernel
theorem dX0_moveFrom_24 : decode cX0_moveFrom 24 = .ok (.arraylength, 1) := by decide +kernel
theorem dX0_moveFrom_25 : decode cX0_moveFrom 25 = .ok (.if_icmp .ge 56, 3) := by decide +kernel
theorem dX0_moveFrom_28 : decode cX0_moveFrom 28 = .ok (.aload_n 1, 1) := by decide +kernel
theorem dX0_moveFrom_29 : decode cX0_moveFrom 29 = .ok (.iload 5, 2) := by decide +kernel
theorem dX0_moveFrom_31 : decode cX0_moveFrom 31 = .ok (.iload_n 3, 1) := by decide +kernel
theorem dX0_moveFrom_32 : decode cX0_moveFrom 32 = .ok (.isub, 1) := by decide +kernel
theorem dX0_moveFrom_33 : decode cX0_moveFrom 33 = .ok (.invokevirtual 19, 3) := by decide +kernel
theorem dX0_moveFrom_36 : decode cX0_moveFrom 36 = .ok (.iload 4, 2) := by decide +kernel
theorem dX0_moveFrom_38 : decode cX0_moveFrom 38 = .ok (.ishl, 1) := by decide +kernel
theorem dX0_moveFrom_39 : decode cX0_moveFrom 39 = .ok (.istore 6, 2) := by decide +kernel
theorem dX0_moveFrom_41 : decode cX0_moveFrom 41 = .ok (.aload_n 1, 1) := by decide +kernel
theorem dX0_moveFrom_42 : decode cX0_moveFrom 42 = .ok (.iload 5, 2) := by decide +kernel
theorem dX0_moveFrom_44 : decode cX0_moveFrom 44 = .ok (.iload_n 3, 1) := by decide +kernel
theorem dX0_moveFrom_45 : decode cX0_moveFrom 45 = .ok (.isub, 1) := by decide +kernel
theorem dX0_moveFrom_46 : decode cX0_moveFrom 46 = .ok (.iconst 1, 1) := by decide +kernel
theorem dX0_moveFrom_47 : decode cX0_moveFrom 47 = .ok (.isub, 1) := by decide +kernel
theorem dX0_moveFrom_48 : decode cX0_moveFrom 48 = .ok (.invokevirtual 19, 3) := by decide +kernel
theorem dX0_moveFrom_51 : decode cX0_moveFrom 51 = .ok (.bipush 15, 2) := by decide +kernel
theorem dX0_moveFrom_53 : decode cX0_moveFrom 53 = .ok (.iload 4, 2) := by decide +kernel
theorem dX0_moveFrom_55 : decode cX0_moveFrom 55 = .ok (.isub, 1) := by decide +kernel
theorem dX0_moveFrom_56 : decode cX0_moveFrom 56 = .ok (.ishr, 1) := by decide +kernel
theorem dX0_moveFrom_57 : decode cX0_moveFrom 57 = .ok (.istore 7, 2) := by decide +kernel
theorem dX0_moveFrom_59 : decode cX0_moveFrom 59 = .ok (.aload_n 0, 1) := by decide +kernel
theorem dX0_moveFrom_60 : decode cX0_moveFrom 60 = .ok (.getfield 9, 3) := by decide +kernel
theorem dX0_moveFrom_63 : decode cX0_moveFrom 63 = .ok (.iload 5, 2) := by decide +kernel
theorem dX0_moveFrom_65 : decode cX0_moveFrom 65 = .ok (.iload 6, 2) := by decide +kernel
theorem dX0_moveFrom_67 : decode cX0_moveFrom 67 = .ok (.iload 7, 2) := by decide +kernel
theorem dX0_moveFrom_69 : decode cX0_moveFrom 69 = .ok (.ior, 1) := by decide +kernel
theorem dX0_moveFrom_70 : decode cX0_moveFrom 70 = .ok (.sipush 32767, 3) := by decide +kernel
theorem dX0_moveFrom_73 : decode cX0_moveFrom 73 = .ok (.iand, 1) := by decide +kernel
theorem dX0_moveFrom_74 : decode cX0_moveFrom 74 = .ok (.iastore, 1) := by decide +kernel
theorem dX0_moveFrom_75 : decode cX0_moveFrom 75 = .ok (.iinc 5 1, 3) := by decide +kernel
theorem dX0_moveFrom_78 : decode cX0_moveFrom 78 = .ok (.goto (-60), 3) := by decide +kernel
theorem dX0_moveFrom_81 : decode cX0_moveFrom 81 = .ok (.aload_n 0, 1) := by decide +kernel
theorem dX0_moveFrom_82 : decode cX0_moveFrom 82 = .ok (.iconst 0, 1) := by decide +kernel
theorem dX0_moveFrom_83 : decode cX0_moveFrom 83 = .ok (.sipush 600, 3) := by decide +kernel
theorem dX0_moveFrom_86 : decode cX0_moveFrom 86 = .ok (.aload_n 1, 1) := by decide +kernel
theorem dX0_moveFrom_87 : decode cX0_moveFrom 87 = .ok (.getfield 15, 3) := by decide +kernel
theorem dX0_moveFrom_90 : decode cX0_moveFrom 90 = .ok (.iload_n 2, 1) := by decide +kernel
theorem dX0_moveFrom_91 : decode cX0_moveFrom 91 = .ok (.iadd, 1) := by decide +kernel
theorem dX0_moveFrom_92 : decode cX0_moveFrom 92 = .ok (.invokestatic 52, 3) := by decide +kernel
theorem dX0_moveFrom_95 : decode cX0_moveFrom 95 = .ok (.invokestatic 41, 3) := by decide +kernel
theorem dX0_moveFrom_98 : decode cX0_moveFrom 98 = .ok (.putfield 15, 3) := by decide +kernel
theorem dX0_moveFrom_101 : decode cX0_moveFrom 101 = .ok (.return_, 1) := by decide +kernel
theorem dX0_ones_0 : decode cX0_ones 0 = .ok (.aload_n 0, 1) := by decide +kernel
theorem dX0_ones_1 : decode cX0_ones 1 = .ok (.aload_n 0, 1) := by decide +kernel
theorem dX0_ones_2 : decode cX0_ones 2 = .ok (.getfield 15, 3) := by decide +kernel
theorem dX0_ones_5 : decode cX0_ones 5 = .ok (.invokevirtual 55, 3) := by decide +kernel
theorem dX0_ones_8 : decode cX0_ones 8 = .ok (.ireturn, 1) := by decide +kernel
theorem dX0_onesBefore_0 : decode cX0_onesBefore 0 = .ok (.iconst 0, 1) := by decide +kernel
theorem dX0_onesBefore_1 : decode cX0_onesBefore 1 = .ok (.istore_n 2, 1) := by decide +kernel
theorem dX0_onesBefore_2 : decode cX0_onesBefore 2 = .ok (.iconst 0, 1) := by decide +kernel
theorem dX0_onesBefore_3 : decode cX0_onesBefore 3 = .ok (.istore_n 3, 1) := by decide +kernel
theorem dX0_onesBefore_4 : decode cX0_onesBefore 4 = .ok (.iload_n 3, 1) := by decide +kernel
theorem dX0_onesBefore_5 : decode cX0_onesBefore 5 = .ok (.aload_n 0, 1) := by decide +kernel
theorem dX0_onesBefore_6 : decode cX0_onesBefore 6 = .ok (.getfield 9, 3) := by decide +kernel
theorem dX0_onesBefore_9 : decode cX0_onesBefore 9 = .ok (.arraylength, 1) := by decide +kernel
theorem dX0_onesBefore_10 : decode cX0_onesBefore 10 = .ok (.if_icmp .ge 27, 3) := by decide +kernel
theorem dX0_onesBefore_13 : decode cX0_onesBefore 13 = .ok (.iload_n 2, 1) := by decide +kernel
theorem dX0_onesBefore_14 : decode cX0_onesBefore 14 = .ok (.aload_n 0, 1) := by decide +kernel
theorem dX0_onesBefore_15 : decode cX0_onesBefore 15 = .ok (.getfield 9, 3) := by decide +kernel
theorem dX0_onesBefore_18 : decode cX0_onesBefore 18 = .ok (.iload_n 3, 1) := by decide +kernel
theorem dX0_onesBefore_19 : decode cX0_onesBefore 19 = .ok (.iaload, 1) := by decide +kernel
theorem dX0_onesBefore_20 : decode cX0_onesBefore 20 = .ok (.iload_n 1, 1) := by decide +kernel
theorem dX0_onesBefore_21 : decode cX0_onesBefore 21 = .ok (.iload_n 3, 1) := by decide +kernel
theorem dX0_onesBefore_22 : decode cX0_onesBefore 22 = .ok (.invokestatic 29, 3) := by decide +kernel
theorem dX0_onesBefore_25 : decode cX0_onesBefore 25 = .ok (.iand, 1) := by decide +kernel
theorem dX0_onesBefore_26 : decode cX0_onesBefore 26 = .ok (.invokestatic 58, 3) := by decide +kernel
theorem dX0_onesBefore_29 : decode cX0_onesBefore 29 = .ok (.iadd, 1) := by decide +kernel
theorem dX0_onesBefore_30 : decode cX0_onesBefore 30 = .ok (.istore_n 2, 1) := by decide +kernel
theorem dX0_onesBefore_31 : decode cX0_onesBefore 31 = .ok (.iinc 3 1, 3) := by decide +kernel
theorem dX0_onesBefore_34 : decode cX0_onesBefore 34 = .ok (.goto (-30), 3) := by decide +kernel
theorem dX0_onesBefore_37 : decode cX0_onesBefore 37 = .ok (.iload_n 2, 1) := by decide +kernel
theorem dX0_onesBefore_38 : decode cX0_onesBefore 38 = .ok (.ireturn, 1) := by decide +kernel
theorem dX0_placeOfOne_0 : decode cX0_placeOfOne 0 = .ok (.iload_n 1, 1) := by decide +kernel
theorem dX0_placeOfOne_1 : decode cX0_placeOfOne 1 = .ok (.ifCond .ge 6, 3) := by decide +kernel
theorem dX0_placeOfOne_4 : decode cX0_placeOfOne 4 = .ok (.bipush (-9), 2) := by decide +kernel
theorem dX0_placeOfOne_6 : decode cX0_placeOfOne 6 = .ok (.ireturn, 1) := by decide +kernel
theorem dX0_placeOfOne_7 : decode cX0_placeOfOne 7 = .ok (.iload_n 1, 1) := by decide +kernel
theorem dX0_placeOfOne_8 : decode cX0_placeOfOne 8 = .ok (.istore_n 2, 1) := by decide +kernel
theorem dX0_placeOfOne_9 : decode cX0_placeOfOne 9 = .ok (.iconst 0, 1) := by decide +kernel
theorem dX0_placeOfOne_10 : decode cX0_placeOfOne 10 = .ok (.istore_n 3, 1) := by decide +kernel
theorem dX0_placeOfOne_11 : decode cX0_placeOfOne 11 = .ok (.iload_n 3, 1) := by decide +kernel
theorem dX0_placeOfOne_12 : decode cX0_placeOfOne 12 = .ok (.aload_n 0, 1) := by decide +kernel
theorem dX0_placeOfOne_13 : decode cX0_placeOfOne 13 = .ok (.getfield 9, 3) := by decide +kernel
theorem dX0_placeOfOne_16 : decode cX0_placeOfOne 16 = .ok (.arraylength, 1) := by decide +kernel
theorem dX0_placeOfOne_17 : decode cX0_placeOfOne 17 = .ok (.if_icmp .ge 47, 3) := by decide +kernel
theorem dX0_placeOfOne_20 : decode cX0_placeOfOne 20 = .ok (.aload_n 0, 1) := by decide +kernel
theorem dX0_placeOfOne_21 : decode cX0_placeOfOne 21 = .ok (.getfield 9, 3) := by decide +kernel
theorem dX0_placeOfOne_24 : decode cX0_placeOfOne 24 = .ok (.iload_n 3, 1) := by decide +kernel
theorem dX0_placeOfOne_25 : decode cX0_placeOfOne 25 = .ok (.iaload, 1) := by decide +kernel
theorem dX0_placeOfOne_26 : decode cX0_placeOfOne 26 = .ok (.invokestatic 58, 3) := by decide +kernel
theorem dX0_placeOfOne_29 : decode cX0_placeOfOne 29 = .ok (.istore 4, 2) := by decide +kernel
theorem dX0_placeOfOne_31 : decode cX0_placeOfOne 31 = .ok (.iload_n 2, 1) := by decide +kernel
theorem dX0_placeOfOne_32 : decode cX0_placeOfOne 32 = .ok (.iload 4, 2) := by decide +kernel
theorem dX0_placeOfOne_34 : decode cX0_placeOfOne 34 = .ok (.if_icmp .ge 19, 3) := by decide +kernel
theorem dX0_placeOfOne_37 : decode cX0_placeOfOne 37 = .ok (.iload_n 3, 1) := by decide +kernel
theorem dX0_placeOfOne_38 : decode cX0_placeOfOne 38 = .ok (.bipush 15, 2) := by decide +kernel
theorem dX0_placeOfOne_40 : decode cX0_placeOfOne 40 = .ok (.imul, 1) := by decide +kernel
theorem dX0_placeOfOne_41 : decode cX0_placeOfOne 41 = .ok (.aload_n 0, 1) := by decide +kernel
theorem dX0_placeOfOne_42 : decode cX0_placeOfOne 42 = .ok (.getfield 9, 3) := by decide +kernel
theorem dX0_placeOfOne_45 : decode cX0_placeOfOne 45 = .ok (.iload_n 3, 1) := by decide +kernel
theorem dX0_placeOfOne_46 : decode cX0_placeOfOne 46 = .ok (.iaload, 1) := by decide +kernel
theorem dX0_placeOfOne_47 : decode cX0_placeOfOne 47 = .ok (.iload_n 2, 1) := by decide +kernel
theorem dX0_placeOfOne_48 : decode cX0_placeOfOne 48 = .ok (.invokestatic 63, 3) := by decide +kernel
theorem dX0_placeOfOne_51 : decode cX0_placeOfOne 51 = .ok (.iadd, 1) := by decide +kernel
theorem dX0_placeOfOne_52 : decode cX0_placeOfOne 52 = .ok (.ireturn, 1) := by decide +kernel
theorem dX0_placeOfOne_53 : decode cX0_placeOfOne 53 = .ok (.iload_n 2, 1) := by decide +kernel
theorem dX0_placeOfOne_54 : decode cX0_placeOfOne 54 = .ok (.iload 4, 2) := by decide +kernel
theorem dX0_placeOfOne_56 : decode cX0_placeOfOne 56 = .ok (.isub, 1) := by decide +kernel
theorem dX0_placeOfOne_57 : decode cX0_placeOfOne 57 = .ok (.istore_n 2, 1) := by decide +kernel
theorem dX0_placeOfOne_58 : decode cX0_placeOfOne 58 = .ok (.iinc 3 1, 3) := by decide +kernel
theorem dX0_placeOfOne_61 : decode cX0_placeOfOne 61 = .ok (.goto (-50), 3) := by decide +kernel
theorem dX0_placeOfOne_64 : decode cX0_placeOfOne 64 = .ok (.bipush (-9), 2) := by decide +kernel
theorem dX0_placeOfOne_66 : decode cX0_placeOfOne 66 = .ok (.ireturn, 1) := by decide +kernel
theorem dX0_placeInGroup_0 : decode cX0_placeInGroup 0 = .ok (.iload_n 1, 1) := by decide +kernel
theorem dX0_placeInGroup_1 : decode cX0_placeInGroup 1 = .ok (.istore_n 2, 1) := by decide +kernel
theorem dX0_placeInGroup_2 : decode cX0_placeInGroup 2 = .ok (.iconst 0, 1) := by decide +kernel
theorem dX0_placeInGroup_3 : decode cX0_placeInGroup 3 = .ok (.istore_n 3, 1) := by decide +kernel
theorem dX0_placeInGroup_4 : decode cX0_placeInGroup 4 = .ok (.iload_n 3, 1) := by decide +kernel
theorem dX0_placeInGroup_5 : decode cX0_placeInGroup 5 = .ok (.bipush 15, 2) := by decide +kernel
theorem dX0_placeInGroup_7 : decode cX0_placeInGroup 7 = .ok (.if_icmp .ge 27, 3) := by decide +kernel
theorem dX0_placeInGroup_10 : decode cX0_placeInGroup 10 = .ok (.iload_n 0, 1) := by decide +kernel
theorem dX0_placeInGroup_11 : decode cX0_placeInGroup 11 = .ok (.iload_n 3, 1) := by decide +kernel
theorem dX0_placeInGroup_12 : decode cX0_placeInGroup 12 = .ok (.ishr, 1) := by decide +kernel
theorem dX0_placeInGroup_13 : decode cX0_placeInGroup 13 = .ok (.iconst 1, 1) := by decide +kernel
theorem dX0_placeInGroup_14 : decode cX0_placeInGroup 14 = .ok (.iand, 1) := by decide +kernel
theorem dX0_placeInGroup_15 : decode cX0_placeInGroup 15 = .ok (.iconst 1, 1) := by decide +kernel
theorem dX0_placeInGroup_16 : decode cX0_placeInGroup 16 = .ok (.if_icmp .ne 12, 3) := by decide +kernel
theorem dX0_placeInGroup_19 : decode cX0_placeInGroup 19 = .ok (.iload_n 2, 1) := by decide +kernel
theorem dX0_placeInGroup_20 : decode cX0_placeInGroup 20 = .ok (.ifCond .ne 5, 3) := by decide +kernel
theorem dX0_placeInGroup_23 : decode cX0_placeInGroup 23 = .ok (.iload_n 3, 1) := by decide +kernel
theorem dX0_placeInGroup_24 : decode cX0_placeInGroup 24 = .ok (.ireturn, 1) := by decide +kernel
theorem dX0_placeInGroup_25 : decode cX0_placeInGroup 25 = .ok (.iinc 2 (-1), 3) := by decide +kernel
theorem dX0_placeInGroup_28 : decode cX0_placeInGroup 28 = .ok (.iinc 3 1, 3) := by decide +kernel
theorem dX0_placeInGroup_31 : decode cX0_placeInGroup 31 = .ok (.goto (-27), 3) := by decide +kernel
theorem dX0_placeInGroup_34 : decode cX0_placeInGroup 34 = .ok (.bipush (-9), 2) := by decide +kernel
theorem dX0_placeInGroup_36 : decode cX0_placeInGroup 36 = .ok (.ireturn, 1) := by decide +kernel
theorem dX0_matches_0 : decode cX0_matches 0 = .ok (.aload_n 0, 1) := by decide +kernel
theorem dX0_matches_1 : decode cX0_matches 1 = .ok (.getfield 15, 3) := by decide +kernel
theorem dX0_matches_4 : decode cX0_matches 4 = .ok (.aload_n 1, 1) := by decide +kernel
theorem dX0_matches_5 : decode cX0_matches 5 = .ok (.getfield 15, 3) := by decide +kernel
theorem dX0_matches_8 : decode cX0_matches 8 = .ok (.if_icmp .eq 5, 3) := by decide +kernel
theorem dX0_matches_11 : decode cX0_matches 11 = .ok (.iconst 0, 1) := by decide +kernel
theorem dX0_matches_12 : decode cX0_matches 12 = .ok (.ireturn, 1) := by decide +kernel
theorem dX0_matches_13 : decode cX0_matches 13 = .ok (.iconst 0, 1) := by decide +kernel
theorem dX0_matches_14 : decode cX0_matches 14 = .ok (.istore_n 2, 1) := by decide +kernel
theorem dX0_matches_15 : decode cX0_matches 15 = .ok (.iload_n 2, 1) := by decide +kernel
theorem dX0_matches_16 : decode cX0_matches 16 = .ok (.aload_n 0, 1) := by decide +kernel
theorem dX0_matches_17 : decode cX0_matches 17 = .ok (.getfield 9, 3) := by decide +kernel
theorem dX0_matches_20 : decode cX0_matches 20 = .ok (.arraylength, 1) := by decide +kernel
theorem dX0_matches_21 : decode cX0_matches 21 = .ok (.if_icmp .ge 25, 3) := by decide +kernel
theorem dX0_matches_24 : decode cX0_matches 24 = .ok (.aload_n 0, 1) := by decide +kernel
theorem dX0_matches_25 : decode cX0_matches 25 = .ok (.getfield 9, 3) := by decide +kernel
theorem dX0_matches_28 : decode cX0_matches 28 = .ok (.iload_n 2, 1) := by decide +kernel
theorem dX0_matches_29 : decode cX0_matches 29 = .ok (.iaload, 1) := by decide +kernel
theorem dX0_matches_30 : decode cX0_matches 30 = .ok (.aload_n 1, 1) := by decide +kernel
theorem dX0_matches_31 : decode cX0_matches 31 = .ok (.iload_n 2, 1) := by decide +kernel
theorem dX0_matches_32 : decode cX0_matches 32 = .ok (.invokevirtual 19, 3) := by decide +kernel
theorem dX0_matches_35 : decode cX0_matches 35 = .ok (.if_icmp .eq 5, 3) := by decide +kernel
theorem dX0_matches_38 : decode cX0_matches 38 = .ok (.iconst 0, 1) := by decide +kernel
theorem dX0_matches_39 : decode cX0_matches 39 = .ok (.ireturn, 1) := by decide +kernel
theorem dX0_matches_40 : decode cX0_matches 40 = .ok (.iinc 2 1, 3) := by decide +kernel
theorem dX0_matches_43 : decode cX0_matches 43 = .ok (.goto (-28), 3) := by decide +kernel
theorem dX0_matches_46 : decode cX0_matches 46 = .ok (.iconst 1, 1) := by decide +kernel
theorem dX0_matches_47 : decode cX0_matches 47 = .ok (.ireturn, 1) := by decide +kernel
theorem dX0_maskBefore_0 : decode cX0_maskBefore 0 = .ok (.iconst 0, 1) := by decide +kernel
theorem dX0_maskBefore_1 : decode cX0_maskBefore 1 = .ok (.bipush 15, 2) := by decide +kernel
theorem dX0_maskBefore_3 : decode cX0_maskBefore 3 = .ok (.iload_n 0, 1) := by decide +kernel
theorem dX0_maskBefore_4 : decode cX0_maskBefore 4 = .ok (.iload_n 1, 1) := by decide +kernel
theorem dX0_maskBefore_5 : decode cX0_maskBefore 5 = .ok (.bipush 15, 2) := by decide +kernel
theorem dX0_maskBefore_7 : decode cX0_maskBefore 7 = .ok (.imul, 1) := by decide +kernel
theorem dX0_maskBefore_8 : decode cX0_maskBefore 8 = .ok (.isub, 1) := by decide +kernel
theorem dX0_maskBefore_9 : decode cX0_maskBefore 9 = .ok (.invokestatic 52, 3) := by decide +kernel
theorem dX0_maskBefore_12 : decode cX0_maskBefore 12 = .ok (.invokestatic 41, 3) := by decide +kernel
theorem dX0_maskBefore_15 : decode cX0_maskBefore 15 = .ok (.istore_n 2, 1) := by decide +kernel
theorem dX0_maskBefore_16 : decode cX0_maskBefore 16 = .ok (.iconst 1, 1) := by decide +kernel
theorem dX0_maskBefore_17 : decode cX0_maskBefore 17 = .ok (.iload_n 2, 1) := by decide +kernel
theorem dX0_maskBefore_18 : decode cX0_maskBefore 18 = .ok (.ishl, 1) := by decide +kernel
theorem dX0_maskBefore_19 : decode cX0_maskBefore 19 = .ok (.iconst 1, 1) := by decide +kernel
theorem dX0_maskBefore_20 : decode cX0_maskBefore 20 = .ok (.isub, 1) := by decide +kernel
theorem dX0_maskBefore_21 : decode cX0_maskBefore 21 = .ok (.ireturn, 1) := by decide +kernel
theorem dX1_init_0 : decode cX1_init 0 = .ok (.aload_n 0, 1) := by decide +kernel
theorem dX1_init_1 : decode cX1_init 1 = .ok (.invokespecial 1, 3) := by decide +kernel
theorem dX1_init_4 : decode cX1_init 4 = .ok (.aload_n 0, 1) := by decide +kernel
theorem dX1_init_5 : decode cX1_init 5 = .ok (.new 7, 3) := by decide +kernel
theorem dX1_init_8 : decode cX1_init 8 = .ok (.dup, 1) := by decide +kernel
theorem dX1_init_9 : decode cX1_init 9 = .ok (.invokespecial 9, 3) := by decide +kernel
theorem dX1_init_12 : decode cX1_init 12 = .ok (.putfield 10, 3) := by decide +kernel
theorem dX1_init_15 : decode cX1_init 15 = .ok (.return_, 1) := by decide +kernel
theorem dX2_init_0 : decode cX2_init 0 = .ok (.aload_n 0, 1) := by decide +kernel
theorem dX2_init_1 : decode cX2_init 1 = .ok (.invokespecial 3, 3) := by decide +kernel
theorem dX2_init_4 : decode cX2_init 4 = .ok (.aload_n 0, 1) := by decide +kernel
theorem dX2_init_5 : decode cX2_init 5 = .ok (.bipush 100, 2) := by decide +kernel
theorem dX2_init_7 : decode cX2_init 7 = .ok (.newarray .char, 2) := by decide +kernel
theorem dX2_init_9 : decode cX2_init 9 = .ok (.putfield 9, 3) := by decide +kernel
theorem dX2_init_12 : decode cX2_init 12 = .ok (.aload_n 0, 1) := by decide +kernel
theorem dX2_init_13 : decode cX2_init 13 = .ok (.bipush 19, 2) := by decide +kernel
theorem dX2_init_15 : decode cX2_init 15 = .ok (.anewarray 15, 3) := by decide +kernel
theorem dX2_init_18 : decode cX2_init 18 = .ok (.putfield 17, 3) := by decide +kernel
theorem dX2_init_21 : decode cX2_init 21 = .ok (.aload_n 0, 1) := by decide +kernel
theorem dX2_init_22 : decode cX2_init 22 = .ok (.iconst 0, 1) := by decide +kernel
theorem dX2_init_23 : decode cX2_init 23 = .ok (.anewarray 15, 3) := by decide +kernel
theorem dX2_init_26 : decode cX2_init 26 = .ok (.putfield 21, 3) := by decide +kernel
theorem dX2_init_29 : decode cX2_init 29 = .ok (.iconst 0, 1) := by decide +kernel
theorem dX2_init_30 : decode cX2_init 30 = .ok (.istore_n 1, 1) := by decide +kernel
theorem dX2_init_31 : decode cX2_init 31 = .ok (.iload_n 1, 1) := by decide +kernel
theorem dX2_init_32 : decode cX2_init 32 = .ok (.aload_n 0, 1) := by decide +kernel
theorem dX2_init_33 : decode cX2_init 33 = .ok (.getfield 17, 3) := by decide +kernel
theorem dX2_init_36 : decode cX2_init 36 = .ok (.arraylength, 1) := by decide +kernel
theorem dX2_init_37 : decode cX2_init 37 = .ok (.if_icmp .ge 22, 3) := by decide +kernel
theorem dX2_init_40 : decode cX2_init 40 = .ok (.aload_n 0, 1) := by decide +kernel
theorem dX2_init_41 : decode cX2_init 41 = .ok (.getfield 17, 3) := by decide +kernel
theorem dX2_init_44 : decode cX2_init 44 = .ok (.iload_n 1, 1) := by decide +kernel
theorem dX2_init_45 : decode cX2_init 45 = .ok (.new 15, 3) := by decide +kernel
theorem dX2_init_48 : decode cX2_init 48 = .ok (.dup, 1) := by decide +kernel
theorem dX2_init_49 : decode cX2_init 49 = .ok (.invokespecial 24, 3) := by decide +kernel
theorem dX2_init_52 : decode cX2_init 52 = .ok (.aastore, 1) := by decide +kernel
theorem dX2_init_53 : decode cX2_init 53 = .ok (.iinc 1 1, 3) := by decide +kernel
theorem dX2_init_56 : decode cX2_init 56 = .ok (.goto (-25), 3) := by decide +kernel
theorem dX2_init_59 : decode cX2_init 59 = .ok (.return_, 1) := by decide +kernel
theorem dX2_addSign_0 : decode cX2_addSign 0 = .ok (.aload_n 0, 1) := by decide +kernel
theorem dX2_addSign_1 : decode cX2_addSign 1 = .ok (.getfield 25, 3) := by decide +kernel
theorem dX2_addSign_4 : decode cX2_addSign 4 = .ok (.aload_n 0, 1) := by decide +kernel
theorem dX2_addSign_5 : decode cX2_addSign 5 = .ok (.getfield 9, 3) := by decide +kernel
theorem dX2_addSign_8 : decode cX2_addSign 8 = .ok (.arraylength, 1) := by decide +kernel
theorem dX2_addSign_9 : decode cX2_addSign 9 = .ok (.if_icmp .ge 23, 3) := by decide +kernel
theorem dX2_addSign_12 : decode cX2_addSign 12 = .ok (.aload_n 0, 1) := by decide +kernel
theorem dX2_addSign_13 : decode cX2_addSign 13 = .ok (.getfield 9, 3) := by decide +kernel
theorem dX2_addSign_16 : decode cX2_addSign 16 = .ok (.aload_n 0, 1) := by decide +kernel
theorem dX2_addSign_17 : decode cX2_addSign 17 = .ok (.getfield 25, 3) := by decide +kernel
theorem dX2_addSign_20 : decode cX2_addSign 20 = .ok (.iload_n 1, 1) := by decide +kernel
theorem dX2_addSign_21 : decode cX2_addSign 21 = .ok (.castore, 1) := by decide +kernel
theorem dX2_addSign_22 : decode cX2_addSign 22 = .ok (.aload_n 0, 1) := by decide +kernel
theorem dX2_addSign_23 : decode cX2_addSign 23 = .ok (.dup, 1) := by decide +kernel
theorem dX2_addSign_24 : decode cX2_addSign 24 = .ok (.getfield 25, 3) := by decide +kernel
theorem dX2_addSign_27 : decode cX2_addSign 27 = .ok (.iconst 1, 1) := by decide +kernel
theorem dX2_addSign_28 : decode cX2_addSign 28 = .ok (.iadd, 1) := by decide +kernel
theorem dX2_addSign_29 : decode cX2_addSign 29 = .ok (.putfield 25, 3) := by decide +kernel
theorem dX2_addSign_32 : decode cX2_addSign 32 = .ok (.return_, 1) := by decide +kernel
theorem dX2_result_0 : decode cX2_result 0 = .ok (.aload_n 0, 1) := by decide +kernel
theorem dX2_result_1 : decode cX2_result 1 = .ok (.getfield 17, 3) := by decide +kernel
theorem dX2_result_4 : decode cX2_result 4 = .ok (.iconst 0, 1) := by decide +kernel
theorem dX2_result_5 : decode cX2_result 5 = .ok (.aaload, 1) := by decide +kernel
theorem dX2_result_6 : decode cX2_result 6 = .ok (.areturn, 1) := by decide +kernel
theorem dX2_read_0 : decode cX2_read 0 = .ok (.aload_n 0, 1) := by decide +kernel
theorem dX2_read_1 : decode cX2_read 1 = .ok (.aload_n 1, 1) := by decide +kernel
theorem dX2_read_2 : decode cX2_read 2 = .ok (.putfield 21, 3) := by decide +kernel
theorem dX2_read_5 : decode cX2_read 5 = .ok (.aload_n 0, 1) := by decide +kernel
theorem dX2_read_6 : decode cX2_read 6 = .ok (.iload_n 2, 1) := by decide +kernel
theorem dX2_read_7 : decode cX2_read 7 = .ok (.putfield 29, 3) := by decide +kernel
theorem dX2_read_10 : decode cX2_read 10 = .ok (.aload_n 0, 1) := by decide +kernel
theorem dX2_read_11 : decode cX2_read 11 = .ok (.iconst 0, 1) := by decide +kernel
theorem dX2_read_12 : decode cX2_read 12 = .ok (.putfield 32, 3) := by decide +kernel
theorem dX2_read_15 : decode cX2_read 15 = .ok (.aload_n 0, 1) := by decide +kernel
theorem dX2_read_16 : decode cX2_read 16 = .ok (.iconst 0, 1) := by decide +kernel
theorem dX2_read_17 : decode cX2_read 17 = .ok (.putfield 35, 3) := by decide +kernel
theorem dX2_read_20 : decode cX2_read 20 = .ok (.aload_n 0, 1) := by decide +kernel
theorem dX2_read_21 : decode cX2_read 21 = .ok (.iconst 0, 1) := by decide +kernel
theorem dX2_read_22 : decode cX2_read 22 = .ok (.iconst 0, 1) := by decide +kernel
theorem dX2_read_23 : decode cX2_read 23 = .ok (.invokevirtual 39, 3) := by decide +kernel
theorem dX2_read_26 : decode cX2_read 26 = .ok (.ifCond .eq 16, 3) := by decide +kernel
theorem dX2_read_29 : decode cX2_read 29 = .ok (.aload_n 0, 1) := by decide +kernel
theorem dX2_read_30 : decode cX2_read 30 = .ok (.invokevirtual 43, 3) := by decide +kernel
theorem dX2_read_33 : decode cX2_read 33 = .ok (.ifCond .eq 9, 3) := by decide +kernel
theorem dX2_read_36 : decode cX2_read 36 = .ok (.aload_n 0, 1) := by decide +kernel
theorem dX2_read_37 : decode cX2_read 37 = .ok (.iconst 0, 1) := by decide +kernel
theorem dX2_read_38 : decode cX2_read 38 = .ok (.invokevirtual 47, 3) := by decide +kernel
theorem dX2_read_41 : decode cX2_read 41 = .ok (.pop, 1) := by decide +kernel
theorem dX2_read_42 : decode cX2_read 42 = .ok (.aload_n 0, 1) := by decide +kernel
theorem dX2_read_43 : decode cX2_read 43 = .ok (.getfield 35, 3) := by decide +kernel
theorem dX2_read_46 : decode cX2_read 46 = .ok (.ifCond .ne 7, 3) := by decide +kernel
theorem dX2_read_49 : decode cX2_read 49 = .ok (.iconst 1, 1) := by decide +kernel
theorem dX2_read_50 : decode cX2_read 50 = .ok (.goto 4, 3) := by decide +kernel
theorem dX2_read_53 : decode cX2_read 53 = .ok (.iconst 0, 1) := by decide +kernel
theorem dX2_read_54 : decode cX2_read 54 = .ok (.ireturn, 1) := by decide +kernel
theorem dX2_readSum_0 : decode cX2_readSum 0 = .ok (.aload_n 0, 1) := by decide +kernel
theorem dX2_readSum_1 : decode cX2_readSum 1 = .ok (.iload_n 1, 1) := by decide +kernel
theorem dX2_readSum_2 : decode cX2_readSum 2 = .ok (.iload_n 2, 1) := by decide +kernel
theorem dX2_readSum_3 : decode cX2_readSum 3 = .ok (.invokevirtual 51, 3) := by decide +kernel
theorem dX2_readSum_6 : decode cX2_readSum 6 = .ok (.ifCond .ne 5, 3) := by decide +kernel
theorem dX2_readSum_9 : decode cX2_readSum 9 = .ok (.iconst 0, 1) := by decide +kernel
theorem dX2_readSum_10 : decode cX2_readSum 10 = .ok (.ireturn, 1) := by decide +kernel
theorem dX2_readSum_11 : decode cX2_readSum 11 = .ok (.iconst 1, 1) := by decide +kernel
theorem dX2_readSum_12 : decode cX2_readSum 12 = .ok (.istore_n 3, 1) := by decide +kernel
theorem dX2_readSum_13 : decode cX2_readSum 13 = .ok (.iload_n 3, 1) := by decide +kernel
theorem dX2_readSum_14 : decode cX2_readSum 14 = .ok (.bipush 100, 2) := by decide +kernel
theorem dX2_readSum_16 : decode cX2_readSum 16 = .ok (.if_icmp .gt 71, 3) := by decide +kernel
theorem dX2_readSum_19 : decode cX2_readSum 19 = .ok (.aload_n 0, 1) := by decide +kernel
theorem dX2_readSum_20 : decode cX2_readSum 20 = .ok (.invokevirtual 43, 3) := by decide +kernel
theorem dX2_readSum_23 : decode cX2_readSum 23 = .ok (.istore 4, 2) := by decide +kernel
theorem dX2_readSum_25 : decode cX2_readSum 25 = .ok (.iload 4, 2) := by decide +kernel
theorem dX2_readSum_27 : decode cX2_readSum 27 = .ok (.bipush 124, 2) := by decide +kernel
theorem dX2_readSum_29 : decode cX2_readSum 29 = .ok (.if_icmp .eq 12, 3) := by decide +kernel
theorem dX2_readSum_32 : decode cX2_readSum 32 = .ok (.iload 4, 2) := by decide +kernel
theorem dX2_readSum_34 : decode cX2_readSum 34 = .ok (.bipush 94, 2) := by decide +kernel
theorem dX2_readSum_36 : decode cX2_readSum 36 = .ok (.if_icmp .eq 5, 3) := by decide +kernel
theorem dX2_readSum_39 : decode cX2_readSum 39 = .ok (.iconst 1, 1) := by decide +kernel
theorem dX2_readSum_40 : decode cX2_readSum 40 = .ok (.ireturn, 1) := by decide +kernel
theorem dX2_readSum_41 : decode cX2_readSum 41 = .ok (.aload_n 0, 1) := by decide +kernel
theorem dX2_readSum_42 : decode cX2_readSum 42 = .ok (.dup, 1) := by decide +kernel
theorem dX2_readSum_43 : decode cX2_readSum 43 = .ok (.getfield 32, 3) := by decide +kernel
theorem dX2_readSum_46 : decode cX2_readSum 46 = .ok (.iconst 1, 1) := by decide +kernel
theorem dX2_readSum_47 : decode cX2_readSum 47 = .ok (.iadd, 1) := by decide +kernel
theorem dX2_readSum_48 : decode cX2_readSum 48 = .ok (.putfield 32, 3) := by decide +kernel
theorem dX2_readSum_51 : decode cX2_readSum 51 = .ok (.aload_n 0, 1) := by decide +kernel
theorem dX2_readSum_52 : decode cX2_readSum 52 = .ok (.iload_n 1, 1) := by decide +kernel
theorem dX2_readSum_53 : decode cX2_readSum 53 = .ok (.iconst 1, 1) := by decide +kernel
theorem dX2_readSum_54 : decode cX2_readSum 54 = .ok (.iadd, 1) := by decide +kernel
theorem dX2_readSum_55 : decode cX2_readSum 55 = .ok (.iload_n 2, 1) := by decide +kernel
theorem dX2_readSum_56 : decode cX2_readSum 56 = .ok (.invokevirtual 51, 3) := by decide +kernel
theorem dX2_readSum_59 : decode cX2_readSum 59 = .ok (.ifCond .ne 5, 3) := by decide +kernel
theorem dX2_readSum_62 : decode cX2_readSum 62 = .ok (.iconst 0, 1) := by decide +kernel
theorem dX2_readSum_63 : decode cX2_readSum 63 = .ok (.ireturn, 1) := by decide +kernel
theorem dX2_readSum_64 : decode cX2_readSum 64 = .ok (.aload_n 0, 1) := by decide +kernel
theorem dX2_readSum_65 : decode cX2_readSum 65 = .ok (.iload_n 1, 1) := by decide +kernel
theorem dX2_readSum_66 : decode cX2_readSum 66 = .ok (.iload 4, 2) := by decide +kernel
theorem dX2_readSum_68 : decode cX2_readSum 68 = .ok (.bipush 124, 2) := by decide +kernel
theorem dX2_readSum_70 : decode cX2_readSum 70 = .ok (.if_icmp .ne 7, 3) := by decide +kernel
theorem dX2_readSum_73 : decode cX2_readSum 73 = .ok (.iconst 1, 1) := by decide +kernel
theorem dX2_readSum_74 : decode cX2_readSum 74 = .ok (.goto 4, 3) := by decide +kernel
theorem dX2_readSum_77 : decode cX2_readSum 77 = .ok (.iconst 3, 1) := by decide +kernel
theorem dX2_readSum_78 : decode cX2_readSum 78 = .ok (.invokevirtual 54, 3) := by decide +kernel
theorem dX2_readSum_81 : decode cX2_readSum 81 = .ok (.iinc 3 1, 3) := by decide +kernel
theorem dX2_readSum_84 : decode cX2_readSum 84 = .ok (.goto (-71), 3) := by decide +kernel
theorem dX2_readSum_87 : decode cX2_readSum 87 = .ok (.iconst 1, 1) := by decide +kernel
theorem dX2_readSum_88 : decode cX2_readSum 88 = .ok (.ireturn, 1) := by decide +kernel
theorem dX2_readProduct_0 : decode cX2_readProduct 0 = .ok (.aload_n 0, 1) := by decide +kernel
theorem dX2_readProduct_1 : decode cX2_readProduct 1 = .ok (.iload_n 1, 1) := by decide +kernel
theorem dX2_readProduct_2 : decode cX2_readProduct 2 = .ok (.iload_n 2, 1) := by decide +kernel
theorem dX2_readProduct_3 : decode cX2_readProduct 3 = .ok (.invokevirtual 58, 3) := by decide +kernel
theorem dX2_readProduct_6 : decode cX2_readProduct 6 = .ok (.ifCond .ne 5, 3) := by decide +kernel
theorem dX2_readProduct_9 : decode cX2_readProduct 9 = .ok (.iconst 0, 1) := by decide +kernel
theorem dX2_readProduct_10 : decode cX2_readProduct 10 = .ok (.ireturn, 1) := by decide +kernel
theorem dX2_readProduct_11 : decode cX2_readProduct 11 = .ok (.iconst 1, 1) := by decide +kernel
theorem dX2_readProduct_12 : decode cX2_readProduct 12 = .ok (.istore_n 3, 1) := by decide +kernel
theorem dX2_readProduct_13 : decode cX2_readProduct 13 = .ok (.iload_n 3, 1) := by decide +kernel
theorem dX2_readProduct_14 : decode cX2_readProduct 14 = .ok (.bipush 100, 2) := by decide +kernel
theorem dX2_readProduct_16 : decode cX2_readProduct 16 = .ok (.if_icmp .gt 71, 3) := by decide +kernel
theorem dX2_readProduct_19 : decode cX2_readProduct 19 = .ok (.aload_n 0, 1) := by decide +kernel
theorem dX2_readProduct_20 : decode cX2_readProduct 20 = .ok (.invokevirtual 43, 3) := by decide +kernel
theorem dX2_readProduct_23 : decode cX2_readProduct 23 = .ok (.istore 4, 2) := by decide +kernel
theorem dX2_readProduct_25 : decode cX2_readProduct 25 = .ok (.iload 4, 2) := by decide +kernel
theorem dX2_readProduct_27 : decode cX2_readProduct 27 = .ok (.bipush 38, 2) := by decide +kernel
theorem dX2_readProduct_29 : decode cX2_readProduct 29 = .ok (.if_icmp .eq 12, 3) := by decide +kernel
theorem dX2_readProduct_32 : decode cX2_readProduct 32 = .ok (.iload 4, 2) := by decide +kernel
theorem dX2_readProduct_34 : decode cX2_readProduct 34 = .ok (.bipush 45, 2) := by decide +kernel
theorem dX2_readProduct_36 : decode cX2_readProduct 36 = .ok (.if_icmp .eq 5, 3) := by decide +kernel
theorem dX2_readProduct_39 : decode cX2_readProduct 39 = .ok (.iconst 1, 1) := by decide +kernel
theorem dX2_readProduct_40 : decode cX2_readProduct 40 = .ok (.ireturn, 1) := by decide +kernel
theorem dX2_readProduct_41 : decode cX2_readProduct 41 = .ok (.aload_n 0, 1) := by decide +kernel
theorem dX2_readProduct_42 : decode cX2_readProduct 42 = .ok (.dup, 1) := by decide +kernel
theorem dX2_readProduct_43 : decode cX2_readProduct 43 = .ok (.getfield 32, 3) := by decide +kernel
theorem dX2_readProduct_46 : decode cX2_readProduct 46 = .ok (.iconst 1, 1) := by decide +kernel
theorem dX2_readProduct_47 : decode cX2_readProduct 47 = .ok (.iadd, 1) := by decide +kernel
theorem dX2_readProduct_48 : decode cX2_readProduct 48 = .ok (.putfield 32, 3) := by decide +kernel
theorem dX2_readProduct_51 : decode cX2_readProduct 51 = .ok (.aload_n 0, 1) := by decide +kernel
theorem dX2_readProduct_52 : decode cX2_readProduct 52 = .ok (.iload_n 1, 1) := by decide +kernel
theorem dX2_readProduct_53 : decode cX2_readProduct 53 = .ok (.iconst 1, 1) := by decide +kernel
theorem dX2_readProduct_54 : decode cX2_readProduct 54 = .ok (.iadd, 1) := by decide +kernel
theorem dX2_readProduct_55 : decode cX2_readProduct 55 = .ok (.iload_n 2, 1) := by decide +kernel
theorem dX2_readProduct_56 : decode cX2_readProduct 56 = .ok (.invokevirtual 58, 3) := by decide +kernel
theorem dX2_readProduct_59 : decode cX2_readProduct 59 = .ok (.ifCond .ne 5, 3) := by decide +kernel
theorem dX2_readProduct_62 : decode cX2_readProduct 62 = .ok (.iconst 0, 1) := by decide +kernel
theorem dX2_readProduct_63 : decode cX2_readProduct 63 = .ok (.ireturn, 1) := by decide +kernel
theorem dX2_readProduct_64 : decode cX2_readProduct 64 = .ok (.aload_n 0, 1) := by decide +kernel
theorem dX2_readProduct_65 : decode cX2_readProduct 65 = .ok (.iload_n 1, 1) := by decide +kernel
theorem dX2_readProduct_66 : decode cX2_readProduct 66 = .ok (.iload 4, 2) := by decide +kernel
theorem dX2_readProduct_68 : decode cX2_readProduct 68 = .ok (.bipush 38, 2) := by decide +kernel
theorem dX2_readProduct_70 : decode cX2_readProduct 70 = .ok (.if_icmp .ne 7, 3) := by decide +kernel
theorem dX2_readProduct_73 : decode cX2_readProduct 73 = .ok (.iconst 0, 1) := by decide +kernel
theorem dX2_readProduct_74 : decode cX2_readProduct 74 = .ok (.goto 4, 3) := by decide +kernel
theorem dX2_readProduct_77 : decode cX2_readProduct 77 = .ok (.iconst 2, 1) := by decide +kernel
theorem dX2_readProduct_78 : decode cX2_readProduct 78 = .ok (.invokevirtual 54, 3) := by decide +kernel
theorem dX2_readProduct_81 : decode cX2_readProduct 81 = .ok (.iinc 3 1, 3) := by decide +kernel
theorem dX2_readProduct_84 : decode cX2_readProduct 84 = .ok (.goto (-71), 3) := by decide +kernel
theorem dX2_readProduct_87 : decode cX2_readProduct 87 = .ok (.iconst 1, 1) := by decide +kernel
theorem dX2_readProduct_88 : decode cX2_readProduct 88 = .ok (.ireturn, 1) := by decide +kernel
theorem dX2_combineAt_0 : decode cX2_combineAt 0 = .ok (.iload_n 1, 1) := by decide +kernel
theorem dX2_combineAt_1 : decode cX2_combineAt 1 = .ok (.ifCond .lt 38, 3) := by decide +kernel
theorem dX2_combineAt_4 : decode cX2_combineAt 4 = .ok (.iload_n 1, 1) := by decide +kernel
theorem dX2_combineAt_5 : decode cX2_combineAt 5 = .ok (.iconst 1, 1) := by decide +kernel
theorem dX2_combineAt_6 : decode cX2_combineAt 6 = .ok (.iadd, 1) := by decide +kernel
theorem dX2_combineAt_7 : decode cX2_combineAt 7 = .ok (.aload_n 0, 1) := by decide +kernel
theorem dX2_combineAt_8 : decode cX2_combineAt 8 = .ok (.getfield 17, 3) := by decide +kernel
theorem dX2_combineAt_11 : decode cX2_combineAt 11 = .ok (.arraylength, 1) := by decide +kernel
theorem dX2_combineAt_12 : decode cX2_combineAt 12 = .ok (.if_icmp .ge 27, 3) := by decide +kernel
theorem dX2_combineAt_15 : decode cX2_combineAt 15 = .ok (.aload_n 0, 1) := by decide +kernel
theorem dX2_combineAt_16 : decode cX2_combineAt 16 = .ok (.getfield 17, 3) := by decide +kernel
theorem dX2_combineAt_19 : decode cX2_combineAt 19 = .ok (.iload_n 1, 1) := by decide +kernel
theorem dX2_combineAt_20 : decode cX2_combineAt 20 = .ok (.aaload, 1) := by decide +kernel
theorem dX2_combineAt_21 : decode cX2_combineAt 21 = .ok (.iload_n 2, 1) := by decide +kernel
theorem dX2_combineAt_22 : decode cX2_combineAt 22 = .ok (.aload_n 0, 1) := by decide +kernel
theorem dX2_combineAt_23 : decode cX2_combineAt 23 = .ok (.getfield 17, 3) := by decide +kernel
theorem dX2_combineAt_26 : decode cX2_combineAt 26 = .ok (.iload_n 1, 1) := by decide +kernel
theorem dX2_combineAt_27 : decode cX2_combineAt 27 = .ok (.aaload, 1) := by decide +kernel
theorem dX2_combineAt_28 : decode cX2_combineAt 28 = .ok (.aload_n 0, 1) := by decide +kernel
theorem dX2_combineAt_29 : decode cX2_combineAt 29 = .ok (.getfield 17, 3) := by decide +kernel
theorem dX2_combineAt_32 : decode cX2_combineAt 32 = .ok (.iload_n 1, 1) := by decide +kernel
theorem dX2_combineAt_33 : decode cX2_combineAt 33 = .ok (.iconst 1, 1) := by decide +kernel
theorem dX2_combineAt_34 : decode cX2_combineAt 34 = .ok (.iadd, 1) := by decide +kernel
theorem dX2_combineAt_35 : decode cX2_combineAt 35 = .ok (.aaload, 1) := by decide +kernel
theorem dX2_combineAt_36 : decode cX2_combineAt 36 = .ok (.invokevirtual 61, 3) := by decide +kernel
theorem dX2_combineAt_39 : decode cX2_combineAt 39 = .ok (.return_, 1) := by decide +kernel
theorem dX2_readFactor_0 : decode cX2_readFactor 0 = .ok (.aload_n 0, 1) := by decide +kernel
theorem dX2_readFactor_1 : decode cX2_readFactor 1 = .ok (.invokevirtual 43, 3) := by decide +kernel
theorem dX2_readFactor_4 : decode cX2_readFactor 4 = .ok (.istore_n 3, 1) := by decide +kernel
theorem dX2_readFactor_5 : decode cX2_readFactor 5 = .ok (.iload_n 3, 1) := by decide +kernel
theorem dX2_readFactor_6 : decode cX2_readFactor 6 = .ok (.bipush 126, 2) := by decide +kernel
theorem dX2_readFactor_8 : decode cX2_readFactor 8 = .ok (.if_icmp .eq 16, 3) := by decide +kernel
theorem dX2_readFactor_11 : decode cX2_readFactor 11 = .ok (.iload_n 3, 1) := by decide +kernel
theorem dX2_readFactor_12 : decode cX2_readFactor 12 = .ok (.bipush 40, 2) := by decide +kernel
theorem dX2_readFactor_14 : decode cX2_readFactor 14 = .ok (.if_icmp .eq 10, 3) := by decide +kernel
theorem dX2_readFactor_17 : decode cX2_readFactor 17 = .ok (.aload_n 0, 1) := by decide +kernel
theorem dX2_readFactor_18 : decode cX2_readFactor 18 = .ok (.iload_n 1, 1) := by decide +kernel
theorem dX2_readFactor_19 : decode cX2_readFactor 19 = .ok (.iload_n 2, 1) := by decide +kernel
theorem dX2_readFactor_20 : decode cX2_readFactor 20 = .ok (.invokevirtual 65, 3) := by decide +kernel
theorem dX2_readFactor_23 : decode cX2_readFactor 23 = .ok (.ireturn, 1) := by decide +kernel
theorem dX2_readFactor_24 : decode cX2_readFactor 24 = .ok (.iload_n 2, 1) := by decide +kernel
theorem dX2_readFactor_25 : decode cX2_readFactor 25 = .ok (.bipush 8, 2) := by decide +kernel
theorem dX2_readFactor_27 : decode cX2_readFactor 27 = .ok (.if_icmp .ge 12, 3) := by decide +kernel
theorem dX2_readFactor_30 : decode cX2_readFactor 30 = .ok (.iload_n 1, 1) := by decide +kernel
theorem dX2_readFactor_31 : decode cX2_readFactor 31 = .ok (.aload_n 0, 1) := by decide +kernel
theorem dX2_readFactor_32 : decode cX2_readFactor 32 = .ok (.getfield 17, 3) := by decide +kernel
theorem dX2_readFactor_35 : decode cX2_readFactor 35 = .ok (.arraylength, 1) := by decide +kernel
theorem dX2_readFactor_36 : decode cX2_readFactor 36 = .ok (.if_icmp .lt 9, 3) := by decide +kernel
theorem dX2_readFactor_39 : decode cX2_readFactor 39 = .ok (.aload_n 0, 1) := by decide +kernel
theorem dX2_readFactor_40 : decode cX2_readFactor 40 = .ok (.iload_n 2, 1) := by decide +kernel
theorem dX2_readFactor_41 : decode cX2_readFactor 41 = .ok (.invokevirtual 47, 3) := by decide +kernel
theorem dX2_readFactor_44 : decode cX2_readFactor 44 = .ok (.ireturn, 1) := by decide +kernel
theorem dX2_readFactor_45 : decode cX2_readFactor 45 = .ok (.aload_n 0, 1) := by decide +kernel
theorem dX2_readFactor_46 : decode cX2_readFactor 46 = .ok (.dup, 1) := by decide +kernel
theorem dX2_readFactor_47 : decode cX2_readFactor 47 = .ok (.getfield 32, 3) := by decide +kernel
theorem dX2_readFactor_50 : decode cX2_readFactor 50 = .ok (.iconst 1, 1) := by decide +kernel
theorem dX2_readFactor_51 : decode cX2_readFactor 51 = .ok (.iadd, 1) := by decide +kernel
theorem dX2_readFactor_52 : decode cX2_readFactor 52 = .ok (.putfield 32, 3) := by decide +kernel
theorem dX2_readFactor_55 : decode cX2_readFactor 55 = .ok (.iload_n 3, 1) := by decide +kernel
theorem dX2_readFactor_56 : decode cX2_readFactor 56 = .ok (.bipush 40, 2) := by decide +kernel
theorem dX2_readFactor_58 : decode cX2_readFactor 58 = .ok (.if_icmp .ne 12, 3) := by decide +kernel
theorem dX2_readFactor_61 : decode cX2_readFactor 61 = .ok (.aload_n 0, 1) := by decide +kernel
theorem dX2_readFactor_62 : decode cX2_readFactor 62 = .ok (.iload_n 1, 1) := by decide +kernel
theorem dX2_readFactor_63 : decode cX2_readFactor 63 = .ok (.iload_n 2, 1) := by decide +kernel
theorem dX2_readFactor_64 : decode cX2_readFactor 64 = .ok (.iconst 1, 1) := by decide +kernel
theorem dX2_readFactor_65 : decode cX2_readFactor 65 = .ok (.iadd, 1) := by decide +kernel
theorem dX2_readFactor_66 : decode cX2_readFactor 66 = .ok (.invokevirtual 68, 3) := by decide +kernel
theorem dX2_readFactor_69 : decode cX2_readFactor 69 = .ok (.ireturn, 1) := by decide +kernel
theorem dX2_readFactor_70 : decode cX2_readFactor 70 = .ok (.aload_n 0, 1) := by decide +kernel
theorem dX2_readFactor_71 : decode cX2_readFactor 71 = .ok (.iload_n 1, 1) := by decide +kernel
theorem dX2_readFactor_72 : decode cX2_readFactor 72 = .ok (.iload_n 2, 1) := by decide +kernel
theorem dX2_readFactor_73 : decode cX2_readFactor 73 = .ok (.iconst 1, 1) := by decide +kernel
theorem dX2_readFactor_74 : decode cX2_readFactor 74 = .ok (.iadd, 1) := by decide +kernel
theorem dX2_readFactor_75 : decode cX2_readFactor 75 = .ok (.invokevirtual 58, 3) := by decide +kernel
theorem dX2_readFactor_78 : decode cX2_readFactor 78 = .ok (.ifCond .ne 5, 3) := by decide +kernel
theorem dX2_readFactor_81 : decode cX2_readFactor 81 = .ok (.iconst 0, 1) := by decide +kernel
theorem dX2_readFactor_82 : decode cX2_readFactor 82 = .ok (.ireturn, 1) := by decide +kernel
theorem dX2_readFactor_83 : decode cX2_readFactor 83 = .ok (.aload_n 0, 1) := by decide +kernel
theorem dX2_readFactor_84 : decode cX2_readFactor 84 = .ok (.getfield 17, 3) := by decide +kernel
theorem dX2_readFactor_87 : decode cX2_readFactor 87 = .ok (.iload_n 1, 1) := by decide +kernel
theorem dX2_readFactor_88 : decode cX2_readFactor 88 = .ok (.aaload, 1) := by decide +kernel
theorem dX2_readFactor_89 : decode cX2_readFactor 89 = .ok (.invokevirtual 71, 3) := by decide +kernel
theorem dX2_readFactor_92 : decode cX2_readFactor 92 = .ok (.iconst 1, 1) := by decide +kernel
theorem dX2_readFactor_93 : decode cX2_readFactor 93 = .ok (.ireturn, 1) := by decide +kernel
theorem dX2_readBracket_0 : decode cX2_readBracket 0 = .ok (.aload_n 0, 1) := by decide +kernel
theorem dX2_readBracket_1 : decode cX2_readBracket 1 = .ok (.iload_n 1, 1) := by decide +kernel
theorem dX2_readBracket_2 : decode cX2_readBracket 2 = .ok (.iload_n 2, 1) := by decide +kernel
theorem dX2_readBracket_3 : decode cX2_readBracket 3 = .ok (.invokevirtual 39, 3) := by decide +kernel
theorem dX2_readBracket_6 : decode cX2_readBracket 6 = .ok (.ifCond .ne 5, 3) := by decide +kernel
theorem dX2_readBracket_9 : decode cX2_readBracket 9 = .ok (.iconst 0, 1) := by decide +kernel
theorem dX2_readBracket_10 : decode cX2_readBracket 10 = .ok (.ireturn, 1) := by decide +kernel
theorem dX2_readBracket_11 : decode cX2_readBracket 11 = .ok (.aload_n 0, 1) := by decide +kernel
theorem dX2_readBracket_12 : decode cX2_readBracket 12 = .ok (.invokevirtual 43, 3) := by decide +kernel
theorem dX2_readBracket_15 : decode cX2_readBracket 15 = .ok (.bipush 41, 2) := by decide +kernel
theorem dX2_readBracket_17 : decode cX2_readBracket 17 = .ok (.if_icmp .eq 9, 3) := by decide +kernel
theorem dX2_readBracket_20 : decode cX2_readBracket 20 = .ok (.aload_n 0, 1) := by decide +kernel
theorem dX2_readBracket_21 : decode cX2_readBracket 21 = .ok (.iload_n 2, 1) := by decide +kernel
theorem dX2_readBracket_22 : decode cX2_readBracket 22 = .ok (.invokevirtual 47, 3) := by decide +kernel
theorem dX2_readBracket_25 : decode cX2_readBracket 25 = .ok (.ireturn, 1) := by decide +kernel
theorem dX2_readBracket_26 : decode cX2_readBracket 26 = .ok (.aload_n 0, 1) := by decide +kernel
theorem dX2_readBracket_27 : decode cX2_readBracket 27 = .ok (.dup, 1) := by decide +kernel
theorem dX2_readBracket_28 : decode cX2_readBracket 28 = .ok (.getfield 32, 3) := by decide +kernel
theorem dX2_readBracket_31 : decode cX2_readBracket 31 = .ok (.iconst 1, 1) := by decide +kernel
theorem dX2_readBracket_32 : decode cX2_readBracket 32 = .ok (.iadd, 1) := by decide +kernel
theorem dX2_readBracket_33 : decode cX2_readBracket 33 = .ok (.putfield 32, 3) := by decide +kernel
theorem dX2_readBracket_36 : decode cX2_readBracket 36 = .ok (.iconst 1, 1) := by decide +kernel
theorem dX2_readBracket_37 : decode cX2_readBracket 37 = .ok (.ireturn, 1) := by decide +kernel
theorem dX2_readRow_0 : decode cX2_readRow 0 = .ok (.aload_n 0, 1) := by decide +kernel
theorem dX2_readRow_1 : decode cX2_readRow 1 = .ok (.iload_n 2, 1) := by decide +kernel
theorem dX2_readRow_2 : decode cX2_readRow 2 = .ok (.aload_n 0, 1) := by decide +kernel
theorem dX2_readRow_3 : decode cX2_readRow 3 = .ok (.getfield 29, 3) := by decide +kernel
theorem dX2_readRow_6 : decode cX2_readRow 6 = .ok (.iconst 1, 1) := by decide +kernel
theorem dX2_readRow_7 : decode cX2_readRow 7 = .ok (.isub, 1) := by decide +kernel
theorem dX2_readRow_8 : decode cX2_readRow 8 = .ok (.invokevirtual 74, 3) := by decide +kernel
theorem dX2_readRow_11 : decode cX2_readRow 11 = .ok (.istore_n 3, 1) := by decide +kernel
theorem dX2_readRow_12 : decode cX2_readRow 12 = .ok (.iload_n 3, 1) := by decide +kernel
theorem dX2_readRow_13 : decode cX2_readRow 13 = .ok (.ifCond .ge 5, 3) := by decide +kernel
theorem dX2_readRow_16 : decode cX2_readRow 16 = .ok (.iconst 0, 1) := by decide +kernel
theorem dX2_readRow_17 : decode cX2_readRow 17 = .ok (.ireturn, 1) := by decide +kernel
theorem dX2_readRow_18 : decode cX2_readRow 18 = .ok (.aload_n 0, 1) := by decide +kernel
theorem dX2_readRow_19 : decode cX2_readRow 19 = .ok (.invokevirtual 43, 3) := by decide +kernel
theorem dX2_readRow_22 : decode cX2_readRow 22 = .ok (.istore 4, 2) := by decide +kernel
theorem dX2_readRow_24 : decode cX2_readRow 24 = .ok (.iconst 0, 1) := by decide +kernel
theorem dX2_readRow_25 : decode cX2_readRow 25 = .ok (.istore 5, 2) := by decide +kernel
theorem dX2_readRow_27 : decode cX2_readRow 27 = .ok (.iload 4, 2) := by decide +kernel
theorem dX2_readRow_29 : decode cX2_readRow 29 = .ok (.bipush 60, 2) := by decide +kernel
theorem dX2_readRow_31 : decode cX2_readRow 31 = .ok (.if_icmp .eq 10, 3) := by decide +kernel
theorem dX2_readRow_34 : decode cX2_readRow 34 = .ok (.iload 4, 2) := by decide +kernel
theorem dX2_readRow_36 : decode cX2_readRow 36 = .ok (.bipush 62, 2) := by decide +kernel
theorem dX2_readRow_38 : decode cX2_readRow 38 = .ok (.if_icmp .ne 30, 3) := by decide +kernel
theorem dX2_readRow_41 : decode cX2_readRow 41 = .ok (.aload_n 0, 1) := by decide +kernel
theorem dX2_readRow_42 : decode cX2_readRow 42 = .ok (.dup, 1) := by decide +kernel
theorem dX2_readRow_43 : decode cX2_readRow 43 = .ok (.getfield 32, 3) := by decide +kernel
theorem dX2_readRow_46 : decode cX2_readRow 46 = .ok (.iconst 1, 1) := by decide +kernel
theorem dX2_readRow_47 : decode cX2_readRow 47 = .ok (.iadd, 1) := by decide +kernel
theorem dX2_readRow_48 : decode cX2_readRow 48 = .ok (.putfield 32, 3) := by decide +kernel
theorem dX2_readRow_51 : decode cX2_readRow 51 = .ok (.aload_n 0, 1) := by decide +kernel
theorem dX2_readRow_52 : decode cX2_readRow 52 = .ok (.iload_n 2, 1) := by decide +kernel
theorem dX2_readRow_53 : decode cX2_readRow 53 = .ok (.sipush 600, 3) := by decide +kernel
theorem dX2_readRow_56 : decode cX2_readRow 56 = .ok (.invokevirtual 74, 3) := by decide +kernel
theorem dX2_readRow_59 : decode cX2_readRow 59 = .ok (.istore 5, 2) := by decide +kernel
theorem dX2_readRow_61 : decode cX2_readRow 61 = .ok (.iload 5, 2) := by decide +kernel
theorem dX2_readRow_63 : decode cX2_readRow 63 = .ok (.ifCond .ge 5, 3) := by decide +kernel
theorem dX2_readRow_66 : decode cX2_readRow 66 = .ok (.iconst 0, 1) := by decide +kernel
theorem dX2_readRow_67 : decode cX2_readRow 67 = .ok (.ireturn, 1) := by decide +kernel
theorem dX2_readRow_68 : decode cX2_readRow 68 = .ok (.aload_n 0, 1) := by decide +kernel
theorem dX2_readRow_69 : decode cX2_readRow 69 = .ok (.getfield 35, 3) := by decide +kernel
theorem dX2_readRow_72 : decode cX2_readRow 72 = .ok (.ifCond .ne 51, 3) := by decide +kernel
theorem dX2_readRow_75 : decode cX2_readRow 75 = .ok (.iload_n 3, 1) := by decide +kernel
theorem dX2_readRow_76 : decode cX2_readRow 76 = .ok (.aload_n 0, 1) := by decide +kernel
theorem dX2_readRow_77 : decode cX2_readRow 77 = .ok (.getfield 21, 3) := by decide +kernel
theorem dX2_readRow_80 : decode cX2_readRow 80 = .ok (.arraylength, 1) := by decide +kernel
theorem dX2_readRow_81 : decode cX2_readRow 81 = .ok (.if_icmp .ge 42, 3) := by decide +kernel
theorem dX2_readRow_84 : decode cX2_readRow 84 = .ok (.iload_n 1, 1) := by decide +kernel
theorem dX2_readRow_85 : decode cX2_readRow 85 = .ok (.aload_n 0, 1) := by decide +kernel
theorem dX2_readRow_86 : decode cX2_readRow 86 = .ok (.getfield 17, 3) := by decide +kernel
theorem dX2_readRow_89 : decode cX2_readRow 89 = .ok (.arraylength, 1) := by decide +kernel
theorem dX2_readRow_90 : decode cX2_readRow 90 = .ok (.if_icmp .ge 33, 3) := by decide +kernel
theorem dX2_readRow_93 : decode cX2_readRow 93 = .ok (.aload_n 0, 1) := by decide +kernel
theorem dX2_readRow_94 : decode cX2_readRow 94 = .ok (.getfield 17, 3) := by decide +kernel
theorem dX2_readRow_97 : decode cX2_readRow 97 = .ok (.iload_n 1, 1) := by decide +kernel
theorem dX2_readRow_98 : decode cX2_readRow 98 = .ok (.aaload, 1) := by decide +kernel
theorem dX2_readRow_99 : decode cX2_readRow 99 = .ok (.aload_n 0, 1) := by decide +kernel
theorem dX2_readRow_100 : decode cX2_readRow 100 = .ok (.getfield 21, 3) := by decide +kernel
theorem dX2_readRow_103 : decode cX2_readRow 103 = .ok (.iload_n 3, 1) := by decide +kernel
theorem dX2_readRow_104 : decode cX2_readRow 104 = .ok (.aaload, 1) := by decide +kernel
theorem dX2_readRow_105 : decode cX2_readRow 105 = .ok (.iload 4, 2) := by decide +kernel
theorem dX2_readRow_107 : decode cX2_readRow 107 = .ok (.bipush 62, 2) := by decide +kernel
theorem dX2_readRow_109 : decode cX2_readRow 109 = .ok (.if_icmp .ne 9, 3) := by decide +kernel
theorem dX2_readRow_112 : decode cX2_readRow 112 = .ok (.iload 5, 2) := by decide +kernel
theorem dX2_readRow_114 : decode cX2_readRow 114 = .ok (.ineg, 1) := by decide +kernel
theorem dX2_readRow_115 : decode cX2_readRow 115 = .ok (.goto 5, 3) := by decide +kernel
theorem dX2_readRow_118 : decode cX2_readRow 118 = .ok (.iload 5, 2) := by decide +kernel
theorem dX2_readRow_120 : decode cX2_readRow 120 = .ok (.invokevirtual 78, 3) := by decide +kernel
theorem dX2_readRow_123 : decode cX2_readRow 123 = .ok (.iconst 1, 1) := by decide +kernel
theorem dX2_readRow_124 : decode cX2_readRow 124 = .ok (.ireturn, 1) := by decide +kernel
theorem dX2_readNumber_0 : decode cX2_readNumber 0 = .ok (.aload_n 0, 1) := by decide +kernel
theorem dX2_readNumber_1 : decode cX2_readNumber 1 = .ok (.invokevirtual 43, 3) := by decide +kernel
theorem dX2_readNumber_4 : decode cX2_readNumber 4 = .ok (.invokestatic 82, 3) := by decide +kernel
theorem dX2_readNumber_7 : decode cX2_readNumber 7 = .ok (.ifCond .ne 12, 3) := by decide +kernel
theorem dX2_readNumber_10 : decode cX2_readNumber 10 = .ok (.aload_n 0, 1) := by decide +kernel
theorem dX2_readNumber_11 : decode cX2_readNumber 11 = .ok (.iload_n 1, 1) := by decide +kernel
theorem dX2_readNumber_12 : decode cX2_readNumber 12 = .ok (.invokevirtual 47, 3) := by decide +kernel
theorem dX2_readNumber_15 : decode cX2_readNumber 15 = .ok (.pop, 1) := by decide +kernel
theorem dX2_readNumber_16 : decode cX2_readNumber 16 = .ok (.bipush (-9), 2) := by decide +kernel
theorem dX2_readNumber_18 : decode cX2_readNumber 18 = .ok (.ireturn, 1) := by decide +kernel
theorem dX2_readNumber_19 : decode cX2_readNumber 19 = .ok (.aload_n 0, 1) := by decide +kernel
theorem dX2_readNumber_20 : decode cX2_readNumber 20 = .ok (.getfield 32, 3) := by decide +kernel
theorem dX2_readNumber_23 : decode cX2_readNumber 23 = .ok (.istore_n 3, 1) := by decide +kernel
theorem dX2_readNumber_24 : decode cX2_readNumber 24 = .ok (.iconst 0, 1) := by decide +kernel
theorem dX2_readNumber_25 : decode cX2_readNumber 25 = .ok (.istore 4, 2) := by decide +kernel
theorem dX2_readNumber_27 : decode cX2_readNumber 27 = .ok (.iconst 0, 1) := by decide +kernel
theorem dX2_readNumber_28 : decode cX2_readNumber 28 = .ok (.istore 5, 2) := by decide +kernel
theorem dX2_readNumber_30 : decode cX2_readNumber 30 = .ok (.iload 5, 2) := by decide +kernel
theorem dX2_readNumber_32 : decode cX2_readNumber 32 = .ok (.iconst 3, 1) := by decide +kernel
theorem dX2_readNumber_33 : decode cX2_readNumber 33 = .ok (.if_icmp .ge 58, 3) := by decide +kernel
theorem dX2_readNumber_36 : decode cX2_readNumber 36 = .ok (.aload_n 0, 1) := by decide +kernel
theorem dX2_readNumber_37 : decode cX2_readNumber 37 = .ok (.invokevirtual 86, 3) := by decide +kernel
theorem dX2_readNumber_40 : decode cX2_readNumber 40 = .ok (.invokestatic 82, 3) := by decide +kernel
theorem dX2_readNumber_43 : decode cX2_readNumber 43 = .ok (.ifCond .eq 48, 3) := by decide +kernel
theorem dX2_readNumber_46 : decode cX2_readNumber 46 = .ok (.iload 5, 2) := by decide +kernel
theorem dX2_readNumber_48 : decode cX2_readNumber 48 = .ok (.iconst 1, 1) := by decide +kernel
theorem dX2_readNumber_49 : decode cX2_readNumber 49 = .ok (.if_icmp .ne 11, 3) := by decide +kernel
theorem dX2_readNumber_52 : decode cX2_readNumber 52 = .ok (.iload 4, 2) := by decide +kernel
theorem dX2_readNumber_54 : decode cX2_readNumber 54 = .ok (.ifCond .ne 6, 3) := by decide +kernel
theorem dX2_readNumber_57 : decode cX2_readNumber 57 = .ok (.goto 34, 3) := by decide +kernel
theorem dX2_readNumber_60 : decode cX2_readNumber 60 = .ok (.iload 4, 2) := by decide +kernel
theorem dX2_readNumber_62 : decode cX2_readNumber 62 = .ok (.bipush 10, 2) := by decide +kernel
theorem dX2_readNumber_64 : decode cX2_readNumber 64 = .ok (.imul, 1) := by decide +kernel
theorem dX2_readNumber_65 : decode cX2_readNumber 65 = .ok (.aload_n 0, 1) := by decide +kernel
theorem dX2_readNumber_66 : decode cX2_readNumber 66 = .ok (.invokevirtual 86, 3) := by decide +kernel
theorem dX2_readNumber_69 : decode cX2_readNumber 69 = .ok (.bipush 48, 2) := by decide +kernel
theorem dX2_readNumber_71 : decode cX2_readNumber 71 = .ok (.isub, 1) := by decide +kernel
theorem dX2_readNumber_72 : decode cX2_readNumber 72 = .ok (.iadd, 1) := by decide +kernel
theorem dX2_readNumber_73 : decode cX2_readNumber 73 = .ok (.istore 4, 2) := by decide +kernel
theorem dX2_readNumber_75 : decode cX2_readNumber 75 = .ok (.aload_n 0, 1) := by decide +kernel
theorem dX2_readNumber_76 : decode cX2_readNumber 76 = .ok (.dup, 1) := by decide +kernel
theorem dX2_readNumber_77 : decode cX2_readNumber 77 = .ok (.getfield 32, 3) := by decide +kernel
theorem dX2_readNumber_80 : decode cX2_readNumber 80 = .ok (.iconst 1, 1) := by decide +kernel
theorem dX2_readNumber_81 : decode cX2_readNumber 81 = .ok (.iadd, 1) := by decide +kernel
theorem dX2_readNumber_82 : decode cX2_readNumber 82 = .ok (.putfield 32, 3) := by decide +kernel
theorem dX2_readNumber_85 : decode cX2_readNumber 85 = .ok (.iinc 5 1, 3) := by decide +kernel
theorem dX2_readNumber_88 : decode cX2_readNumber 88 = .ok (.goto (-58), 3) := by decide +kernel
theorem dX2_readNumber_91 : decode cX2_readNumber 91 = .ok (.aload_n 0, 1) := by decide +kernel
theorem dX2_readNumber_92 : decode cX2_readNumber 92 = .ok (.invokevirtual 86, 3) := by decide +kernel
theorem dX2_readNumber_95 : decode cX2_readNumber 95 = .ok (.invokestatic 82, 3) := by decide +kernel
theorem dX2_readNumber_98 : decode cX2_readNumber 98 = .ok (.ifCond .eq 12, 3) := by decide +kernel
theorem dX2_readNumber_101 : decode cX2_readNumber 101 = .ok (.aload_n 0, 1) := by decide +kernel
theorem dX2_readNumber_102 : decode cX2_readNumber 102 = .ok (.iload_n 1, 1) := by decide +kernel
theorem dX2_readNumber_103 : decode cX2_readNumber 103 = .ok (.invokevirtual 47, 3) := by decide +kernel
theorem dX2_readNumber_106 : decode cX2_readNumber 106 = .ok (.pop, 1) := by decide +kernel
theorem dX2_readNumber_107 : decode cX2_readNumber 107 = .ok (.bipush (-9), 2) := by decide +kernel
theorem dX2_readNumber_109 : decode cX2_readNumber 109 = .ok (.ireturn, 1) := by decide +kernel
theorem dX2_readNumber_110 : decode cX2_readNumber 110 = .ok (.iload 4, 2) := by decide +kernel
theorem dX2_readNumber_112 : decode cX2_readNumber 112 = .ok (.iload_n 2, 1) := by decide +kernel
theorem dX2_readNumber_113 : decode cX2_readNumber 113 = .ok (.if_icmp .le 17, 3) := by decide +kernel
theorem dX2_readNumber_116 : decode cX2_readNumber 116 = .ok (.aload_n 0, 1) := by decide +kernel
theorem dX2_readNumber_117 : decode cX2_readNumber 117 = .ok (.getfield 35, 3) := by decide +kernel
theorem dX2_readNumber_120 : decode cX2_readNumber 120 = .ok (.ifCond .ne 10, 3) := by decide +kernel
theorem dX2_readNumber_123 : decode cX2_readNumber 123 = .ok (.aload_n 0, 1) := by decide +kernel
theorem dX2_readNumber_124 : decode cX2_readNumber 124 = .ok (.iconst 2, 1) := by decide +kernel
theorem dX2_readNumber_125 : decode cX2_readNumber 125 = .ok (.iload_n 3, 1) := by decide +kernel
theorem dX2_readNumber_126 : decode cX2_readNumber 126 = .ok (.iload_n 1, 1) := by decide +kernel
theorem dX2_readNumber_127 : decode cX2_readNumber 127 = .ok (.invokevirtual 89, 3) := by decide +kernel
theorem dX2_readNumber_130 : decode cX2_readNumber 130 = .ok (.iload 4, 2) := by decide +kernel
theorem dX2_readNumber_132 : decode cX2_readNumber 132 = .ok (.ireturn, 1) := by decide +kernel
theorem dX2_nextSign_0 : decode cX2_nextSign 0 = .ok (.aload_n 0, 1) := by decide +kernel
theorem dX2_nextSign_1 : decode cX2_nextSign 1 = .ok (.getfield 32, 3) := by decide +kernel
theorem dX2_nextSign_4 : decode cX2_nextSign 4 = .ok (.aload_n 0, 1) := by decide +kernel
theorem dX2_nextSign_5 : decode cX2_nextSign 5 = .ok (.getfield 25, 3) := by decide +kernel
theorem dX2_nextSign_8 : decode cX2_nextSign 8 = .ok (.if_icmp .ge 25, 3) := by decide +kernel
theorem dX2_nextSign_11 : decode cX2_nextSign 11 = .ok (.aload_n 0, 1) := by decide +kernel
theorem dX2_nextSign_12 : decode cX2_nextSign 12 = .ok (.invokevirtual 86, 3) := by decide +kernel
theorem dX2_nextSign_15 : decode cX2_nextSign 15 = .ok (.bipush 32, 2) := by decide +kernel
theorem dX2_nextSign_17 : decode cX2_nextSign 17 = .ok (.if_icmp .ne 16, 3) := by decide +kernel
theorem dX2_nextSign_20 : decode cX2_nextSign 20 = .ok (.aload_n 0, 1) := by decide +kernel
theorem dX2_nextSign_21 : decode cX2_nextSign 21 = .ok (.dup, 1) := by decide +kernel
theorem dX2_nextSign_22 : decode cX2_nextSign 22 = .ok (.getfield 32, 3) := by decide +kernel
theorem dX2_nextSign_25 : decode cX2_nextSign 25 = .ok (.iconst 1, 1) := by decide +kernel
theorem dX2_nextSign_26 : decode cX2_nextSign 26 = .ok (.iadd, 1) := by decide +kernel
theorem dX2_nextSign_27 : decode cX2_nextSign 27 = .ok (.putfield 32, 3) := by decide +kernel
theorem dX2_nextSign_30 : decode cX2_nextSign 30 = .ok (.goto (-30), 3) := by decide +kernel
theorem dX2_nextSign_33 : decode cX2_nextSign 33 = .ok (.aload_n 0, 1) := by decide +kernel
theorem dX2_nextSign_34 : decode cX2_nextSign 34 = .ok (.invokevirtual 86, 3) := by decide +kernel
theorem dX2_nextSign_37 : decode cX2_nextSign 37 = .ok (.ireturn, 1) := by decide +kernel
theorem dX2_signHere_0 : decode cX2_signHere 0 = .ok (.aload_n 0, 1) := by decide +kernel
theorem dX2_signHere_1 : decode cX2_signHere 1 = .ok (.getfield 32, 3) := by decide +kernel
theorem dX2_signHere_4 : decode cX2_signHere 4 = .ok (.aload_n 0, 1) := by decide +kernel
theorem dX2_signHere_5 : decode cX2_signHere 5 = .ok (.getfield 25, 3) := by decide +kernel
theorem dX2_signHere_8 : decode cX2_signHere 8 = .ok (.if_icmp .ge 27, 3) := by decide +kernel
theorem dX2_signHere_11 : decode cX2_signHere 11 = .ok (.aload_n 0, 1) := by decide +kernel
theorem dX2_signHere_12 : decode cX2_signHere 12 = .ok (.getfield 32, 3) := by decide +kernel
theorem dX2_signHere_15 : decode cX2_signHere 15 = .ok (.aload_n 0, 1) := by decide +kernel
theorem dX2_signHere_16 : decode cX2_signHere 16 = .ok (.getfield 9, 3) := by decide +kernel
theorem dX2_signHere_19 : decode cX2_signHere 19 = .ok (.arraylength, 1) := by decide +kernel
theorem dX2_signHere_20 : decode cX2_signHere 20 = .ok (.if_icmp .ge 15, 3) := by decide +kernel
theorem dX2_signHere_23 : decode cX2_signHere 23 = .ok (.aload_n 0, 1) := by decide +kernel
theorem dX2_signHere_24 : decode cX2_signHere 24 = .ok (.getfield 9, 3) := by decide +kernel
theorem dX2_signHere_27 : decode cX2_signHere 27 = .ok (.aload_n 0, 1) := by decide +kernel
theorem dX2_signHere_28 : decode cX2_signHere 28 = .ok (.getfield 32, 3) := by decide +kernel
theorem dX2_signHere_31 : decode cX2_signHere 31 = .ok (.caload, 1) := by decide +kernel
theorem dX2_signHere_32 : decode cX2_signHere 32 = .ok (.goto 4, 3) := by decide +kernel
theorem dX2_signHere_35 : decode cX2_signHere 35 = .ok (.iconst 0, 1) := by decide +kernel
theorem dX2_signHere_36 : decode cX2_signHere 36 = .ok (.ireturn, 1) := by decide +kernel
theorem dX2_isDigit_0 : decode cX2_isDigit 0 = .ok (.iload_n 0, 1) := by decide +kernel
theorem dX2_isDigit_1 : decode cX2_isDigit 1 = .ok (.bipush 48, 2) := by decide +kernel
theorem dX2_isDigit_3 : decode cX2_isDigit 3 = .ok (.if_icmp .lt 13, 3) := by decide +kernel
theorem dX2_isDigit_6 : decode cX2_isDigit 6 = .ok (.iload_n 0, 1) := by decide +kernel
theorem dX2_isDigit_7 : decode cX2_isDigit 7 = .ok (.bipush 57, 2) := by decide +kernel
theorem dX2_isDigit_9 : decode cX2_isDigit 9 = .ok (.if_icmp .gt 7, 3) := by decide +kernel
theorem dX2_isDigit_12 : decode cX2_isDigit 12 = .ok (.iconst 1, 1) := by decide +kernel
theorem dX2_isDigit_13 : decode cX2_isDigit 13 = .ok (.goto 4, 3) := by decide +kernel
theorem dX2_isDigit_16 : decode cX2_isDigit 16 = .ok (.iconst 0, 1) := by decide +kernel
theorem dX2_isDigit_17 : decode cX2_isDigit 17 = .ok (.ireturn, 1) := by decide +kernel
theorem dX2_breakOff_0 : decode cX2_breakOff 0 = .ok (.aload_n 0, 1) := by decide +kernel
theorem dX2_breakOff_1 : decode cX2_breakOff 1 = .ok (.iconst 1, 1) := by decide +kernel
theorem dX2_breakOff_2 : decode cX2_breakOff 2 = .ok (.aload_n 0, 1) := by decide +kernel
theorem dX2_breakOff_3 : decode cX2_breakOff 3 = .ok (.getfield 32, 3) := by decide +kernel
theorem dX2_breakOff_6 : decode cX2_breakOff 6 = .ok (.iload_n 1, 1) := by decide +kernel
theorem dX2_breakOff_7 : decode cX2_breakOff 7 = .ok (.invokevirtual 89, 3) := by decide +kernel
theorem dX2_breakOff_10 : decode cX2_breakOff 10 = .ok (.iconst 0, 1) := by decide +kernel
theorem dX2_breakOff_11 : decode cX2_breakOff 11 = .ok (.ireturn, 1) := by decide +kernel
theorem dX2_fail_0 : decode cX2_fail 0 = .ok (.aload_n 0, 1) := by decide +kernel
theorem dX2_fail_1 : decode cX2_fail 1 = .ok (.iconst 1, 1) := by decide +kernel
theorem dX2_fail_2 : decode cX2_fail 2 = .ok (.putfield 35, 3) := by decide +kernel
theorem dX2_fail_5 : decode cX2_fail 5 = .ok (.aload_n 0, 1) := by decide +kernel
theorem dX2_fail_6 : decode cX2_fail 6 = .ok (.iload_n 1, 1) := by decide +kernel
theorem dX2_fail_7 : decode cX2_fail 7 = .ok (.putfield 93, 3) := by decide +kernel
theorem dX2_fail_10 : decode cX2_fail 10 = .ok (.aload_n 0, 1) := by decide +kernel
theorem dX2_fail_11 : decode cX2_fail 11 = .ok (.iload_n 2, 1) := by decide +kernel
theorem dX2_fail_12 : decode cX2_fail 12 = .ok (.putfield 96, 3) := by decide +kernel
theorem dX2_fail_15 : decode cX2_fail 15 = .ok (.aload_n 0, 1) := by decide +kernel
theorem dX2_fail_16 : decode cX2_fail 16 = .ok (.iload_n 3, 1) := by decide +kernel
theorem dX2_fail_17 : decode cX2_fail 17 = .ok (.putfield 99, 3) := by decide +kernel
theorem dX2_fail_20 : decode cX2_fail 20 = .ok (.return_, 1) := by decide +kernel
theorem dX3_init_0 : decode cX3_init 0 = .ok (.aload_n 0, 1) := by decide +kernel
theorem dX3_init_1 : decode cX3_init 1 = .ok (.invokespecial 3, 3) := by decide +kernel
theorem dX3_init_4 : decode cX3_init 4 = .ok (.aload_n 0, 1) := by decide +kernel
theorem dX3_init_5 : decode cX3_init 5 = .ok (.iconst 5, 1) := by decide +kernel
theorem dX3_init_6 : decode cX3_init 6 = .ok (.anewarray 9, 3) := by decide +kernel
theorem dX3_init_9 : decode cX3_init 9 = .ok (.putfield 11, 3) := by decide +kernel
theorem dX3_init_12 : decode cX3_init 12 = .ok (.iconst 0, 1) := by decide +kernel
theorem dX3_init_13 : decode cX3_init 13 = .ok (.istore_n 1, 1) := by decide +kernel
theorem dX3_init_14 : decode cX3_init 14 = .ok (.iload_n 1, 1) := by decide +kernel
theorem dX3_init_15 : decode cX3_init 15 = .ok (.aload_n 0, 1) := by decide +kernel
theorem dX3_init_16 : decode cX3_init 16 = .ok (.getfield 11, 3) := by decide +kernel
theorem dX3_init_19 : decode cX3_init 19 = .ok (.arraylength, 1) := by decide +kernel
theorem dX3_init_20 : decode cX3_init 20 = .ok (.if_icmp .ge 22, 3) := by decide +kernel
theorem dX3_init_23 : decode cX3_init 23 = .ok (.aload_n 0, 1) := by decide +kernel
theorem dX3_init_24 : decode cX3_init 24 = .ok (.getfield 11, 3) := by decide +kernel
theorem dX3_init_27 : decode cX3_init 27 = .ok (.iload_n 1, 1) := by decide +kernel
theorem dX3_init_28 : decode cX3_init 28 = .ok (.new 9, 3) := by decide +kernel
theorem dX3_init_31 : decode cX3_init 31 = .ok (.dup, 1) := by decide +kernel
theorem dX3_init_32 : decode cX3_init 32 = .ok (.invokespecial 17, 3) := by decide +kernel
theorem dX3_init_35 : decode cX3_init 35 = .ok (.aastore, 1) := by decide +kernel
theorem dX3_init_36 : decode cX3_init 36 = .ok (.iinc 1 1, 3) := by decide +kernel
theorem dX3_init_39 : decode cX3_init 39 = .ok (.goto (-25), 3) := by decide +kernel
theorem dX3_init_42 : decode cX3_init 42 = .ok (.return_, 1) := by decide +kernel
theorem dX3_add_0 : decode cX3_add 0 = .ok (.aload_n 0, 1) := by decide +kernel
theorem dX3_add_1 : decode cX3_add 1 = .ok (.getfield 18, 3) := by decide +kernel
theorem dX3_add_4 : decode cX3_add 4 = .ok (.iconst 5, 1) := by decide +kernel
theorem dX3_add_5 : decode cX3_add 5 = .ok (.if_icmp .ne 7, 3) := by decide +kernel
theorem dX3_add_8 : decode cX3_add 8 = .ok (.aload_n 0, 1) := by decide +kernel
theorem dX3_add_9 : decode cX3_add 9 = .ok (.invokevirtual 22, 3) := by decide +kernel
theorem dX3_add_12 : decode cX3_add 12 = .ok (.aload_n 0, 1) := by decide +kernel
theorem dX3_add_13 : decode cX3_add 13 = .ok (.getfield 11, 3) := by decide +kernel
theorem dX3_add_16 : decode cX3_add 16 = .ok (.aload_n 0, 1) := by decide +kernel
theorem dX3_add_17 : decode cX3_add 17 = .ok (.getfield 18, 3) := by decide +kernel
theorem dX3_add_20 : decode cX3_add 20 = .ok (.aaload, 1) := by decide +kernel
theorem dX3_add_21 : decode cX3_add 21 = .ok (.astore 4, 2) := by decide +kernel
theorem dX3_add_23 : decode cX3_add 23 = .ok (.aload 4, 2) := by decide +kernel
theorem dX3_add_25 : decode cX3_add 25 = .ok (.iload_n 1, 1) := by decide +kernel
theorem dX3_add_26 : decode cX3_add 26 = .ok (.putfield 25, 3) := by decide +kernel
theorem dX3_add_29 : decode cX3_add 29 = .ok (.aload 4, 2) := by decide +kernel
theorem dX3_add_31 : decode cX3_add 31 = .ok (.iload_n 2, 1) := by decide +kernel
theorem dX3_add_32 : decode cX3_add 32 = .ok (.putfield 28, 3) := by decide +kernel
theorem dX3_add_35 : decode cX3_add 35 = .ok (.aload 4, 2) := by decide +kernel
theorem dX3_add_37 : decode cX3_add 37 = .ok (.getfield 31, 3) := by decide +kernel
theorem dX3_add_40 : decode cX3_add 40 = .ok (.aload_n 3, 1) := by decide +kernel
theorem dX3_add_41 : decode cX3_add 41 = .ok (.invokevirtual 35, 3) := by decide +kernel
theorem dX3_add_44 : decode cX3_add 44 = .ok (.aload_n 0, 1) := by decide +kernel
theorem dX3_add_45 : decode cX3_add 45 = .ok (.dup, 1) := by decide +kernel
theorem dX3_add_46 : decode cX3_add 46 = .ok (.getfield 18, 3) := by decide +kernel
theorem dX3_add_49 : decode cX3_add 49 = .ok (.iconst 1, 1) := by decide +kernel
theorem dX3_add_50 : decode cX3_add 50 = .ok (.iadd, 1) := by decide +kernel
theorem dX3_add_51 : decode cX3_add 51 = .ok (.putfield 18, 3) := by decide +kernel
theorem dX3_add_54 : decode cX3_add 54 = .ok (.return_, 1) := by decide +kernel
theorem dX3_dropOldest_0 : decode cX3_dropOldest 0 = .ok (.aload_n 0, 1) := by decide +kernel
theorem dX3_dropOldest_1 : decode cX3_dropOldest 1 = .ok (.getfield 11, 3) := by decide +kernel
theorem dX3_dropOldest_4 : decode cX3_dropOldest 4 = .ok (.iconst 0, 1) := by decide +kernel
theorem dX3_dropOldest_5 : decode cX3_dropOldest 5 = .ok (.aaload, 1) := by decide +kernel
theorem dX3_dropOldest_6 : decode cX3_dropOldest 6 = .ok (.astore_n 1, 1) := by decide +kernel
theorem dX3_dropOldest_7 : decode cX3_dropOldest 7 = .ok (.iconst 1, 1) := by decide +kernel
theorem dX3_dropOldest_8 : decode cX3_dropOldest 8 = .ok (.istore_n 2, 1) := by decide +kernel
theorem dX3_dropOldest_9 : decode cX3_dropOldest 9 = .ok (.iload_n 2, 1) := by decide +kernel
theorem dX3_dropOldest_10 : decode cX3_dropOldest 10 = .ok (.aload_n 0, 1) := by decide +kernel
theorem dX3_dropOldest_11 : decode cX3_dropOldest 11 = .ok (.getfield 11, 3) := by decide +kernel
theorem dX3_dropOldest_14 : decode cX3_dropOldest 14 = .ok (.arraylength, 1) := by decide +kernel
theorem dX3_dropOldest_15 : decode cX3_dropOldest 15 = .ok (.if_icmp .ge 23, 3) := by decide +kernel
theorem dX3_dropOldest_18 : decode cX3_dropOldest 18 = .ok (.aload_n 0, 1) := by decide +kernel
theorem dX3_dropOldest_19 : decode cX3_dropOldest 19 = .ok (.getfield 11, 3) := by decide +kernel
theorem dX3_dropOldest_22 : decode cX3_dropOldest 22 = .ok (.iload_n 2, 1) := by decide +kernel
theorem dX3_dropOldest_23 : decode cX3_dropOldest 23 = .ok (.iconst 1, 1) := by decide +kernel
theorem dX3_dropOldest_24 : decode cX3_dropOldest 24 = .ok (.isub, 1) := by decide +kernel
theorem dX3_dropOldest_25 : decode cX3_dropOldest 25 = .ok (.aload_n 0, 1) := by decide +kernel
theorem dX3_dropOldest_26 : decode cX3_dropOldest 26 = .ok (.getfield 11, 3) := by decide +kernel
theorem dX3_dropOldest_29 : decode cX3_dropOldest 29 = .ok (.iload_n 2, 1) := by decide +kernel
theorem dX3_dropOldest_30 : decode cX3_dropOldest 30 = .ok (.aaload, 1) := by decide +kernel
theorem dX3_dropOldest_31 : decode cX3_dropOldest 31 = .ok (.aastore, 1) := by decide +kernel
theorem dX3_dropOldest_32 : decode cX3_dropOldest 32 = .ok (.iinc 2 1, 3) := by decide +kernel
theorem dX3_dropOldest_35 : decode cX3_dropOldest 35 = .ok (.goto (-26), 3) := by decide +kernel
theorem dX3_dropOldest_38 : decode cX3_dropOldest 38 = .ok (.aload_n 0, 1) := by decide +kernel
theorem dX3_dropOldest_39 : decode cX3_dropOldest 39 = .ok (.getfield 11, 3) := by decide +kernel
theorem dX3_dropOldest_42 : decode cX3_dropOldest 42 = .ok (.iconst 4, 1) := by decide +kernel
theorem dX3_dropOldest_43 : decode cX3_dropOldest 43 = .ok (.aload_n 1, 1) := by decide +kernel
theorem dX3_dropOldest_44 : decode cX3_dropOldest 44 = .ok (.aastore, 1) := by decide +kernel
theorem dX3_dropOldest_45 : decode cX3_dropOldest 45 = .ok (.aload_n 0, 1) := by decide +kernel
theorem dX3_dropOldest_46 : decode cX3_dropOldest 46 = .ok (.dup, 1) := by decide +kernel
theorem dX3_dropOldest_47 : decode cX3_dropOldest 47 = .ok (.getfield 18, 3) := by decide +kernel
theorem dX3_dropOldest_50 : decode cX3_dropOldest 50 = .ok (.iconst 1, 1) := by decide +kernel
theorem dX3_dropOldest_51 : decode cX3_dropOldest 51 = .ok (.isub, 1) := by decide +kernel
theorem dX3_dropOldest_52 : decode cX3_dropOldest 52 = .ok (.putfield 18, 3) := by decide +kernel
theorem dX3_dropOldest_55 : decode cX3_dropOldest 55 = .ok (.return_, 1) := by decide +kernel
theorem dX3_removeLatest_0 : decode cX3_removeLatest 0 = .ok (.aload_n 0, 1) := by decide +kernel
theorem dX3_removeLatest_1 : decode cX3_removeLatest 1 = .ok (.iconst 0, 1) := by decide +kernel
theorem dX3_removeLatest_2 : decode cX3_removeLatest 2 = .ok (.aload_n 0, 1) := by decide +kernel
theorem dX3_removeLatest_3 : decode cX3_removeLatest 3 = .ok (.getfield 18, 3) := by decide +kernel
theorem dX3_removeLatest_6 : decode cX3_removeLatest 6 = .ok (.iconst 1, 1) := by decide +kernel
theorem dX3_removeLatest_7 : decode cX3_removeLatest 7 = .ok (.isub, 1) := by decide +kernel
theorem dX3_removeLatest_8 : decode cX3_removeLatest 8 = .ok (.invokestatic 41, 3) := by decide +kernel
theorem dX3_removeLatest_11 : decode cX3_removeLatest 11 = .ok (.putfield 18, 3) := by decide +kernel
theorem dX3_removeLatest_14 : decode cX3_removeLatest 14 = .ok (.aload_n 0, 1) := by decide +kernel
theorem dX3_removeLatest_15 : decode cX3_removeLatest 15 = .ok (.getfield 11, 3) := by decide +kernel
theorem dX3_removeLatest_18 : decode cX3_removeLatest 18 = .ok (.aload_n 0, 1) := by decide +kernel
theorem dX3_removeLatest_19 : decode cX3_removeLatest 19 = .ok (.getfield 18, 3) := by decide +kernel
theorem dX3_removeLatest_22 : decode cX3_removeLatest 22 = .ok (.aaload, 1) := by decide +kernel
theorem dX3_removeLatest_23 : decode cX3_removeLatest 23 = .ok (.areturn, 1) := by decide +kernel
theorem dX4_isLiteral_0 : decode cX4_isLiteral 0 = .ok (.iload_n 0, 1) := by decide +kernel
theorem dX4_isLiteral_1 : decode cX4_isLiteral 1 = .ok (.ifCond .eq 14, 3) := by decide +kernel
theorem dX4_isLiteral_4 : decode cX4_isLiteral 4 = .ok (.iload_n 0, 1) := by decide +kernel
theorem dX4_isLiteral_5 : decode cX4_isLiteral 5 = .ok (.sipush 32767, 3) := by decide +kernel
theorem dX4_isLiteral_8 : decode cX4_isLiteral 8 = .ok (.if_icmp .eq 7, 3) := by decide +kernel
theorem dX4_isLiteral_11 : decode cX4_isLiteral 11 = .ok (.iconst 1, 1) := by decide +kernel
theorem dX4_isLiteral_12 : decode cX4_isLiteral 12 = .ok (.goto 4, 3) := by decide +kernel
theorem dX4_isLiteral_15 : decode cX4_isLiteral 15 = .ok (.iconst 0, 1) := by decide +kernel
theorem dX4_isLiteral_16 : decode cX4_isLiteral 16 = .ok (.ireturn, 1) := by decide +kernel
theorem dX4_endOf_0 : decode cX4_endOf 0 = .ok (.aload_n 0, 1) := by decide +kernel
theorem dX4_endOf_1 : decode cX4_endOf 1 = .ok (.invokevirtual 9, 3) := by decide +kernel
theorem dX4_endOf_4 : decode cX4_endOf 4 = .ok (.istore_n 2, 1) := by decide +kernel
theorem dX4_endOf_5 : decode cX4_endOf 5 = .ok (.iload_n 1, 1) := by decide +kernel
theorem dX4_endOf_6 : decode cX4_endOf 6 = .ok (.iload_n 2, 1) := by decide +kernel
theorem dX4_endOf_7 : decode cX4_endOf 7 = .ok (.if_icmp .lt 6, 3) := by decide +kernel
theorem dX4_endOf_10 : decode cX4_endOf 10 = .ok (.bipush 40, 2) := by decide +kernel
theorem dX4_endOf_12 : decode cX4_endOf 12 = .ok (.ireturn, 1) := by decide +kernel
theorem dX4_endOf_13 : decode cX4_endOf 13 = .ok (.aload_n 0, 1) := by decide +kernel
theorem dX4_endOf_14 : decode cX4_endOf 14 = .ok (.iload_n 1, 1) := by decide +kernel
theorem dX4_endOf_15 : decode cX4_endOf 15 = .ok (.invokevirtual 15, 3) := by decide +kernel
theorem dX4_endOf_18 : decode cX4_endOf 18 = .ok (.istore_n 3, 1) := by decide +kernel
theorem dX4_endOf_19 : decode cX4_endOf 19 = .ok (.iload_n 3, 1) := by decide +kernel
theorem dX4_endOf_20 : decode cX4_endOf 20 = .ok (.invokestatic 19, 3) := by decide +kernel
theorem dX4_endOf_23 : decode cX4_endOf 23 = .ok (.ifCond .eq 7, 3) := by decide +kernel
theorem dX4_endOf_26 : decode cX4_endOf 26 = .ok (.iload_n 1, 1) := by decide +kernel
theorem dX4_endOf_27 : decode cX4_endOf 27 = .ok (.iconst 1, 1) := by decide +kernel
theorem dX4_endOf_28 : decode cX4_endOf 28 = .ok (.iadd, 1) := by decide +kernel
theorem dX4_endOf_29 : decode cX4_endOf 29 = .ok (.ireturn, 1) := by decide +kernel
theorem dX4_endOf_30 : decode cX4_endOf 30 = .ok (.iload_n 2, 1) := by decide +kernel
theorem dX4_endOf_31 : decode cX4_endOf 31 = .ok (.iload_n 1, 1) := by decide +kernel
theorem dX4_endOf_32 : decode cX4_endOf 32 = .ok (.bipush 20, 2) := by decide +kernel
theorem dX4_endOf_34 : decode cX4_endOf 34 = .ok (.iadd, 1) := by decide +kernel
theorem dX4_endOf_35 : decode cX4_endOf 35 = .ok (.invokestatic 25, 3) := by decide +kernel
theorem dX4_endOf_38 : decode cX4_endOf 38 = .ok (.istore 4, 2) := by decide +kernel
theorem dX4_endOf_40 : decode cX4_endOf 40 = .ok (.iload_n 1, 1) := by decide +kernel
theorem dX4_endOf_41 : decode cX4_endOf 41 = .ok (.iconst 1, 1) := by decide +kernel
theorem dX4_endOf_42 : decode cX4_endOf 42 = .ok (.iadd, 1) := by decide +kernel
theorem dX4_endOf_43 : decode cX4_endOf 43 = .ok (.istore 5, 2) := by decide +kernel
theorem dX4_endOf_45 : decode cX4_endOf 45 = .ok (.iload 5, 2) := by decide +kernel
theorem dX4_endOf_47 : decode cX4_endOf 47 = .ok (.iload 4, 2) := by decide +kernel
theorem dX4_endOf_49 : decode cX4_endOf 49 = .ok (.if_icmp .ge 22, 3) := by decide +kernel
theorem dX4_endOf_52 : decode cX4_endOf 52 = .ok (.aload_n 0, 1) := by decide +kernel
theorem dX4_endOf_53 : decode cX4_endOf 53 = .ok (.iload 5, 2) := by decide +kernel
theorem dX4_endOf_55 : decode cX4_endOf 55 = .ok (.invokevirtual 15, 3) := by decide +kernel
theorem dX4_endOf_58 : decode cX4_endOf 58 = .ok (.iload_n 3, 1) := by decide +kernel
theorem dX4_endOf_59 : decode cX4_endOf 59 = .ok (.if_icmp .eq 6, 3) := by decide +kernel
theorem dX4_endOf_62 : decode cX4_endOf 62 = .ok (.iload 5, 2) := by decide +kernel
theorem dX4_endOf_64 : decode cX4_endOf 64 = .ok (.ireturn, 1) := by decide +kernel
theorem dX4_endOf_65 : decode cX4_endOf 65 = .ok (.iinc 5 1, 3) := by decide +kernel
theorem dX4_endOf_68 : decode cX4_endOf 68 = .ok (.goto (-23), 3) := by decide +kernel
theorem dX4_endOf_71 : decode cX4_endOf 71 = .ok (.iload 4, 2) := by decide +kernel
theorem dX4_endOf_73 : decode cX4_endOf 73 = .ok (.ireturn, 1) := by decide +kernel
theorem dX4_size_0 : decode cX4_size 0 = .ok (.aload_n 0, 1) := by decide +kernel
theorem dX4_size_1 : decode cX4_size 1 = .ok (.invokestatic 31, 3) := by decide +kernel
theorem dX4_size_4 : decode cX4_size 4 = .ok (.aload_n 0, 1) := by decide +kernel
theorem dX4_size_5 : decode cX4_size 5 = .ok (.iconst 0, 1) := by decide +kernel
theorem dX4_size_6 : decode cX4_size 6 = .ok (.invokestatic 35, 3) := by decide +kernel
theorem dX4_size_9 : decode cX4_size 9 = .ok (.iadd, 1) := by decide +kernel
theorem dX4_size_10 : decode cX4_size 10 = .ok (.aload_n 0, 1) := by decide +kernel
theorem dX4_size_11 : decode cX4_size 11 = .ok (.sipush 32767, 3) := by decide +kernel
theorem dX4_size_14 : decode cX4_size 14 = .ok (.invokestatic 35, 3) := by decide +kernel
theorem dX4_size_17 : decode cX4_size 17 = .ok (.iadd, 1) := by decide +kernel
theorem dX4_size_18 : decode cX4_size 18 = .ok (.ireturn, 1) := by decide +kernel
theorem dX4_literals_0 : decode cX4_literals 0 = .ok (.iconst 0, 1) := by decide +kernel
theorem dX4_literals_1 : decode cX4_literals 1 = .ok (.istore_n 1, 1) := by decide +kernel
theorem dX4_literals_2 : decode cX4_literals 2 = .ok (.aload_n 0, 1) := by decide +kernel
theorem dX4_literals_3 : decode cX4_literals 3 = .ok (.invokevirtual 9, 3) := by decide +kernel
theorem dX4_literals_6 : decode cX4_literals 6 = .ok (.istore_n 2, 1) := by decide +kernel
theorem dX4_literals_7 : decode cX4_literals 7 = .ok (.iconst 0, 1) := by decide +kernel
theorem dX4_literals_8 : decode cX4_literals 8 = .ok (.istore_n 3, 1) := by decide +kernel
theorem dX4_literals_9 : decode cX4_literals 9 = .ok (.iload_n 3, 1) := by decide +kernel
theorem dX4_literals_10 : decode cX4_literals 10 = .ok (.iload_n 2, 1) := by decide +kernel
theorem dX4_literals_11 : decode cX4_literals 11 = .ok (.if_icmp .ge 23, 3) := by decide +kernel
theorem dX4_literals_14 : decode cX4_literals 14 = .ok (.aload_n 0, 1) := by decide +kernel
theorem dX4_literals_15 : decode cX4_literals 15 = .ok (.iload_n 3, 1) := by decide +kernel
theorem dX4_literals_16 : decode cX4_literals 16 = .ok (.invokevirtual 15, 3) := by decide +kernel
theorem dX4_literals_19 : decode cX4_literals 19 = .ok (.invokestatic 19, 3) := by decide +kernel
theorem dX4_literals_22 : decode cX4_literals 22 = .ok (.ifCond .eq 6, 3) := by decide +kernel
theorem dX4_literals_25 : decode cX4_literals 25 = .ok (.iinc 1 1, 3) := by decide +kernel
theorem dX4_literals_28 : decode cX4_literals 28 = .ok (.iinc 3 1, 3) := by decide +kernel
theorem dX4_literals_31 : decode cX4_literals 31 = .ok (.goto (-22), 3) := by decide +kernel
theorem dX4_literals_34 : decode cX4_literals 34 = .ok (.iload_n 1, 1) := by decide +kernel
theorem dX4_literals_35 : decode cX4_literals 35 = .ok (.ireturn, 1) := by decide +kernel
theorem dX4_fillsOf_0 : decode cX4_fillsOf 0 = .ok (.iconst 0, 1) := by decide +kernel
theorem dX4_fillsOf_1 : decode cX4_fillsOf 1 = .ok (.istore_n 2, 1) := by decide +kernel
theorem dX4_fillsOf_2 : decode cX4_fillsOf 2 = .ok (.iconst 0, 1) := by decide +kernel
theorem dX4_fillsOf_3 : decode cX4_fillsOf 3 = .ok (.istore_n 3, 1) := by decide +kernel
theorem dX4_fillsOf_4 : decode cX4_fillsOf 4 = .ok (.aload_n 0, 1) := by decide +kernel
theorem dX4_fillsOf_5 : decode cX4_fillsOf 5 = .ok (.invokevirtual 9, 3) := by decide +kernel
theorem dX4_fillsOf_8 : decode cX4_fillsOf 8 = .ok (.istore 4, 2) := by decide +kernel
theorem dX4_fillsOf_10 : decode cX4_fillsOf 10 = .ok (.iconst 0, 1) := by decide +kernel
theorem dX4_fillsOf_11 : decode cX4_fillsOf 11 = .ok (.istore 5, 2) := by decide +kernel
theorem dX4_fillsOf_13 : decode cX4_fillsOf 13 = .ok (.iload 5, 2) := by decide +kernel
theorem dX4_fillsOf_15 : decode cX4_fillsOf 15 = .ok (.iload 4, 2) := by decide +kernel
theorem dX4_fillsOf_17 : decode cX4_fillsOf 17 = .ok (.if_icmp .ge 40, 3) := by decide +kernel
theorem dX4_fillsOf_20 : decode cX4_fillsOf 20 = .ok (.iload 5, 2) := by decide +kernel
theorem dX4_fillsOf_22 : decode cX4_fillsOf 22 = .ok (.iload_n 3, 1) := by decide +kernel
theorem dX4_fillsOf_23 : decode cX4_fillsOf 23 = .ok (.if_icmp .ne 28, 3) := by decide +kernel
theorem dX4_fillsOf_26 : decode cX4_fillsOf 26 = .ok (.aload_n 0, 1) := by decide +kernel
theorem dX4_fillsOf_27 : decode cX4_fillsOf 27 = .ok (.iload 5, 2) := by decide +kernel
theorem dX4_fillsOf_29 : decode cX4_fillsOf 29 = .ok (.invokestatic 39, 3) := by decide +kernel
theorem dX4_fillsOf_32 : decode cX4_fillsOf 32 = .ok (.istore_n 3, 1) := by decide +kernel
theorem dX4_fillsOf_33 : decode cX4_fillsOf 33 = .ok (.iload_n 2, 1) := by decide +kernel
theorem dX4_fillsOf_34 : decode cX4_fillsOf 34 = .ok (.aload_n 0, 1) := by decide +kernel
theorem dX4_fillsOf_35 : decode cX4_fillsOf 35 = .ok (.iload 5, 2) := by decide +kernel
theorem dX4_fillsOf_37 : decode cX4_fillsOf 37 = .ok (.invokevirtual 15, 3) := by decide +kernel
theorem dX4_fillsOf_40 : decode cX4_fillsOf 40 = .ok (.iload_n 1, 1) := by decide +kernel
theorem dX4_fillsOf_41 : decode cX4_fillsOf 41 = .ok (.if_icmp .ne 7, 3) := by decide +kernel
theorem dX4_fillsOf_44 : decode cX4_fillsOf 44 = .ok (.iconst 1, 1) := by decide +kernel
theorem dX4_fillsOf_45 : decode cX4_fillsOf 45 = .ok (.goto 4, 3) := by decide +kernel
theorem dX4_fillsOf_48 : decode cX4_fillsOf 48 = .ok (.iconst 0, 1) := by decide +kernel
theorem dX4_fillsOf_49 : decode cX4_fillsOf 49 = .ok (.iadd, 1) := by decide +kernel
theorem dX4_fillsOf_50 : decode cX4_fillsOf 50 = .ok (.istore_n 2, 1) := by decide +kernel
theorem dX4_fillsOf_51 : decode cX4_fillsOf 51 = .ok (.iinc 5 1, 3) := by decide +kernel
theorem dX4_fillsOf_54 : decode cX4_fillsOf 54 = .ok (.goto (-41), 3) := by decide +kernel
theorem dX4_fillsOf_57 : decode cX4_fillsOf 57 = .ok (.iload_n 2, 1) := by decide +kernel
theorem dX4_fillsOf_58 : decode cX4_fillsOf 58 = .ok (.ireturn, 1) := by decide +kernel
theorem dX4_codeOf_0 : decode cX4_codeOf 0 = .ok (.iload_n 1, 1) := by decide +kernel
theorem dX4_codeOf_1 : decode cX4_codeOf 1 = .ok (.istore_n 2, 1) := by decide +kernel
theorem dX4_codeOf_2 : decode cX4_codeOf 2 = .ok (.iconst 0, 1) := by decide +kernel
theorem dX4_codeOf_3 : decode cX4_codeOf 3 = .ok (.istore_n 3, 1) := by decide +kernel
theorem dX4_codeOf_4 : decode cX4_codeOf 4 = .ok (.aload_n 0, 1) := by decide +kernel
theorem dX4_codeOf_5 : decode cX4_codeOf 5 = .ok (.invokevirtual 9, 3) := by decide +kernel
theorem dX4_codeOf_8 : decode cX4_codeOf 8 = .ok (.istore 4, 2) := by decide +kernel
theorem dX4_codeOf_10 : decode cX4_codeOf 10 = .ok (.iconst 0, 1) := by decide +kernel
theorem dX4_codeOf_11 : decode cX4_codeOf 11 = .ok (.istore 5, 2) := by decide +kernel
theorem dX4_codeOf_13 : decode cX4_codeOf 13 = .ok (.iload 5, 2) := by decide +kernel
theorem dX4_codeOf_15 : decode cX4_codeOf 15 = .ok (.iload 4, 2) := by decide +kernel
theorem dX4_codeOf_17 : decode cX4_codeOf 17 = .ok (.if_icmp .ge 43, 3) := by decide +kernel
theorem dX4_codeOf_20 : decode cX4_codeOf 20 = .ok (.iload 5, 2) := by decide +kernel
theorem dX4_codeOf_22 : decode cX4_codeOf 22 = .ok (.iload_n 3, 1) := by decide +kernel
theorem dX4_codeOf_23 : decode cX4_codeOf 23 = .ok (.if_icmp .ne 31, 3) := by decide +kernel
theorem dX4_codeOf_26 : decode cX4_codeOf 26 = .ok (.aload_n 0, 1) := by decide +kernel
theorem dX4_codeOf_27 : decode cX4_codeOf 27 = .ok (.iload 5, 2) := by decide +kernel
theorem dX4_codeOf_29 : decode cX4_codeOf 29 = .ok (.invokestatic 39, 3) := by decide +kernel
theorem dX4_codeOf_32 : decode cX4_codeOf 32 = .ok (.istore_n 3, 1) := by decide +kernel
theorem dX4_codeOf_33 : decode cX4_codeOf 33 = .ok (.iload_n 2, 1) := by decide +kernel
theorem dX4_codeOf_34 : decode cX4_codeOf 34 = .ok (.ifCond .ne 17, 3) := by decide +kernel
theorem dX4_codeOf_37 : decode cX4_codeOf 37 = .ok (.aload_n 0, 1) := by decide +kernel
theorem dX4_codeOf_38 : decode cX4_codeOf 38 = .ok (.iload 5, 2) := by decide +kernel
theorem dX4_codeOf_40 : decode cX4_codeOf 40 = .ok (.invokevirtual 15, 3) := by decide +kernel
theorem dX4_codeOf_43 : decode cX4_codeOf 43 = .ok (.iload_n 3, 1) := by decide +kernel
theorem dX4_codeOf_44 : decode cX4_codeOf 44 = .ok (.iload 5, 2) := by decide +kernel
theorem dX4_codeOf_46 : decode cX4_codeOf 46 = .ok (.isub, 1) := by decide +kernel
theorem dX4_codeOf_47 : decode cX4_codeOf 47 = .ok (.invokestatic 42, 3) := by decide +kernel
theorem dX4_codeOf_50 : decode cX4_codeOf 50 = .ok (.ireturn, 1) := by decide +kernel
theorem dX4_codeOf_51 : decode cX4_codeOf 51 = .ok (.iinc 2 (-1), 3) := by decide +kernel
theorem dX4_codeOf_54 : decode cX4_codeOf 54 = .ok (.iinc 5 1, 3) := by decide +kernel
theorem dX4_codeOf_57 : decode cX4_codeOf 57 = .ok (.goto (-44), 3) := by decide +kernel
theorem dX4_codeOf_60 : decode cX4_codeOf 60 = .ok (.bipush (-9), 2) := by decide +kernel
theorem dX4_codeOf_62 : decode cX4_codeOf 62 = .ok (.ireturn, 1) := by decide +kernel
theorem dX4_code_0 : decode cX4_code 0 = .ok (.iload_n 0, 1) := by decide +kernel
theorem dX4_code_1 : decode cX4_code 1 = .ok (.invokestatic 19, 3) := by decide +kernel
theorem dX4_code_4 : decode cX4_code 4 = .ok (.ifCond .eq 5, 3) := by decide +kernel
theorem dX4_code_7 : decode cX4_code 7 = .ok (.iload_n 0, 1) := by decide +kernel
theorem dX4_code_8 : decode cX4_code 8 = .ok (.ireturn, 1) := by decide +kernel
theorem dX4_code_9 : decode cX4_code 9 = .ok (.iload_n 0, 1) := by decide +kernel
theorem dX4_code_10 : decode cX4_code 10 = .ok (.ifCond .ne 8, 3) := by decide +kernel
theorem dX4_code_13 : decode cX4_code 13 = .ok (.ldc 45, 2) := by decide +kernel
theorem dX4_code_15 : decode cX4_code 15 = .ok (.goto 5, 3) := by decide +kernel
theorem dX4_code_18 : decode cX4_code 18 = .ok (.ldc 46, 2) := by decide +kernel
theorem dX4_code_20 : decode cX4_code 20 = .ok (.iload_n 1, 1) := by decide +kernel
theorem dX4_code_21 : decode cX4_code 21 = .ok (.iadd, 1) := by decide +kernel
theorem dX4_code_22 : decode cX4_code 22 = .ok (.ireturn, 1) := by decide +kernel
theorem dX4_work_0 : decode cX4_work 0 = .ok (.iconst 0, 1) := by decide +kernel
theorem dX4_work_1 : decode cX4_work 1 = .ok (.istore_n 2, 1) := by decide +kernel
theorem dX4_work_2 : decode cX4_work 2 = .ok (.iconst 0, 1) := by decide +kernel
theorem dX4_work_3 : decode cX4_work 3 = .ok (.istore_n 3, 1) := by decide +kernel
theorem dX4_work_4 : decode cX4_work 4 = .ok (.iconst 0, 1) := by decide +kernel
theorem dX4_work_5 : decode cX4_work 5 = .ok (.istore 4, 2) := by decide +kernel
theorem dX4_work_7 : decode cX4_work 7 = .ok (.aload_n 0, 1) := by decide +kernel
theorem dX4_work_8 : decode cX4_work 8 = .ok (.invokevirtual 9, 3) := by decide +kernel
theorem dX4_work_11 : decode cX4_work 11 = .ok (.aload_n 1, 1) := by decide +kernel
theorem dX4_work_12 : decode cX4_work 12 = .ok (.invokevirtual 9, 3) := by decide +kernel
theorem dX4_work_15 : decode cX4_work 15 = .ok (.invokestatic 47, 3) := by decide +kernel
theorem dX4_work_18 : decode cX4_work 18 = .ok (.istore 5, 2) := by decide +kernel
theorem dX4_work_20 : decode cX4_work 20 = .ok (.iconst 0, 1) := by decide +kernel
theorem dX4_work_21 : decode cX4_work 21 = .ok (.istore 6, 2) := by decide +kernel
theorem dX4_work_23 : decode cX4_work 23 = .ok (.iload 6, 2) := by decide +kernel
theorem dX4_work_25 : decode cX4_work 25 = .ok (.iload 5, 2) := by decide +kernel
theorem dX4_work_27 : decode cX4_work 27 = .ok (.if_icmp .ge 53, 3) := by decide +kernel
theorem dX4_work_30 : decode cX4_work 30 = .ok (.iload 6, 2) := by decide +kernel
theorem dX4_work_32 : decode cX4_work 32 = .ok (.iload_n 3, 1) := by decide +kernel
theorem dX4_work_33 : decode cX4_work 33 = .ok (.if_icmp .eq 10, 3) := by decide +kernel
theorem dX4_work_36 : decode cX4_work 36 = .ok (.iload 6, 2) := by decide +kernel
theorem dX4_work_38 : decode cX4_work 38 = .ok (.iload 4, 2) := by decide +kernel
theorem dX4_work_40 : decode cX4_work 40 = .ok (.if_icmp .ne 6, 3) := by decide +kernel
theorem dX4_work_43 : decode cX4_work 43 = .ok (.iinc 2 1, 3) := by decide +kernel
theorem dX4_work_46 : decode cX4_work 46 = .ok (.iload 6, 2) := by decide +kernel
theorem dX4_work_48 : decode cX4_work 48 = .ok (.iload_n 3, 1) := by decide +kernel
theorem dX4_work_49 : decode cX4_work 49 = .ok (.if_icmp .ne 10, 3) := by decide +kernel
theorem dX4_work_52 : decode cX4_work 52 = .ok (.aload_n 0, 1) := by decide +kernel
theorem dX4_work_53 : decode cX4_work 53 = .ok (.iload 6, 2) := by decide +kernel
theorem dX4_work_55 : decode cX4_work 55 = .ok (.invokestatic 39, 3) := by decide +kernel
theorem dX4_work_58 : decode cX4_work 58 = .ok (.istore_n 3, 1) := by decide +kernel
theorem dX4_work_59 : decode cX4_work 59 = .ok (.iload 6, 2) := by decide +kernel
theorem dX4_work_61 : decode cX4_work 61 = .ok (.iload 4, 2) := by decide +kernel
theorem dX4_work_63 : decode cX4_work 63 = .ok (.if_icmp .ne 11, 3) := by decide +kernel
theorem dX4_work_66 : decode cX4_work 66 = .ok (.aload_n 1, 1) := by decide +kernel
theorem dX4_work_67 : decode cX4_work 67 = .ok (.iload 6, 2) := by decide +kernel
theorem dX4_work_69 : decode cX4_work 69 = .ok (.invokestatic 39, 3) := by decide +kernel
theorem dX4_work_72 : decode cX4_work 72 = .ok (.istore 4, 2) := by decide +kernel
theorem dX4_work_74 : decode cX4_work 74 = .ok (.iinc 6 1, 3) := by decide +kernel
theorem dX4_work_77 : decode cX4_work 77 = .ok (.goto (-54), 3) := by decide +kernel
theorem dX4_work_80 : decode cX4_work 80 = .ok (.iload_n 2, 1) := by decide +kernel
theorem dX4_work_81 : decode cX4_work 81 = .ok (.ireturn, 1) := by decide +kernel
theorem dX5_init_0 : decode cX5_init 0 = .ok (.aload_n 0, 1) := by decide +kernel
theorem dX5_init_1 : decode cX5_init 1 = .ok (.invokespecial 1, 3) := by decide +kernel
theorem dX5_init_4 : decode cX5_init 4 = .ok (.aload_n 0, 1) := by decide +kernel
theorem dX5_init_5 : decode cX5_init 5 = .ok (.bipush 8, 2) := by decide +kernel
theorem dX5_init_7 : decode cX5_init 7 = .ok (.anewarray 9, 3) := by decide +kernel
theorem dX5_init_10 : decode cX5_init 10 = .ok (.putfield 11, 3) := by decide +kernel
theorem dX5_init_13 : decode cX5_init 13 = .ok (.aload_n 0, 1) := by decide +kernel
theorem dX5_init_14 : decode cX5_init 14 = .ok (.new 15, 3) := by decide +kernel
theorem dX5_init_17 : decode cX5_init 17 = .ok (.dup, 1) := by decide +kernel
theorem dX5_init_18 : decode cX5_init 18 = .ok (.invokespecial 17, 3) := by decide +kernel
theorem dX5_init_21 : decode cX5_init 21 = .ok (.putfield 18, 3) := by decide +kernel
theorem dX5_init_24 : decode cX5_init 24 = .ok (.aload_n 0, 1) := by decide +kernel
theorem dX5_init_25 : decode cX5_init 25 = .ok (.new 22, 3) := by decide +kernel
theorem dX5_init_28 : decode cX5_init 28 = .ok (.dup, 1) := by decide +kernel
theorem dX5_init_29 : decode cX5_init 29 = .ok (.invokespecial 24, 3) := by decide +kernel
theorem dX5_init_32 : decode cX5_init 32 = .ok (.putfield 25, 3) := by decide +kernel
theorem dX5_init_35 : decode cX5_init 35 = .ok (.aload_n 0, 1) := by decide +kernel
theorem dX5_init_36 : decode cX5_init 36 = .ok (.new 9, 3) := by decide +kernel
theorem dX5_init_39 : decode cX5_init 39 = .ok (.dup, 1) := by decide +kernel
theorem dX5_init_40 : decode cX5_init 40 = .ok (.invokespecial 29, 3) := by decide +kernel
theorem dX5_init_43 : decode cX5_init 43 = .ok (.putfield 30, 3) := by decide +kernel
theorem dX5_init_46 : decode cX5_init 46 = .ok (.iconst 0, 1) := by decide +kernel
theorem dX5_init_47 : decode cX5_init 47 = .ok (.istore_n 1, 1) := by decide +kernel
theorem dX5_init_48 : decode cX5_init 48 = .ok (.iload_n 1, 1) := by decide +kernel
theorem dX5_init_49 : decode cX5_init 49 = .ok (.aload_n 0, 1) := by decide +kernel
theorem dX5_init_50 : decode cX5_init 50 = .ok (.getfield 11, 3) := by decide +kernel
theorem dX5_init_53 : decode cX5_init 53 = .ok (.arraylength, 1) := by decide +kernel
theorem dX5_init_54 : decode cX5_init 54 = .ok (.if_icmp .ge 22, 3) := by decide +kernel
theorem dX5_init_57 : decode cX5_init 57 = .ok (.aload_n 0, 1) := by decide +kernel
theorem dX5_init_58 : decode cX5_init 58 = .ok (.getfield 11, 3) := by decide +kernel
theorem dX5_init_61 : decode cX5_init 61 = .ok (.iload_n 1, 1) := by decide +kernel
theorem dX5_init_62 : decode cX5_init 62 = .ok (.new 9, 3) := by decide +kernel
theorem dX5_init_65 : decode cX5_init 65 = .ok (.dup, 1) := by decide +kernel
theorem dX5_init_66 : decode cX5_init 66 = .ok (.invokespecial 29, 3) := by decide +kernel
theorem dX5_init_69 : decode cX5_init 69 = .ok (.aastore, 1) := by decide +kernel
theorem dX5_init_70 : decode cX5_init 70 = .ok (.iinc 1 1, 3) := by decide +kernel
theorem dX5_init_73 : decode cX5_init 73 = .ok (.goto (-25), 3) := by decide +kernel
theorem dX5_init_76 : decode cX5_init 76 = .ok (.return_, 1) := by decide +kernel
theorem dX5_make_0 : decode cX5_make 0 = .ok (.aload_n 0, 1) := by decide +kernel
theorem dX5_make_1 : decode cX5_make 1 = .ok (.getfield 34, 3) := by decide +kernel
theorem dX5_make_4 : decode cX5_make 4 = .ok (.bipush 8, 2) := by decide +kernel
theorem dX5_make_6 : decode cX5_make 6 = .ok (.if_icmp .lt 6, 3) := by decide +kernel
theorem dX5_make_9 : decode cX5_make 9 = .ok (.bipush (-3), 2) := by decide +kernel
theorem dX5_make_11 : decode cX5_make 11 = .ok (.ireturn, 1) := by decide +kernel
theorem dX5_make_12 : decode cX5_make 12 = .ok (.aload_n 0, 1) := by decide +kernel
theorem dX5_make_13 : decode cX5_make 13 = .ok (.getfield 34, 3) := by decide +kernel
theorem dX5_make_16 : decode cX5_make 16 = .ok (.istore_n 1, 1) := by decide +kernel
theorem dX5_make_17 : decode cX5_make 17 = .ok (.aload_n 0, 1) := by decide +kernel
theorem dX5_make_18 : decode cX5_make 18 = .ok (.iload_n 1, 1) := by decide +kernel
theorem dX5_make_19 : decode cX5_make 19 = .ok (.invokevirtual 38, 3) := by decide +kernel
theorem dX5_make_22 : decode cX5_make 22 = .ok (.aload_n 0, 1) := by decide +kernel
theorem dX5_make_23 : decode cX5_make 23 = .ok (.getfield 11, 3) := by decide +kernel
theorem dX5_make_26 : decode cX5_make 26 = .ok (.iload_n 1, 1) := by decide +kernel
theorem dX5_make_27 : decode cX5_make 27 = .ok (.aaload, 1) := by decide +kernel
theorem dX5_make_28 : decode cX5_make 28 = .ok (.iconst 0, 1) := by decide +kernel
theorem dX5_make_29 : decode cX5_make 29 = .ok (.invokevirtual 42, 3) := by decide +kernel
theorem dX5_make_32 : decode cX5_make 32 = .ok (.aload_n 0, 1) := by decide +kernel
theorem dX5_make_33 : decode cX5_make 33 = .ok (.dup, 1) := by decide +kernel
theorem dX5_make_34 : decode cX5_make 34 = .ok (.getfield 34, 3) := by decide +kernel
theorem dX5_make_37 : decode cX5_make 37 = .ok (.iconst 1, 1) := by decide +kernel
theorem dX5_make_38 : decode cX5_make 38 = .ok (.iadd, 1) := by decide +kernel
theorem dX5_make_39 : decode cX5_make 39 = .ok (.putfield 34, 3) := by decide +kernel
theorem dX5_make_42 : decode cX5_make 42 = .ok (.iload_n 1, 1) := by decide +kernel
theorem dX5_make_43 : decode cX5_make 43 = .ok (.ireturn, 1) := by decide +kernel
theorem dX5_append_0 : decode cX5_append 0 = .ok (.aload_n 0, 1) := by decide +kernel
theorem dX5_append_1 : decode cX5_append 1 = .ok (.iload_n 1, 1) := by decide +kernel
theorem dX5_append_2 : decode cX5_append 2 = .ok (.invokevirtual 45, 3) := by decide +kernel
theorem dX5_append_5 : decode cX5_append 5 = .ok (.ifCond .eq 21, 3) := by decide +kernel
theorem dX5_append_8 : decode cX5_append 8 = .ok (.iload_n 2, 1) := by decide +kernel
theorem dX5_append_9 : decode cX5_append 9 = .ok (.invokestatic 49, 3) := by decide +kernel
theorem dX5_append_12 : decode cX5_append 12 = .ok (.ifCond .eq 14, 3) := by decide +kernel
theorem dX5_append_15 : decode cX5_append 15 = .ok (.iload_n 3, 1) := by decide +kernel
theorem dX5_append_16 : decode cX5_append 16 = .ok (.iconst 1, 1) := by decide +kernel
theorem dX5_append_17 : decode cX5_append 17 = .ok (.sipush 600, 3) := by decide +kernel
theorem dX5_append_20 : decode cX5_append 20 = .ok (.invokestatic 52, 3) := by decide +kernel
theorem dX5_append_23 : decode cX5_append 23 = .ok (.ifCond .ne 5, 3) := by decide +kernel
theorem dX5_append_26 : decode cX5_append 26 = .ok (.iconst (-1), 1) := by decide +kernel
theorem dX5_append_27 : decode cX5_append 27 = .ok (.ireturn, 1) := by decide +kernel
theorem dX5_append_28 : decode cX5_append 28 = .ok (.aload_n 0, 1) := by decide +kernel
theorem dX5_append_29 : decode cX5_append 29 = .ok (.getfield 11, 3) := by decide +kernel
theorem dX5_append_32 : decode cX5_append 32 = .ok (.iload_n 1, 1) := by decide +kernel
theorem dX5_append_33 : decode cX5_append 33 = .ok (.aaload, 1) := by decide +kernel
theorem dX5_append_34 : decode cX5_append 34 = .ok (.getfield 56, 3) := by decide +kernel
theorem dX5_append_37 : decode cX5_append 37 = .ok (.iload_n 3, 1) := by decide +kernel
theorem dX5_append_38 : decode cX5_append 38 = .ok (.iadd, 1) := by decide +kernel
theorem dX5_append_39 : decode cX5_append 39 = .ok (.sipush 600, 3) := by decide +kernel
theorem dX5_append_42 : decode cX5_append 42 = .ok (.if_icmp .le 6, 3) := by decide +kernel
theorem dX5_append_45 : decode cX5_append 45 = .ok (.bipush (-3), 2) := by decide +kernel
theorem dX5_append_47 : decode cX5_append 47 = .ok (.ireturn, 1) := by decide +kernel
theorem dX5_append_48 : decode cX5_append 48 = .ok (.aload_n 0, 1) := by decide +kernel
theorem dX5_append_49 : decode cX5_append 49 = .ok (.iload_n 1, 1) := by decide +kernel
theorem dX5_append_50 : decode cX5_append 50 = .ok (.invokevirtual 38, 3) := by decide +kernel
theorem dX5_append_53 : decode cX5_append 53 = .ok (.aload_n 0, 1) := by decide +kernel
theorem dX5_append_54 : decode cX5_append 54 = .ok (.getfield 11, 3) := by decide +kernel
theorem dX5_append_57 : decode cX5_append 57 = .ok (.iload_n 1, 1) := by decide +kernel
theorem dX5_append_58 : decode cX5_append 58 = .ok (.aaload, 1) := by decide +kernel
theorem dX5_append_59 : decode cX5_append 59 = .ok (.iload_n 2, 1) := by decide +kernel
theorem dX5_append_60 : decode cX5_append 60 = .ok (.iload_n 3, 1) := by decide +kernel
theorem dX5_append_61 : decode cX5_append 61 = .ok (.invokevirtual 59, 3) := by decide +kernel
theorem dX5_append_64 : decode cX5_append 64 = .ok (.aload_n 0, 1) := by decide +kernel
theorem dX5_append_65 : decode cX5_append 65 = .ok (.getfield 11, 3) := by decide +kernel
theorem dX5_append_68 : decode cX5_append 68 = .ok (.iload_n 1, 1) := by decide +kernel
theorem dX5_append_69 : decode cX5_append 69 = .ok (.aaload, 1) := by decide +kernel
theorem dX5_append_70 : decode cX5_append 70 = .ok (.getfield 56, 3) := by decide +kernel
theorem dX5_append_73 : decode cX5_append 73 = .ok (.ireturn, 1) := by decide +kernel
theorem dX5_write_0 : decode cX5_write 0 = .ok (.aload_n 0, 1) := by decide +kernel
theorem dX5_write_1 : decode cX5_write 1 = .ok (.iload_n 1, 1) := by decide +kernel
theorem dX5_write_2 : decode cX5_write 2 = .ok (.invokevirtual 45, 3) := by decide +kernel
theorem dX5_write_5 : decode cX5_write 5 = .ok (.ifCond .eq 23, 3) := by decide +kernel
theorem dX5_write_8 : decode cX5_write 8 = .ok (.iload_n 2, 1) := by decide +kernel
theorem dX5_write_9 : decode cX5_write 9 = .ok (.iconst 0, 1) := by decide +kernel
theorem dX5_write_10 : decode cX5_write 10 = .ok (.ldc 63, 2) := by decide +kernel
theorem dX5_write_12 : decode cX5_write 12 = .ok (.invokestatic 52, 3) := by decide +kernel
theorem dX5_write_15 : decode cX5_write 15 = .ok (.ifCond .eq 13, 3) := by decide +kernel
theorem dX5_write_18 : decode cX5_write 18 = .ok (.iload_n 3, 1) := by decide +kernel
theorem dX5_write_19 : decode cX5_write 19 = .ok (.iconst 1, 1) := by decide +kernel
theorem dX5_write_20 : decode cX5_write 20 = .ok (.bipush 16, 2) := by decide +kernel
theorem dX5_write_22 : decode cX5_write 22 = .ok (.invokestatic 52, 3) := by decide +kernel
theorem dX5_write_25 : decode cX5_write 25 = .ok (.ifCond .ne 5, 3) := by decide +kernel
theorem dX5_write_28 : decode cX5_write 28 = .ok (.iconst (-1), 1) := by decide +kernel
theorem dX5_write_29 : decode cX5_write 29 = .ok (.ireturn, 1) := by decide +kernel
theorem dX5_write_30 : decode cX5_write 30 = .ok (.aload_n 0, 1) := by decide +kernel
theorem dX5_write_31 : decode cX5_write 31 = .ok (.getfield 11, 3) := by decide +kernel
theorem dX5_write_34 : decode cX5_write 34 = .ok (.iload_n 1, 1) := by decide +kernel
theorem dX5_write_35 : decode cX5_write 35 = .ok (.aaload, 1) := by decide +kernel
theorem dX5_write_36 : decode cX5_write 36 = .ok (.getfield 56, 3) := by decide +kernel
theorem dX5_write_39 : decode cX5_write 39 = .ok (.iload_n 3, 1) := by decide +kernel
theorem dX5_write_40 : decode cX5_write 40 = .ok (.iadd, 1) := by decide +kernel
theorem dX5_write_41 : decode cX5_write 41 = .ok (.sipush 600, 3) := by decide +kernel
theorem dX5_write_44 : decode cX5_write 44 = .ok (.if_icmp .le 6, 3) := by decide +kernel
theorem dX5_write_47 : decode cX5_write 47 = .ok (.bipush (-3), 2) := by decide +kernel
theorem dX5_write_49 : decode cX5_write 49 = .ok (.ireturn, 1) := by decide +kernel
theorem dX5_write_50 : decode cX5_write 50 = .ok (.aload_n 0, 1) := by decide +kernel
theorem dX5_write_51 : decode cX5_write 51 = .ok (.iload_n 1, 1) := by decide +kernel
theorem dX5_write_52 : decode cX5_write 52 = .ok (.invokevirtual 38, 3) := by decide +kernel
theorem dX5_write_55 : decode cX5_write 55 = .ok (.aload_n 0, 1) := by decide +kernel
theorem dX5_write_56 : decode cX5_write 56 = .ok (.getfield 11, 3) := by decide +kernel
theorem dX5_write_59 : decode cX5_write 59 = .ok (.iload_n 1, 1) := by decide +kernel
theorem dX5_write_60 : decode cX5_write 60 = .ok (.aaload, 1) := by decide +kernel
theorem dX5_write_61 : decode cX5_write 61 = .ok (.iload_n 2, 1) := by decide +kernel
theorem dX5_write_62 : decode cX5_write 62 = .ok (.iload_n 3, 1) := by decide +kernel
theorem dX5_write_63 : decode cX5_write 63 = .ok (.invokevirtual 64, 3) := by decide +kernel
theorem dX5_write_66 : decode cX5_write 66 = .ok (.aload_n 0, 1) := by decide +kernel
theorem dX5_write_67 : decode cX5_write 67 = .ok (.getfield 11, 3) := by decide +kernel
theorem dX5_write_70 : decode cX5_write 70 = .ok (.iload_n 1, 1) := by decide +kernel
theorem dX5_write_71 : decode cX5_write 71 = .ok (.aaload, 1) := by decide +kernel
theorem dX5_write_72 : decode cX5_write 72 = .ok (.invokestatic 67, 3) := by decide +kernel
theorem dX5_write_75 : decode cX5_write 75 = .ok (.ireturn, 1) := by decide +kernel
theorem dX5_set_0 : decode cX5_set 0 = .ok (.aload_n 0, 1) := by decide +kernel
theorem dX5_set_1 : decode cX5_set 1 = .ok (.iload_n 1, 1) := by decide +kernel
theorem dX5_set_2 : decode cX5_set 2 = .ok (.invokevirtual 45, 3) := by decide +kernel
theorem dX5_set_5 : decode cX5_set 5 = .ok (.ifCond .eq 19, 3) := by decide +kernel
theorem dX5_set_8 : decode cX5_set 8 = .ok (.aload_n 0, 1) := by decide +kernel
theorem dX5_set_9 : decode cX5_set 9 = .ok (.iload_n 1, 1) := by decide +kernel
theorem dX5_set_10 : decode cX5_set 10 = .ok (.iload_n 2, 1) := by decide +kernel
theorem dX5_set_11 : decode cX5_set 11 = .ok (.invokevirtual 73, 3) := by decide +kernel
theorem dX5_set_14 : decode cX5_set 14 = .ok (.ifCond .eq 10, 3) := by decide +kernel
theorem dX5_set_17 : decode cX5_set 17 = .ok (.iload_n 3, 1) := by decide +kernel
theorem dX5_set_18 : decode cX5_set 18 = .ok (.invokestatic 49, 3) := by decide +kernel
theorem dX5_set_21 : decode cX5_set 21 = .ok (.ifCond .ne 5, 3) := by decide +kernel
theorem dX5_set_24 : decode cX5_set 24 = .ok (.iconst (-1), 1) := by decide +kernel
theorem dX5_set_25 : decode cX5_set 25 = .ok (.ireturn, 1) := by decide +kernel
theorem dX5_set_26 : decode cX5_set 26 = .ok (.aload_n 0, 1) := by decide +kernel
theorem dX5_set_27 : decode cX5_set 27 = .ok (.iload_n 1, 1) := by decide +kernel
theorem dX5_set_28 : decode cX5_set 28 = .ok (.invokevirtual 38, 3) := by decide +kernel
theorem dX5_set_31 : decode cX5_set 31 = .ok (.aload_n 0, 1) := by decide +kernel
theorem dX5_set_32 : decode cX5_set 32 = .ok (.getfield 11, 3) := by decide +kernel
theorem dX5_set_35 : decode cX5_set 35 = .ok (.iload_n 1, 1) := by decide +kernel
theorem dX5_set_36 : decode cX5_set 36 = .ok (.aaload, 1) := by decide +kernel
theorem dX5_set_37 : decode cX5_set 37 = .ok (.iload_n 2, 1) := by decide +kernel
theorem dX5_set_38 : decode cX5_set 38 = .ok (.invokevirtual 77, 3) := by decide +kernel
theorem dX5_set_41 : decode cX5_set 41 = .ok (.istore 4, 2) := by decide +kernel
theorem dX5_set_43 : decode cX5_set 43 = .ok (.aload_n 0, 1) := by decide +kernel
theorem dX5_set_44 : decode cX5_set 44 = .ok (.getfield 11, 3) := by decide +kernel
theorem dX5_set_47 : decode cX5_set 47 = .ok (.iload_n 1, 1) := by decide +kernel
theorem dX5_set_48 : decode cX5_set 48 = .ok (.aaload, 1) := by decide +kernel
theorem dX5_set_49 : decode cX5_set 49 = .ok (.iload_n 2, 1) := by decide +kernel
theorem dX5_set_50 : decode cX5_set 50 = .ok (.iload_n 3, 1) := by decide +kernel
theorem dX5_set_51 : decode cX5_set 51 = .ok (.invokevirtual 81, 3) := by decide +kernel
theorem dX5_set_54 : decode cX5_set 54 = .ok (.iload 4, 2) := by decide +kernel
theorem dX5_set_56 : decode cX5_set 56 = .ok (.ireturn, 1) := by decide +kernel
theorem dX5_resize_0 : decode cX5_resize 0 = .ok (.aload_n 0, 1) := by decide +kernel
theorem dX5_resize_1 : decode cX5_resize 1 = .ok (.iload_n 1, 1) := by decide +kernel
theorem dX5_resize_2 : decode cX5_resize 2 = .ok (.invokevirtual 45, 3) := by decide +kernel
theorem dX5_resize_5 : decode cX5_resize 5 = .ok (.ifCond .eq 14, 3) := by decide +kernel
theorem dX5_resize_8 : decode cX5_resize 8 = .ok (.iload_n 2, 1) := by decide +kernel
theorem dX5_resize_9 : decode cX5_resize 9 = .ok (.iconst 0, 1) := by decide +kernel
theorem dX5_resize_10 : decode cX5_resize 10 = .ok (.sipush 600, 3) := by decide +kernel
theorem dX5_resize_13 : decode cX5_resize 13 = .ok (.invokestatic 52, 3) := by decide +kernel
theorem dX5_resize_16 : decode cX5_resize 16 = .ok (.ifCond .ne 5, 3) := by decide +kernel
theorem dX5_resize_19 : decode cX5_resize 19 = .ok (.iconst (-1), 1) := by decide +kernel
theorem dX5_resize_20 : decode cX5_resize 20 = .ok (.ireturn, 1) := by decide +kernel
theorem dX5_resize_21 : decode cX5_resize 21 = .ok (.aload_n 0, 1) := by decide +kernel
theorem dX5_resize_22 : decode cX5_resize 22 = .ok (.iload_n 1, 1) := by decide +kernel
theorem dX5_resize_23 : decode cX5_resize 23 = .ok (.invokevirtual 38, 3) := by decide +kernel
theorem dX5_resize_26 : decode cX5_resize 26 = .ok (.aload_n 0, 1) := by decide +kernel
theorem dX5_resize_27 : decode cX5_resize 27 = .ok (.getfield 11, 3) := by decide +kernel
theorem dX5_resize_30 : decode cX5_resize 30 = .ok (.iload_n 1, 1) := by decide +kernel
theorem dX5_resize_31 : decode cX5_resize 31 = .ok (.aaload, 1) := by decide +kernel
theorem dX5_resize_32 : decode cX5_resize 32 = .ok (.getfield 56, 3) := by decide +kernel
theorem dX5_resize_35 : decode cX5_resize 35 = .ok (.istore_n 3, 1) := by decide +kernel
theorem dX5_resize_36 : decode cX5_resize 36 = .ok (.aload_n 0, 1) := by decide +kernel
theorem dX5_resize_37 : decode cX5_resize 37 = .ok (.getfield 11, 3) := by decide +kernel
theorem dX5_resize_40 : decode cX5_resize 40 = .ok (.iload_n 1, 1) := by decide +kernel
theorem dX5_resize_41 : decode cX5_resize 41 = .ok (.aaload, 1) := by decide +kernel
theorem dX5_resize_42 : decode cX5_resize 42 = .ok (.iload_n 2, 1) := by decide +kernel
theorem dX5_resize_43 : decode cX5_resize 43 = .ok (.invokevirtual 42, 3) := by decide +kernel
theorem dX5_resize_46 : decode cX5_resize 46 = .ok (.iload_n 3, 1) := by decide +kernel
theorem dX5_resize_47 : decode cX5_resize 47 = .ok (.ireturn, 1) := by decide +kernel
theorem dX5_operate_0 : decode cX5_operate 0 = .ok (.aload_n 0, 1) := by decide +kernel
theorem dX5_operate_1 : decode cX5_operate 1 = .ok (.iload_n 1, 1) := by decide +kernel
theorem dX5_operate_2 : decode cX5_operate 2 = .ok (.invokevirtual 45, 3) := by decide +kernel
theorem dX5_operate_5 : decode cX5_operate 5 = .ok (.ifCond .eq 27, 3) := by decide +kernel
theorem dX5_operate_8 : decode cX5_operate 8 = .ok (.iload_n 2, 1) := by decide +kernel
theorem dX5_operate_9 : decode cX5_operate 9 = .ok (.invokestatic 84, 3) := by decide +kernel
theorem dX5_operate_12 : decode cX5_operate 12 = .ok (.ifCond .eq 20, 3) := by decide +kernel
theorem dX5_operate_15 : decode cX5_operate 15 = .ok (.aload_n 0, 1) := by decide +kernel
theorem dX5_operate_16 : decode cX5_operate 16 = .ok (.iload_n 3, 1) := by decide +kernel
theorem dX5_operate_17 : decode cX5_operate 17 = .ok (.invokevirtual 45, 3) := by decide +kernel
theorem dX5_operate_20 : decode cX5_operate 20 = .ok (.ifCond .eq 12, 3) := by decide +kernel
theorem dX5_operate_23 : decode cX5_operate 23 = .ok (.aload_n 0, 1) := by decide +kernel
theorem dX5_operate_24 : decode cX5_operate 24 = .ok (.iload 4, 2) := by decide +kernel
theorem dX5_operate_26 : decode cX5_operate 26 = .ok (.invokevirtual 45, 3) := by decide +kernel
theorem dX5_operate_29 : decode cX5_operate 29 = .ok (.ifCond .ne 5, 3) := by decide +kernel
theorem dX5_operate_32 : decode cX5_operate 32 = .ok (.iconst (-1), 1) := by decide +kernel
theorem dX5_operate_33 : decode cX5_operate 33 = .ok (.ireturn, 1) := by decide +kernel
theorem dX5_operate_34 : decode cX5_operate 34 = .ok (.aload_n 0, 1) := by decide +kernel
theorem dX5_operate_35 : decode cX5_operate 35 = .ok (.iload_n 1, 1) := by decide +kernel
theorem dX5_operate_36 : decode cX5_operate 36 = .ok (.invokevirtual 38, 3) := by decide +kernel
theorem dX5_operate_39 : decode cX5_operate 39 = .ok (.aload_n 0, 1) := by decide +kernel
theorem dX5_operate_40 : decode cX5_operate 40 = .ok (.getfield 11, 3) := by decide +kernel
theorem dX5_operate_43 : decode cX5_operate 43 = .ok (.iload_n 3, 1) := by decide +kernel
theorem dX5_operate_44 : decode cX5_operate 44 = .ok (.aaload, 1) := by decide +kernel
theorem dX5_operate_45 : decode cX5_operate 45 = .ok (.aload_n 0, 1) := by decide +kernel
theorem dX5_operate_46 : decode cX5_operate 46 = .ok (.getfield 11, 3) := by decide +kernel
theorem dX5_operate_49 : decode cX5_operate 49 = .ok (.iload 4, 2) := by decide +kernel
theorem dX5_operate_51 : decode cX5_operate 51 = .ok (.aaload, 1) := by decide +kernel
theorem dX5_operate_52 : decode cX5_operate 52 = .ok (.invokestatic 87, 3) := by decide +kernel
theorem dX5_operate_55 : decode cX5_operate 55 = .ok (.istore 5, 2) := by decide +kernel
theorem dX5_operate_57 : decode cX5_operate 57 = .ok (.aload_n 0, 1) := by decide +kernel
theorem dX5_operate_58 : decode cX5_operate 58 = .ok (.getfield 11, 3) := by decide +kernel
theorem dX5_operate_61 : decode cX5_operate 61 = .ok (.iload_n 1, 1) := by decide +kernel
theorem dX5_operate_62 : decode cX5_operate 62 = .ok (.aaload, 1) := by decide +kernel
theorem dX5_operate_63 : decode cX5_operate 63 = .ok (.iload_n 2, 1) := by decide +kernel
theorem dX5_operate_64 : decode cX5_operate 64 = .ok (.aload_n 0, 1) := by decide +kernel
theorem dX5_operate_65 : decode cX5_operate 65 = .ok (.getfield 11, 3) := by decide +kernel
theorem dX5_operate_68 : decode cX5_operate 68 = .ok (.iload_n 3, 1) := by decide +kernel
theorem dX5_operate_69 : decode cX5_operate 69 = .ok (.aaload, 1) := by decide +kernel
theorem dX5_operate_70 : decode cX5_operate 70 = .ok (.aload_n 0, 1) := by decide +kernel
theorem dX5_operate_71 : decode cX5_operate 71 = .ok (.getfield 11, 3) := by decide +kernel
theorem dX5_operate_74 : decode cX5_operate 74 = .ok (.iload 4, 2) := by decide +kernel
theorem dX5_operate_76 : decode cX5_operate 76 = .ok (.aaload, 1) := by decide +kernel
theorem dX5_operate_77 : decode cX5_operate 77 = .ok (.invokevirtual 91, 3) := by decide +kernel
theorem dX5_operate_80 : decode cX5_operate 80 = .ok (.iload 5, 2) := by decide +kernel
theorem dX5_operate_82 : decode cX5_operate 82 = .ok (.ireturn, 1) := by decide +kernel
theorem dX5_not_0 : decode cX5_not 0 = .ok (.aload_n 0, 1) := by decide +kernel
theorem dX5_not_1 : decode cX5_not 1 = .ok (.iload_n 1, 1) := by decide +kernel
theorem dX5_not_2 : decode cX5_not 2 = .ok (.invokevirtual 45, 3) := by decide +kernel
theorem dX5_not_5 : decode cX5_not 5 = .ok (.ifCond .ne 5, 3) := by decide +kernel
theorem dX5_not_8 : decode cX5_not 8 = .ok (.iconst (-1), 1) := by decide +kernel
theorem dX5_not_9 : decode cX5_not 9 = .ok (.ireturn, 1) := by decide +kernel
theorem dX5_not_10 : decode cX5_not 10 = .ok (.aload_n 0, 1) := by decide +kernel
theorem dX5_not_11 : decode cX5_not 11 = .ok (.iload_n 1, 1) := by decide +kernel
theorem dX5_not_12 : decode cX5_not 12 = .ok (.invokevirtual 38, 3) := by decide +kernel
theorem dX5_not_15 : decode cX5_not 15 = .ok (.aload_n 0, 1) := by decide +kernel
theorem dX5_not_16 : decode cX5_not 16 = .ok (.getfield 11, 3) := by decide +kernel
theorem dX5_not_19 : decode cX5_not 19 = .ok (.iload_n 1, 1) := by decide +kernel
theorem dX5_not_20 : decode cX5_not 20 = .ok (.aaload, 1) := by decide +kernel
theorem dX5_not_21 : decode cX5_not 21 = .ok (.invokevirtual 95, 3) := by decide +kernel
theorem dX5_not_24 : decode cX5_not 24 = .ok (.aload_n 0, 1) := by decide +kernel
theorem dX5_not_25 : decode cX5_not 25 = .ok (.getfield 11, 3) := by decide +kernel
theorem dX5_not_28 : decode cX5_not 28 = .ok (.iload_n 1, 1) := by decide +kernel
theorem dX5_not_29 : decode cX5_not 29 = .ok (.aaload, 1) := by decide +kernel
theorem dX5_not_30 : decode cX5_not 30 = .ok (.invokevirtual 98, 3) := by decide +kernel
theorem dX5_not_33 : decode cX5_not 33 = .ok (.ireturn, 1) := by decide +kernel
theorem dX5_shift_0 : decode cX5_shift 0 = .ok (.aload_n 0, 1) := by decide +kernel
theorem dX5_shift_1 : decode cX5_shift 1 = .ok (.iload_n 1, 1) := by decide +kernel
theorem dX5_shift_2 : decode cX5_shift 2 = .ok (.invokevirtual 45, 3) := by decide +kernel
theorem dX5_shift_5 : decode cX5_shift 5 = .ok (.ifCond .eq 16, 3) := by decide +kernel
theorem dX5_shift_8 : decode cX5_shift 8 = .ok (.iload_n 2, 1) := by decide +kernel
theorem dX5_shift_9 : decode cX5_shift 9 = .ok (.sipush (-600), 3) := by decide +kernel
theorem dX5_shift_12 : decode cX5_shift 12 = .ok (.sipush 600, 3) := by decide +kernel
theorem dX5_shift_15 : decode cX5_shift 15 = .ok (.invokestatic 52, 3) := by decide +kernel
theorem dX5_shift_18 : decode cX5_shift 18 = .ok (.ifCond .ne 5, 3) := by decide +kernel
theorem dX5_shift_21 : decode cX5_shift 21 = .ok (.iconst (-1), 1) := by decide +kernel
theorem dX5_shift_22 : decode cX5_shift 22 = .ok (.ireturn, 1) := by decide +kernel
theorem dX5_shift_23 : decode cX5_shift 23 = .ok (.aload_n 0, 1) := by decide +kernel
theorem dX5_shift_24 : decode cX5_shift 24 = .ok (.iload_n 1, 1) := by decide +kernel
theorem dX5_shift_25 : decode cX5_shift 25 = .ok (.invokevirtual 38, 3) := by decide +kernel
theorem dX5_shift_28 : decode cX5_shift 28 = .ok (.aload_n 0, 1) := by decide +kernel
theorem dX5_shift_29 : decode cX5_shift 29 = .ok (.getfield 30, 3) := by decide +kernel
theorem dX5_shift_32 : decode cX5_shift 32 = .ok (.aload_n 0, 1) := by decide +kernel
theorem dX5_shift_33 : decode cX5_shift 33 = .ok (.getfield 11, 3) := by decide +kernel
theorem dX5_shift_36 : decode cX5_shift 36 = .ok (.iload_n 1, 1) := by decide +kernel
theorem dX5_shift_37 : decode cX5_shift 37 = .ok (.aaload, 1) := by decide +kernel
theorem dX5_shift_38 : decode cX5_shift 38 = .ok (.iload_n 2, 1) := by decide +kernel
theorem dX5_shift_39 : decode cX5_shift 39 = .ok (.invokevirtual 102, 3) := by decide +kernel
theorem dX5_shift_42 : decode cX5_shift 42 = .ok (.aload_n 0, 1) := by decide +kernel
theorem dX5_shift_43 : decode cX5_shift 43 = .ok (.getfield 11, 3) := by decide +kernel
theorem dX5_shift_46 : decode cX5_shift 46 = .ok (.iload_n 1, 1) := by decide +kernel
theorem dX5_shift_47 : decode cX5_shift 47 = .ok (.aaload, 1) := by decide +kernel
theorem dX5_shift_48 : decode cX5_shift 48 = .ok (.aload_n 0, 1) := by decide +kernel
theorem dX5_shift_49 : decode cX5_shift 49 = .ok (.getfield 30, 3) := by decide +kernel
theorem dX5_shift_52 : decode cX5_shift 52 = .ok (.invokevirtual 106, 3) := by decide +kernel
theorem dX5_shift_55 : decode cX5_shift 55 = .ok (.aload_n 0, 1) := by decide +kernel
theorem dX5_shift_56 : decode cX5_shift 56 = .ok (.getfield 11, 3) := by decide +kernel
theorem dX5_shift_59 : decode cX5_shift 59 = .ok (.iload_n 1, 1) := by decide +kernel
theorem dX5_shift_60 : decode cX5_shift 60 = .ok (.aaload, 1) := by decide +kernel
theorem dX5_shift_61 : decode cX5_shift 61 = .ok (.getfield 56, 3) := by decide +kernel
theorem dX5_shift_64 : decode cX5_shift 64 = .ok (.ireturn, 1) := by decide +kernel
