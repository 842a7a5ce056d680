theorem dX0_init_0 : decode cX0_init 0 = .ok (.aload_n 0, 1) := by decide +kernel
theorem dX0_init_1 : decode cX0_init 1 = .ok (.invokespecial 3, 3) := by decide +kernel
theorem dX0_init_4 : decode cX0_init 4 = .ok (.aload_n 0, 1) := by decide +kernel
theorem dX0_init_5 : decode cX0_init 5 = .ok (.sipush 400, 3) := by decide +kernel
theorem dX0_init_8 : decode cX0_init 8 = .ok (.newarray .int, 2) := by decide +kernel
theorem dX0_init_10 : decode cX0_init 10 = .ok (.putfield 9, 3) := by decide +kernel
theorem dX0_init_13 : decode cX0_init 13 = .ok (.aload_n 0, 1) := by decide +kernel
theorem dX0_init_14 : decode cX0_init 14 = .ok (.sipush 400, 3) := by decide +kernel
theorem dX0_init_17 : decode cX0_init 17 = .ok (.newarray .int, 2) := by decide +kernel
theorem dX0_init_19 : decode cX0_init 19 = .ok (.putfield 15, 3) := by decide +kernel
theorem dX0_init_22 : decode cX0_init 22 = .ok (.aload_n 0, 1) := by decide +kernel
theorem dX0_init_23 : decode cX0_init 23 = .ok (.sipush 400, 3) := by decide +kernel
theorem dX0_init_26 : decode cX0_init 26 = .ok (.newarray .int, 2) := by decide +kernel
theorem dX0_init_28 : decode cX0_init 28 = .ok (.putfield 18, 3) := by decide +kernel
theorem dX0_init_31 : decode cX0_init 31 = .ok (.aload_n 0, 1) := by decide +kernel
theorem dX0_init_32 : decode cX0_init 32 = .ok (.sipush 400, 3) := by decide +kernel
theorem dX0_init_35 : decode cX0_init 35 = .ok (.newarray .int, 2) := by decide +kernel
theorem dX0_init_37 : decode cX0_init 37 = .ok (.putfield 21, 3) := by decide +kernel
theorem dX0_init_40 : decode cX0_init 40 = .ok (.aload_n 0, 1) := by decide +kernel
theorem dX0_init_41 : decode cX0_init 41 = .ok (.sipush 400, 3) := by decide +kernel
theorem dX0_init_44 : decode cX0_init 44 = .ok (.newarray .int, 2) := by decide +kernel
theorem dX0_init_46 : decode cX0_init 46 = .ok (.putfield 24, 3) := by decide +kernel
theorem dX0_init_49 : decode cX0_init 49 = .ok (.return_, 1) := by decide +kernel
theorem dX0_setOrder_0 : decode cX0_setOrder 0 = .ok (.iload_n 1, 1) := by decide +kernel
theorem dX0_setOrder_1 : decode cX0_setOrder 1 = .ok (.aload_n 0, 1) := by decide +kernel
theorem dX0_setOrder_2 : decode cX0_setOrder 2 = .ok (.getfield 27, 3) := by decide +kernel
theorem dX0_setOrder_5 : decode cX0_setOrder 5 = .ok (.if_icmp .eq 13, 3) := by decide +kernel
theorem dX0_setOrder_8 : decode cX0_setOrder 8 = .ok (.aload_n 0, 1) := by decide +kernel
theorem dX0_setOrder_9 : decode cX0_setOrder 9 = .ok (.iload_n 1, 1) := by decide +kernel
theorem dX0_setOrder_10 : decode cX0_setOrder 10 = .ok (.putfield 27, 3) := by decide +kernel
theorem dX0_setOrder_13 : decode cX0_setOrder 13 = .ok (.aload_n 0, 1) := by decide +kernel
theorem dX0_setOrder_14 : decode cX0_setOrder 14 = .ok (.iconst (-1), 1) := by decide +kernel
theorem dX0_setOrder_15 : decode cX0_setOrder 15 = .ok (.putfield 31, 3) := by decide +kernel
theorem dX0_setOrder_18 : decode cX0_setOrder 18 = .ok (.return_, 1) := by decide +kernel
theorem dX0_follow_0 : decode cX0_follow 0 = .ok (.aload_n 0, 1) := by decide +kernel
theorem dX0_follow_1 : decode cX0_follow 1 = .ok (.getfield 31, 3) := by decide +kernel
theorem dX0_follow_4 : decode cX0_follow 4 = .ok (.aload_n 1, 1) := by decide +kernel
theorem dX0_follow_5 : decode cX0_follow 5 = .ok (.getfield 34, 3) := by decide +kernel
theorem dX0_follow_8 : decode cX0_follow 8 = .ok (.if_icmp .ne 4, 3) := by decide +kernel
theorem dX0_follow_11 : decode cX0_follow 11 = .ok (.return_, 1) := by decide +kernel
theorem dX0_follow_12 : decode cX0_follow 12 = .ok (.aload_n 0, 1) := by decide +kernel
theorem dX0_follow_13 : decode cX0_follow 13 = .ok (.aload_n 1, 1) := by decide +kernel
theorem dX0_follow_14 : decode cX0_follow 14 = .ok (.getfield 34, 3) := by decide +kernel
theorem dX0_follow_17 : decode cX0_follow 17 = .ok (.putfield 31, 3) := by decide +kernel
theorem dX0_follow_20 : decode cX0_follow 20 = .ok (.aload_n 0, 1) := by decide +kernel
theorem dX0_follow_21 : decode cX0_follow 21 = .ok (.iconst 0, 1) := by decide +kernel
theorem dX0_follow_22 : decode cX0_follow 22 = .ok (.putfield 39, 3) := by decide +kernel
theorem dX0_follow_25 : decode cX0_follow 25 = .ok (.aload_n 0, 1) := by decide +kernel
theorem dX0_follow_26 : decode cX0_follow 26 = .ok (.iconst 0, 1) := by decide +kernel
theorem dX0_follow_27 : decode cX0_follow 27 = .ok (.putfield 42, 3) := by decide +kernel
theorem dX0_follow_30 : decode cX0_follow 30 = .ok (.aload_n 0, 1) := by decide +kernel
theorem dX0_follow_31 : decode cX0_follow 31 = .ok (.getfield 27, 3) := by decide +kernel
theorem dX0_follow_34 : decode cX0_follow 34 = .ok (.istore_n 2, 1) := by decide +kernel
theorem dX0_follow_35 : decode cX0_follow 35 = .ok (.iload_n 2, 1) := by decide +kernel
theorem dX0_follow_36 : decode cX0_follow 36 = .ok (.aload_n 1, 1) := by decide +kernel
theorem dX0_follow_37 : decode cX0_follow 37 = .ok (.getfield 45, 3) := by decide +kernel
theorem dX0_follow_40 : decode cX0_follow 40 = .ok (.if_icmp .ge 50, 3) := by decide +kernel
theorem dX0_follow_43 : decode cX0_follow 43 = .ok (.aload_n 0, 1) := by decide +kernel
theorem dX0_follow_44 : decode cX0_follow 44 = .ok (.aload_n 0, 1) := by decide +kernel
theorem dX0_follow_45 : decode cX0_follow 45 = .ok (.aload_n 1, 1) := by decide +kernel
theorem dX0_follow_46 : decode cX0_follow 46 = .ok (.iload_n 2, 1) := by decide +kernel
theorem dX0_follow_47 : decode cX0_follow 47 = .ok (.invokevirtual 48, 3) := by decide +kernel
theorem dX0_follow_50 : decode cX0_follow 50 = .ok (.invokevirtual 52, 3) := by decide +kernel
theorem dX0_follow_53 : decode cX0_follow 53 = .ok (.istore_n 3, 1) := by decide +kernel
theorem dX0_follow_54 : decode cX0_follow 54 = .ok (.aload_n 0, 1) := by decide +kernel
theorem dX0_follow_55 : decode cX0_follow 55 = .ok (.getfield 15, 3) := by decide +kernel
theorem dX0_follow_58 : decode cX0_follow 58 = .ok (.iload_n 3, 1) := by decide +kernel
theorem dX0_follow_59 : decode cX0_follow 59 = .ok (.dup2, 1) := by decide +kernel
theorem dX0_follow_60 : decode cX0_follow 60 = .ok (.iaload, 1) := by decide +kernel
theorem dX0_follow_61 : decode cX0_follow 61 = .ok (.iconst 1, 1) := by decide +kernel
theorem dX0_follow_62 : decode cX0_follow 62 = .ok (.iadd, 1) := by decide +kernel
theorem dX0_follow_63 : decode cX0_follow 63 = .ok (.iastore, 1) := by decide +kernel
theorem dX0_follow_64 : decode cX0_follow 64 = .ok (.aload_n 0, 1) := by decide +kernel
theorem dX0_follow_65 : decode cX0_follow 65 = .ok (.getfield 24, 3) := by decide +kernel
theorem dX0_follow_68 : decode cX0_follow 68 = .ok (.aload_n 0, 1) := by decide +kernel
theorem dX0_follow_69 : decode cX0_follow 69 = .ok (.iload_n 3, 1) := by decide +kernel
theorem dX0_follow_70 : decode cX0_follow 70 = .ok (.aload_n 1, 1) := by decide +kernel
theorem dX0_follow_71 : decode cX0_follow 71 = .ok (.getfield 56, 3) := by decide +kernel
theorem dX0_follow_74 : decode cX0_follow 74 = .ok (.iload_n 2, 1) := by decide +kernel
theorem dX0_follow_75 : decode cX0_follow 75 = .ok (.iaload, 1) := by decide +kernel
theorem dX0_follow_76 : decode cX0_follow 76 = .ok (.invokevirtual 59, 3) := by decide +kernel
theorem dX0_follow_79 : decode cX0_follow 79 = .ok (.dup2, 1) := by decide +kernel
theorem dX0_follow_80 : decode cX0_follow 80 = .ok (.iaload, 1) := by decide +kernel
theorem dX0_follow_81 : decode cX0_follow 81 = .ok (.iconst 1, 1) := by decide +kernel
theorem dX0_follow_82 : decode cX0_follow 82 = .ok (.iadd, 1) := by decide +kernel
theorem dX0_follow_83 : decode cX0_follow 83 = .ok (.iastore, 1) := by decide +kernel
theorem dX0_follow_84 : decode cX0_follow 84 = .ok (.iinc 2 1, 3) := by decide +kernel
theorem dX0_follow_87 : decode cX0_follow 87 = .ok (.goto (-52), 3) := by decide +kernel
theorem dX0_follow_90 : decode cX0_follow 90 = .ok (.return_, 1) := by decide +kernel
theorem dX0_signOf_0 : decode cX0_signOf 0 = .ok (.aload_n 0, 1) := by decide +kernel
theorem dX0_signOf_1 : decode cX0_signOf 1 = .ok (.getfield 9, 3) := by decide +kernel
theorem dX0_signOf_4 : decode cX0_signOf 4 = .ok (.iload_n 1, 1) := by decide +kernel
theorem dX0_signOf_5 : decode cX0_signOf 5 = .ok (.iaload, 1) := by decide +kernel
theorem dX0_signOf_6 : decode cX0_signOf 6 = .ok (.iconst 4, 1) := by decide +kernel
theorem dX0_signOf_7 : decode cX0_signOf 7 = .ok (.aload_n 0, 1) := by decide +kernel
theorem dX0_signOf_8 : decode cX0_signOf 8 = .ok (.getfield 27, 3) := by decide +kernel
theorem dX0_signOf_11 : decode cX0_signOf 11 = .ok (.iconst 1, 1) := by decide +kernel
theorem dX0_signOf_12 : decode cX0_signOf 12 = .ok (.isub, 1) := by decide +kernel
theorem dX0_signOf_13 : decode cX0_signOf 13 = .ok (.iload_n 2, 1) := by decide +kernel
theorem dX0_signOf_14 : decode cX0_signOf 14 = .ok (.isub, 1) := by decide +kernel
theorem dX0_signOf_15 : decode cX0_signOf 15 = .ok (.imul, 1) := by decide +kernel
theorem dX0_signOf_16 : decode cX0_signOf 16 = .ok (.ishr, 1) := by decide +kernel
theorem dX0_signOf_17 : decode cX0_signOf 17 = .ok (.bipush 15, 2) := by decide +kernel
theorem dX0_signOf_19 : decode cX0_signOf 19 = .ok (.iand, 1) := by decide +kernel
theorem dX0_signOf_20 : decode cX0_signOf 20 = .ok (.ireturn, 1) := by decide +kernel
theorem dX0_countOf_0 : decode cX0_countOf 0 = .ok (.aload_n 0, 1) := by decide +kernel
theorem dX0_countOf_1 : decode cX0_countOf 1 = .ok (.iload_n 1, 1) := by decide +kernel
theorem dX0_countOf_2 : decode cX0_countOf 2 = .ok (.iload_n 2, 1) := by decide +kernel
theorem dX0_countOf_3 : decode cX0_countOf 3 = .ok (.invokevirtual 63, 3) := by decide +kernel
theorem dX0_countOf_6 : decode cX0_countOf 6 = .ok (.istore_n 3, 1) := by decide +kernel
theorem dX0_countOf_7 : decode cX0_countOf 7 = .ok (.iload_n 3, 1) := by decide +kernel
theorem dX0_countOf_8 : decode cX0_countOf 8 = .ok (.aload_n 0, 1) := by decide +kernel
theorem dX0_countOf_9 : decode cX0_countOf 9 = .ok (.getfield 42, 3) := by decide +kernel
theorem dX0_countOf_12 : decode cX0_countOf 12 = .ok (.if_icmp .ge 12, 3) := by decide +kernel
theorem dX0_countOf_15 : decode cX0_countOf 15 = .ok (.aload_n 0, 1) := by decide +kernel
theorem dX0_countOf_16 : decode cX0_countOf 16 = .ok (.getfield 24, 3) := by decide +kernel
theorem dX0_countOf_19 : decode cX0_countOf 19 = .ok (.iload_n 3, 1) := by decide +kernel
theorem dX0_countOf_20 : decode cX0_countOf 20 = .ok (.iaload, 1) := by decide +kernel
theorem dX0_countOf_21 : decode cX0_countOf 21 = .ok (.goto 4, 3) := by decide +kernel
theorem dX0_countOf_24 : decode cX0_countOf 24 = .ok (.iconst 0, 1) := by decide +kernel
theorem dX0_countOf_25 : decode cX0_countOf 25 = .ok (.ireturn, 1) := by decide +kernel
theorem dX0_codeBefore_0 : decode cX0_codeBefore 0 = .ok (.iconst 0, 1) := by decide +kernel
theorem dX0_codeBefore_1 : decode cX0_codeBefore 1 = .ok (.istore_n 3, 1) := by decide +kernel
theorem dX0_codeBefore_2 : decode cX0_codeBefore 2 = .ok (.iload_n 2, 1) := by decide +kernel
theorem dX0_codeBefore_3 : decode cX0_codeBefore 3 = .ok (.aload_n 0, 1) := by decide +kernel
theorem dX0_codeBefore_4 : decode cX0_codeBefore 4 = .ok (.getfield 27, 3) := by decide +kernel
theorem dX0_codeBefore_7 : decode cX0_codeBefore 7 = .ok (.isub, 1) := by decide +kernel
theorem dX0_codeBefore_8 : decode cX0_codeBefore 8 = .ok (.istore 4, 2) := by decide +kernel
theorem dX0_codeBefore_10 : decode cX0_codeBefore 10 = .ok (.iload 4, 2) := by decide +kernel
theorem dX0_codeBefore_12 : decode cX0_codeBefore 12 = .ok (.iload_n 2, 1) := by decide +kernel
theorem dX0_codeBefore_13 : decode cX0_codeBefore 13 = .ok (.if_icmp .ge 21, 3) := by decide +kernel
theorem dX0_codeBefore_16 : decode cX0_codeBefore 16 = .ok (.iload_n 3, 1) := by decide +kernel
theorem dX0_codeBefore_17 : decode cX0_codeBefore 17 = .ok (.iconst 4, 1) := by decide +kernel
theorem dX0_codeBefore_18 : decode cX0_codeBefore 18 = .ok (.ishl, 1) := by decide +kernel
theorem dX0_codeBefore_19 : decode cX0_codeBefore 19 = .ok (.aload_n 1, 1) := by decide +kernel
theorem dX0_codeBefore_20 : decode cX0_codeBefore 20 = .ok (.getfield 56, 3) := by decide +kernel
theorem dX0_codeBefore_23 : decode cX0_codeBefore 23 = .ok (.iload 4, 2) := by decide +kernel
theorem dX0_codeBefore_25 : decode cX0_codeBefore 25 = .ok (.iaload, 1) := by decide +kernel
theorem dX0_codeBefore_26 : decode cX0_codeBefore 26 = .ok (.ior, 1) := by decide +kernel
theorem dX0_codeBefore_27 : decode cX0_codeBefore 27 = .ok (.istore_n 3, 1) := by decide +kernel
theorem dX0_codeBefore_28 : decode cX0_codeBefore 28 = .ok (.iinc 4 1, 3) := by decide +kernel
theorem dX0_codeBefore_31 : decode cX0_codeBefore 31 = .ok (.goto (-21), 3) := by decide +kernel
theorem dX0_codeBefore_34 : decode cX0_codeBefore 34 = .ok (.iload_n 3, 1) := by decide +kernel
theorem dX0_codeBefore_35 : decode cX0_codeBefore 35 = .ok (.ireturn, 1) := by decide +kernel
theorem dX0_numberOf_0 : decode cX0_numberOf 0 = .ok (.iconst 0, 1) := by decide +kernel
theorem dX0_numberOf_1 : decode cX0_numberOf 1 = .ok (.istore_n 2, 1) := by decide +kernel
theorem dX0_numberOf_2 : decode cX0_numberOf 2 = .ok (.iload_n 2, 1) := by decide +kernel
theorem dX0_numberOf_3 : decode cX0_numberOf 3 = .ok (.aload_n 0, 1) := by decide +kernel
theorem dX0_numberOf_4 : decode cX0_numberOf 4 = .ok (.getfield 39, 3) := by decide +kernel
theorem dX0_numberOf_7 : decode cX0_numberOf 7 = .ok (.if_icmp .ge 21, 3) := by decide +kernel
theorem dX0_numberOf_10 : decode cX0_numberOf 10 = .ok (.aload_n 0, 1) := by decide +kernel
theorem dX0_numberOf_11 : decode cX0_numberOf 11 = .ok (.getfield 9, 3) := by decide +kernel
theorem dX0_numberOf_14 : decode cX0_numberOf 14 = .ok (.iload_n 2, 1) := by decide +kernel
theorem dX0_numberOf_15 : decode cX0_numberOf 15 = .ok (.iaload, 1) := by decide +kernel
theorem dX0_numberOf_16 : decode cX0_numberOf 16 = .ok (.iload_n 1, 1) := by decide +kernel
theorem dX0_numberOf_17 : decode cX0_numberOf 17 = .ok (.if_icmp .ne 5, 3) := by decide +kernel
theorem dX0_numberOf_20 : decode cX0_numberOf 20 = .ok (.iload_n 2, 1) := by decide +kernel
theorem dX0_numberOf_21 : decode cX0_numberOf 21 = .ok (.ireturn, 1) := by decide +kernel
theorem dX0_numberOf_22 : decode cX0_numberOf 22 = .ok (.iinc 2 1, 3) := by decide +kernel
theorem dX0_numberOf_25 : decode cX0_numberOf 25 = .ok (.goto (-23), 3) := by decide +kernel
theorem dX0_numberOf_28 : decode cX0_numberOf 28 = .ok (.aload_n 0, 1) := by decide +kernel
theorem dX0_numberOf_29 : decode cX0_numberOf 29 = .ok (.getfield 9, 3) := by decide +kernel
theorem dX0_numberOf_32 : decode cX0_numberOf 32 = .ok (.aload_n 0, 1) := by decide +kernel
theorem dX0_numberOf_33 : decode cX0_numberOf 33 = .ok (.getfield 39, 3) := by decide +kernel
theorem dX0_numberOf_36 : decode cX0_numberOf 36 = .ok (.iload_n 1, 1) := by decide +kernel
theorem dX0_numberOf_37 : decode cX0_numberOf 37 = .ok (.iastore, 1) := by decide +kernel
theorem dX0_numberOf_38 : decode cX0_numberOf 38 = .ok (.aload_n 0, 1) := by decide +kernel
theorem dX0_numberOf_39 : decode cX0_numberOf 39 = .ok (.getfield 15, 3) := by decide +kernel
theorem dX0_numberOf_42 : decode cX0_numberOf 42 = .ok (.aload_n 0, 1) := by decide +kernel
theorem dX0_numberOf_43 : decode cX0_numberOf 43 = .ok (.getfield 39, 3) := by decide +kernel
theorem dX0_numberOf_46 : decode cX0_numberOf 46 = .ok (.iconst 0, 1) := by decide +kernel
theorem dX0_numberOf_47 : decode cX0_numberOf 47 = .ok (.iastore, 1) := by decide +kernel
theorem dX0_numberOf_48 : decode cX0_numberOf 48 = .ok (.aload_n 0, 1) := by decide +kernel
theorem dX0_numberOf_49 : decode cX0_numberOf 49 = .ok (.dup, 1) := by decide +kernel
theorem dX0_numberOf_50 : decode cX0_numberOf 50 = .ok (.getfield 39, 3) := by decide +kernel
theorem dX0_numberOf_53 : decode cX0_numberOf 53 = .ok (.dup_x1, 1) := by decide +kernel
theorem dX0_numberOf_54 : decode cX0_numberOf 54 = .ok (.iconst 1, 1) := by decide +kernel
theorem dX0_numberOf_55 : decode cX0_numberOf 55 = .ok (.iadd, 1) := by decide +kernel
theorem dX0_numberOf_56 : decode cX0_numberOf 56 = .ok (.putfield 39, 3) := by decide +kernel
theorem dX0_numberOf_59 : decode cX0_numberOf 59 = .ok (.ireturn, 1) := by decide +kernel
theorem dX0_entryOf_0 : decode cX0_entryOf 0 = .ok (.aload_n 0, 1) := by decide +kernel
theorem dX0_entryOf_1 : decode cX0_entryOf 1 = .ok (.iload_n 1, 1) := by decide +kernel
theorem dX0_entryOf_2 : decode cX0_entryOf 2 = .ok (.iload_n 2, 1) := by decide +kernel
theorem dX0_entryOf_3 : decode cX0_entryOf 3 = .ok (.invokevirtual 63, 3) := by decide +kernel
theorem dX0_entryOf_6 : decode cX0_entryOf 6 = .ok (.istore_n 3, 1) := by decide +kernel
theorem dX0_entryOf_7 : decode cX0_entryOf 7 = .ok (.iload_n 3, 1) := by decide +kernel
theorem dX0_entryOf_8 : decode cX0_entryOf 8 = .ok (.aload_n 0, 1) := by decide +kernel
theorem dX0_entryOf_9 : decode cX0_entryOf 9 = .ok (.getfield 42, 3) := by decide +kernel
theorem dX0_entryOf_12 : decode cX0_entryOf 12 = .ok (.if_icmp .ne 34, 3) := by decide +kernel
theorem dX0_entryOf_15 : decode cX0_entryOf 15 = .ok (.aload_n 0, 1) := by decide +kernel
theorem dX0_entryOf_16 : decode cX0_entryOf 16 = .ok (.getfield 18, 3) := by decide +kernel
theorem dX0_entryOf_19 : decode cX0_entryOf 19 = .ok (.iload_n 3, 1) := by decide +kernel
theorem dX0_entryOf_20 : decode cX0_entryOf 20 = .ok (.iload_n 1, 1) := by decide +kernel
theorem dX0_entryOf_21 : decode cX0_entryOf 21 = .ok (.iastore, 1) := by decide +kernel
theorem dX0_entryOf_22 : decode cX0_entryOf 22 = .ok (.aload_n 0, 1) := by decide +kernel
theorem dX0_entryOf_23 : decode cX0_entryOf 23 = .ok (.getfield 21, 3) := by decide +kernel
theorem dX0_entryOf_26 : decode cX0_entryOf 26 = .ok (.iload_n 3, 1) := by decide +kernel
theorem dX0_entryOf_27 : decode cX0_entryOf 27 = .ok (.iload_n 2, 1) := by decide +kernel
theorem dX0_entryOf_28 : decode cX0_entryOf 28 = .ok (.iastore, 1) := by decide +kernel
theorem dX0_entryOf_29 : decode cX0_entryOf 29 = .ok (.aload_n 0, 1) := by decide +kernel
theorem dX0_entryOf_30 : decode cX0_entryOf 30 = .ok (.getfield 24, 3) := by decide +kernel
theorem dX0_entryOf_33 : decode cX0_entryOf 33 = .ok (.iload_n 3, 1) := by decide +kernel
theorem dX0_entryOf_34 : decode cX0_entryOf 34 = .ok (.iconst 0, 1) := by decide +kernel
theorem dX0_entryOf_35 : decode cX0_entryOf 35 = .ok (.iastore, 1) := by decide +kernel
theorem dX0_entryOf_36 : decode cX0_entryOf 36 = .ok (.aload_n 0, 1) := by decide +kernel
theorem dX0_entryOf_37 : decode cX0_entryOf 37 = .ok (.dup, 1) := by decide +kernel
theorem dX0_entryOf_38 : decode cX0_entryOf 38 = .ok (.getfield 42, 3) := by decide +kernel
theorem dX0_entryOf_41 : decode cX0_entryOf 41 = .ok (.iconst 1, 1) := by decide +kernel
theorem dX0_entryOf_42 : decode cX0_entryOf 42 = .ok (.iadd, 1) := by decide +kernel
theorem dX0_entryOf_43 : decode cX0_entryOf 43 = .ok (.putfield 42, 3) := by decide +kernel
theorem dX0_entryOf_46 : decode cX0_entryOf 46 = .ok (.iload_n 3, 1) := by decide +kernel
theorem dX0_entryOf_47 : decode cX0_entryOf 47 = .ok (.ireturn, 1) := by decide +kernel
theorem dX0_findEntry_0 : decode cX0_findEntry 0 = .ok (.iconst 0, 1) := by decide +kernel
theorem dX0_findEntry_1 : decode cX0_findEntry 1 = .ok (.istore_n 3, 1) := by decide +kernel
theorem dX0_findEntry_2 : decode cX0_findEntry 2 = .ok (.iload_n 3, 1) := by decide +kernel
theorem dX0_findEntry_3 : decode cX0_findEntry 3 = .ok (.aload_n 0, 1) := by decide +kernel
theorem dX0_findEntry_4 : decode cX0_findEntry 4 = .ok (.getfield 42, 3) := by decide +kernel
theorem dX0_findEntry_7 : decode cX0_findEntry 7 = .ok (.if_icmp .ge 31, 3) := by decide +kernel
theorem dX0_findEntry_10 : decode cX0_findEntry 10 = .ok (.aload_n 0, 1) := by decide +kernel
theorem dX0_findEntry_11 : decode cX0_findEntry 11 = .ok (.getfield 18, 3) := by decide +kernel
theorem dX0_findEntry_14 : decode cX0_findEntry 14 = .ok (.iload_n 3, 1) := by decide +kernel
theorem dX0_findEntry_15 : decode cX0_findEntry 15 = .ok (.iaload, 1) := by decide +kernel
theorem dX0_findEntry_16 : decode cX0_findEntry 16 = .ok (.iload_n 1, 1) := by decide +kernel
theorem dX0_findEntry_17 : decode cX0_findEntry 17 = .ok (.if_icmp .ne 15, 3) := by decide +kernel
theorem dX0_findEntry_20 : decode cX0_findEntry 20 = .ok (.aload_n 0, 1) := by decide +kernel
theorem dX0_findEntry_21 : decode cX0_findEntry 21 = .ok (.getfield 21, 3) := by decide +kernel
theorem dX0_findEntry_24 : decode cX0_findEntry 24 = .ok (.iload_n 3, 1) := by decide +kernel
theorem dX0_findEntry_25 : decode cX0_findEntry 25 = .ok (.iaload, 1) := by decide +kernel
theorem dX0_findEntry_26 : decode cX0_findEntry 26 = .ok (.iload_n 2, 1) := by decide +kernel
theorem dX0_findEntry_27 : decode cX0_findEntry 27 = .ok (.if_icmp .ne 5, 3) := by decide +kernel
theorem dX0_findEntry_30 : decode cX0_findEntry 30 = .ok (.iload_n 3, 1) := by decide +kernel
theorem dX0_findEntry_31 : decode cX0_findEntry 31 = .ok (.ireturn, 1) := by decide +kernel
theorem dX0_findEntry_32 : decode cX0_findEntry 32 = .ok (.iinc 3 1, 3) := by decide +kernel
theorem dX0_findEntry_35 : decode cX0_findEntry 35 = .ok (.goto (-33), 3) := by decide +kernel
theorem dX0_findEntry_38 : decode cX0_findEntry 38 = .ok (.aload_n 0, 1) := by decide +kernel
theorem dX0_findEntry_39 : decode cX0_findEntry 39 = .ok (.getfield 42, 3) := by decide +kernel
theorem dX0_findEntry_42 : decode cX0_findEntry 42 = .ok (.ireturn, 1) := by decide +kernel
theorem dX1_init_0 : decode cX1_init 0 = .ok (.aload_n 0, 1) := by decide +kernel
theorem dX1_init_1 : decode cX1_init 1 = .ok (.invokespecial 3, 3) := by decide +kernel
theorem dX1_init_4 : decode cX1_init 4 = .ok (.aload_n 0, 1) := by decide +kernel
theorem dX1_init_5 : decode cX1_init 5 = .ok (.new 9, 3) := by decide +kernel
theorem dX1_init_8 : decode cX1_init 8 = .ok (.dup, 1) := by decide +kernel
theorem dX1_init_9 : decode cX1_init 9 = .ok (.invokespecial 11, 3) := by decide +kernel
theorem dX1_init_12 : decode cX1_init 12 = .ok (.putfield 12, 3) := by decide +kernel
theorem dX1_init_15 : decode cX1_init 15 = .ok (.aload_n 0, 1) := by decide +kernel
theorem dX1_init_16 : decode cX1_init 16 = .ok (.bipush 16, 2) := by decide +kernel
theorem dX1_init_18 : decode cX1_init 18 = .ok (.newarray .int, 2) := by decide +kernel
theorem dX1_init_20 : decode cX1_init 20 = .ok (.putfield 18, 3) := by decide +kernel
theorem dX1_init_23 : decode cX1_init 23 = .ok (.return_, 1) := by decide +kernel
theorem dX1_content_0 : decode cX1_content 0 = .ok (.lconst 0, 1) := by decide +kernel
theorem dX1_content_1 : decode cX1_content 1 = .ok (.lstore 4, 2) := by decide +kernel
theorem dX1_content_3 : decode cX1_content 3 = .ok (.iconst 0, 1) := by decide +kernel
theorem dX1_content_4 : decode cX1_content 4 = .ok (.istore 6, 2) := by decide +kernel
theorem dX1_content_6 : decode cX1_content 6 = .ok (.iload 6, 2) := by decide +kernel
theorem dX1_content_8 : decode cX1_content 8 = .ok (.aload_n 1, 1) := by decide +kernel
theorem dX1_content_9 : decode cX1_content 9 = .ok (.getfield 22, 3) := by decide +kernel
theorem dX1_content_12 : decode cX1_content 12 = .ok (.if_icmp .ge 51, 3) := by decide +kernel
theorem dX1_content_15 : decode cX1_content 15 = .ok (.aload_n 1, 1) := by decide +kernel
theorem dX1_content_16 : decode cX1_content 16 = .ok (.getfield 28, 3) := by decide +kernel
theorem dX1_content_19 : decode cX1_content 19 = .ok (.iload 6, 2) := by decide +kernel
theorem dX1_content_21 : decode cX1_content 21 = .ok (.iaload, 1) := by decide +kernel
theorem dX1_content_22 : decode cX1_content 22 = .ok (.istore 7, 2) := by decide +kernel
theorem dX1_content_24 : decode cX1_content 24 = .ok (.aload_n 1, 1) := by decide +kernel
theorem dX1_content_25 : decode cX1_content 25 = .ok (.getfield 31, 3) := by decide +kernel
theorem dX1_content_28 : decode cX1_content 28 = .ok (.aload_n 1, 1) := by decide +kernel
theorem dX1_content_29 : decode cX1_content 29 = .ok (.getfield 34, 3) := by decide +kernel
theorem dX1_content_32 : decode cX1_content 32 = .ok (.iload 6, 2) := by decide +kernel
theorem dX1_content_34 : decode cX1_content 34 = .ok (.iaload, 1) := by decide +kernel
theorem dX1_content_35 : decode cX1_content 35 = .ok (.iaload, 1) := by decide +kernel
theorem dX1_content_36 : decode cX1_content 36 = .ok (.istore 8, 2) := by decide +kernel
theorem dX1_content_38 : decode cX1_content 38 = .ok (.lload 4, 2) := by decide +kernel
theorem dX1_content_40 : decode cX1_content 40 = .ok (.iload 7, 2) := by decide +kernel
theorem dX1_content_42 : decode cX1_content 42 = .ok (.i2l, 1) := by decide +kernel
theorem dX1_content_43 : decode cX1_content 43 = .ok (.aload_n 0, 1) := by decide +kernel
theorem dX1_content_44 : decode cX1_content 44 = .ok (.iload 7, 2) := by decide +kernel
theorem dX1_content_46 : decode cX1_content 46 = .ok (.iload 8, 2) := by decide +kernel
theorem dX1_content_48 : decode cX1_content 48 = .ok (.iload_n 2, 1) := by decide +kernel
theorem dX1_content_49 : decode cX1_content 49 = .ok (.iload_n 3, 1) := by decide +kernel
theorem dX1_content_50 : decode cX1_content 50 = .ok (.invokevirtual 37, 3) := by decide +kernel
theorem dX1_content_53 : decode cX1_content 53 = .ok (.lmul, 1) := by decide +kernel
theorem dX1_content_54 : decode cX1_content 54 = .ok (.ladd, 1) := by decide +kernel
theorem dX1_content_55 : decode cX1_content 55 = .ok (.lstore 4, 2) := by decide +kernel
theorem dX1_content_57 : decode cX1_content 57 = .ok (.iinc 6 1, 3) := by decide +kernel
theorem dX1_content_60 : decode cX1_content 60 = .ok (.goto (-54), 3) := by decide +kernel
theorem dX1_content_63 : decode cX1_content 63 = .ok (.lload 4, 2) := by decide +kernel
theorem dX1_content_65 : decode cX1_content 65 = .ok (.lreturn, 1) := by decide +kernel
theorem dX1_cross_0 : decode cX1_cross 0 = .ok (.lconst 0, 1) := by decide +kernel
theorem dX1_cross_1 : decode cX1_cross 1 = .ok (.lstore 5, 2) := by decide +kernel
theorem dX1_cross_3 : decode cX1_cross 3 = .ok (.iconst 0, 1) := by decide +kernel
theorem dX1_cross_4 : decode cX1_cross 4 = .ok (.istore 7, 2) := by decide +kernel
theorem dX1_cross_6 : decode cX1_cross 6 = .ok (.iload 7, 2) := by decide +kernel
theorem dX1_cross_8 : decode cX1_cross 8 = .ok (.bipush 16, 2) := by decide +kernel
theorem dX1_cross_10 : decode cX1_cross 10 = .ok (.if_icmp .ge 51, 3) := by decide +kernel
theorem dX1_cross_13 : decode cX1_cross 13 = .ok (.aload_n 1, 1) := by decide +kernel
theorem dX1_cross_14 : decode cX1_cross 14 = .ok (.getfield 41, 3) := by decide +kernel
theorem dX1_cross_17 : decode cX1_cross 17 = .ok (.iload 7, 2) := by decide +kernel
theorem dX1_cross_19 : decode cX1_cross 19 = .ok (.iaload, 1) := by decide +kernel
theorem dX1_cross_20 : decode cX1_cross 20 = .ok (.ifCond .le 35, 3) := by decide +kernel
theorem dX1_cross_23 : decode cX1_cross 23 = .ok (.lload 5, 2) := by decide +kernel
theorem dX1_cross_25 : decode cX1_cross 25 = .ok (.aload_n 1, 1) := by decide +kernel
theorem dX1_cross_26 : decode cX1_cross 26 = .ok (.getfield 41, 3) := by decide +kernel
theorem dX1_cross_29 : decode cX1_cross 29 = .ok (.iload 7, 2) := by decide +kernel
theorem dX1_cross_31 : decode cX1_cross 31 = .ok (.iaload, 1) := by decide +kernel
theorem dX1_cross_32 : decode cX1_cross 32 = .ok (.i2l, 1) := by decide +kernel
theorem dX1_cross_33 : decode cX1_cross 33 = .ok (.aload_n 0, 1) := by decide +kernel
theorem dX1_cross_34 : decode cX1_cross 34 = .ok (.aload_n 2, 1) := by decide +kernel
theorem dX1_cross_35 : decode cX1_cross 35 = .ok (.getfield 46, 3) := by decide +kernel
theorem dX1_cross_38 : decode cX1_cross 38 = .ok (.iload 7, 2) := by decide +kernel
theorem dX1_cross_40 : decode cX1_cross 40 = .ok (.iaload, 1) := by decide +kernel
theorem dX1_cross_41 : decode cX1_cross 41 = .ok (.aload_n 2, 1) := by decide +kernel
theorem dX1_cross_42 : decode cX1_cross 42 = .ok (.getfield 51, 3) := by decide +kernel
theorem dX1_cross_45 : decode cX1_cross 45 = .ok (.iload_n 3, 1) := by decide +kernel
theorem dX1_cross_46 : decode cX1_cross 46 = .ok (.iload 4, 2) := by decide +kernel
theorem dX1_cross_48 : decode cX1_cross 48 = .ok (.invokevirtual 37, 3) := by decide +kernel
theorem dX1_cross_51 : decode cX1_cross 51 = .ok (.lmul, 1) := by decide +kernel
theorem dX1_cross_52 : decode cX1_cross 52 = .ok (.ladd, 1) := by decide +kernel
theorem dX1_cross_53 : decode cX1_cross 53 = .ok (.lstore 5, 2) := by decide +kernel
theorem dX1_cross_55 : decode cX1_cross 55 = .ok (.iinc 7 1, 3) := by decide +kernel
theorem dX1_cross_58 : decode cX1_cross 58 = .ok (.goto (-52), 3) := by decide +kernel
theorem dX1_cross_61 : decode cX1_cross 61 = .ok (.lload 5, 2) := by decide +kernel
theorem dX1_cross_63 : decode cX1_cross 63 = .ok (.lreturn, 1) := by decide +kernel
theorem dX1_growing_0 : decode cX1_growing 0 = .ok (.aload_n 0, 1) := by decide +kernel
theorem dX1_growing_1 : decode cX1_growing 1 = .ok (.getfield 18, 3) := by decide +kernel
theorem dX1_growing_4 : decode cX1_growing 4 = .ok (.iconst 0, 1) := by decide +kernel
theorem dX1_growing_5 : decode cX1_growing 5 = .ok (.invokestatic 54, 3) := by decide +kernel
theorem dX1_growing_8 : decode cX1_growing 8 = .ok (.lconst 0, 1) := by decide +kernel
theorem dX1_growing_9 : decode cX1_growing 9 = .ok (.lstore 4, 2) := by decide +kernel
theorem dX1_growing_11 : decode cX1_growing 11 = .ok (.iconst 0, 1) := by decide +kernel
theorem dX1_growing_12 : decode cX1_growing 12 = .ok (.istore 6, 2) := by decide +kernel
theorem dX1_growing_14 : decode cX1_growing 14 = .ok (.iload 6, 2) := by decide +kernel
theorem dX1_growing_16 : decode cX1_growing 16 = .ok (.aload_n 1, 1) := by decide +kernel
theorem dX1_growing_17 : decode cX1_growing 17 = .ok (.getfield 60, 3) := by decide +kernel
theorem dX1_growing_20 : decode cX1_growing 20 = .ok (.if_icmp .ge 52, 3) := by decide +kernel
theorem dX1_growing_23 : decode cX1_growing 23 = .ok (.aload_n 1, 1) := by decide +kernel
theorem dX1_growing_24 : decode cX1_growing 24 = .ok (.getfield 63, 3) := by decide +kernel
theorem dX1_growing_27 : decode cX1_growing 27 = .ok (.iload 6, 2) := by decide +kernel
theorem dX1_growing_29 : decode cX1_growing 29 = .ok (.iaload, 1) := by decide +kernel
theorem dX1_growing_30 : decode cX1_growing 30 = .ok (.istore 7, 2) := by decide +kernel
theorem dX1_growing_32 : decode cX1_growing 32 = .ok (.aload_n 0, 1) := by decide +kernel
theorem dX1_growing_33 : decode cX1_growing 33 = .ok (.getfield 18, 3) := by decide +kernel
theorem dX1_growing_36 : decode cX1_growing 36 = .ok (.iload 7, 2) := by decide +kernel
theorem dX1_growing_38 : decode cX1_growing 38 = .ok (.dup2, 1) := by decide +kernel
theorem dX1_growing_39 : decode cX1_growing 39 = .ok (.iaload, 1) := by decide +kernel
theorem dX1_growing_40 : decode cX1_growing 40 = .ok (.iconst 1, 1) := by decide +kernel
theorem dX1_growing_41 : decode cX1_growing 41 = .ok (.iadd, 1) := by decide +kernel
theorem dX1_growing_42 : decode cX1_growing 42 = .ok (.iastore, 1) := by decide +kernel
theorem dX1_growing_43 : decode cX1_growing 43 = .ok (.lload 4, 2) := by decide +kernel
theorem dX1_growing_45 : decode cX1_growing 45 = .ok (.aload_n 0, 1) := by decide +kernel
theorem dX1_growing_46 : decode cX1_growing 46 = .ok (.aload_n 0, 1) := by decide +kernel
theorem dX1_growing_47 : decode cX1_growing 47 = .ok (.getfield 18, 3) := by decide +kernel
theorem dX1_growing_50 : decode cX1_growing 50 = .ok (.iload 7, 2) := by decide +kernel
theorem dX1_growing_52 : decode cX1_growing 52 = .ok (.iaload, 1) := by decide +kernel
theorem dX1_growing_53 : decode cX1_growing 53 = .ok (.iload 6, 2) := by decide +kernel
theorem dX1_growing_55 : decode cX1_growing 55 = .ok (.bipush 16, 2) := by decide +kernel
theorem dX1_growing_57 : decode cX1_growing 57 = .ok (.iadd, 1) := by decide +kernel
theorem dX1_growing_58 : decode cX1_growing 58 = .ok (.iload_n 2, 1) := by decide +kernel
theorem dX1_growing_59 : decode cX1_growing 59 = .ok (.iload_n 3, 1) := by decide +kernel
theorem dX1_growing_60 : decode cX1_growing 60 = .ok (.invokevirtual 37, 3) := by decide +kernel
theorem dX1_growing_63 : decode cX1_growing 63 = .ok (.ladd, 1) := by decide +kernel
theorem dX1_growing_64 : decode cX1_growing 64 = .ok (.lstore 4, 2) := by decide +kernel
theorem dX1_growing_66 : decode cX1_growing 66 = .ok (.iinc 6 1, 3) := by decide +kernel
theorem dX1_growing_69 : decode cX1_growing 69 = .ok (.goto (-55), 3) := by decide +kernel
theorem dX1_growing_72 : decode cX1_growing 72 = .ok (.lload 4, 2) := by decide +kernel
theorem dX1_growing_74 : decode cX1_growing 74 = .ok (.lreturn, 1) := by decide +kernel
theorem dX1_partInWhole_0 : decode cX1_partInWhole 0 = .ok (.iload_n 1, 1) := by decide +kernel
theorem dX1_partInWhole_1 : decode cX1_partInWhole 1 = .ok (.iload_n 2, 1) := by decide +kernel
theorem dX1_partInWhole_2 : decode cX1_partInWhole 2 = .ok (.if_icmp .ne 5, 3) := by decide +kernel
theorem dX1_partInWhole_5 : decode cX1_partInWhole 5 = .ok (.lconst 0, 1) := by decide +kernel
theorem dX1_partInWhole_6 : decode cX1_partInWhole 6 = .ok (.lreturn, 1) := by decide +kernel
theorem dX1_partInWhole_7 : decode cX1_partInWhole 7 = .ok (.iload 4, 2) := by decide +kernel
theorem dX1_partInWhole_9 : decode cX1_partInWhole 9 = .ok (.ifCond .ne 7, 3) := by decide +kernel
theorem dX1_partInWhole_12 : decode cX1_partInWhole 12 = .ok (.iconst 1, 1) := by decide +kernel
theorem dX1_partInWhole_13 : decode cX1_partInWhole 13 = .ok (.goto 4, 3) := by decide +kernel
theorem dX1_partInWhole_16 : decode cX1_partInWhole 16 = .ok (.iconst 0, 1) := by decide +kernel
theorem dX1_partInWhole_17 : decode cX1_partInWhole 17 = .ok (.istore 5, 2) := by decide +kernel
theorem dX1_partInWhole_19 : decode cX1_partInWhole 19 = .ok (.aload_n 0, 1) := by decide +kernel
theorem dX1_partInWhole_20 : decode cX1_partInWhole 20 = .ok (.getfield 12, 3) := by decide +kernel
theorem dX1_partInWhole_23 : decode cX1_partInWhole 23 = .ok (.iload_n 2, 1) := by decide +kernel
theorem dX1_partInWhole_24 : decode cX1_partInWhole 24 = .ok (.iload_n 3, 1) := by decide +kernel
theorem dX1_partInWhole_25 : decode cX1_partInWhole 25 = .ok (.iload 4, 2) := by decide +kernel
theorem dX1_partInWhole_27 : decode cX1_partInWhole 27 = .ok (.invokevirtual 66, 3) := by decide +kernel
theorem dX1_partInWhole_30 : decode cX1_partInWhole 30 = .ok (.aload_n 0, 1) := by decide +kernel
theorem dX1_partInWhole_31 : decode cX1_partInWhole 31 = .ok (.getfield 12, 3) := by decide +kernel
theorem dX1_partInWhole_34 : decode cX1_partInWhole 34 = .ok (.iload_n 1, 1) := by decide +kernel
theorem dX1_partInWhole_35 : decode cX1_partInWhole 35 = .ok (.iload_n 3, 1) := by decide +kernel
theorem dX1_partInWhole_36 : decode cX1_partInWhole 36 = .ok (.iload 5, 2) := by decide +kernel
theorem dX1_partInWhole_38 : decode cX1_partInWhole 38 = .ok (.invokevirtual 66, 3) := by decide +kernel
theorem dX1_partInWhole_41 : decode cX1_partInWhole 41 = .ok (.lsub, 1) := by decide +kernel
theorem dX1_partInWhole_42 : decode cX1_partInWhole 42 = .ok (.lstore 6, 2) := by decide +kernel
theorem dX1_partInWhole_44 : decode cX1_partInWhole 44 = .ok (.lload 6, 2) := by decide +kernel
theorem dX1_partInWhole_46 : decode cX1_partInWhole 46 = .ok (.lconst 0, 1) := by decide +kernel
theorem dX1_partInWhole_47 : decode cX1_partInWhole 47 = .ok (.invokestatic 70, 3) := by decide +kernel
theorem dX1_partInWhole_50 : decode cX1_partInWhole 50 = .ok (.lreturn, 1) := by decide +kernel
theorem dX2_init_0 : decode cX2_init 0 = .ok (.aload_n 0, 1) := by decide +kernel
theorem dX2_init_1 : decode cX2_init 1 = .ok (.invokespecial 3, 3) := by decide +kernel
theorem dX2_init_4 : decode cX2_init 4 = .ok (.return_, 1) := by decide +kernel
theorem dX2_cut_0 : decode cX2_cut 0 = .ok (.iconst 0, 1) := by decide +kernel
theorem dX2_cut_1 : decode cX2_cut 1 = .ok (.istore_n 2, 1) := by decide +kernel
theorem dX2_cut_2 : decode cX2_cut 2 = .ok (.iconst 0, 1) := by decide +kernel
theorem dX2_cut_3 : decode cX2_cut 3 = .ok (.istore_n 3, 1) := by decide +kernel
theorem dX2_cut_4 : decode cX2_cut 4 = .ok (.iload_n 3, 1) := by decide +kernel
theorem dX2_cut_5 : decode cX2_cut 5 = .ok (.aload_n 1, 1) := by decide +kernel
theorem dX2_cut_6 : decode cX2_cut 6 = .ok (.getfield 9, 3) := by decide +kernel
theorem dX2_cut_9 : decode cX2_cut 9 = .ok (.if_icmp .ge 34, 3) := by decide +kernel
theorem dX2_cut_12 : decode cX2_cut 12 = .ok (.iload_n 3, 1) := by decide +kernel
theorem dX2_cut_13 : decode cX2_cut 13 = .ok (.iload_n 2, 1) := by decide +kernel
theorem dX2_cut_14 : decode cX2_cut 14 = .ok (.if_icmp .ne 23, 3) := by decide +kernel
theorem dX2_cut_17 : decode cX2_cut 17 = .ok (.aload_n 0, 1) := by decide +kernel
theorem dX2_cut_18 : decode cX2_cut 18 = .ok (.aload_n 1, 1) := by decide +kernel
theorem dX2_cut_19 : decode cX2_cut 19 = .ok (.iload_n 3, 1) := by decide +kernel
theorem dX2_cut_20 : decode cX2_cut 20 = .ok (.invokevirtual 15, 3) := by decide +kernel
theorem dX2_cut_23 : decode cX2_cut 23 = .ok (.iload_n 3, 1) := by decide +kernel
theorem dX2_cut_24 : decode cX2_cut 24 = .ok (.aload_n 0, 1) := by decide +kernel
theorem dX2_cut_25 : decode cX2_cut 25 = .ok (.getfield 21, 3) := by decide +kernel
theorem dX2_cut_28 : decode cX2_cut 28 = .ok (.aload_n 0, 1) := by decide +kernel
theorem dX2_cut_29 : decode cX2_cut 29 = .ok (.getfield 25, 3) := by decide +kernel
theorem dX2_cut_32 : decode cX2_cut 32 = .ok (.iconst 1, 1) := by decide +kernel
theorem dX2_cut_33 : decode cX2_cut 33 = .ok (.isub, 1) := by decide +kernel
theorem dX2_cut_34 : decode cX2_cut 34 = .ok (.iaload, 1) := by decide +kernel
theorem dX2_cut_35 : decode cX2_cut 35 = .ok (.iadd, 1) := by decide +kernel
theorem dX2_cut_36 : decode cX2_cut 36 = .ok (.istore_n 2, 1) := by decide +kernel
theorem dX2_cut_37 : decode cX2_cut 37 = .ok (.iinc 3 1, 3) := by decide +kernel
theorem dX2_cut_40 : decode cX2_cut 40 = .ok (.goto (-36), 3) := by decide +kernel
theorem dX2_cut_43 : decode cX2_cut 43 = .ok (.return_, 1) := by decide +kernel
theorem dX2_addFactor_0 : decode cX2_addFactor 0 = .ok (.iconst 0, 1) := by decide +kernel
theorem dX2_addFactor_1 : decode cX2_addFactor 1 = .ok (.istore_n 3, 1) := by decide +kernel
theorem dX2_addFactor_2 : decode cX2_addFactor 2 = .ok (.bipush (-2), 2) := by decide +kernel
theorem dX2_addFactor_4 : decode cX2_addFactor 4 = .ok (.istore 4, 2) := by decide +kernel
theorem dX2_addFactor_6 : decode cX2_addFactor 6 = .ok (.iconst 0, 1) := by decide +kernel
theorem dX2_addFactor_7 : decode cX2_addFactor 7 = .ok (.istore 5, 2) := by decide +kernel
theorem dX2_addFactor_9 : decode cX2_addFactor 9 = .ok (.iload 5, 2) := by decide +kernel
theorem dX2_addFactor_11 : decode cX2_addFactor 11 = .ok (.iload_n 2, 1) := by decide +kernel
theorem dX2_addFactor_12 : decode cX2_addFactor 12 = .ok (.if_icmp .ge 31, 3) := by decide +kernel
theorem dX2_addFactor_15 : decode cX2_addFactor 15 = .ok (.aload_n 1, 1) := by decide +kernel
theorem dX2_addFactor_16 : decode cX2_addFactor 16 = .ok (.iload 5, 2) := by decide +kernel
theorem dX2_addFactor_18 : decode cX2_addFactor 18 = .ok (.iload_n 2, 1) := by decide +kernel
theorem dX2_addFactor_19 : decode cX2_addFactor 19 = .ok (.invokestatic 28, 3) := by decide +kernel
theorem dX2_addFactor_22 : decode cX2_addFactor 22 = .ok (.istore 6, 2) := by decide +kernel
theorem dX2_addFactor_24 : decode cX2_addFactor 24 = .ok (.iload 6, 2) := by decide +kernel
theorem dX2_addFactor_26 : decode cX2_addFactor 26 = .ok (.iload_n 3, 1) := by decide +kernel
theorem dX2_addFactor_27 : decode cX2_addFactor 27 = .ok (.if_icmp .le 10, 3) := by decide +kernel
theorem dX2_addFactor_30 : decode cX2_addFactor 30 = .ok (.iload 6, 2) := by decide +kernel
theorem dX2_addFactor_32 : decode cX2_addFactor 32 = .ok (.istore_n 3, 1) := by decide +kernel
theorem dX2_addFactor_33 : decode cX2_addFactor 33 = .ok (.iload 5, 2) := by decide +kernel
theorem dX2_addFactor_35 : decode cX2_addFactor 35 = .ok (.istore 4, 2) := by decide +kernel
theorem dX2_addFactor_37 : decode cX2_addFactor 37 = .ok (.iinc 5 1, 3) := by decide +kernel
theorem dX2_addFactor_40 : decode cX2_addFactor 40 = .ok (.goto (-31), 3) := by decide +kernel
theorem dX2_addFactor_43 : decode cX2_addFactor 43 = .ok (.aload_n 0, 1) := by decide +kernel
theorem dX2_addFactor_44 : decode cX2_addFactor 44 = .ok (.iload_n 2, 1) := by decide +kernel
theorem dX2_addFactor_45 : decode cX2_addFactor 45 = .ok (.iload_n 3, 1) := by decide +kernel
theorem dX2_addFactor_46 : decode cX2_addFactor 46 = .ok (.iconst 1, 1) := by decide +kernel
theorem dX2_addFactor_47 : decode cX2_addFactor 47 = .ok (.invokestatic 32, 3) := by decide +kernel
theorem dX2_addFactor_50 : decode cX2_addFactor 50 = .ok (.iload 4, 2) := by decide +kernel
theorem dX2_addFactor_52 : decode cX2_addFactor 52 = .ok (.invokevirtual 38, 3) := by decide +kernel
theorem dX2_addFactor_55 : decode cX2_addFactor 55 = .ok (.return_, 1) := by decide +kernel
theorem dX2_commonRun_0 : decode cX2_commonRun 0 = .ok (.iconst 0, 1) := by decide +kernel
theorem dX2_commonRun_1 : decode cX2_commonRun 1 = .ok (.istore_n 3, 1) := by decide +kernel
theorem dX2_commonRun_2 : decode cX2_commonRun 2 = .ok (.iload_n 2, 1) := by decide +kernel
theorem dX2_commonRun_3 : decode cX2_commonRun 3 = .ok (.iload_n 3, 1) := by decide +kernel
theorem dX2_commonRun_4 : decode cX2_commonRun 4 = .ok (.iadd, 1) := by decide +kernel
theorem dX2_commonRun_5 : decode cX2_commonRun 5 = .ok (.aload_n 0, 1) := by decide +kernel
theorem dX2_commonRun_6 : decode cX2_commonRun 6 = .ok (.getfield 9, 3) := by decide +kernel
theorem dX2_commonRun_9 : decode cX2_commonRun 9 = .ok (.if_icmp .ge 28, 3) := by decide +kernel
theorem dX2_commonRun_12 : decode cX2_commonRun 12 = .ok (.aload_n 0, 1) := by decide +kernel
theorem dX2_commonRun_13 : decode cX2_commonRun 13 = .ok (.getfield 42, 3) := by decide +kernel
theorem dX2_commonRun_16 : decode cX2_commonRun 16 = .ok (.iload_n 1, 1) := by decide +kernel
theorem dX2_commonRun_17 : decode cX2_commonRun 17 = .ok (.iload_n 3, 1) := by decide +kernel
theorem dX2_commonRun_18 : decode cX2_commonRun 18 = .ok (.iadd, 1) := by decide +kernel
theorem dX2_commonRun_19 : decode cX2_commonRun 19 = .ok (.iaload, 1) := by decide +kernel
theorem dX2_commonRun_20 : decode cX2_commonRun 20 = .ok (.aload_n 0, 1) := by decide +kernel
theorem dX2_commonRun_21 : decode cX2_commonRun 21 = .ok (.getfield 42, 3) := by decide +kernel
theorem dX2_commonRun_24 : decode cX2_commonRun 24 = .ok (.iload_n 2, 1) := by decide +kernel
theorem dX2_commonRun_25 : decode cX2_commonRun 25 = .ok (.iload_n 3, 1) := by decide +kernel
theorem dX2_commonRun_26 : decode cX2_commonRun 26 = .ok (.iadd, 1) := by decide +kernel
theorem dX2_commonRun_27 : decode cX2_commonRun 27 = .ok (.iaload, 1) := by decide +kernel
theorem dX2_commonRun_28 : decode cX2_commonRun 28 = .ok (.if_icmp .ne 9, 3) := by decide +kernel
theorem dX2_commonRun_31 : decode cX2_commonRun 31 = .ok (.iinc 3 1, 3) := by decide +kernel
theorem dX2_commonRun_34 : decode cX2_commonRun 34 = .ok (.goto (-32), 3) := by decide +kernel
theorem dX2_commonRun_37 : decode cX2_commonRun 37 = .ok (.iload_n 3, 1) := by decide +kernel
theorem dX2_commonRun_38 : decode cX2_commonRun 38 = .ok (.ireturn, 1) := by decide +kernel
theorem dX3_init_0 : decode cX3_init 0 = .ok (.aload_n 0, 1) := by decide +kernel
theorem dX3_init_1 : decode cX3_init 1 = .ok (.invokespecial 3, 3) := by decide +kernel
theorem dX3_init_4 : decode cX3_init 4 = .ok (.aload_n 0, 1) := by decide +kernel
theorem dX3_init_5 : decode cX3_init 5 = .ok (.new 9, 3) := by decide +kernel
theorem dX3_init_8 : decode cX3_init 8 = .ok (.dup, 1) := by decide +kernel
theorem dX3_init_9 : decode cX3_init 9 = .ok (.invokespecial 11, 3) := by decide +kernel
theorem dX3_init_12 : decode cX3_init 12 = .ok (.putfield 12, 3) := by decide +kernel
theorem dX3_init_15 : decode cX3_init 15 = .ok (.aload_n 0, 1) := by decide +kernel
theorem dX3_init_16 : decode cX3_init 16 = .ok (.sipush 400, 3) := by decide +kernel
theorem dX3_init_19 : decode cX3_init 19 = .ok (.newarray .int, 2) := by decide +kernel
theorem dX3_init_21 : decode cX3_init 21 = .ok (.putfield 18, 3) := by decide +kernel
theorem dX3_init_24 : decode cX3_init 24 = .ok (.aload_n 0, 1) := by decide +kernel
theorem dX3_init_25 : decode cX3_init 25 = .ok (.sipush 200, 3) := by decide +kernel
theorem dX3_init_28 : decode cX3_init 28 = .ok (.newarray .int, 2) := by decide +kernel
theorem dX3_init_30 : decode cX3_init 30 = .ok (.putfield 22, 3) := by decide +kernel
theorem dX3_init_33 : decode cX3_init 33 = .ok (.aload_n 0, 1) := by decide +kernel
theorem dX3_init_34 : decode cX3_init 34 = .ok (.sipush 200, 3) := by decide +kernel
theorem dX3_init_37 : decode cX3_init 37 = .ok (.newarray .int, 2) := by decide +kernel
theorem dX3_init_39 : decode cX3_init 39 = .ok (.putfield 25, 3) := by decide +kernel
theorem dX3_init_42 : decode cX3_init 42 = .ok (.return_, 1) := by decide +kernel
theorem dX3_follow_0 : decode cX3_follow 0 = .ok (.aload_n 0, 1) := by decide +kernel
theorem dX3_follow_1 : decode cX3_follow 1 = .ok (.getfield 28, 3) := by decide +kernel
theorem dX3_follow_4 : decode cX3_follow 4 = .ok (.aload_n 1, 1) := by decide +kernel
theorem dX3_follow_5 : decode cX3_follow 5 = .ok (.getfield 32, 3) := by decide +kernel
theorem dX3_follow_8 : decode cX3_follow 8 = .ok (.if_icmp .ne 4, 3) := by decide +kernel
theorem dX3_follow_11 : decode cX3_follow 11 = .ok (.return_, 1) := by decide +kernel
theorem dX3_follow_12 : decode cX3_follow 12 = .ok (.aload_n 0, 1) := by decide +kernel
theorem dX3_follow_13 : decode cX3_follow 13 = .ok (.aload_n 1, 1) := by decide +kernel
theorem dX3_follow_14 : decode cX3_follow 14 = .ok (.getfield 32, 3) := by decide +kernel
theorem dX3_follow_17 : decode cX3_follow 17 = .ok (.putfield 28, 3) := by decide +kernel
theorem dX3_follow_20 : decode cX3_follow 20 = .ok (.aload_n 1, 1) := by decide +kernel
theorem dX3_follow_21 : decode cX3_follow 21 = .ok (.getfield 37, 3) := by decide +kernel
theorem dX3_follow_24 : decode cX3_follow 24 = .ok (.iconst 0, 1) := by decide +kernel
theorem dX3_follow_25 : decode cX3_follow 25 = .ok (.aload_n 0, 1) := by decide +kernel
theorem dX3_follow_26 : decode cX3_follow 26 = .ok (.getfield 18, 3) := by decide +kernel
theorem dX3_follow_29 : decode cX3_follow 29 = .ok (.iconst 0, 1) := by decide +kernel
theorem dX3_follow_30 : decode cX3_follow 30 = .ok (.aload_n 1, 1) := by decide +kernel
theorem dX3_follow_31 : decode cX3_follow 31 = .ok (.getfield 40, 3) := by decide +kernel
theorem dX3_follow_34 : decode cX3_follow 34 = .ok (.invokestatic 43, 3) := by decide +kernel
theorem dX3_follow_37 : decode cX3_follow 37 = .ok (.aload_n 0, 1) := by decide +kernel
theorem dX3_follow_38 : decode cX3_follow 38 = .ok (.aload_n 1, 1) := by decide +kernel
theorem dX3_follow_39 : decode cX3_follow 39 = .ok (.getfield 40, 3) := by decide +kernel
theorem dX3_follow_42 : decode cX3_follow 42 = .ok (.putfield 49, 3) := by decide +kernel
theorem dX3_follow_45 : decode cX3_follow 45 = .ok (.aload_n 0, 1) := by decide +kernel
theorem dX3_follow_46 : decode cX3_follow 46 = .ok (.iconst 0, 1) := by decide +kernel
theorem dX3_follow_47 : decode cX3_follow 47 = .ok (.putfield 52, 3) := by decide +kernel
theorem dX3_follow_50 : decode cX3_follow 50 = .ok (.iconst 1, 1) := by decide +kernel
theorem dX3_follow_51 : decode cX3_follow 51 = .ok (.istore_n 2, 1) := by decide +kernel
theorem dX3_follow_52 : decode cX3_follow 52 = .ok (.iconst 0, 1) := by decide +kernel
theorem dX3_follow_53 : decode cX3_follow 53 = .ok (.istore_n 3, 1) := by decide +kernel
theorem dX3_follow_54 : decode cX3_follow 54 = .ok (.iload_n 2, 1) := by decide +kernel
theorem dX3_follow_55 : decode cX3_follow 55 = .ok (.ifCond .eq 21, 3) := by decide +kernel
theorem dX3_follow_58 : decode cX3_follow 58 = .ok (.iload_n 3, 1) := by decide +kernel
theorem dX3_follow_59 : decode cX3_follow 59 = .ok (.sipush 200, 3) := by decide +kernel
theorem dX3_follow_62 : decode cX3_follow 62 = .ok (.if_icmp .ge 14, 3) := by decide +kernel
theorem dX3_follow_65 : decode cX3_follow 65 = .ok (.aload_n 0, 1) := by decide +kernel
theorem dX3_follow_66 : decode cX3_follow 66 = .ok (.invokevirtual 55, 3) := by decide +kernel
theorem dX3_follow_69 : decode cX3_follow 69 = .ok (.istore_n 2, 1) := by decide +kernel
theorem dX3_follow_70 : decode cX3_follow 70 = .ok (.iinc 3 1, 3) := by decide +kernel
theorem dX3_follow_73 : decode cX3_follow 73 = .ok (.goto (-19), 3) := by decide +kernel
theorem dX3_follow_76 : decode cX3_follow 76 = .ok (.return_, 1) := by decide +kernel
theorem dX3_addRule_0 : decode cX3_addRule 0 = .ok (.aload_n 0, 1) := by decide +kernel
theorem dX3_addRule_1 : decode cX3_addRule 1 = .ok (.getfield 12, 3) := by decide +kernel
theorem dX3_addRule_4 : decode cX3_addRule 4 = .ok (.aload_n 0, 1) := by decide +kernel
theorem dX3_addRule_5 : decode cX3_addRule 5 = .ok (.getfield 18, 3) := by decide +kernel
theorem dX3_addRule_8 : decode cX3_addRule 8 = .ok (.aload_n 0, 1) := by decide +kernel
theorem dX3_addRule_9 : decode cX3_addRule 9 = .ok (.getfield 49, 3) := by decide +kernel
theorem dX3_addRule_12 : decode cX3_addRule 12 = .ok (.invokevirtual 59, 3) := by decide +kernel
theorem dX3_addRule_15 : decode cX3_addRule 15 = .ok (.aload_n 0, 1) := by decide +kernel
theorem dX3_addRule_16 : decode cX3_addRule 16 = .ok (.getfield 12, 3) := by decide +kernel
theorem dX3_addRule_19 : decode cX3_addRule 19 = .ok (.invokevirtual 63, 3) := by decide +kernel
theorem dX3_addRule_22 : decode cX3_addRule 22 = .ok (.istore_n 1, 1) := by decide +kernel
theorem dX3_addRule_23 : decode cX3_addRule 23 = .ok (.iload_n 1, 1) := by decide +kernel
theorem dX3_addRule_24 : decode cX3_addRule 24 = .ok (.bipush (-2), 2) := by decide +kernel
theorem dX3_addRule_26 : decode cX3_addRule 26 = .ok (.if_icmp .ne 5, 3) := by decide +kernel
theorem dX3_addRule_29 : decode cX3_addRule 29 = .ok (.iconst 0, 1) := by decide +kernel
theorem dX3_addRule_30 : decode cX3_addRule 30 = .ok (.ireturn, 1) := by decide +kernel
theorem dX3_addRule_31 : decode cX3_addRule 31 = .ok (.aload_n 0, 1) := by decide +kernel
theorem dX3_addRule_32 : decode cX3_addRule 32 = .ok (.getfield 22, 3) := by decide +kernel
theorem dX3_addRule_35 : decode cX3_addRule 35 = .ok (.aload_n 0, 1) := by decide +kernel
theorem dX3_addRule_36 : decode cX3_addRule 36 = .ok (.getfield 52, 3) := by decide +kernel
theorem dX3_addRule_39 : decode cX3_addRule 39 = .ok (.aload_n 0, 1) := by decide +kernel
theorem dX3_addRule_40 : decode cX3_addRule 40 = .ok (.getfield 12, 3) := by decide +kernel
theorem dX3_addRule_43 : decode cX3_addRule 43 = .ok (.getfield 67, 3) := by decide +kernel
theorem dX3_addRule_46 : decode cX3_addRule 46 = .ok (.iload_n 1, 1) := by decide +kernel
theorem dX3_addRule_47 : decode cX3_addRule 47 = .ok (.iaload, 1) := by decide +kernel
theorem dX3_addRule_48 : decode cX3_addRule 48 = .ok (.iastore, 1) := by decide +kernel
theorem dX3_addRule_49 : decode cX3_addRule 49 = .ok (.aload_n 0, 1) := by decide +kernel
theorem dX3_addRule_50 : decode cX3_addRule 50 = .ok (.getfield 25, 3) := by decide +kernel
theorem dX3_addRule_53 : decode cX3_addRule 53 = .ok (.aload_n 0, 1) := by decide +kernel
theorem dX3_addRule_54 : decode cX3_addRule 54 = .ok (.getfield 52, 3) := by decide +kernel
theorem dX3_addRule_57 : decode cX3_addRule 57 = .ok (.aload_n 0, 1) := by decide +kernel
theorem dX3_addRule_58 : decode cX3_addRule 58 = .ok (.getfield 12, 3) := by decide +kernel
theorem dX3_addRule_61 : decode cX3_addRule 61 = .ok (.getfield 68, 3) := by decide +kernel
theorem dX3_addRule_64 : decode cX3_addRule 64 = .ok (.iload_n 1, 1) := by decide +kernel
theorem dX3_addRule_65 : decode cX3_addRule 65 = .ok (.iaload, 1) := by decide +kernel
theorem dX3_addRule_66 : decode cX3_addRule 66 = .ok (.iastore, 1) := by decide +kernel
theorem dX3_addRule_67 : decode cX3_addRule 67 = .ok (.aload_n 0, 1) := by decide +kernel
theorem dX3_addRule_68 : decode cX3_addRule 68 = .ok (.aload_n 0, 1) := by decide +kernel
theorem dX3_addRule_69 : decode cX3_addRule 69 = .ok (.getfield 22, 3) := by decide +kernel
theorem dX3_addRule_72 : decode cX3_addRule 72 = .ok (.aload_n 0, 1) := by decide +kernel
theorem dX3_addRule_73 : decode cX3_addRule 73 = .ok (.getfield 52, 3) := by decide +kernel
theorem dX3_addRule_76 : decode cX3_addRule 76 = .ok (.iaload, 1) := by decide +kernel
theorem dX3_addRule_77 : decode cX3_addRule 77 = .ok (.aload_n 0, 1) := by decide +kernel
theorem dX3_addRule_78 : decode cX3_addRule 78 = .ok (.getfield 25, 3) := by decide +kernel
theorem dX3_addRule_81 : decode cX3_addRule 81 = .ok (.aload_n 0, 1) := by decide +kernel
theorem dX3_addRule_82 : decode cX3_addRule 82 = .ok (.getfield 52, 3) := by decide +kernel
theorem dX3_addRule_85 : decode cX3_addRule 85 = .ok (.iaload, 1) := by decide +kernel
theorem dX3_addRule_86 : decode cX3_addRule 86 = .ok (.bipush 16, 2) := by decide +kernel
theorem dX3_addRule_88 : decode cX3_addRule 88 = .ok (.aload_n 0, 1) := by decide +kernel
theorem dX3_addRule_89 : decode cX3_addRule 89 = .ok (.getfield 52, 3) := by decide +kernel
theorem dX3_addRule_92 : decode cX3_addRule 92 = .ok (.iadd, 1) := by decide +kernel
theorem dX3_addRule_93 : decode cX3_addRule 93 = .ok (.invokevirtual 69, 3) := by decide +kernel
theorem dX3_addRule_96 : decode cX3_addRule 96 = .ok (.aload_n 0, 1) := by decide +kernel
theorem dX3_addRule_97 : decode cX3_addRule 97 = .ok (.dup, 1) := by decide +kernel
theorem dX3_addRule_98 : decode cX3_addRule 98 = .ok (.getfield 52, 3) := by decide +kernel
theorem dX3_addRule_101 : decode cX3_addRule 101 = .ok (.iconst 1, 1) := by decide +kernel
theorem dX3_addRule_102 : decode cX3_addRule 102 = .ok (.iadd, 1) := by decide +kernel
theorem dX3_addRule_103 : decode cX3_addRule 103 = .ok (.putfield 52, 3) := by decide +kernel
theorem dX3_addRule_106 : decode cX3_addRule 106 = .ok (.iconst 1, 1) := by decide +kernel
theorem dX3_addRule_107 : decode cX3_addRule 107 = .ok (.ireturn, 1) := by decide +kernel
theorem dX3_replacePair_0 : decode cX3_replacePair 0 = .ok (.iconst 0, 1) := by decide +kernel
theorem dX3_replacePair_1 : decode cX3_replacePair 1 = .ok (.istore 4, 2) := by decide +kernel
theorem dX3_replacePair_3 : decode cX3_replacePair 3 = .ok (.iconst 0, 1) := by decide +kernel
theorem dX3_replacePair_4 : decode cX3_replacePair 4 = .ok (.istore 5, 2) := by decide +kernel
theorem dX3_replacePair_6 : decode cX3_replacePair 6 = .ok (.iload 5, 2) := by decide +kernel
theorem dX3_replacePair_8 : decode cX3_replacePair 8 = .ok (.aload_n 0, 1) := by decide +kernel
theorem dX3_replacePair_9 : decode cX3_replacePair 9 = .ok (.getfield 49, 3) := by decide +kernel
theorem dX3_replacePair_12 : decode cX3_replacePair 12 = .ok (.if_icmp .ge 66, 3) := by decide +kernel
theorem dX3_replacePair_15 : decode cX3_replacePair 15 = .ok (.aload_n 0, 1) := by decide +kernel
theorem dX3_replacePair_16 : decode cX3_replacePair 16 = .ok (.getfield 18, 3) := by decide +kernel
theorem dX3_replacePair_19 : decode cX3_replacePair 19 = .ok (.iload 5, 2) := by decide +kernel
theorem dX3_replacePair_21 : decode cX3_replacePair 21 = .ok (.iaload, 1) := by decide +kernel
theorem dX3_replacePair_22 : decode cX3_replacePair 22 = .ok (.istore 6, 2) := by decide +kernel
theorem dX3_replacePair_24 : decode cX3_replacePair 24 = .ok (.iload 6, 2) := by decide +kernel
theorem dX3_replacePair_26 : decode cX3_replacePair 26 = .ok (.iload_n 1, 1) := by decide +kernel
theorem dX3_replacePair_27 : decode cX3_replacePair 27 = .ok (.if_icmp .ne 33, 3) := by decide +kernel
theorem dX3_replacePair_30 : decode cX3_replacePair 30 = .ok (.iload 5, 2) := by decide +kernel
theorem dX3_replacePair_32 : decode cX3_replacePair 32 = .ok (.iconst 1, 1) := by decide +kernel
theorem dX3_replacePair_33 : decode cX3_replacePair 33 = .ok (.iadd, 1) := by decide +kernel
theorem dX3_replacePair_34 : decode cX3_replacePair 34 = .ok (.aload_n 0, 1) := by decide +kernel
theorem dX3_replacePair_35 : decode cX3_replacePair 35 = .ok (.getfield 49, 3) := by decide +kernel
theorem dX3_replacePair_38 : decode cX3_replacePair 38 = .ok (.if_icmp .ge 22, 3) := by decide +kernel
theorem dX3_replacePair_41 : decode cX3_replacePair 41 = .ok (.aload_n 0, 1) := by decide +kernel
theorem dX3_replacePair_42 : decode cX3_replacePair 42 = .ok (.getfield 18, 3) := by decide +kernel
theorem dX3_replacePair_45 : decode cX3_replacePair 45 = .ok (.iload 5, 2) := by decide +kernel
theorem dX3_replacePair_47 : decode cX3_replacePair 47 = .ok (.iconst 1, 1) := by decide +kernel
theorem dX3_replacePair_48 : decode cX3_replacePair 48 = .ok (.iadd, 1) := by decide +kernel
theorem dX3_replacePair_49 : decode cX3_replacePair 49 = .ok (.iaload, 1) := by decide +kernel
theorem dX3_replacePair_50 : decode cX3_replacePair 50 = .ok (.iload_n 2, 1) := by decide +kernel
theorem dX3_replacePair_51 : decode cX3_replacePair 51 = .ok (.if_icmp .ne 9, 3) := by decide +kernel
theorem dX3_replacePair_54 : decode cX3_replacePair 54 = .ok (.iload_n 3, 1) := by decide +kernel
theorem dX3_replacePair_55 : decode cX3_replacePair 55 = .ok (.istore 6, 2) := by decide +kernel
theorem dX3_replacePair_57 : decode cX3_replacePair 57 = .ok (.iinc 5 1, 3) := by decide +kernel
theorem dX3_replacePair_60 : decode cX3_replacePair 60 = .ok (.aload_n 0, 1) := by decide +kernel
theorem dX3_replacePair_61 : decode cX3_replacePair 61 = .ok (.getfield 18, 3) := by decide +kernel
theorem dX3_replacePair_64 : decode cX3_replacePair 64 = .ok (.iload 4, 2) := by decide +kernel
theorem dX3_replacePair_66 : decode cX3_replacePair 66 = .ok (.iload 6, 2) := by decide +kernel
theorem dX3_replacePair_68 : decode cX3_replacePair 68 = .ok (.iastore, 1) := by decide +kernel
theorem dX3_replacePair_69 : decode cX3_replacePair 69 = .ok (.iinc 4 1, 3) := by decide +kernel
theorem dX3_replacePair_72 : decode cX3_replacePair 72 = .ok (.iinc 5 1, 3) := by decide +kernel
theorem dX3_replacePair_75 : decode cX3_replacePair 75 = .ok (.goto (-69), 3) := by decide +kernel
theorem dX3_replacePair_78 : decode cX3_replacePair 78 = .ok (.aload_n 0, 1) := by decide +kernel
theorem dX3_replacePair_79 : decode cX3_replacePair 79 = .ok (.iload 4, 2) := by decide +kernel
theorem dX3_replacePair_81 : decode cX3_replacePair 81 = .ok (.putfield 49, 3) := by decide +kernel
theorem dX3_replacePair_84 : decode cX3_replacePair 84 = .ok (.return_, 1) := by decide +kernel
theorem dX4_init_0 : decode cX4_init 0 = .ok (.aload_n 0, 1) := by decide +kernel
theorem dX4_init_1 : decode cX4_init 1 = .ok (.invokespecial 5, 3) := by decide +kernel
theorem dX4_init_4 : decode cX4_init 4 = .ok (.aload_n 0, 1) := by decide +kernel
theorem dX4_init_5 : decode cX4_init 5 = .ok (.sipush 832, 3) := by decide +kernel
theorem dX4_init_8 : decode cX4_init 8 = .ok (.newarray .int, 2) := by decide +kernel
theorem dX4_init_10 : decode cX4_init 10 = .ok (.putfield 11, 3) := by decide +kernel
theorem dX4_init_13 : decode cX4_init 13 = .ok (.return_, 1) := by decide +kernel
theorem dX4_end_0 : decode cX4_end 0 = .ok (.iload_n 1, 1) := by decide +kernel
theorem dX4_end_1 : decode cX4_end 1 = .ok (.invokestatic 15, 3) := by decide +kernel
theorem dX4_end_4 : decode cX4_end 4 = .ok (.istore 4, 2) := by decide +kernel
theorem dX4_end_6 : decode cX4_end 6 = .ok (.iload 4, 2) := by decide +kernel
theorem dX4_end_8 : decode cX4_end 8 = .ok (.i2l, 1) := by decide +kernel
theorem dX4_end_9 : decode cX4_end 9 = .ok (.iload_n 2, 1) := by decide +kernel
theorem dX4_end_10 : decode cX4_end 10 = .ok (.lshl, 1) := by decide +kernel
theorem dX4_end_11 : decode cX4_end 11 = .ok (.lstore 5, 2) := by decide +kernel
theorem dX4_end_13 : decode cX4_end 13 = .ok (.iload_n 1, 1) := by decide +kernel
theorem dX4_end_14 : decode cX4_end 14 = .ok (.iconst 1, 1) := by decide +kernel
theorem dX4_end_15 : decode cX4_end 15 = .ok (.iload 4, 2) := by decide +kernel
theorem dX4_end_17 : decode cX4_end 17 = .ok (.ishl, 1) := by decide +kernel
theorem dX4_end_18 : decode cX4_end 18 = .ok (.if_icmp .ne 6, 3) := by decide +kernel
theorem dX4_end_21 : decode cX4_end 21 = .ok (.lload 5, 2) := by decide +kernel
theorem dX4_end_23 : decode cX4_end 23 = .ok (.lreturn, 1) := by decide +kernel
theorem dX4_end_24 : decode cX4_end 24 = .ok (.aload_n 0, 1) := by decide +kernel
theorem dX4_end_25 : decode cX4_end 25 = .ok (.iload_n 1, 1) := by decide +kernel
theorem dX4_end_26 : decode cX4_end 26 = .ok (.iload 4, 2) := by decide +kernel
theorem dX4_end_28 : decode cX4_end 28 = .ok (.iload_n 3, 1) := by decide +kernel
theorem dX4_end_29 : decode cX4_end 29 = .ok (.invokevirtual 19, 3) := by decide +kernel
theorem dX4_end_32 : decode cX4_end 32 = .ok (.bipush 24, 2) := by decide +kernel
theorem dX4_end_34 : decode cX4_end 34 = .ok (.iload_n 2, 1) := by decide +kernel
theorem dX4_end_35 : decode cX4_end 35 = .ok (.isub, 1) := by decide +kernel
theorem dX4_end_36 : decode cX4_end 36 = .ok (.ishr, 1) := by decide +kernel
theorem dX4_end_37 : decode cX4_end 37 = .ok (.i2l, 1) := by decide +kernel
theorem dX4_end_38 : decode cX4_end 38 = .ok (.lstore 7, 2) := by decide +kernel
theorem dX4_end_40 : decode cX4_end 40 = .ok (.iload_n 3, 1) := by decide +kernel
theorem dX4_end_41 : decode cX4_end 41 = .ok (.iconst 1, 1) := by decide +kernel
theorem dX4_end_42 : decode cX4_end 42 = .ok (.if_icmp .ne 13, 3) := by decide +kernel
theorem dX4_end_45 : decode cX4_end 45 = .ok (.lload 5, 2) := by decide +kernel
theorem dX4_end_47 : decode cX4_end 47 = .ok (.lload 7, 2) := by decide +kernel
theorem dX4_end_49 : decode cX4_end 49 = .ok (.ladd, 1) := by decide +kernel
theorem dX4_end_50 : decode cX4_end 50 = .ok (.lconst 1, 1) := by decide +kernel
theorem dX4_end_51 : decode cX4_end 51 = .ok (.ladd, 1) := by decide +kernel
theorem dX4_end_52 : decode cX4_end 52 = .ok (.goto 8, 3) := by decide +kernel
theorem dX4_end_55 : decode cX4_end 55 = .ok (.lload 5, 2) := by decide +kernel
theorem dX4_end_57 : decode cX4_end 57 = .ok (.lload 7, 2) := by decide +kernel
theorem dX4_end_59 : decode cX4_end 59 = .ok (.ladd, 1) := by decide +kernel
theorem dX4_end_60 : decode cX4_end 60 = .ok (.lreturn, 1) := by decide +kernel
theorem dX4_greatestPower_0 : decode cX4_greatestPower 0 = .ok (.iconst 0, 1) := by decide +kernel
theorem dX4_greatestPower_1 : decode cX4_greatestPower 1 = .ok (.istore_n 1, 1) := by decide +kernel
theorem dX4_greatestPower_2 : decode cX4_greatestPower 2 = .ok (.iload_n 1, 1) := by decide +kernel
theorem dX4_greatestPower_3 : decode cX4_greatestPower 3 = .ok (.bipush 30, 2) := by decide +kernel
theorem dX4_greatestPower_5 : decode cX4_greatestPower 5 = .ok (.if_icmp .ge 18, 3) := by decide +kernel
theorem dX4_greatestPower_8 : decode cX4_greatestPower 8 = .ok (.iconst 1, 1) := by decide +kernel
theorem dX4_greatestPower_9 : decode cX4_greatestPower 9 = .ok (.iload_n 1, 1) := by decide +kernel
theorem dX4_greatestPower_10 : decode cX4_greatestPower 10 = .ok (.iconst 1, 1) := by decide +kernel
theorem dX4_greatestPower_11 : decode cX4_greatestPower 11 = .ok (.iadd, 1) := by decide +kernel
theorem dX4_greatestPower_12 : decode cX4_greatestPower 12 = .ok (.ishl, 1) := by decide +kernel
theorem dX4_greatestPower_13 : decode cX4_greatestPower 13 = .ok (.iload_n 0, 1) := by decide +kernel
theorem dX4_greatestPower_14 : decode cX4_greatestPower 14 = .ok (.if_icmp .gt 9, 3) := by decide +kernel
theorem dX4_greatestPower_17 : decode cX4_greatestPower 17 = .ok (.iinc 1 1, 3) := by decide +kernel
theorem dX4_greatestPower_20 : decode cX4_greatestPower 20 = .ok (.goto (-18), 3) := by decide +kernel
theorem dX4_greatestPower_23 : decode cX4_greatestPower 23 = .ok (.iload_n 1, 1) := by decide +kernel
theorem dX4_greatestPower_24 : decode cX4_greatestPower 24 = .ok (.ireturn, 1) := by decide +kernel
theorem dX4_fraction_0 : decode cX4_fraction 0 = .ok (.iload_n 1, 1) := by decide +kernel
theorem dX4_fraction_1 : decode cX4_fraction 1 = .ok (.sipush 416, 3) := by decide +kernel
theorem dX4_fraction_4 : decode cX4_fraction 4 = .ok (.if_icmp .lt 10, 3) := by decide +kernel
theorem dX4_fraction_7 : decode cX4_fraction 7 = .ok (.iload_n 1, 1) := by decide +kernel
theorem dX4_fraction_8 : decode cX4_fraction 8 = .ok (.iload_n 2, 1) := by decide +kernel
theorem dX4_fraction_9 : decode cX4_fraction 9 = .ok (.iload_n 3, 1) := by decide +kernel
theorem dX4_fraction_10 : decode cX4_fraction 10 = .ok (.invokestatic 23, 3) := by decide +kernel
theorem dX4_fraction_13 : decode cX4_fraction 13 = .ok (.ireturn, 1) := by decide +kernel
theorem dX4_fraction_14 : decode cX4_fraction 14 = .ok (.iload_n 3, 1) := by decide +kernel
theorem dX4_fraction_15 : decode cX4_fraction 15 = .ok (.iconst 1, 1) := by decide +kernel
theorem dX4_fraction_16 : decode cX4_fraction 16 = .ok (.if_icmp .ne 11, 3) := by decide +kernel
theorem dX4_fraction_19 : decode cX4_fraction 19 = .ok (.sipush 416, 3) := by decide +kernel
theorem dX4_fraction_22 : decode cX4_fraction 22 = .ok (.iload_n 1, 1) := by decide +kernel
theorem dX4_fraction_23 : decode cX4_fraction 23 = .ok (.iadd, 1) := by decide +kernel
theorem dX4_fraction_24 : decode cX4_fraction 24 = .ok (.goto 4, 3) := by decide +kernel
theorem dX4_fraction_27 : decode cX4_fraction 27 = .ok (.iload_n 1, 1) := by decide +kernel
theorem dX4_fraction_28 : decode cX4_fraction 28 = .ok (.istore 4, 2) := by decide +kernel
theorem dX4_fraction_30 : decode cX4_fraction 30 = .ok (.aload_n 0, 1) := by decide +kernel
theorem dX4_fraction_31 : decode cX4_fraction 31 = .ok (.getfield 11, 3) := by decide +kernel
theorem dX4_fraction_34 : decode cX4_fraction 34 = .ok (.iload 4, 2) := by decide +kernel
theorem dX4_fraction_36 : decode cX4_fraction 36 = .ok (.iaload, 1) := by decide +kernel
theorem dX4_fraction_37 : decode cX4_fraction 37 = .ok (.ifCond .ne 18, 3) := by decide +kernel
theorem dX4_fraction_40 : decode cX4_fraction 40 = .ok (.aload_n 0, 1) := by decide +kernel
theorem dX4_fraction_41 : decode cX4_fraction 41 = .ok (.getfield 11, 3) := by decide +kernel
theorem dX4_fraction_44 : decode cX4_fraction 44 = .ok (.iload 4, 2) := by decide +kernel
theorem dX4_fraction_46 : decode cX4_fraction 46 = .ok (.iload_n 1, 1) := by decide +kernel
theorem dX4_fraction_47 : decode cX4_fraction 47 = .ok (.iload_n 2, 1) := by decide +kernel
theorem dX4_fraction_48 : decode cX4_fraction 48 = .ok (.iload_n 3, 1) := by decide +kernel
theorem dX4_fraction_49 : decode cX4_fraction 49 = .ok (.invokestatic 23, 3) := by decide +kernel
theorem dX4_fraction_52 : decode cX4_fraction 52 = .ok (.iconst 1, 1) := by decide +kernel
theorem dX4_fraction_53 : decode cX4_fraction 53 = .ok (.iadd, 1) := by decide +kernel
theorem dX4_fraction_54 : decode cX4_fraction 54 = .ok (.iastore, 1) := by decide +kernel
theorem dX4_fraction_55 : decode cX4_fraction 55 = .ok (.aload_n 0, 1) := by decide +kernel
theorem dX4_fraction_56 : decode cX4_fraction 56 = .ok (.getfield 11, 3) := by decide +kernel
theorem dX4_fraction_59 : decode cX4_fraction 59 = .ok (.iload 4, 2) := by decide +kernel
theorem dX4_fraction_61 : decode cX4_fraction 61 = .ok (.iaload, 1) := by decide +kernel
theorem dX4_fraction_62 : decode cX4_fraction 62 = .ok (.iconst 1, 1) := by decide +kernel
theorem dX4_fraction_63 : decode cX4_fraction 63 = .ok (.isub, 1) := by decide +kernel
theorem dX4_fraction_64 : decode cX4_fraction 64 = .ok (.ireturn, 1) := by decide +kernel
theorem dX4_fractionBits_0 : decode cX4_fractionBits 0 = .ok (.iload_n 2, 1) := by decide +kernel
theorem dX4_fractionBits_1 : decode cX4_fractionBits 1 = .ok (.iconst 1, 1) := by decide +kernel
theorem dX4_fractionBits_2 : decode cX4_fractionBits 2 = .ok (.if_icmp .ne 9, 3) := by decide +kernel
theorem dX4_fractionBits_5 : decode cX4_fractionBits 5 = .ok (.ldc2_w 26, 3) := by decide +kernel
theorem dX4_fractionBits_8 : decode cX4_fractionBits 8 = .ok (.goto 4, 3) := by decide +kernel
theorem dX4_fractionBits_11 : decode cX4_fractionBits 11 = .ok (.lconst 0, 1) := by decide +kernel
theorem dX4_fractionBits_12 : decode cX4_fractionBits 12 = .ok (.lstore_n 3, 1) := by decide +kernel
theorem dX4_fractionBits_13 : decode cX4_fractionBits 13 = .ok (.iload_n 2, 1) := by decide +kernel
theorem dX4_fractionBits_14 : decode cX4_fractionBits 14 = .ok (.iconst 1, 1) := by decide +kernel
theorem dX4_fractionBits_15 : decode cX4_fractionBits 15 = .ok (.if_icmp .ne 7, 3) := by decide +kernel
theorem dX4_fractionBits_18 : decode cX4_fractionBits 18 = .ok (.lconst 1, 1) := by decide +kernel
theorem dX4_fractionBits_19 : decode cX4_fractionBits 19 = .ok (.goto 4, 3) := by decide +kernel
theorem dX4_fractionBits_22 : decode cX4_fractionBits 22 = .ok (.lconst 0, 1) := by decide +kernel
theorem dX4_fractionBits_23 : decode cX4_fractionBits 23 = .ok (.lstore 5, 2) := by decide +kernel
theorem dX4_fractionBits_25 : decode cX4_fractionBits 25 = .ok (.iload_n 0, 1) := by decide +kernel
theorem dX4_fractionBits_26 : decode cX4_fractionBits 26 = .ok (.i2l, 1) := by decide +kernel
theorem dX4_fractionBits_27 : decode cX4_fractionBits 27 = .ok (.bipush 30, 2) := by decide +kernel
theorem dX4_fractionBits_29 : decode cX4_fractionBits 29 = .ok (.iload_n 1, 1) := by decide +kernel
theorem dX4_fractionBits_30 : decode cX4_fractionBits 30 = .ok (.isub, 1) := by decide +kernel
theorem dX4_fractionBits_31 : decode cX4_fractionBits 31 = .ok (.lshl, 1) := by decide +kernel
theorem dX4_fractionBits_32 : decode cX4_fractionBits 32 = .ok (.lstore 7, 2) := by decide +kernel
theorem dX4_fractionBits_34 : decode cX4_fractionBits 34 = .ok (.iconst 0, 1) := by decide +kernel
theorem dX4_fractionBits_35 : decode cX4_fractionBits 35 = .ok (.istore 9, 2) := by decide +kernel
theorem dX4_fractionBits_37 : decode cX4_fractionBits 37 = .ok (.iconst 0, 1) := by decide +kernel
theorem dX4_fractionBits_38 : decode cX4_fractionBits 38 = .ok (.istore 10, 2) := by decide +kernel
theorem dX4_fractionBits_40 : decode cX4_fractionBits 40 = .ok (.iload 10, 2) := by decide +kernel
theorem dX4_fractionBits_42 : decode cX4_fractionBits 42 = .ok (.bipush 24, 2) := by decide +kernel
theorem dX4_fractionBits_44 : decode cX4_fractionBits 44 = .ok (.if_icmp .ge 48, 3) := by decide +kernel
theorem dX4_fractionBits_47 : decode cX4_fractionBits 47 = .ok (.lload 7, 2) := by decide +kernel
theorem dX4_fractionBits_49 : decode cX4_fractionBits 49 = .ok (.lload 7, 2) := by decide +kernel
theorem dX4_fractionBits_51 : decode cX4_fractionBits 51 = .ok (.lmul, 1) := by decide +kernel
theorem dX4_fractionBits_52 : decode cX4_fractionBits 52 = .ok (.lload_n 3, 1) := by decide +kernel
theorem dX4_fractionBits_53 : decode cX4_fractionBits 53 = .ok (.ladd, 1) := by decide +kernel
theorem dX4_fractionBits_54 : decode cX4_fractionBits 54 = .ok (.bipush 30, 2) := by decide +kernel
theorem dX4_fractionBits_56 : decode cX4_fractionBits 56 = .ok (.lshr, 1) := by decide +kernel
theorem dX4_fractionBits_57 : decode cX4_fractionBits 57 = .ok (.lstore 7, 2) := by decide +kernel
theorem dX4_fractionBits_59 : decode cX4_fractionBits 59 = .ok (.iconst 2, 1) := by decide +kernel
theorem dX4_fractionBits_60 : decode cX4_fractionBits 60 = .ok (.iload 9, 2) := by decide +kernel
theorem dX4_fractionBits_62 : decode cX4_fractionBits 62 = .ok (.imul, 1) := by decide +kernel
theorem dX4_fractionBits_63 : decode cX4_fractionBits 63 = .ok (.istore 9, 2) := by decide +kernel
theorem dX4_fractionBits_65 : decode cX4_fractionBits 65 = .ok (.lload 7, 2) := by decide +kernel
theorem dX4_fractionBits_67 : decode cX4_fractionBits 67 = .ok (.ldc2_w 28, 3) := by decide +kernel
theorem dX4_fractionBits_70 : decode cX4_fractionBits 70 = .ok (.lcmp, 1) := by decide +kernel
theorem dX4_fractionBits_71 : decode cX4_fractionBits 71 = .ok (.ifCond .lt 15, 3) := by decide +kernel
theorem dX4_fractionBits_74 : decode cX4_fractionBits 74 = .ok (.iinc 9 1, 3) := by decide +kernel
theorem dX4_fractionBits_77 : decode cX4_fractionBits 77 = .ok (.lload 7, 2) := by decide +kernel
theorem dX4_fractionBits_79 : decode cX4_fractionBits 79 = .ok (.lload 5, 2) := by decide +kernel
theorem dX4_fractionBits_81 : decode cX4_fractionBits 81 = .ok (.ladd, 1) := by decide +kernel
theorem dX4_fractionBits_82 : decode cX4_fractionBits 82 = .ok (.iconst 1, 1) := by decide +kernel
theorem dX4_fractionBits_83 : decode cX4_fractionBits 83 = .ok (.lshr, 1) := by decide +kernel
theorem dX4_fractionBits_84 : decode cX4_fractionBits 84 = .ok (.lstore 7, 2) := by decide +kernel
theorem dX4_fractionBits_86 : decode cX4_fractionBits 86 = .ok (.iinc 10 1, 3) := by decide +kernel
theorem dX4_fractionBits_89 : decode cX4_fractionBits 89 = .ok (.goto (-49), 3) := by decide +kernel
theorem dX4_fractionBits_92 : decode cX4_fractionBits 92 = .ok (.iload 9, 2) := by decide +kernel
theorem dX4_fractionBits_94 : decode cX4_fractionBits 94 = .ok (.ireturn, 1) := by decide +kernel
theorem dX5_init_0 : decode cX5_init 0 = .ok (.aload_n 0, 1) := by decide +kernel
theorem dX5_init_1 : decode cX5_init 1 = .ok (.invokespecial 3, 3) := by decide +kernel
theorem dX5_init_4 : decode cX5_init 4 = .ok (.aload_n 0, 1) := by decide +kernel
theorem dX5_init_5 : decode cX5_init 5 = .ok (.sipush 216, 3) := by decide +kernel
theorem dX5_init_8 : decode cX5_init 8 = .ok (.newarray .int, 2) := by decide +kernel
theorem dX5_init_10 : decode cX5_init 10 = .ok (.putfield 11, 3) := by decide +kernel
theorem dX5_init_13 : decode cX5_init 13 = .ok (.aload_n 0, 1) := by decide +kernel
theorem dX5_init_14 : decode cX5_init 14 = .ok (.sipush 400, 3) := by decide +kernel
theorem dX5_init_17 : decode cX5_init 17 = .ok (.newarray .int, 2) := by decide +kernel
theorem dX5_init_19 : decode cX5_init 19 = .ok (.putfield 15, 3) := by decide +kernel
theorem dX5_init_22 : decode cX5_init 22 = .ok (.aload_n 0, 1) := by decide +kernel
theorem dX5_init_23 : decode cX5_init 23 = .ok (.sipush 400, 3) := by decide +kernel
theorem dX5_init_26 : decode cX5_init 26 = .ok (.newarray .int, 2) := by decide +kernel
theorem dX5_init_28 : decode cX5_init 28 = .ok (.putfield 18, 3) := by decide +kernel
theorem dX5_init_31 : decode cX5_init 31 = .ok (.aload_n 0, 1) := by decide +kernel
theorem dX5_init_32 : decode cX5_init 32 = .ok (.sipush 400, 3) := by decide +kernel
theorem dX5_init_35 : decode cX5_init 35 = .ok (.newarray .int, 2) := by decide +kernel
theorem dX5_init_37 : decode cX5_init 37 = .ok (.putfield 21, 3) := by decide +kernel
theorem dX5_init_40 : decode cX5_init 40 = .ok (.aload_n 0, 1) := by decide +kernel
theorem dX5_init_41 : decode cX5_init 41 = .ok (.sipush 400, 3) := by decide +kernel
theorem dX5_init_44 : decode cX5_init 44 = .ok (.newarray .int, 2) := by decide +kernel
theorem dX5_init_46 : decode cX5_init 46 = .ok (.putfield 24, 3) := by decide +kernel
theorem dX5_init_49 : decode cX5_init 49 = .ok (.aload_n 0, 1) := by decide +kernel
theorem dX5_init_50 : decode cX5_init 50 = .ok (.sipush 400, 3) := by decide +kernel
theorem dX5_init_53 : decode cX5_init 53 = .ok (.newarray .int, 2) := by decide +kernel
theorem dX5_init_55 : decode cX5_init 55 = .ok (.putfield 27, 3) := by decide +kernel
theorem dX5_init_58 : decode cX5_init 58 = .ok (.return_, 1) := by decide +kernel
theorem dX5_tally_0 : decode cX5_tally 0 = .ok (.aload_n 0, 1) := by decide +kernel
theorem dX5_tally_1 : decode cX5_tally 1 = .ok (.getfield 11, 3) := by decide +kernel
theorem dX5_tally_4 : decode cX5_tally 4 = .ok (.bipush (-2), 2) := by decide +kernel
theorem dX5_tally_6 : decode cX5_tally 6 = .ok (.invokestatic 30, 3) := by decide +kernel
theorem dX5_tally_9 : decode cX5_tally 9 = .ok (.aload_n 0, 1) := by decide +kernel
theorem dX5_tally_10 : decode cX5_tally 10 = .ok (.iconst 0, 1) := by decide +kernel
theorem dX5_tally_11 : decode cX5_tally 11 = .ok (.putfield 36, 3) := by decide +kernel
theorem dX5_tally_14 : decode cX5_tally 14 = .ok (.iconst 0, 1) := by decide +kernel
theorem dX5_tally_15 : decode cX5_tally 15 = .ok (.istore_n 3, 1) := by decide +kernel
theorem dX5_tally_16 : decode cX5_tally 16 = .ok (.iload_n 3, 1) := by decide +kernel
theorem dX5_tally_17 : decode cX5_tally 17 = .ok (.iconst 1, 1) := by decide +kernel
theorem dX5_tally_18 : decode cX5_tally 18 = .ok (.iadd, 1) := by decide +kernel
theorem dX5_tally_19 : decode cX5_tally 19 = .ok (.iload_n 2, 1) := by decide +kernel
theorem dX5_tally_20 : decode cX5_tally 20 = .ok (.if_icmp .ge 65, 3) := by decide +kernel
theorem dX5_tally_23 : decode cX5_tally 23 = .ok (.aload_n 0, 1) := by decide +kernel
theorem dX5_tally_24 : decode cX5_tally 24 = .ok (.aload_n 1, 1) := by decide +kernel
theorem dX5_tally_25 : decode cX5_tally 25 = .ok (.iload_n 3, 1) := by decide +kernel
theorem dX5_tally_26 : decode cX5_tally 26 = .ok (.iaload, 1) := by decide +kernel
theorem dX5_tally_27 : decode cX5_tally 27 = .ok (.aload_n 1, 1) := by decide +kernel
theorem dX5_tally_28 : decode cX5_tally 28 = .ok (.iload_n 3, 1) := by decide +kernel
theorem dX5_tally_29 : decode cX5_tally 29 = .ok (.iconst 1, 1) := by decide +kernel
theorem dX5_tally_30 : decode cX5_tally 30 = .ok (.iadd, 1) := by decide +kernel
theorem dX5_tally_31 : decode cX5_tally 31 = .ok (.iaload, 1) := by decide +kernel
theorem dX5_tally_32 : decode cX5_tally 32 = .ok (.invokevirtual 40, 3) := by decide +kernel
theorem dX5_tally_35 : decode cX5_tally 35 = .ok (.istore 4, 2) := by decide +kernel
theorem dX5_tally_37 : decode cX5_tally 37 = .ok (.aload_n 0, 1) := by decide +kernel
theorem dX5_tally_38 : decode cX5_tally 38 = .ok (.getfield 24, 3) := by decide +kernel
theorem dX5_tally_41 : decode cX5_tally 41 = .ok (.iload 4, 2) := by decide +kernel
theorem dX5_tally_43 : decode cX5_tally 43 = .ok (.iaload, 1) := by decide +kernel
theorem dX5_tally_44 : decode cX5_tally 44 = .ok (.ifCond .eq 16, 3) := by decide +kernel
theorem dX5_tally_47 : decode cX5_tally 47 = .ok (.aload_n 0, 1) := by decide +kernel
theorem dX5_tally_48 : decode cX5_tally 48 = .ok (.getfield 27, 3) := by decide +kernel
theorem dX5_tally_51 : decode cX5_tally 51 = .ok (.iload 4, 2) := by decide +kernel
theorem dX5_tally_53 : decode cX5_tally 53 = .ok (.iaload, 1) := by decide +kernel
theorem dX5_tally_54 : decode cX5_tally 54 = .ok (.iconst 1, 1) := by decide +kernel
theorem dX5_tally_55 : decode cX5_tally 55 = .ok (.iadd, 1) := by decide +kernel
theorem dX5_tally_56 : decode cX5_tally 56 = .ok (.iload_n 3, 1) := by decide +kernel
theorem dX5_tally_57 : decode cX5_tally 57 = .ok (.if_icmp .ge 22, 3) := by decide +kernel
theorem dX5_tally_60 : decode cX5_tally 60 = .ok (.aload_n 0, 1) := by decide +kernel
theorem dX5_tally_61 : decode cX5_tally 61 = .ok (.getfield 24, 3) := by decide +kernel
theorem dX5_tally_64 : decode cX5_tally 64 = .ok (.iload 4, 2) := by decide +kernel
theorem dX5_tally_66 : decode cX5_tally 66 = .ok (.dup2, 1) := by decide +kernel
theorem dX5_tally_67 : decode cX5_tally 67 = .ok (.iaload, 1) := by decide +kernel
theorem dX5_tally_68 : decode cX5_tally 68 = .ok (.iconst 1, 1) := by decide +kernel
theorem dX5_tally_69 : decode cX5_tally 69 = .ok (.iadd, 1) := by decide +kernel
theorem dX5_tally_70 : decode cX5_tally 70 = .ok (.iastore, 1) := by decide +kernel
theorem dX5_tally_71 : decode cX5_tally 71 = .ok (.aload_n 0, 1) := by decide +kernel
theorem dX5_tally_72 : decode cX5_tally 72 = .ok (.getfield 27, 3) := by decide +kernel
theorem dX5_tally_75 : decode cX5_tally 75 = .ok (.iload 4, 2) := by decide +kernel
theorem dX5_tally_77 : decode cX5_tally 77 = .ok (.iload_n 3, 1) := by decide +kernel
theorem dX5_tally_78 : decode cX5_tally 78 = .ok (.iastore, 1) := by decide +kernel
theorem dX5_tally_79 : decode cX5_tally 79 = .ok (.iinc 3 1, 3) := by decide +kernel
theorem dX5_tally_82 : decode cX5_tally 82 = .ok (.goto (-66), 3) := by decide +kernel
theorem dX5_tally_85 : decode cX5_tally 85 = .ok (.return_, 1) := by decide +kernel
theorem dX5_best_0 : decode cX5_best 0 = .ok (.bipush (-2), 2) := by decide +kernel
theorem dX5_best_2 : decode cX5_best 2 = .ok (.istore_n 1, 1) := by decide +kernel
theorem dX5_best_3 : decode cX5_best 3 = .ok (.iconst 0, 1) := by decide +kernel
theorem dX5_best_4 : decode cX5_best 4 = .ok (.istore_n 2, 1) := by decide +kernel
theorem dX5_best_5 : decode cX5_best 5 = .ok (.iload_n 2, 1) := by decide +kernel
theorem dX5_best_6 : decode cX5_best 6 = .ok (.aload_n 0, 1) := by decide +kernel
theorem dX5_best_7 : decode cX5_best 7 = .ok (.getfield 36, 3) := by decide +kernel
theorem dX5_best_10 : decode cX5_best 10 = .ok (.if_icmp .ge 36, 3) := by decide +kernel
theorem dX5_best_13 : decode cX5_best 13 = .ok (.aload_n 0, 1) := by decide +kernel
theorem dX5_best_14 : decode cX5_best 14 = .ok (.getfield 24, 3) := by decide +kernel
theorem dX5_best_17 : decode cX5_best 17 = .ok (.iload_n 2, 1) := by decide +kernel
theorem dX5_best_18 : decode cX5_best 18 = .ok (.iaload, 1) := by decide +kernel
theorem dX5_best_19 : decode cX5_best 19 = .ok (.iconst 2, 1) := by decide +kernel
theorem dX5_best_20 : decode cX5_best 20 = .ok (.if_icmp .lt 20, 3) := by decide +kernel
theorem dX5_best_23 : decode cX5_best 23 = .ok (.iload_n 1, 1) := by decide +kernel
theorem dX5_best_24 : decode cX5_best 24 = .ok (.bipush (-2), 2) := by decide +kernel
theorem dX5_best_26 : decode cX5_best 26 = .ok (.if_icmp .eq 12, 3) := by decide +kernel
theorem dX5_best_29 : decode cX5_best 29 = .ok (.aload_n 0, 1) := by decide +kernel
theorem dX5_best_30 : decode cX5_best 30 = .ok (.iload_n 2, 1) := by decide +kernel
theorem dX5_best_31 : decode cX5_best 31 = .ok (.iload_n 1, 1) := by decide +kernel
theorem dX5_best_32 : decode cX5_best 32 = .ok (.invokevirtual 44, 3) := by decide +kernel
theorem dX5_best_35 : decode cX5_best 35 = .ok (.ifCond .eq 5, 3) := by decide +kernel
theorem dX5_best_38 : decode cX5_best 38 = .ok (.iload_n 2, 1) := by decide +kernel
theorem dX5_best_39 : decode cX5_best 39 = .ok (.istore_n 1, 1) := by decide +kernel
theorem dX5_best_40 : decode cX5_best 40 = .ok (.iinc 2 1, 3) := by decide +kernel
theorem dX5_best_43 : decode cX5_best 43 = .ok (.goto (-38), 3) := by decide +kernel
theorem dX5_best_46 : decode cX5_best 46 = .ok (.iload_n 1, 1) := by decide +kernel
theorem dX5_best_47 : decode cX5_best 47 = .ok (.ireturn, 1) := by decide +kernel
theorem dX5_goesBefore_0 : decode cX5_goesBefore 0 = .ok (.aload_n 0, 1) := by decide +kernel
theorem dX5_goesBefore_1 : decode cX5_goesBefore 1 = .ok (.getfield 24, 3) := by decide +kernel
theorem dX5_goesBefore_4 : decode cX5_goesBefore 4 = .ok (.iload_n 1, 1) := by decide +kernel
theorem dX5_goesBefore_5 : decode cX5_goesBefore 5 = .ok (.iaload, 1) := by decide +kernel
theorem dX5_goesBefore_6 : decode cX5_goesBefore 6 = .ok (.aload_n 0, 1) := by decide +kernel
theorem dX5_goesBefore_7 : decode cX5_goesBefore 7 = .ok (.getfield 24, 3) := by decide +kernel
theorem dX5_goesBefore_10 : decode cX5_goesBefore 10 = .ok (.iload_n 2, 1) := by decide +kernel
theorem dX5_goesBefore_11 : decode cX5_goesBefore 11 = .ok (.iaload, 1) := by decide +kernel
theorem dX5_goesBefore_12 : decode cX5_goesBefore 12 = .ok (.if_icmp .eq 24, 3) := by decide +kernel
theorem dX5_goesBefore_15 : decode cX5_goesBefore 15 = .ok (.aload_n 0, 1) := by decide +kernel
theorem dX5_goesBefore_16 : decode cX5_goesBefore 16 = .ok (.getfield 24, 3) := by decide +kernel
theorem dX5_goesBefore_19 : decode cX5_goesBefore 19 = .ok (.iload_n 1, 1) := by decide +kernel
theorem dX5_goesBefore_20 : decode cX5_goesBefore 20 = .ok (.iaload, 1) := by decide +kernel
theorem dX5_goesBefore_21 : decode cX5_goesBefore 21 = .ok (.aload_n 0, 1) := by decide +kernel
theorem dX5_goesBefore_22 : decode cX5_goesBefore 22 = .ok (.getfield 24, 3) := by decide +kernel
theorem dX5_goesBefore_25 : decode cX5_goesBefore 25 = .ok (.iload_n 2, 1) := by decide +kernel
theorem dX5_goesBefore_26 : decode cX5_goesBefore 26 = .ok (.iaload, 1) := by decide +kernel
theorem dX5_goesBefore_27 : decode cX5_goesBefore 27 = .ok (.if_icmp .le 7, 3) := by decide +kernel
theorem dX5_goesBefore_30 : decode cX5_goesBefore 30 = .ok (.iconst 1, 1) := by decide +kernel
theorem dX5_goesBefore_31 : decode cX5_goesBefore 31 = .ok (.goto 4, 3) := by decide +kernel
theorem dX5_goesBefore_34 : decode cX5_goesBefore 34 = .ok (.iconst 0, 1) := by decide +kernel
theorem dX5_goesBefore_35 : decode cX5_goesBefore 35 = .ok (.ireturn, 1) := by decide +kernel
theorem dX5_goesBefore_36 : decode cX5_goesBefore 36 = .ok (.aload_n 0, 1) := by decide +kernel
theorem dX5_goesBefore_37 : decode cX5_goesBefore 37 = .ok (.getfield 18, 3) := by decide +kernel
theorem dX5_goesBefore_40 : decode cX5_goesBefore 40 = .ok (.iload_n 1, 1) := by decide +kernel
theorem dX5_goesBefore_41 : decode cX5_goesBefore 41 = .ok (.iaload, 1) := by decide +kernel
theorem dX5_goesBefore_42 : decode cX5_goesBefore 42 = .ok (.aload_n 0, 1) := by decide +kernel
theorem dX5_goesBefore_43 : decode cX5_goesBefore 43 = .ok (.getfield 18, 3) := by decide +kernel
theorem dX5_goesBefore_46 : decode cX5_goesBefore 46 = .ok (.iload_n 2, 1) := by decide +kernel
theorem dX5_goesBefore_47 : decode cX5_goesBefore 47 = .ok (.iaload, 1) := by decide +kernel
theorem dX5_goesBefore_48 : decode cX5_goesBefore 48 = .ok (.if_icmp .eq 24, 3) := by decide +kernel
theorem dX5_goesBefore_51 : decode cX5_goesBefore 51 = .ok (.aload_n 0, 1) := by decide +kernel
theorem dX5_goesBefore_52 : decode cX5_goesBefore 52 = .ok (.getfield 18, 3) := by decide +kernel
theorem dX5_goesBefore_55 : decode cX5_goesBefore 55 = .ok (.iload_n 1, 1) := by decide +kernel
theorem dX5_goesBefore_56 : decode cX5_goesBefore 56 = .ok (.iaload, 1) := by decide +kernel
theorem dX5_goesBefore_57 : decode cX5_goesBefore 57 = .ok (.aload_n 0, 1) := by decide +kernel
theorem dX5_goesBefore_58 : decode cX5_goesBefore 58 = .ok (.getfield 18, 3) := by decide +kernel
theorem dX5_goesBefore_61 : decode cX5_goesBefore 61 = .ok (.iload_n 2, 1) := by decide +kernel
theorem dX5_goesBefore_62 : decode cX5_goesBefore 62 = .ok (.iaload, 1) := by decide +kernel
theorem dX5_goesBefore_63 : decode cX5_goesBefore 63 = .ok (.if_icmp .ge 7, 3) := by decide +kernel
theorem dX5_goesBefore_66 : decode cX5_goesBefore 66 = .ok (.iconst 1, 1) := by decide +kernel
theorem dX5_goesBefore_67 : decode cX5_goesBefore 67 = .ok (.goto 4, 3) := by decide +kernel
theorem dX5_goesBefore_70 : decode cX5_goesBefore 70 = .ok (.iconst 0, 1) := by decide +kernel
theorem dX5_goesBefore_71 : decode cX5_goesBefore 71 = .ok (.ireturn, 1) := by decide +kernel
theorem dX5_goesBefore_72 : decode cX5_goesBefore 72 = .ok (.aload_n 0, 1) := by decide +kernel
theorem dX5_goesBefore_73 : decode cX5_goesBefore 73 = .ok (.getfield 21, 3) := by decide +kernel
theorem dX5_goesBefore_76 : decode cX5_goesBefore 76 = .ok (.iload_n 1, 1) := by decide +kernel
theorem dX5_goesBefore_77 : decode cX5_goesBefore 77 = .ok (.iaload, 1) := by decide +kernel
theorem dX5_goesBefore_78 : decode cX5_goesBefore 78 = .ok (.aload_n 0, 1) := by decide +kernel
theorem dX5_goesBefore_79 : decode cX5_goesBefore 79 = .ok (.getfield 21, 3) := by decide +kernel
theorem dX5_goesBefore_82 : decode cX5_goesBefore 82 = .ok (.iload_n 2, 1) := by decide +kernel
theorem dX5_goesBefore_83 : decode cX5_goesBefore 83 = .ok (.iaload, 1) := by decide +kernel
theorem dX5_goesBefore_84 : decode cX5_goesBefore 84 = .ok (.if_icmp .ge 7, 3) := by decide +kernel
theorem dX5_goesBefore_87 : decode cX5_goesBefore 87 = .ok (.iconst 1, 1) := by decide +kernel
theorem dX5_goesBefore_88 : decode cX5_goesBefore 88 = .ok (.goto 4, 3) := by decide +kernel
theorem dX5_goesBefore_91 : decode cX5_goesBefore 91 = .ok (.iconst 0, 1) := by decide +kernel
theorem dX5_goesBefore_92 : decode cX5_goesBefore 92 = .ok (.ireturn, 1) := by decide +kernel
theorem dX5_pairOf_0 : decode cX5_pairOf 0 = .ok (.aload_n 0, 1) := by decide +kernel
theorem dX5_pairOf_1 : decode cX5_pairOf 1 = .ok (.getfield 11, 3) := by decide +kernel
theorem dX5_pairOf_4 : decode cX5_pairOf 4 = .ok (.iload_n 1, 1) := by decide +kernel
theorem dX5_pairOf_5 : decode cX5_pairOf 5 = .ok (.iaload, 1) := by decide +kernel
theorem dX5_pairOf_6 : decode cX5_pairOf 6 = .ok (.istore_n 3, 1) := by decide +kernel
theorem dX5_pairOf_7 : decode cX5_pairOf 7 = .ok (.iconst 0, 1) := by decide +kernel
theorem dX5_pairOf_8 : decode cX5_pairOf 8 = .ok (.istore 4, 2) := by decide +kernel
theorem dX5_pairOf_10 : decode cX5_pairOf 10 = .ok (.iload 4, 2) := by decide +kernel
theorem dX5_pairOf_12 : decode cX5_pairOf 12 = .ok (.aload_n 0, 1) := by decide +kernel
theorem dX5_pairOf_13 : decode cX5_pairOf 13 = .ok (.getfield 36, 3) := by decide +kernel
theorem dX5_pairOf_16 : decode cX5_pairOf 16 = .ok (.if_icmp .ge 34, 3) := by decide +kernel
theorem dX5_pairOf_19 : decode cX5_pairOf 19 = .ok (.iload_n 3, 1) := by decide +kernel
theorem dX5_pairOf_20 : decode cX5_pairOf 20 = .ok (.bipush (-2), 2) := by decide +kernel
theorem dX5_pairOf_22 : decode cX5_pairOf 22 = .ok (.if_icmp .eq 28, 3) := by decide +kernel
theorem dX5_pairOf_25 : decode cX5_pairOf 25 = .ok (.aload_n 0, 1) := by decide +kernel
theorem dX5_pairOf_26 : decode cX5_pairOf 26 = .ok (.getfield 21, 3) := by decide +kernel
theorem dX5_pairOf_29 : decode cX5_pairOf 29 = .ok (.iload_n 3, 1) := by decide +kernel
theorem dX5_pairOf_30 : decode cX5_pairOf 30 = .ok (.iaload, 1) := by decide +kernel
theorem dX5_pairOf_31 : decode cX5_pairOf 31 = .ok (.iload_n 2, 1) := by decide +kernel
theorem dX5_pairOf_32 : decode cX5_pairOf 32 = .ok (.if_icmp .ne 5, 3) := by decide +kernel
theorem dX5_pairOf_35 : decode cX5_pairOf 35 = .ok (.iload_n 3, 1) := by decide +kernel
theorem dX5_pairOf_36 : decode cX5_pairOf 36 = .ok (.ireturn, 1) := by decide +kernel
theorem dX5_pairOf_37 : decode cX5_pairOf 37 = .ok (.aload_n 0, 1) := by decide +kernel
theorem dX5_pairOf_38 : decode cX5_pairOf 38 = .ok (.getfield 15, 3) := by decide +kernel
theorem dX5_pairOf_41 : decode cX5_pairOf 41 = .ok (.iload_n 3, 1) := by decide +kernel
theorem dX5_pairOf_42 : decode cX5_pairOf 42 = .ok (.iaload, 1) := by decide +kernel
theorem dX5_pairOf_43 : decode cX5_pairOf 43 = .ok (.istore_n 3, 1) := by decide +kernel
theorem dX5_pairOf_44 : decode cX5_pairOf 44 = .ok (.iinc 4 1, 3) := by decide +kernel
theorem dX5_pairOf_47 : decode cX5_pairOf 47 = .ok (.goto (-37), 3) := by decide +kernel
theorem dX5_pairOf_50 : decode cX5_pairOf 50 = .ok (.aload_n 0, 1) := by decide +kernel
theorem dX5_pairOf_51 : decode cX5_pairOf 51 = .ok (.getfield 18, 3) := by decide +kernel
theorem dX5_pairOf_54 : decode cX5_pairOf 54 = .ok (.aload_n 0, 1) := by decide +kernel
theorem dX5_pairOf_55 : decode cX5_pairOf 55 = .ok (.getfield 36, 3) := by decide +kernel
theorem dX5_pairOf_58 : decode cX5_pairOf 58 = .ok (.iload_n 1, 1) := by decide +kernel
theorem dX5_pairOf_59 : decode cX5_pairOf 59 = .ok (.iastore, 1) := by decide +kernel
theorem dX5_pairOf_60 : decode cX5_pairOf 60 = .ok (.aload_n 0, 1) := by decide +kernel
theorem dX5_pairOf_61 : decode cX5_pairOf 61 = .ok (.getfield 21, 3) := by decide +kernel
theorem dX5_pairOf_64 : decode cX5_pairOf 64 = .ok (.aload_n 0, 1) := by decide +kernel
theorem dX5_pairOf_65 : decode cX5_pairOf 65 = .ok (.getfield 36, 3) := by decide +kernel
theorem dX5_pairOf_68 : decode cX5_pairOf 68 = .ok (.iload_n 2, 1) := by decide +kernel
theorem dX5_pairOf_69 : decode cX5_pairOf 69 = .ok (.iastore, 1) := by decide +kernel
theorem dX5_pairOf_70 : decode cX5_pairOf 70 = .ok (.aload_n 0, 1) := by decide +kernel
theorem dX5_pairOf_71 : decode cX5_pairOf 71 = .ok (.getfield 24, 3) := by decide +kernel
theorem dX5_pairOf_74 : decode cX5_pairOf 74 = .ok (.aload_n 0, 1) := by decide +kernel
theorem dX5_pairOf_75 : decode cX5_pairOf 75 = .ok (.getfield 36, 3) := by decide +kernel
theorem dX5_pairOf_78 : decode cX5_pairOf 78 = .ok (.iconst 0, 1) := by decide +kernel
theorem dX5_pairOf_79 : decode cX5_pairOf 79 = .ok (.iastore, 1) := by decide +kernel
theorem dX5_pairOf_80 : decode cX5_pairOf 80 = .ok (.aload_n 0, 1) := by decide +kernel
theorem dX5_pairOf_81 : decode cX5_pairOf 81 = .ok (.getfield 15, 3) := by decide +kernel
theorem dX5_pairOf_84 : decode cX5_pairOf 84 = .ok (.aload_n 0, 1) := by decide +kernel
theorem dX5_pairOf_85 : decode cX5_pairOf 85 = .ok (.getfield 36, 3) := by decide +kernel
theorem dX5_pairOf_88 : decode cX5_pairOf 88 = .ok (.aload_n 0, 1) := by decide +kernel
theorem dX5_pairOf_89 : decode cX5_pairOf 89 = .ok (.getfield 11, 3) := by decide +kernel
theorem dX5_pairOf_92 : decode cX5_pairOf 92 = .ok (.iload_n 1, 1) := by decide +kernel
theorem dX5_pairOf_93 : decode cX5_pairOf 93 = .ok (.iaload, 1) := by decide +kernel
theorem dX5_pairOf_94 : decode cX5_pairOf 94 = .ok (.iastore, 1) := by decide +kernel
theorem dX5_pairOf_95 : decode cX5_pairOf 95 = .ok (.aload_n 0, 1) := by decide +kernel
theorem dX5_pairOf_96 : decode cX5_pairOf 96 = .ok (.getfield 11, 3) := by decide +kernel
theorem dX5_pairOf_99 : decode cX5_pairOf 99 = .ok (.iload_n 1, 1) := by decide +kernel
theorem dX5_pairOf_100 : decode cX5_pairOf 100 = .ok (.aload_n 0, 1) := by decide +kernel
theorem dX5_pairOf_101 : decode cX5_pairOf 101 = .ok (.getfield 36, 3) := by decide +kernel
theorem dX5_pairOf_104 : decode cX5_pairOf 104 = .ok (.iastore, 1) := by decide +kernel
theorem dX5_pairOf_105 : decode cX5_pairOf 105 = .ok (.aload_n 0, 1) := by decide +kernel
theorem dX5_pairOf_106 : decode cX5_pairOf 106 = .ok (.dup, 1) := by decide +kernel
theorem dX5_pairOf_107 : decode cX5_pairOf 107 = .ok (.getfield 36, 3) := by decide +kernel
theorem dX5_pairOf_110 : decode cX5_pairOf 110 = .ok (.dup_x1, 1) := by decide +kernel
theorem dX5_pairOf_111 : decode cX5_pairOf 111 = .ok (.iconst 1, 1) := by decide +kernel
theorem dX5_pairOf_112 : decode cX5_pairOf 112 = .ok (.iadd, 1) := by decide +kernel
theorem dX5_pairOf_113 : decode cX5_pairOf 113 = .ok (.putfield 36, 3) := by decide +kernel
theorem dX5_pairOf_116 : decode cX5_pairOf 116 = .ok (.ireturn, 1) := by decide +kernel
theorem dX6_init_0 : decode cX6_init 0 = .ok (.aload_n 0, 1) := by decide +kernel
theorem dX6_init_1 : decode cX6_init 1 = .ok (.invokespecial 3, 3) := by decide +kernel
theorem dX6_init_4 : decode cX6_init 4 = .ok (.return_, 1) := by decide +kernel
theorem dX6_cut_0 : decode cX6_cut 0 = .ok (.iconst 0, 1) := by decide +kernel
theorem dX6_cut_1 : decode cX6_cut 1 = .ok (.istore_n 2, 1) := by decide +kernel
theorem dX6_cut_2 : decode cX6_cut 2 = .ok (.bipush (-2), 2) := by decide +kernel
theorem dX6_cut_4 : decode cX6_cut 4 = .ok (.istore_n 3, 1) := by decide +kernel
theorem dX6_cut_5 : decode cX6_cut 5 = .ok (.iconst 0, 1) := by decide +kernel
theorem dX6_cut_6 : decode cX6_cut 6 = .ok (.istore 4, 2) := by decide +kernel
theorem dX6_cut_8 : decode cX6_cut 8 = .ok (.iload 4, 2) := by decide +kernel
theorem dX6_cut_10 : decode cX6_cut 10 = .ok (.aload_n 1, 1) := by decide +kernel
theorem dX6_cut_11 : decode cX6_cut 11 = .ok (.getfield 9, 3) := by decide +kernel
theorem dX6_cut_14 : decode cX6_cut 14 = .ok (.if_icmp .ge 51, 3) := by decide +kernel
theorem dX6_cut_17 : decode cX6_cut 17 = .ok (.aload_n 0, 1) := by decide +kernel
theorem dX6_cut_18 : decode cX6_cut 18 = .ok (.aload_n 1, 1) := by decide +kernel
theorem dX6_cut_19 : decode cX6_cut 19 = .ok (.iload_n 3, 1) := by decide +kernel
theorem dX6_cut_20 : decode cX6_cut 20 = .ok (.aload_n 1, 1) := by decide +kernel
theorem dX6_cut_21 : decode cX6_cut 21 = .ok (.getfield 15, 3) := by decide +kernel
theorem dX6_cut_24 : decode cX6_cut 24 = .ok (.iload 4, 2) := by decide +kernel
theorem dX6_cut_26 : decode cX6_cut 26 = .ok (.iaload, 1) := by decide +kernel
theorem dX6_cut_27 : decode cX6_cut 27 = .ok (.invokevirtual 19, 3) := by decide +kernel
theorem dX6_cut_30 : decode cX6_cut 30 = .ok (.istore 5, 2) := by decide +kernel
theorem dX6_cut_32 : decode cX6_cut 32 = .ok (.iload 5, 2) := by decide +kernel
theorem dX6_cut_34 : decode cX6_cut 34 = .ok (.bipush (-2), 2) := by decide +kernel
theorem dX6_cut_36 : decode cX6_cut 36 = .ok (.if_icmp .ne 20, 3) := by decide +kernel
theorem dX6_cut_39 : decode cX6_cut 39 = .ok (.aload_n 0, 1) := by decide +kernel
theorem dX6_cut_40 : decode cX6_cut 40 = .ok (.iload_n 2, 1) := by decide +kernel
theorem dX6_cut_41 : decode cX6_cut 41 = .ok (.iload 4, 2) := by decide +kernel
theorem dX6_cut_43 : decode cX6_cut 43 = .ok (.iconst 1, 1) := by decide +kernel
theorem dX6_cut_44 : decode cX6_cut 44 = .ok (.iadd, 1) := by decide +kernel
theorem dX6_cut_45 : decode cX6_cut 45 = .ok (.iload_n 2, 1) := by decide +kernel
theorem dX6_cut_46 : decode cX6_cut 46 = .ok (.isub, 1) := by decide +kernel
theorem dX6_cut_47 : decode cX6_cut 47 = .ok (.iload_n 3, 1) := by decide +kernel
theorem dX6_cut_48 : decode cX6_cut 48 = .ok (.invokevirtual 25, 3) := by decide +kernel
theorem dX6_cut_51 : decode cX6_cut 51 = .ok (.iload 4, 2) := by decide +kernel
theorem dX6_cut_53 : decode cX6_cut 53 = .ok (.iconst 1, 1) := by decide +kernel
theorem dX6_cut_54 : decode cX6_cut 54 = .ok (.iadd, 1) := by decide +kernel
theorem dX6_cut_55 : decode cX6_cut 55 = .ok (.istore_n 2, 1) := by decide +kernel
theorem dX6_cut_56 : decode cX6_cut 56 = .ok (.iload 5, 2) := by decide +kernel
theorem dX6_cut_58 : decode cX6_cut 58 = .ok (.istore_n 3, 1) := by decide +kernel
theorem dX6_cut_59 : decode cX6_cut 59 = .ok (.iinc 4 1, 3) := by decide +kernel
theorem dX6_cut_62 : decode cX6_cut 62 = .ok (.goto (-54), 3) := by decide +kernel
theorem dX6_cut_65 : decode cX6_cut 65 = .ok (.iload_n 2, 1) := by decide +kernel
theorem dX6_cut_66 : decode cX6_cut 66 = .ok (.aload_n 1, 1) := by decide +kernel
theorem dX6_cut_67 : decode cX6_cut 67 = .ok (.getfield 9, 3) := by decide +kernel
theorem dX6_cut_70 : decode cX6_cut 70 = .ok (.if_icmp .ge 15, 3) := by decide +kernel
theorem dX6_cut_73 : decode cX6_cut 73 = .ok (.aload_n 0, 1) := by decide +kernel
theorem dX6_cut_74 : decode cX6_cut 74 = .ok (.iload_n 2, 1) := by decide +kernel
theorem dX6_cut_75 : decode cX6_cut 75 = .ok (.aload_n 1, 1) := by decide +kernel
theorem dX6_cut_76 : decode cX6_cut 76 = .ok (.getfield 9, 3) := by decide +kernel
theorem dX6_cut_79 : decode cX6_cut 79 = .ok (.iload_n 2, 1) := by decide +kernel
theorem dX6_cut_80 : decode cX6_cut 80 = .ok (.isub, 1) := by decide +kernel
theorem dX6_cut_81 : decode cX6_cut 81 = .ok (.iload_n 3, 1) := by decide +kernel
theorem dX6_cut_82 : decode cX6_cut 82 = .ok (.invokevirtual 25, 3) := by decide +kernel
theorem dX6_cut_85 : decode cX6_cut 85 = .ok (.return_, 1) := by decide +kernel
theorem dX6_findPhrase_0 : decode cX6_findPhrase 0 = .ok (.iconst 0, 1) := by decide +kernel
theorem dX6_findPhrase_1 : decode cX6_findPhrase 1 = .ok (.istore 4, 2) := by decide +kernel
theorem dX6_findPhrase_3 : decode cX6_findPhrase 3 = .ok (.iload 4, 2) := by decide +kernel
theorem dX6_findPhrase_5 : decode cX6_findPhrase 5 = .ok (.aload_n 0, 1) := by decide +kernel
theorem dX6_findPhrase_6 : decode cX6_findPhrase 6 = .ok (.getfield 29, 3) := by decide +kernel
theorem dX6_findPhrase_9 : decode cX6_findPhrase 9 = .ok (.if_icmp .ge 53, 3) := by decide +kernel
theorem dX6_findPhrase_12 : decode cX6_findPhrase 12 = .ok (.aload_n 0, 1) := by decide +kernel
theorem dX6_findPhrase_13 : decode cX6_findPhrase 13 = .ok (.getfield 32, 3) := by decide +kernel
theorem dX6_findPhrase_16 : decode cX6_findPhrase 16 = .ok (.iload 4, 2) := by decide +kernel
theorem dX6_findPhrase_18 : decode cX6_findPhrase 18 = .ok (.iaload, 1) := by decide +kernel
theorem dX6_findPhrase_19 : decode cX6_findPhrase 19 = .ok (.aload_n 0, 1) := by decide +kernel
theorem dX6_findPhrase_20 : decode cX6_findPhrase 20 = .ok (.getfield 35, 3) := by decide +kernel
theorem dX6_findPhrase_23 : decode cX6_findPhrase 23 = .ok (.iload 4, 2) := by decide +kernel
theorem dX6_findPhrase_25 : decode cX6_findPhrase 25 = .ok (.iaload, 1) := by decide +kernel
theorem dX6_findPhrase_26 : decode cX6_findPhrase 26 = .ok (.iadd, 1) := by decide +kernel
theorem dX6_findPhrase_27 : decode cX6_findPhrase 27 = .ok (.iconst 1, 1) := by decide +kernel
theorem dX6_findPhrase_28 : decode cX6_findPhrase 28 = .ok (.isub, 1) := by decide +kernel
theorem dX6_findPhrase_29 : decode cX6_findPhrase 29 = .ok (.istore 5, 2) := by decide +kernel
theorem dX6_findPhrase_31 : decode cX6_findPhrase 31 = .ok (.aload_n 0, 1) := by decide +kernel
theorem dX6_findPhrase_32 : decode cX6_findPhrase 32 = .ok (.getfield 38, 3) := by decide +kernel
theorem dX6_findPhrase_35 : decode cX6_findPhrase 35 = .ok (.iload 4, 2) := by decide +kernel
theorem dX6_findPhrase_37 : decode cX6_findPhrase 37 = .ok (.iaload, 1) := by decide +kernel
theorem dX6_findPhrase_38 : decode cX6_findPhrase 38 = .ok (.iload_n 2, 1) := by decide +kernel
theorem dX6_findPhrase_39 : decode cX6_findPhrase 39 = .ok (.if_icmp .ne 17, 3) := by decide +kernel
theorem dX6_findPhrase_42 : decode cX6_findPhrase 42 = .ok (.aload_n 1, 1) := by decide +kernel
theorem dX6_findPhrase_43 : decode cX6_findPhrase 43 = .ok (.getfield 15, 3) := by decide +kernel
theorem dX6_findPhrase_46 : decode cX6_findPhrase 46 = .ok (.iload 5, 2) := by decide +kernel
theorem dX6_findPhrase_48 : decode cX6_findPhrase 48 = .ok (.iaload, 1) := by decide +kernel
theorem dX6_findPhrase_49 : decode cX6_findPhrase 49 = .ok (.iload_n 3, 1) := by decide +kernel
theorem dX6_findPhrase_50 : decode cX6_findPhrase 50 = .ok (.if_icmp .ne 6, 3) := by decide +kernel
theorem dX6_findPhrase_53 : decode cX6_findPhrase 53 = .ok (.iload 4, 2) := by decide +kernel
theorem dX6_findPhrase_55 : decode cX6_findPhrase 55 = .ok (.ireturn, 1) := by decide +kernel
theorem dX6_findPhrase_56 : decode cX6_findPhrase 56 = .ok (.iinc 4 1, 3) := by decide +kernel
theorem dX6_findPhrase_59 : decode cX6_findPhrase 59 = .ok (.goto (-56), 3) := by decide +kernel
theorem dX6_findPhrase_62 : decode cX6_findPhrase 62 = .ok (.bipush (-2), 2) := by decide +kernel
theorem dX6_findPhrase_64 : decode cX6_findPhrase 64 = .ok (.ireturn, 1) := by decide +kernel
theorem dX7_init_0 : decode cX7_init 0 = .ok (.aload_n 0, 1) := by decide +kernel
theorem dX7_init_1 : decode cX7_init 1 = .ok (.invokespecial 3, 3) := by decide +kernel
theorem dX7_init_4 : decode cX7_init 4 = .ok (.aload_n 0, 1) := by decide +kernel
theorem dX7_init_5 : decode cX7_init 5 = .ok (.sipush 400, 3) := by decide +kernel
theorem dX7_init_8 : decode cX7_init 8 = .ok (.newarray .int, 2) := by decide +kernel
theorem dX7_init_10 : decode cX7_init 10 = .ok (.putfield 9, 3) := by decide +kernel
theorem dX7_init_13 : decode cX7_init 13 = .ok (.aload_n 0, 1) := by decide +kernel
theorem dX7_init_14 : decode cX7_init 14 = .ok (.sipush 400, 3) := by decide +kernel
theorem dX7_init_17 : decode cX7_init 17 = .ok (.newarray .int, 2) := by decide +kernel
theorem dX7_init_19 : decode cX7_init 19 = .ok (.putfield 15, 3) := by decide +kernel
theorem dX7_init_22 : decode cX7_init 22 = .ok (.aload_n 0, 1) := by decide +kernel
theorem dX7_init_23 : decode cX7_init 23 = .ok (.sipush 400, 3) := by decide +kernel
theorem dX7_init_26 : decode cX7_init 26 = .ok (.newarray .int, 2) := by decide +kernel
theorem dX7_init_28 : decode cX7_init 28 = .ok (.putfield 18, 3) := by decide +kernel
theorem dX7_init_31 : decode cX7_init 31 = .ok (.return_, 1) := by decide +kernel
theorem dX7_follow_0 : decode cX7_follow 0 = .ok (.aload_n 0, 1) := by decide +kernel
theorem dX7_follow_1 : decode cX7_follow 1 = .ok (.getfield 21, 3) := by decide +kernel
theorem dX7_follow_4 : decode cX7_follow 4 = .ok (.aload_n 1, 1) := by decide +kernel
theorem dX7_follow_5 : decode cX7_follow 5 = .ok (.getfield 25, 3) := by decide +kernel
theorem dX7_follow_8 : decode cX7_follow 8 = .ok (.if_icmp .ne 4, 3) := by decide +kernel
theorem dX7_follow_11 : decode cX7_follow 11 = .ok (.return_, 1) := by decide +kernel
theorem dX7_follow_12 : decode cX7_follow 12 = .ok (.aload_n 0, 1) := by decide +kernel
theorem dX7_follow_13 : decode cX7_follow 13 = .ok (.aload_n 1, 1) := by decide +kernel
theorem dX7_follow_14 : decode cX7_follow 14 = .ok (.getfield 25, 3) := by decide +kernel
theorem dX7_follow_17 : decode cX7_follow 17 = .ok (.putfield 21, 3) := by decide +kernel
theorem dX7_follow_20 : decode cX7_follow 20 = .ok (.aload_n 0, 1) := by decide +kernel
theorem dX7_follow_21 : decode cX7_follow 21 = .ok (.iconst 0, 1) := by decide +kernel
theorem dX7_follow_22 : decode cX7_follow 22 = .ok (.putfield 30, 3) := by decide +kernel
theorem dX7_follow_25 : decode cX7_follow 25 = .ok (.aload_n 0, 1) := by decide +kernel
theorem dX7_follow_26 : decode cX7_follow 26 = .ok (.aload_n 1, 1) := by decide +kernel
theorem dX7_follow_27 : decode cX7_follow 27 = .ok (.invokevirtual 33, 3) := by decide +kernel
theorem dX7_follow_30 : decode cX7_follow 30 = .ok (.return_, 1) := by decide +kernel
theorem dX7_add_0 : decode cX7_add 0 = .ok (.aload_n 0, 1) := by decide +kernel
theorem dX7_add_1 : decode cX7_add 1 = .ok (.getfield 9, 3) := by decide +kernel
theorem dX7_add_4 : decode cX7_add 4 = .ok (.aload_n 0, 1) := by decide +kernel
theorem dX7_add_5 : decode cX7_add 5 = .ok (.getfield 30, 3) := by decide +kernel
theorem dX7_add_8 : decode cX7_add 8 = .ok (.iload_n 1, 1) := by decide +kernel
theorem dX7_add_9 : decode cX7_add 9 = .ok (.iastore, 1) := by decide +kernel
theorem dX7_add_10 : decode cX7_add 10 = .ok (.aload_n 0, 1) := by decide +kernel
theorem dX7_add_11 : decode cX7_add 11 = .ok (.getfield 15, 3) := by decide +kernel
theorem dX7_add_14 : decode cX7_add 14 = .ok (.aload_n 0, 1) := by decide +kernel
theorem dX7_add_15 : decode cX7_add 15 = .ok (.getfield 30, 3) := by decide +kernel
theorem dX7_add_18 : decode cX7_add 18 = .ok (.iload_n 2, 1) := by decide +kernel
theorem dX7_add_19 : decode cX7_add 19 = .ok (.iastore, 1) := by decide +kernel
theorem dX7_add_20 : decode cX7_add 20 = .ok (.aload_n 0, 1) := by decide +kernel
theorem dX7_add_21 : decode cX7_add 21 = .ok (.getfield 18, 3) := by decide +kernel
theorem dX7_add_24 : decode cX7_add 24 = .ok (.aload_n 0, 1) := by decide +kernel
theorem dX7_add_25 : decode cX7_add 25 = .ok (.getfield 30, 3) := by decide +kernel
theorem dX7_add_28 : decode cX7_add 28 = .ok (.iload_n 3, 1) := by decide +kernel
theorem dX7_add_29 : decode cX7_add 29 = .ok (.iastore, 1) := by decide +kernel
theorem dX7_add_30 : decode cX7_add 30 = .ok (.aload_n 0, 1) := by decide +kernel
theorem dX7_add_31 : decode cX7_add 31 = .ok (.dup, 1) := by decide +kernel
theorem dX7_add_32 : decode cX7_add 32 = .ok (.getfield 30, 3) := by decide +kernel
theorem dX7_add_35 : decode cX7_add 35 = .ok (.iconst 1, 1) := by decide +kernel
theorem dX7_add_36 : decode cX7_add 36 = .ok (.iadd, 1) := by decide +kernel
theorem dX7_add_37 : decode cX7_add 37 = .ok (.putfield 30, 3) := by decide +kernel
theorem dX7_add_40 : decode cX7_add 40 = .ok (.return_, 1) := by decide +kernel
theorem dX8_init_0 : decode cX8_init 0 = .ok (.aload_n 0, 1) := by decide +kernel
theorem dX8_init_1 : decode cX8_init 1 = .ok (.invokespecial 3, 3) := by decide +kernel
theorem dX8_init_4 : decode cX8_init 4 = .ok (.aload_n 0, 1) := by decide +kernel
theorem dX8_init_5 : decode cX8_init 5 = .ok (.sipush 400, 3) := by decide +kernel
theorem dX8_init_8 : decode cX8_init 8 = .ok (.newarray .int, 2) := by decide +kernel
theorem dX8_init_10 : decode cX8_init 10 = .ok (.putfield 9, 3) := by decide +kernel
theorem dX8_init_13 : decode cX8_init 13 = .ok (.aload_n 0, 1) := by decide +kernel
theorem dX8_init_14 : decode cX8_init 14 = .ok (.bipush 16, 2) := by decide +kernel
theorem dX8_init_16 : decode cX8_init 16 = .ok (.newarray .int, 2) := by decide +kernel
theorem dX8_init_18 : decode cX8_init 18 = .ok (.putfield 15, 3) := by decide +kernel
theorem dX8_init_21 : decode cX8_init 21 = .ok (.return_, 1) := by decide +kernel
theorem dX8_append_0 : decode cX8_append 0 = .ok (.aload_n 0, 1) := by decide +kernel
theorem dX8_append_1 : decode cX8_append 1 = .ok (.getfield 9, 3) := by decide +kernel
theorem dX8_append_4 : decode cX8_append 4 = .ok (.aload_n 0, 1) := by decide +kernel
theorem dX8_append_5 : decode cX8_append 5 = .ok (.getfield 18, 3) := by decide +kernel
theorem dX8_append_8 : decode cX8_append 8 = .ok (.iload_n 1, 1) := by decide +kernel
theorem dX8_append_9 : decode cX8_append 9 = .ok (.iastore, 1) := by decide +kernel
theorem dX8_append_10 : decode cX8_append 10 = .ok (.aload_n 0, 1) := by decide +kernel
theorem dX8_append_11 : decode cX8_append 11 = .ok (.dup, 1) := by decide +kernel
theorem dX8_append_12 : decode cX8_append 12 = .ok (.getfield 18, 3) := by decide +kernel
theorem dX8_append_15 : decode cX8_append 15 = .ok (.iconst 1, 1) := by decide +kernel
theorem dX8_append_16 : decode cX8_append 16 = .ok (.iadd, 1) := by decide +kernel
theorem dX8_append_17 : decode cX8_append 17 = .ok (.putfield 18, 3) := by decide +kernel
theorem dX8_append_20 : decode cX8_append 20 = .ok (.aload_n 0, 1) := by decide +kernel
theorem dX8_append_21 : decode cX8_append 21 = .ok (.getfield 15, 3) := by decide +kernel
theorem dX8_append_24 : decode cX8_append 24 = .ok (.iload_n 1, 1) := by decide +kernel
theorem dX8_append_25 : decode cX8_append 25 = .ok (.dup2, 1) := by decide +kernel
theorem dX8_append_26 : decode cX8_append 26 = .ok (.iaload, 1) := by decide +kernel
theorem dX8_append_27 : decode cX8_append 27 = .ok (.iconst 1, 1) := by decide +kernel
theorem dX8_append_28 : decode cX8_append 28 = .ok (.iadd, 1) := by decide +kernel
theorem dX8_append_29 : decode cX8_append 29 = .ok (.iastore, 1) := by decide +kernel
theorem dX8_append_30 : decode cX8_append 30 = .ok (.aload_n 0, 1) := by decide +kernel
theorem dX8_append_31 : decode cX8_append 31 = .ok (.dup, 1) := by decide +kernel
theorem dX8_append_32 : decode cX8_append 32 = .ok (.getfield 22, 3) := by decide +kernel
theorem dX8_append_35 : decode cX8_append 35 = .ok (.iconst 1, 1) := by decide +kernel
theorem dX8_append_36 : decode cX8_append 36 = .ok (.iadd, 1) := by decide +kernel
theorem dX8_append_37 : decode cX8_append 37 = .ok (.putfield 22, 3) := by decide +kernel
theorem dX8_append_40 : decode cX8_append 40 = .ok (.return_, 1) := by decide +kernel
theorem dX8_clear_0 : decode cX8_clear 0 = .ok (.aload_n 0, 1) := by decide +kernel
theorem dX8_clear_1 : decode cX8_clear 1 = .ok (.iconst 0, 1) := by decide +kernel
theorem dX8_clear_2 : decode cX8_clear 2 = .ok (.putfield 18, 3) := by decide +kernel
theorem dX8_clear_5 : decode cX8_clear 5 = .ok (.aload_n 0, 1) := by decide +kernel
theorem dX8_clear_6 : decode cX8_clear 6 = .ok (.getfield 15, 3) := by decide +kernel
theorem dX8_clear_9 : decode cX8_clear 9 = .ok (.iconst 0, 1) := by decide +kernel
theorem dX8_clear_10 : decode cX8_clear 10 = .ok (.invokestatic 25, 3) := by decide +kernel
theorem dX8_clear_13 : decode cX8_clear 13 = .ok (.aload_n 0, 1) := by decide +kernel
theorem dX8_clear_14 : decode cX8_clear 14 = .ok (.dup, 1) := by decide +kernel
theorem dX8_clear_15 : decode cX8_clear 15 = .ok (.getfield 22, 3) := by decide +kernel
theorem dX8_clear_18 : decode cX8_clear 18 = .ok (.iconst 1, 1) := by decide +kernel
theorem dX8_clear_19 : decode cX8_clear 19 = .ok (.iadd, 1) := by decide +kernel
theorem dX8_clear_20 : decode cX8_clear 20 = .ok (.putfield 22, 3) := by decide +kernel
theorem dX8_clear_23 : decode cX8_clear 23 = .ok (.return_, 1) := by decide +kernel
theorem dX9_init_0 : decode cX9_init 0 = .ok (.aload_n 0, 1) := by decide +kernel
theorem dX9_init_1 : decode cX9_init 1 = .ok (.invokespecial 3, 3) := by decide +kernel
theorem dX9_init_4 : decode cX9_init 4 = .ok (.aload_n 0, 1) := by decide +kernel
theorem dX9_init_5 : decode cX9_init 5 = .ok (.bipush 16, 2) := by decide +kernel
theorem dX9_init_7 : decode cX9_init 7 = .ok (.newarray .int, 2) := by decide +kernel
theorem dX9_init_9 : decode cX9_init 9 = .ok (.putfield 9, 3) := by decide +kernel
theorem dX9_init_12 : decode cX9_init 12 = .ok (.return_, 1) := by decide +kernel
theorem dX9_replace_0 : decode cX9_replace 0 = .ok (.aload_n 0, 1) := by decide +kernel
theorem dX9_replace_1 : decode cX9_replace 1 = .ok (.getfield 9, 3) := by decide +kernel
theorem dX9_replace_4 : decode cX9_replace 4 = .ok (.iload_n 1, 1) := by decide +kernel
theorem dX9_replace_5 : decode cX9_replace 5 = .ok (.iaload, 1) := by decide +kernel
theorem dX9_replace_6 : decode cX9_replace 6 = .ok (.istore_n 3, 1) := by decide +kernel
theorem dX9_replace_7 : decode cX9_replace 7 = .ok (.aload_n 0, 1) := by decide +kernel
theorem dX9_replace_8 : decode cX9_replace 8 = .ok (.getfield 9, 3) := by decide +kernel
theorem dX9_replace_11 : decode cX9_replace 11 = .ok (.iload_n 1, 1) := by decide +kernel
theorem dX9_replace_12 : decode cX9_replace 12 = .ok (.iload_n 2, 1) := by decide +kernel
theorem dX9_replace_13 : decode cX9_replace 13 = .ok (.iastore, 1) := by decide +kernel
theorem dX9_replace_14 : decode cX9_replace 14 = .ok (.aload_n 0, 1) := by decide +kernel
theorem dX9_replace_15 : decode cX9_replace 15 = .ok (.dup, 1) := by decide +kernel
theorem dX9_replace_16 : decode cX9_replace 16 = .ok (.getfield 15, 3) := by decide +kernel
theorem dX9_replace_19 : decode cX9_replace 19 = .ok (.iload_n 2, 1) := by decide +kernel
theorem dX9_replace_20 : decode cX9_replace 20 = .ok (.iload_n 3, 1) := by decide +kernel
theorem dX9_replace_21 : decode cX9_replace 21 = .ok (.isub, 1) := by decide +kernel
theorem dX9_replace_22 : decode cX9_replace 22 = .ok (.iadd, 1) := by decide +kernel
theorem dX9_replace_23 : decode cX9_replace 23 = .ok (.putfield 15, 3) := by decide +kernel
theorem dX9_replace_26 : decode cX9_replace 26 = .ok (.iload_n 3, 1) := by decide +kernel
theorem dX9_replace_27 : decode cX9_replace 27 = .ok (.ireturn, 1) := by decide +kernel
theorem dX9_cover_0 : decode cX9_cover 0 = .ok (.iconst 0, 1) := by decide +kernel
theorem dX9_cover_1 : decode cX9_cover 1 = .ok (.istore_n 2, 1) := by decide +kernel
theorem dX9_cover_2 : decode cX9_cover 2 = .ok (.iload_n 2, 1) := by decide +kernel
theorem dX9_cover_3 : decode cX9_cover 3 = .ok (.bipush 16, 2) := by decide +kernel
theorem dX9_cover_5 : decode cX9_cover 5 = .ok (.if_icmp .ge 29, 3) := by decide +kernel
theorem dX9_cover_8 : decode cX9_cover 8 = .ok (.aload_n 1, 1) := by decide +kernel
theorem dX9_cover_9 : decode cX9_cover 9 = .ok (.getfield 19, 3) := by decide +kernel
theorem dX9_cover_12 : decode cX9_cover 12 = .ok (.iload_n 2, 1) := by decide +kernel
theorem dX9_cover_13 : decode cX9_cover 13 = .ok (.iaload, 1) := by decide +kernel
theorem dX9_cover_14 : decode cX9_cover 14 = .ok (.ifCond .le 14, 3) := by decide +kernel
theorem dX9_cover_17 : decode cX9_cover 17 = .ok (.aload_n 0, 1) := by decide +kernel
theorem dX9_cover_18 : decode cX9_cover 18 = .ok (.getfield 9, 3) := by decide +kernel
theorem dX9_cover_21 : decode cX9_cover 21 = .ok (.iload_n 2, 1) := by decide +kernel
theorem dX9_cover_22 : decode cX9_cover 22 = .ok (.iaload, 1) := by decide +kernel
theorem dX9_cover_23 : decode cX9_cover 23 = .ok (.ifCond .ne 5, 3) := by decide +kernel
theorem dX9_cover_26 : decode cX9_cover 26 = .ok (.iconst 0, 1) := by decide +kernel
theorem dX9_cover_27 : decode cX9_cover 27 = .ok (.ireturn, 1) := by decide +kernel
theorem dX9_cover_28 : decode cX9_cover 28 = .ok (.iinc 2 1, 3) := by decide +kernel
theorem dX9_cover_31 : decode cX9_cover 31 = .ok (.goto (-29), 3) := by decide +kernel
theorem dX9_cover_34 : decode cX9_cover 34 = .ok (.iconst 1, 1) := by decide +kernel
theorem dX9_cover_35 : decode cX9_cover 35 = .ok (.ireturn, 1) := by decide +kernel
theorem dX10_init_0 : decode cX10_init 0 = .ok (.aload_n 0, 1) := by decide +kernel
theorem dX10_init_1 : decode cX10_init 1 = .ok (.invokespecial 3, 3) := by decide +kernel
theorem dX10_init_4 : decode cX10_init 4 = .ok (.aload_n 0, 1) := by decide +kernel
theorem dX10_init_5 : decode cX10_init 5 = .ok (.bipush 16, 2) := by decide +kernel
theorem dX10_init_7 : decode cX10_init 7 = .ok (.newarray .int, 2) := by decide +kernel
theorem dX10_init_9 : decode cX10_init 9 = .ok (.putfield 9, 3) := by decide +kernel
theorem dX10_init_12 : decode cX10_init 12 = .ok (.aload_n 0, 1) := by decide +kernel
theorem dX10_init_13 : decode cX10_init 13 = .ok (.bipush 32, 2) := by decide +kernel
theorem dX10_init_15 : decode cX10_init 15 = .ok (.newarray .int, 2) := by decide +kernel
theorem dX10_init_17 : decode cX10_init 17 = .ok (.putfield 15, 3) := by decide +kernel
theorem dX10_init_20 : decode cX10_init 20 = .ok (.aload_n 0, 1) := by decide +kernel
theorem dX10_init_21 : decode cX10_init 21 = .ok (.bipush 16, 2) := by decide +kernel
theorem dX10_init_23 : decode cX10_init 23 = .ok (.newarray .int, 2) := by decide +kernel
theorem dX10_init_25 : decode cX10_init 25 = .ok (.putfield 18, 3) := by decide +kernel
theorem dX10_init_28 : decode cX10_init 28 = .ok (.return_, 1) := by decide +kernel
theorem dX10_follow_0 : decode cX10_follow 0 = .ok (.aload_n 0, 1) := by decide +kernel
theorem dX10_follow_1 : decode cX10_follow 1 = .ok (.getfield 21, 3) := by decide +kernel
theorem dX10_follow_4 : decode cX10_follow 4 = .ok (.aload_n 1, 1) := by decide +kernel
theorem dX10_follow_5 : decode cX10_follow 5 = .ok (.getfield 25, 3) := by decide +kernel
theorem dX10_follow_8 : decode cX10_follow 8 = .ok (.if_icmp .ne 4, 3) := by decide +kernel
theorem dX10_follow_11 : decode cX10_follow 11 = .ok (.return_, 1) := by decide +kernel
theorem dX10_follow_12 : decode cX10_follow 12 = .ok (.aload_n 0, 1) := by decide +kernel
theorem dX10_follow_13 : decode cX10_follow 13 = .ok (.aload_n 1, 1) := by decide +kernel
theorem dX10_follow_14 : decode cX10_follow 14 = .ok (.getfield 25, 3) := by decide +kernel
theorem dX10_follow_17 : decode cX10_follow 17 = .ok (.putfield 21, 3) := by decide +kernel
theorem dX10_follow_20 : decode cX10_follow 20 = .ok (.aload_n 0, 1) := by decide +kernel
theorem dX10_follow_21 : decode cX10_follow 21 = .ok (.aload_n 1, 1) := by decide +kernel
theorem dX10_follow_22 : decode cX10_follow 22 = .ok (.invokevirtual 30, 3) := by decide +kernel
theorem dX10_follow_25 : decode cX10_follow 25 = .ok (.aload_n 0, 1) := by decide +kernel
theorem dX10_follow_26 : decode cX10_follow 26 = .ok (.getfield 34, 3) := by decide +kernel
theorem dX10_follow_29 : decode cX10_follow 29 = .ok (.iconst 1, 1) := by decide +kernel
theorem dX10_follow_30 : decode cX10_follow 30 = .ok (.if_icmp .ne 8, 3) := by decide +kernel
theorem dX10_follow_33 : decode cX10_follow 33 = .ok (.aload_n 0, 1) := by decide +kernel
theorem dX10_follow_34 : decode cX10_follow 34 = .ok (.iconst 0, 1) := by decide +kernel
theorem dX10_follow_35 : decode cX10_follow 35 = .ok (.invokevirtual 37, 3) := by decide +kernel
theorem dX10_follow_38 : decode cX10_follow 38 = .ok (.aload_n 0, 1) := by decide +kernel
theorem dX10_follow_39 : decode cX10_follow 39 = .ok (.getfield 34, 3) := by decide +kernel
theorem dX10_follow_42 : decode cX10_follow 42 = .ok (.iconst 1, 1) := by decide +kernel
theorem dX10_follow_43 : decode cX10_follow 43 = .ok (.isub, 1) := by decide +kernel
theorem dX10_follow_44 : decode cX10_follow 44 = .ok (.istore_n 2, 1) := by decide +kernel
theorem dX10_follow_45 : decode cX10_follow 45 = .ok (.iload_n 2, 1) := by decide +kernel
theorem dX10_follow_46 : decode cX10_follow 46 = .ok (.ifCond .le 13, 3) := by decide +kernel
theorem dX10_follow_49 : decode cX10_follow 49 = .ok (.aload_n 0, 1) := by decide +kernel
theorem dX10_follow_50 : decode cX10_follow 50 = .ok (.invokevirtual 41, 3) := by decide +kernel
theorem dX10_follow_53 : decode cX10_follow 53 = .ok (.iinc 2 (-1), 3) := by decide +kernel
theorem dX10_follow_56 : decode cX10_follow 56 = .ok (.goto (-11), 3) := by decide +kernel
theorem dX10_follow_59 : decode cX10_follow 59 = .ok (.return_, 1) := by decide +kernel
theorem dX10_stepWidth_0 : decode cX10_stepWidth 0 = .ok (.iconst 0, 1) := by decide +kernel
theorem dX10_stepWidth_1 : decode cX10_stepWidth 1 = .ok (.istore_n 2, 1) := by decide +kernel
theorem dX10_stepWidth_2 : decode cX10_stepWidth 2 = .ok (.iload_n 0, 1) := by decide +kernel
theorem dX10_stepWidth_3 : decode cX10_stepWidth 3 = .ok (.ifCond .le 22, 3) := by decide +kernel
theorem dX10_stepWidth_6 : decode cX10_stepWidth 6 = .ok (.iload_n 2, 1) := by decide +kernel
theorem dX10_stepWidth_7 : decode cX10_stepWidth 7 = .ok (.bipush 10, 2) := by decide +kernel
theorem dX10_stepWidth_9 : decode cX10_stepWidth 9 = .ok (.if_icmp .ge 16, 3) := by decide +kernel
theorem dX10_stepWidth_12 : decode cX10_stepWidth 12 = .ok (.iload_n 0, 1) := by decide +kernel
theorem dX10_stepWidth_13 : decode cX10_stepWidth 13 = .ok (.iload_n 2, 1) := by decide +kernel
theorem dX10_stepWidth_14 : decode cX10_stepWidth 14 = .ok (.ishl, 1) := by decide +kernel
theorem dX10_stepWidth_15 : decode cX10_stepWidth 15 = .ok (.iload_n 1, 1) := by decide +kernel
theorem dX10_stepWidth_16 : decode cX10_stepWidth 16 = .ok (.if_icmp .ge 9, 3) := by decide +kernel
theorem dX10_stepWidth_19 : decode cX10_stepWidth 19 = .ok (.iinc 2 1, 3) := by decide +kernel
theorem dX10_stepWidth_22 : decode cX10_stepWidth 22 = .ok (.goto (-20), 3) := by decide +kernel
theorem dX10_stepWidth_25 : decode cX10_stepWidth 25 = .ok (.iload_n 2, 1) := by decide +kernel
theorem dX10_stepWidth_26 : decode cX10_stepWidth 26 = .ok (.ireturn, 1) := by decide +kernel
theorem dX10_plantTrees_0 : decode cX10_plantTrees 0 = .ok (.aload_n 0, 1) := by decide +kernel
theorem dX10_plantTrees_1 : decode cX10_plantTrees 1 = .ok (.iconst 0, 1) := by decide +kernel
theorem dX10_plantTrees_2 : decode cX10_plantTrees 2 = .ok (.putfield 34, 3) := by decide +kernel
theorem dX10_plantTrees_5 : decode cX10_plantTrees 5 = .ok (.iconst 0, 1) := by decide +kernel
theorem dX10_plantTrees_6 : decode cX10_plantTrees 6 = .ok (.istore_n 2, 1) := by decide +kernel
theorem dX10_plantTrees_7 : decode cX10_plantTrees 7 = .ok (.iload_n 2, 1) := by decide +kernel
theorem dX10_plantTrees_8 : decode cX10_plantTrees 8 = .ok (.bipush 16, 2) := by decide +kernel
theorem dX10_plantTrees_10 : decode cX10_plantTrees 10 = .ok (.if_icmp .ge 68, 3) := by decide +kernel
theorem dX10_plantTrees_13 : decode cX10_plantTrees 13 = .ok (.aload_n 0, 1) := by decide +kernel
theorem dX10_plantTrees_14 : decode cX10_plantTrees 14 = .ok (.getfield 9, 3) := by decide +kernel
theorem dX10_plantTrees_17 : decode cX10_plantTrees 17 = .ok (.iload_n 2, 1) := by decide +kernel
theorem dX10_plantTrees_18 : decode cX10_plantTrees 18 = .ok (.iconst 0, 1) := by decide +kernel
theorem dX10_plantTrees_19 : decode cX10_plantTrees 19 = .ok (.iastore, 1) := by decide +kernel
theorem dX10_plantTrees_20 : decode cX10_plantTrees 20 = .ok (.aload_n 0, 1) := by decide +kernel
theorem dX10_plantTrees_21 : decode cX10_plantTrees 21 = .ok (.getfield 18, 3) := by decide +kernel
theorem dX10_plantTrees_24 : decode cX10_plantTrees 24 = .ok (.iload_n 2, 1) := by decide +kernel
theorem dX10_plantTrees_25 : decode cX10_plantTrees 25 = .ok (.bipush (-2), 2) := by decide +kernel
theorem dX10_plantTrees_27 : decode cX10_plantTrees 27 = .ok (.iastore, 1) := by decide +kernel
theorem dX10_plantTrees_28 : decode cX10_plantTrees 28 = .ok (.aload_n 1, 1) := by decide +kernel
theorem dX10_plantTrees_29 : decode cX10_plantTrees 29 = .ok (.getfield 44, 3) := by decide +kernel
theorem dX10_plantTrees_32 : decode cX10_plantTrees 32 = .ok (.iload_n 2, 1) := by decide +kernel
theorem dX10_plantTrees_33 : decode cX10_plantTrees 33 = .ok (.iaload, 1) := by decide +kernel
theorem dX10_plantTrees_34 : decode cX10_plantTrees 34 = .ok (.ifCond .le 38, 3) := by decide +kernel
theorem dX10_plantTrees_37 : decode cX10_plantTrees 37 = .ok (.aload_n 0, 1) := by decide +kernel
theorem dX10_plantTrees_38 : decode cX10_plantTrees 38 = .ok (.getfield 18, 3) := by decide +kernel
theorem dX10_plantTrees_41 : decode cX10_plantTrees 41 = .ok (.iload_n 2, 1) := by decide +kernel
theorem dX10_plantTrees_42 : decode cX10_plantTrees 42 = .ok (.aload_n 0, 1) := by decide +kernel
theorem dX10_plantTrees_43 : decode cX10_plantTrees 43 = .ok (.getfield 34, 3) := by decide +kernel
theorem dX10_plantTrees_46 : decode cX10_plantTrees 46 = .ok (.iastore, 1) := by decide +kernel
theorem dX10_plantTrees_47 : decode cX10_plantTrees 47 = .ok (.aload_n 0, 1) := by decide +kernel
theorem dX10_plantTrees_48 : decode cX10_plantTrees 48 = .ok (.getfield 15, 3) := by decide +kernel
theorem dX10_plantTrees_51 : decode cX10_plantTrees 51 = .ok (.aload_n 0, 1) := by decide +kernel
theorem dX10_plantTrees_52 : decode cX10_plantTrees 52 = .ok (.getfield 34, 3) := by decide +kernel
theorem dX10_plantTrees_55 : decode cX10_plantTrees 55 = .ok (.aload_n 1, 1) := by decide +kernel
theorem dX10_plantTrees_56 : decode cX10_plantTrees 56 = .ok (.getfield 44, 3) := by decide +kernel
theorem dX10_plantTrees_59 : decode cX10_plantTrees 59 = .ok (.iload_n 2, 1) := by decide +kernel
theorem dX10_plantTrees_60 : decode cX10_plantTrees 60 = .ok (.iaload, 1) := by decide +kernel
theorem dX10_plantTrees_61 : decode cX10_plantTrees 61 = .ok (.iastore, 1) := by decide +kernel
theorem dX10_plantTrees_62 : decode cX10_plantTrees 62 = .ok (.aload_n 0, 1) := by decide +kernel
theorem dX10_plantTrees_63 : decode cX10_plantTrees 63 = .ok (.dup, 1) := by decide +kernel
theorem dX10_plantTrees_64 : decode cX10_plantTrees 64 = .ok (.getfield 34, 3) := by decide +kernel
theorem dX10_plantTrees_67 : decode cX10_plantTrees 67 = .ok (.iconst 1, 1) := by decide +kernel
theorem dX10_plantTrees_68 : decode cX10_plantTrees 68 = .ok (.iadd, 1) := by decide +kernel
theorem dX10_plantTrees_69 : decode cX10_plantTrees 69 = .ok (.putfield 34, 3) := by decide +kernel
theorem dX10_plantTrees_72 : decode cX10_plantTrees 72 = .ok (.iinc 2 1, 3) := by decide +kernel
theorem dX10_plantTrees_75 : decode cX10_plantTrees 75 = .ok (.goto (-68), 3) := by decide +kernel
theorem dX10_plantTrees_78 : decode cX10_plantTrees 78 = .ok (.return_, 1) := by decide +kernel
theorem dX10_joinTwoTrees_0 : decode cX10_joinTwoTrees 0 = .ok (.aload_n 0, 1) := by decide +kernel
theorem dX10_joinTwoTrees_1 : decode cX10_joinTwoTrees 1 = .ok (.invokevirtual 47, 3) := by decide +kernel
theorem dX10_joinTwoTrees_4 : decode cX10_joinTwoTrees 4 = .ok (.aload_n 0, 1) := by decide +kernel
theorem dX10_joinTwoTrees_5 : decode cX10_joinTwoTrees 5 = .ok (.invokevirtual 47, 3) := by decide +kernel
theorem dX10_joinTwoTrees_8 : decode cX10_joinTwoTrees 8 = .ok (.iadd, 1) := by decide +kernel
theorem dX10_joinTwoTrees_9 : decode cX10_joinTwoTrees 9 = .ok (.istore_n 1, 1) := by decide +kernel
theorem dX10_joinTwoTrees_10 : decode cX10_joinTwoTrees 10 = .ok (.aload_n 0, 1) := by decide +kernel
theorem dX10_joinTwoTrees_11 : decode cX10_joinTwoTrees 11 = .ok (.getfield 15, 3) := by decide +kernel
theorem dX10_joinTwoTrees_14 : decode cX10_joinTwoTrees 14 = .ok (.aload_n 0, 1) := by decide +kernel
theorem dX10_joinTwoTrees_15 : decode cX10_joinTwoTrees 15 = .ok (.getfield 34, 3) := by decide +kernel
theorem dX10_joinTwoTrees_18 : decode cX10_joinTwoTrees 18 = .ok (.iload_n 1, 1) := by decide +kernel
theorem dX10_joinTwoTrees_19 : decode cX10_joinTwoTrees 19 = .ok (.iastore, 1) := by decide +kernel
theorem dX10_joinTwoTrees_20 : decode cX10_joinTwoTrees 20 = .ok (.aload_n 0, 1) := by decide +kernel
theorem dX10_joinTwoTrees_21 : decode cX10_joinTwoTrees 21 = .ok (.dup, 1) := by decide +kernel
theorem dX10_joinTwoTrees_22 : decode cX10_joinTwoTrees 22 = .ok (.getfield 34, 3) := by decide +kernel
theorem dX10_joinTwoTrees_25 : decode cX10_joinTwoTrees 25 = .ok (.iconst 1, 1) := by decide +kernel
theorem dX10_joinTwoTrees_26 : decode cX10_joinTwoTrees 26 = .ok (.iadd, 1) := by decide +kernel
theorem dX10_joinTwoTrees_27 : decode cX10_joinTwoTrees 27 = .ok (.putfield 34, 3) := by decide +kernel
theorem dX10_joinTwoTrees_30 : decode cX10_joinTwoTrees 30 = .ok (.return_, 1) := by decide +kernel
theorem dX10_takeLeastTree_0 : decode cX10_takeLeastTree 0 = .ok (.iconst 0, 1) := by decide +kernel
theorem dX10_takeLeastTree_1 : decode cX10_takeLeastTree 1 = .ok (.istore_n 1, 1) := by decide +kernel
theorem dX10_takeLeastTree_2 : decode cX10_takeLeastTree 2 = .ok (.iconst 1, 1) := by decide +kernel
theorem dX10_takeLeastTree_3 : decode cX10_takeLeastTree 3 = .ok (.istore_n 2, 1) := by decide +kernel
theorem dX10_takeLeastTree_4 : decode cX10_takeLeastTree 4 = .ok (.iload_n 2, 1) := by decide +kernel
theorem dX10_takeLeastTree_5 : decode cX10_takeLeastTree 5 = .ok (.aload_n 0, 1) := by decide +kernel
theorem dX10_takeLeastTree_6 : decode cX10_takeLeastTree 6 = .ok (.getfield 34, 3) := by decide +kernel
theorem dX10_takeLeastTree_9 : decode cX10_takeLeastTree 9 = .ok (.if_icmp .ge 66, 3) := by decide +kernel
theorem dX10_takeLeastTree_12 : decode cX10_takeLeastTree 12 = .ok (.aload_n 0, 1) := by decide +kernel
theorem dX10_takeLeastTree_13 : decode cX10_takeLeastTree 13 = .ok (.getfield 15, 3) := by decide +kernel
theorem dX10_takeLeastTree_16 : decode cX10_takeLeastTree 16 = .ok (.iload_n 1, 1) := by decide +kernel
theorem dX10_takeLeastTree_17 : decode cX10_takeLeastTree 17 = .ok (.iaload, 1) := by decide +kernel
theorem dX10_takeLeastTree_18 : decode cX10_takeLeastTree 18 = .ok (.ifCond .ne 7, 3) := by decide +kernel
theorem dX10_takeLeastTree_21 : decode cX10_takeLeastTree 21 = .ok (.iconst 1, 1) := by decide +kernel
theorem dX10_takeLeastTree_22 : decode cX10_takeLeastTree 22 = .ok (.goto 4, 3) := by decide +kernel
theorem dX10_takeLeastTree_25 : decode cX10_takeLeastTree 25 = .ok (.iconst 0, 1) := by decide +kernel
theorem dX10_takeLeastTree_26 : decode cX10_takeLeastTree 26 = .ok (.istore_n 3, 1) := by decide +kernel
theorem dX10_takeLeastTree_27 : decode cX10_takeLeastTree 27 = .ok (.aload_n 0, 1) := by decide +kernel
theorem dX10_takeLeastTree_28 : decode cX10_takeLeastTree 28 = .ok (.getfield 15, 3) := by decide +kernel
theorem dX10_takeLeastTree_31 : decode cX10_takeLeastTree 31 = .ok (.iload_n 2, 1) := by decide +kernel
theorem dX10_takeLeastTree_32 : decode cX10_takeLeastTree 32 = .ok (.iaload, 1) := by decide +kernel
theorem dX10_takeLeastTree_33 : decode cX10_takeLeastTree 33 = .ok (.aload_n 0, 1) := by decide +kernel
theorem dX10_takeLeastTree_34 : decode cX10_takeLeastTree 34 = .ok (.getfield 15, 3) := by decide +kernel
theorem dX10_takeLeastTree_37 : decode cX10_takeLeastTree 37 = .ok (.iload_n 1, 1) := by decide +kernel
theorem dX10_takeLeastTree_38 : decode cX10_takeLeastTree 38 = .ok (.iaload, 1) := by decide +kernel
theorem dX10_takeLeastTree_39 : decode cX10_takeLeastTree 39 = .ok (.if_icmp .ge 7, 3) := by decide +kernel
theorem dX10_takeLeastTree_42 : decode cX10_takeLeastTree 42 = .ok (.iconst 1, 1) := by decide +kernel
theorem dX10_takeLeastTree_43 : decode cX10_takeLeastTree 43 = .ok (.goto 4, 3) := by decide +kernel
theorem dX10_takeLeastTree_46 : decode cX10_takeLeastTree 46 = .ok (.iconst 0, 1) := by decide +kernel
theorem dX10_takeLeastTree_47 : decode cX10_takeLeastTree 47 = .ok (.istore 4, 2) := by decide +kernel
theorem dX10_takeLeastTree_49 : decode cX10_takeLeastTree 49 = .ok (.aload_n 0, 1) := by decide +kernel
theorem dX10_takeLeastTree_50 : decode cX10_takeLeastTree 50 = .ok (.getfield 15, 3) := by decide +kernel
theorem dX10_takeLeastTree_53 : decode cX10_takeLeastTree 53 = .ok (.iload_n 2, 1) := by decide +kernel
theorem dX10_takeLeastTree_54 : decode cX10_takeLeastTree 54 = .ok (.iaload, 1) := by decide +kernel
theorem dX10_takeLeastTree_55 : decode cX10_takeLeastTree 55 = .ok (.ifCond .le 14, 3) := by decide +kernel
theorem dX10_takeLeastTree_58 : decode cX10_takeLeastTree 58 = .ok (.iload_n 3, 1) := by decide +kernel
theorem dX10_takeLeastTree_59 : decode cX10_takeLeastTree 59 = .ok (.ifCond .ne 8, 3) := by decide +kernel
theorem dX10_takeLeastTree_62 : decode cX10_takeLeastTree 62 = .ok (.iload 4, 2) := by decide +kernel
theorem dX10_takeLeastTree_64 : decode cX10_takeLeastTree 64 = .ok (.ifCond .eq 5, 3) := by decide +kernel
theorem dX10_takeLeastTree_67 : decode cX10_takeLeastTree 67 = .ok (.iload_n 2, 1) := by decide +kernel
theorem dX10_takeLeastTree_68 : decode cX10_takeLeastTree 68 = .ok (.istore_n 1, 1) := by decide +kernel
theorem dX10_takeLeastTree_69 : decode cX10_takeLeastTree 69 = .ok (.iinc 2 1, 3) := by decide +kernel
theorem dX10_takeLeastTree_72 : decode cX10_takeLeastTree 72 = .ok (.goto (-68), 3) := by decide +kernel
theorem dX10_takeLeastTree_75 : decode cX10_takeLeastTree 75 = .ok (.aload_n 0, 1) := by decide +kernel
theorem dX10_takeLeastTree_76 : decode cX10_takeLeastTree 76 = .ok (.getfield 15, 3) := by decide +kernel
theorem dX10_takeLeastTree_79 : decode cX10_takeLeastTree 79 = .ok (.iload_n 1, 1) := by decide +kernel
theorem dX10_takeLeastTree_80 : decode cX10_takeLeastTree 80 = .ok (.iaload, 1) := by decide +kernel
theorem dX10_takeLeastTree_81 : decode cX10_takeLeastTree 81 = .ok (.istore_n 2, 1) := by decide +kernel
theorem dX10_takeLeastTree_82 : decode cX10_takeLeastTree 82 = .ok (.aload_n 0, 1) := by decide +kernel
theorem dX10_takeLeastTree_83 : decode cX10_takeLeastTree 83 = .ok (.getfield 15, 3) := by decide +kernel
theorem dX10_takeLeastTree_86 : decode cX10_takeLeastTree 86 = .ok (.iload_n 1, 1) := by decide +kernel
theorem dX10_takeLeastTree_87 : decode cX10_takeLeastTree 87 = .ok (.iconst 0, 1) := by decide +kernel
theorem dX10_takeLeastTree_88 : decode cX10_takeLeastTree 88 = .ok (.iastore, 1) := by decide +kernel
theorem dX10_takeLeastTree_89 : decode cX10_takeLeastTree 89 = .ok (.aload_n 0, 1) := by decide +kernel
theorem dX10_takeLeastTree_90 : decode cX10_takeLeastTree 90 = .ok (.iload_n 1, 1) := by decide +kernel
theorem dX10_takeLeastTree_91 : decode cX10_takeLeastTree 91 = .ok (.invokevirtual 37, 3) := by decide +kernel
theorem dX10_takeLeastTree_94 : decode cX10_takeLeastTree 94 = .ok (.iload_n 2, 1) := by decide +kernel
theorem dX10_takeLeastTree_95 : decode cX10_takeLeastTree 95 = .ok (.ireturn, 1) := by decide +kernel
theorem dX10_widenTree_0 : decode cX10_widenTree 0 = .ok (.iconst 0, 1) := by decide +kernel
theorem dX10_widenTree_1 : decode cX10_widenTree 1 = .ok (.istore_n 2, 1) := by decide +kernel
theorem dX10_widenTree_2 : decode cX10_widenTree 2 = .ok (.iload_n 2, 1) := by decide +kernel
theorem dX10_widenTree_3 : decode cX10_widenTree 3 = .ok (.bipush 16, 2) := by decide +kernel
theorem dX10_widenTree_5 : decode cX10_widenTree 5 = .ok (.if_icmp .ge 39, 3) := by decide +kernel
theorem dX10_widenTree_8 : decode cX10_widenTree 8 = .ok (.aload_n 0, 1) := by decide +kernel
theorem dX10_widenTree_9 : decode cX10_widenTree 9 = .ok (.getfield 18, 3) := by decide +kernel
theorem dX10_widenTree_12 : decode cX10_widenTree 12 = .ok (.iload_n 2, 1) := by decide +kernel
theorem dX10_widenTree_13 : decode cX10_widenTree 13 = .ok (.iaload, 1) := by decide +kernel
theorem dX10_widenTree_14 : decode cX10_widenTree 14 = .ok (.iload_n 1, 1) := by decide +kernel
theorem dX10_widenTree_15 : decode cX10_widenTree 15 = .ok (.if_icmp .ne 23, 3) := by decide +kernel
theorem dX10_widenTree_18 : decode cX10_widenTree 18 = .ok (.aload_n 0, 1) := by decide +kernel
theorem dX10_widenTree_19 : decode cX10_widenTree 19 = .ok (.getfield 18, 3) := by decide +kernel
theorem dX10_widenTree_22 : decode cX10_widenTree 22 = .ok (.iload_n 2, 1) := by decide +kernel
theorem dX10_widenTree_23 : decode cX10_widenTree 23 = .ok (.aload_n 0, 1) := by decide +kernel
theorem dX10_widenTree_24 : decode cX10_widenTree 24 = .ok (.getfield 34, 3) := by decide +kernel
theorem dX10_widenTree_27 : decode cX10_widenTree 27 = .ok (.iastore, 1) := by decide +kernel
theorem dX10_widenTree_28 : decode cX10_widenTree 28 = .ok (.aload_n 0, 1) := by decide +kernel
theorem dX10_widenTree_29 : decode cX10_widenTree 29 = .ok (.getfield 9, 3) := by decide +kernel
theorem dX10_widenTree_32 : decode cX10_widenTree 32 = .ok (.iload_n 2, 1) := by decide +kernel
theorem dX10_widenTree_33 : decode cX10_widenTree 33 = .ok (.dup2, 1) := by decide +kernel
theorem dX10_widenTree_34 : decode cX10_widenTree 34 = .ok (.iaload, 1) := by decide +kernel
theorem dX10_widenTree_35 : decode cX10_widenTree 35 = .ok (.iconst 1, 1) := by decide +kernel
theorem dX10_widenTree_36 : decode cX10_widenTree 36 = .ok (.iadd, 1) := by decide +kernel
theorem dX10_widenTree_37 : decode cX10_widenTree 37 = .ok (.iastore, 1) := by decide +kernel
theorem dX10_widenTree_38 : decode cX10_widenTree 38 = .ok (.iinc 2 1, 3) := by decide +kernel
theorem dX10_widenTree_41 : decode cX10_widenTree 41 = .ok (.goto (-39), 3) := by decide +kernel
theorem dX10_widenTree_44 : decode cX10_widenTree 44 = .ok (.return_, 1) := by decide +kernel
theorem dX11_init_0 : decode cX11_init 0 = .ok (.aload_n 0, 1) := by decide +kernel
theorem dX11_init_1 : decode cX11_init 1 = .ok (.invokespecial 1, 3) := by decide +kernel
theorem dX11_init_4 : decode cX11_init 4 = .ok (.aload_n 0, 1) := by decide +kernel
theorem dX11_init_5 : decode cX11_init 5 = .ok (.new 7, 3) := by decide +kernel
theorem dX11_init_8 : decode cX11_init 8 = .ok (.dup, 1) := by decide +kernel
theorem dX11_init_9 : decode cX11_init 9 = .ok (.invokespecial 9, 3) := by decide +kernel
theorem dX11_init_12 : decode cX11_init 12 = .ok (.putfield 10, 3) := by decide +kernel
theorem dX11_init_15 : decode cX11_init 15 = .ok (.aload_n 0, 1) := by decide +kernel
theorem dX11_init_16 : decode cX11_init 16 = .ok (.new 16, 3) := by decide +kernel
theorem dX11_init_19 : decode cX11_init 19 = .ok (.dup, 1) := by decide +kernel
theorem dX11_init_20 : decode cX11_init 20 = .ok (.invokespecial 18, 3) := by decide +kernel
theorem dX11_init_23 : decode cX11_init 23 = .ok (.putfield 19, 3) := by decide +kernel
theorem dX11_init_26 : decode cX11_init 26 = .ok (.aload_n 0, 1) := by decide +kernel
theorem dX11_init_27 : decode cX11_init 27 = .ok (.new 23, 3) := by decide +kernel
theorem dX11_init_30 : decode cX11_init 30 = .ok (.dup, 1) := by decide +kernel
theorem dX11_init_31 : decode cX11_init 31 = .ok (.invokespecial 25, 3) := by decide +kernel
theorem dX11_init_34 : decode cX11_init 34 = .ok (.putfield 26, 3) := by decide +kernel
theorem dX11_init_37 : decode cX11_init 37 = .ok (.aload_n 0, 1) := by decide +kernel
theorem dX11_init_38 : decode cX11_init 38 = .ok (.new 30, 3) := by decide +kernel
theorem dX11_init_41 : decode cX11_init 41 = .ok (.dup, 1) := by decide +kernel
theorem dX11_init_42 : decode cX11_init 42 = .ok (.invokespecial 32, 3) := by decide +kernel
theorem dX11_init_45 : decode cX11_init 45 = .ok (.putfield 33, 3) := by decide +kernel
theorem dX11_init_48 : decode cX11_init 48 = .ok (.aload_n 0, 1) := by decide +kernel
theorem dX11_init_49 : decode cX11_init 49 = .ok (.new 37, 3) := by decide +kernel
theorem dX11_init_52 : decode cX11_init 52 = .ok (.dup, 1) := by decide +kernel
theorem dX11_init_53 : decode cX11_init 53 = .ok (.invokespecial 39, 3) := by decide +kernel
theorem dX11_init_56 : decode cX11_init 56 = .ok (.putfield 40, 3) := by decide +kernel
theorem dX11_init_59 : decode cX11_init 59 = .ok (.aload_n 0, 1) := by decide +kernel
theorem dX11_init_60 : decode cX11_init 60 = .ok (.new 44, 3) := by decide +kernel
theorem dX11_init_63 : decode cX11_init 63 = .ok (.dup, 1) := by decide +kernel
theorem dX11_init_64 : decode cX11_init 64 = .ok (.invokespecial 46, 3) := by decide +kernel
theorem dX11_init_67 : decode cX11_init 67 = .ok (.putfield 47, 3) := by decide +kernel
theorem dX11_init_70 : decode cX11_init 70 = .ok (.aload_n 0, 1) := by decide +kernel
theorem dX11_init_71 : decode cX11_init 71 = .ok (.new 51, 3) := by decide +kernel
theorem dX11_init_74 : decode cX11_init 74 = .ok (.dup, 1) := by decide +kernel
theorem dX11_init_75 : decode cX11_init 75 = .ok (.invokespecial 53, 3) := by decide +kernel
theorem dX11_init_78 : decode cX11_init 78 = .ok (.putfield 54, 3) := by decide +kernel
theorem dX11_init_81 : decode cX11_init 81 = .ok (.aload_n 0, 1) := by decide +kernel
theorem dX11_init_82 : decode cX11_init 82 = .ok (.new 58, 3) := by decide +kernel
theorem dX11_init_85 : decode cX11_init 85 = .ok (.dup, 1) := by decide +kernel
theorem dX11_init_86 : decode cX11_init 86 = .ok (.invokespecial 60, 3) := by decide +kernel
theorem dX11_init_89 : decode cX11_init 89 = .ok (.putfield 61, 3) := by decide +kernel
theorem dX11_init_92 : decode cX11_init 92 = .ok (.return_, 1) := by decide +kernel
theorem dX11_sign_0 : decode cX11_sign 0 = .ok (.iload_n 1, 1) := by decide +kernel
theorem dX11_sign_1 : decode cX11_sign 1 = .ok (.invokestatic 65, 3) := by decide +kernel
theorem dX11_sign_4 : decode cX11_sign 4 = .ok (.ifCond .ne 5, 3) := by decide +kernel
theorem dX11_sign_7 : decode cX11_sign 7 = .ok (.iconst (-1), 1) := by decide +kernel
theorem dX11_sign_8 : decode cX11_sign 8 = .ok (.ireturn, 1) := by decide +kernel
theorem dX11_sign_9 : decode cX11_sign 9 = .ok (.aload_n 0, 1) := by decide +kernel
theorem dX11_sign_10 : decode cX11_sign 10 = .ok (.getfield 10, 3) := by decide +kernel
theorem dX11_sign_13 : decode cX11_sign 13 = .ok (.getfield 69, 3) := by decide +kernel
theorem dX11_sign_16 : decode cX11_sign 16 = .ok (.sipush 400, 3) := by decide +kernel
theorem dX11_sign_19 : decode cX11_sign 19 = .ok (.if_icmp .lt 6, 3) := by decide +kernel
theorem dX11_sign_22 : decode cX11_sign 22 = .ok (.bipush (-3), 2) := by decide +kernel
theorem dX11_sign_24 : decode cX11_sign 24 = .ok (.ireturn, 1) := by decide +kernel
theorem dX11_sign_25 : decode cX11_sign 25 = .ok (.aload_n 0, 1) := by decide +kernel
theorem dX11_sign_26 : decode cX11_sign 26 = .ok (.getfield 10, 3) := by decide +kernel
theorem dX11_sign_29 : decode cX11_sign 29 = .ok (.iload_n 1, 1) := by decide +kernel
theorem dX11_sign_30 : decode cX11_sign 30 = .ok (.invokevirtual 73, 3) := by decide +kernel
theorem dX11_sign_33 : decode cX11_sign 33 = .ok (.aload_n 0, 1) := by decide +kernel
theorem dX11_sign_34 : decode cX11_sign 34 = .ok (.getfield 10, 3) := by decide +kernel
theorem dX11_sign_37 : decode cX11_sign 37 = .ok (.getfield 69, 3) := by decide +kernel
theorem dX11_sign_40 : decode cX11_sign 40 = .ok (.ireturn, 1) := by decide +kernel
theorem dX11_wipe_0 : decode cX11_wipe 0 = .ok (.aload_n 0, 1) := by decide +kernel
theorem dX11_wipe_1 : decode cX11_wipe 1 = .ok (.getfield 10, 3) := by decide +kernel
theorem dX11_wipe_4 : decode cX11_wipe 4 = .ok (.getfield 69, 3) := by decide +kernel
theorem dX11_wipe_7 : decode cX11_wipe 7 = .ok (.istore_n 1, 1) := by decide +kernel
theorem dX11_wipe_8 : decode cX11_wipe 8 = .ok (.aload_n 0, 1) := by decide +kernel
theorem dX11_wipe_9 : decode cX11_wipe 9 = .ok (.getfield 10, 3) := by decide +kernel
theorem dX11_wipe_12 : decode cX11_wipe 12 = .ok (.invokevirtual 77, 3) := by decide +kernel
theorem dX11_wipe_15 : decode cX11_wipe 15 = .ok (.iload_n 1, 1) := by decide +kernel
theorem dX11_wipe_16 : decode cX11_wipe 16 = .ok (.ireturn, 1) := by decide +kernel
theorem dX11_order_0 : decode cX11_order 0 = .ok (.iload_n 1, 1) := by decide +kernel
theorem dX11_order_1 : decode cX11_order 1 = .ok (.iconst 0, 1) := by decide +kernel
theorem dX11_order_2 : decode cX11_order 2 = .ok (.iconst 3, 1) := by decide +kernel
theorem dX11_order_3 : decode cX11_order 3 = .ok (.invokestatic 80, 3) := by decide +kernel
theorem dX11_order_6 : decode cX11_order 6 = .ok (.ifCond .ne 5, 3) := by decide +kernel
theorem dX11_order_9 : decode cX11_order 9 = .ok (.iconst (-1), 1) := by decide +kernel
theorem dX11_order_10 : decode cX11_order 10 = .ok (.ireturn, 1) := by decide +kernel
theorem dX11_order_11 : decode cX11_order 11 = .ok (.aload_n 0, 1) := by decide +kernel
theorem dX11_order_12 : decode cX11_order 12 = .ok (.getfield 26, 3) := by decide +kernel
theorem dX11_order_15 : decode cX11_order 15 = .ok (.iload_n 1, 1) := by decide +kernel
theorem dX11_order_16 : decode cX11_order 16 = .ok (.invokevirtual 84, 3) := by decide +kernel
theorem dX11_order_19 : decode cX11_order 19 = .ok (.aload_n 0, 1) := by decide +kernel
theorem dX11_order_20 : decode cX11_order 20 = .ok (.getfield 26, 3) := by decide +kernel
theorem dX11_order_23 : decode cX11_order 23 = .ok (.aload_n 0, 1) := by decide +kernel
theorem dX11_order_24 : decode cX11_order 24 = .ok (.getfield 10, 3) := by decide +kernel
theorem dX11_order_27 : decode cX11_order 27 = .ok (.invokevirtual 87, 3) := by decide +kernel
theorem dX11_order_30 : decode cX11_order 30 = .ok (.aload_n 0, 1) := by decide +kernel
theorem dX11_order_31 : decode cX11_order 31 = .ok (.getfield 26, 3) := by decide +kernel
theorem dX11_order_34 : decode cX11_order 34 = .ok (.getfield 91, 3) := by decide +kernel
theorem dX11_order_37 : decode cX11_order 37 = .ok (.ireturn, 1) := by decide +kernel
theorem dX11_context_0 : decode cX11_context 0 = .ok (.aload_n 0, 1) := by decide +kernel
theorem dX11_context_1 : decode cX11_context 1 = .ok (.getfield 26, 3) := by decide +kernel
theorem dX11_context_4 : decode cX11_context 4 = .ok (.aload_n 0, 1) := by decide +kernel
theorem dX11_context_5 : decode cX11_context 5 = .ok (.getfield 10, 3) := by decide +kernel
theorem dX11_context_8 : decode cX11_context 8 = .ok (.invokevirtual 87, 3) := by decide +kernel
theorem dX11_context_11 : decode cX11_context 11 = .ok (.iload_n 1, 1) := by decide +kernel
theorem dX11_context_12 : decode cX11_context 12 = .ok (.iconst 0, 1) := by decide +kernel
theorem dX11_context_13 : decode cX11_context 13 = .ok (.aload_n 0, 1) := by decide +kernel
theorem dX11_context_14 : decode cX11_context 14 = .ok (.getfield 26, 3) := by decide +kernel
theorem dX11_context_17 : decode cX11_context 17 = .ok (.getfield 91, 3) := by decide +kernel
theorem dX11_context_20 : decode cX11_context 20 = .ok (.iconst 1, 1) := by decide +kernel
theorem dX11_context_21 : decode cX11_context 21 = .ok (.isub, 1) := by decide +kernel
theorem dX11_context_22 : decode cX11_context 22 = .ok (.invokestatic 80, 3) := by decide +kernel
theorem dX11_context_25 : decode cX11_context 25 = .ok (.ifCond .eq 20, 3) := by decide +kernel
theorem dX11_context_28 : decode cX11_context 28 = .ok (.iload_n 2, 1) := by decide +kernel
theorem dX11_context_29 : decode cX11_context 29 = .ok (.iconst 0, 1) := by decide +kernel
theorem dX11_context_30 : decode cX11_context 30 = .ok (.aload_n 0, 1) := by decide +kernel
theorem dX11_context_31 : decode cX11_context 31 = .ok (.getfield 26, 3) := by decide +kernel
theorem dX11_context_34 : decode cX11_context 34 = .ok (.getfield 94, 3) := by decide +kernel
theorem dX11_context_37 : decode cX11_context 37 = .ok (.iconst 1, 1) := by decide +kernel
theorem dX11_context_38 : decode cX11_context 38 = .ok (.isub, 1) := by decide +kernel
theorem dX11_context_39 : decode cX11_context 39 = .ok (.invokestatic 80, 3) := by decide +kernel
theorem dX11_context_42 : decode cX11_context 42 = .ok (.ifCond .ne 5, 3) := by decide +kernel
theorem dX11_context_45 : decode cX11_context 45 = .ok (.iconst (-1), 1) := by decide +kernel
theorem dX11_context_46 : decode cX11_context 46 = .ok (.ireturn, 1) := by decide +kernel
theorem dX11_context_47 : decode cX11_context 47 = .ok (.aload_n 0, 1) := by decide +kernel
theorem dX11_context_48 : decode cX11_context 48 = .ok (.getfield 26, 3) := by decide +kernel
theorem dX11_context_51 : decode cX11_context 51 = .ok (.iload_n 1, 1) := by decide +kernel
theorem dX11_context_52 : decode cX11_context 52 = .ok (.iload_n 2, 1) := by decide +kernel
theorem dX11_context_53 : decode cX11_context 53 = .ok (.invokevirtual 97, 3) := by decide +kernel
theorem dX11_context_56 : decode cX11_context 56 = .ok (.ireturn, 1) := by decide +kernel
theorem dX11_count_0 : decode cX11_count 0 = .ok (.aload_n 0, 1) := by decide +kernel
theorem dX11_count_1 : decode cX11_count 1 = .ok (.getfield 26, 3) := by decide +kernel
theorem dX11_count_4 : decode cX11_count 4 = .ok (.aload_n 0, 1) := by decide +kernel
theorem dX11_count_5 : decode cX11_count 5 = .ok (.getfield 10, 3) := by decide +kernel
theorem dX11_count_8 : decode cX11_count 8 = .ok (.invokevirtual 87, 3) := by decide +kernel
theorem dX11_count_11 : decode cX11_count 11 = .ok (.iload_n 1, 1) := by decide +kernel
theorem dX11_count_12 : decode cX11_count 12 = .ok (.iconst 0, 1) := by decide +kernel
theorem dX11_count_13 : decode cX11_count 13 = .ok (.aload_n 0, 1) := by decide +kernel
theorem dX11_count_14 : decode cX11_count 14 = .ok (.getfield 26, 3) := by decide +kernel
theorem dX11_count_17 : decode cX11_count 17 = .ok (.getfield 91, 3) := by decide +kernel
theorem dX11_count_20 : decode cX11_count 20 = .ok (.iconst 1, 1) := by decide +kernel
theorem dX11_count_21 : decode cX11_count 21 = .ok (.isub, 1) := by decide +kernel
theorem dX11_count_22 : decode cX11_count 22 = .ok (.invokestatic 80, 3) := by decide +kernel
theorem dX11_count_25 : decode cX11_count 25 = .ok (.ifCond .eq 13, 3) := by decide +kernel
theorem dX11_count_28 : decode cX11_count 28 = .ok (.iload_n 2, 1) := by decide +kernel
theorem dX11_count_29 : decode cX11_count 29 = .ok (.iconst (-1), 1) := by decide +kernel
theorem dX11_count_30 : decode cX11_count 30 = .ok (.bipush 15, 2) := by decide +kernel
theorem dX11_count_32 : decode cX11_count 32 = .ok (.invokestatic 80, 3) := by decide +kernel
theorem dX11_count_35 : decode cX11_count 35 = .ok (.ifCond .ne 5, 3) := by decide +kernel
theorem dX11_count_38 : decode cX11_count 38 = .ok (.iconst (-1), 1) := by decide +kernel
theorem dX11_count_39 : decode cX11_count 39 = .ok (.ireturn, 1) := by decide +kernel
theorem dX11_count_40 : decode cX11_count 40 = .ok (.iload_n 2, 1) := by decide +kernel
theorem dX11_count_41 : decode cX11_count 41 = .ok (.iconst (-1), 1) := by decide +kernel
theorem dX11_count_42 : decode cX11_count 42 = .ok (.if_icmp .ne 15, 3) := by decide +kernel
theorem dX11_count_45 : decode cX11_count 45 = .ok (.aload_n 0, 1) := by decide +kernel
theorem dX11_count_46 : decode cX11_count 46 = .ok (.getfield 26, 3) := by decide +kernel
theorem dX11_count_49 : decode cX11_count 49 = .ok (.getfield 101, 3) := by decide +kernel
theorem dX11_count_52 : decode cX11_count 52 = .ok (.iload_n 1, 1) := by decide +kernel
theorem dX11_count_53 : decode cX11_count 53 = .ok (.iaload, 1) := by decide +kernel
theorem dX11_count_54 : decode cX11_count 54 = .ok (.goto 12, 3) := by decide +kernel
theorem dX11_count_57 : decode cX11_count 57 = .ok (.aload_n 0, 1) := by decide +kernel
theorem dX11_count_58 : decode cX11_count 58 = .ok (.getfield 26, 3) := by decide +kernel
theorem dX11_count_61 : decode cX11_count 61 = .ok (.iload_n 1, 1) := by decide +kernel
theorem dX11_count_62 : decode cX11_count 62 = .ok (.iload_n 2, 1) := by decide +kernel
theorem dX11_count_63 : decode cX11_count 63 = .ok (.invokevirtual 105, 3) := by decide +kernel
theorem dX11_count_66 : decode cX11_count 66 = .ok (.ireturn, 1) := by decide +kernel
theorem dX11_log_0 : decode cX11_log 0 = .ok (.iload_n 1, 1) := by decide +kernel
theorem dX11_log_1 : decode cX11_log 1 = .ok (.iconst 1, 1) := by decide +kernel
theorem dX11_log_2 : decode cX11_log 2 = .ok (.ldc 108, 2) := by decide +kernel
theorem dX11_log_4 : decode cX11_log 4 = .ok (.invokestatic 80, 3) := by decide +kernel
theorem dX11_log_7 : decode cX11_log 7 = .ok (.ifCond .eq 20, 3) := by decide +kernel
theorem dX11_log_10 : decode cX11_log 10 = .ok (.iload_n 2, 1) := by decide +kernel
theorem dX11_log_11 : decode cX11_log 11 = .ok (.iconst 0, 1) := by decide +kernel
theorem dX11_log_12 : decode cX11_log 12 = .ok (.bipush 24, 2) := by decide +kernel
theorem dX11_log_14 : decode cX11_log 14 = .ok (.invokestatic 80, 3) := by decide +kernel
theorem dX11_log_17 : decode cX11_log 17 = .ok (.ifCond .eq 10, 3) := by decide +kernel
theorem dX11_log_20 : decode cX11_log 20 = .ok (.iload_n 3, 1) := by decide +kernel
theorem dX11_log_21 : decode cX11_log 21 = .ok (.invokestatic 109, 3) := by decide +kernel
theorem dX11_log_24 : decode cX11_log 24 = .ok (.ifCond .ne 7, 3) := by decide +kernel
theorem dX11_log_27 : decode cX11_log 27 = .ok (.ldc2_w 112, 3) := by decide +kernel
theorem dX11_log_30 : decode cX11_log 30 = .ok (.lreturn, 1) := by decide +kernel
theorem dX11_log_31 : decode cX11_log 31 = .ok (.aload_n 0, 1) := by decide +kernel
theorem dX11_log_32 : decode cX11_log 32 = .ok (.getfield 33, 3) := by decide +kernel
theorem dX11_log_35 : decode cX11_log 35 = .ok (.getfield 114, 3) := by decide +kernel
theorem dX11_log_38 : decode cX11_log 38 = .ok (.iload_n 1, 1) := by decide +kernel
theorem dX11_log_39 : decode cX11_log 39 = .ok (.iload_n 2, 1) := by decide +kernel
theorem dX11_log_40 : decode cX11_log 40 = .ok (.iload_n 3, 1) := by decide +kernel
theorem dX11_log_41 : decode cX11_log 41 = .ok (.invokevirtual 118, 3) := by decide +kernel
theorem dX11_log_44 : decode cX11_log 44 = .ok (.lreturn, 1) := by decide +kernel
theorem dX11_weight_0 : decode cX11_weight 0 = .ok (.iload_n 1, 1) := by decide +kernel
theorem dX11_weight_1 : decode cX11_weight 1 = .ok (.invokestatic 65, 3) := by decide +kernel
theorem dX11_weight_4 : decode cX11_weight 4 = .ok (.ifCond .eq 14, 3) := by decide +kernel
theorem dX11_weight_7 : decode cX11_weight 7 = .ok (.iload_n 2, 1) := by decide +kernel
theorem dX11_weight_8 : decode cX11_weight 8 = .ok (.iconst 0, 1) := by decide +kernel
theorem dX11_weight_9 : decode cX11_weight 9 = .ok (.sipush 1000, 3) := by decide +kernel
theorem dX11_weight_12 : decode cX11_weight 12 = .ok (.invokestatic 80, 3) := by decide +kernel
theorem dX11_weight_15 : decode cX11_weight 15 = .ok (.ifCond .ne 5, 3) := by decide +kernel
theorem dX11_weight_18 : decode cX11_weight 18 = .ok (.iconst (-1), 1) := by decide +kernel
theorem dX11_weight_19 : decode cX11_weight 19 = .ok (.ireturn, 1) := by decide +kernel
theorem dX11_weight_20 : decode cX11_weight 20 = .ok (.aload_n 0, 1) := by decide +kernel
theorem dX11_weight_21 : decode cX11_weight 21 = .ok (.getfield 19, 3) := by decide +kernel
theorem dX11_weight_24 : decode cX11_weight 24 = .ok (.iload_n 1, 1) := by decide +kernel
theorem dX11_weight_25 : decode cX11_weight 25 = .ok (.iload_n 2, 1) := by decide +kernel
theorem dX11_weight_26 : decode cX11_weight 26 = .ok (.invokevirtual 124, 3) := by decide +kernel
theorem dX11_weight_29 : decode cX11_weight 29 = .ok (.ireturn, 1) := by decide +kernel
theorem dX11_share_0 : decode cX11_share 0 = .ok (.iload_n 1, 1) := by decide +kernel
theorem dX11_share_1 : decode cX11_share 1 = .ok (.invokestatic 65, 3) := by decide +kernel
theorem dX11_share_4 : decode cX11_share 4 = .ok (.ifCond .ne 13, 3) := by decide +kernel
theorem dX11_share_7 : decode cX11_share 7 = .ok (.new 127, 3) := by decide +kernel
theorem dX11_share_10 : decode cX11_share 10 = .ok (.dup, 1) := by decide +kernel
theorem dX11_share_11 : decode cX11_share 11 = .ok (.ldc 129, 2) := by decide +kernel
theorem dX11_share_13 : decode cX11_share 13 = .ok (.invokespecial 131, 3) := by decide +kernel
theorem dX11_share_16 : decode cX11_share 16 = .ok (.athrow, 1) := by decide +kernel
theorem dX11_share_17 : decode cX11_share 17 = .ok (.aload_n 0, 1) := by decide +kernel
theorem dX11_share_18 : decode cX11_share 18 = .ok (.getfield 19, 3) := by decide +kernel
theorem dX11_share_21 : decode cX11_share 21 = .ok (.getfield 134, 3) := by decide +kernel
theorem dX11_share_24 : decode cX11_share 24 = .ok (.ifCond .ne 13, 3) := by decide +kernel
theorem dX11_share_27 : decode cX11_share 27 = .ok (.new 137, 3) := by decide +kernel
theorem dX11_share_30 : decode cX11_share 30 = .ok (.dup, 1) := by decide +kernel
theorem dX11_share_31 : decode cX11_share 31 = .ok (.ldc 139, 2) := by decide +kernel
theorem dX11_share_33 : decode cX11_share 33 = .ok (.invokespecial 141, 3) := by decide +kernel
theorem dX11_share_36 : decode cX11_share 36 = .ok (.athrow, 1) := by decide +kernel
theorem dX11_share_37 : decode cX11_share 37 = .ok (.aload_n 0, 1) := by decide +kernel
theorem dX11_share_38 : decode cX11_share 38 = .ok (.getfield 19, 3) := by decide +kernel
theorem dX11_share_41 : decode cX11_share 41 = .ok (.getfield 142, 3) := by decide +kernel
theorem dX11_share_44 : decode cX11_share 44 = .ok (.iload_n 1, 1) := by decide +kernel
theorem dX11_share_45 : decode cX11_share 45 = .ok (.iaload, 1) := by decide +kernel
theorem dX11_share_46 : decode cX11_share 46 = .ok (.i2l, 1) := by decide +kernel
theorem dX11_share_47 : decode cX11_share 47 = .ok (.ldc2_w 145, 3) := by decide +kernel
theorem dX11_share_50 : decode cX11_share 50 = .ok (.lmul, 1) := by decide +kernel
theorem dX11_share_51 : decode cX11_share 51 = .ok (.aload_n 0, 1) := by decide +kernel
theorem dX11_share_52 : decode cX11_share 52 = .ok (.getfield 19, 3) := by decide +kernel
theorem dX11_share_55 : decode cX11_share 55 = .ok (.getfield 134, 3) := by decide +kernel
theorem dX11_share_58 : decode cX11_share 58 = .ok (.i2l, 1) := by decide +kernel
theorem dX11_share_59 : decode cX11_share 59 = .ok (.ldiv, 1) := by decide +kernel
theorem dX11_share_60 : decode cX11_share 60 = .ok (.lreturn, 1) := by decide +kernel
theorem dX11_cost_0 : decode cX11_cost 0 = .ok (.iload_n 1, 1) := by decide +kernel
theorem dX11_cost_1 : decode cX11_cost 1 = .ok (.invokestatic 147, 3) := by decide +kernel
theorem dX11_cost_4 : decode cX11_cost 4 = .ok (.ifCond .eq 20, 3) := by decide +kernel
theorem dX11_cost_7 : decode cX11_cost 7 = .ok (.iload_n 2, 1) := by decide +kernel
theorem dX11_cost_8 : decode cX11_cost 8 = .ok (.iconst 0, 1) := by decide +kernel
theorem dX11_cost_9 : decode cX11_cost 9 = .ok (.bipush 24, 2) := by decide +kernel
theorem dX11_cost_11 : decode cX11_cost 11 = .ok (.invokestatic 80, 3) := by decide +kernel
theorem dX11_cost_14 : decode cX11_cost 14 = .ok (.ifCond .eq 10, 3) := by decide +kernel
theorem dX11_cost_17 : decode cX11_cost 17 = .ok (.iload_n 3, 1) := by decide +kernel
theorem dX11_cost_18 : decode cX11_cost 18 = .ok (.invokestatic 109, 3) := by decide +kernel
theorem dX11_cost_21 : decode cX11_cost 21 = .ok (.ifCond .ne 7, 3) := by decide +kernel
theorem dX11_cost_24 : decode cX11_cost 24 = .ok (.ldc2_w 112, 3) := by decide +kernel
theorem dX11_cost_27 : decode cX11_cost 27 = .ok (.lreturn, 1) := by decide +kernel
theorem dX11_cost_28 : decode cX11_cost 28 = .ok (.iload_n 1, 1) := by decide +kernel
theorem dX11_cost_29 : decode cX11_cost 29 = .ok (.iconst 1, 1) := by decide +kernel
theorem dX11_cost_30 : decode cX11_cost 30 = .ok (.if_icmp .ne 21, 3) := by decide +kernel
theorem dX11_cost_33 : decode cX11_cost 33 = .ok (.aload_n 0, 1) := by decide +kernel
theorem dX11_cost_34 : decode cX11_cost 34 = .ok (.getfield 19, 3) := by decide +kernel
theorem dX11_cost_37 : decode cX11_cost 37 = .ok (.aload_n 0, 1) := by decide +kernel
theorem dX11_cost_38 : decode cX11_cost 38 = .ok (.getfield 10, 3) := by decide +kernel
theorem dX11_cost_41 : decode cX11_cost 41 = .ok (.invokevirtual 150, 3) := by decide +kernel
theorem dX11_cost_44 : decode cX11_cost 44 = .ok (.ifCond .ne 7, 3) := by decide +kernel
theorem dX11_cost_47 : decode cX11_cost 47 = .ok (.ldc2_w 154, 3) := by decide +kernel
theorem dX11_cost_50 : decode cX11_cost 50 = .ok (.lreturn, 1) := by decide +kernel
theorem dX11_cost_51 : decode cX11_cost 51 = .ok (.aload_n 0, 1) := by decide +kernel
theorem dX11_cost_52 : decode cX11_cost 52 = .ok (.iload_n 1, 1) := by decide +kernel
theorem dX11_cost_53 : decode cX11_cost 53 = .ok (.iload_n 2, 1) := by decide +kernel
theorem dX11_cost_54 : decode cX11_cost 54 = .ok (.iload_n 3, 1) := by decide +kernel
theorem dX11_cost_55 : decode cX11_cost 55 = .ok (.invokevirtual 156, 3) := by decide +kernel
theorem dX11_cost_58 : decode cX11_cost 58 = .ok (.lreturn, 1) := by decide +kernel
theorem dX11_digits_0 : decode cX11_digits 0 = .ok (.iload_n 1, 1) := by decide +kernel
theorem dX11_digits_1 : decode cX11_digits 1 = .ok (.invokestatic 147, 3) := by decide +kernel
theorem dX11_digits_4 : decode cX11_digits 4 = .ok (.ifCond .eq 13, 3) := by decide +kernel
theorem dX11_digits_7 : decode cX11_digits 7 = .ok (.iload_n 2, 1) := by decide +kernel
theorem dX11_digits_8 : decode cX11_digits 8 = .ok (.iconst 0, 1) := by decide +kernel
theorem dX11_digits_9 : decode cX11_digits 9 = .ok (.ldc 159, 2) := by decide +kernel
theorem dX11_digits_11 : decode cX11_digits 11 = .ok (.invokestatic 80, 3) := by decide +kernel
theorem dX11_digits_14 : decode cX11_digits 14 = .ok (.ifCond .ne 5, 3) := by decide +kernel
theorem dX11_digits_17 : decode cX11_digits 17 = .ok (.iconst (-1), 1) := by decide +kernel
theorem dX11_digits_18 : decode cX11_digits 18 = .ok (.ireturn, 1) := by decide +kernel
theorem dX11_digits_19 : decode cX11_digits 19 = .ok (.iload_n 1, 1) := by decide +kernel
theorem dX11_digits_20 : decode cX11_digits 20 = .ok (.iconst 1, 1) := by decide +kernel
theorem dX11_digits_21 : decode cX11_digits 21 = .ok (.if_icmp .ne 20, 3) := by decide +kernel
theorem dX11_digits_24 : decode cX11_digits 24 = .ok (.aload_n 0, 1) := by decide +kernel
theorem dX11_digits_25 : decode cX11_digits 25 = .ok (.getfield 19, 3) := by decide +kernel
theorem dX11_digits_28 : decode cX11_digits 28 = .ok (.aload_n 0, 1) := by decide +kernel
theorem dX11_digits_29 : decode cX11_digits 29 = .ok (.getfield 10, 3) := by decide +kernel
theorem dX11_digits_32 : decode cX11_digits 32 = .ok (.invokevirtual 150, 3) := by decide +kernel
theorem dX11_digits_35 : decode cX11_digits 35 = .ok (.ifCond .ne 6, 3) := by decide +kernel
theorem dX11_digits_38 : decode cX11_digits 38 = .ok (.bipush (-2), 2) := by decide +kernel
theorem dX11_digits_40 : decode cX11_digits 40 = .ok (.ireturn, 1) := by decide +kernel
theorem dX11_digits_41 : decode cX11_digits 41 = .ok (.iconst 0, 1) := by decide +kernel
theorem dX11_digits_42 : decode cX11_digits 42 = .ok (.istore_n 3, 1) := by decide +kernel
theorem dX11_digits_43 : decode cX11_digits 43 = .ok (.iload_n 3, 1) := by decide +kernel
theorem dX11_digits_44 : decode cX11_digits 44 = .ok (.bipush 24, 2) := by decide +kernel
theorem dX11_digits_46 : decode cX11_digits 46 = .ok (.if_icmp .gt 42, 3) := by decide +kernel
theorem dX11_digits_49 : decode cX11_digits 49 = .ok (.aload_n 0, 1) := by decide +kernel
theorem dX11_digits_50 : decode cX11_digits 50 = .ok (.iload_n 1, 1) := by decide +kernel
theorem dX11_digits_51 : decode cX11_digits 51 = .ok (.iload_n 3, 1) := by decide +kernel
theorem dX11_digits_52 : decode cX11_digits 52 = .ok (.iconst 1, 1) := by decide +kernel
theorem dX11_digits_53 : decode cX11_digits 53 = .ok (.invokevirtual 156, 3) := by decide +kernel
theorem dX11_digits_56 : decode cX11_digits 56 = .ok (.aload_n 0, 1) := by decide +kernel
theorem dX11_digits_57 : decode cX11_digits 57 = .ok (.iload_n 1, 1) := by decide +kernel
theorem dX11_digits_58 : decode cX11_digits 58 = .ok (.iload_n 3, 1) := by decide +kernel
theorem dX11_digits_59 : decode cX11_digits 59 = .ok (.iconst 0, 1) := by decide +kernel
theorem dX11_digits_60 : decode cX11_digits 60 = .ok (.invokevirtual 156, 3) := by decide +kernel
theorem dX11_digits_63 : decode cX11_digits 63 = .ok (.lsub, 1) := by decide +kernel
theorem dX11_digits_64 : decode cX11_digits 64 = .ok (.lstore 4, 2) := by decide +kernel
theorem dX11_digits_66 : decode cX11_digits 66 = .ok (.lload 4, 2) := by decide +kernel
theorem dX11_digits_68 : decode cX11_digits 68 = .ok (.ldc2_w 160, 3) := by decide +kernel
theorem dX11_digits_71 : decode cX11_digits 71 = .ok (.lmul, 1) := by decide +kernel
theorem dX11_digits_72 : decode cX11_digits 72 = .ok (.iload_n 2, 1) := by decide +kernel
theorem dX11_digits_73 : decode cX11_digits 73 = .ok (.i2l, 1) := by decide +kernel
theorem dX11_digits_74 : decode cX11_digits 74 = .ok (.iload_n 3, 1) := by decide +kernel
theorem dX11_digits_75 : decode cX11_digits 75 = .ok (.lshl, 1) := by decide +kernel
theorem dX11_digits_76 : decode cX11_digits 76 = .ok (.lcmp, 1) := by decide +kernel
theorem dX11_digits_77 : decode cX11_digits 77 = .ok (.ifCond .gt 5, 3) := by decide +kernel
theorem dX11_digits_80 : decode cX11_digits 80 = .ok (.iload_n 3, 1) := by decide +kernel
theorem dX11_digits_81 : decode cX11_digits 81 = .ok (.ireturn, 1) := by decide +kernel
theorem dX11_digits_82 : decode cX11_digits 82 = .ok (.iinc 3 1, 3) := by decide +kernel
theorem dX11_digits_85 : decode cX11_digits 85 = .ok (.goto (-42), 3) := by decide +kernel
theorem dX11_digits_88 : decode cX11_digits 88 = .ok (.bipush (-2), 2) := by decide +kernel
theorem dX11_digits_90 : decode cX11_digits 90 = .ok (.ireturn, 1) := by decide +kernel
theorem dX11_width_0 : decode cX11_width 0 = .ok (.iload_n 1, 1) := by decide +kernel
theorem dX11_width_1 : decode cX11_width 1 = .ok (.iconst 0, 1) := by decide +kernel
theorem dX11_width_2 : decode cX11_width 2 = .ok (.iconst 1, 1) := by decide +kernel
theorem dX11_width_3 : decode cX11_width 3 = .ok (.invokestatic 80, 3) := by decide +kernel
theorem dX11_width_6 : decode cX11_width 6 = .ok (.ifCond .eq 10, 3) := by decide +kernel
theorem dX11_width_9 : decode cX11_width 9 = .ok (.iload_n 2, 1) := by decide +kernel
theorem dX11_width_10 : decode cX11_width 10 = .ok (.invokestatic 65, 3) := by decide +kernel
theorem dX11_width_13 : decode cX11_width 13 = .ok (.ifCond .ne 5, 3) := by decide +kernel
theorem dX11_width_16 : decode cX11_width 16 = .ok (.iconst (-1), 1) := by decide +kernel
theorem dX11_width_17 : decode cX11_width 17 = .ok (.ireturn, 1) := by decide +kernel
theorem dX11_width_18 : decode cX11_width 18 = .ok (.aload_n 0, 1) := by decide +kernel
theorem dX11_width_19 : decode cX11_width 19 = .ok (.getfield 40, 3) := by decide +kernel
theorem dX11_width_22 : decode cX11_width 22 = .ok (.aload_n 0, 1) := by decide +kernel
theorem dX11_width_23 : decode cX11_width 23 = .ok (.getfield 10, 3) := by decide +kernel
theorem dX11_width_26 : decode cX11_width 26 = .ok (.invokevirtual 162, 3) := by decide +kernel
theorem dX11_width_29 : decode cX11_width 29 = .ok (.aload_n 0, 1) := by decide +kernel
theorem dX11_width_30 : decode cX11_width 30 = .ok (.iload_n 1, 1) := by decide +kernel
theorem dX11_width_31 : decode cX11_width 31 = .ok (.iload_n 2, 1) := by decide +kernel
theorem dX11_width_32 : decode cX11_width 32 = .ok (.invokevirtual 163, 3) := by decide +kernel
theorem dX11_width_35 : decode cX11_width 35 = .ok (.ireturn, 1) := by decide +kernel
theorem dX11_bits_0 : decode cX11_bits 0 = .ok (.iload_n 1, 1) := by decide +kernel
theorem dX11_bits_1 : decode cX11_bits 1 = .ok (.iconst 0, 1) := by decide +kernel
theorem dX11_bits_2 : decode cX11_bits 2 = .ok (.iconst 1, 1) := by decide +kernel
theorem dX11_bits_3 : decode cX11_bits 3 = .ok (.invokestatic 80, 3) := by decide +kernel
theorem dX11_bits_6 : decode cX11_bits 6 = .ok (.ifCond .ne 5, 3) := by decide +kernel
theorem dX11_bits_9 : decode cX11_bits 9 = .ok (.iconst (-1), 1) := by decide +kernel
theorem dX11_bits_10 : decode cX11_bits 10 = .ok (.ireturn, 1) := by decide +kernel
theorem dX11_bits_11 : decode cX11_bits 11 = .ok (.aload_n 0, 1) := by decide +kernel
theorem dX11_bits_12 : decode cX11_bits 12 = .ok (.getfield 40, 3) := by decide +kernel
theorem dX11_bits_15 : decode cX11_bits 15 = .ok (.aload_n 0, 1) := by decide +kernel
theorem dX11_bits_16 : decode cX11_bits 16 = .ok (.getfield 10, 3) := by decide +kernel
theorem dX11_bits_19 : decode cX11_bits 19 = .ok (.invokevirtual 162, 3) := by decide +kernel
theorem dX11_bits_22 : decode cX11_bits 22 = .ok (.iconst 0, 1) := by decide +kernel
theorem dX11_bits_23 : decode cX11_bits 23 = .ok (.istore_n 2, 1) := by decide +kernel
theorem dX11_bits_24 : decode cX11_bits 24 = .ok (.iconst 0, 1) := by decide +kernel
theorem dX11_bits_25 : decode cX11_bits 25 = .ok (.istore_n 3, 1) := by decide +kernel
theorem dX11_bits_26 : decode cX11_bits 26 = .ok (.iload_n 3, 1) := by decide +kernel
theorem dX11_bits_27 : decode cX11_bits 27 = .ok (.bipush 16, 2) := by decide +kernel
theorem dX11_bits_29 : decode cX11_bits 29 = .ok (.if_icmp .ge 28, 3) := by decide +kernel
theorem dX11_bits_32 : decode cX11_bits 32 = .ok (.iload_n 2, 1) := by decide +kernel
theorem dX11_bits_33 : decode cX11_bits 33 = .ok (.aload_n 0, 1) := by decide +kernel
theorem dX11_bits_34 : decode cX11_bits 34 = .ok (.getfield 10, 3) := by decide +kernel
theorem dX11_bits_37 : decode cX11_bits 37 = .ok (.getfield 166, 3) := by decide +kernel
theorem dX11_bits_40 : decode cX11_bits 40 = .ok (.iload_n 3, 1) := by decide +kernel
theorem dX11_bits_41 : decode cX11_bits 41 = .ok (.iaload, 1) := by decide +kernel
theorem dX11_bits_42 : decode cX11_bits 42 = .ok (.aload_n 0, 1) := by decide +kernel
theorem dX11_bits_43 : decode cX11_bits 43 = .ok (.iload_n 1, 1) := by decide +kernel
theorem dX11_bits_44 : decode cX11_bits 44 = .ok (.iload_n 3, 1) := by decide +kernel
theorem dX11_bits_45 : decode cX11_bits 45 = .ok (.invokevirtual 163, 3) := by decide +kernel
theorem dX11_bits_48 : decode cX11_bits 48 = .ok (.imul, 1) := by decide +kernel
theorem dX11_bits_49 : decode cX11_bits 49 = .ok (.iadd, 1) := by decide +kernel
theorem dX11_bits_50 : decode cX11_bits 50 = .ok (.istore_n 2, 1) := by decide +kernel
theorem dX11_bits_51 : decode cX11_bits 51 = .ok (.iinc 3 1, 3) := by decide +kernel
theorem dX11_bits_54 : decode cX11_bits 54 = .ok (.goto (-28), 3) := by decide +kernel
theorem dX11_bits_57 : decode cX11_bits 57 = .ok (.iload_n 2, 1) := by decide +kernel
theorem dX11_bits_58 : decode cX11_bits 58 = .ok (.ireturn, 1) := by decide +kernel
theorem dX11_pieces_0 : decode cX11_pieces 0 = .ok (.iload_n 1, 1) := by decide +kernel
theorem dX11_pieces_1 : decode cX11_pieces 1 = .ok (.iconst 0, 1) := by decide +kernel
theorem dX11_pieces_2 : decode cX11_pieces 2 = .ok (.iconst 1, 1) := by decide +kernel
theorem dX11_pieces_3 : decode cX11_pieces 3 = .ok (.invokestatic 80, 3) := by decide +kernel
theorem dX11_pieces_6 : decode cX11_pieces 6 = .ok (.ifCond .ne 5, 3) := by decide +kernel
theorem dX11_pieces_9 : decode cX11_pieces 9 = .ok (.iconst (-1), 1) := by decide +kernel
theorem dX11_pieces_10 : decode cX11_pieces 10 = .ok (.ireturn, 1) := by decide +kernel
theorem dX11_pieces_11 : decode cX11_pieces 11 = .ok (.aload_n 0, 1) := by decide +kernel
theorem dX11_pieces_12 : decode cX11_pieces 12 = .ok (.iload_n 1, 1) := by decide +kernel
theorem dX11_pieces_13 : decode cX11_pieces 13 = .ok (.invokevirtual 169, 3) := by decide +kernel
theorem dX11_pieces_16 : decode cX11_pieces 16 = .ok (.getfield 173, 3) := by decide +kernel
theorem dX11_pieces_19 : decode cX11_pieces 19 = .ok (.ireturn, 1) := by decide +kernel
theorem dX11_piece_0 : decode cX11_piece 0 = .ok (.iload_n 1, 1) := by decide +kernel
theorem dX11_piece_1 : decode cX11_piece 1 = .ok (.iconst 0, 1) := by decide +kernel
theorem dX11_piece_2 : decode cX11_piece 2 = .ok (.iconst 1, 1) := by decide +kernel
theorem dX11_piece_3 : decode cX11_piece 3 = .ok (.invokestatic 80, 3) := by decide +kernel
theorem dX11_piece_6 : decode cX11_piece 6 = .ok (.ifCond .eq 12, 3) := by decide +kernel
theorem dX11_piece_9 : decode cX11_piece 9 = .ok (.iload_n 3, 1) := by decide +kernel
theorem dX11_piece_10 : decode cX11_piece 10 = .ok (.iconst 0, 1) := by decide +kernel
theorem dX11_piece_11 : decode cX11_piece 11 = .ok (.iconst 2, 1) := by decide +kernel
theorem dX11_piece_12 : decode cX11_piece 12 = .ok (.invokestatic 80, 3) := by decide +kernel
theorem dX11_piece_15 : decode cX11_piece 15 = .ok (.ifCond .ne 5, 3) := by decide +kernel
theorem dX11_piece_18 : decode cX11_piece 18 = .ok (.iconst (-1), 1) := by decide +kernel
theorem dX11_piece_19 : decode cX11_piece 19 = .ok (.ireturn, 1) := by decide +kernel
theorem dX11_piece_20 : decode cX11_piece 20 = .ok (.aload_n 0, 1) := by decide +kernel
theorem dX11_piece_21 : decode cX11_piece 21 = .ok (.iload_n 1, 1) := by decide +kernel
theorem dX11_piece_22 : decode cX11_piece 22 = .ok (.invokevirtual 169, 3) := by decide +kernel
theorem dX11_piece_25 : decode cX11_piece 25 = .ok (.astore 4, 2) := by decide +kernel
theorem dX11_piece_27 : decode cX11_piece 27 = .ok (.iload_n 2, 1) := by decide +kernel
theorem dX11_piece_28 : decode cX11_piece 28 = .ok (.iconst 0, 1) := by decide +kernel
theorem dX11_piece_29 : decode cX11_piece 29 = .ok (.aload 4, 2) := by decide +kernel
theorem dX11_piece_31 : decode cX11_piece 31 = .ok (.getfield 173, 3) := by decide +kernel
theorem dX11_piece_34 : decode cX11_piece 34 = .ok (.iconst 1, 1) := by decide +kernel
theorem dX11_piece_35 : decode cX11_piece 35 = .ok (.isub, 1) := by decide +kernel
theorem dX11_piece_36 : decode cX11_piece 36 = .ok (.invokestatic 80, 3) := by decide +kernel
theorem dX11_piece_39 : decode cX11_piece 39 = .ok (.ifCond .ne 5, 3) := by decide +kernel
theorem dX11_piece_42 : decode cX11_piece 42 = .ok (.iconst (-1), 1) := by decide +kernel
theorem dX11_piece_43 : decode cX11_piece 43 = .ok (.ireturn, 1) := by decide +kernel
theorem dX11_piece_44 : decode cX11_piece 44 = .ok (.iload_n 3, 1) := by decide +kernel
theorem dX11_piece_45 : decode cX11_piece 45 = .ok (.ifCond .ne 11, 3) := by decide +kernel
theorem dX11_piece_48 : decode cX11_piece 48 = .ok (.aload 4, 2) := by decide +kernel
theorem dX11_piece_50 : decode cX11_piece 50 = .ok (.getfield 178, 3) := by decide +kernel
theorem dX11_piece_53 : decode cX11_piece 53 = .ok (.iload_n 2, 1) := by decide +kernel
theorem dX11_piece_54 : decode cX11_piece 54 = .ok (.iaload, 1) := by decide +kernel
theorem dX11_piece_55 : decode cX11_piece 55 = .ok (.ireturn, 1) := by decide +kernel
theorem dX11_piece_56 : decode cX11_piece 56 = .ok (.iload_n 3, 1) := by decide +kernel
theorem dX11_piece_57 : decode cX11_piece 57 = .ok (.iconst 1, 1) := by decide +kernel
theorem dX11_piece_58 : decode cX11_piece 58 = .ok (.if_icmp .ne 13, 3) := by decide +kernel
theorem dX11_piece_61 : decode cX11_piece 61 = .ok (.aload 4, 2) := by decide +kernel
theorem dX11_piece_63 : decode cX11_piece 63 = .ok (.getfield 181, 3) := by decide +kernel
theorem dX11_piece_66 : decode cX11_piece 66 = .ok (.iload_n 2, 1) := by decide +kernel
theorem dX11_piece_67 : decode cX11_piece 67 = .ok (.iaload, 1) := by decide +kernel
theorem dX11_piece_68 : decode cX11_piece 68 = .ok (.goto 10, 3) := by decide +kernel
theorem dX11_piece_71 : decode cX11_piece 71 = .ok (.aload 4, 2) := by decide +kernel
theorem dX11_piece_73 : decode cX11_piece 73 = .ok (.getfield 184, 3) := by decide +kernel
theorem dX11_piece_76 : decode cX11_piece 76 = .ok (.iload_n 2, 1) := by decide +kernel
theorem dX11_piece_77 : decode cX11_piece 77 = .ok (.iaload, 1) := by decide +kernel
theorem dX11_piece_78 : decode cX11_piece 78 = .ok (.ireturn, 1) := by decide +kernel
theorem dX11_grammar_0 : decode cX11_grammar 0 = .ok (.iload_n 1, 1) := by decide +kernel
theorem dX11_grammar_1 : decode cX11_grammar 1 = .ok (.iconst 0, 1) := by decide +kernel
theorem dX11_grammar_2 : decode cX11_grammar 2 = .ok (.iconst 2, 1) := by decide +kernel
theorem dX11_grammar_3 : decode cX11_grammar 3 = .ok (.invokestatic 80, 3) := by decide +kernel
theorem dX11_grammar_6 : decode cX11_grammar 6 = .ok (.ifCond .ne 5, 3) := by decide +kernel
theorem dX11_grammar_9 : decode cX11_grammar 9 = .ok (.iconst (-1), 1) := by decide +kernel
theorem dX11_grammar_10 : decode cX11_grammar 10 = .ok (.ireturn, 1) := by decide +kernel
theorem dX11_grammar_11 : decode cX11_grammar 11 = .ok (.aload_n 0, 1) := by decide +kernel
theorem dX11_grammar_12 : decode cX11_grammar 12 = .ok (.getfield 61, 3) := by decide +kernel
theorem dX11_grammar_15 : decode cX11_grammar 15 = .ok (.aload_n 0, 1) := by decide +kernel
theorem dX11_grammar_16 : decode cX11_grammar 16 = .ok (.getfield 10, 3) := by decide +kernel
theorem dX11_grammar_19 : decode cX11_grammar 19 = .ok (.invokevirtual 187, 3) := by decide +kernel
theorem dX11_grammar_22 : decode cX11_grammar 22 = .ok (.iload_n 1, 1) := by decide +kernel
theorem dX11_grammar_23 : decode cX11_grammar 23 = .ok (.ifCond .ne 21, 3) := by decide +kernel
theorem dX11_grammar_26 : decode cX11_grammar 26 = .ok (.aload_n 0, 1) := by decide +kernel
theorem dX11_grammar_27 : decode cX11_grammar 27 = .ok (.getfield 61, 3) := by decide +kernel
theorem dX11_grammar_30 : decode cX11_grammar 30 = .ok (.getfield 188, 3) := by decide +kernel
theorem dX11_grammar_33 : decode cX11_grammar 33 = .ok (.iconst 2, 1) := by decide +kernel
theorem dX11_grammar_34 : decode cX11_grammar 34 = .ok (.aload_n 0, 1) := by decide +kernel
theorem dX11_grammar_35 : decode cX11_grammar 35 = .ok (.getfield 61, 3) := by decide +kernel
theorem dX11_grammar_38 : decode cX11_grammar 38 = .ok (.getfield 191, 3) := by decide +kernel
theorem dX11_grammar_41 : decode cX11_grammar 41 = .ok (.imul, 1) := by decide +kernel
theorem dX11_grammar_42 : decode cX11_grammar 42 = .ok (.iadd, 1) := by decide +kernel
theorem dX11_grammar_43 : decode cX11_grammar 43 = .ok (.ireturn, 1) := by decide +kernel
theorem dX11_grammar_44 : decode cX11_grammar 44 = .ok (.iload_n 1, 1) := by decide +kernel
theorem dX11_grammar_45 : decode cX11_grammar 45 = .ok (.iconst 1, 1) := by decide +kernel
theorem dX11_grammar_46 : decode cX11_grammar 46 = .ok (.if_icmp .ne 13, 3) := by decide +kernel
theorem dX11_grammar_49 : decode cX11_grammar 49 = .ok (.aload_n 0, 1) := by decide +kernel
theorem dX11_grammar_50 : decode cX11_grammar 50 = .ok (.getfield 61, 3) := by decide +kernel
theorem dX11_grammar_53 : decode cX11_grammar 53 = .ok (.getfield 191, 3) := by decide +kernel
theorem dX11_grammar_56 : decode cX11_grammar 56 = .ok (.goto 10, 3) := by decide +kernel
theorem dX11_grammar_59 : decode cX11_grammar 59 = .ok (.aload_n 0, 1) := by decide +kernel
theorem dX11_grammar_60 : decode cX11_grammar 60 = .ok (.getfield 61, 3) := by decide +kernel
theorem dX11_grammar_63 : decode cX11_grammar 63 = .ok (.getfield 188, 3) := by decide +kernel
theorem dX11_grammar_66 : decode cX11_grammar 66 = .ok (.ireturn, 1) := by decide +kernel
theorem dX11_rule_0 : decode cX11_rule 0 = .ok (.aload_n 0, 1) := by decide +kernel
theorem dX11_rule_1 : decode cX11_rule 1 = .ok (.getfield 61, 3) := by decide +kernel
theorem dX11_rule_4 : decode cX11_rule 4 = .ok (.aload_n 0, 1) := by decide +kernel
theorem dX11_rule_5 : decode cX11_rule 5 = .ok (.getfield 10, 3) := by decide +kernel
theorem dX11_rule_8 : decode cX11_rule 8 = .ok (.invokevirtual 187, 3) := by decide +kernel
theorem dX11_rule_11 : decode cX11_rule 11 = .ok (.iload_n 1, 1) := by decide +kernel
theorem dX11_rule_12 : decode cX11_rule 12 = .ok (.bipush 16, 2) := by decide +kernel
theorem dX11_rule_14 : decode cX11_rule 14 = .ok (.bipush 16, 2) := by decide +kernel
theorem dX11_rule_16 : decode cX11_rule 16 = .ok (.aload_n 0, 1) := by decide +kernel
theorem dX11_rule_17 : decode cX11_rule 17 = .ok (.getfield 61, 3) := by decide +kernel
theorem dX11_rule_20 : decode cX11_rule 20 = .ok (.getfield 191, 3) := by decide +kernel
theorem dX11_rule_23 : decode cX11_rule 23 = .ok (.iadd, 1) := by decide +kernel
theorem dX11_rule_24 : decode cX11_rule 24 = .ok (.iconst 1, 1) := by decide +kernel
theorem dX11_rule_25 : decode cX11_rule 25 = .ok (.isub, 1) := by decide +kernel
theorem dX11_rule_26 : decode cX11_rule 26 = .ok (.invokestatic 80, 3) := by decide +kernel
theorem dX11_rule_29 : decode cX11_rule 29 = .ok (.ifCond .eq 10, 3) := by decide +kernel
theorem dX11_rule_32 : decode cX11_rule 32 = .ok (.iload_n 2, 1) := by decide +kernel
theorem dX11_rule_33 : decode cX11_rule 33 = .ok (.invokestatic 109, 3) := by decide +kernel
theorem dX11_rule_36 : decode cX11_rule 36 = .ok (.ifCond .ne 5, 3) := by decide +kernel
theorem dX11_rule_39 : decode cX11_rule 39 = .ok (.iconst (-1), 1) := by decide +kernel
theorem dX11_rule_40 : decode cX11_rule 40 = .ok (.ireturn, 1) := by decide +kernel
theorem dX11_rule_41 : decode cX11_rule 41 = .ok (.iload_n 2, 1) := by decide +kernel
theorem dX11_rule_42 : decode cX11_rule 42 = .ok (.ifCond .ne 18, 3) := by decide +kernel
theorem dX11_rule_45 : decode cX11_rule 45 = .ok (.aload_n 0, 1) := by decide +kernel
theorem dX11_rule_46 : decode cX11_rule 46 = .ok (.getfield 61, 3) := by decide +kernel
theorem dX11_rule_49 : decode cX11_rule 49 = .ok (.getfield 192, 3) := by decide +kernel
theorem dX11_rule_52 : decode cX11_rule 52 = .ok (.iload_n 1, 1) := by decide +kernel
theorem dX11_rule_53 : decode cX11_rule 53 = .ok (.bipush 16, 2) := by decide +kernel
theorem dX11_rule_55 : decode cX11_rule 55 = .ok (.isub, 1) := by decide +kernel
theorem dX11_rule_56 : decode cX11_rule 56 = .ok (.iaload, 1) := by decide +kernel
theorem dX11_rule_57 : decode cX11_rule 57 = .ok (.goto 15, 3) := by decide +kernel
theorem dX11_rule_60 : decode cX11_rule 60 = .ok (.aload_n 0, 1) := by decide +kernel
theorem dX11_rule_61 : decode cX11_rule 61 = .ok (.getfield 61, 3) := by decide +kernel
theorem dX11_rule_64 : decode cX11_rule 64 = .ok (.getfield 195, 3) := by decide +kernel
theorem dX11_rule_67 : decode cX11_rule 67 = .ok (.iload_n 1, 1) := by decide +kernel
theorem dX11_rule_68 : decode cX11_rule 68 = .ok (.bipush 16, 2) := by decide +kernel
theorem dX11_rule_70 : decode cX11_rule 70 = .ok (.isub, 1) := by decide +kernel
theorem dX11_rule_71 : decode cX11_rule 71 = .ok (.iaload, 1) := by decide +kernel
theorem dX11_rule_72 : decode cX11_rule 72 = .ok (.ireturn, 1) := by decide +kernel
theorem dX11_symbol_0 : decode cX11_symbol 0 = .ok (.aload_n 0, 1) := by decide +kernel
theorem dX11_symbol_1 : decode cX11_symbol 1 = .ok (.getfield 61, 3) := by decide +kernel
theorem dX11_symbol_4 : decode cX11_symbol 4 = .ok (.aload_n 0, 1) := by decide +kernel
theorem dX11_symbol_5 : decode cX11_symbol 5 = .ok (.getfield 10, 3) := by decide +kernel
theorem dX11_symbol_8 : decode cX11_symbol 8 = .ok (.invokevirtual 187, 3) := by decide +kernel
theorem dX11_symbol_11 : decode cX11_symbol 11 = .ok (.iload_n 1, 1) := by decide +kernel
theorem dX11_symbol_12 : decode cX11_symbol 12 = .ok (.iconst 0, 1) := by decide +kernel
theorem dX11_symbol_13 : decode cX11_symbol 13 = .ok (.aload_n 0, 1) := by decide +kernel
theorem dX11_symbol_14 : decode cX11_symbol 14 = .ok (.getfield 61, 3) := by decide +kernel
theorem dX11_symbol_17 : decode cX11_symbol 17 = .ok (.getfield 188, 3) := by decide +kernel
theorem dX11_symbol_20 : decode cX11_symbol 20 = .ok (.iconst 1, 1) := by decide +kernel
theorem dX11_symbol_21 : decode cX11_symbol 21 = .ok (.isub, 1) := by decide +kernel
theorem dX11_symbol_22 : decode cX11_symbol 22 = .ok (.invokestatic 80, 3) := by decide +kernel
theorem dX11_symbol_25 : decode cX11_symbol 25 = .ok (.ifCond .ne 13, 3) := by decide +kernel
theorem dX11_symbol_28 : decode cX11_symbol 28 = .ok (.new 127, 3) := by decide +kernel
theorem dX11_symbol_31 : decode cX11_symbol 31 = .ok (.dup, 1) := by decide +kernel
theorem dX11_symbol_32 : decode cX11_symbol 32 = .ok (.ldc 198, 2) := by decide +kernel
theorem dX11_symbol_34 : decode cX11_symbol 34 = .ok (.invokespecial 131, 3) := by decide +kernel
theorem dX11_symbol_37 : decode cX11_symbol 37 = .ok (.athrow, 1) := by decide +kernel
theorem dX11_symbol_38 : decode cX11_symbol 38 = .ok (.aload_n 0, 1) := by decide +kernel
theorem dX11_symbol_39 : decode cX11_symbol 39 = .ok (.getfield 61, 3) := by decide +kernel
theorem dX11_symbol_42 : decode cX11_symbol 42 = .ok (.getfield 200, 3) := by decide +kernel
theorem dX11_symbol_45 : decode cX11_symbol 45 = .ok (.iload_n 1, 1) := by decide +kernel
theorem dX11_symbol_46 : decode cX11_symbol 46 = .ok (.iaload, 1) := by decide +kernel
theorem dX11_symbol_47 : decode cX11_symbol 47 = .ok (.ireturn, 1) := by decide +kernel
theorem dX11_length_0 : decode cX11_length 0 = .ok (.aload_n 0, 1) := by decide +kernel
theorem dX11_length_1 : decode cX11_length 1 = .ok (.getfield 10, 3) := by decide +kernel
theorem dX11_length_4 : decode cX11_length 4 = .ok (.getfield 69, 3) := by decide +kernel
theorem dX11_length_7 : decode cX11_length 7 = .ok (.ireturn, 1) := by decide +kernel
theorem dX11_within_0 : decode cX11_within 0 = .ok (.iload_n 0, 1) := by decide +kernel
theorem dX11_within_1 : decode cX11_within 1 = .ok (.iload_n 1, 1) := by decide +kernel
theorem dX11_within_2 : decode cX11_within 2 = .ok (.if_icmp .lt 12, 3) := by decide +kernel
theorem dX11_within_5 : decode cX11_within 5 = .ok (.iload_n 0, 1) := by decide +kernel
theorem dX11_within_6 : decode cX11_within 6 = .ok (.iload_n 2, 1) := by decide +kernel
theorem dX11_within_7 : decode cX11_within 7 = .ok (.if_icmp .gt 7, 3) := by decide +kernel
theorem dX11_within_10 : decode cX11_within 10 = .ok (.iconst 1, 1) := by decide +kernel
theorem dX11_within_11 : decode cX11_within 11 = .ok (.goto 4, 3) := by decide +kernel
theorem dX11_within_14 : decode cX11_within 14 = .ok (.iconst 0, 1) := by decide +kernel
theorem dX11_within_15 : decode cX11_within 15 = .ok (.ireturn, 1) := by decide +kernel
theorem dX11_isSign_0 : decode cX11_isSign 0 = .ok (.iload_n 0, 1) := by decide +kernel
theorem dX11_isSign_1 : decode cX11_isSign 1 = .ok (.iconst 0, 1) := by decide +kernel
theorem dX11_isSign_2 : decode cX11_isSign 2 = .ok (.bipush 15, 2) := by decide +kernel
theorem dX11_isSign_4 : decode cX11_isSign 4 = .ok (.invokestatic 80, 3) := by decide +kernel
theorem dX11_isSign_7 : decode cX11_isSign 7 = .ok (.ireturn, 1) := by decide +kernel
theorem dX11_isSide_0 : decode cX11_isSide 0 = .ok (.iload_n 0, 1) := by decide +kernel
theorem dX11_isSide_1 : decode cX11_isSide 1 = .ok (.iconst 0, 1) := by decide +kernel
theorem dX11_isSide_2 : decode cX11_isSide 2 = .ok (.iconst 1, 1) := by decide +kernel
theorem dX11_isSide_3 : decode cX11_isSide 3 = .ok (.invokestatic 80, 3) := by decide +kernel
theorem dX11_isSide_6 : decode cX11_isSide 6 = .ok (.ireturn, 1) := by decide +kernel
theorem dX11_isCostKind_0 : decode cX11_isCostKind 0 = .ok (.iload_n 0, 1) := by decide +kernel
theorem dX11_isCostKind_1 : decode cX11_isCostKind 1 = .ok (.iconst 0, 1) := by decide +kernel
theorem dX11_isCostKind_2 : decode cX11_isCostKind 2 = .ok (.iconst 2, 1) := by decide +kernel
theorem dX11_isCostKind_3 : decode cX11_isCostKind 3 = .ok (.invokestatic 80, 3) := by decide +kernel
theorem dX11_isCostKind_6 : decode cX11_isCostKind 6 = .ok (.ireturn, 1) := by decide +kernel
theorem dX11_costOfKind_0 : decode cX11_costOfKind 0 = .ok (.iload_n 1, 1) := by decide +kernel
theorem dX11_costOfKind_1 : decode cX11_costOfKind 1 = .ok (.ifCond .ne 28, 3) := by decide +kernel
theorem dX11_costOfKind_4 : decode cX11_costOfKind 4 = .ok (.aload_n 0, 1) := by decide +kernel
theorem dX11_costOfKind_5 : decode cX11_costOfKind 5 = .ok (.getfield 26, 3) := by decide +kernel
theorem dX11_costOfKind_8 : decode cX11_costOfKind 8 = .ok (.aload_n 0, 1) := by decide +kernel
theorem dX11_costOfKind_9 : decode cX11_costOfKind 9 = .ok (.getfield 10, 3) := by decide +kernel
theorem dX11_costOfKind_12 : decode cX11_costOfKind 12 = .ok (.invokevirtual 87, 3) := by decide +kernel
theorem dX11_costOfKind_15 : decode cX11_costOfKind 15 = .ok (.aload_n 0, 1) := by decide +kernel
theorem dX11_costOfKind_16 : decode cX11_costOfKind 16 = .ok (.getfield 33, 3) := by decide +kernel
theorem dX11_costOfKind_19 : decode cX11_costOfKind 19 = .ok (.aload_n 0, 1) := by decide +kernel
theorem dX11_costOfKind_20 : decode cX11_costOfKind 20 = .ok (.getfield 26, 3) := by decide +kernel
theorem dX11_costOfKind_23 : decode cX11_costOfKind 23 = .ok (.iload_n 2, 1) := by decide +kernel
theorem dX11_costOfKind_24 : decode cX11_costOfKind 24 = .ok (.iload_n 3, 1) := by decide +kernel
theorem dX11_costOfKind_25 : decode cX11_costOfKind 25 = .ok (.invokevirtual 203, 3) := by decide +kernel
theorem dX11_costOfKind_28 : decode cX11_costOfKind 28 = .ok (.lreturn, 1) := by decide +kernel
theorem dX11_costOfKind_29 : decode cX11_costOfKind 29 = .ok (.iload_n 1, 1) := by decide +kernel
theorem dX11_costOfKind_30 : decode cX11_costOfKind 30 = .ok (.iconst 1, 1) := by decide +kernel
theorem dX11_costOfKind_31 : decode cX11_costOfKind 31 = .ok (.if_icmp .ne 23, 3) := by decide +kernel
theorem dX11_costOfKind_34 : decode cX11_costOfKind 34 = .ok (.aload_n 0, 1) := by decide +kernel
theorem dX11_costOfKind_35 : decode cX11_costOfKind 35 = .ok (.getfield 33, 3) := by decide +kernel
theorem dX11_costOfKind_38 : decode cX11_costOfKind 38 = .ok (.aload_n 0, 1) := by decide +kernel
theorem dX11_costOfKind_39 : decode cX11_costOfKind 39 = .ok (.getfield 10, 3) := by decide +kernel
theorem dX11_costOfKind_42 : decode cX11_costOfKind 42 = .ok (.aload_n 0, 1) := by decide +kernel
theorem dX11_costOfKind_43 : decode cX11_costOfKind 43 = .ok (.getfield 19, 3) := by decide +kernel
theorem dX11_costOfKind_46 : decode cX11_costOfKind 46 = .ok (.iload_n 2, 1) := by decide +kernel
theorem dX11_costOfKind_47 : decode cX11_costOfKind 47 = .ok (.iload_n 3, 1) := by decide +kernel
theorem dX11_costOfKind_48 : decode cX11_costOfKind 48 = .ok (.invokevirtual 207, 3) := by decide +kernel
theorem dX11_costOfKind_51 : decode cX11_costOfKind 51 = .ok (.goto 16, 3) := by decide +kernel
theorem dX11_costOfKind_54 : decode cX11_costOfKind 54 = .ok (.aload_n 0, 1) := by decide +kernel
theorem dX11_costOfKind_55 : decode cX11_costOfKind 55 = .ok (.getfield 33, 3) := by decide +kernel
theorem dX11_costOfKind_58 : decode cX11_costOfKind 58 = .ok (.aload_n 0, 1) := by decide +kernel
theorem dX11_costOfKind_59 : decode cX11_costOfKind 59 = .ok (.getfield 10, 3) := by decide +kernel
theorem dX11_costOfKind_62 : decode cX11_costOfKind 62 = .ok (.iload_n 2, 1) := by decide +kernel
theorem dX11_costOfKind_63 : decode cX11_costOfKind 63 = .ok (.iload_n 3, 1) := by decide +kernel
theorem dX11_costOfKind_64 : decode cX11_costOfKind 64 = .ok (.invokevirtual 211, 3) := by decide +kernel
theorem dX11_costOfKind_67 : decode cX11_costOfKind 67 = .ok (.lreturn, 1) := by decide +kernel
theorem dX11_widthOfKind_0 : decode cX11_widthOfKind 0 = .ok (.iload_n 1, 1) := by decide +kernel
theorem dX11_widthOfKind_1 : decode cX11_widthOfKind 1 = .ok (.ifCond .ne 15, 3) := by decide +kernel
theorem dX11_widthOfKind_4 : decode cX11_widthOfKind 4 = .ok (.aload_n 0, 1) := by decide +kernel
theorem dX11_widthOfKind_5 : decode cX11_widthOfKind 5 = .ok (.getfield 40, 3) := by decide +kernel
theorem dX11_widthOfKind_8 : decode cX11_widthOfKind 8 = .ok (.getfield 215, 3) := by decide +kernel
theorem dX11_widthOfKind_11 : decode cX11_widthOfKind 11 = .ok (.iload_n 2, 1) := by decide +kernel
theorem dX11_widthOfKind_12 : decode cX11_widthOfKind 12 = .ok (.iaload, 1) := by decide +kernel
theorem dX11_widthOfKind_13 : decode cX11_widthOfKind 13 = .ok (.goto 22, 3) := by decide +kernel
theorem dX11_widthOfKind_16 : decode cX11_widthOfKind 16 = .ok (.aload_n 0, 1) := by decide +kernel
theorem dX11_widthOfKind_17 : decode cX11_widthOfKind 17 = .ok (.getfield 10, 3) := by decide +kernel
theorem dX11_widthOfKind_20 : decode cX11_widthOfKind 20 = .ok (.getfield 166, 3) := by decide +kernel
theorem dX11_widthOfKind_23 : decode cX11_widthOfKind 23 = .ok (.iload_n 2, 1) := by decide +kernel
theorem dX11_widthOfKind_24 : decode cX11_widthOfKind 24 = .ok (.iaload, 1) := by decide +kernel
theorem dX11_widthOfKind_25 : decode cX11_widthOfKind 25 = .ok (.aload_n 0, 1) := by decide +kernel
theorem dX11_widthOfKind_26 : decode cX11_widthOfKind 26 = .ok (.getfield 10, 3) := by decide +kernel
theorem dX11_widthOfKind_29 : decode cX11_widthOfKind 29 = .ok (.getfield 69, 3) := by decide +kernel
theorem dX11_widthOfKind_32 : decode cX11_widthOfKind 32 = .ok (.invokestatic 218, 3) := by decide +kernel
theorem dX11_widthOfKind_35 : decode cX11_widthOfKind 35 = .ok (.ireturn, 1) := by decide +kernel
theorem dX11_cutPieces_0 : decode cX11_cutPieces 0 = .ok (.iload_n 1, 1) := by decide +kernel
theorem dX11_cutPieces_1 : decode cX11_cutPieces 1 = .ok (.ifCond .ne 10, 3) := by decide +kernel
theorem dX11_cutPieces_4 : decode cX11_cutPieces 4 = .ok (.aload_n 0, 1) := by decide +kernel
theorem dX11_cutPieces_5 : decode cX11_cutPieces 5 = .ok (.getfield 47, 3) := by decide +kernel
theorem dX11_cutPieces_8 : decode cX11_cutPieces 8 = .ok (.goto 7, 3) := by decide +kernel
theorem dX11_cutPieces_11 : decode cX11_cutPieces 11 = .ok (.aload_n 0, 1) := by decide +kernel
theorem dX11_cutPieces_12 : decode cX11_cutPieces 12 = .ok (.getfield 54, 3) := by decide +kernel
theorem dX11_cutPieces_15 : decode cX11_cutPieces 15 = .ok (.astore_n 2, 1) := by decide +kernel
theorem dX11_cutPieces_16 : decode cX11_cutPieces 16 = .ok (.aload_n 2, 1) := by decide +kernel
theorem dX11_cutPieces_17 : decode cX11_cutPieces 17 = .ok (.aload_n 0, 1) := by decide +kernel
theorem dX11_cutPieces_18 : decode cX11_cutPieces 18 = .ok (.getfield 10, 3) := by decide +kernel
theorem dX11_cutPieces_21 : decode cX11_cutPieces 21 = .ok (.invokevirtual 221, 3) := by decide +kernel
theorem dX11_cutPieces_24 : decode cX11_cutPieces 24 = .ok (.aload_n 2, 1) := by decide +kernel
theorem dX11_cutPieces_25 : decode cX11_cutPieces 25 = .ok (.areturn, 1) := by decide +kernel
theorem dJx00060_init_a7421_0 : decode cJx00060_init_a7421 0 = .ok (.aload_n 0, 1) := by decide +kernel
theorem dJx00060_init_a7421_1 : decode cJx00060_init_a7421 1 = .ok (.aload_n 1, 1) := by decide +kernel
theorem dJx00060_init_a7421_2 : decode cJx00060_init_a7421 2 = .ok (.invokespecial 7, 3) := by decide +kernel
theorem dJx00060_init_a7421_5 : decode cJx00060_init_a7421 5 = .ok (.return_, 1) := by decide +kernel
theorem dJ9_max_7cf53_0 : decode cJ9_max_7cf53 0 = .ok (.iload_n 0, 1) := by decide +kernel
theorem dJ9_max_7cf53_1 : decode cJ9_max_7cf53 1 = .ok (.iload_n 1, 1) := by decide +kernel
theorem dJ9_max_7cf53_2 : decode cJ9_max_7cf53 2 = .ok (.if_icmp .lt 7, 3) := by decide +kernel
theorem dJ9_max_7cf53_5 : decode cJ9_max_7cf53 5 = .ok (.iload_n 0, 1) := by decide +kernel
theorem dJ9_max_7cf53_6 : decode cJ9_max_7cf53 6 = .ok (.goto 4, 3) := by decide +kernel
theorem dJ9_max_7cf53_9 : decode cJ9_max_7cf53 9 = .ok (.iload_n 1, 1) := by decide +kernel
theorem dJ9_max_7cf53_10 : decode cJ9_max_7cf53 10 = .ok (.ireturn, 1) := by decide +kernel
theorem dJ9_max_f86c9_0 : decode cJ9_max_f86c9 0 = .ok (.lload_n 0, 1) := by decide +kernel
theorem dJ9_max_f86c9_1 : decode cJ9_max_f86c9 1 = .ok (.lload_n 2, 1) := by decide +kernel
theorem dJ9_max_f86c9_2 : decode cJ9_max_f86c9 2 = .ok (.lcmp, 1) := by decide +kernel
theorem dJ9_max_f86c9_3 : decode cJ9_max_f86c9 3 = .ok (.ifCond .lt 7, 3) := by decide +kernel
theorem dJ9_max_f86c9_6 : decode cJ9_max_f86c9 6 = .ok (.lload_n 0, 1) := by decide +kernel
theorem dJ9_max_f86c9_7 : decode cJ9_max_f86c9 7 = .ok (.goto 4, 3) := by decide +kernel
theorem dJ9_max_f86c9_10 : decode cJ9_max_f86c9 10 = .ok (.lload_n 2, 1) := by decide +kernel
theorem dJ9_max_f86c9_11 : decode cJ9_max_f86c9 11 = .ok (.lreturn, 1) := by decide +kernel
theorem dJ7_fill_53178_0 : decode cJ7_fill_53178 0 = .ok (.iconst 0, 1) := by decide +kernel
theorem dJ7_fill_53178_1 : decode cJ7_fill_53178 1 = .ok (.istore_n 2, 1) := by decide +kernel
theorem dJ7_fill_53178_2 : decode cJ7_fill_53178 2 = .ok (.aload_n 0, 1) := by decide +kernel
theorem dJ7_fill_53178_3 : decode cJ7_fill_53178 3 = .ok (.arraylength, 1) := by decide +kernel
theorem dJ7_fill_53178_4 : decode cJ7_fill_53178 4 = .ok (.istore_n 3, 1) := by decide +kernel
theorem dJ7_fill_53178_5 : decode cJ7_fill_53178 5 = .ok (.iload_n 2, 1) := by decide +kernel
theorem dJ7_fill_53178_6 : decode cJ7_fill_53178 6 = .ok (.iload_n 3, 1) := by decide +kernel
theorem dJ7_fill_53178_7 : decode cJ7_fill_53178 7 = .ok (.if_icmp .ge 13, 3) := by decide +kernel
theorem dJ7_fill_53178_10 : decode cJ7_fill_53178 10 = .ok (.aload_n 0, 1) := by decide +kernel
theorem dJ7_fill_53178_11 : decode cJ7_fill_53178 11 = .ok (.iload_n 2, 1) := by decide +kernel
theorem dJ7_fill_53178_12 : decode cJ7_fill_53178 12 = .ok (.iload_n 1, 1) := by decide +kernel
theorem dJ7_fill_53178_13 : decode cJ7_fill_53178 13 = .ok (.iastore, 1) := by decide +kernel
theorem dJ7_fill_53178_14 : decode cJ7_fill_53178 14 = .ok (.iinc 2 1, 3) := by decide +kernel
theorem dJ7_fill_53178_17 : decode cJ7_fill_53178 17 = .ok (.goto (-12), 3) := by decide +kernel
theorem dJ7_fill_53178_20 : decode cJ7_fill_53178 20 = .ok (.return_, 1) := by decide +kernel
