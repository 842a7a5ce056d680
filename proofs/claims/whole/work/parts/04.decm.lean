theorem dX12_init_0 : decode cX12_init 0 = .ok (.aload_n 0, 1) := by decide +kernel
theorem dX12_init_1 : decode cX12_init 1 = .ok (.invokespecial 1, 3) := by decide +kernel
theorem dX12_init_4 : decode cX12_init 4 = .ok (.aload_n 0, 1) := by decide +kernel
theorem dX12_init_5 : decode cX12_init 5 = .ok (.sipush 400, 3) := by decide +kernel
theorem dX12_init_8 : decode cX12_init 8 = .ok (.newarray .int, 2) := by decide +kernel
theorem dX12_init_10 : decode cX12_init 10 = .ok (.putfield 7, 3) := by decide +kernel
theorem dX12_init_13 : decode cX12_init 13 = .ok (.aload_n 0, 1) := by decide +kernel
theorem dX12_init_14 : decode cX12_init 14 = .ok (.bipush 16, 2) := by decide +kernel
theorem dX12_init_16 : decode cX12_init 16 = .ok (.newarray .int, 2) := by decide +kernel
theorem dX12_init_18 : decode cX12_init 18 = .ok (.putfield 13, 3) := by decide +kernel
theorem dX12_init_21 : decode cX12_init 21 = .ok (.aload_n 0, 1) := by decide +kernel
theorem dX12_init_22 : decode cX12_init 22 = .ok (.sipush 400, 3) := by decide +kernel
theorem dX12_init_25 : decode cX12_init 25 = .ok (.newarray .int, 2) := by decide +kernel
theorem dX12_init_27 : decode cX12_init 27 = .ok (.putfield 16, 3) := by decide +kernel
theorem dX12_init_30 : decode cX12_init 30 = .ok (.aload_n 0, 1) := by decide +kernel
theorem dX12_init_31 : decode cX12_init 31 = .ok (.sipush 6400, 3) := by decide +kernel
theorem dX12_init_34 : decode cX12_init 34 = .ok (.newarray .int, 2) := by decide +kernel
theorem dX12_init_36 : decode cX12_init 36 = .ok (.putfield 19, 3) := by decide +kernel
theorem dX12_init_39 : decode cX12_init 39 = .ok (.aload_n 0, 1) := by decide +kernel
theorem dX12_init_40 : decode cX12_init 40 = .ok (.sipush 400, 3) := by decide +kernel
theorem dX12_init_43 : decode cX12_init 43 = .ok (.newarray .int, 2) := by decide +kernel
theorem dX12_init_45 : decode cX12_init 45 = .ok (.putfield 22, 3) := by decide +kernel
theorem dX12_init_48 : decode cX12_init 48 = .ok (.aload_n 0, 1) := by decide +kernel
theorem dX12_init_49 : decode cX12_init 49 = .ok (.bipush 16, 2) := by decide +kernel
theorem dX12_init_51 : decode cX12_init 51 = .ok (.newarray .int, 2) := by decide +kernel
theorem dX12_init_53 : decode cX12_init 53 = .ok (.putfield 25, 3) := by decide +kernel
theorem dX12_init_56 : decode cX12_init 56 = .ok (.aload_n 0, 1) := by decide +kernel
theorem dX12_init_57 : decode cX12_init 57 = .ok (.bipush 16, 2) := by decide +kernel
theorem dX12_init_59 : decode cX12_init 59 = .ok (.newarray .int, 2) := by decide +kernel
theorem dX12_init_61 : decode cX12_init 61 = .ok (.putfield 28, 3) := by decide +kernel
theorem dX12_init_64 : decode cX12_init 64 = .ok (.aload_n 0, 1) := by decide +kernel
theorem dX12_init_65 : decode cX12_init 65 = .ok (.bipush 16, 2) := by decide +kernel
theorem dX12_init_67 : decode cX12_init 67 = .ok (.newarray .int, 2) := by decide +kernel
theorem dX12_init_69 : decode cX12_init 69 = .ok (.putfield 31, 3) := by decide +kernel
theorem dX12_init_72 : decode cX12_init 72 = .ok (.aload_n 0, 1) := by decide +kernel
theorem dX12_init_73 : decode cX12_init 73 = .ok (.sipush 400, 3) := by decide +kernel
theorem dX12_init_76 : decode cX12_init 76 = .ok (.newarray .int, 2) := by decide +kernel
theorem dX12_init_78 : decode cX12_init 78 = .ok (.putfield 34, 3) := by decide +kernel
theorem dX12_init_81 : decode cX12_init 81 = .ok (.aload_n 0, 1) := by decide +kernel
theorem dX12_init_82 : decode cX12_init 82 = .ok (.sipush 400, 3) := by decide +kernel
theorem dX12_init_85 : decode cX12_init 85 = .ok (.newarray .int, 2) := by decide +kernel
theorem dX12_init_87 : decode cX12_init 87 = .ok (.putfield 37, 3) := by decide +kernel
theorem dX12_init_90 : decode cX12_init 90 = .ok (.aload_n 0, 1) := by decide +kernel
theorem dX12_init_91 : decode cX12_init 91 = .ok (.sipush 400, 3) := by decide +kernel
theorem dX12_init_94 : decode cX12_init 94 = .ok (.newarray .int, 2) := by decide +kernel
theorem dX12_init_96 : decode cX12_init 96 = .ok (.putfield 40, 3) := by decide +kernel
theorem dX12_init_99 : decode cX12_init 99 = .ok (.aload_n 0, 1) := by decide +kernel
theorem dX12_init_100 : decode cX12_init 100 = .ok (.sipush 400, 3) := by decide +kernel
theorem dX12_init_103 : decode cX12_init 103 = .ok (.newarray .int, 2) := by decide +kernel
theorem dX12_init_105 : decode cX12_init 105 = .ok (.putfield 43, 3) := by decide +kernel
theorem dX12_init_108 : decode cX12_init 108 = .ok (.aload_n 0, 1) := by decide +kernel
theorem dX12_init_109 : decode cX12_init 109 = .ok (.sipush 200, 3) := by decide +kernel
theorem dX12_init_112 : decode cX12_init 112 = .ok (.newarray .int, 2) := by decide +kernel
theorem dX12_init_114 : decode cX12_init 114 = .ok (.putfield 46, 3) := by decide +kernel
theorem dX12_init_117 : decode cX12_init 117 = .ok (.aload_n 0, 1) := by decide +kernel
theorem dX12_init_118 : decode cX12_init 118 = .ok (.sipush 200, 3) := by decide +kernel
theorem dX12_init_121 : decode cX12_init 121 = .ok (.newarray .int, 2) := by decide +kernel
theorem dX12_init_123 : decode cX12_init 123 = .ok (.putfield 49, 3) := by decide +kernel
theorem dX12_init_126 : decode cX12_init 126 = .ok (.aload_n 0, 1) := by decide +kernel
theorem dX12_init_127 : decode cX12_init 127 = .ok (.iconst (-1), 1) := by decide +kernel
theorem dX12_init_128 : decode cX12_init 128 = .ok (.putfield 52, 3) := by decide +kernel
theorem dX12_init_131 : decode cX12_init 131 = .ok (.aload_n 0, 1) := by decide +kernel
theorem dX12_init_132 : decode cX12_init 132 = .ok (.sipush 400, 3) := by decide +kernel
theorem dX12_init_135 : decode cX12_init 135 = .ok (.newarray .int, 2) := by decide +kernel
theorem dX12_init_137 : decode cX12_init 137 = .ok (.putfield 56, 3) := by decide +kernel
theorem dX12_init_140 : decode cX12_init 140 = .ok (.return_, 1) := by decide +kernel
theorem dX12_thrown_0 : decode cX12_thrown 0 = .ok (.aload_n 0, 1) := by decide +kernel
theorem dX12_thrown_1 : decode cX12_thrown 1 = .ok (.getfield 59, 3) := by decide +kernel
theorem dX12_thrown_4 : decode cX12_thrown 4 = .ok (.ireturn, 1) := by decide +kernel
theorem dX12_in_0 : decode cX12_in 0 = .ok (.lload_n 0, 1) := by decide +kernel
theorem dX12_in_1 : decode cX12_in 1 = .ok (.lload_n 2, 1) := by decide +kernel
theorem dX12_in_2 : decode cX12_in 2 = .ok (.lcmp, 1) := by decide +kernel
theorem dX12_in_3 : decode cX12_in 3 = .ok (.ifCond .lt 14, 3) := by decide +kernel
theorem dX12_in_6 : decode cX12_in 6 = .ok (.lload_n 0, 1) := by decide +kernel
theorem dX12_in_7 : decode cX12_in 7 = .ok (.lload 4, 2) := by decide +kernel
theorem dX12_in_9 : decode cX12_in 9 = .ok (.lcmp, 1) := by decide +kernel
theorem dX12_in_10 : decode cX12_in 10 = .ok (.ifCond .gt 7, 3) := by decide +kernel
theorem dX12_in_13 : decode cX12_in 13 = .ok (.iconst 1, 1) := by decide +kernel
theorem dX12_in_14 : decode cX12_in 14 = .ok (.goto 4, 3) := by decide +kernel
theorem dX12_in_17 : decode cX12_in 17 = .ok (.iconst 0, 1) := by decide +kernel
theorem dX12_in_18 : decode cX12_in 18 = .ok (.ireturn, 1) := by decide +kernel
theorem dX12_isSign_0 : decode cX12_isSign 0 = .ok (.iload_n 0, 1) := by decide +kernel
theorem dX12_isSign_1 : decode cX12_isSign 1 = .ok (.i2l, 1) := by decide +kernel
theorem dX12_isSign_2 : decode cX12_isSign 2 = .ok (.lconst 0, 1) := by decide +kernel
theorem dX12_isSign_3 : decode cX12_isSign 3 = .ok (.ldc2_w 62, 3) := by decide +kernel
theorem dX12_isSign_6 : decode cX12_isSign 6 = .ok (.invokestatic 64, 3) := by decide +kernel
theorem dX12_isSign_9 : decode cX12_isSign 9 = .ok (.ireturn, 1) := by decide +kernel
theorem dX12_isKind_0 : decode cX12_isKind 0 = .ok (.iload_n 0, 1) := by decide +kernel
theorem dX12_isKind_1 : decode cX12_isKind 1 = .ok (.i2l, 1) := by decide +kernel
theorem dX12_isKind_2 : decode cX12_isKind 2 = .ok (.lconst 0, 1) := by decide +kernel
theorem dX12_isKind_3 : decode cX12_isKind 3 = .ok (.lconst 1, 1) := by decide +kernel
theorem dX12_isKind_4 : decode cX12_isKind 4 = .ok (.invokestatic 64, 3) := by decide +kernel
theorem dX12_isKind_7 : decode cX12_isKind 7 = .ok (.ireturn, 1) := by decide +kernel
theorem dX12_sign_0 : decode cX12_sign 0 = .ok (.aload_n 0, 1) := by decide +kernel
theorem dX12_sign_1 : decode cX12_sign 1 = .ok (.iconst 0, 1) := by decide +kernel
theorem dX12_sign_2 : decode cX12_sign 2 = .ok (.putfield 59, 3) := by decide +kernel
theorem dX12_sign_5 : decode cX12_sign 5 = .ok (.iload_n 1, 1) := by decide +kernel
theorem dX12_sign_6 : decode cX12_sign 6 = .ok (.invokestatic 68, 3) := by decide +kernel
theorem dX12_sign_9 : decode cX12_sign 9 = .ok (.ifCond .ne 5, 3) := by decide +kernel
theorem dX12_sign_12 : decode cX12_sign 12 = .ok (.iconst (-1), 1) := by decide +kernel
theorem dX12_sign_13 : decode cX12_sign 13 = .ok (.ireturn, 1) := by decide +kernel
theorem dX12_sign_14 : decode cX12_sign 14 = .ok (.aload_n 0, 1) := by decide +kernel
theorem dX12_sign_15 : decode cX12_sign 15 = .ok (.getfield 72, 3) := by decide +kernel
theorem dX12_sign_18 : decode cX12_sign 18 = .ok (.sipush 400, 3) := by decide +kernel
theorem dX12_sign_21 : decode cX12_sign 21 = .ok (.if_icmp .ne 6, 3) := by decide +kernel
theorem dX12_sign_24 : decode cX12_sign 24 = .ok (.bipush (-3), 2) := by decide +kernel
theorem dX12_sign_26 : decode cX12_sign 26 = .ok (.ireturn, 1) := by decide +kernel
theorem dX12_sign_27 : decode cX12_sign 27 = .ok (.aload_n 0, 1) := by decide +kernel
theorem dX12_sign_28 : decode cX12_sign 28 = .ok (.getfield 7, 3) := by decide +kernel
theorem dX12_sign_31 : decode cX12_sign 31 = .ok (.aload_n 0, 1) := by decide +kernel
theorem dX12_sign_32 : decode cX12_sign 32 = .ok (.getfield 72, 3) := by decide +kernel
theorem dX12_sign_35 : decode cX12_sign 35 = .ok (.iload_n 1, 1) := by decide +kernel
theorem dX12_sign_36 : decode cX12_sign 36 = .ok (.iastore, 1) := by decide +kernel
theorem dX12_sign_37 : decode cX12_sign 37 = .ok (.aload_n 0, 1) := by decide +kernel
theorem dX12_sign_38 : decode cX12_sign 38 = .ok (.dup, 1) := by decide +kernel
theorem dX12_sign_39 : decode cX12_sign 39 = .ok (.getfield 72, 3) := by decide +kernel
theorem dX12_sign_42 : decode cX12_sign 42 = .ok (.iconst 1, 1) := by decide +kernel
theorem dX12_sign_43 : decode cX12_sign 43 = .ok (.iadd, 1) := by decide +kernel
theorem dX12_sign_44 : decode cX12_sign 44 = .ok (.putfield 72, 3) := by decide +kernel
theorem dX12_sign_47 : decode cX12_sign 47 = .ok (.aload_n 0, 1) := by decide +kernel
theorem dX12_sign_48 : decode cX12_sign 48 = .ok (.getfield 72, 3) := by decide +kernel
theorem dX12_sign_51 : decode cX12_sign 51 = .ok (.ireturn, 1) := by decide +kernel
theorem dX12_wipe_0 : decode cX12_wipe 0 = .ok (.aload_n 0, 1) := by decide +kernel
theorem dX12_wipe_1 : decode cX12_wipe 1 = .ok (.iconst 0, 1) := by decide +kernel
theorem dX12_wipe_2 : decode cX12_wipe 2 = .ok (.putfield 59, 3) := by decide +kernel
theorem dX12_wipe_5 : decode cX12_wipe 5 = .ok (.aload_n 0, 1) := by decide +kernel
theorem dX12_wipe_6 : decode cX12_wipe 6 = .ok (.getfield 72, 3) := by decide +kernel
theorem dX12_wipe_9 : decode cX12_wipe 9 = .ok (.istore_n 1, 1) := by decide +kernel
theorem dX12_wipe_10 : decode cX12_wipe 10 = .ok (.aload_n 0, 1) := by decide +kernel
theorem dX12_wipe_11 : decode cX12_wipe 11 = .ok (.iconst 0, 1) := by decide +kernel
theorem dX12_wipe_12 : decode cX12_wipe 12 = .ok (.putfield 72, 3) := by decide +kernel
theorem dX12_wipe_15 : decode cX12_wipe 15 = .ok (.iload_n 1, 1) := by decide +kernel
theorem dX12_wipe_16 : decode cX12_wipe 16 = .ok (.ireturn, 1) := by decide +kernel
theorem dX12_length_0 : decode cX12_length 0 = .ok (.aload_n 0, 1) := by decide +kernel
theorem dX12_length_1 : decode cX12_length 1 = .ok (.iconst 0, 1) := by decide +kernel
theorem dX12_length_2 : decode cX12_length 2 = .ok (.putfield 59, 3) := by decide +kernel
theorem dX12_length_5 : decode cX12_length 5 = .ok (.aload_n 0, 1) := by decide +kernel
theorem dX12_length_6 : decode cX12_length 6 = .ok (.getfield 72, 3) := by decide +kernel
theorem dX12_length_9 : decode cX12_length 9 = .ok (.ireturn, 1) := by decide +kernel
theorem dX12_isSameAhead_0 : decode cX12_isSameAhead 0 = .ok (.iconst 1, 1) := by decide +kernel
theorem dX12_isSameAhead_1 : decode cX12_isSameAhead 1 = .ok (.istore_n 3, 1) := by decide +kernel
theorem dX12_isSameAhead_2 : decode cX12_isSameAhead 2 = .ok (.iconst 1, 1) := by decide +kernel
theorem dX12_isSameAhead_3 : decode cX12_isSameAhead 3 = .ok (.istore 4, 2) := by decide +kernel
theorem dX12_isSameAhead_5 : decode cX12_isSameAhead 5 = .ok (.iload 4, 2) := by decide +kernel
theorem dX12_isSameAhead_7 : decode cX12_isSameAhead 7 = .ok (.aload_n 0, 1) := by decide +kernel
theorem dX12_isSameAhead_8 : decode cX12_isSameAhead 8 = .ok (.getfield 75, 3) := by decide +kernel
theorem dX12_isSameAhead_11 : decode cX12_isSameAhead 11 = .ok (.if_icmp .gt 40, 3) := by decide +kernel
theorem dX12_isSameAhead_14 : decode cX12_isSameAhead 14 = .ok (.iload_n 3, 1) := by decide +kernel
theorem dX12_isSameAhead_15 : decode cX12_isSameAhead 15 = .ok (.ifCond .eq 28, 3) := by decide +kernel
theorem dX12_isSameAhead_18 : decode cX12_isSameAhead 18 = .ok (.aload_n 0, 1) := by decide +kernel
theorem dX12_isSameAhead_19 : decode cX12_isSameAhead 19 = .ok (.getfield 7, 3) := by decide +kernel
theorem dX12_isSameAhead_22 : decode cX12_isSameAhead 22 = .ok (.iload_n 1, 1) := by decide +kernel
theorem dX12_isSameAhead_23 : decode cX12_isSameAhead 23 = .ok (.iload 4, 2) := by decide +kernel
theorem dX12_isSameAhead_25 : decode cX12_isSameAhead 25 = .ok (.isub, 1) := by decide +kernel
theorem dX12_isSameAhead_26 : decode cX12_isSameAhead 26 = .ok (.iaload, 1) := by decide +kernel
theorem dX12_isSameAhead_27 : decode cX12_isSameAhead 27 = .ok (.aload_n 0, 1) := by decide +kernel
theorem dX12_isSameAhead_28 : decode cX12_isSameAhead 28 = .ok (.getfield 7, 3) := by decide +kernel
theorem dX12_isSameAhead_31 : decode cX12_isSameAhead 31 = .ok (.iload_n 2, 1) := by decide +kernel
theorem dX12_isSameAhead_32 : decode cX12_isSameAhead 32 = .ok (.iload 4, 2) := by decide +kernel
theorem dX12_isSameAhead_34 : decode cX12_isSameAhead 34 = .ok (.isub, 1) := by decide +kernel
theorem dX12_isSameAhead_35 : decode cX12_isSameAhead 35 = .ok (.iaload, 1) := by decide +kernel
theorem dX12_isSameAhead_36 : decode cX12_isSameAhead 36 = .ok (.if_icmp .ne 7, 3) := by decide +kernel
theorem dX12_isSameAhead_39 : decode cX12_isSameAhead 39 = .ok (.iconst 1, 1) := by decide +kernel
theorem dX12_isSameAhead_40 : decode cX12_isSameAhead 40 = .ok (.goto 4, 3) := by decide +kernel
theorem dX12_isSameAhead_43 : decode cX12_isSameAhead 43 = .ok (.iconst 0, 1) := by decide +kernel
theorem dX12_isSameAhead_44 : decode cX12_isSameAhead 44 = .ok (.istore_n 3, 1) := by decide +kernel
theorem dX12_isSameAhead_45 : decode cX12_isSameAhead 45 = .ok (.iinc 4 1, 3) := by decide +kernel
theorem dX12_isSameAhead_48 : decode cX12_isSameAhead 48 = .ok (.goto (-43), 3) := by decide +kernel
theorem dX12_isSameAhead_51 : decode cX12_isSameAhead 51 = .ok (.iload_n 3, 1) := by decide +kernel
theorem dX12_isSameAhead_52 : decode cX12_isSameAhead 52 = .ok (.ireturn, 1) := by decide +kernel
theorem dX12_findContexts_0 : decode cX12_findContexts 0 = .ok (.aload_n 0, 1) := by decide +kernel
theorem dX12_findContexts_1 : decode cX12_findContexts 1 = .ok (.iconst 0, 1) := by decide +kernel
theorem dX12_findContexts_2 : decode cX12_findContexts 2 = .ok (.putfield 78, 3) := by decide +kernel
theorem dX12_findContexts_5 : decode cX12_findContexts 5 = .ok (.aload_n 0, 1) := by decide +kernel
theorem dX12_findContexts_6 : decode cX12_findContexts 6 = .ok (.getfield 75, 3) := by decide +kernel
theorem dX12_findContexts_9 : decode cX12_findContexts 9 = .ok (.istore_n 1, 1) := by decide +kernel
theorem dX12_findContexts_10 : decode cX12_findContexts 10 = .ok (.iload_n 1, 1) := by decide +kernel
theorem dX12_findContexts_11 : decode cX12_findContexts 11 = .ok (.aload_n 0, 1) := by decide +kernel
theorem dX12_findContexts_12 : decode cX12_findContexts 12 = .ok (.getfield 72, 3) := by decide +kernel
theorem dX12_findContexts_15 : decode cX12_findContexts 15 = .ok (.if_icmp .ge 127, 3) := by decide +kernel
theorem dX12_findContexts_18 : decode cX12_findContexts 18 = .ok (.iconst 0, 1) := by decide +kernel
theorem dX12_findContexts_19 : decode cX12_findContexts 19 = .ok (.istore_n 2, 1) := by decide +kernel
theorem dX12_findContexts_20 : decode cX12_findContexts 20 = .ok (.iload_n 2, 1) := by decide +kernel
theorem dX12_findContexts_21 : decode cX12_findContexts 21 = .ok (.aload_n 0, 1) := by decide +kernel
theorem dX12_findContexts_22 : decode cX12_findContexts 22 = .ok (.getfield 78, 3) := by decide +kernel
theorem dX12_findContexts_25 : decode cX12_findContexts 25 = .ok (.if_icmp .ge 23, 3) := by decide +kernel
theorem dX12_findContexts_28 : decode cX12_findContexts 28 = .ok (.aload_n 0, 1) := by decide +kernel
theorem dX12_findContexts_29 : decode cX12_findContexts 29 = .ok (.aload_n 0, 1) := by decide +kernel
theorem dX12_findContexts_30 : decode cX12_findContexts 30 = .ok (.getfield 16, 3) := by decide +kernel
theorem dX12_findContexts_33 : decode cX12_findContexts 33 = .ok (.iload_n 2, 1) := by decide +kernel
theorem dX12_findContexts_34 : decode cX12_findContexts 34 = .ok (.iaload, 1) := by decide +kernel
theorem dX12_findContexts_35 : decode cX12_findContexts 35 = .ok (.iload_n 1, 1) := by decide +kernel
theorem dX12_findContexts_36 : decode cX12_findContexts 36 = .ok (.invokevirtual 81, 3) := by decide +kernel
theorem dX12_findContexts_39 : decode cX12_findContexts 39 = .ok (.ifCond .ne 9, 3) := by decide +kernel
theorem dX12_findContexts_42 : decode cX12_findContexts 42 = .ok (.iinc 2 1, 3) := by decide +kernel
theorem dX12_findContexts_45 : decode cX12_findContexts 45 = .ok (.goto (-25), 3) := by decide +kernel
theorem dX12_findContexts_48 : decode cX12_findContexts 48 = .ok (.iload_n 2, 1) := by decide +kernel
theorem dX12_findContexts_49 : decode cX12_findContexts 49 = .ok (.aload_n 0, 1) := by decide +kernel
theorem dX12_findContexts_50 : decode cX12_findContexts 50 = .ok (.getfield 78, 3) := by decide +kernel
theorem dX12_findContexts_53 : decode cX12_findContexts 53 = .ok (.if_icmp .ne 53, 3) := by decide +kernel
theorem dX12_findContexts_56 : decode cX12_findContexts 56 = .ok (.aload_n 0, 1) := by decide +kernel
theorem dX12_findContexts_57 : decode cX12_findContexts 57 = .ok (.getfield 16, 3) := by decide +kernel
theorem dX12_findContexts_60 : decode cX12_findContexts 60 = .ok (.iload_n 2, 1) := by decide +kernel
theorem dX12_findContexts_61 : decode cX12_findContexts 61 = .ok (.iload_n 1, 1) := by decide +kernel
theorem dX12_findContexts_62 : decode cX12_findContexts 62 = .ok (.iastore, 1) := by decide +kernel
theorem dX12_findContexts_63 : decode cX12_findContexts 63 = .ok (.aload_n 0, 1) := by decide +kernel
theorem dX12_findContexts_64 : decode cX12_findContexts 64 = .ok (.getfield 22, 3) := by decide +kernel
theorem dX12_findContexts_67 : decode cX12_findContexts 67 = .ok (.iload_n 2, 1) := by decide +kernel
theorem dX12_findContexts_68 : decode cX12_findContexts 68 = .ok (.iconst 0, 1) := by decide +kernel
theorem dX12_findContexts_69 : decode cX12_findContexts 69 = .ok (.iastore, 1) := by decide +kernel
theorem dX12_findContexts_70 : decode cX12_findContexts 70 = .ok (.iconst 0, 1) := by decide +kernel
theorem dX12_findContexts_71 : decode cX12_findContexts 71 = .ok (.istore_n 3, 1) := by decide +kernel
theorem dX12_findContexts_72 : decode cX12_findContexts 72 = .ok (.iload_n 3, 1) := by decide +kernel
theorem dX12_findContexts_73 : decode cX12_findContexts 73 = .ok (.bipush 16, 2) := by decide +kernel
theorem dX12_findContexts_75 : decode cX12_findContexts 75 = .ok (.if_icmp .ge 21, 3) := by decide +kernel
theorem dX12_findContexts_78 : decode cX12_findContexts 78 = .ok (.aload_n 0, 1) := by decide +kernel
theorem dX12_findContexts_79 : decode cX12_findContexts 79 = .ok (.getfield 19, 3) := by decide +kernel
theorem dX12_findContexts_82 : decode cX12_findContexts 82 = .ok (.bipush 16, 2) := by decide +kernel
theorem dX12_findContexts_84 : decode cX12_findContexts 84 = .ok (.iload_n 2, 1) := by decide +kernel
theorem dX12_findContexts_85 : decode cX12_findContexts 85 = .ok (.imul, 1) := by decide +kernel
theorem dX12_findContexts_86 : decode cX12_findContexts 86 = .ok (.iload_n 3, 1) := by decide +kernel
theorem dX12_findContexts_87 : decode cX12_findContexts 87 = .ok (.iadd, 1) := by decide +kernel
theorem dX12_findContexts_88 : decode cX12_findContexts 88 = .ok (.iconst 0, 1) := by decide +kernel
theorem dX12_findContexts_89 : decode cX12_findContexts 89 = .ok (.iastore, 1) := by decide +kernel
theorem dX12_findContexts_90 : decode cX12_findContexts 90 = .ok (.iinc 3 1, 3) := by decide +kernel
theorem dX12_findContexts_93 : decode cX12_findContexts 93 = .ok (.goto (-21), 3) := by decide +kernel
theorem dX12_findContexts_96 : decode cX12_findContexts 96 = .ok (.aload_n 0, 1) := by decide +kernel
theorem dX12_findContexts_97 : decode cX12_findContexts 97 = .ok (.dup, 1) := by decide +kernel
theorem dX12_findContexts_98 : decode cX12_findContexts 98 = .ok (.getfield 78, 3) := by decide +kernel
theorem dX12_findContexts_101 : decode cX12_findContexts 101 = .ok (.iconst 1, 1) := by decide +kernel
theorem dX12_findContexts_102 : decode cX12_findContexts 102 = .ok (.iadd, 1) := by decide +kernel
theorem dX12_findContexts_103 : decode cX12_findContexts 103 = .ok (.putfield 78, 3) := by decide +kernel
theorem dX12_findContexts_106 : decode cX12_findContexts 106 = .ok (.aload_n 0, 1) := by decide +kernel
theorem dX12_findContexts_107 : decode cX12_findContexts 107 = .ok (.getfield 22, 3) := by decide +kernel
theorem dX12_findContexts_110 : decode cX12_findContexts 110 = .ok (.iload_n 2, 1) := by decide +kernel
theorem dX12_findContexts_111 : decode cX12_findContexts 111 = .ok (.dup2, 1) := by decide +kernel
theorem dX12_findContexts_112 : decode cX12_findContexts 112 = .ok (.iaload, 1) := by decide +kernel
theorem dX12_findContexts_113 : decode cX12_findContexts 113 = .ok (.iconst 1, 1) := by decide +kernel
theorem dX12_findContexts_114 : decode cX12_findContexts 114 = .ok (.iadd, 1) := by decide +kernel
theorem dX12_findContexts_115 : decode cX12_findContexts 115 = .ok (.iastore, 1) := by decide +kernel
theorem dX12_findContexts_116 : decode cX12_findContexts 116 = .ok (.aload_n 0, 1) := by decide +kernel
theorem dX12_findContexts_117 : decode cX12_findContexts 117 = .ok (.getfield 19, 3) := by decide +kernel
theorem dX12_findContexts_120 : decode cX12_findContexts 120 = .ok (.bipush 16, 2) := by decide +kernel
theorem dX12_findContexts_122 : decode cX12_findContexts 122 = .ok (.iload_n 2, 1) := by decide +kernel
theorem dX12_findContexts_123 : decode cX12_findContexts 123 = .ok (.imul, 1) := by decide +kernel
theorem dX12_findContexts_124 : decode cX12_findContexts 124 = .ok (.aload_n 0, 1) := by decide +kernel
theorem dX12_findContexts_125 : decode cX12_findContexts 125 = .ok (.getfield 7, 3) := by decide +kernel
theorem dX12_findContexts_128 : decode cX12_findContexts 128 = .ok (.iload_n 1, 1) := by decide +kernel
theorem dX12_findContexts_129 : decode cX12_findContexts 129 = .ok (.iaload, 1) := by decide +kernel
theorem dX12_findContexts_130 : decode cX12_findContexts 130 = .ok (.iadd, 1) := by decide +kernel
theorem dX12_findContexts_131 : decode cX12_findContexts 131 = .ok (.dup2, 1) := by decide +kernel
theorem dX12_findContexts_132 : decode cX12_findContexts 132 = .ok (.iaload, 1) := by decide +kernel
theorem dX12_findContexts_133 : decode cX12_findContexts 133 = .ok (.iconst 1, 1) := by decide +kernel
theorem dX12_findContexts_134 : decode cX12_findContexts 134 = .ok (.iadd, 1) := by decide +kernel
theorem dX12_findContexts_135 : decode cX12_findContexts 135 = .ok (.iastore, 1) := by decide +kernel
theorem dX12_findContexts_136 : decode cX12_findContexts 136 = .ok (.iinc 1 1, 3) := by decide +kernel
theorem dX12_findContexts_139 : decode cX12_findContexts 139 = .ok (.goto (-129), 3) := by decide +kernel
theorem dX12_findContexts_142 : decode cX12_findContexts 142 = .ok (.return_, 1) := by decide +kernel
theorem dX12_order_0 : decode cX12_order 0 = .ok (.aload_n 0, 1) := by decide +kernel
theorem dX12_order_1 : decode cX12_order 1 = .ok (.iconst 0, 1) := by decide +kernel
theorem dX12_order_2 : decode cX12_order 2 = .ok (.putfield 59, 3) := by decide +kernel
theorem dX12_order_5 : decode cX12_order 5 = .ok (.iload_n 1, 1) := by decide +kernel
theorem dX12_order_6 : decode cX12_order 6 = .ok (.i2l, 1) := by decide +kernel
theorem dX12_order_7 : decode cX12_order 7 = .ok (.lconst 0, 1) := by decide +kernel
theorem dX12_order_8 : decode cX12_order 8 = .ok (.ldc2_w 85, 3) := by decide +kernel
theorem dX12_order_11 : decode cX12_order 11 = .ok (.invokestatic 64, 3) := by decide +kernel
theorem dX12_order_14 : decode cX12_order 14 = .ok (.ifCond .ne 5, 3) := by decide +kernel
theorem dX12_order_17 : decode cX12_order 17 = .ok (.iconst (-1), 1) := by decide +kernel
theorem dX12_order_18 : decode cX12_order 18 = .ok (.ireturn, 1) := by decide +kernel
theorem dX12_order_19 : decode cX12_order 19 = .ok (.aload_n 0, 1) := by decide +kernel
theorem dX12_order_20 : decode cX12_order 20 = .ok (.iload_n 1, 1) := by decide +kernel
theorem dX12_order_21 : decode cX12_order 21 = .ok (.putfield 75, 3) := by decide +kernel
theorem dX12_order_24 : decode cX12_order 24 = .ok (.aload_n 0, 1) := by decide +kernel
theorem dX12_order_25 : decode cX12_order 25 = .ok (.invokevirtual 87, 3) := by decide +kernel
theorem dX12_order_28 : decode cX12_order 28 = .ok (.aload_n 0, 1) := by decide +kernel
theorem dX12_order_29 : decode cX12_order 29 = .ok (.getfield 78, 3) := by decide +kernel
theorem dX12_order_32 : decode cX12_order 32 = .ok (.ireturn, 1) := by decide +kernel
theorem dX12_context_0 : decode cX12_context 0 = .ok (.aload_n 0, 1) := by decide +kernel
theorem dX12_context_1 : decode cX12_context 1 = .ok (.iconst 0, 1) := by decide +kernel
theorem dX12_context_2 : decode cX12_context 2 = .ok (.putfield 59, 3) := by decide +kernel
theorem dX12_context_5 : decode cX12_context 5 = .ok (.aload_n 0, 1) := by decide +kernel
theorem dX12_context_6 : decode cX12_context 6 = .ok (.invokevirtual 87, 3) := by decide +kernel
theorem dX12_context_9 : decode cX12_context 9 = .ok (.iload_n 1, 1) := by decide +kernel
theorem dX12_context_10 : decode cX12_context 10 = .ok (.i2l, 1) := by decide +kernel
theorem dX12_context_11 : decode cX12_context 11 = .ok (.lconst 0, 1) := by decide +kernel
theorem dX12_context_12 : decode cX12_context 12 = .ok (.aload_n 0, 1) := by decide +kernel
theorem dX12_context_13 : decode cX12_context 13 = .ok (.getfield 78, 3) := by decide +kernel
theorem dX12_context_16 : decode cX12_context 16 = .ok (.iconst 1, 1) := by decide +kernel
theorem dX12_context_17 : decode cX12_context 17 = .ok (.isub, 1) := by decide +kernel
theorem dX12_context_18 : decode cX12_context 18 = .ok (.i2l, 1) := by decide +kernel
theorem dX12_context_19 : decode cX12_context 19 = .ok (.invokestatic 64, 3) := by decide +kernel
theorem dX12_context_22 : decode cX12_context 22 = .ok (.ifCond .eq 40, 3) := by decide +kernel
theorem dX12_context_25 : decode cX12_context 25 = .ok (.iload_n 2, 1) := by decide +kernel
theorem dX12_context_26 : decode cX12_context 26 = .ok (.i2l, 1) := by decide +kernel
theorem dX12_context_27 : decode cX12_context 27 = .ok (.lconst 0, 1) := by decide +kernel
theorem dX12_context_28 : decode cX12_context 28 = .ok (.aload_n 0, 1) := by decide +kernel
theorem dX12_context_29 : decode cX12_context 29 = .ok (.getfield 75, 3) := by decide +kernel
theorem dX12_context_32 : decode cX12_context 32 = .ok (.iconst 1, 1) := by decide +kernel
theorem dX12_context_33 : decode cX12_context 33 = .ok (.isub, 1) := by decide +kernel
theorem dX12_context_34 : decode cX12_context 34 = .ok (.i2l, 1) := by decide +kernel
theorem dX12_context_35 : decode cX12_context 35 = .ok (.invokestatic 64, 3) := by decide +kernel
theorem dX12_context_38 : decode cX12_context 38 = .ok (.ifCond .eq 24, 3) := by decide +kernel
theorem dX12_context_41 : decode cX12_context 41 = .ok (.aload_n 0, 1) := by decide +kernel
theorem dX12_context_42 : decode cX12_context 42 = .ok (.getfield 7, 3) := by decide +kernel
theorem dX12_context_45 : decode cX12_context 45 = .ok (.aload_n 0, 1) := by decide +kernel
theorem dX12_context_46 : decode cX12_context 46 = .ok (.getfield 16, 3) := by decide +kernel
theorem dX12_context_49 : decode cX12_context 49 = .ok (.iload_n 1, 1) := by decide +kernel
theorem dX12_context_50 : decode cX12_context 50 = .ok (.iaload, 1) := by decide +kernel
theorem dX12_context_51 : decode cX12_context 51 = .ok (.aload_n 0, 1) := by decide +kernel
theorem dX12_context_52 : decode cX12_context 52 = .ok (.getfield 75, 3) := by decide +kernel
theorem dX12_context_55 : decode cX12_context 55 = .ok (.isub, 1) := by decide +kernel
theorem dX12_context_56 : decode cX12_context 56 = .ok (.iload_n 2, 1) := by decide +kernel
theorem dX12_context_57 : decode cX12_context 57 = .ok (.iadd, 1) := by decide +kernel
theorem dX12_context_58 : decode cX12_context 58 = .ok (.iaload, 1) := by decide +kernel
theorem dX12_context_59 : decode cX12_context 59 = .ok (.goto 4, 3) := by decide +kernel
theorem dX12_context_62 : decode cX12_context 62 = .ok (.iconst (-1), 1) := by decide +kernel
theorem dX12_context_63 : decode cX12_context 63 = .ok (.ireturn, 1) := by decide +kernel
theorem dX12_count_0 : decode cX12_count 0 = .ok (.aload_n 0, 1) := by decide +kernel
theorem dX12_count_1 : decode cX12_count 1 = .ok (.iconst 0, 1) := by decide +kernel
theorem dX12_count_2 : decode cX12_count 2 = .ok (.putfield 59, 3) := by decide +kernel
theorem dX12_count_5 : decode cX12_count 5 = .ok (.aload_n 0, 1) := by decide +kernel
theorem dX12_count_6 : decode cX12_count 6 = .ok (.invokevirtual 87, 3) := by decide +kernel
theorem dX12_count_9 : decode cX12_count 9 = .ok (.iload_n 1, 1) := by decide +kernel
theorem dX12_count_10 : decode cX12_count 10 = .ok (.i2l, 1) := by decide +kernel
theorem dX12_count_11 : decode cX12_count 11 = .ok (.lconst 0, 1) := by decide +kernel
theorem dX12_count_12 : decode cX12_count 12 = .ok (.aload_n 0, 1) := by decide +kernel
theorem dX12_count_13 : decode cX12_count 13 = .ok (.getfield 78, 3) := by decide +kernel
theorem dX12_count_16 : decode cX12_count 16 = .ok (.iconst 1, 1) := by decide +kernel
theorem dX12_count_17 : decode cX12_count 17 = .ok (.isub, 1) := by decide +kernel
theorem dX12_count_18 : decode cX12_count 18 = .ok (.i2l, 1) := by decide +kernel
theorem dX12_count_19 : decode cX12_count 19 = .ok (.invokestatic 64, 3) := by decide +kernel
theorem dX12_count_22 : decode cX12_count 22 = .ok (.ifCond .eq 17, 3) := by decide +kernel
theorem dX12_count_25 : decode cX12_count 25 = .ok (.iload_n 2, 1) := by decide +kernel
theorem dX12_count_26 : decode cX12_count 26 = .ok (.i2l, 1) := by decide +kernel
theorem dX12_count_27 : decode cX12_count 27 = .ok (.ldc2_w 90, 3) := by decide +kernel
theorem dX12_count_30 : decode cX12_count 30 = .ok (.ldc2_w 62, 3) := by decide +kernel
theorem dX12_count_33 : decode cX12_count 33 = .ok (.invokestatic 64, 3) := by decide +kernel
theorem dX12_count_36 : decode cX12_count 36 = .ok (.ifCond .ne 5, 3) := by decide +kernel
theorem dX12_count_39 : decode cX12_count 39 = .ok (.iconst (-1), 1) := by decide +kernel
theorem dX12_count_40 : decode cX12_count 40 = .ok (.ireturn, 1) := by decide +kernel
theorem dX12_count_41 : decode cX12_count 41 = .ok (.iload_n 2, 1) := by decide +kernel
theorem dX12_count_42 : decode cX12_count 42 = .ok (.ifCond .ge 12, 3) := by decide +kernel
theorem dX12_count_45 : decode cX12_count 45 = .ok (.aload_n 0, 1) := by decide +kernel
theorem dX12_count_46 : decode cX12_count 46 = .ok (.getfield 22, 3) := by decide +kernel
theorem dX12_count_49 : decode cX12_count 49 = .ok (.iload_n 1, 1) := by decide +kernel
theorem dX12_count_50 : decode cX12_count 50 = .ok (.iaload, 1) := by decide +kernel
theorem dX12_count_51 : decode cX12_count 51 = .ok (.goto 14, 3) := by decide +kernel
theorem dX12_count_54 : decode cX12_count 54 = .ok (.aload_n 0, 1) := by decide +kernel
theorem dX12_count_55 : decode cX12_count 55 = .ok (.getfield 19, 3) := by decide +kernel
theorem dX12_count_58 : decode cX12_count 58 = .ok (.bipush 16, 2) := by decide +kernel
theorem dX12_count_60 : decode cX12_count 60 = .ok (.iload_n 1, 1) := by decide +kernel
theorem dX12_count_61 : decode cX12_count 61 = .ok (.imul, 1) := by decide +kernel
theorem dX12_count_62 : decode cX12_count 62 = .ok (.iload_n 2, 1) := by decide +kernel
theorem dX12_count_63 : decode cX12_count 63 = .ok (.iadd, 1) := by decide +kernel
theorem dX12_count_64 : decode cX12_count 64 = .ok (.iaload, 1) := by decide +kernel
theorem dX12_count_65 : decode cX12_count 65 = .ok (.ireturn, 1) := by decide +kernel
theorem dX12_powerOf_0 : decode cX12_powerOf 0 = .ok (.iconst 0, 1) := by decide +kernel
theorem dX12_powerOf_1 : decode cX12_powerOf 1 = .ok (.istore_n 1, 1) := by decide +kernel
theorem dX12_powerOf_2 : decode cX12_powerOf 2 = .ok (.iload_n 0, 1) := by decide +kernel
theorem dX12_powerOf_3 : decode cX12_powerOf 3 = .ok (.iload_n 1, 1) := by decide +kernel
theorem dX12_powerOf_4 : decode cX12_powerOf 4 = .ok (.ishr, 1) := by decide +kernel
theorem dX12_powerOf_5 : decode cX12_powerOf 5 = .ok (.iconst 1, 1) := by decide +kernel
theorem dX12_powerOf_6 : decode cX12_powerOf 6 = .ok (.if_icmp .le 9, 3) := by decide +kernel
theorem dX12_powerOf_9 : decode cX12_powerOf 9 = .ok (.iinc 1 1, 3) := by decide +kernel
theorem dX12_powerOf_12 : decode cX12_powerOf 12 = .ok (.goto (-10), 3) := by decide +kernel
theorem dX12_powerOf_15 : decode cX12_powerOf 15 = .ok (.iload_n 1, 1) := by decide +kernel
theorem dX12_powerOf_16 : decode cX12_powerOf 16 = .ok (.ireturn, 1) := by decide +kernel
theorem dX12_lowLog_0 : decode cX12_lowLog 0 = .ok (.iload_n 0, 1) := by decide +kernel
theorem dX12_lowLog_1 : decode cX12_lowLog 1 = .ok (.invokestatic 92, 3) := by decide +kernel
theorem dX12_lowLog_4 : decode cX12_lowLog 4 = .ok (.istore_n 2, 1) := by decide +kernel
theorem dX12_lowLog_5 : decode cX12_lowLog 5 = .ok (.iload_n 0, 1) := by decide +kernel
theorem dX12_lowLog_6 : decode cX12_lowLog 6 = .ok (.i2l, 1) := by decide +kernel
theorem dX12_lowLog_7 : decode cX12_lowLog 7 = .ok (.bipush 30, 2) := by decide +kernel
theorem dX12_lowLog_9 : decode cX12_lowLog 9 = .ok (.iload_n 2, 1) := by decide +kernel
theorem dX12_lowLog_10 : decode cX12_lowLog 10 = .ok (.isub, 1) := by decide +kernel
theorem dX12_lowLog_11 : decode cX12_lowLog 11 = .ok (.lshl, 1) := by decide +kernel
theorem dX12_lowLog_12 : decode cX12_lowLog 12 = .ok (.lstore_n 3, 1) := by decide +kernel
theorem dX12_lowLog_13 : decode cX12_lowLog 13 = .ok (.lconst 0, 1) := by decide +kernel
theorem dX12_lowLog_14 : decode cX12_lowLog 14 = .ok (.lstore 5, 2) := by decide +kernel
theorem dX12_lowLog_16 : decode cX12_lowLog 16 = .ok (.iconst 0, 1) := by decide +kernel
theorem dX12_lowLog_17 : decode cX12_lowLog 17 = .ok (.istore 7, 2) := by decide +kernel
theorem dX12_lowLog_19 : decode cX12_lowLog 19 = .ok (.iload 7, 2) := by decide +kernel
theorem dX12_lowLog_21 : decode cX12_lowLog 21 = .ok (.iload_n 1, 1) := by decide +kernel
theorem dX12_lowLog_22 : decode cX12_lowLog 22 = .ok (.if_icmp .ge 45, 3) := by decide +kernel
theorem dX12_lowLog_25 : decode cX12_lowLog 25 = .ok (.lload_n 3, 1) := by decide +kernel
theorem dX12_lowLog_26 : decode cX12_lowLog 26 = .ok (.lload_n 3, 1) := by decide +kernel
theorem dX12_lowLog_27 : decode cX12_lowLog 27 = .ok (.lmul, 1) := by decide +kernel
theorem dX12_lowLog_28 : decode cX12_lowLog 28 = .ok (.ldc2_w 96, 3) := by decide +kernel
theorem dX12_lowLog_31 : decode cX12_lowLog 31 = .ok (.ldiv, 1) := by decide +kernel
theorem dX12_lowLog_32 : decode cX12_lowLog 32 = .ok (.lstore_n 3, 1) := by decide +kernel
theorem dX12_lowLog_33 : decode cX12_lowLog 33 = .ok (.ldc2_w 98, 3) := by decide +kernel
theorem dX12_lowLog_36 : decode cX12_lowLog 36 = .ok (.lload 5, 2) := by decide +kernel
theorem dX12_lowLog_38 : decode cX12_lowLog 38 = .ok (.lmul, 1) := by decide +kernel
theorem dX12_lowLog_39 : decode cX12_lowLog 39 = .ok (.lstore 5, 2) := by decide +kernel
theorem dX12_lowLog_41 : decode cX12_lowLog 41 = .ok (.lload_n 3, 1) := by decide +kernel
theorem dX12_lowLog_42 : decode cX12_lowLog 42 = .ok (.ldc2_w 100, 3) := by decide +kernel
theorem dX12_lowLog_45 : decode cX12_lowLog 45 = .ok (.lcmp, 1) := by decide +kernel
theorem dX12_lowLog_46 : decode cX12_lowLog 46 = .ok (.ifCond .lt 15, 3) := by decide +kernel
theorem dX12_lowLog_49 : decode cX12_lowLog 49 = .ok (.lload 5, 2) := by decide +kernel
theorem dX12_lowLog_51 : decode cX12_lowLog 51 = .ok (.lconst 1, 1) := by decide +kernel
theorem dX12_lowLog_52 : decode cX12_lowLog 52 = .ok (.ladd, 1) := by decide +kernel
theorem dX12_lowLog_53 : decode cX12_lowLog 53 = .ok (.lstore 5, 2) := by decide +kernel
theorem dX12_lowLog_55 : decode cX12_lowLog 55 = .ok (.lload_n 3, 1) := by decide +kernel
theorem dX12_lowLog_56 : decode cX12_lowLog 56 = .ok (.ldc2_w 98, 3) := by decide +kernel
theorem dX12_lowLog_59 : decode cX12_lowLog 59 = .ok (.ldiv, 1) := by decide +kernel
theorem dX12_lowLog_60 : decode cX12_lowLog 60 = .ok (.lstore_n 3, 1) := by decide +kernel
theorem dX12_lowLog_61 : decode cX12_lowLog 61 = .ok (.iinc 7 1, 3) := by decide +kernel
theorem dX12_lowLog_64 : decode cX12_lowLog 64 = .ok (.goto (-45), 3) := by decide +kernel
theorem dX12_lowLog_67 : decode cX12_lowLog 67 = .ok (.iload_n 2, 1) := by decide +kernel
theorem dX12_lowLog_68 : decode cX12_lowLog 68 = .ok (.i2l, 1) := by decide +kernel
theorem dX12_lowLog_69 : decode cX12_lowLog 69 = .ok (.iload_n 1, 1) := by decide +kernel
theorem dX12_lowLog_70 : decode cX12_lowLog 70 = .ok (.lshl, 1) := by decide +kernel
theorem dX12_lowLog_71 : decode cX12_lowLog 71 = .ok (.lload 5, 2) := by decide +kernel
theorem dX12_lowLog_73 : decode cX12_lowLog 73 = .ok (.ladd, 1) := by decide +kernel
theorem dX12_lowLog_74 : decode cX12_lowLog 74 = .ok (.lreturn, 1) := by decide +kernel
theorem dX12_highLog_0 : decode cX12_highLog 0 = .ok (.iload_n 0, 1) := by decide +kernel
theorem dX12_highLog_1 : decode cX12_highLog 1 = .ok (.invokestatic 92, 3) := by decide +kernel
theorem dX12_highLog_4 : decode cX12_highLog 4 = .ok (.istore_n 2, 1) := by decide +kernel
theorem dX12_highLog_5 : decode cX12_highLog 5 = .ok (.iload_n 0, 1) := by decide +kernel
theorem dX12_highLog_6 : decode cX12_highLog 6 = .ok (.iconst 1, 1) := by decide +kernel
theorem dX12_highLog_7 : decode cX12_highLog 7 = .ok (.iload_n 2, 1) := by decide +kernel
theorem dX12_highLog_8 : decode cX12_highLog 8 = .ok (.ishl, 1) := by decide +kernel
theorem dX12_highLog_9 : decode cX12_highLog 9 = .ok (.if_icmp .ne 8, 3) := by decide +kernel
theorem dX12_highLog_12 : decode cX12_highLog 12 = .ok (.iload_n 2, 1) := by decide +kernel
theorem dX12_highLog_13 : decode cX12_highLog 13 = .ok (.i2l, 1) := by decide +kernel
theorem dX12_highLog_14 : decode cX12_highLog 14 = .ok (.iload_n 1, 1) := by decide +kernel
theorem dX12_highLog_15 : decode cX12_highLog 15 = .ok (.lshl, 1) := by decide +kernel
theorem dX12_highLog_16 : decode cX12_highLog 16 = .ok (.lreturn, 1) := by decide +kernel
theorem dX12_highLog_17 : decode cX12_highLog 17 = .ok (.iload_n 0, 1) := by decide +kernel
theorem dX12_highLog_18 : decode cX12_highLog 18 = .ok (.i2l, 1) := by decide +kernel
theorem dX12_highLog_19 : decode cX12_highLog 19 = .ok (.bipush 30, 2) := by decide +kernel
theorem dX12_highLog_21 : decode cX12_highLog 21 = .ok (.iload_n 2, 1) := by decide +kernel
theorem dX12_highLog_22 : decode cX12_highLog 22 = .ok (.isub, 1) := by decide +kernel
theorem dX12_highLog_23 : decode cX12_highLog 23 = .ok (.lshl, 1) := by decide +kernel
theorem dX12_highLog_24 : decode cX12_highLog 24 = .ok (.lstore_n 3, 1) := by decide +kernel
theorem dX12_highLog_25 : decode cX12_highLog 25 = .ok (.lconst 0, 1) := by decide +kernel
theorem dX12_highLog_26 : decode cX12_highLog 26 = .ok (.lstore 5, 2) := by decide +kernel
theorem dX12_highLog_28 : decode cX12_highLog 28 = .ok (.iconst 0, 1) := by decide +kernel
theorem dX12_highLog_29 : decode cX12_highLog 29 = .ok (.istore 7, 2) := by decide +kernel
theorem dX12_highLog_31 : decode cX12_highLog 31 = .ok (.iload 7, 2) := by decide +kernel
theorem dX12_highLog_33 : decode cX12_highLog 33 = .ok (.iload_n 1, 1) := by decide +kernel
theorem dX12_highLog_34 : decode cX12_highLog 34 = .ok (.if_icmp .ge 72, 3) := by decide +kernel
theorem dX12_highLog_37 : decode cX12_highLog 37 = .ok (.lload_n 3, 1) := by decide +kernel
theorem dX12_highLog_38 : decode cX12_highLog 38 = .ok (.lload_n 3, 1) := by decide +kernel
theorem dX12_highLog_39 : decode cX12_highLog 39 = .ok (.lmul, 1) := by decide +kernel
theorem dX12_highLog_40 : decode cX12_highLog 40 = .ok (.lstore 8, 2) := by decide +kernel
theorem dX12_highLog_42 : decode cX12_highLog 42 = .ok (.lload 8, 2) := by decide +kernel
theorem dX12_highLog_44 : decode cX12_highLog 44 = .ok (.ldc2_w 96, 3) := by decide +kernel
theorem dX12_highLog_47 : decode cX12_highLog 47 = .ok (.ldiv, 1) := by decide +kernel
theorem dX12_highLog_48 : decode cX12_highLog 48 = .ok (.lload 8, 2) := by decide +kernel
theorem dX12_highLog_50 : decode cX12_highLog 50 = .ok (.ldc2_w 96, 3) := by decide +kernel
theorem dX12_highLog_53 : decode cX12_highLog 53 = .ok (.lrem, 1) := by decide +kernel
theorem dX12_highLog_54 : decode cX12_highLog 54 = .ok (.lconst 0, 1) := by decide +kernel
theorem dX12_highLog_55 : decode cX12_highLog 55 = .ok (.lcmp, 1) := by decide +kernel
theorem dX12_highLog_56 : decode cX12_highLog 56 = .ok (.ifCond .ne 7, 3) := by decide +kernel
theorem dX12_highLog_59 : decode cX12_highLog 59 = .ok (.lconst 0, 1) := by decide +kernel
theorem dX12_highLog_60 : decode cX12_highLog 60 = .ok (.goto 4, 3) := by decide +kernel
theorem dX12_highLog_63 : decode cX12_highLog 63 = .ok (.lconst 1, 1) := by decide +kernel
theorem dX12_highLog_64 : decode cX12_highLog 64 = .ok (.ladd, 1) := by decide +kernel
theorem dX12_highLog_65 : decode cX12_highLog 65 = .ok (.lstore_n 3, 1) := by decide +kernel
theorem dX12_highLog_66 : decode cX12_highLog 66 = .ok (.ldc2_w 98, 3) := by decide +kernel
theorem dX12_highLog_69 : decode cX12_highLog 69 = .ok (.lload 5, 2) := by decide +kernel
theorem dX12_highLog_71 : decode cX12_highLog 71 = .ok (.lmul, 1) := by decide +kernel
theorem dX12_highLog_72 : decode cX12_highLog 72 = .ok (.lstore 5, 2) := by decide +kernel
theorem dX12_highLog_74 : decode cX12_highLog 74 = .ok (.lload_n 3, 1) := by decide +kernel
theorem dX12_highLog_75 : decode cX12_highLog 75 = .ok (.ldc2_w 100, 3) := by decide +kernel
theorem dX12_highLog_78 : decode cX12_highLog 78 = .ok (.lcmp, 1) := by decide +kernel
theorem dX12_highLog_79 : decode cX12_highLog 79 = .ok (.ifCond .lt 21, 3) := by decide +kernel
theorem dX12_highLog_82 : decode cX12_highLog 82 = .ok (.lload 5, 2) := by decide +kernel
theorem dX12_highLog_84 : decode cX12_highLog 84 = .ok (.lconst 1, 1) := by decide +kernel
theorem dX12_highLog_85 : decode cX12_highLog 85 = .ok (.ladd, 1) := by decide +kernel
theorem dX12_highLog_86 : decode cX12_highLog 86 = .ok (.lstore 5, 2) := by decide +kernel
theorem dX12_highLog_88 : decode cX12_highLog 88 = .ok (.lload_n 3, 1) := by decide +kernel
theorem dX12_highLog_89 : decode cX12_highLog 89 = .ok (.ldc2_w 98, 3) := by decide +kernel
theorem dX12_highLog_92 : decode cX12_highLog 92 = .ok (.ldiv, 1) := by decide +kernel
theorem dX12_highLog_93 : decode cX12_highLog 93 = .ok (.lload_n 3, 1) := by decide +kernel
theorem dX12_highLog_94 : decode cX12_highLog 94 = .ok (.ldc2_w 98, 3) := by decide +kernel
theorem dX12_highLog_97 : decode cX12_highLog 97 = .ok (.lrem, 1) := by decide +kernel
theorem dX12_highLog_98 : decode cX12_highLog 98 = .ok (.ladd, 1) := by decide +kernel
theorem dX12_highLog_99 : decode cX12_highLog 99 = .ok (.lstore_n 3, 1) := by decide +kernel
theorem dX12_highLog_100 : decode cX12_highLog 100 = .ok (.iinc 7 1, 3) := by decide +kernel
theorem dX12_highLog_103 : decode cX12_highLog 103 = .ok (.goto (-72), 3) := by decide +kernel
theorem dX12_highLog_106 : decode cX12_highLog 106 = .ok (.iload_n 2, 1) := by decide +kernel
theorem dX12_highLog_107 : decode cX12_highLog 107 = .ok (.i2l, 1) := by decide +kernel
theorem dX12_highLog_108 : decode cX12_highLog 108 = .ok (.iload_n 1, 1) := by decide +kernel
theorem dX12_highLog_109 : decode cX12_highLog 109 = .ok (.lshl, 1) := by decide +kernel
theorem dX12_highLog_110 : decode cX12_highLog 110 = .ok (.lload 5, 2) := by decide +kernel
theorem dX12_highLog_112 : decode cX12_highLog 112 = .ok (.ladd, 1) := by decide +kernel
theorem dX12_highLog_113 : decode cX12_highLog 113 = .ok (.lconst 1, 1) := by decide +kernel
theorem dX12_highLog_114 : decode cX12_highLog 114 = .ok (.ladd, 1) := by decide +kernel
theorem dX12_highLog_115 : decode cX12_highLog 115 = .ok (.lreturn, 1) := by decide +kernel
theorem dX12_log_0 : decode cX12_log 0 = .ok (.aload_n 0, 1) := by decide +kernel
theorem dX12_log_1 : decode cX12_log 1 = .ok (.iconst 0, 1) := by decide +kernel
theorem dX12_log_2 : decode cX12_log 2 = .ok (.putfield 59, 3) := by decide +kernel
theorem dX12_log_5 : decode cX12_log 5 = .ok (.iload_n 1, 1) := by decide +kernel
theorem dX12_log_6 : decode cX12_log 6 = .ok (.i2l, 1) := by decide +kernel
theorem dX12_log_7 : decode cX12_log 7 = .ok (.lconst 1, 1) := by decide +kernel
theorem dX12_log_8 : decode cX12_log 8 = .ok (.ldc2_w 102, 3) := by decide +kernel
theorem dX12_log_11 : decode cX12_log 11 = .ok (.invokestatic 64, 3) := by decide +kernel
theorem dX12_log_14 : decode cX12_log 14 = .ok (.ifCond .eq 25, 3) := by decide +kernel
theorem dX12_log_17 : decode cX12_log 17 = .ok (.iload_n 2, 1) := by decide +kernel
theorem dX12_log_18 : decode cX12_log 18 = .ok (.i2l, 1) := by decide +kernel
theorem dX12_log_19 : decode cX12_log 19 = .ok (.lconst 0, 1) := by decide +kernel
theorem dX12_log_20 : decode cX12_log 20 = .ok (.ldc2_w 104, 3) := by decide +kernel
theorem dX12_log_23 : decode cX12_log 23 = .ok (.invokestatic 64, 3) := by decide +kernel
theorem dX12_log_26 : decode cX12_log 26 = .ok (.ifCond .eq 13, 3) := by decide +kernel
theorem dX12_log_29 : decode cX12_log 29 = .ok (.iload_n 3, 1) := by decide +kernel
theorem dX12_log_30 : decode cX12_log 30 = .ok (.i2l, 1) := by decide +kernel
theorem dX12_log_31 : decode cX12_log 31 = .ok (.lconst 0, 1) := by decide +kernel
theorem dX12_log_32 : decode cX12_log 32 = .ok (.lconst 1, 1) := by decide +kernel
theorem dX12_log_33 : decode cX12_log 33 = .ok (.invokestatic 64, 3) := by decide +kernel
theorem dX12_log_36 : decode cX12_log 36 = .ok (.ifCond .ne 7, 3) := by decide +kernel
theorem dX12_log_39 : decode cX12_log 39 = .ok (.ldc2_w 90, 3) := by decide +kernel
theorem dX12_log_42 : decode cX12_log 42 = .ok (.lreturn, 1) := by decide +kernel
theorem dX12_log_43 : decode cX12_log 43 = .ok (.iload_n 3, 1) := by decide +kernel
theorem dX12_log_44 : decode cX12_log 44 = .ok (.ifCond .ne 11, 3) := by decide +kernel
theorem dX12_log_47 : decode cX12_log 47 = .ok (.iload_n 1, 1) := by decide +kernel
theorem dX12_log_48 : decode cX12_log 48 = .ok (.iload_n 2, 1) := by decide +kernel
theorem dX12_log_49 : decode cX12_log 49 = .ok (.invokestatic 106, 3) := by decide +kernel
theorem dX12_log_52 : decode cX12_log 52 = .ok (.goto 8, 3) := by decide +kernel
theorem dX12_log_55 : decode cX12_log 55 = .ok (.iload_n 1, 1) := by decide +kernel
theorem dX12_log_56 : decode cX12_log 56 = .ok (.iload_n 2, 1) := by decide +kernel
theorem dX12_log_57 : decode cX12_log 57 = .ok (.invokestatic 110, 3) := by decide +kernel
theorem dX12_log_60 : decode cX12_log 60 = .ok (.lreturn, 1) := by decide +kernel
theorem dX12_weight_0 : decode cX12_weight 0 = .ok (.aload_n 0, 1) := by decide +kernel
theorem dX12_weight_1 : decode cX12_weight 1 = .ok (.iconst 0, 1) := by decide +kernel
theorem dX12_weight_2 : decode cX12_weight 2 = .ok (.putfield 59, 3) := by decide +kernel
theorem dX12_weight_5 : decode cX12_weight 5 = .ok (.iload_n 1, 1) := by decide +kernel
theorem dX12_weight_6 : decode cX12_weight 6 = .ok (.invokestatic 68, 3) := by decide +kernel
theorem dX12_weight_9 : decode cX12_weight 9 = .ok (.ifCond .eq 15, 3) := by decide +kernel
theorem dX12_weight_12 : decode cX12_weight 12 = .ok (.iload_n 2, 1) := by decide +kernel
theorem dX12_weight_13 : decode cX12_weight 13 = .ok (.i2l, 1) := by decide +kernel
theorem dX12_weight_14 : decode cX12_weight 14 = .ok (.lconst 0, 1) := by decide +kernel
theorem dX12_weight_15 : decode cX12_weight 15 = .ok (.ldc2_w 113, 3) := by decide +kernel
theorem dX12_weight_18 : decode cX12_weight 18 = .ok (.invokestatic 64, 3) := by decide +kernel
theorem dX12_weight_21 : decode cX12_weight 21 = .ok (.ifCond .ne 5, 3) := by decide +kernel
theorem dX12_weight_24 : decode cX12_weight 24 = .ok (.iconst (-1), 1) := by decide +kernel
theorem dX12_weight_25 : decode cX12_weight 25 = .ok (.ireturn, 1) := by decide +kernel
theorem dX12_weight_26 : decode cX12_weight 26 = .ok (.aload_n 0, 1) := by decide +kernel
theorem dX12_weight_27 : decode cX12_weight 27 = .ok (.getfield 13, 3) := by decide +kernel
theorem dX12_weight_30 : decode cX12_weight 30 = .ok (.iload_n 1, 1) := by decide +kernel
theorem dX12_weight_31 : decode cX12_weight 31 = .ok (.iaload, 1) := by decide +kernel
theorem dX12_weight_32 : decode cX12_weight 32 = .ok (.istore_n 3, 1) := by decide +kernel
theorem dX12_weight_33 : decode cX12_weight 33 = .ok (.aload_n 0, 1) := by decide +kernel
theorem dX12_weight_34 : decode cX12_weight 34 = .ok (.getfield 13, 3) := by decide +kernel
theorem dX12_weight_37 : decode cX12_weight 37 = .ok (.iload_n 1, 1) := by decide +kernel
theorem dX12_weight_38 : decode cX12_weight 38 = .ok (.iload_n 2, 1) := by decide +kernel
theorem dX12_weight_39 : decode cX12_weight 39 = .ok (.iastore, 1) := by decide +kernel
theorem dX12_weight_40 : decode cX12_weight 40 = .ok (.iload_n 3, 1) := by decide +kernel
theorem dX12_weight_41 : decode cX12_weight 41 = .ok (.ireturn, 1) := by decide +kernel
theorem dX12_sumOfWeights_0 : decode cX12_sumOfWeights 0 = .ok (.iconst 0, 1) := by decide +kernel
theorem dX12_sumOfWeights_1 : decode cX12_sumOfWeights 1 = .ok (.istore_n 1, 1) := by decide +kernel
theorem dX12_sumOfWeights_2 : decode cX12_sumOfWeights 2 = .ok (.iconst 0, 1) := by decide +kernel
theorem dX12_sumOfWeights_3 : decode cX12_sumOfWeights 3 = .ok (.istore_n 2, 1) := by decide +kernel
theorem dX12_sumOfWeights_4 : decode cX12_sumOfWeights 4 = .ok (.iload_n 2, 1) := by decide +kernel
theorem dX12_sumOfWeights_5 : decode cX12_sumOfWeights 5 = .ok (.bipush 16, 2) := by decide +kernel
theorem dX12_sumOfWeights_7 : decode cX12_sumOfWeights 7 = .ok (.if_icmp .ge 18, 3) := by decide +kernel
theorem dX12_sumOfWeights_10 : decode cX12_sumOfWeights 10 = .ok (.iload_n 1, 1) := by decide +kernel
theorem dX12_sumOfWeights_11 : decode cX12_sumOfWeights 11 = .ok (.aload_n 0, 1) := by decide +kernel
theorem dX12_sumOfWeights_12 : decode cX12_sumOfWeights 12 = .ok (.getfield 13, 3) := by decide +kernel
theorem dX12_sumOfWeights_15 : decode cX12_sumOfWeights 15 = .ok (.iload_n 2, 1) := by decide +kernel
theorem dX12_sumOfWeights_16 : decode cX12_sumOfWeights 16 = .ok (.iaload, 1) := by decide +kernel
theorem dX12_sumOfWeights_17 : decode cX12_sumOfWeights 17 = .ok (.iadd, 1) := by decide +kernel
theorem dX12_sumOfWeights_18 : decode cX12_sumOfWeights 18 = .ok (.istore_n 1, 1) := by decide +kernel
theorem dX12_sumOfWeights_19 : decode cX12_sumOfWeights 19 = .ok (.iinc 2 1, 3) := by decide +kernel
theorem dX12_sumOfWeights_22 : decode cX12_sumOfWeights 22 = .ok (.goto (-18), 3) := by decide +kernel
theorem dX12_sumOfWeights_25 : decode cX12_sumOfWeights 25 = .ok (.iload_n 1, 1) := by decide +kernel
theorem dX12_sumOfWeights_26 : decode cX12_sumOfWeights 26 = .ok (.ireturn, 1) := by decide +kernel
theorem dX12_share_0 : decode cX12_share 0 = .ok (.aload_n 0, 1) := by decide +kernel
theorem dX12_share_1 : decode cX12_share 1 = .ok (.invokevirtual 115, 3) := by decide +kernel
theorem dX12_share_4 : decode cX12_share 4 = .ok (.istore_n 2, 1) := by decide +kernel
theorem dX12_share_5 : decode cX12_share 5 = .ok (.aload_n 0, 1) := by decide +kernel
theorem dX12_share_6 : decode cX12_share 6 = .ok (.iload_n 1, 1) := by decide +kernel
theorem dX12_share_7 : decode cX12_share 7 = .ok (.invokestatic 68, 3) := by decide +kernel
theorem dX12_share_10 : decode cX12_share 10 = .ok (.ifCond .ne 7, 3) := by decide +kernel
theorem dX12_share_13 : decode cX12_share 13 = .ok (.iconst 2, 1) := by decide +kernel
theorem dX12_share_14 : decode cX12_share 14 = .ok (.goto 12, 3) := by decide +kernel
theorem dX12_share_17 : decode cX12_share 17 = .ok (.iload_n 2, 1) := by decide +kernel
theorem dX12_share_18 : decode cX12_share 18 = .ok (.ifCond .ne 7, 3) := by decide +kernel
theorem dX12_share_21 : decode cX12_share 21 = .ok (.iconst 1, 1) := by decide +kernel
theorem dX12_share_22 : decode cX12_share 22 = .ok (.goto 4, 3) := by decide +kernel
theorem dX12_share_25 : decode cX12_share 25 = .ok (.iconst 0, 1) := by decide +kernel
theorem dX12_share_26 : decode cX12_share 26 = .ok (.putfield 59, 3) := by decide +kernel
theorem dX12_share_29 : decode cX12_share 29 = .ok (.aload_n 0, 1) := by decide +kernel
theorem dX12_share_30 : decode cX12_share 30 = .ok (.getfield 59, 3) := by decide +kernel
theorem dX12_share_33 : decode cX12_share 33 = .ok (.ifCond .ne 20, 3) := by decide +kernel
theorem dX12_share_36 : decode cX12_share 36 = .ok (.ldc2_w 119, 3) := by decide +kernel
theorem dX12_share_39 : decode cX12_share 39 = .ok (.aload_n 0, 1) := by decide +kernel
theorem dX12_share_40 : decode cX12_share 40 = .ok (.getfield 13, 3) := by decide +kernel
theorem dX12_share_43 : decode cX12_share 43 = .ok (.iload_n 1, 1) := by decide +kernel
theorem dX12_share_44 : decode cX12_share 44 = .ok (.iaload, 1) := by decide +kernel
theorem dX12_share_45 : decode cX12_share 45 = .ok (.i2l, 1) := by decide +kernel
theorem dX12_share_46 : decode cX12_share 46 = .ok (.lmul, 1) := by decide +kernel
theorem dX12_share_47 : decode cX12_share 47 = .ok (.iload_n 2, 1) := by decide +kernel
theorem dX12_share_48 : decode cX12_share 48 = .ok (.i2l, 1) := by decide +kernel
theorem dX12_share_49 : decode cX12_share 49 = .ok (.ldiv, 1) := by decide +kernel
theorem dX12_share_50 : decode cX12_share 50 = .ok (.goto 4, 3) := by decide +kernel
theorem dX12_share_53 : decode cX12_share 53 = .ok (.lconst 0, 1) := by decide +kernel
theorem dX12_share_54 : decode cX12_share 54 = .ok (.lreturn, 1) := by decide +kernel
theorem dX12_costOf_0 : decode cX12_costOf 0 = .ok (.iload_n 0, 1) := by decide +kernel
theorem dX12_costOf_1 : decode cX12_costOf 1 = .ok (.iload_n 1, 1) := by decide +kernel
theorem dX12_costOf_2 : decode cX12_costOf 2 = .ok (.if_icmp .ne 5, 3) := by decide +kernel
theorem dX12_costOf_5 : decode cX12_costOf 5 = .ok (.lconst 0, 1) := by decide +kernel
theorem dX12_costOf_6 : decode cX12_costOf 6 = .ok (.lreturn, 1) := by decide +kernel
theorem dX12_costOf_7 : decode cX12_costOf 7 = .ok (.iload_n 3, 1) := by decide +kernel
theorem dX12_costOf_8 : decode cX12_costOf 8 = .ok (.iconst 1, 1) := by decide +kernel
theorem dX12_costOf_9 : decode cX12_costOf 9 = .ok (.if_icmp .ne 15, 3) := by decide +kernel
theorem dX12_costOf_12 : decode cX12_costOf 12 = .ok (.iload_n 1, 1) := by decide +kernel
theorem dX12_costOf_13 : decode cX12_costOf 13 = .ok (.iload_n 2, 1) := by decide +kernel
theorem dX12_costOf_14 : decode cX12_costOf 14 = .ok (.invokestatic 110, 3) := by decide +kernel
theorem dX12_costOf_17 : decode cX12_costOf 17 = .ok (.iload_n 0, 1) := by decide +kernel
theorem dX12_costOf_18 : decode cX12_costOf 18 = .ok (.iload_n 2, 1) := by decide +kernel
theorem dX12_costOf_19 : decode cX12_costOf 19 = .ok (.invokestatic 106, 3) := by decide +kernel
theorem dX12_costOf_22 : decode cX12_costOf 22 = .ok (.lsub, 1) := by decide +kernel
theorem dX12_costOf_23 : decode cX12_costOf 23 = .ok (.lreturn, 1) := by decide +kernel
theorem dX12_costOf_24 : decode cX12_costOf 24 = .ok (.iload_n 1, 1) := by decide +kernel
theorem dX12_costOf_25 : decode cX12_costOf 25 = .ok (.iload_n 2, 1) := by decide +kernel
theorem dX12_costOf_26 : decode cX12_costOf 26 = .ok (.invokestatic 106, 3) := by decide +kernel
theorem dX12_costOf_29 : decode cX12_costOf 29 = .ok (.iload_n 0, 1) := by decide +kernel
theorem dX12_costOf_30 : decode cX12_costOf 30 = .ok (.iload_n 2, 1) := by decide +kernel
theorem dX12_costOf_31 : decode cX12_costOf 31 = .ok (.invokestatic 110, 3) := by decide +kernel
theorem dX12_costOf_34 : decode cX12_costOf 34 = .ok (.lsub, 1) := by decide +kernel
theorem dX12_costOf_35 : decode cX12_costOf 35 = .ok (.lstore 4, 2) := by decide +kernel
theorem dX12_costOf_37 : decode cX12_costOf 37 = .ok (.lload 4, 2) := by decide +kernel
theorem dX12_costOf_39 : decode cX12_costOf 39 = .ok (.lconst 0, 1) := by decide +kernel
theorem dX12_costOf_40 : decode cX12_costOf 40 = .ok (.lcmp, 1) := by decide +kernel
theorem dX12_costOf_41 : decode cX12_costOf 41 = .ok (.ifCond .ge 7, 3) := by decide +kernel
theorem dX12_costOf_44 : decode cX12_costOf 44 = .ok (.lconst 0, 1) := by decide +kernel
theorem dX12_costOf_45 : decode cX12_costOf 45 = .ok (.goto 5, 3) := by decide +kernel
theorem dX12_costOf_48 : decode cX12_costOf 48 = .ok (.lload 4, 2) := by decide +kernel
theorem dX12_costOf_50 : decode cX12_costOf 50 = .ok (.lreturn, 1) := by decide +kernel
theorem dX12_content_0 : decode cX12_content 0 = .ok (.aload_n 0, 1) := by decide +kernel
theorem dX12_content_1 : decode cX12_content 1 = .ok (.invokevirtual 87, 3) := by decide +kernel
theorem dX12_content_4 : decode cX12_content 4 = .ok (.lconst 0, 1) := by decide +kernel
theorem dX12_content_5 : decode cX12_content 5 = .ok (.lstore_n 3, 1) := by decide +kernel
theorem dX12_content_6 : decode cX12_content 6 = .ok (.iconst 0, 1) := by decide +kernel
theorem dX12_content_7 : decode cX12_content 7 = .ok (.istore 5, 2) := by decide +kernel
theorem dX12_content_9 : decode cX12_content 9 = .ok (.iload 5, 2) := by decide +kernel
theorem dX12_content_11 : decode cX12_content 11 = .ok (.aload_n 0, 1) := by decide +kernel
theorem dX12_content_12 : decode cX12_content 12 = .ok (.getfield 78, 3) := by decide +kernel
theorem dX12_content_15 : decode cX12_content 15 = .ok (.if_icmp .ge 66, 3) := by decide +kernel
theorem dX12_content_18 : decode cX12_content 18 = .ok (.iconst 0, 1) := by decide +kernel
theorem dX12_content_19 : decode cX12_content 19 = .ok (.istore 6, 2) := by decide +kernel
theorem dX12_content_21 : decode cX12_content 21 = .ok (.iload 6, 2) := by decide +kernel
theorem dX12_content_23 : decode cX12_content 23 = .ok (.bipush 16, 2) := by decide +kernel
theorem dX12_content_25 : decode cX12_content 25 = .ok (.if_icmp .ge 50, 3) := by decide +kernel
theorem dX12_content_28 : decode cX12_content 28 = .ok (.aload_n 0, 1) := by decide +kernel
theorem dX12_content_29 : decode cX12_content 29 = .ok (.getfield 19, 3) := by decide +kernel
theorem dX12_content_32 : decode cX12_content 32 = .ok (.bipush 16, 2) := by decide +kernel
theorem dX12_content_34 : decode cX12_content 34 = .ok (.iload 5, 2) := by decide +kernel
theorem dX12_content_36 : decode cX12_content 36 = .ok (.imul, 1) := by decide +kernel
theorem dX12_content_37 : decode cX12_content 37 = .ok (.iload 6, 2) := by decide +kernel
theorem dX12_content_39 : decode cX12_content 39 = .ok (.iadd, 1) := by decide +kernel
theorem dX12_content_40 : decode cX12_content 40 = .ok (.iaload, 1) := by decide +kernel
theorem dX12_content_41 : decode cX12_content 41 = .ok (.istore 7, 2) := by decide +kernel
theorem dX12_content_43 : decode cX12_content 43 = .ok (.iload 7, 2) := by decide +kernel
theorem dX12_content_45 : decode cX12_content 45 = .ok (.ifCond .le 24, 3) := by decide +kernel
theorem dX12_content_48 : decode cX12_content 48 = .ok (.lload_n 3, 1) := by decide +kernel
theorem dX12_content_49 : decode cX12_content 49 = .ok (.iload 7, 2) := by decide +kernel
theorem dX12_content_51 : decode cX12_content 51 = .ok (.i2l, 1) := by decide +kernel
theorem dX12_content_52 : decode cX12_content 52 = .ok (.iload 7, 2) := by decide +kernel
theorem dX12_content_54 : decode cX12_content 54 = .ok (.aload_n 0, 1) := by decide +kernel
theorem dX12_content_55 : decode cX12_content 55 = .ok (.getfield 22, 3) := by decide +kernel
theorem dX12_content_58 : decode cX12_content 58 = .ok (.iload 5, 2) := by decide +kernel
theorem dX12_content_60 : decode cX12_content 60 = .ok (.iaload, 1) := by decide +kernel
theorem dX12_content_61 : decode cX12_content 61 = .ok (.iload_n 1, 1) := by decide +kernel
theorem dX12_content_62 : decode cX12_content 62 = .ok (.iload_n 2, 1) := by decide +kernel
theorem dX12_content_63 : decode cX12_content 63 = .ok (.invokestatic 121, 3) := by decide +kernel
theorem dX12_content_66 : decode cX12_content 66 = .ok (.lmul, 1) := by decide +kernel
theorem dX12_content_67 : decode cX12_content 67 = .ok (.ladd, 1) := by decide +kernel
theorem dX12_content_68 : decode cX12_content 68 = .ok (.lstore_n 3, 1) := by decide +kernel
theorem dX12_content_69 : decode cX12_content 69 = .ok (.iinc 6 1, 3) := by decide +kernel
theorem dX12_content_72 : decode cX12_content 72 = .ok (.goto (-51), 3) := by decide +kernel
theorem dX12_content_75 : decode cX12_content 75 = .ok (.iinc 5 1, 3) := by decide +kernel
theorem dX12_content_78 : decode cX12_content 78 = .ok (.goto (-69), 3) := by decide +kernel
theorem dX12_content_81 : decode cX12_content 81 = .ok (.lload_n 3, 1) := by decide +kernel
theorem dX12_content_82 : decode cX12_content 82 = .ok (.lreturn, 1) := by decide +kernel
theorem dX12_often_0 : decode cX12_often 0 = .ok (.iconst 0, 1) := by decide +kernel
theorem dX12_often_1 : decode cX12_often 1 = .ok (.istore_n 3, 1) := by decide +kernel
theorem dX12_often_2 : decode cX12_often 2 = .ok (.iconst 0, 1) := by decide +kernel
theorem dX12_often_3 : decode cX12_often 3 = .ok (.istore 4, 2) := by decide +kernel
theorem dX12_often_5 : decode cX12_often 5 = .ok (.iload 4, 2) := by decide +kernel
theorem dX12_often_7 : decode cX12_often 7 = .ok (.iload_n 2, 1) := by decide +kernel
theorem dX12_often_8 : decode cX12_often 8 = .ok (.if_icmp .ge 28, 3) := by decide +kernel
theorem dX12_often_11 : decode cX12_often 11 = .ok (.iload_n 3, 1) := by decide +kernel
theorem dX12_often_12 : decode cX12_often 12 = .ok (.aload_n 0, 1) := by decide +kernel
theorem dX12_often_13 : decode cX12_often 13 = .ok (.getfield 7, 3) := by decide +kernel
theorem dX12_often_16 : decode cX12_often 16 = .ok (.iload 4, 2) := by decide +kernel
theorem dX12_often_18 : decode cX12_often 18 = .ok (.iaload, 1) := by decide +kernel
theorem dX12_often_19 : decode cX12_often 19 = .ok (.iload_n 1, 1) := by decide +kernel
theorem dX12_often_20 : decode cX12_often 20 = .ok (.if_icmp .ne 7, 3) := by decide +kernel
theorem dX12_often_23 : decode cX12_often 23 = .ok (.iconst 1, 1) := by decide +kernel
theorem dX12_often_24 : decode cX12_often 24 = .ok (.goto 4, 3) := by decide +kernel
theorem dX12_often_27 : decode cX12_often 27 = .ok (.iconst 0, 1) := by decide +kernel
theorem dX12_often_28 : decode cX12_often 28 = .ok (.iadd, 1) := by decide +kernel
theorem dX12_often_29 : decode cX12_often 29 = .ok (.istore_n 3, 1) := by decide +kernel
theorem dX12_often_30 : decode cX12_often 30 = .ok (.iinc 4 1, 3) := by decide +kernel
theorem dX12_often_33 : decode cX12_often 33 = .ok (.goto (-28), 3) := by decide +kernel
theorem dX12_often_36 : decode cX12_often 36 = .ok (.iload_n 3, 1) := by decide +kernel
theorem dX12_often_37 : decode cX12_often 37 = .ok (.ireturn, 1) := by decide +kernel
theorem dX12_cross_0 : decode cX12_cross 0 = .ok (.aload_n 0, 1) := by decide +kernel
theorem dX12_cross_1 : decode cX12_cross 1 = .ok (.invokevirtual 115, 3) := by decide +kernel
theorem dX12_cross_4 : decode cX12_cross 4 = .ok (.istore_n 3, 1) := by decide +kernel
theorem dX12_cross_5 : decode cX12_cross 5 = .ok (.lconst 0, 1) := by decide +kernel
theorem dX12_cross_6 : decode cX12_cross 6 = .ok (.lstore 4, 2) := by decide +kernel
theorem dX12_cross_8 : decode cX12_cross 8 = .ok (.iconst 0, 1) := by decide +kernel
theorem dX12_cross_9 : decode cX12_cross 9 = .ok (.istore 6, 2) := by decide +kernel
theorem dX12_cross_11 : decode cX12_cross 11 = .ok (.iload 6, 2) := by decide +kernel
theorem dX12_cross_13 : decode cX12_cross 13 = .ok (.bipush 16, 2) := by decide +kernel
theorem dX12_cross_15 : decode cX12_cross 15 = .ok (.if_icmp .ge 67, 3) := by decide +kernel
theorem dX12_cross_18 : decode cX12_cross 18 = .ok (.aload_n 0, 1) := by decide +kernel
theorem dX12_cross_19 : decode cX12_cross 19 = .ok (.iload 6, 2) := by decide +kernel
theorem dX12_cross_21 : decode cX12_cross 21 = .ok (.aload_n 0, 1) := by decide +kernel
theorem dX12_cross_22 : decode cX12_cross 22 = .ok (.getfield 72, 3) := by decide +kernel
theorem dX12_cross_25 : decode cX12_cross 25 = .ok (.invokevirtual 125, 3) := by decide +kernel
theorem dX12_cross_28 : decode cX12_cross 28 = .ok (.istore 7, 2) := by decide +kernel
theorem dX12_cross_30 : decode cX12_cross 30 = .ok (.iload 7, 2) := by decide +kernel
theorem dX12_cross_32 : decode cX12_cross 32 = .ok (.ifCond .le 17, 3) := by decide +kernel
theorem dX12_cross_35 : decode cX12_cross 35 = .ok (.aload_n 0, 1) := by decide +kernel
theorem dX12_cross_36 : decode cX12_cross 36 = .ok (.getfield 13, 3) := by decide +kernel
theorem dX12_cross_39 : decode cX12_cross 39 = .ok (.iload 6, 2) := by decide +kernel
theorem dX12_cross_41 : decode cX12_cross 41 = .ok (.iaload, 1) := by decide +kernel
theorem dX12_cross_42 : decode cX12_cross 42 = .ok (.ifCond .ne 7, 3) := by decide +kernel
theorem dX12_cross_45 : decode cX12_cross 45 = .ok (.ldc2_w 129, 3) := by decide +kernel
theorem dX12_cross_48 : decode cX12_cross 48 = .ok (.lreturn, 1) := by decide +kernel
theorem dX12_cross_49 : decode cX12_cross 49 = .ok (.iload 7, 2) := by decide +kernel
theorem dX12_cross_51 : decode cX12_cross 51 = .ok (.ifCond .le 25, 3) := by decide +kernel
theorem dX12_cross_54 : decode cX12_cross 54 = .ok (.lload 4, 2) := by decide +kernel
theorem dX12_cross_56 : decode cX12_cross 56 = .ok (.iload 7, 2) := by decide +kernel
theorem dX12_cross_58 : decode cX12_cross 58 = .ok (.i2l, 1) := by decide +kernel
theorem dX12_cross_59 : decode cX12_cross 59 = .ok (.aload_n 0, 1) := by decide +kernel
theorem dX12_cross_60 : decode cX12_cross 60 = .ok (.getfield 13, 3) := by decide +kernel
theorem dX12_cross_63 : decode cX12_cross 63 = .ok (.iload 6, 2) := by decide +kernel
theorem dX12_cross_65 : decode cX12_cross 65 = .ok (.iaload, 1) := by decide +kernel
theorem dX12_cross_66 : decode cX12_cross 66 = .ok (.iload_n 3, 1) := by decide +kernel
theorem dX12_cross_67 : decode cX12_cross 67 = .ok (.iload_n 1, 1) := by decide +kernel
theorem dX12_cross_68 : decode cX12_cross 68 = .ok (.iload_n 2, 1) := by decide +kernel
theorem dX12_cross_69 : decode cX12_cross 69 = .ok (.invokestatic 121, 3) := by decide +kernel
theorem dX12_cross_72 : decode cX12_cross 72 = .ok (.lmul, 1) := by decide +kernel
theorem dX12_cross_73 : decode cX12_cross 73 = .ok (.ladd, 1) := by decide +kernel
theorem dX12_cross_74 : decode cX12_cross 74 = .ok (.lstore 4, 2) := by decide +kernel
theorem dX12_cross_76 : decode cX12_cross 76 = .ok (.iinc 6 1, 3) := by decide +kernel
theorem dX12_cross_79 : decode cX12_cross 79 = .ok (.goto (-68), 3) := by decide +kernel
theorem dX12_cross_82 : decode cX12_cross 82 = .ok (.lload 4, 2) := by decide +kernel
theorem dX12_cross_84 : decode cX12_cross 84 = .ok (.lreturn, 1) := by decide +kernel
theorem dX12_growing_0 : decode cX12_growing 0 = .ok (.lconst 0, 1) := by decide +kernel
theorem dX12_growing_1 : decode cX12_growing 1 = .ok (.lstore_n 3, 1) := by decide +kernel
theorem dX12_growing_2 : decode cX12_growing 2 = .ok (.iconst 0, 1) := by decide +kernel
theorem dX12_growing_3 : decode cX12_growing 3 = .ok (.istore 5, 2) := by decide +kernel
theorem dX12_growing_5 : decode cX12_growing 5 = .ok (.iload 5, 2) := by decide +kernel
theorem dX12_growing_7 : decode cX12_growing 7 = .ok (.aload_n 0, 1) := by decide +kernel
theorem dX12_growing_8 : decode cX12_growing 8 = .ok (.getfield 72, 3) := by decide +kernel
theorem dX12_growing_11 : decode cX12_growing 11 = .ok (.if_icmp .ge 37, 3) := by decide +kernel
theorem dX12_growing_14 : decode cX12_growing 14 = .ok (.lload_n 3, 1) := by decide +kernel
theorem dX12_growing_15 : decode cX12_growing 15 = .ok (.aload_n 0, 1) := by decide +kernel
theorem dX12_growing_16 : decode cX12_growing 16 = .ok (.aload_n 0, 1) := by decide +kernel
theorem dX12_growing_17 : decode cX12_growing 17 = .ok (.getfield 7, 3) := by decide +kernel
theorem dX12_growing_20 : decode cX12_growing 20 = .ok (.iload 5, 2) := by decide +kernel
theorem dX12_growing_22 : decode cX12_growing 22 = .ok (.iaload, 1) := by decide +kernel
theorem dX12_growing_23 : decode cX12_growing 23 = .ok (.iload 5, 2) := by decide +kernel
theorem dX12_growing_25 : decode cX12_growing 25 = .ok (.invokevirtual 125, 3) := by decide +kernel
theorem dX12_growing_28 : decode cX12_growing 28 = .ok (.iconst 1, 1) := by decide +kernel
theorem dX12_growing_29 : decode cX12_growing 29 = .ok (.iadd, 1) := by decide +kernel
theorem dX12_growing_30 : decode cX12_growing 30 = .ok (.iload 5, 2) := by decide +kernel
theorem dX12_growing_32 : decode cX12_growing 32 = .ok (.bipush 16, 2) := by decide +kernel
theorem dX12_growing_34 : decode cX12_growing 34 = .ok (.iadd, 1) := by decide +kernel
theorem dX12_growing_35 : decode cX12_growing 35 = .ok (.iload_n 1, 1) := by decide +kernel
theorem dX12_growing_36 : decode cX12_growing 36 = .ok (.iload_n 2, 1) := by decide +kernel
theorem dX12_growing_37 : decode cX12_growing 37 = .ok (.invokestatic 121, 3) := by decide +kernel
theorem dX12_growing_40 : decode cX12_growing 40 = .ok (.ladd, 1) := by decide +kernel
theorem dX12_growing_41 : decode cX12_growing 41 = .ok (.lstore_n 3, 1) := by decide +kernel
theorem dX12_growing_42 : decode cX12_growing 42 = .ok (.iinc 5 1, 3) := by decide +kernel
theorem dX12_growing_45 : decode cX12_growing 45 = .ok (.goto (-40), 3) := by decide +kernel
theorem dX12_growing_48 : decode cX12_growing 48 = .ok (.lload_n 3, 1) := by decide +kernel
theorem dX12_growing_49 : decode cX12_growing 49 = .ok (.lreturn, 1) := by decide +kernel
theorem dX12_costBy_0 : decode cX12_costBy 0 = .ok (.iload_n 1, 1) := by decide +kernel
theorem dX12_costBy_1 : decode cX12_costBy 1 = .ok (.ifCond .ne 12, 3) := by decide +kernel
theorem dX12_costBy_4 : decode cX12_costBy 4 = .ok (.aload_n 0, 1) := by decide +kernel
theorem dX12_costBy_5 : decode cX12_costBy 5 = .ok (.iload_n 2, 1) := by decide +kernel
theorem dX12_costBy_6 : decode cX12_costBy 6 = .ok (.iload_n 3, 1) := by decide +kernel
theorem dX12_costBy_7 : decode cX12_costBy 7 = .ok (.invokevirtual 131, 3) := by decide +kernel
theorem dX12_costBy_10 : decode cX12_costBy 10 = .ok (.goto 23, 3) := by decide +kernel
theorem dX12_costBy_13 : decode cX12_costBy 13 = .ok (.iload_n 1, 1) := by decide +kernel
theorem dX12_costBy_14 : decode cX12_costBy 14 = .ok (.iconst 1, 1) := by decide +kernel
theorem dX12_costBy_15 : decode cX12_costBy 15 = .ok (.if_icmp .ne 12, 3) := by decide +kernel
theorem dX12_costBy_18 : decode cX12_costBy 18 = .ok (.aload_n 0, 1) := by decide +kernel
theorem dX12_costBy_19 : decode cX12_costBy 19 = .ok (.iload_n 2, 1) := by decide +kernel
theorem dX12_costBy_20 : decode cX12_costBy 20 = .ok (.iload_n 3, 1) := by decide +kernel
theorem dX12_costBy_21 : decode cX12_costBy 21 = .ok (.invokevirtual 134, 3) := by decide +kernel
theorem dX12_costBy_24 : decode cX12_costBy 24 = .ok (.goto 9, 3) := by decide +kernel
theorem dX12_costBy_27 : decode cX12_costBy 27 = .ok (.aload_n 0, 1) := by decide +kernel
theorem dX12_costBy_28 : decode cX12_costBy 28 = .ok (.iload_n 2, 1) := by decide +kernel
theorem dX12_costBy_29 : decode cX12_costBy 29 = .ok (.iload_n 3, 1) := by decide +kernel
theorem dX12_costBy_30 : decode cX12_costBy 30 = .ok (.invokevirtual 137, 3) := by decide +kernel
theorem dX12_costBy_33 : decode cX12_costBy 33 = .ok (.lreturn, 1) := by decide +kernel
theorem dX12_cost_0 : decode cX12_cost 0 = .ok (.aload_n 0, 1) := by decide +kernel
theorem dX12_cost_1 : decode cX12_cost 1 = .ok (.iconst 0, 1) := by decide +kernel
theorem dX12_cost_2 : decode cX12_cost 2 = .ok (.putfield 59, 3) := by decide +kernel
theorem dX12_cost_5 : decode cX12_cost 5 = .ok (.iload_n 1, 1) := by decide +kernel
theorem dX12_cost_6 : decode cX12_cost 6 = .ok (.i2l, 1) := by decide +kernel
theorem dX12_cost_7 : decode cX12_cost 7 = .ok (.lconst 0, 1) := by decide +kernel
theorem dX12_cost_8 : decode cX12_cost 8 = .ok (.ldc2_w 98, 3) := by decide +kernel
theorem dX12_cost_11 : decode cX12_cost 11 = .ok (.invokestatic 64, 3) := by decide +kernel
theorem dX12_cost_14 : decode cX12_cost 14 = .ok (.ifCond .eq 25, 3) := by decide +kernel
theorem dX12_cost_17 : decode cX12_cost 17 = .ok (.iload_n 2, 1) := by decide +kernel
theorem dX12_cost_18 : decode cX12_cost 18 = .ok (.i2l, 1) := by decide +kernel
theorem dX12_cost_19 : decode cX12_cost 19 = .ok (.lconst 0, 1) := by decide +kernel
theorem dX12_cost_20 : decode cX12_cost 20 = .ok (.ldc2_w 104, 3) := by decide +kernel
theorem dX12_cost_23 : decode cX12_cost 23 = .ok (.invokestatic 64, 3) := by decide +kernel
theorem dX12_cost_26 : decode cX12_cost 26 = .ok (.ifCond .eq 13, 3) := by decide +kernel
theorem dX12_cost_29 : decode cX12_cost 29 = .ok (.iload_n 3, 1) := by decide +kernel
theorem dX12_cost_30 : decode cX12_cost 30 = .ok (.i2l, 1) := by decide +kernel
theorem dX12_cost_31 : decode cX12_cost 31 = .ok (.lconst 0, 1) := by decide +kernel
theorem dX12_cost_32 : decode cX12_cost 32 = .ok (.lconst 1, 1) := by decide +kernel
theorem dX12_cost_33 : decode cX12_cost 33 = .ok (.invokestatic 64, 3) := by decide +kernel
theorem dX12_cost_36 : decode cX12_cost 36 = .ok (.ifCond .ne 7, 3) := by decide +kernel
theorem dX12_cost_39 : decode cX12_cost 39 = .ok (.ldc2_w 90, 3) := by decide +kernel
theorem dX12_cost_42 : decode cX12_cost 42 = .ok (.lreturn, 1) := by decide +kernel
theorem dX12_cost_43 : decode cX12_cost 43 = .ok (.aload_n 0, 1) := by decide +kernel
theorem dX12_cost_44 : decode cX12_cost 44 = .ok (.iload_n 1, 1) := by decide +kernel
theorem dX12_cost_45 : decode cX12_cost 45 = .ok (.iload_n 2, 1) := by decide +kernel
theorem dX12_cost_46 : decode cX12_cost 46 = .ok (.iload_n 3, 1) := by decide +kernel
theorem dX12_cost_47 : decode cX12_cost 47 = .ok (.invokevirtual 140, 3) := by decide +kernel
theorem dX12_cost_50 : decode cX12_cost 50 = .ok (.lreturn, 1) := by decide +kernel
theorem dX12_digits_0 : decode cX12_digits 0 = .ok (.aload_n 0, 1) := by decide +kernel
theorem dX12_digits_1 : decode cX12_digits 1 = .ok (.iconst 0, 1) := by decide +kernel
theorem dX12_digits_2 : decode cX12_digits 2 = .ok (.putfield 59, 3) := by decide +kernel
theorem dX12_digits_5 : decode cX12_digits 5 = .ok (.iload_n 1, 1) := by decide +kernel
theorem dX12_digits_6 : decode cX12_digits 6 = .ok (.i2l, 1) := by decide +kernel
theorem dX12_digits_7 : decode cX12_digits 7 = .ok (.lconst 0, 1) := by decide +kernel
theorem dX12_digits_8 : decode cX12_digits 8 = .ok (.ldc2_w 98, 3) := by decide +kernel
theorem dX12_digits_11 : decode cX12_digits 11 = .ok (.invokestatic 64, 3) := by decide +kernel
theorem dX12_digits_14 : decode cX12_digits 14 = .ok (.ifCond .eq 15, 3) := by decide +kernel
theorem dX12_digits_17 : decode cX12_digits 17 = .ok (.iload_n 2, 1) := by decide +kernel
theorem dX12_digits_18 : decode cX12_digits 18 = .ok (.i2l, 1) := by decide +kernel
theorem dX12_digits_19 : decode cX12_digits 19 = .ok (.lconst 0, 1) := by decide +kernel
theorem dX12_digits_20 : decode cX12_digits 20 = .ok (.ldc2_w 119, 3) := by decide +kernel
theorem dX12_digits_23 : decode cX12_digits 23 = .ok (.invokestatic 64, 3) := by decide +kernel
theorem dX12_digits_26 : decode cX12_digits 26 = .ok (.ifCond .ne 5, 3) := by decide +kernel
theorem dX12_digits_29 : decode cX12_digits 29 = .ok (.iconst (-1), 1) := by decide +kernel
theorem dX12_digits_30 : decode cX12_digits 30 = .ok (.ireturn, 1) := by decide +kernel
theorem dX12_digits_31 : decode cX12_digits 31 = .ok (.iconst 0, 1) := by decide +kernel
theorem dX12_digits_32 : decode cX12_digits 32 = .ok (.istore_n 3, 1) := by decide +kernel
theorem dX12_digits_33 : decode cX12_digits 33 = .ok (.iload_n 3, 1) := by decide +kernel
theorem dX12_digits_34 : decode cX12_digits 34 = .ok (.bipush 24, 2) := by decide +kernel
theorem dX12_digits_36 : decode cX12_digits 36 = .ok (.if_icmp .gt 52, 3) := by decide +kernel
theorem dX12_digits_39 : decode cX12_digits 39 = .ok (.aload_n 0, 1) := by decide +kernel
theorem dX12_digits_40 : decode cX12_digits 40 = .ok (.iload_n 1, 1) := by decide +kernel
theorem dX12_digits_41 : decode cX12_digits 41 = .ok (.iload_n 3, 1) := by decide +kernel
theorem dX12_digits_42 : decode cX12_digits 42 = .ok (.iconst 0, 1) := by decide +kernel
theorem dX12_digits_43 : decode cX12_digits 43 = .ok (.invokevirtual 140, 3) := by decide +kernel
theorem dX12_digits_46 : decode cX12_digits 46 = .ok (.lstore 4, 2) := by decide +kernel
theorem dX12_digits_48 : decode cX12_digits 48 = .ok (.lload 4, 2) := by decide +kernel
theorem dX12_digits_50 : decode cX12_digits 50 = .ok (.lconst 0, 1) := by decide +kernel
theorem dX12_digits_51 : decode cX12_digits 51 = .ok (.lcmp, 1) := by decide +kernel
theorem dX12_digits_52 : decode cX12_digits 52 = .ok (.ifCond .ge 6, 3) := by decide +kernel
theorem dX12_digits_55 : decode cX12_digits 55 = .ok (.bipush (-2), 2) := by decide +kernel
theorem dX12_digits_57 : decode cX12_digits 57 = .ok (.ireturn, 1) := by decide +kernel
theorem dX12_digits_58 : decode cX12_digits 58 = .ok (.ldc2_w 144, 3) := by decide +kernel
theorem dX12_digits_61 : decode cX12_digits 61 = .ok (.aload_n 0, 1) := by decide +kernel
theorem dX12_digits_62 : decode cX12_digits 62 = .ok (.iload_n 1, 1) := by decide +kernel
theorem dX12_digits_63 : decode cX12_digits 63 = .ok (.iload_n 3, 1) := by decide +kernel
theorem dX12_digits_64 : decode cX12_digits 64 = .ok (.iconst 1, 1) := by decide +kernel
theorem dX12_digits_65 : decode cX12_digits 65 = .ok (.invokevirtual 140, 3) := by decide +kernel
theorem dX12_digits_68 : decode cX12_digits 68 = .ok (.lload 4, 2) := by decide +kernel
theorem dX12_digits_70 : decode cX12_digits 70 = .ok (.lsub, 1) := by decide +kernel
theorem dX12_digits_71 : decode cX12_digits 71 = .ok (.lmul, 1) := by decide +kernel
theorem dX12_digits_72 : decode cX12_digits 72 = .ok (.iload_n 2, 1) := by decide +kernel
theorem dX12_digits_73 : decode cX12_digits 73 = .ok (.i2l, 1) := by decide +kernel
theorem dX12_digits_74 : decode cX12_digits 74 = .ok (.iload_n 3, 1) := by decide +kernel
theorem dX12_digits_75 : decode cX12_digits 75 = .ok (.lshl, 1) := by decide +kernel
theorem dX12_digits_76 : decode cX12_digits 76 = .ok (.lcmp, 1) := by decide +kernel
theorem dX12_digits_77 : decode cX12_digits 77 = .ok (.ifCond .gt 5, 3) := by decide +kernel
theorem dX12_digits_80 : decode cX12_digits 80 = .ok (.iload_n 3, 1) := by decide +kernel
theorem dX12_digits_81 : decode cX12_digits 81 = .ok (.ireturn, 1) := by decide +kernel
theorem dX12_digits_82 : decode cX12_digits 82 = .ok (.iinc 3 1, 3) := by decide +kernel
theorem dX12_digits_85 : decode cX12_digits 85 = .ok (.goto (-52), 3) := by decide +kernel
theorem dX12_digits_88 : decode cX12_digits 88 = .ok (.bipush (-2), 2) := by decide +kernel
theorem dX12_digits_90 : decode cX12_digits 90 = .ok (.ireturn, 1) := by decide +kernel
theorem dX12_takeLeast_0 : decode cX12_takeLeast 0 = .ok (.iconst 0, 1) := by decide +kernel
theorem dX12_takeLeast_1 : decode cX12_takeLeast 1 = .ok (.istore_n 1, 1) := by decide +kernel
theorem dX12_takeLeast_2 : decode cX12_takeLeast 2 = .ok (.iconst 1, 1) := by decide +kernel
theorem dX12_takeLeast_3 : decode cX12_takeLeast 3 = .ok (.istore_n 2, 1) := by decide +kernel
theorem dX12_takeLeast_4 : decode cX12_takeLeast 4 = .ok (.iload_n 2, 1) := by decide +kernel
theorem dX12_takeLeast_5 : decode cX12_takeLeast 5 = .ok (.aload_n 0, 1) := by decide +kernel
theorem dX12_takeLeast_6 : decode cX12_takeLeast 6 = .ok (.getfield 146, 3) := by decide +kernel
theorem dX12_takeLeast_9 : decode cX12_takeLeast 9 = .ok (.if_icmp .ge 30, 3) := by decide +kernel
theorem dX12_takeLeast_12 : decode cX12_takeLeast 12 = .ok (.aload_n 0, 1) := by decide +kernel
theorem dX12_takeLeast_13 : decode cX12_takeLeast 13 = .ok (.getfield 25, 3) := by decide +kernel
theorem dX12_takeLeast_16 : decode cX12_takeLeast 16 = .ok (.iload_n 2, 1) := by decide +kernel
theorem dX12_takeLeast_17 : decode cX12_takeLeast 17 = .ok (.iaload, 1) := by decide +kernel
theorem dX12_takeLeast_18 : decode cX12_takeLeast 18 = .ok (.aload_n 0, 1) := by decide +kernel
theorem dX12_takeLeast_19 : decode cX12_takeLeast 19 = .ok (.getfield 25, 3) := by decide +kernel
theorem dX12_takeLeast_22 : decode cX12_takeLeast 22 = .ok (.iload_n 1, 1) := by decide +kernel
theorem dX12_takeLeast_23 : decode cX12_takeLeast 23 = .ok (.iaload, 1) := by decide +kernel
theorem dX12_takeLeast_24 : decode cX12_takeLeast 24 = .ok (.if_icmp .ge 7, 3) := by decide +kernel
theorem dX12_takeLeast_27 : decode cX12_takeLeast 27 = .ok (.iload_n 2, 1) := by decide +kernel
theorem dX12_takeLeast_28 : decode cX12_takeLeast 28 = .ok (.goto 4, 3) := by decide +kernel
theorem dX12_takeLeast_31 : decode cX12_takeLeast 31 = .ok (.iload_n 1, 1) := by decide +kernel
theorem dX12_takeLeast_32 : decode cX12_takeLeast 32 = .ok (.istore_n 1, 1) := by decide +kernel
theorem dX12_takeLeast_33 : decode cX12_takeLeast 33 = .ok (.iinc 2 1, 3) := by decide +kernel
theorem dX12_takeLeast_36 : decode cX12_takeLeast 36 = .ok (.goto (-32), 3) := by decide +kernel
theorem dX12_takeLeast_39 : decode cX12_takeLeast 39 = .ok (.aload_n 0, 1) := by decide +kernel
theorem dX12_takeLeast_40 : decode cX12_takeLeast 40 = .ok (.aload_n 0, 1) := by decide +kernel
theorem dX12_takeLeast_41 : decode cX12_takeLeast 41 = .ok (.getfield 25, 3) := by decide +kernel
theorem dX12_takeLeast_44 : decode cX12_takeLeast 44 = .ok (.iload_n 1, 1) := by decide +kernel
theorem dX12_takeLeast_45 : decode cX12_takeLeast 45 = .ok (.iaload, 1) := by decide +kernel
theorem dX12_takeLeast_46 : decode cX12_takeLeast 46 = .ok (.putfield 149, 3) := by decide +kernel
theorem dX12_takeLeast_49 : decode cX12_takeLeast 49 = .ok (.aload_n 0, 1) := by decide +kernel
theorem dX12_takeLeast_50 : decode cX12_takeLeast 50 = .ok (.getfield 28, 3) := by decide +kernel
theorem dX12_takeLeast_53 : decode cX12_takeLeast 53 = .ok (.iload_n 1, 1) := by decide +kernel
theorem dX12_takeLeast_54 : decode cX12_takeLeast 54 = .ok (.iaload, 1) := by decide +kernel
theorem dX12_takeLeast_55 : decode cX12_takeLeast 55 = .ok (.istore_n 2, 1) := by decide +kernel
theorem dX12_takeLeast_56 : decode cX12_takeLeast 56 = .ok (.aload_n 0, 1) := by decide +kernel
theorem dX12_takeLeast_57 : decode cX12_takeLeast 57 = .ok (.dup, 1) := by decide +kernel
theorem dX12_takeLeast_58 : decode cX12_takeLeast 58 = .ok (.getfield 146, 3) := by decide +kernel
theorem dX12_takeLeast_61 : decode cX12_takeLeast 61 = .ok (.iconst 1, 1) := by decide +kernel
theorem dX12_takeLeast_62 : decode cX12_takeLeast 62 = .ok (.isub, 1) := by decide +kernel
theorem dX12_takeLeast_63 : decode cX12_takeLeast 63 = .ok (.putfield 146, 3) := by decide +kernel
theorem dX12_takeLeast_66 : decode cX12_takeLeast 66 = .ok (.iload_n 1, 1) := by decide +kernel
theorem dX12_takeLeast_67 : decode cX12_takeLeast 67 = .ok (.istore_n 3, 1) := by decide +kernel
theorem dX12_takeLeast_68 : decode cX12_takeLeast 68 = .ok (.iload_n 3, 1) := by decide +kernel
theorem dX12_takeLeast_69 : decode cX12_takeLeast 69 = .ok (.aload_n 0, 1) := by decide +kernel
theorem dX12_takeLeast_70 : decode cX12_takeLeast 70 = .ok (.getfield 146, 3) := by decide +kernel
theorem dX12_takeLeast_73 : decode cX12_takeLeast 73 = .ok (.if_icmp .ge 37, 3) := by decide +kernel
theorem dX12_takeLeast_76 : decode cX12_takeLeast 76 = .ok (.aload_n 0, 1) := by decide +kernel
theorem dX12_takeLeast_77 : decode cX12_takeLeast 77 = .ok (.getfield 25, 3) := by decide +kernel
theorem dX12_takeLeast_80 : decode cX12_takeLeast 80 = .ok (.iload_n 3, 1) := by decide +kernel
theorem dX12_takeLeast_81 : decode cX12_takeLeast 81 = .ok (.aload_n 0, 1) := by decide +kernel
theorem dX12_takeLeast_82 : decode cX12_takeLeast 82 = .ok (.getfield 25, 3) := by decide +kernel
theorem dX12_takeLeast_85 : decode cX12_takeLeast 85 = .ok (.iload_n 3, 1) := by decide +kernel
theorem dX12_takeLeast_86 : decode cX12_takeLeast 86 = .ok (.iconst 1, 1) := by decide +kernel
theorem dX12_takeLeast_87 : decode cX12_takeLeast 87 = .ok (.iadd, 1) := by decide +kernel
theorem dX12_takeLeast_88 : decode cX12_takeLeast 88 = .ok (.iaload, 1) := by decide +kernel
theorem dX12_takeLeast_89 : decode cX12_takeLeast 89 = .ok (.iastore, 1) := by decide +kernel
theorem dX12_takeLeast_90 : decode cX12_takeLeast 90 = .ok (.aload_n 0, 1) := by decide +kernel
theorem dX12_takeLeast_91 : decode cX12_takeLeast 91 = .ok (.getfield 28, 3) := by decide +kernel
theorem dX12_takeLeast_94 : decode cX12_takeLeast 94 = .ok (.iload_n 3, 1) := by decide +kernel
theorem dX12_takeLeast_95 : decode cX12_takeLeast 95 = .ok (.aload_n 0, 1) := by decide +kernel
theorem dX12_takeLeast_96 : decode cX12_takeLeast 96 = .ok (.getfield 28, 3) := by decide +kernel
theorem dX12_takeLeast_99 : decode cX12_takeLeast 99 = .ok (.iload_n 3, 1) := by decide +kernel
theorem dX12_takeLeast_100 : decode cX12_takeLeast 100 = .ok (.iconst 1, 1) := by decide +kernel
theorem dX12_takeLeast_101 : decode cX12_takeLeast 101 = .ok (.iadd, 1) := by decide +kernel
theorem dX12_takeLeast_102 : decode cX12_takeLeast 102 = .ok (.iaload, 1) := by decide +kernel
theorem dX12_takeLeast_103 : decode cX12_takeLeast 103 = .ok (.iastore, 1) := by decide +kernel
theorem dX12_takeLeast_104 : decode cX12_takeLeast 104 = .ok (.iinc 3 1, 3) := by decide +kernel
theorem dX12_takeLeast_107 : decode cX12_takeLeast 107 = .ok (.goto (-39), 3) := by decide +kernel
theorem dX12_takeLeast_110 : decode cX12_takeLeast 110 = .ok (.iload_n 2, 1) := by decide +kernel
theorem dX12_takeLeast_111 : decode cX12_takeLeast 111 = .ok (.ireturn, 1) := by decide +kernel
theorem dX12_findWords_0 : decode cX12_findWords 0 = .ok (.aload_n 0, 1) := by decide +kernel
theorem dX12_findWords_1 : decode cX12_findWords 1 = .ok (.iconst 0, 1) := by decide +kernel
theorem dX12_findWords_2 : decode cX12_findWords 2 = .ok (.putfield 146, 3) := by decide +kernel
theorem dX12_findWords_5 : decode cX12_findWords 5 = .ok (.iconst 0, 1) := by decide +kernel
theorem dX12_findWords_6 : decode cX12_findWords 6 = .ok (.istore_n 1, 1) := by decide +kernel
theorem dX12_findWords_7 : decode cX12_findWords 7 = .ok (.iload_n 1, 1) := by decide +kernel
theorem dX12_findWords_8 : decode cX12_findWords 8 = .ok (.bipush 16, 2) := by decide +kernel
theorem dX12_findWords_10 : decode cX12_findWords 10 = .ok (.if_icmp .ge 62, 3) := by decide +kernel
theorem dX12_findWords_13 : decode cX12_findWords 13 = .ok (.aload_n 0, 1) := by decide +kernel
theorem dX12_findWords_14 : decode cX12_findWords 14 = .ok (.getfield 31, 3) := by decide +kernel
theorem dX12_findWords_17 : decode cX12_findWords 17 = .ok (.iload_n 1, 1) := by decide +kernel
theorem dX12_findWords_18 : decode cX12_findWords 18 = .ok (.iconst 0, 1) := by decide +kernel
theorem dX12_findWords_19 : decode cX12_findWords 19 = .ok (.iastore, 1) := by decide +kernel
theorem dX12_findWords_20 : decode cX12_findWords 20 = .ok (.aload_n 0, 1) := by decide +kernel
theorem dX12_findWords_21 : decode cX12_findWords 21 = .ok (.iload_n 1, 1) := by decide +kernel
theorem dX12_findWords_22 : decode cX12_findWords 22 = .ok (.aload_n 0, 1) := by decide +kernel
theorem dX12_findWords_23 : decode cX12_findWords 23 = .ok (.getfield 72, 3) := by decide +kernel
theorem dX12_findWords_26 : decode cX12_findWords 26 = .ok (.invokevirtual 125, 3) := by decide +kernel
theorem dX12_findWords_29 : decode cX12_findWords 29 = .ok (.istore_n 2, 1) := by decide +kernel
theorem dX12_findWords_30 : decode cX12_findWords 30 = .ok (.iload_n 2, 1) := by decide +kernel
theorem dX12_findWords_31 : decode cX12_findWords 31 = .ok (.ifCond .le 35, 3) := by decide +kernel
theorem dX12_findWords_34 : decode cX12_findWords 34 = .ok (.aload_n 0, 1) := by decide +kernel
theorem dX12_findWords_35 : decode cX12_findWords 35 = .ok (.getfield 25, 3) := by decide +kernel
theorem dX12_findWords_38 : decode cX12_findWords 38 = .ok (.aload_n 0, 1) := by decide +kernel
theorem dX12_findWords_39 : decode cX12_findWords 39 = .ok (.getfield 146, 3) := by decide +kernel
theorem dX12_findWords_42 : decode cX12_findWords 42 = .ok (.iload_n 2, 1) := by decide +kernel
theorem dX12_findWords_43 : decode cX12_findWords 43 = .ok (.iastore, 1) := by decide +kernel
theorem dX12_findWords_44 : decode cX12_findWords 44 = .ok (.aload_n 0, 1) := by decide +kernel
theorem dX12_findWords_45 : decode cX12_findWords 45 = .ok (.getfield 28, 3) := by decide +kernel
theorem dX12_findWords_48 : decode cX12_findWords 48 = .ok (.aload_n 0, 1) := by decide +kernel
theorem dX12_findWords_49 : decode cX12_findWords 49 = .ok (.getfield 146, 3) := by decide +kernel
theorem dX12_findWords_52 : decode cX12_findWords 52 = .ok (.iconst 1, 1) := by decide +kernel
theorem dX12_findWords_53 : decode cX12_findWords 53 = .ok (.iload_n 1, 1) := by decide +kernel
theorem dX12_findWords_54 : decode cX12_findWords 54 = .ok (.ishl, 1) := by decide +kernel
theorem dX12_findWords_55 : decode cX12_findWords 55 = .ok (.iastore, 1) := by decide +kernel
theorem dX12_findWords_56 : decode cX12_findWords 56 = .ok (.aload_n 0, 1) := by decide +kernel
theorem dX12_findWords_57 : decode cX12_findWords 57 = .ok (.dup, 1) := by decide +kernel
theorem dX12_findWords_58 : decode cX12_findWords 58 = .ok (.getfield 146, 3) := by decide +kernel
theorem dX12_findWords_61 : decode cX12_findWords 61 = .ok (.iconst 1, 1) := by decide +kernel
theorem dX12_findWords_62 : decode cX12_findWords 62 = .ok (.iadd, 1) := by decide +kernel
theorem dX12_findWords_63 : decode cX12_findWords 63 = .ok (.putfield 146, 3) := by decide +kernel
theorem dX12_findWords_66 : decode cX12_findWords 66 = .ok (.iinc 1 1, 3) := by decide +kernel
theorem dX12_findWords_69 : decode cX12_findWords 69 = .ok (.goto (-62), 3) := by decide +kernel
theorem dX12_findWords_72 : decode cX12_findWords 72 = .ok (.aload_n 0, 1) := by decide +kernel
theorem dX12_findWords_73 : decode cX12_findWords 73 = .ok (.getfield 146, 3) := by decide +kernel
theorem dX12_findWords_76 : decode cX12_findWords 76 = .ok (.iconst 1, 1) := by decide +kernel
theorem dX12_findWords_77 : decode cX12_findWords 77 = .ok (.if_icmp .ne 33, 3) := by decide +kernel
theorem dX12_findWords_80 : decode cX12_findWords 80 = .ok (.iconst 0, 1) := by decide +kernel
theorem dX12_findWords_81 : decode cX12_findWords 81 = .ok (.istore_n 1, 1) := by decide +kernel
theorem dX12_findWords_82 : decode cX12_findWords 82 = .ok (.iload_n 1, 1) := by decide +kernel
theorem dX12_findWords_83 : decode cX12_findWords 83 = .ok (.bipush 16, 2) := by decide +kernel
theorem dX12_findWords_85 : decode cX12_findWords 85 = .ok (.if_icmp .ge 25, 3) := by decide +kernel
theorem dX12_findWords_88 : decode cX12_findWords 88 = .ok (.aload_n 0, 1) := by decide +kernel
theorem dX12_findWords_89 : decode cX12_findWords 89 = .ok (.getfield 31, 3) := by decide +kernel
theorem dX12_findWords_92 : decode cX12_findWords 92 = .ok (.iload_n 1, 1) := by decide +kernel
theorem dX12_findWords_93 : decode cX12_findWords 93 = .ok (.aload_n 0, 1) := by decide +kernel
theorem dX12_findWords_94 : decode cX12_findWords 94 = .ok (.getfield 28, 3) := by decide +kernel
theorem dX12_findWords_97 : decode cX12_findWords 97 = .ok (.iconst 0, 1) := by decide +kernel
theorem dX12_findWords_98 : decode cX12_findWords 98 = .ok (.iaload, 1) := by decide +kernel
theorem dX12_findWords_99 : decode cX12_findWords 99 = .ok (.iload_n 1, 1) := by decide +kernel
theorem dX12_findWords_100 : decode cX12_findWords 100 = .ok (.ishr, 1) := by decide +kernel
theorem dX12_findWords_101 : decode cX12_findWords 101 = .ok (.iconst 1, 1) := by decide +kernel
theorem dX12_findWords_102 : decode cX12_findWords 102 = .ok (.iand, 1) := by decide +kernel
theorem dX12_findWords_103 : decode cX12_findWords 103 = .ok (.iastore, 1) := by decide +kernel
theorem dX12_findWords_104 : decode cX12_findWords 104 = .ok (.iinc 1 1, 3) := by decide +kernel
theorem dX12_findWords_107 : decode cX12_findWords 107 = .ok (.goto (-25), 3) := by decide +kernel
theorem dX12_findWords_110 : decode cX12_findWords 110 = .ok (.aload_n 0, 1) := by decide +kernel
theorem dX12_findWords_111 : decode cX12_findWords 111 = .ok (.getfield 146, 3) := by decide +kernel
theorem dX12_findWords_114 : decode cX12_findWords 114 = .ok (.iconst 1, 1) := by decide +kernel
theorem dX12_findWords_115 : decode cX12_findWords 115 = .ok (.if_icmp .le 88, 3) := by decide +kernel
theorem dX12_findWords_118 : decode cX12_findWords 118 = .ok (.aload_n 0, 1) := by decide +kernel
theorem dX12_findWords_119 : decode cX12_findWords 119 = .ok (.invokevirtual 152, 3) := by decide +kernel
theorem dX12_findWords_122 : decode cX12_findWords 122 = .ok (.istore_n 1, 1) := by decide +kernel
theorem dX12_findWords_123 : decode cX12_findWords 123 = .ok (.aload_n 0, 1) := by decide +kernel
theorem dX12_findWords_124 : decode cX12_findWords 124 = .ok (.getfield 149, 3) := by decide +kernel
theorem dX12_findWords_127 : decode cX12_findWords 127 = .ok (.istore_n 2, 1) := by decide +kernel
theorem dX12_findWords_128 : decode cX12_findWords 128 = .ok (.iload_n 1, 1) := by decide +kernel
theorem dX12_findWords_129 : decode cX12_findWords 129 = .ok (.aload_n 0, 1) := by decide +kernel
theorem dX12_findWords_130 : decode cX12_findWords 130 = .ok (.invokevirtual 152, 3) := by decide +kernel
theorem dX12_findWords_133 : decode cX12_findWords 133 = .ok (.ior, 1) := by decide +kernel
theorem dX12_findWords_134 : decode cX12_findWords 134 = .ok (.istore_n 1, 1) := by decide +kernel
theorem dX12_findWords_135 : decode cX12_findWords 135 = .ok (.iload_n 2, 1) := by decide +kernel
theorem dX12_findWords_136 : decode cX12_findWords 136 = .ok (.aload_n 0, 1) := by decide +kernel
theorem dX12_findWords_137 : decode cX12_findWords 137 = .ok (.getfield 149, 3) := by decide +kernel
theorem dX12_findWords_140 : decode cX12_findWords 140 = .ok (.iadd, 1) := by decide +kernel
theorem dX12_findWords_141 : decode cX12_findWords 141 = .ok (.istore_n 2, 1) := by decide +kernel
theorem dX12_findWords_142 : decode cX12_findWords 142 = .ok (.aload_n 0, 1) := by decide +kernel
theorem dX12_findWords_143 : decode cX12_findWords 143 = .ok (.getfield 25, 3) := by decide +kernel
theorem dX12_findWords_146 : decode cX12_findWords 146 = .ok (.aload_n 0, 1) := by decide +kernel
theorem dX12_findWords_147 : decode cX12_findWords 147 = .ok (.getfield 146, 3) := by decide +kernel
theorem dX12_findWords_150 : decode cX12_findWords 150 = .ok (.iload_n 2, 1) := by decide +kernel
theorem dX12_findWords_151 : decode cX12_findWords 151 = .ok (.iastore, 1) := by decide +kernel
theorem dX12_findWords_152 : decode cX12_findWords 152 = .ok (.aload_n 0, 1) := by decide +kernel
theorem dX12_findWords_153 : decode cX12_findWords 153 = .ok (.getfield 28, 3) := by decide +kernel
theorem dX12_findWords_156 : decode cX12_findWords 156 = .ok (.aload_n 0, 1) := by decide +kernel
theorem dX12_findWords_157 : decode cX12_findWords 157 = .ok (.getfield 146, 3) := by decide +kernel
theorem dX12_findWords_160 : decode cX12_findWords 160 = .ok (.iload_n 1, 1) := by decide +kernel
theorem dX12_findWords_161 : decode cX12_findWords 161 = .ok (.iastore, 1) := by decide +kernel
theorem dX12_findWords_162 : decode cX12_findWords 162 = .ok (.aload_n 0, 1) := by decide +kernel
theorem dX12_findWords_163 : decode cX12_findWords 163 = .ok (.dup, 1) := by decide +kernel
theorem dX12_findWords_164 : decode cX12_findWords 164 = .ok (.getfield 146, 3) := by decide +kernel
theorem dX12_findWords_167 : decode cX12_findWords 167 = .ok (.iconst 1, 1) := by decide +kernel
theorem dX12_findWords_168 : decode cX12_findWords 168 = .ok (.iadd, 1) := by decide +kernel
theorem dX12_findWords_169 : decode cX12_findWords 169 = .ok (.putfield 146, 3) := by decide +kernel
theorem dX12_findWords_172 : decode cX12_findWords 172 = .ok (.iconst 0, 1) := by decide +kernel
theorem dX12_findWords_173 : decode cX12_findWords 173 = .ok (.istore_n 3, 1) := by decide +kernel
theorem dX12_findWords_174 : decode cX12_findWords 174 = .ok (.iload_n 3, 1) := by decide +kernel
theorem dX12_findWords_175 : decode cX12_findWords 175 = .ok (.bipush 16, 2) := by decide +kernel
theorem dX12_findWords_177 : decode cX12_findWords 177 = .ok (.if_icmp .ge 23, 3) := by decide +kernel
theorem dX12_findWords_180 : decode cX12_findWords 180 = .ok (.aload_n 0, 1) := by decide +kernel
theorem dX12_findWords_181 : decode cX12_findWords 181 = .ok (.getfield 31, 3) := by decide +kernel
theorem dX12_findWords_184 : decode cX12_findWords 184 = .ok (.iload_n 3, 1) := by decide +kernel
theorem dX12_findWords_185 : decode cX12_findWords 185 = .ok (.dup2, 1) := by decide +kernel
theorem dX12_findWords_186 : decode cX12_findWords 186 = .ok (.iaload, 1) := by decide +kernel
theorem dX12_findWords_187 : decode cX12_findWords 187 = .ok (.iload_n 1, 1) := by decide +kernel
theorem dX12_findWords_188 : decode cX12_findWords 188 = .ok (.iload_n 3, 1) := by decide +kernel
theorem dX12_findWords_189 : decode cX12_findWords 189 = .ok (.ishr, 1) := by decide +kernel
theorem dX12_findWords_190 : decode cX12_findWords 190 = .ok (.iconst 1, 1) := by decide +kernel
theorem dX12_findWords_191 : decode cX12_findWords 191 = .ok (.iand, 1) := by decide +kernel
theorem dX12_findWords_192 : decode cX12_findWords 192 = .ok (.iadd, 1) := by decide +kernel
theorem dX12_findWords_193 : decode cX12_findWords 193 = .ok (.iastore, 1) := by decide +kernel
theorem dX12_findWords_194 : decode cX12_findWords 194 = .ok (.iinc 3 1, 3) := by decide +kernel
theorem dX12_findWords_197 : decode cX12_findWords 197 = .ok (.goto (-23), 3) := by decide +kernel
theorem dX12_findWords_200 : decode cX12_findWords 200 = .ok (.goto (-90), 3) := by decide +kernel
theorem dX12_findWords_203 : decode cX12_findWords 203 = .ok (.return_, 1) := by decide +kernel
theorem dX12_stepWidth_0 : decode cX12_stepWidth 0 = .ok (.aload_n 0, 1) := by decide +kernel
theorem dX12_stepWidth_1 : decode cX12_stepWidth 1 = .ok (.iload_n 1, 1) := by decide +kernel
theorem dX12_stepWidth_2 : decode cX12_stepWidth 2 = .ok (.aload_n 0, 1) := by decide +kernel
theorem dX12_stepWidth_3 : decode cX12_stepWidth 3 = .ok (.getfield 72, 3) := by decide +kernel
theorem dX12_stepWidth_6 : decode cX12_stepWidth 6 = .ok (.invokevirtual 125, 3) := by decide +kernel
theorem dX12_stepWidth_9 : decode cX12_stepWidth 9 = .ok (.i2l, 1) := by decide +kernel
theorem dX12_stepWidth_10 : decode cX12_stepWidth 10 = .ok (.lstore_n 2, 1) := by decide +kernel
theorem dX12_stepWidth_11 : decode cX12_stepWidth 11 = .ok (.iconst 0, 1) := by decide +kernel
theorem dX12_stepWidth_12 : decode cX12_stepWidth 12 = .ok (.istore 4, 2) := by decide +kernel
theorem dX12_stepWidth_14 : decode cX12_stepWidth 14 = .ok (.lload_n 2, 1) := by decide +kernel
theorem dX12_stepWidth_15 : decode cX12_stepWidth 15 = .ok (.lconst 0, 1) := by decide +kernel
theorem dX12_stepWidth_16 : decode cX12_stepWidth 16 = .ok (.lcmp, 1) := by decide +kernel
theorem dX12_stepWidth_17 : decode cX12_stepWidth 17 = .ok (.ifCond .le 22, 3) := by decide +kernel
theorem dX12_stepWidth_20 : decode cX12_stepWidth 20 = .ok (.lload_n 2, 1) := by decide +kernel
theorem dX12_stepWidth_21 : decode cX12_stepWidth 21 = .ok (.iload 4, 2) := by decide +kernel
theorem dX12_stepWidth_23 : decode cX12_stepWidth 23 = .ok (.lshl, 1) := by decide +kernel
theorem dX12_stepWidth_24 : decode cX12_stepWidth 24 = .ok (.aload_n 0, 1) := by decide +kernel
theorem dX12_stepWidth_25 : decode cX12_stepWidth 25 = .ok (.getfield 72, 3) := by decide +kernel
theorem dX12_stepWidth_28 : decode cX12_stepWidth 28 = .ok (.i2l, 1) := by decide +kernel
theorem dX12_stepWidth_29 : decode cX12_stepWidth 29 = .ok (.lcmp, 1) := by decide +kernel
theorem dX12_stepWidth_30 : decode cX12_stepWidth 30 = .ok (.ifCond .ge 9, 3) := by decide +kernel
theorem dX12_stepWidth_33 : decode cX12_stepWidth 33 = .ok (.iinc 4 1, 3) := by decide +kernel
theorem dX12_stepWidth_36 : decode cX12_stepWidth 36 = .ok (.goto (-22), 3) := by decide +kernel
theorem dX12_stepWidth_39 : decode cX12_stepWidth 39 = .ok (.iload 4, 2) := by decide +kernel
theorem dX12_stepWidth_41 : decode cX12_stepWidth 41 = .ok (.ireturn, 1) := by decide +kernel
theorem dX12_width_0 : decode cX12_width 0 = .ok (.aload_n 0, 1) := by decide +kernel
theorem dX12_width_1 : decode cX12_width 1 = .ok (.iconst 0, 1) := by decide +kernel
theorem dX12_width_2 : decode cX12_width 2 = .ok (.putfield 59, 3) := by decide +kernel
theorem dX12_width_5 : decode cX12_width 5 = .ok (.iload_n 1, 1) := by decide +kernel
theorem dX12_width_6 : decode cX12_width 6 = .ok (.invokestatic 155, 3) := by decide +kernel
theorem dX12_width_9 : decode cX12_width 9 = .ok (.ifCond .eq 10, 3) := by decide +kernel
theorem dX12_width_12 : decode cX12_width 12 = .ok (.iload_n 2, 1) := by decide +kernel
theorem dX12_width_13 : decode cX12_width 13 = .ok (.invokestatic 68, 3) := by decide +kernel
theorem dX12_width_16 : decode cX12_width 16 = .ok (.ifCond .ne 5, 3) := by decide +kernel
theorem dX12_width_19 : decode cX12_width 19 = .ok (.iconst (-1), 1) := by decide +kernel
theorem dX12_width_20 : decode cX12_width 20 = .ok (.ireturn, 1) := by decide +kernel
theorem dX12_width_21 : decode cX12_width 21 = .ok (.aload_n 0, 1) := by decide +kernel
theorem dX12_width_22 : decode cX12_width 22 = .ok (.invokevirtual 158, 3) := by decide +kernel
theorem dX12_width_25 : decode cX12_width 25 = .ok (.iload_n 1, 1) := by decide +kernel
theorem dX12_width_26 : decode cX12_width 26 = .ok (.ifCond .ne 12, 3) := by decide +kernel
theorem dX12_width_29 : decode cX12_width 29 = .ok (.aload_n 0, 1) := by decide +kernel
theorem dX12_width_30 : decode cX12_width 30 = .ok (.getfield 31, 3) := by decide +kernel
theorem dX12_width_33 : decode cX12_width 33 = .ok (.iload_n 2, 1) := by decide +kernel
theorem dX12_width_34 : decode cX12_width 34 = .ok (.iaload, 1) := by decide +kernel
theorem dX12_width_35 : decode cX12_width 35 = .ok (.goto 8, 3) := by decide +kernel
theorem dX12_width_38 : decode cX12_width 38 = .ok (.aload_n 0, 1) := by decide +kernel
theorem dX12_width_39 : decode cX12_width 39 = .ok (.iload_n 2, 1) := by decide +kernel
theorem dX12_width_40 : decode cX12_width 40 = .ok (.invokevirtual 161, 3) := by decide +kernel
theorem dX12_width_43 : decode cX12_width 43 = .ok (.ireturn, 1) := by decide +kernel
theorem dX12_bits_0 : decode cX12_bits 0 = .ok (.aload_n 0, 1) := by decide +kernel
theorem dX12_bits_1 : decode cX12_bits 1 = .ok (.iconst 0, 1) := by decide +kernel
theorem dX12_bits_2 : decode cX12_bits 2 = .ok (.putfield 59, 3) := by decide +kernel
theorem dX12_bits_5 : decode cX12_bits 5 = .ok (.iload_n 1, 1) := by decide +kernel
theorem dX12_bits_6 : decode cX12_bits 6 = .ok (.invokestatic 155, 3) := by decide +kernel
theorem dX12_bits_9 : decode cX12_bits 9 = .ok (.ifCond .ne 5, 3) := by decide +kernel
theorem dX12_bits_12 : decode cX12_bits 12 = .ok (.iconst (-1), 1) := by decide +kernel
theorem dX12_bits_13 : decode cX12_bits 13 = .ok (.ireturn, 1) := by decide +kernel
theorem dX12_bits_14 : decode cX12_bits 14 = .ok (.aload_n 0, 1) := by decide +kernel
theorem dX12_bits_15 : decode cX12_bits 15 = .ok (.invokevirtual 158, 3) := by decide +kernel
theorem dX12_bits_18 : decode cX12_bits 18 = .ok (.iconst 0, 1) := by decide +kernel
theorem dX12_bits_19 : decode cX12_bits 19 = .ok (.istore_n 2, 1) := by decide +kernel
theorem dX12_bits_20 : decode cX12_bits 20 = .ok (.iconst 0, 1) := by decide +kernel
theorem dX12_bits_21 : decode cX12_bits 21 = .ok (.istore_n 3, 1) := by decide +kernel
theorem dX12_bits_22 : decode cX12_bits 22 = .ok (.iload_n 3, 1) := by decide +kernel
theorem dX12_bits_23 : decode cX12_bits 23 = .ok (.bipush 16, 2) := by decide +kernel
theorem dX12_bits_25 : decode cX12_bits 25 = .ok (.if_icmp .ge 40, 3) := by decide +kernel
theorem dX12_bits_28 : decode cX12_bits 28 = .ok (.iload_n 2, 1) := by decide +kernel
theorem dX12_bits_29 : decode cX12_bits 29 = .ok (.aload_n 0, 1) := by decide +kernel
theorem dX12_bits_30 : decode cX12_bits 30 = .ok (.iload_n 3, 1) := by decide +kernel
theorem dX12_bits_31 : decode cX12_bits 31 = .ok (.aload_n 0, 1) := by decide +kernel
theorem dX12_bits_32 : decode cX12_bits 32 = .ok (.getfield 72, 3) := by decide +kernel
theorem dX12_bits_35 : decode cX12_bits 35 = .ok (.invokevirtual 125, 3) := by decide +kernel
theorem dX12_bits_38 : decode cX12_bits 38 = .ok (.iload_n 1, 1) := by decide +kernel
theorem dX12_bits_39 : decode cX12_bits 39 = .ok (.ifCond .ne 12, 3) := by decide +kernel
theorem dX12_bits_42 : decode cX12_bits 42 = .ok (.aload_n 0, 1) := by decide +kernel
theorem dX12_bits_43 : decode cX12_bits 43 = .ok (.getfield 31, 3) := by decide +kernel
theorem dX12_bits_46 : decode cX12_bits 46 = .ok (.iload_n 3, 1) := by decide +kernel
theorem dX12_bits_47 : decode cX12_bits 47 = .ok (.iaload, 1) := by decide +kernel
theorem dX12_bits_48 : decode cX12_bits 48 = .ok (.goto 8, 3) := by decide +kernel
theorem dX12_bits_51 : decode cX12_bits 51 = .ok (.aload_n 0, 1) := by decide +kernel
theorem dX12_bits_52 : decode cX12_bits 52 = .ok (.iload_n 3, 1) := by decide +kernel
theorem dX12_bits_53 : decode cX12_bits 53 = .ok (.invokevirtual 161, 3) := by decide +kernel
theorem dX12_bits_56 : decode cX12_bits 56 = .ok (.imul, 1) := by decide +kernel
theorem dX12_bits_57 : decode cX12_bits 57 = .ok (.iadd, 1) := by decide +kernel
theorem dX12_bits_58 : decode cX12_bits 58 = .ok (.istore_n 2, 1) := by decide +kernel
theorem dX12_bits_59 : decode cX12_bits 59 = .ok (.iinc 3 1, 3) := by decide +kernel
theorem dX12_bits_62 : decode cX12_bits 62 = .ok (.goto (-40), 3) := by decide +kernel
theorem dX12_bits_65 : decode cX12_bits 65 = .ok (.iload_n 2, 1) := by decide +kernel
theorem dX12_bits_66 : decode cX12_bits 66 = .ok (.ireturn, 1) := by decide +kernel
theorem dX12_alike_0 : decode cX12_alike 0 = .ok (.iconst 0, 1) := by decide +kernel
theorem dX12_alike_1 : decode cX12_alike 1 = .ok (.istore_n 3, 1) := by decide +kernel
theorem dX12_alike_2 : decode cX12_alike 2 = .ok (.iload_n 1, 1) := by decide +kernel
theorem dX12_alike_3 : decode cX12_alike 3 = .ok (.iload_n 3, 1) := by decide +kernel
theorem dX12_alike_4 : decode cX12_alike 4 = .ok (.iadd, 1) := by decide +kernel
theorem dX12_alike_5 : decode cX12_alike 5 = .ok (.aload_n 0, 1) := by decide +kernel
theorem dX12_alike_6 : decode cX12_alike 6 = .ok (.getfield 72, 3) := by decide +kernel
theorem dX12_alike_9 : decode cX12_alike 9 = .ok (.if_icmp .ge 28, 3) := by decide +kernel
theorem dX12_alike_12 : decode cX12_alike 12 = .ok (.aload_n 0, 1) := by decide +kernel
theorem dX12_alike_13 : decode cX12_alike 13 = .ok (.getfield 7, 3) := by decide +kernel
theorem dX12_alike_16 : decode cX12_alike 16 = .ok (.iload_n 1, 1) := by decide +kernel
theorem dX12_alike_17 : decode cX12_alike 17 = .ok (.iload_n 3, 1) := by decide +kernel
theorem dX12_alike_18 : decode cX12_alike 18 = .ok (.iadd, 1) := by decide +kernel
theorem dX12_alike_19 : decode cX12_alike 19 = .ok (.iaload, 1) := by decide +kernel
theorem dX12_alike_20 : decode cX12_alike 20 = .ok (.aload_n 0, 1) := by decide +kernel
theorem dX12_alike_21 : decode cX12_alike 21 = .ok (.getfield 7, 3) := by decide +kernel
theorem dX12_alike_24 : decode cX12_alike 24 = .ok (.iload_n 2, 1) := by decide +kernel
theorem dX12_alike_25 : decode cX12_alike 25 = .ok (.iload_n 3, 1) := by decide +kernel
theorem dX12_alike_26 : decode cX12_alike 26 = .ok (.iadd, 1) := by decide +kernel
theorem dX12_alike_27 : decode cX12_alike 27 = .ok (.iaload, 1) := by decide +kernel
theorem dX12_alike_28 : decode cX12_alike 28 = .ok (.if_icmp .ne 9, 3) := by decide +kernel
theorem dX12_alike_31 : decode cX12_alike 31 = .ok (.iinc 3 1, 3) := by decide +kernel
theorem dX12_alike_34 : decode cX12_alike 34 = .ok (.goto (-32), 3) := by decide +kernel
theorem dX12_alike_37 : decode cX12_alike 37 = .ok (.iload_n 3, 1) := by decide +kernel
theorem dX12_alike_38 : decode cX12_alike 38 = .ok (.ireturn, 1) := by decide +kernel
theorem dX12_put_0 : decode cX12_put 0 = .ok (.aload_n 0, 1) := by decide +kernel
theorem dX12_put_1 : decode cX12_put 1 = .ok (.getfield 34, 3) := by decide +kernel
theorem dX12_put_4 : decode cX12_put 4 = .ok (.aload_n 0, 1) := by decide +kernel
theorem dX12_put_5 : decode cX12_put 5 = .ok (.getfield 164, 3) := by decide +kernel
theorem dX12_put_8 : decode cX12_put 8 = .ok (.iload_n 1, 1) := by decide +kernel
theorem dX12_put_9 : decode cX12_put 9 = .ok (.iastore, 1) := by decide +kernel
theorem dX12_put_10 : decode cX12_put 10 = .ok (.aload_n 0, 1) := by decide +kernel
theorem dX12_put_11 : decode cX12_put 11 = .ok (.getfield 37, 3) := by decide +kernel
theorem dX12_put_14 : decode cX12_put 14 = .ok (.aload_n 0, 1) := by decide +kernel
theorem dX12_put_15 : decode cX12_put 15 = .ok (.getfield 164, 3) := by decide +kernel
theorem dX12_put_18 : decode cX12_put 18 = .ok (.iload_n 2, 1) := by decide +kernel
theorem dX12_put_19 : decode cX12_put 19 = .ok (.iastore, 1) := by decide +kernel
theorem dX12_put_20 : decode cX12_put 20 = .ok (.aload_n 0, 1) := by decide +kernel
theorem dX12_put_21 : decode cX12_put 21 = .ok (.getfield 40, 3) := by decide +kernel
theorem dX12_put_24 : decode cX12_put 24 = .ok (.aload_n 0, 1) := by decide +kernel
theorem dX12_put_25 : decode cX12_put 25 = .ok (.getfield 164, 3) := by decide +kernel
theorem dX12_put_28 : decode cX12_put 28 = .ok (.iload_n 3, 1) := by decide +kernel
theorem dX12_put_29 : decode cX12_put 29 = .ok (.iastore, 1) := by decide +kernel
theorem dX12_put_30 : decode cX12_put 30 = .ok (.aload_n 0, 1) := by decide +kernel
theorem dX12_put_31 : decode cX12_put 31 = .ok (.dup, 1) := by decide +kernel
theorem dX12_put_32 : decode cX12_put 32 = .ok (.getfield 164, 3) := by decide +kernel
theorem dX12_put_35 : decode cX12_put 35 = .ok (.iconst 1, 1) := by decide +kernel
theorem dX12_put_36 : decode cX12_put 36 = .ok (.iadd, 1) := by decide +kernel
theorem dX12_put_37 : decode cX12_put 37 = .ok (.putfield 164, 3) := by decide +kernel
theorem dX12_put_40 : decode cX12_put 40 = .ok (.return_, 1) := by decide +kernel
theorem dX12_findFactors_0 : decode cX12_findFactors 0 = .ok (.aload_n 0, 1) := by decide +kernel
theorem dX12_findFactors_1 : decode cX12_findFactors 1 = .ok (.iconst 0, 1) := by decide +kernel
theorem dX12_findFactors_2 : decode cX12_findFactors 2 = .ok (.putfield 164, 3) := by decide +kernel
theorem dX12_findFactors_5 : decode cX12_findFactors 5 = .ok (.iconst 0, 1) := by decide +kernel
theorem dX12_findFactors_6 : decode cX12_findFactors 6 = .ok (.istore_n 1, 1) := by decide +kernel
theorem dX12_findFactors_7 : decode cX12_findFactors 7 = .ok (.iload_n 1, 1) := by decide +kernel
theorem dX12_findFactors_8 : decode cX12_findFactors 8 = .ok (.aload_n 0, 1) := by decide +kernel
theorem dX12_findFactors_9 : decode cX12_findFactors 9 = .ok (.getfield 72, 3) := by decide +kernel
theorem dX12_findFactors_12 : decode cX12_findFactors 12 = .ok (.if_icmp .ge 88, 3) := by decide +kernel
theorem dX12_findFactors_15 : decode cX12_findFactors 15 = .ok (.iconst 0, 1) := by decide +kernel
theorem dX12_findFactors_16 : decode cX12_findFactors 16 = .ok (.istore_n 2, 1) := by decide +kernel
theorem dX12_findFactors_17 : decode cX12_findFactors 17 = .ok (.bipush (-2), 2) := by decide +kernel
theorem dX12_findFactors_19 : decode cX12_findFactors 19 = .ok (.istore_n 3, 1) := by decide +kernel
theorem dX12_findFactors_20 : decode cX12_findFactors 20 = .ok (.iconst 0, 1) := by decide +kernel
theorem dX12_findFactors_21 : decode cX12_findFactors 21 = .ok (.istore 4, 2) := by decide +kernel
theorem dX12_findFactors_23 : decode cX12_findFactors 23 = .ok (.iload 4, 2) := by decide +kernel
theorem dX12_findFactors_25 : decode cX12_findFactors 25 = .ok (.iload_n 1, 1) := by decide +kernel
theorem dX12_findFactors_26 : decode cX12_findFactors 26 = .ok (.if_icmp .ge 44, 3) := by decide +kernel
theorem dX12_findFactors_29 : decode cX12_findFactors 29 = .ok (.aload_n 0, 1) := by decide +kernel
theorem dX12_findFactors_30 : decode cX12_findFactors 30 = .ok (.iload_n 1, 1) := by decide +kernel
theorem dX12_findFactors_31 : decode cX12_findFactors 31 = .ok (.iload 4, 2) := by decide +kernel
theorem dX12_findFactors_33 : decode cX12_findFactors 33 = .ok (.invokevirtual 167, 3) := by decide +kernel
theorem dX12_findFactors_36 : decode cX12_findFactors 36 = .ok (.istore 5, 2) := by decide +kernel
theorem dX12_findFactors_38 : decode cX12_findFactors 38 = .ok (.iload 5, 2) := by decide +kernel
theorem dX12_findFactors_40 : decode cX12_findFactors 40 = .ok (.iload_n 2, 1) := by decide +kernel
theorem dX12_findFactors_41 : decode cX12_findFactors 41 = .ok (.if_icmp .le 8, 3) := by decide +kernel
theorem dX12_findFactors_44 : decode cX12_findFactors 44 = .ok (.iload 4, 2) := by decide +kernel
theorem dX12_findFactors_46 : decode cX12_findFactors 46 = .ok (.goto 4, 3) := by decide +kernel
theorem dX12_findFactors_49 : decode cX12_findFactors 49 = .ok (.iload_n 3, 1) := by decide +kernel
theorem dX12_findFactors_50 : decode cX12_findFactors 50 = .ok (.istore_n 3, 1) := by decide +kernel
theorem dX12_findFactors_51 : decode cX12_findFactors 51 = .ok (.iload 5, 2) := by decide +kernel
theorem dX12_findFactors_53 : decode cX12_findFactors 53 = .ok (.iload_n 2, 1) := by decide +kernel
theorem dX12_findFactors_54 : decode cX12_findFactors 54 = .ok (.if_icmp .le 8, 3) := by decide +kernel
theorem dX12_findFactors_57 : decode cX12_findFactors 57 = .ok (.iload 5, 2) := by decide +kernel
theorem dX12_findFactors_59 : decode cX12_findFactors 59 = .ok (.goto 4, 3) := by decide +kernel
theorem dX12_findFactors_62 : decode cX12_findFactors 62 = .ok (.iload_n 2, 1) := by decide +kernel
theorem dX12_findFactors_63 : decode cX12_findFactors 63 = .ok (.istore_n 2, 1) := by decide +kernel
theorem dX12_findFactors_64 : decode cX12_findFactors 64 = .ok (.iinc 4 1, 3) := by decide +kernel
theorem dX12_findFactors_67 : decode cX12_findFactors 67 = .ok (.goto (-44), 3) := by decide +kernel
theorem dX12_findFactors_70 : decode cX12_findFactors 70 = .ok (.aload_n 0, 1) := by decide +kernel
theorem dX12_findFactors_71 : decode cX12_findFactors 71 = .ok (.iload_n 1, 1) := by decide +kernel
theorem dX12_findFactors_72 : decode cX12_findFactors 72 = .ok (.iload_n 2, 1) := by decide +kernel
theorem dX12_findFactors_73 : decode cX12_findFactors 73 = .ok (.ifCond .ne 7, 3) := by decide +kernel
theorem dX12_findFactors_76 : decode cX12_findFactors 76 = .ok (.iconst 1, 1) := by decide +kernel
theorem dX12_findFactors_77 : decode cX12_findFactors 77 = .ok (.goto 4, 3) := by decide +kernel
theorem dX12_findFactors_80 : decode cX12_findFactors 80 = .ok (.iload_n 2, 1) := by decide +kernel
theorem dX12_findFactors_81 : decode cX12_findFactors 81 = .ok (.iload_n 3, 1) := by decide +kernel
theorem dX12_findFactors_82 : decode cX12_findFactors 82 = .ok (.invokevirtual 170, 3) := by decide +kernel
theorem dX12_findFactors_85 : decode cX12_findFactors 85 = .ok (.iload_n 1, 1) := by decide +kernel
theorem dX12_findFactors_86 : decode cX12_findFactors 86 = .ok (.iload_n 2, 1) := by decide +kernel
theorem dX12_findFactors_87 : decode cX12_findFactors 87 = .ok (.ifCond .ne 7, 3) := by decide +kernel
theorem dX12_findFactors_90 : decode cX12_findFactors 90 = .ok (.iconst 1, 1) := by decide +kernel
theorem dX12_findFactors_91 : decode cX12_findFactors 91 = .ok (.goto 4, 3) := by decide +kernel
theorem dX12_findFactors_94 : decode cX12_findFactors 94 = .ok (.iload_n 2, 1) := by decide +kernel
theorem dX12_findFactors_95 : decode cX12_findFactors 95 = .ok (.iadd, 1) := by decide +kernel
theorem dX12_findFactors_96 : decode cX12_findFactors 96 = .ok (.istore_n 1, 1) := by decide +kernel
theorem dX12_findFactors_97 : decode cX12_findFactors 97 = .ok (.goto (-90), 3) := by decide +kernel
theorem dX12_findFactors_100 : decode cX12_findFactors 100 = .ok (.return_, 1) := by decide +kernel
theorem dX12_phraseOf_0 : decode cX12_phraseOf 0 = .ok (.iconst 0, 1) := by decide +kernel
theorem dX12_phraseOf_1 : decode cX12_phraseOf 1 = .ok (.istore_n 3, 1) := by decide +kernel
theorem dX12_phraseOf_2 : decode cX12_phraseOf 2 = .ok (.iload_n 3, 1) := by decide +kernel
theorem dX12_phraseOf_3 : decode cX12_phraseOf 3 = .ok (.aload_n 0, 1) := by decide +kernel
theorem dX12_phraseOf_4 : decode cX12_phraseOf 4 = .ok (.getfield 164, 3) := by decide +kernel
theorem dX12_phraseOf_7 : decode cX12_phraseOf 7 = .ok (.if_icmp .ge 36, 3) := by decide +kernel
theorem dX12_phraseOf_10 : decode cX12_phraseOf 10 = .ok (.aload_n 0, 1) := by decide +kernel
theorem dX12_phraseOf_11 : decode cX12_phraseOf 11 = .ok (.getfield 37, 3) := by decide +kernel
theorem dX12_phraseOf_14 : decode cX12_phraseOf 14 = .ok (.iload_n 3, 1) := by decide +kernel
theorem dX12_phraseOf_15 : decode cX12_phraseOf 15 = .ok (.iaload, 1) := by decide +kernel
theorem dX12_phraseOf_16 : decode cX12_phraseOf 16 = .ok (.iload_n 2, 1) := by decide +kernel
theorem dX12_phraseOf_17 : decode cX12_phraseOf 17 = .ok (.if_icmp .ne 20, 3) := by decide +kernel
theorem dX12_phraseOf_20 : decode cX12_phraseOf 20 = .ok (.aload_n 0, 1) := by decide +kernel
theorem dX12_phraseOf_21 : decode cX12_phraseOf 21 = .ok (.iload_n 1, 1) := by decide +kernel
theorem dX12_phraseOf_22 : decode cX12_phraseOf 22 = .ok (.aload_n 0, 1) := by decide +kernel
theorem dX12_phraseOf_23 : decode cX12_phraseOf 23 = .ok (.getfield 34, 3) := by decide +kernel
theorem dX12_phraseOf_26 : decode cX12_phraseOf 26 = .ok (.iload_n 3, 1) := by decide +kernel
theorem dX12_phraseOf_27 : decode cX12_phraseOf 27 = .ok (.iaload, 1) := by decide +kernel
theorem dX12_phraseOf_28 : decode cX12_phraseOf 28 = .ok (.invokevirtual 167, 3) := by decide +kernel
theorem dX12_phraseOf_31 : decode cX12_phraseOf 31 = .ok (.iload_n 2, 1) := by decide +kernel
theorem dX12_phraseOf_32 : decode cX12_phraseOf 32 = .ok (.if_icmp .lt 5, 3) := by decide +kernel
theorem dX12_phraseOf_35 : decode cX12_phraseOf 35 = .ok (.iload_n 3, 1) := by decide +kernel
theorem dX12_phraseOf_36 : decode cX12_phraseOf 36 = .ok (.ireturn, 1) := by decide +kernel
theorem dX12_phraseOf_37 : decode cX12_phraseOf 37 = .ok (.iinc 3 1, 3) := by decide +kernel
theorem dX12_phraseOf_40 : decode cX12_phraseOf 40 = .ok (.goto (-38), 3) := by decide +kernel
theorem dX12_phraseOf_43 : decode cX12_phraseOf 43 = .ok (.bipush (-2), 2) := by decide +kernel
theorem dX12_phraseOf_45 : decode cX12_phraseOf 45 = .ok (.ireturn, 1) := by decide +kernel
theorem dX12_findPhrases_0 : decode cX12_findPhrases 0 = .ok (.aload_n 0, 1) := by decide +kernel
theorem dX12_findPhrases_1 : decode cX12_findPhrases 1 = .ok (.iconst 0, 1) := by decide +kernel
theorem dX12_findPhrases_2 : decode cX12_findPhrases 2 = .ok (.putfield 164, 3) := by decide +kernel
theorem dX12_findPhrases_5 : decode cX12_findPhrases 5 = .ok (.iconst 0, 1) := by decide +kernel
theorem dX12_findPhrases_6 : decode cX12_findPhrases 6 = .ok (.istore_n 1, 1) := by decide +kernel
theorem dX12_findPhrases_7 : decode cX12_findPhrases 7 = .ok (.iload_n 1, 1) := by decide +kernel
theorem dX12_findPhrases_8 : decode cX12_findPhrases 8 = .ok (.aload_n 0, 1) := by decide +kernel
theorem dX12_findPhrases_9 : decode cX12_findPhrases 9 = .ok (.getfield 72, 3) := by decide +kernel
theorem dX12_findPhrases_12 : decode cX12_findPhrases 12 = .ok (.if_icmp .ge 76, 3) := by decide +kernel
theorem dX12_findPhrases_15 : decode cX12_findPhrases 15 = .ok (.iconst 1, 1) := by decide +kernel
theorem dX12_findPhrases_16 : decode cX12_findPhrases 16 = .ok (.istore_n 2, 1) := by decide +kernel
theorem dX12_findPhrases_17 : decode cX12_findPhrases 17 = .ok (.bipush (-2), 2) := by decide +kernel
theorem dX12_findPhrases_19 : decode cX12_findPhrases 19 = .ok (.istore_n 3, 1) := by decide +kernel
theorem dX12_findPhrases_20 : decode cX12_findPhrases 20 = .ok (.aload_n 0, 1) := by decide +kernel
theorem dX12_findPhrases_21 : decode cX12_findPhrases 21 = .ok (.iload_n 1, 1) := by decide +kernel
theorem dX12_findPhrases_22 : decode cX12_findPhrases 22 = .ok (.iload_n 2, 1) := by decide +kernel
theorem dX12_findPhrases_23 : decode cX12_findPhrases 23 = .ok (.invokevirtual 174, 3) := by decide +kernel
theorem dX12_findPhrases_26 : decode cX12_findPhrases 26 = .ok (.istore 4, 2) := by decide +kernel
theorem dX12_findPhrases_28 : decode cX12_findPhrases 28 = .ok (.iload 4, 2) := by decide +kernel
theorem dX12_findPhrases_30 : decode cX12_findPhrases 30 = .ok (.bipush (-2), 2) := by decide +kernel
theorem dX12_findPhrases_32 : decode cX12_findPhrases 32 = .ok (.if_icmp .eq 30, 3) := by decide +kernel
theorem dX12_findPhrases_35 : decode cX12_findPhrases 35 = .ok (.iload_n 1, 1) := by decide +kernel
theorem dX12_findPhrases_36 : decode cX12_findPhrases 36 = .ok (.iload_n 2, 1) := by decide +kernel
theorem dX12_findPhrases_37 : decode cX12_findPhrases 37 = .ok (.iadd, 1) := by decide +kernel
theorem dX12_findPhrases_38 : decode cX12_findPhrases 38 = .ok (.aload_n 0, 1) := by decide +kernel
theorem dX12_findPhrases_39 : decode cX12_findPhrases 39 = .ok (.getfield 72, 3) := by decide +kernel
theorem dX12_findPhrases_42 : decode cX12_findPhrases 42 = .ok (.if_icmp .ge 20, 3) := by decide +kernel
theorem dX12_findPhrases_45 : decode cX12_findPhrases 45 = .ok (.iload 4, 2) := by decide +kernel
theorem dX12_findPhrases_47 : decode cX12_findPhrases 47 = .ok (.istore_n 3, 1) := by decide +kernel
theorem dX12_findPhrases_48 : decode cX12_findPhrases 48 = .ok (.iinc 2 1, 3) := by decide +kernel
theorem dX12_findPhrases_51 : decode cX12_findPhrases 51 = .ok (.aload_n 0, 1) := by decide +kernel
theorem dX12_findPhrases_52 : decode cX12_findPhrases 52 = .ok (.iload_n 1, 1) := by decide +kernel
theorem dX12_findPhrases_53 : decode cX12_findPhrases 53 = .ok (.iload_n 2, 1) := by decide +kernel
theorem dX12_findPhrases_54 : decode cX12_findPhrases 54 = .ok (.invokevirtual 174, 3) := by decide +kernel
theorem dX12_findPhrases_57 : decode cX12_findPhrases 57 = .ok (.istore 4, 2) := by decide +kernel
theorem dX12_findPhrases_59 : decode cX12_findPhrases 59 = .ok (.goto (-31), 3) := by decide +kernel
theorem dX12_findPhrases_62 : decode cX12_findPhrases 62 = .ok (.aload_n 0, 1) := by decide +kernel
theorem dX12_findPhrases_63 : decode cX12_findPhrases 63 = .ok (.iload_n 1, 1) := by decide +kernel
theorem dX12_findPhrases_64 : decode cX12_findPhrases 64 = .ok (.iload_n 2, 1) := by decide +kernel
theorem dX12_findPhrases_65 : decode cX12_findPhrases 65 = .ok (.iload 4, 2) := by decide +kernel
theorem dX12_findPhrases_67 : decode cX12_findPhrases 67 = .ok (.bipush (-2), 2) := by decide +kernel
theorem dX12_findPhrases_69 : decode cX12_findPhrases 69 = .ok (.if_icmp .eq 8, 3) := by decide +kernel
theorem dX12_findPhrases_72 : decode cX12_findPhrases 72 = .ok (.iload 4, 2) := by decide +kernel
theorem dX12_findPhrases_74 : decode cX12_findPhrases 74 = .ok (.goto 4, 3) := by decide +kernel
theorem dX12_findPhrases_77 : decode cX12_findPhrases 77 = .ok (.iload_n 3, 1) := by decide +kernel
theorem dX12_findPhrases_78 : decode cX12_findPhrases 78 = .ok (.invokevirtual 170, 3) := by decide +kernel
theorem dX12_findPhrases_81 : decode cX12_findPhrases 81 = .ok (.iload_n 1, 1) := by decide +kernel
theorem dX12_findPhrases_82 : decode cX12_findPhrases 82 = .ok (.iload_n 2, 1) := by decide +kernel
theorem dX12_findPhrases_83 : decode cX12_findPhrases 83 = .ok (.iadd, 1) := by decide +kernel
theorem dX12_findPhrases_84 : decode cX12_findPhrases 84 = .ok (.istore_n 1, 1) := by decide +kernel
theorem dX12_findPhrases_85 : decode cX12_findPhrases 85 = .ok (.goto (-78), 3) := by decide +kernel
theorem dX12_findPhrases_88 : decode cX12_findPhrases 88 = .ok (.return_, 1) := by decide +kernel
theorem dX12_findPieces_0 : decode cX12_findPieces 0 = .ok (.iload_n 1, 1) := by decide +kernel
theorem dX12_findPieces_1 : decode cX12_findPieces 1 = .ok (.ifCond .ne 10, 3) := by decide +kernel
theorem dX12_findPieces_4 : decode cX12_findPieces 4 = .ok (.aload_n 0, 1) := by decide +kernel
theorem dX12_findPieces_5 : decode cX12_findPieces 5 = .ok (.invokevirtual 177, 3) := by decide +kernel
theorem dX12_findPieces_8 : decode cX12_findPieces 8 = .ok (.goto 7, 3) := by decide +kernel
theorem dX12_findPieces_11 : decode cX12_findPieces 11 = .ok (.aload_n 0, 1) := by decide +kernel
theorem dX12_findPieces_12 : decode cX12_findPieces 12 = .ok (.invokevirtual 180, 3) := by decide +kernel
theorem dX12_findPieces_15 : decode cX12_findPieces 15 = .ok (.return_, 1) := by decide +kernel
theorem dX12_pieces_0 : decode cX12_pieces 0 = .ok (.aload_n 0, 1) := by decide +kernel
theorem dX12_pieces_1 : decode cX12_pieces 1 = .ok (.iconst 0, 1) := by decide +kernel
theorem dX12_pieces_2 : decode cX12_pieces 2 = .ok (.putfield 59, 3) := by decide +kernel
theorem dX12_pieces_5 : decode cX12_pieces 5 = .ok (.iload_n 1, 1) := by decide +kernel
theorem dX12_pieces_6 : decode cX12_pieces 6 = .ok (.invokestatic 155, 3) := by decide +kernel
theorem dX12_pieces_9 : decode cX12_pieces 9 = .ok (.ifCond .ne 5, 3) := by decide +kernel
theorem dX12_pieces_12 : decode cX12_pieces 12 = .ok (.iconst (-1), 1) := by decide +kernel
theorem dX12_pieces_13 : decode cX12_pieces 13 = .ok (.ireturn, 1) := by decide +kernel
theorem dX12_pieces_14 : decode cX12_pieces 14 = .ok (.aload_n 0, 1) := by decide +kernel
theorem dX12_pieces_15 : decode cX12_pieces 15 = .ok (.iload_n 1, 1) := by decide +kernel
theorem dX12_pieces_16 : decode cX12_pieces 16 = .ok (.invokevirtual 183, 3) := by decide +kernel
theorem dX12_pieces_19 : decode cX12_pieces 19 = .ok (.aload_n 0, 1) := by decide +kernel
theorem dX12_pieces_20 : decode cX12_pieces 20 = .ok (.getfield 164, 3) := by decide +kernel
theorem dX12_pieces_23 : decode cX12_pieces 23 = .ok (.ireturn, 1) := by decide +kernel
theorem dX12_piece_0 : decode cX12_piece 0 = .ok (.aload_n 0, 1) := by decide +kernel
theorem dX12_piece_1 : decode cX12_piece 1 = .ok (.iconst 0, 1) := by decide +kernel
theorem dX12_piece_2 : decode cX12_piece 2 = .ok (.putfield 59, 3) := by decide +kernel
theorem dX12_piece_5 : decode cX12_piece 5 = .ok (.iload_n 1, 1) := by decide +kernel
theorem dX12_piece_6 : decode cX12_piece 6 = .ok (.invokestatic 155, 3) := by decide +kernel
theorem dX12_piece_9 : decode cX12_piece 9 = .ok (.ifCond .eq 15, 3) := by decide +kernel
theorem dX12_piece_12 : decode cX12_piece 12 = .ok (.iload_n 3, 1) := by decide +kernel
theorem dX12_piece_13 : decode cX12_piece 13 = .ok (.i2l, 1) := by decide +kernel
theorem dX12_piece_14 : decode cX12_piece 14 = .ok (.lconst 0, 1) := by decide +kernel
theorem dX12_piece_15 : decode cX12_piece 15 = .ok (.ldc2_w 98, 3) := by decide +kernel
theorem dX12_piece_18 : decode cX12_piece 18 = .ok (.invokestatic 64, 3) := by decide +kernel
theorem dX12_piece_21 : decode cX12_piece 21 = .ok (.ifCond .ne 5, 3) := by decide +kernel
theorem dX12_piece_24 : decode cX12_piece 24 = .ok (.iconst (-1), 1) := by decide +kernel
theorem dX12_piece_25 : decode cX12_piece 25 = .ok (.ireturn, 1) := by decide +kernel
theorem dX12_piece_26 : decode cX12_piece 26 = .ok (.aload_n 0, 1) := by decide +kernel
theorem dX12_piece_27 : decode cX12_piece 27 = .ok (.iload_n 1, 1) := by decide +kernel
theorem dX12_piece_28 : decode cX12_piece 28 = .ok (.invokevirtual 183, 3) := by decide +kernel
theorem dX12_piece_31 : decode cX12_piece 31 = .ok (.iload_n 2, 1) := by decide +kernel
theorem dX12_piece_32 : decode cX12_piece 32 = .ok (.i2l, 1) := by decide +kernel
theorem dX12_piece_33 : decode cX12_piece 33 = .ok (.lconst 0, 1) := by decide +kernel
theorem dX12_piece_34 : decode cX12_piece 34 = .ok (.aload_n 0, 1) := by decide +kernel
theorem dX12_piece_35 : decode cX12_piece 35 = .ok (.getfield 164, 3) := by decide +kernel
theorem dX12_piece_38 : decode cX12_piece 38 = .ok (.iconst 1, 1) := by decide +kernel
theorem dX12_piece_39 : decode cX12_piece 39 = .ok (.isub, 1) := by decide +kernel
theorem dX12_piece_40 : decode cX12_piece 40 = .ok (.i2l, 1) := by decide +kernel
theorem dX12_piece_41 : decode cX12_piece 41 = .ok (.invokestatic 64, 3) := by decide +kernel
theorem dX12_piece_44 : decode cX12_piece 44 = .ok (.ifCond .ne 5, 3) := by decide +kernel
theorem dX12_piece_47 : decode cX12_piece 47 = .ok (.iconst (-1), 1) := by decide +kernel
theorem dX12_piece_48 : decode cX12_piece 48 = .ok (.ireturn, 1) := by decide +kernel
theorem dX12_piece_49 : decode cX12_piece 49 = .ok (.iload_n 3, 1) := by decide +kernel
theorem dX12_piece_50 : decode cX12_piece 50 = .ok (.ifCond .ne 12, 3) := by decide +kernel
theorem dX12_piece_53 : decode cX12_piece 53 = .ok (.aload_n 0, 1) := by decide +kernel
theorem dX12_piece_54 : decode cX12_piece 54 = .ok (.getfield 34, 3) := by decide +kernel
theorem dX12_piece_57 : decode cX12_piece 57 = .ok (.iload_n 2, 1) := by decide +kernel
theorem dX12_piece_58 : decode cX12_piece 58 = .ok (.iaload, 1) := by decide +kernel
theorem dX12_piece_59 : decode cX12_piece 59 = .ok (.goto 23, 3) := by decide +kernel
theorem dX12_piece_62 : decode cX12_piece 62 = .ok (.iload_n 3, 1) := by decide +kernel
theorem dX12_piece_63 : decode cX12_piece 63 = .ok (.iconst 1, 1) := by decide +kernel
theorem dX12_piece_64 : decode cX12_piece 64 = .ok (.if_icmp .ne 12, 3) := by decide +kernel
theorem dX12_piece_67 : decode cX12_piece 67 = .ok (.aload_n 0, 1) := by decide +kernel
theorem dX12_piece_68 : decode cX12_piece 68 = .ok (.getfield 37, 3) := by decide +kernel
theorem dX12_piece_71 : decode cX12_piece 71 = .ok (.iload_n 2, 1) := by decide +kernel
theorem dX12_piece_72 : decode cX12_piece 72 = .ok (.iaload, 1) := by decide +kernel
theorem dX12_piece_73 : decode cX12_piece 73 = .ok (.goto 9, 3) := by decide +kernel
theorem dX12_piece_76 : decode cX12_piece 76 = .ok (.aload_n 0, 1) := by decide +kernel
theorem dX12_piece_77 : decode cX12_piece 77 = .ok (.getfield 40, 3) := by decide +kernel
theorem dX12_piece_80 : decode cX12_piece 80 = .ok (.iload_n 2, 1) := by decide +kernel
theorem dX12_piece_81 : decode cX12_piece 81 = .ok (.iaload, 1) := by decide +kernel
theorem dX12_piece_82 : decode cX12_piece 82 = .ok (.ireturn, 1) := by decide +kernel
theorem dX12_isMade_0 : decode cX12_isMade 0 = .ok (.aload_n 0, 1) := by decide +kernel
theorem dX12_isMade_1 : decode cX12_isMade 1 = .ok (.getfield 52, 3) := by decide +kernel
theorem dX12_isMade_4 : decode cX12_isMade 4 = .ok (.aload_n 0, 1) := by decide +kernel
theorem dX12_isMade_5 : decode cX12_isMade 5 = .ok (.getfield 72, 3) := by decide +kernel
theorem dX12_isMade_8 : decode cX12_isMade 8 = .ok (.if_icmp .ne 7, 3) := by decide +kernel
theorem dX12_isMade_11 : decode cX12_isMade 11 = .ok (.iconst 1, 1) := by decide +kernel
theorem dX12_isMade_12 : decode cX12_isMade 12 = .ok (.goto 4, 3) := by decide +kernel
theorem dX12_isMade_15 : decode cX12_isMade 15 = .ok (.iconst 0, 1) := by decide +kernel
theorem dX12_isMade_16 : decode cX12_isMade 16 = .ok (.istore_n 1, 1) := by decide +kernel
theorem dX12_isMade_17 : decode cX12_isMade 17 = .ok (.iconst 0, 1) := by decide +kernel
theorem dX12_isMade_18 : decode cX12_isMade 18 = .ok (.istore_n 2, 1) := by decide +kernel
theorem dX12_isMade_19 : decode cX12_isMade 19 = .ok (.iload_n 2, 1) := by decide +kernel
theorem dX12_isMade_20 : decode cX12_isMade 20 = .ok (.aload_n 0, 1) := by decide +kernel
theorem dX12_isMade_21 : decode cX12_isMade 21 = .ok (.getfield 72, 3) := by decide +kernel
theorem dX12_isMade_24 : decode cX12_isMade 24 = .ok (.if_icmp .ge 34, 3) := by decide +kernel
theorem dX12_isMade_27 : decode cX12_isMade 27 = .ok (.iload_n 1, 1) := by decide +kernel
theorem dX12_isMade_28 : decode cX12_isMade 28 = .ok (.ifCond .eq 30, 3) := by decide +kernel
theorem dX12_isMade_31 : decode cX12_isMade 31 = .ok (.aload_n 0, 1) := by decide +kernel
theorem dX12_isMade_32 : decode cX12_isMade 32 = .ok (.getfield 56, 3) := by decide +kernel
theorem dX12_isMade_35 : decode cX12_isMade 35 = .ok (.iload_n 2, 1) := by decide +kernel
theorem dX12_isMade_36 : decode cX12_isMade 36 = .ok (.iaload, 1) := by decide +kernel
theorem dX12_isMade_37 : decode cX12_isMade 37 = .ok (.aload_n 0, 1) := by decide +kernel
theorem dX12_isMade_38 : decode cX12_isMade 38 = .ok (.getfield 7, 3) := by decide +kernel
theorem dX12_isMade_41 : decode cX12_isMade 41 = .ok (.iload_n 2, 1) := by decide +kernel
theorem dX12_isMade_42 : decode cX12_isMade 42 = .ok (.iaload, 1) := by decide +kernel
theorem dX12_isMade_43 : decode cX12_isMade 43 = .ok (.if_icmp .ne 7, 3) := by decide +kernel
theorem dX12_isMade_46 : decode cX12_isMade 46 = .ok (.iconst 1, 1) := by decide +kernel
theorem dX12_isMade_47 : decode cX12_isMade 47 = .ok (.goto 4, 3) := by decide +kernel
theorem dX12_isMade_50 : decode cX12_isMade 50 = .ok (.iconst 0, 1) := by decide +kernel
theorem dX12_isMade_51 : decode cX12_isMade 51 = .ok (.istore_n 1, 1) := by decide +kernel
theorem dX12_isMade_52 : decode cX12_isMade 52 = .ok (.iinc 2 1, 3) := by decide +kernel
theorem dX12_isMade_55 : decode cX12_isMade 55 = .ok (.goto (-36), 3) := by decide +kernel
theorem dX12_isMade_58 : decode cX12_isMade 58 = .ok (.iload_n 1, 1) := by decide +kernel
theorem dX12_isMade_59 : decode cX12_isMade 59 = .ok (.ireturn, 1) := by decide +kernel
theorem dX12_countPair_0 : decode cX12_countPair 0 = .ok (.iconst 0, 1) := by decide +kernel
theorem dX12_countPair_1 : decode cX12_countPair 1 = .ok (.istore_n 3, 1) := by decide +kernel
theorem dX12_countPair_2 : decode cX12_countPair 2 = .ok (.iconst 0, 1) := by decide +kernel
theorem dX12_countPair_3 : decode cX12_countPair 3 = .ok (.istore 4, 2) := by decide +kernel
theorem dX12_countPair_5 : decode cX12_countPair 5 = .ok (.iload 4, 2) := by decide +kernel
theorem dX12_countPair_7 : decode cX12_countPair 7 = .ok (.iconst 1, 1) := by decide +kernel
theorem dX12_countPair_8 : decode cX12_countPair 8 = .ok (.iadd, 1) := by decide +kernel
theorem dX12_countPair_9 : decode cX12_countPair 9 = .ok (.aload_n 0, 1) := by decide +kernel
theorem dX12_countPair_10 : decode cX12_countPair 10 = .ok (.getfield 187, 3) := by decide +kernel
theorem dX12_countPair_13 : decode cX12_countPair 13 = .ok (.if_icmp .ge 65, 3) := by decide +kernel
theorem dX12_countPair_16 : decode cX12_countPair 16 = .ok (.aload_n 0, 1) := by decide +kernel
theorem dX12_countPair_17 : decode cX12_countPair 17 = .ok (.getfield 43, 3) := by decide +kernel
theorem dX12_countPair_20 : decode cX12_countPair 20 = .ok (.iload 4, 2) := by decide +kernel
theorem dX12_countPair_22 : decode cX12_countPair 22 = .ok (.iaload, 1) := by decide +kernel
theorem dX12_countPair_23 : decode cX12_countPair 23 = .ok (.iload_n 1, 1) := by decide +kernel
theorem dX12_countPair_24 : decode cX12_countPair 24 = .ok (.if_icmp .ne 20, 3) := by decide +kernel
theorem dX12_countPair_27 : decode cX12_countPair 27 = .ok (.aload_n 0, 1) := by decide +kernel
theorem dX12_countPair_28 : decode cX12_countPair 28 = .ok (.getfield 43, 3) := by decide +kernel
theorem dX12_countPair_31 : decode cX12_countPair 31 = .ok (.iload 4, 2) := by decide +kernel
theorem dX12_countPair_33 : decode cX12_countPair 33 = .ok (.iconst 1, 1) := by decide +kernel
theorem dX12_countPair_34 : decode cX12_countPair 34 = .ok (.iadd, 1) := by decide +kernel
theorem dX12_countPair_35 : decode cX12_countPair 35 = .ok (.iaload, 1) := by decide +kernel
theorem dX12_countPair_36 : decode cX12_countPair 36 = .ok (.iload_n 2, 1) := by decide +kernel
theorem dX12_countPair_37 : decode cX12_countPair 37 = .ok (.if_icmp .ne 7, 3) := by decide +kernel
theorem dX12_countPair_40 : decode cX12_countPair 40 = .ok (.iconst 1, 1) := by decide +kernel
theorem dX12_countPair_41 : decode cX12_countPair 41 = .ok (.goto 4, 3) := by decide +kernel
theorem dX12_countPair_44 : decode cX12_countPair 44 = .ok (.iconst 0, 1) := by decide +kernel
theorem dX12_countPair_45 : decode cX12_countPair 45 = .ok (.istore 5, 2) := by decide +kernel
theorem dX12_countPair_47 : decode cX12_countPair 47 = .ok (.iload_n 3, 1) := by decide +kernel
theorem dX12_countPair_48 : decode cX12_countPair 48 = .ok (.iload 5, 2) := by decide +kernel
theorem dX12_countPair_50 : decode cX12_countPair 50 = .ok (.ifCond .eq 7, 3) := by decide +kernel
theorem dX12_countPair_53 : decode cX12_countPair 53 = .ok (.iconst 1, 1) := by decide +kernel
theorem dX12_countPair_54 : decode cX12_countPair 54 = .ok (.goto 4, 3) := by decide +kernel
theorem dX12_countPair_57 : decode cX12_countPair 57 = .ok (.iconst 0, 1) := by decide +kernel
theorem dX12_countPair_58 : decode cX12_countPair 58 = .ok (.iadd, 1) := by decide +kernel
theorem dX12_countPair_59 : decode cX12_countPair 59 = .ok (.istore_n 3, 1) := by decide +kernel
theorem dX12_countPair_60 : decode cX12_countPair 60 = .ok (.iload 4, 2) := by decide +kernel
theorem dX12_countPair_62 : decode cX12_countPair 62 = .ok (.iload 5, 2) := by decide +kernel
theorem dX12_countPair_64 : decode cX12_countPair 64 = .ok (.ifCond .eq 7, 3) := by decide +kernel
theorem dX12_countPair_67 : decode cX12_countPair 67 = .ok (.iconst 2, 1) := by decide +kernel
theorem dX12_countPair_68 : decode cX12_countPair 68 = .ok (.goto 4, 3) := by decide +kernel
theorem dX12_countPair_71 : decode cX12_countPair 71 = .ok (.iconst 1, 1) := by decide +kernel
theorem dX12_countPair_72 : decode cX12_countPair 72 = .ok (.iadd, 1) := by decide +kernel
theorem dX12_countPair_73 : decode cX12_countPair 73 = .ok (.istore 4, 2) := by decide +kernel
theorem dX12_countPair_75 : decode cX12_countPair 75 = .ok (.goto (-70), 3) := by decide +kernel
theorem dX12_countPair_78 : decode cX12_countPair 78 = .ok (.iload_n 3, 1) := by decide +kernel
theorem dX12_countPair_79 : decode cX12_countPair 79 = .ok (.ireturn, 1) := by decide +kernel
theorem dX12_bestPair_0 : decode cX12_bestPair 0 = .ok (.bipush (-2), 2) := by decide +kernel
theorem dX12_bestPair_2 : decode cX12_bestPair 2 = .ok (.istore_n 1, 1) := by decide +kernel
theorem dX12_bestPair_3 : decode cX12_bestPair 3 = .ok (.iconst 1, 1) := by decide +kernel
theorem dX12_bestPair_4 : decode cX12_bestPair 4 = .ok (.istore_n 2, 1) := by decide +kernel
theorem dX12_bestPair_5 : decode cX12_bestPair 5 = .ok (.iconst 0, 1) := by decide +kernel
theorem dX12_bestPair_6 : decode cX12_bestPair 6 = .ok (.istore_n 3, 1) := by decide +kernel
theorem dX12_bestPair_7 : decode cX12_bestPair 7 = .ok (.iload_n 3, 1) := by decide +kernel
theorem dX12_bestPair_8 : decode cX12_bestPair 8 = .ok (.iconst 1, 1) := by decide +kernel
theorem dX12_bestPair_9 : decode cX12_bestPair 9 = .ok (.iadd, 1) := by decide +kernel
theorem dX12_bestPair_10 : decode cX12_bestPair 10 = .ok (.aload_n 0, 1) := by decide +kernel
theorem dX12_bestPair_11 : decode cX12_bestPair 11 = .ok (.getfield 187, 3) := by decide +kernel
theorem dX12_bestPair_14 : decode cX12_bestPair 14 = .ok (.if_icmp .ge 188, 3) := by decide +kernel
theorem dX12_bestPair_17 : decode cX12_bestPair 17 = .ok (.iconst 1, 1) := by decide +kernel
theorem dX12_bestPair_18 : decode cX12_bestPair 18 = .ok (.istore 4, 2) := by decide +kernel
theorem dX12_bestPair_20 : decode cX12_bestPair 20 = .ok (.iconst 0, 1) := by decide +kernel
theorem dX12_bestPair_21 : decode cX12_bestPair 21 = .ok (.istore 5, 2) := by decide +kernel
theorem dX12_bestPair_23 : decode cX12_bestPair 23 = .ok (.iload 5, 2) := by decide +kernel
theorem dX12_bestPair_25 : decode cX12_bestPair 25 = .ok (.iload_n 3, 1) := by decide +kernel
theorem dX12_bestPair_26 : decode cX12_bestPair 26 = .ok (.if_icmp .ge 57, 3) := by decide +kernel
theorem dX12_bestPair_29 : decode cX12_bestPair 29 = .ok (.iload 4, 2) := by decide +kernel
theorem dX12_bestPair_31 : decode cX12_bestPair 31 = .ok (.ifCond .eq 52, 3) := by decide +kernel
theorem dX12_bestPair_34 : decode cX12_bestPair 34 = .ok (.aload_n 0, 1) := by decide +kernel
theorem dX12_bestPair_35 : decode cX12_bestPair 35 = .ok (.getfield 43, 3) := by decide +kernel
theorem dX12_bestPair_38 : decode cX12_bestPair 38 = .ok (.iload 5, 2) := by decide +kernel
theorem dX12_bestPair_40 : decode cX12_bestPair 40 = .ok (.iaload, 1) := by decide +kernel
theorem dX12_bestPair_41 : decode cX12_bestPair 41 = .ok (.aload_n 0, 1) := by decide +kernel
theorem dX12_bestPair_42 : decode cX12_bestPair 42 = .ok (.getfield 43, 3) := by decide +kernel
theorem dX12_bestPair_45 : decode cX12_bestPair 45 = .ok (.iload_n 3, 1) := by decide +kernel
theorem dX12_bestPair_46 : decode cX12_bestPair 46 = .ok (.iaload, 1) := by decide +kernel
theorem dX12_bestPair_47 : decode cX12_bestPair 47 = .ok (.if_icmp .ne 23, 3) := by decide +kernel
theorem dX12_bestPair_50 : decode cX12_bestPair 50 = .ok (.aload_n 0, 1) := by decide +kernel
theorem dX12_bestPair_51 : decode cX12_bestPair 51 = .ok (.getfield 43, 3) := by decide +kernel
theorem dX12_bestPair_54 : decode cX12_bestPair 54 = .ok (.iload 5, 2) := by decide +kernel
theorem dX12_bestPair_56 : decode cX12_bestPair 56 = .ok (.iconst 1, 1) := by decide +kernel
theorem dX12_bestPair_57 : decode cX12_bestPair 57 = .ok (.iadd, 1) := by decide +kernel
theorem dX12_bestPair_58 : decode cX12_bestPair 58 = .ok (.iaload, 1) := by decide +kernel
theorem dX12_bestPair_59 : decode cX12_bestPair 59 = .ok (.aload_n 0, 1) := by decide +kernel
theorem dX12_bestPair_60 : decode cX12_bestPair 60 = .ok (.getfield 43, 3) := by decide +kernel
theorem dX12_bestPair_63 : decode cX12_bestPair 63 = .ok (.iload_n 3, 1) := by decide +kernel
theorem dX12_bestPair_64 : decode cX12_bestPair 64 = .ok (.iconst 1, 1) := by decide +kernel
theorem dX12_bestPair_65 : decode cX12_bestPair 65 = .ok (.iadd, 1) := by decide +kernel
theorem dX12_bestPair_66 : decode cX12_bestPair 66 = .ok (.iaload, 1) := by decide +kernel
theorem dX12_bestPair_67 : decode cX12_bestPair 67 = .ok (.if_icmp .eq 7, 3) := by decide +kernel
theorem dX12_bestPair_70 : decode cX12_bestPair 70 = .ok (.iconst 1, 1) := by decide +kernel
theorem dX12_bestPair_71 : decode cX12_bestPair 71 = .ok (.goto 4, 3) := by decide +kernel
theorem dX12_bestPair_74 : decode cX12_bestPair 74 = .ok (.iconst 0, 1) := by decide +kernel
theorem dX12_bestPair_75 : decode cX12_bestPair 75 = .ok (.istore 4, 2) := by decide +kernel
theorem dX12_bestPair_77 : decode cX12_bestPair 77 = .ok (.iinc 5 1, 3) := by decide +kernel
theorem dX12_bestPair_80 : decode cX12_bestPair 80 = .ok (.goto (-57), 3) := by decide +kernel
theorem dX12_bestPair_83 : decode cX12_bestPair 83 = .ok (.iload 4, 2) := by decide +kernel
theorem dX12_bestPair_85 : decode cX12_bestPair 85 = .ok (.ifCond .eq 24, 3) := by decide +kernel
theorem dX12_bestPair_88 : decode cX12_bestPair 88 = .ok (.aload_n 0, 1) := by decide +kernel
theorem dX12_bestPair_89 : decode cX12_bestPair 89 = .ok (.aload_n 0, 1) := by decide +kernel
theorem dX12_bestPair_90 : decode cX12_bestPair 90 = .ok (.getfield 43, 3) := by decide +kernel
theorem dX12_bestPair_93 : decode cX12_bestPair 93 = .ok (.iload_n 3, 1) := by decide +kernel
theorem dX12_bestPair_94 : decode cX12_bestPair 94 = .ok (.iaload, 1) := by decide +kernel
theorem dX12_bestPair_95 : decode cX12_bestPair 95 = .ok (.aload_n 0, 1) := by decide +kernel
theorem dX12_bestPair_96 : decode cX12_bestPair 96 = .ok (.getfield 43, 3) := by decide +kernel
theorem dX12_bestPair_99 : decode cX12_bestPair 99 = .ok (.iload_n 3, 1) := by decide +kernel
theorem dX12_bestPair_100 : decode cX12_bestPair 100 = .ok (.iconst 1, 1) := by decide +kernel
theorem dX12_bestPair_101 : decode cX12_bestPair 101 = .ok (.iadd, 1) := by decide +kernel
theorem dX12_bestPair_102 : decode cX12_bestPair 102 = .ok (.iaload, 1) := by decide +kernel
theorem dX12_bestPair_103 : decode cX12_bestPair 103 = .ok (.invokevirtual 190, 3) := by decide +kernel
theorem dX12_bestPair_106 : decode cX12_bestPair 106 = .ok (.goto 4, 3) := by decide +kernel
theorem dX12_bestPair_109 : decode cX12_bestPair 109 = .ok (.iconst 0, 1) := by decide +kernel
theorem dX12_bestPair_110 : decode cX12_bestPair 110 = .ok (.istore 5, 2) := by decide +kernel
theorem dX12_bestPair_112 : decode cX12_bestPair 112 = .ok (.iload_n 1, 1) := by decide +kernel
theorem dX12_bestPair_113 : decode cX12_bestPair 113 = .ok (.bipush (-2), 2) := by decide +kernel
theorem dX12_bestPair_115 : decode cX12_bestPair 115 = .ok (.if_icmp .eq 62, 3) := by decide +kernel
theorem dX12_bestPair_118 : decode cX12_bestPair 118 = .ok (.iload 5, 2) := by decide +kernel
theorem dX12_bestPair_120 : decode cX12_bestPair 120 = .ok (.iload_n 2, 1) := by decide +kernel
theorem dX12_bestPair_121 : decode cX12_bestPair 121 = .ok (.if_icmp .ne 56, 3) := by decide +kernel
theorem dX12_bestPair_124 : decode cX12_bestPair 124 = .ok (.aload_n 0, 1) := by decide +kernel
theorem dX12_bestPair_125 : decode cX12_bestPair 125 = .ok (.getfield 43, 3) := by decide +kernel
theorem dX12_bestPair_128 : decode cX12_bestPair 128 = .ok (.iload_n 3, 1) := by decide +kernel
theorem dX12_bestPair_129 : decode cX12_bestPair 129 = .ok (.iaload, 1) := by decide +kernel
theorem dX12_bestPair_130 : decode cX12_bestPair 130 = .ok (.aload_n 0, 1) := by decide +kernel
theorem dX12_bestPair_131 : decode cX12_bestPair 131 = .ok (.getfield 43, 3) := by decide +kernel
theorem dX12_bestPair_134 : decode cX12_bestPair 134 = .ok (.iload_n 1, 1) := by decide +kernel
theorem dX12_bestPair_135 : decode cX12_bestPair 135 = .ok (.iaload, 1) := by decide +kernel
theorem dX12_bestPair_136 : decode cX12_bestPair 136 = .ok (.if_icmp .lt 37, 3) := by decide +kernel
theorem dX12_bestPair_139 : decode cX12_bestPair 139 = .ok (.aload_n 0, 1) := by decide +kernel
theorem dX12_bestPair_140 : decode cX12_bestPair 140 = .ok (.getfield 43, 3) := by decide +kernel
theorem dX12_bestPair_143 : decode cX12_bestPair 143 = .ok (.iload_n 3, 1) := by decide +kernel
theorem dX12_bestPair_144 : decode cX12_bestPair 144 = .ok (.iaload, 1) := by decide +kernel
theorem dX12_bestPair_145 : decode cX12_bestPair 145 = .ok (.aload_n 0, 1) := by decide +kernel
theorem dX12_bestPair_146 : decode cX12_bestPair 146 = .ok (.getfield 43, 3) := by decide +kernel
theorem dX12_bestPair_149 : decode cX12_bestPair 149 = .ok (.iload_n 1, 1) := by decide +kernel
theorem dX12_bestPair_150 : decode cX12_bestPair 150 = .ok (.iaload, 1) := by decide +kernel
theorem dX12_bestPair_151 : decode cX12_bestPair 151 = .ok (.if_icmp .ne 26, 3) := by decide +kernel
theorem dX12_bestPair_154 : decode cX12_bestPair 154 = .ok (.aload_n 0, 1) := by decide +kernel
theorem dX12_bestPair_155 : decode cX12_bestPair 155 = .ok (.getfield 43, 3) := by decide +kernel
theorem dX12_bestPair_158 : decode cX12_bestPair 158 = .ok (.iload_n 3, 1) := by decide +kernel
theorem dX12_bestPair_159 : decode cX12_bestPair 159 = .ok (.iconst 1, 1) := by decide +kernel
theorem dX12_bestPair_160 : decode cX12_bestPair 160 = .ok (.iadd, 1) := by decide +kernel
theorem dX12_bestPair_161 : decode cX12_bestPair 161 = .ok (.iaload, 1) := by decide +kernel
theorem dX12_bestPair_162 : decode cX12_bestPair 162 = .ok (.aload_n 0, 1) := by decide +kernel
theorem dX12_bestPair_163 : decode cX12_bestPair 163 = .ok (.getfield 43, 3) := by decide +kernel
theorem dX12_bestPair_166 : decode cX12_bestPair 166 = .ok (.iload_n 1, 1) := by decide +kernel
theorem dX12_bestPair_167 : decode cX12_bestPair 167 = .ok (.iconst 1, 1) := by decide +kernel
theorem dX12_bestPair_168 : decode cX12_bestPair 168 = .ok (.iadd, 1) := by decide +kernel
theorem dX12_bestPair_169 : decode cX12_bestPair 169 = .ok (.iaload, 1) := by decide +kernel
theorem dX12_bestPair_170 : decode cX12_bestPair 170 = .ok (.if_icmp .ge 7, 3) := by decide +kernel
theorem dX12_bestPair_173 : decode cX12_bestPair 173 = .ok (.iconst 1, 1) := by decide +kernel
theorem dX12_bestPair_174 : decode cX12_bestPair 174 = .ok (.goto 4, 3) := by decide +kernel
theorem dX12_bestPair_177 : decode cX12_bestPair 177 = .ok (.iconst 0, 1) := by decide +kernel
theorem dX12_bestPair_178 : decode cX12_bestPair 178 = .ok (.istore 6, 2) := by decide +kernel
theorem dX12_bestPair_180 : decode cX12_bestPair 180 = .ok (.iload 5, 2) := by decide +kernel
theorem dX12_bestPair_182 : decode cX12_bestPair 182 = .ok (.iload_n 2, 1) := by decide +kernel
theorem dX12_bestPair_183 : decode cX12_bestPair 183 = .ok (.if_icmp .gt 8, 3) := by decide +kernel
theorem dX12_bestPair_186 : decode cX12_bestPair 186 = .ok (.iload 6, 2) := by decide +kernel
theorem dX12_bestPair_188 : decode cX12_bestPair 188 = .ok (.ifCond .eq 8, 3) := by decide +kernel
theorem dX12_bestPair_191 : decode cX12_bestPair 191 = .ok (.iload 5, 2) := by decide +kernel
theorem dX12_bestPair_193 : decode cX12_bestPair 193 = .ok (.istore_n 2, 1) := by decide +kernel
theorem dX12_bestPair_194 : decode cX12_bestPair 194 = .ok (.iload_n 3, 1) := by decide +kernel
theorem dX12_bestPair_195 : decode cX12_bestPair 195 = .ok (.istore_n 1, 1) := by decide +kernel
theorem dX12_bestPair_196 : decode cX12_bestPair 196 = .ok (.iinc 3 1, 3) := by decide +kernel
theorem dX12_bestPair_199 : decode cX12_bestPair 199 = .ok (.goto (-192), 3) := by decide +kernel
theorem dX12_bestPair_202 : decode cX12_bestPair 202 = .ok (.iload_n 1, 1) := by decide +kernel
theorem dX12_bestPair_203 : decode cX12_bestPair 203 = .ok (.ireturn, 1) := by decide +kernel
theorem dX12_makeGrammar_0 : decode cX12_makeGrammar 0 = .ok (.aload_n 0, 1) := by decide +kernel
theorem dX12_makeGrammar_1 : decode cX12_makeGrammar 1 = .ok (.invokevirtual 193, 3) := by decide +kernel
theorem dX12_makeGrammar_4 : decode cX12_makeGrammar 4 = .ok (.ifCond .eq 4, 3) := by decide +kernel
theorem dX12_makeGrammar_7 : decode cX12_makeGrammar 7 = .ok (.return_, 1) := by decide +kernel
theorem dX12_makeGrammar_8 : decode cX12_makeGrammar 8 = .ok (.aload_n 0, 1) := by decide +kernel
theorem dX12_makeGrammar_9 : decode cX12_makeGrammar 9 = .ok (.aload_n 0, 1) := by decide +kernel
theorem dX12_makeGrammar_10 : decode cX12_makeGrammar 10 = .ok (.getfield 72, 3) := by decide +kernel
theorem dX12_makeGrammar_13 : decode cX12_makeGrammar 13 = .ok (.putfield 52, 3) := by decide +kernel
theorem dX12_makeGrammar_16 : decode cX12_makeGrammar 16 = .ok (.aload_n 0, 1) := by decide +kernel
theorem dX12_makeGrammar_17 : decode cX12_makeGrammar 17 = .ok (.aload_n 0, 1) := by decide +kernel
theorem dX12_makeGrammar_18 : decode cX12_makeGrammar 18 = .ok (.getfield 72, 3) := by decide +kernel
theorem dX12_makeGrammar_21 : decode cX12_makeGrammar 21 = .ok (.putfield 187, 3) := by decide +kernel
theorem dX12_makeGrammar_24 : decode cX12_makeGrammar 24 = .ok (.aload_n 0, 1) := by decide +kernel
theorem dX12_makeGrammar_25 : decode cX12_makeGrammar 25 = .ok (.iconst 0, 1) := by decide +kernel
theorem dX12_makeGrammar_26 : decode cX12_makeGrammar 26 = .ok (.putfield 197, 3) := by decide +kernel
theorem dX12_makeGrammar_29 : decode cX12_makeGrammar 29 = .ok (.iconst 0, 1) := by decide +kernel
theorem dX12_makeGrammar_30 : decode cX12_makeGrammar 30 = .ok (.istore_n 1, 1) := by decide +kernel
theorem dX12_makeGrammar_31 : decode cX12_makeGrammar 31 = .ok (.iload_n 1, 1) := by decide +kernel
theorem dX12_makeGrammar_32 : decode cX12_makeGrammar 32 = .ok (.aload_n 0, 1) := by decide +kernel
theorem dX12_makeGrammar_33 : decode cX12_makeGrammar 33 = .ok (.getfield 72, 3) := by decide +kernel
theorem dX12_makeGrammar_36 : decode cX12_makeGrammar 36 = .ok (.if_icmp .ge 33, 3) := by decide +kernel
theorem dX12_makeGrammar_39 : decode cX12_makeGrammar 39 = .ok (.aload_n 0, 1) := by decide +kernel
theorem dX12_makeGrammar_40 : decode cX12_makeGrammar 40 = .ok (.getfield 56, 3) := by decide +kernel
theorem dX12_makeGrammar_43 : decode cX12_makeGrammar 43 = .ok (.iload_n 1, 1) := by decide +kernel
theorem dX12_makeGrammar_44 : decode cX12_makeGrammar 44 = .ok (.aload_n 0, 1) := by decide +kernel
theorem dX12_makeGrammar_45 : decode cX12_makeGrammar 45 = .ok (.getfield 7, 3) := by decide +kernel
theorem dX12_makeGrammar_48 : decode cX12_makeGrammar 48 = .ok (.iload_n 1, 1) := by decide +kernel
theorem dX12_makeGrammar_49 : decode cX12_makeGrammar 49 = .ok (.iaload, 1) := by decide +kernel
theorem dX12_makeGrammar_50 : decode cX12_makeGrammar 50 = .ok (.iastore, 1) := by decide +kernel
theorem dX12_makeGrammar_51 : decode cX12_makeGrammar 51 = .ok (.aload_n 0, 1) := by decide +kernel
theorem dX12_makeGrammar_52 : decode cX12_makeGrammar 52 = .ok (.getfield 43, 3) := by decide +kernel
theorem dX12_makeGrammar_55 : decode cX12_makeGrammar 55 = .ok (.iload_n 1, 1) := by decide +kernel
theorem dX12_makeGrammar_56 : decode cX12_makeGrammar 56 = .ok (.aload_n 0, 1) := by decide +kernel
theorem dX12_makeGrammar_57 : decode cX12_makeGrammar 57 = .ok (.getfield 7, 3) := by decide +kernel
theorem dX12_makeGrammar_60 : decode cX12_makeGrammar 60 = .ok (.iload_n 1, 1) := by decide +kernel
theorem dX12_makeGrammar_61 : decode cX12_makeGrammar 61 = .ok (.iaload, 1) := by decide +kernel
theorem dX12_makeGrammar_62 : decode cX12_makeGrammar 62 = .ok (.iastore, 1) := by decide +kernel
theorem dX12_makeGrammar_63 : decode cX12_makeGrammar 63 = .ok (.iinc 1 1, 3) := by decide +kernel
theorem dX12_makeGrammar_66 : decode cX12_makeGrammar 66 = .ok (.goto (-35), 3) := by decide +kernel
theorem dX12_makeGrammar_69 : decode cX12_makeGrammar 69 = .ok (.aload_n 0, 1) := by decide +kernel
theorem dX12_makeGrammar_70 : decode cX12_makeGrammar 70 = .ok (.invokevirtual 200, 3) := by decide +kernel
theorem dX12_makeGrammar_73 : decode cX12_makeGrammar 73 = .ok (.istore_n 1, 1) := by decide +kernel
theorem dX12_makeGrammar_74 : decode cX12_makeGrammar 74 = .ok (.iload_n 1, 1) := by decide +kernel
theorem dX12_makeGrammar_75 : decode cX12_makeGrammar 75 = .ok (.bipush (-2), 2) := by decide +kernel
theorem dX12_makeGrammar_77 : decode cX12_makeGrammar 77 = .ok (.if_icmp .eq 170, 3) := by decide +kernel
theorem dX12_makeGrammar_80 : decode cX12_makeGrammar 80 = .ok (.aload_n 0, 1) := by decide +kernel
theorem dX12_makeGrammar_81 : decode cX12_makeGrammar 81 = .ok (.getfield 43, 3) := by decide +kernel
theorem dX12_makeGrammar_84 : decode cX12_makeGrammar 84 = .ok (.iload_n 1, 1) := by decide +kernel
theorem dX12_makeGrammar_85 : decode cX12_makeGrammar 85 = .ok (.iaload, 1) := by decide +kernel
theorem dX12_makeGrammar_86 : decode cX12_makeGrammar 86 = .ok (.istore_n 2, 1) := by decide +kernel
theorem dX12_makeGrammar_87 : decode cX12_makeGrammar 87 = .ok (.aload_n 0, 1) := by decide +kernel
theorem dX12_makeGrammar_88 : decode cX12_makeGrammar 88 = .ok (.getfield 43, 3) := by decide +kernel
theorem dX12_makeGrammar_91 : decode cX12_makeGrammar 91 = .ok (.iload_n 1, 1) := by decide +kernel
theorem dX12_makeGrammar_92 : decode cX12_makeGrammar 92 = .ok (.iconst 1, 1) := by decide +kernel
theorem dX12_makeGrammar_93 : decode cX12_makeGrammar 93 = .ok (.iadd, 1) := by decide +kernel
theorem dX12_makeGrammar_94 : decode cX12_makeGrammar 94 = .ok (.iaload, 1) := by decide +kernel
theorem dX12_makeGrammar_95 : decode cX12_makeGrammar 95 = .ok (.istore_n 3, 1) := by decide +kernel
theorem dX12_makeGrammar_96 : decode cX12_makeGrammar 96 = .ok (.aload_n 0, 1) := by decide +kernel
theorem dX12_makeGrammar_97 : decode cX12_makeGrammar 97 = .ok (.getfield 46, 3) := by decide +kernel
theorem dX12_makeGrammar_100 : decode cX12_makeGrammar 100 = .ok (.aload_n 0, 1) := by decide +kernel
theorem dX12_makeGrammar_101 : decode cX12_makeGrammar 101 = .ok (.getfield 197, 3) := by decide +kernel
theorem dX12_makeGrammar_104 : decode cX12_makeGrammar 104 = .ok (.iload_n 2, 1) := by decide +kernel
theorem dX12_makeGrammar_105 : decode cX12_makeGrammar 105 = .ok (.iastore, 1) := by decide +kernel
theorem dX12_makeGrammar_106 : decode cX12_makeGrammar 106 = .ok (.aload_n 0, 1) := by decide +kernel
theorem dX12_makeGrammar_107 : decode cX12_makeGrammar 107 = .ok (.getfield 49, 3) := by decide +kernel
theorem dX12_makeGrammar_110 : decode cX12_makeGrammar 110 = .ok (.aload_n 0, 1) := by decide +kernel
theorem dX12_makeGrammar_111 : decode cX12_makeGrammar 111 = .ok (.getfield 197, 3) := by decide +kernel
theorem dX12_makeGrammar_114 : decode cX12_makeGrammar 114 = .ok (.iload_n 3, 1) := by decide +kernel
theorem dX12_makeGrammar_115 : decode cX12_makeGrammar 115 = .ok (.iastore, 1) := by decide +kernel
theorem dX12_makeGrammar_116 : decode cX12_makeGrammar 116 = .ok (.iconst 0, 1) := by decide +kernel
theorem dX12_makeGrammar_117 : decode cX12_makeGrammar 117 = .ok (.istore 4, 2) := by decide +kernel
theorem dX12_makeGrammar_119 : decode cX12_makeGrammar 119 = .ok (.iconst 0, 1) := by decide +kernel
theorem dX12_makeGrammar_120 : decode cX12_makeGrammar 120 = .ok (.istore 5, 2) := by decide +kernel
theorem dX12_makeGrammar_122 : decode cX12_makeGrammar 122 = .ok (.iload 5, 2) := by decide +kernel
theorem dX12_makeGrammar_124 : decode cX12_makeGrammar 124 = .ok (.aload_n 0, 1) := by decide +kernel
theorem dX12_makeGrammar_125 : decode cX12_makeGrammar 125 = .ok (.getfield 187, 3) := by decide +kernel
theorem dX12_makeGrammar_128 : decode cX12_makeGrammar 128 = .ok (.if_icmp .ge 95, 3) := by decide +kernel
theorem dX12_makeGrammar_131 : decode cX12_makeGrammar 131 = .ok (.iload 5, 2) := by decide +kernel
theorem dX12_makeGrammar_133 : decode cX12_makeGrammar 133 = .ok (.iconst 1, 1) := by decide +kernel
theorem dX12_makeGrammar_134 : decode cX12_makeGrammar 134 = .ok (.iadd, 1) := by decide +kernel
theorem dX12_makeGrammar_135 : decode cX12_makeGrammar 135 = .ok (.aload_n 0, 1) := by decide +kernel
theorem dX12_makeGrammar_136 : decode cX12_makeGrammar 136 = .ok (.getfield 187, 3) := by decide +kernel
theorem dX12_makeGrammar_139 : decode cX12_makeGrammar 139 = .ok (.if_icmp .ge 31, 3) := by decide +kernel
theorem dX12_makeGrammar_142 : decode cX12_makeGrammar 142 = .ok (.aload_n 0, 1) := by decide +kernel
theorem dX12_makeGrammar_143 : decode cX12_makeGrammar 143 = .ok (.getfield 43, 3) := by decide +kernel
theorem dX12_makeGrammar_146 : decode cX12_makeGrammar 146 = .ok (.iload 5, 2) := by decide +kernel
theorem dX12_makeGrammar_148 : decode cX12_makeGrammar 148 = .ok (.iaload, 1) := by decide +kernel
theorem dX12_makeGrammar_149 : decode cX12_makeGrammar 149 = .ok (.iload_n 2, 1) := by decide +kernel
theorem dX12_makeGrammar_150 : decode cX12_makeGrammar 150 = .ok (.if_icmp .ne 20, 3) := by decide +kernel
theorem dX12_makeGrammar_153 : decode cX12_makeGrammar 153 = .ok (.aload_n 0, 1) := by decide +kernel
theorem dX12_makeGrammar_154 : decode cX12_makeGrammar 154 = .ok (.getfield 43, 3) := by decide +kernel
theorem dX12_makeGrammar_157 : decode cX12_makeGrammar 157 = .ok (.iload 5, 2) := by decide +kernel
theorem dX12_makeGrammar_159 : decode cX12_makeGrammar 159 = .ok (.iconst 1, 1) := by decide +kernel
theorem dX12_makeGrammar_160 : decode cX12_makeGrammar 160 = .ok (.iadd, 1) := by decide +kernel
theorem dX12_makeGrammar_161 : decode cX12_makeGrammar 161 = .ok (.iaload, 1) := by decide +kernel
theorem dX12_makeGrammar_162 : decode cX12_makeGrammar 162 = .ok (.iload_n 3, 1) := by decide +kernel
theorem dX12_makeGrammar_163 : decode cX12_makeGrammar 163 = .ok (.if_icmp .ne 7, 3) := by decide +kernel
theorem dX12_makeGrammar_166 : decode cX12_makeGrammar 166 = .ok (.iconst 1, 1) := by decide +kernel
theorem dX12_makeGrammar_167 : decode cX12_makeGrammar 167 = .ok (.goto 4, 3) := by decide +kernel
theorem dX12_makeGrammar_170 : decode cX12_makeGrammar 170 = .ok (.iconst 0, 1) := by decide +kernel
theorem dX12_makeGrammar_171 : decode cX12_makeGrammar 171 = .ok (.istore 6, 2) := by decide +kernel
theorem dX12_makeGrammar_173 : decode cX12_makeGrammar 173 = .ok (.aload_n 0, 1) := by decide +kernel
theorem dX12_makeGrammar_174 : decode cX12_makeGrammar 174 = .ok (.getfield 43, 3) := by decide +kernel
theorem dX12_makeGrammar_177 : decode cX12_makeGrammar 177 = .ok (.iload 4, 2) := by decide +kernel
theorem dX12_makeGrammar_179 : decode cX12_makeGrammar 179 = .ok (.iload 6, 2) := by decide +kernel
theorem dX12_makeGrammar_181 : decode cX12_makeGrammar 181 = .ok (.ifCond .eq 13, 3) := by decide +kernel
theorem dX12_makeGrammar_184 : decode cX12_makeGrammar 184 = .ok (.bipush 16, 2) := by decide +kernel
theorem dX12_makeGrammar_186 : decode cX12_makeGrammar 186 = .ok (.aload_n 0, 1) := by decide +kernel
theorem dX12_makeGrammar_187 : decode cX12_makeGrammar 187 = .ok (.getfield 197, 3) := by decide +kernel
theorem dX12_makeGrammar_190 : decode cX12_makeGrammar 190 = .ok (.iadd, 1) := by decide +kernel
theorem dX12_makeGrammar_191 : decode cX12_makeGrammar 191 = .ok (.goto 10, 3) := by decide +kernel
theorem dX12_makeGrammar_194 : decode cX12_makeGrammar 194 = .ok (.aload_n 0, 1) := by decide +kernel
theorem dX12_makeGrammar_195 : decode cX12_makeGrammar 195 = .ok (.getfield 43, 3) := by decide +kernel
theorem dX12_makeGrammar_198 : decode cX12_makeGrammar 198 = .ok (.iload 5, 2) := by decide +kernel
theorem dX12_makeGrammar_200 : decode cX12_makeGrammar 200 = .ok (.iaload, 1) := by decide +kernel
theorem dX12_makeGrammar_201 : decode cX12_makeGrammar 201 = .ok (.iastore, 1) := by decide +kernel
theorem dX12_makeGrammar_202 : decode cX12_makeGrammar 202 = .ok (.iinc 4 1, 3) := by decide +kernel
theorem dX12_makeGrammar_205 : decode cX12_makeGrammar 205 = .ok (.iload 5, 2) := by decide +kernel
theorem dX12_makeGrammar_207 : decode cX12_makeGrammar 207 = .ok (.iload 6, 2) := by decide +kernel
theorem dX12_makeGrammar_209 : decode cX12_makeGrammar 209 = .ok (.ifCond .eq 7, 3) := by decide +kernel
theorem dX12_makeGrammar_212 : decode cX12_makeGrammar 212 = .ok (.iconst 2, 1) := by decide +kernel
theorem dX12_makeGrammar_213 : decode cX12_makeGrammar 213 = .ok (.goto 4, 3) := by decide +kernel
theorem dX12_makeGrammar_216 : decode cX12_makeGrammar 216 = .ok (.iconst 1, 1) := by decide +kernel
theorem dX12_makeGrammar_217 : decode cX12_makeGrammar 217 = .ok (.iadd, 1) := by decide +kernel
theorem dX12_makeGrammar_218 : decode cX12_makeGrammar 218 = .ok (.istore 5, 2) := by decide +kernel
theorem dX12_makeGrammar_220 : decode cX12_makeGrammar 220 = .ok (.goto (-98), 3) := by decide +kernel
theorem dX12_makeGrammar_223 : decode cX12_makeGrammar 223 = .ok (.aload_n 0, 1) := by decide +kernel
theorem dX12_makeGrammar_224 : decode cX12_makeGrammar 224 = .ok (.iload 4, 2) := by decide +kernel
theorem dX12_makeGrammar_226 : decode cX12_makeGrammar 226 = .ok (.putfield 187, 3) := by decide +kernel
theorem dX12_makeGrammar_229 : decode cX12_makeGrammar 229 = .ok (.aload_n 0, 1) := by decide +kernel
theorem dX12_makeGrammar_230 : decode cX12_makeGrammar 230 = .ok (.dup, 1) := by decide +kernel
theorem dX12_makeGrammar_231 : decode cX12_makeGrammar 231 = .ok (.getfield 197, 3) := by decide +kernel
theorem dX12_makeGrammar_234 : decode cX12_makeGrammar 234 = .ok (.iconst 1, 1) := by decide +kernel
theorem dX12_makeGrammar_235 : decode cX12_makeGrammar 235 = .ok (.iadd, 1) := by decide +kernel
theorem dX12_makeGrammar_236 : decode cX12_makeGrammar 236 = .ok (.putfield 197, 3) := by decide +kernel
theorem dX12_makeGrammar_239 : decode cX12_makeGrammar 239 = .ok (.aload_n 0, 1) := by decide +kernel
theorem dX12_makeGrammar_240 : decode cX12_makeGrammar 240 = .ok (.invokevirtual 200, 3) := by decide +kernel
theorem dX12_makeGrammar_243 : decode cX12_makeGrammar 243 = .ok (.istore_n 1, 1) := by decide +kernel
theorem dX12_makeGrammar_244 : decode cX12_makeGrammar 244 = .ok (.goto (-170), 3) := by decide +kernel
theorem dX12_makeGrammar_247 : decode cX12_makeGrammar 247 = .ok (.return_, 1) := by decide +kernel
theorem dX12_grammar_0 : decode cX12_grammar 0 = .ok (.aload_n 0, 1) := by decide +kernel
theorem dX12_grammar_1 : decode cX12_grammar 1 = .ok (.iconst 0, 1) := by decide +kernel
theorem dX12_grammar_2 : decode cX12_grammar 2 = .ok (.putfield 59, 3) := by decide +kernel
theorem dX12_grammar_5 : decode cX12_grammar 5 = .ok (.iload_n 1, 1) := by decide +kernel
theorem dX12_grammar_6 : decode cX12_grammar 6 = .ok (.i2l, 1) := by decide +kernel
theorem dX12_grammar_7 : decode cX12_grammar 7 = .ok (.lconst 0, 1) := by decide +kernel
theorem dX12_grammar_8 : decode cX12_grammar 8 = .ok (.ldc2_w 98, 3) := by decide +kernel
theorem dX12_grammar_11 : decode cX12_grammar 11 = .ok (.invokestatic 64, 3) := by decide +kernel
theorem dX12_grammar_14 : decode cX12_grammar 14 = .ok (.ifCond .ne 5, 3) := by decide +kernel
theorem dX12_grammar_17 : decode cX12_grammar 17 = .ok (.iconst (-1), 1) := by decide +kernel
theorem dX12_grammar_18 : decode cX12_grammar 18 = .ok (.ireturn, 1) := by decide +kernel
theorem dX12_grammar_19 : decode cX12_grammar 19 = .ok (.aload_n 0, 1) := by decide +kernel
theorem dX12_grammar_20 : decode cX12_grammar 20 = .ok (.invokevirtual 203, 3) := by decide +kernel
theorem dX12_grammar_23 : decode cX12_grammar 23 = .ok (.iload_n 1, 1) := by decide +kernel
theorem dX12_grammar_24 : decode cX12_grammar 24 = .ok (.ifCond .ne 17, 3) := by decide +kernel
theorem dX12_grammar_27 : decode cX12_grammar 27 = .ok (.aload_n 0, 1) := by decide +kernel
theorem dX12_grammar_28 : decode cX12_grammar 28 = .ok (.getfield 187, 3) := by decide +kernel
theorem dX12_grammar_31 : decode cX12_grammar 31 = .ok (.iconst 2, 1) := by decide +kernel
theorem dX12_grammar_32 : decode cX12_grammar 32 = .ok (.aload_n 0, 1) := by decide +kernel
theorem dX12_grammar_33 : decode cX12_grammar 33 = .ok (.getfield 197, 3) := by decide +kernel
theorem dX12_grammar_36 : decode cX12_grammar 36 = .ok (.imul, 1) := by decide +kernel
theorem dX12_grammar_37 : decode cX12_grammar 37 = .ok (.iadd, 1) := by decide +kernel
theorem dX12_grammar_38 : decode cX12_grammar 38 = .ok (.goto 19, 3) := by decide +kernel
theorem dX12_grammar_41 : decode cX12_grammar 41 = .ok (.iload_n 1, 1) := by decide +kernel
theorem dX12_grammar_42 : decode cX12_grammar 42 = .ok (.iconst 1, 1) := by decide +kernel
theorem dX12_grammar_43 : decode cX12_grammar 43 = .ok (.if_icmp .ne 10, 3) := by decide +kernel
theorem dX12_grammar_46 : decode cX12_grammar 46 = .ok (.aload_n 0, 1) := by decide +kernel
theorem dX12_grammar_47 : decode cX12_grammar 47 = .ok (.getfield 197, 3) := by decide +kernel
theorem dX12_grammar_50 : decode cX12_grammar 50 = .ok (.goto 7, 3) := by decide +kernel
theorem dX12_grammar_53 : decode cX12_grammar 53 = .ok (.aload_n 0, 1) := by decide +kernel
theorem dX12_grammar_54 : decode cX12_grammar 54 = .ok (.getfield 187, 3) := by decide +kernel
theorem dX12_grammar_57 : decode cX12_grammar 57 = .ok (.ireturn, 1) := by decide +kernel
theorem dX12_rule_0 : decode cX12_rule 0 = .ok (.aload_n 0, 1) := by decide +kernel
theorem dX12_rule_1 : decode cX12_rule 1 = .ok (.iconst 0, 1) := by decide +kernel
theorem dX12_rule_2 : decode cX12_rule 2 = .ok (.putfield 59, 3) := by decide +kernel
theorem dX12_rule_5 : decode cX12_rule 5 = .ok (.iload_n 2, 1) := by decide +kernel
theorem dX12_rule_6 : decode cX12_rule 6 = .ok (.invokestatic 155, 3) := by decide +kernel
theorem dX12_rule_9 : decode cX12_rule 9 = .ok (.ifCond .ne 5, 3) := by decide +kernel
theorem dX12_rule_12 : decode cX12_rule 12 = .ok (.iconst (-1), 1) := by decide +kernel
theorem dX12_rule_13 : decode cX12_rule 13 = .ok (.ireturn, 1) := by decide +kernel
theorem dX12_rule_14 : decode cX12_rule 14 = .ok (.aload_n 0, 1) := by decide +kernel
theorem dX12_rule_15 : decode cX12_rule 15 = .ok (.invokevirtual 203, 3) := by decide +kernel
theorem dX12_rule_18 : decode cX12_rule 18 = .ok (.iload_n 1, 1) := by decide +kernel
theorem dX12_rule_19 : decode cX12_rule 19 = .ok (.i2l, 1) := by decide +kernel
theorem dX12_rule_20 : decode cX12_rule 20 = .ok (.ldc2_w 206, 3) := by decide +kernel
theorem dX12_rule_23 : decode cX12_rule 23 = .ok (.bipush 16, 2) := by decide +kernel
theorem dX12_rule_25 : decode cX12_rule 25 = .ok (.aload_n 0, 1) := by decide +kernel
theorem dX12_rule_26 : decode cX12_rule 26 = .ok (.getfield 197, 3) := by decide +kernel
theorem dX12_rule_29 : decode cX12_rule 29 = .ok (.iadd, 1) := by decide +kernel
theorem dX12_rule_30 : decode cX12_rule 30 = .ok (.iconst 1, 1) := by decide +kernel
theorem dX12_rule_31 : decode cX12_rule 31 = .ok (.isub, 1) := by decide +kernel
theorem dX12_rule_32 : decode cX12_rule 32 = .ok (.i2l, 1) := by decide +kernel
theorem dX12_rule_33 : decode cX12_rule 33 = .ok (.invokestatic 64, 3) := by decide +kernel
theorem dX12_rule_36 : decode cX12_rule 36 = .ok (.ifCond .ne 5, 3) := by decide +kernel
theorem dX12_rule_39 : decode cX12_rule 39 = .ok (.iconst (-1), 1) := by decide +kernel
theorem dX12_rule_40 : decode cX12_rule 40 = .ok (.ireturn, 1) := by decide +kernel
theorem dX12_rule_41 : decode cX12_rule 41 = .ok (.iload_n 2, 1) := by decide +kernel
theorem dX12_rule_42 : decode cX12_rule 42 = .ok (.ifCond .ne 15, 3) := by decide +kernel
theorem dX12_rule_45 : decode cX12_rule 45 = .ok (.aload_n 0, 1) := by decide +kernel
theorem dX12_rule_46 : decode cX12_rule 46 = .ok (.getfield 46, 3) := by decide +kernel
theorem dX12_rule_49 : decode cX12_rule 49 = .ok (.iload_n 1, 1) := by decide +kernel
theorem dX12_rule_50 : decode cX12_rule 50 = .ok (.bipush 16, 2) := by decide +kernel
theorem dX12_rule_52 : decode cX12_rule 52 = .ok (.isub, 1) := by decide +kernel
theorem dX12_rule_53 : decode cX12_rule 53 = .ok (.iaload, 1) := by decide +kernel
theorem dX12_rule_54 : decode cX12_rule 54 = .ok (.goto 12, 3) := by decide +kernel
theorem dX12_rule_57 : decode cX12_rule 57 = .ok (.aload_n 0, 1) := by decide +kernel
theorem dX12_rule_58 : decode cX12_rule 58 = .ok (.getfield 49, 3) := by decide +kernel
theorem dX12_rule_61 : decode cX12_rule 61 = .ok (.iload_n 1, 1) := by decide +kernel
theorem dX12_rule_62 : decode cX12_rule 62 = .ok (.bipush 16, 2) := by decide +kernel
theorem dX12_rule_64 : decode cX12_rule 64 = .ok (.isub, 1) := by decide +kernel
theorem dX12_rule_65 : decode cX12_rule 65 = .ok (.iaload, 1) := by decide +kernel
theorem dX12_rule_66 : decode cX12_rule 66 = .ok (.ireturn, 1) := by decide +kernel
theorem dX12_symbol_0 : decode cX12_symbol 0 = .ok (.aload_n 0, 1) := by decide +kernel
theorem dX12_symbol_1 : decode cX12_symbol 1 = .ok (.invokevirtual 203, 3) := by decide +kernel
theorem dX12_symbol_4 : decode cX12_symbol 4 = .ok (.aload_n 0, 1) := by decide +kernel
theorem dX12_symbol_5 : decode cX12_symbol 5 = .ok (.iload_n 1, 1) := by decide +kernel
theorem dX12_symbol_6 : decode cX12_symbol 6 = .ok (.i2l, 1) := by decide +kernel
theorem dX12_symbol_7 : decode cX12_symbol 7 = .ok (.lconst 0, 1) := by decide +kernel
theorem dX12_symbol_8 : decode cX12_symbol 8 = .ok (.aload_n 0, 1) := by decide +kernel
theorem dX12_symbol_9 : decode cX12_symbol 9 = .ok (.getfield 187, 3) := by decide +kernel
theorem dX12_symbol_12 : decode cX12_symbol 12 = .ok (.iconst 1, 1) := by decide +kernel
theorem dX12_symbol_13 : decode cX12_symbol 13 = .ok (.isub, 1) := by decide +kernel
theorem dX12_symbol_14 : decode cX12_symbol 14 = .ok (.i2l, 1) := by decide +kernel
theorem dX12_symbol_15 : decode cX12_symbol 15 = .ok (.invokestatic 64, 3) := by decide +kernel
theorem dX12_symbol_18 : decode cX12_symbol 18 = .ok (.ifCond .eq 7, 3) := by decide +kernel
theorem dX12_symbol_21 : decode cX12_symbol 21 = .ok (.iconst 0, 1) := by decide +kernel
theorem dX12_symbol_22 : decode cX12_symbol 22 = .ok (.goto 4, 3) := by decide +kernel
theorem dX12_symbol_25 : decode cX12_symbol 25 = .ok (.iconst 1, 1) := by decide +kernel
theorem dX12_symbol_26 : decode cX12_symbol 26 = .ok (.putfield 59, 3) := by decide +kernel
theorem dX12_symbol_29 : decode cX12_symbol 29 = .ok (.aload_n 0, 1) := by decide +kernel
theorem dX12_symbol_30 : decode cX12_symbol 30 = .ok (.getfield 59, 3) := by decide +kernel
theorem dX12_symbol_33 : decode cX12_symbol 33 = .ok (.ifCond .ne 12, 3) := by decide +kernel
theorem dX12_symbol_36 : decode cX12_symbol 36 = .ok (.aload_n 0, 1) := by decide +kernel
theorem dX12_symbol_37 : decode cX12_symbol 37 = .ok (.getfield 43, 3) := by decide +kernel
theorem dX12_symbol_40 : decode cX12_symbol 40 = .ok (.iload_n 1, 1) := by decide +kernel
theorem dX12_symbol_41 : decode cX12_symbol 41 = .ok (.iaload, 1) := by decide +kernel
theorem dX12_symbol_42 : decode cX12_symbol 42 = .ok (.goto 4, 3) := by decide +kernel
theorem dX12_symbol_45 : decode cX12_symbol 45 = .ok (.iconst 0, 1) := by decide +kernel
theorem dX12_symbol_46 : decode cX12_symbol 46 = .ok (.ireturn, 1) := by decide +kernel
