theorem dX0_init_0 : decode cX0_init 0 = .ok (.aload_n 0, 1) := by decide +kernel
theorem dX0_init_1 : decode cX0_init 1 = .ok (.invokespecial 3, 3) := by decide +kernel
theorem dX0_init_4 : decode cX0_init 4 = .ok (.aload_n 0, 1) := by decide +kernel
theorem dX0_init_5 : decode cX0_init 5 = .ok (.bipush 6, 2) := by decide +kernel
theorem dX0_init_7 : decode cX0_init 7 = .ok (.anewarray 9, 3) := by decide +kernel
theorem dX0_init_10 : decode cX0_init 10 = .ok (.putfield 11, 3) := by decide +kernel
theorem dX0_init_13 : decode cX0_init 13 = .ok (.aload_n 0, 1) := by decide +kernel
theorem dX0_init_14 : decode cX0_init 14 = .ok (.iconst 0, 1) := by decide +kernel
theorem dX0_init_15 : decode cX0_init 15 = .ok (.putfield 17, 3) := by decide +kernel
theorem dX0_init_18 : decode cX0_init 18 = .ok (.aload_n 0, 1) := by decide +kernel
theorem dX0_init_19 : decode cX0_init 19 = .ok (.iconst 0, 1) := by decide +kernel
theorem dX0_init_20 : decode cX0_init 20 = .ok (.putfield 21, 3) := by decide +kernel
theorem dX0_init_23 : decode cX0_init 23 = .ok (.iconst 0, 1) := by decide +kernel
theorem dX0_init_24 : decode cX0_init 24 = .ok (.istore_n 1, 1) := by decide +kernel
theorem dX0_init_25 : decode cX0_init 25 = .ok (.iload_n 1, 1) := by decide +kernel
theorem dX0_init_26 : decode cX0_init 26 = .ok (.aload_n 0, 1) := by decide +kernel
theorem dX0_init_27 : decode cX0_init 27 = .ok (.getfield 11, 3) := by decide +kernel
theorem dX0_init_30 : decode cX0_init 30 = .ok (.arraylength, 1) := by decide +kernel
theorem dX0_init_31 : decode cX0_init 31 = .ok (.if_icmp .ge 22, 3) := by decide +kernel
theorem dX0_init_34 : decode cX0_init 34 = .ok (.aload_n 0, 1) := by decide +kernel
theorem dX0_init_35 : decode cX0_init 35 = .ok (.getfield 11, 3) := by decide +kernel
theorem dX0_init_38 : decode cX0_init 38 = .ok (.iload_n 1, 1) := by decide +kernel
theorem dX0_init_39 : decode cX0_init 39 = .ok (.new 9, 3) := by decide +kernel
theorem dX0_init_42 : decode cX0_init 42 = .ok (.dup, 1) := by decide +kernel
theorem dX0_init_43 : decode cX0_init 43 = .ok (.invokespecial 24, 3) := by decide +kernel
theorem dX0_init_46 : decode cX0_init 46 = .ok (.aastore, 1) := by decide +kernel
theorem dX0_init_47 : decode cX0_init 47 = .ok (.iinc 1 1, 3) := by decide +kernel
theorem dX0_init_50 : decode cX0_init 50 = .ok (.goto (-25), 3) := by decide +kernel
theorem dX0_init_53 : decode cX0_init 53 = .ok (.return_, 1) := by decide +kernel
theorem dX0_savedState_0 : decode cX0_savedState 0 = .ok (.aload_n 0, 1) := by decide +kernel
theorem dX0_savedState_1 : decode cX0_savedState 1 = .ok (.getfield 17, 3) := by decide +kernel
theorem dX0_savedState_4 : decode cX0_savedState 4 = .ok (.iload_n 1, 1) := by decide +kernel
theorem dX0_savedState_5 : decode cX0_savedState 5 = .ok (.iadd, 1) := by decide +kernel
theorem dX0_savedState_6 : decode cX0_savedState 6 = .ok (.bipush 6, 2) := by decide +kernel
theorem dX0_savedState_8 : decode cX0_savedState 8 = .ok (.invokestatic 25, 3) := by decide +kernel
theorem dX0_savedState_11 : decode cX0_savedState 11 = .ok (.istore_n 2, 1) := by decide +kernel
theorem dX0_savedState_12 : decode cX0_savedState 12 = .ok (.iload_n 2, 1) := by decide +kernel
theorem dX0_savedState_13 : decode cX0_savedState 13 = .ok (.aload_n 0, 1) := by decide +kernel
theorem dX0_savedState_14 : decode cX0_savedState 14 = .ok (.getfield 11, 3) := by decide +kernel
theorem dX0_savedState_17 : decode cX0_savedState 17 = .ok (.arraylength, 1) := by decide +kernel
theorem dX0_savedState_18 : decode cX0_savedState 18 = .ok (.if_icmp .ge 12, 3) := by decide +kernel
theorem dX0_savedState_21 : decode cX0_savedState 21 = .ok (.aload_n 0, 1) := by decide +kernel
theorem dX0_savedState_22 : decode cX0_savedState 22 = .ok (.getfield 11, 3) := by decide +kernel
theorem dX0_savedState_25 : decode cX0_savedState 25 = .ok (.iload_n 2, 1) := by decide +kernel
theorem dX0_savedState_26 : decode cX0_savedState 26 = .ok (.aaload, 1) := by decide +kernel
theorem dX0_savedState_27 : decode cX0_savedState 27 = .ok (.goto 4, 3) := by decide +kernel
theorem dX0_savedState_30 : decode cX0_savedState 30 = .ok (.aconst_null, 1) := by decide +kernel
theorem dX0_savedState_31 : decode cX0_savedState 31 = .ok (.areturn, 1) := by decide +kernel
theorem dX0_save_0 : decode cX0_save 0 = .ok (.aload_n 0, 1) := by decide +kernel
theorem dX0_save_1 : decode cX0_save 1 = .ok (.getfield 21, 3) := by decide +kernel
theorem dX0_save_4 : decode cX0_save 4 = .ok (.bipush 6, 2) := by decide +kernel
theorem dX0_save_6 : decode cX0_save 6 = .ok (.if_icmp .ne 26, 3) := by decide +kernel
theorem dX0_save_9 : decode cX0_save 9 = .ok (.aload_n 0, 1) := by decide +kernel
theorem dX0_save_10 : decode cX0_save 10 = .ok (.aload_n 0, 1) := by decide +kernel
theorem dX0_save_11 : decode cX0_save 11 = .ok (.getfield 17, 3) := by decide +kernel
theorem dX0_save_14 : decode cX0_save 14 = .ok (.iconst 1, 1) := by decide +kernel
theorem dX0_save_15 : decode cX0_save 15 = .ok (.iadd, 1) := by decide +kernel
theorem dX0_save_16 : decode cX0_save 16 = .ok (.bipush 6, 2) := by decide +kernel
theorem dX0_save_18 : decode cX0_save 18 = .ok (.irem, 1) := by decide +kernel
theorem dX0_save_19 : decode cX0_save 19 = .ok (.putfield 17, 3) := by decide +kernel
theorem dX0_save_22 : decode cX0_save 22 = .ok (.aload_n 0, 1) := by decide +kernel
theorem dX0_save_23 : decode cX0_save 23 = .ok (.dup, 1) := by decide +kernel
theorem dX0_save_24 : decode cX0_save 24 = .ok (.getfield 21, 3) := by decide +kernel
theorem dX0_save_27 : decode cX0_save 27 = .ok (.iconst 1, 1) := by decide +kernel
theorem dX0_save_28 : decode cX0_save 28 = .ok (.isub, 1) := by decide +kernel
theorem dX0_save_29 : decode cX0_save 29 = .ok (.putfield 21, 3) := by decide +kernel
theorem dX0_save_32 : decode cX0_save 32 = .ok (.aload_n 0, 1) := by decide +kernel
theorem dX0_save_33 : decode cX0_save 33 = .ok (.aload_n 0, 1) := by decide +kernel
theorem dX0_save_34 : decode cX0_save 34 = .ok (.getfield 21, 3) := by decide +kernel
theorem dX0_save_37 : decode cX0_save 37 = .ok (.invokevirtual 31, 3) := by decide +kernel
theorem dX0_save_40 : decode cX0_save 40 = .ok (.astore_n 2, 1) := by decide +kernel
theorem dX0_save_41 : decode cX0_save 41 = .ok (.aload_n 2, 1) := by decide +kernel
theorem dX0_save_42 : decode cX0_save 42 = .ok (.ifnull 18, 3) := by decide +kernel
theorem dX0_save_45 : decode cX0_save 45 = .ok (.aload_n 2, 1) := by decide +kernel
theorem dX0_save_46 : decode cX0_save 46 = .ok (.aload_n 1, 1) := by decide +kernel
theorem dX0_save_47 : decode cX0_save 47 = .ok (.invokevirtual 35, 3) := by decide +kernel
theorem dX0_save_50 : decode cX0_save 50 = .ok (.aload_n 0, 1) := by decide +kernel
theorem dX0_save_51 : decode cX0_save 51 = .ok (.dup, 1) := by decide +kernel
theorem dX0_save_52 : decode cX0_save 52 = .ok (.getfield 21, 3) := by decide +kernel
theorem dX0_save_55 : decode cX0_save 55 = .ok (.iconst 1, 1) := by decide +kernel
theorem dX0_save_56 : decode cX0_save 56 = .ok (.iadd, 1) := by decide +kernel
theorem dX0_save_57 : decode cX0_save 57 = .ok (.putfield 21, 3) := by decide +kernel
theorem dX0_save_60 : decode cX0_save 60 = .ok (.return_, 1) := by decide +kernel
theorem dX1_init_0 : decode cX1_init 0 = .ok (.aload_n 0, 1) := by decide +kernel
theorem dX1_init_1 : decode cX1_init 1 = .ok (.invokespecial 3, 3) := by decide +kernel
theorem dX1_init_4 : decode cX1_init 4 = .ok (.aload_n 0, 1) := by decide +kernel
theorem dX1_init_5 : decode cX1_init 5 = .ok (.sipush 20000, 3) := by decide +kernel
theorem dX1_init_8 : decode cX1_init 8 = .ok (.newarray .int, 2) := by decide +kernel
theorem dX1_init_10 : decode cX1_init 10 = .ok (.putfield 9, 3) := by decide +kernel
theorem dX1_init_13 : decode cX1_init 13 = .ok (.aload_n 0, 1) := by decide +kernel
theorem dX1_init_14 : decode cX1_init 14 = .ok (.sipush 20000, 3) := by decide +kernel
theorem dX1_init_17 : decode cX1_init 17 = .ok (.newarray .int, 2) := by decide +kernel
theorem dX1_init_19 : decode cX1_init 19 = .ok (.putfield 15, 3) := by decide +kernel
theorem dX1_init_22 : decode cX1_init 22 = .ok (.aload_n 0, 1) := by decide +kernel
theorem dX1_init_23 : decode cX1_init 23 = .ok (.sipush 20000, 3) := by decide +kernel
theorem dX1_init_26 : decode cX1_init 26 = .ok (.newarray .int, 2) := by decide +kernel
theorem dX1_init_28 : decode cX1_init 28 = .ok (.putfield 18, 3) := by decide +kernel
theorem dX1_init_31 : decode cX1_init 31 = .ok (.aload_n 0, 1) := by decide +kernel
theorem dX1_init_32 : decode cX1_init 32 = .ok (.sipush 20000, 3) := by decide +kernel
theorem dX1_init_35 : decode cX1_init 35 = .ok (.newarray .int, 2) := by decide +kernel
theorem dX1_init_37 : decode cX1_init 37 = .ok (.putfield 21, 3) := by decide +kernel
theorem dX1_init_40 : decode cX1_init 40 = .ok (.aload_n 0, 1) := by decide +kernel
theorem dX1_init_41 : decode cX1_init 41 = .ok (.sipush 20000, 3) := by decide +kernel
theorem dX1_init_44 : decode cX1_init 44 = .ok (.newarray .long, 2) := by decide +kernel
theorem dX1_init_46 : decode cX1_init 46 = .ok (.putfield 24, 3) := by decide +kernel
theorem dX1_init_49 : decode cX1_init 49 = .ok (.aload_n 0, 1) := by decide +kernel
theorem dX1_init_50 : decode cX1_init 50 = .ok (.sipush 20000, 3) := by decide +kernel
theorem dX1_init_53 : decode cX1_init 53 = .ok (.newarray .long, 2) := by decide +kernel
theorem dX1_init_55 : decode cX1_init 55 = .ok (.putfield 28, 3) := by decide +kernel
theorem dX1_init_58 : decode cX1_init 58 = .ok (.aload_n 0, 1) := by decide +kernel
theorem dX1_init_59 : decode cX1_init 59 = .ok (.sipush 20000, 3) := by decide +kernel
theorem dX1_init_62 : decode cX1_init 62 = .ok (.newarray .boolean, 2) := by decide +kernel
theorem dX1_init_64 : decode cX1_init 64 = .ok (.putfield 31, 3) := by decide +kernel
theorem dX1_init_67 : decode cX1_init 67 = .ok (.aload_n 0, 1) := by decide +kernel
theorem dX1_init_68 : decode cX1_init 68 = .ok (.iconst 1, 1) := by decide +kernel
theorem dX1_init_69 : decode cX1_init 69 = .ok (.putfield 35, 3) := by decide +kernel
theorem dX1_init_72 : decode cX1_init 72 = .ok (.aload_n 0, 1) := by decide +kernel
theorem dX1_init_73 : decode cX1_init 73 = .ok (.sipush 19999, 3) := by decide +kernel
theorem dX1_init_76 : decode cX1_init 76 = .ok (.putfield 39, 3) := by decide +kernel
theorem dX1_init_79 : decode cX1_init 79 = .ok (.aload_n 0, 1) := by decide +kernel
theorem dX1_init_80 : decode cX1_init 80 = .ok (.sipush 400, 3) := by decide +kernel
theorem dX1_init_83 : decode cX1_init 83 = .ok (.newarray .int, 2) := by decide +kernel
theorem dX1_init_85 : decode cX1_init 85 = .ok (.putfield 42, 3) := by decide +kernel
theorem dX1_init_88 : decode cX1_init 88 = .ok (.return_, 1) := by decide +kernel
theorem dX1_isLeaf_0 : decode cX1_isLeaf 0 = .ok (.iload_n 1, 1) := by decide +kernel
theorem dX1_isLeaf_1 : decode cX1_isLeaf 1 = .ok (.ifCond .le 23, 3) := by decide +kernel
theorem dX1_isLeaf_4 : decode cX1_isLeaf 4 = .ok (.iload_n 1, 1) := by decide +kernel
theorem dX1_isLeaf_5 : decode cX1_isLeaf 5 = .ok (.sipush 20000, 3) := by decide +kernel
theorem dX1_isLeaf_8 : decode cX1_isLeaf 8 = .ok (.if_icmp .ge 16, 3) := by decide +kernel
theorem dX1_isLeaf_11 : decode cX1_isLeaf 11 = .ok (.aload_n 0, 1) := by decide +kernel
theorem dX1_isLeaf_12 : decode cX1_isLeaf 12 = .ok (.getfield 9, 3) := by decide +kernel
theorem dX1_isLeaf_15 : decode cX1_isLeaf 15 = .ok (.iload_n 1, 1) := by decide +kernel
theorem dX1_isLeaf_16 : decode cX1_isLeaf 16 = .ok (.iaload, 1) := by decide +kernel
theorem dX1_isLeaf_17 : decode cX1_isLeaf 17 = .ok (.ifCond .ne 7, 3) := by decide +kernel
theorem dX1_isLeaf_20 : decode cX1_isLeaf 20 = .ok (.iconst 1, 1) := by decide +kernel
theorem dX1_isLeaf_21 : decode cX1_isLeaf 21 = .ok (.goto 4, 3) := by decide +kernel
theorem dX1_isLeaf_24 : decode cX1_isLeaf 24 = .ok (.iconst 0, 1) := by decide +kernel
theorem dX1_isLeaf_25 : decode cX1_isLeaf 25 = .ok (.ireturn, 1) := by decide +kernel
theorem dX1_isPair_0 : decode cX1_isPair 0 = .ok (.iload_n 1, 1) := by decide +kernel
theorem dX1_isPair_1 : decode cX1_isPair 1 = .ok (.ifCond .le 23, 3) := by decide +kernel
theorem dX1_isPair_4 : decode cX1_isPair 4 = .ok (.iload_n 1, 1) := by decide +kernel
theorem dX1_isPair_5 : decode cX1_isPair 5 = .ok (.sipush 20000, 3) := by decide +kernel
theorem dX1_isPair_8 : decode cX1_isPair 8 = .ok (.if_icmp .ge 16, 3) := by decide +kernel
theorem dX1_isPair_11 : decode cX1_isPair 11 = .ok (.aload_n 0, 1) := by decide +kernel
theorem dX1_isPair_12 : decode cX1_isPair 12 = .ok (.getfield 9, 3) := by decide +kernel
theorem dX1_isPair_15 : decode cX1_isPair 15 = .ok (.iload_n 1, 1) := by decide +kernel
theorem dX1_isPair_16 : decode cX1_isPair 16 = .ok (.iaload, 1) := by decide +kernel
theorem dX1_isPair_17 : decode cX1_isPair 17 = .ok (.ifCond .eq 7, 3) := by decide +kernel
theorem dX1_isPair_20 : decode cX1_isPair 20 = .ok (.iconst 1, 1) := by decide +kernel
theorem dX1_isPair_21 : decode cX1_isPair 21 = .ok (.goto 4, 3) := by decide +kernel
theorem dX1_isPair_24 : decode cX1_isPair 24 = .ok (.iconst 0, 1) := by decide +kernel
theorem dX1_isPair_25 : decode cX1_isPair 25 = .ok (.ireturn, 1) := by decide +kernel
theorem dX1_sizeOf_0 : decode cX1_sizeOf 0 = .ok (.iload_n 1, 1) := by decide +kernel
theorem dX1_sizeOf_1 : decode cX1_sizeOf 1 = .ok (.ifCond .le 19, 3) := by decide +kernel
theorem dX1_sizeOf_4 : decode cX1_sizeOf 4 = .ok (.iload_n 1, 1) := by decide +kernel
theorem dX1_sizeOf_5 : decode cX1_sizeOf 5 = .ok (.sipush 20000, 3) := by decide +kernel
theorem dX1_sizeOf_8 : decode cX1_sizeOf 8 = .ok (.if_icmp .ge 12, 3) := by decide +kernel
theorem dX1_sizeOf_11 : decode cX1_sizeOf 11 = .ok (.aload_n 0, 1) := by decide +kernel
theorem dX1_sizeOf_12 : decode cX1_sizeOf 12 = .ok (.getfield 18, 3) := by decide +kernel
theorem dX1_sizeOf_15 : decode cX1_sizeOf 15 = .ok (.iload_n 1, 1) := by decide +kernel
theorem dX1_sizeOf_16 : decode cX1_sizeOf 16 = .ok (.iaload, 1) := by decide +kernel
theorem dX1_sizeOf_17 : decode cX1_sizeOf 17 = .ok (.goto 4, 3) := by decide +kernel
theorem dX1_sizeOf_20 : decode cX1_sizeOf 20 = .ok (.iconst 0, 1) := by decide +kernel
theorem dX1_sizeOf_21 : decode cX1_sizeOf 21 = .ok (.ireturn, 1) := by decide +kernel
theorem dX1_heightOf_0 : decode cX1_heightOf 0 = .ok (.iload_n 1, 1) := by decide +kernel
theorem dX1_heightOf_1 : decode cX1_heightOf 1 = .ok (.ifCond .le 19, 3) := by decide +kernel
theorem dX1_heightOf_4 : decode cX1_heightOf 4 = .ok (.iload_n 1, 1) := by decide +kernel
theorem dX1_heightOf_5 : decode cX1_heightOf 5 = .ok (.sipush 20000, 3) := by decide +kernel
theorem dX1_heightOf_8 : decode cX1_heightOf 8 = .ok (.if_icmp .ge 12, 3) := by decide +kernel
theorem dX1_heightOf_11 : decode cX1_heightOf 11 = .ok (.aload_n 0, 1) := by decide +kernel
theorem dX1_heightOf_12 : decode cX1_heightOf 12 = .ok (.getfield 21, 3) := by decide +kernel
theorem dX1_heightOf_15 : decode cX1_heightOf 15 = .ok (.iload_n 1, 1) := by decide +kernel
theorem dX1_heightOf_16 : decode cX1_heightOf 16 = .ok (.iaload, 1) := by decide +kernel
theorem dX1_heightOf_17 : decode cX1_heightOf 17 = .ok (.goto 4, 3) := by decide +kernel
theorem dX1_heightOf_20 : decode cX1_heightOf 20 = .ok (.iconst 0, 1) := by decide +kernel
theorem dX1_heightOf_21 : decode cX1_heightOf 21 = .ok (.ireturn, 1) := by decide +kernel
theorem dX1_leftOf_0 : decode cX1_leftOf 0 = .ok (.iload_n 1, 1) := by decide +kernel
theorem dX1_leftOf_1 : decode cX1_leftOf 1 = .ok (.ifCond .le 19, 3) := by decide +kernel
theorem dX1_leftOf_4 : decode cX1_leftOf 4 = .ok (.iload_n 1, 1) := by decide +kernel
theorem dX1_leftOf_5 : decode cX1_leftOf 5 = .ok (.sipush 20000, 3) := by decide +kernel
theorem dX1_leftOf_8 : decode cX1_leftOf 8 = .ok (.if_icmp .ge 12, 3) := by decide +kernel
theorem dX1_leftOf_11 : decode cX1_leftOf 11 = .ok (.aload_n 0, 1) := by decide +kernel
theorem dX1_leftOf_12 : decode cX1_leftOf 12 = .ok (.getfield 9, 3) := by decide +kernel
theorem dX1_leftOf_15 : decode cX1_leftOf 15 = .ok (.iload_n 1, 1) := by decide +kernel
theorem dX1_leftOf_16 : decode cX1_leftOf 16 = .ok (.iaload, 1) := by decide +kernel
theorem dX1_leftOf_17 : decode cX1_leftOf 17 = .ok (.goto 4, 3) := by decide +kernel
theorem dX1_leftOf_20 : decode cX1_leftOf 20 = .ok (.iconst 0, 1) := by decide +kernel
theorem dX1_leftOf_21 : decode cX1_leftOf 21 = .ok (.ireturn, 1) := by decide +kernel
theorem dX1_rightOf_0 : decode cX1_rightOf 0 = .ok (.iload_n 1, 1) := by decide +kernel
theorem dX1_rightOf_1 : decode cX1_rightOf 1 = .ok (.ifCond .le 19, 3) := by decide +kernel
theorem dX1_rightOf_4 : decode cX1_rightOf 4 = .ok (.iload_n 1, 1) := by decide +kernel
theorem dX1_rightOf_5 : decode cX1_rightOf 5 = .ok (.sipush 20000, 3) := by decide +kernel
theorem dX1_rightOf_8 : decode cX1_rightOf 8 = .ok (.if_icmp .ge 12, 3) := by decide +kernel
theorem dX1_rightOf_11 : decode cX1_rightOf 11 = .ok (.aload_n 0, 1) := by decide +kernel
theorem dX1_rightOf_12 : decode cX1_rightOf 12 = .ok (.getfield 15, 3) := by decide +kernel
theorem dX1_rightOf_15 : decode cX1_rightOf 15 = .ok (.iload_n 1, 1) := by decide +kernel
theorem dX1_rightOf_16 : decode cX1_rightOf 16 = .ok (.iaload, 1) := by decide +kernel
theorem dX1_rightOf_17 : decode cX1_rightOf 17 = .ok (.goto 4, 3) := by decide +kernel
theorem dX1_rightOf_20 : decode cX1_rightOf 20 = .ok (.iconst 0, 1) := by decide +kernel
theorem dX1_rightOf_21 : decode cX1_rightOf 21 = .ok (.ireturn, 1) := by decide +kernel
theorem dX1_codeOf_0 : decode cX1_codeOf 0 = .ok (.iload_n 1, 1) := by decide +kernel
theorem dX1_codeOf_1 : decode cX1_codeOf 1 = .ok (.ifCond .le 20, 3) := by decide +kernel
theorem dX1_codeOf_4 : decode cX1_codeOf 4 = .ok (.iload_n 1, 1) := by decide +kernel
theorem dX1_codeOf_5 : decode cX1_codeOf 5 = .ok (.sipush 20000, 3) := by decide +kernel
theorem dX1_codeOf_8 : decode cX1_codeOf 8 = .ok (.if_icmp .ge 13, 3) := by decide +kernel
theorem dX1_codeOf_11 : decode cX1_codeOf 11 = .ok (.iload_n 2, 1) := by decide +kernel
theorem dX1_codeOf_12 : decode cX1_codeOf 12 = .ok (.ifCond .lt 9, 3) := by decide +kernel
theorem dX1_codeOf_15 : decode cX1_codeOf 15 = .ok (.iload_n 2, 1) := by decide +kernel
theorem dX1_codeOf_16 : decode cX1_codeOf 16 = .ok (.bipush 16, 2) := by decide +kernel
theorem dX1_codeOf_18 : decode cX1_codeOf 18 = .ok (.if_icmp .lt 5, 3) := by decide +kernel
theorem dX1_codeOf_21 : decode cX1_codeOf 21 = .ok (.iconst 0, 1) := by decide +kernel
theorem dX1_codeOf_22 : decode cX1_codeOf 22 = .ok (.ireturn, 1) := by decide +kernel
theorem dX1_codeOf_23 : decode cX1_codeOf 23 = .ok (.iload_n 2, 1) := by decide +kernel
theorem dX1_codeOf_24 : decode cX1_codeOf 24 = .ok (.bipush 8, 2) := by decide +kernel
theorem dX1_codeOf_26 : decode cX1_codeOf 26 = .ok (.if_icmp .ge 12, 3) := by decide +kernel
theorem dX1_codeOf_29 : decode cX1_codeOf 29 = .ok (.aload_n 0, 1) := by decide +kernel
theorem dX1_codeOf_30 : decode cX1_codeOf 30 = .ok (.getfield 24, 3) := by decide +kernel
theorem dX1_codeOf_33 : decode cX1_codeOf 33 = .ok (.iload_n 1, 1) := by decide +kernel
theorem dX1_codeOf_34 : decode cX1_codeOf 34 = .ok (.laload, 1) := by decide +kernel
theorem dX1_codeOf_35 : decode cX1_codeOf 35 = .ok (.goto 9, 3) := by decide +kernel
theorem dX1_codeOf_38 : decode cX1_codeOf 38 = .ok (.aload_n 0, 1) := by decide +kernel
theorem dX1_codeOf_39 : decode cX1_codeOf 39 = .ok (.getfield 28, 3) := by decide +kernel
theorem dX1_codeOf_42 : decode cX1_codeOf 42 = .ok (.iload_n 1, 1) := by decide +kernel
theorem dX1_codeOf_43 : decode cX1_codeOf 43 = .ok (.laload, 1) := by decide +kernel
theorem dX1_codeOf_44 : decode cX1_codeOf 44 = .ok (.lstore_n 3, 1) := by decide +kernel
theorem dX1_codeOf_45 : decode cX1_codeOf 45 = .ok (.lload_n 3, 1) := by decide +kernel
theorem dX1_codeOf_46 : decode cX1_codeOf 46 = .ok (.bipush 8, 2) := by decide +kernel
theorem dX1_codeOf_48 : decode cX1_codeOf 48 = .ok (.iload_n 2, 1) := by decide +kernel
theorem dX1_codeOf_49 : decode cX1_codeOf 49 = .ok (.bipush 8, 2) := by decide +kernel
theorem dX1_codeOf_51 : decode cX1_codeOf 51 = .ok (.irem, 1) := by decide +kernel
theorem dX1_codeOf_52 : decode cX1_codeOf 52 = .ok (.imul, 1) := by decide +kernel
theorem dX1_codeOf_53 : decode cX1_codeOf 53 = .ok (.lushr, 1) := by decide +kernel
theorem dX1_codeOf_54 : decode cX1_codeOf 54 = .ok (.ldc2_w 45, 3) := by decide +kernel
theorem dX1_codeOf_57 : decode cX1_codeOf 57 = .ok (.land, 1) := by decide +kernel
theorem dX1_codeOf_58 : decode cX1_codeOf 58 = .ok (.l2i, 1) := by decide +kernel
theorem dX1_codeOf_59 : decode cX1_codeOf 59 = .ok (.ireturn, 1) := by decide +kernel
theorem dX1_newPair_0 : decode cX1_newPair 0 = .ok (.aload_n 0, 1) := by decide +kernel
theorem dX1_newPair_1 : decode cX1_newPair 1 = .ok (.invokevirtual 47, 3) := by decide +kernel
theorem dX1_newPair_4 : decode cX1_newPair 4 = .ok (.istore_n 3, 1) := by decide +kernel
theorem dX1_newPair_5 : decode cX1_newPair 5 = .ok (.iload_n 3, 1) := by decide +kernel
theorem dX1_newPair_6 : decode cX1_newPair 6 = .ok (.ifCond .le 62, 3) := by decide +kernel
theorem dX1_newPair_9 : decode cX1_newPair 9 = .ok (.iload_n 3, 1) := by decide +kernel
theorem dX1_newPair_10 : decode cX1_newPair 10 = .ok (.sipush 20000, 3) := by decide +kernel
theorem dX1_newPair_13 : decode cX1_newPair 13 = .ok (.if_icmp .ge 55, 3) := by decide +kernel
theorem dX1_newPair_16 : decode cX1_newPair 16 = .ok (.aload_n 0, 1) := by decide +kernel
theorem dX1_newPair_17 : decode cX1_newPair 17 = .ok (.getfield 9, 3) := by decide +kernel
theorem dX1_newPair_20 : decode cX1_newPair 20 = .ok (.iload_n 3, 1) := by decide +kernel
theorem dX1_newPair_21 : decode cX1_newPair 21 = .ok (.iload_n 1, 1) := by decide +kernel
theorem dX1_newPair_22 : decode cX1_newPair 22 = .ok (.iastore, 1) := by decide +kernel
theorem dX1_newPair_23 : decode cX1_newPair 23 = .ok (.aload_n 0, 1) := by decide +kernel
theorem dX1_newPair_24 : decode cX1_newPair 24 = .ok (.getfield 15, 3) := by decide +kernel
theorem dX1_newPair_27 : decode cX1_newPair 27 = .ok (.iload_n 3, 1) := by decide +kernel
theorem dX1_newPair_28 : decode cX1_newPair 28 = .ok (.iload_n 2, 1) := by decide +kernel
theorem dX1_newPair_29 : decode cX1_newPair 29 = .ok (.iastore, 1) := by decide +kernel
theorem dX1_newPair_30 : decode cX1_newPair 30 = .ok (.aload_n 0, 1) := by decide +kernel
theorem dX1_newPair_31 : decode cX1_newPair 31 = .ok (.getfield 18, 3) := by decide +kernel
theorem dX1_newPair_34 : decode cX1_newPair 34 = .ok (.iload_n 3, 1) := by decide +kernel
theorem dX1_newPair_35 : decode cX1_newPair 35 = .ok (.aload_n 0, 1) := by decide +kernel
theorem dX1_newPair_36 : decode cX1_newPair 36 = .ok (.iload_n 1, 1) := by decide +kernel
theorem dX1_newPair_37 : decode cX1_newPair 37 = .ok (.invokevirtual 51, 3) := by decide +kernel
theorem dX1_newPair_40 : decode cX1_newPair 40 = .ok (.aload_n 0, 1) := by decide +kernel
theorem dX1_newPair_41 : decode cX1_newPair 41 = .ok (.iload_n 2, 1) := by decide +kernel
theorem dX1_newPair_42 : decode cX1_newPair 42 = .ok (.invokevirtual 51, 3) := by decide +kernel
theorem dX1_newPair_45 : decode cX1_newPair 45 = .ok (.iadd, 1) := by decide +kernel
theorem dX1_newPair_46 : decode cX1_newPair 46 = .ok (.iastore, 1) := by decide +kernel
theorem dX1_newPair_47 : decode cX1_newPair 47 = .ok (.aload_n 0, 1) := by decide +kernel
theorem dX1_newPair_48 : decode cX1_newPair 48 = .ok (.getfield 21, 3) := by decide +kernel
theorem dX1_newPair_51 : decode cX1_newPair 51 = .ok (.iload_n 3, 1) := by decide +kernel
theorem dX1_newPair_52 : decode cX1_newPair 52 = .ok (.iconst 1, 1) := by decide +kernel
theorem dX1_newPair_53 : decode cX1_newPair 53 = .ok (.aload_n 0, 1) := by decide +kernel
theorem dX1_newPair_54 : decode cX1_newPair 54 = .ok (.iload_n 1, 1) := by decide +kernel
theorem dX1_newPair_55 : decode cX1_newPair 55 = .ok (.invokevirtual 55, 3) := by decide +kernel
theorem dX1_newPair_58 : decode cX1_newPair 58 = .ok (.aload_n 0, 1) := by decide +kernel
theorem dX1_newPair_59 : decode cX1_newPair 59 = .ok (.iload_n 2, 1) := by decide +kernel
theorem dX1_newPair_60 : decode cX1_newPair 60 = .ok (.invokevirtual 55, 3) := by decide +kernel
theorem dX1_newPair_63 : decode cX1_newPair 63 = .ok (.invokestatic 58, 3) := by decide +kernel
theorem dX1_newPair_66 : decode cX1_newPair 66 = .ok (.iadd, 1) := by decide +kernel
theorem dX1_newPair_67 : decode cX1_newPair 67 = .ok (.iastore, 1) := by decide +kernel
theorem dX1_newPair_68 : decode cX1_newPair 68 = .ok (.iload_n 3, 1) := by decide +kernel
theorem dX1_newPair_69 : decode cX1_newPair 69 = .ok (.ireturn, 1) := by decide +kernel
theorem dX1_newLeafOfBoth_0 : decode cX1_newLeafOfBoth 0 = .ok (.aload_n 0, 1) := by decide +kernel
theorem dX1_newLeafOfBoth_1 : decode cX1_newLeafOfBoth 1 = .ok (.invokevirtual 64, 3) := by decide +kernel
theorem dX1_newLeafOfBoth_4 : decode cX1_newLeafOfBoth 4 = .ok (.istore_n 3, 1) := by decide +kernel
theorem dX1_newLeafOfBoth_5 : decode cX1_newLeafOfBoth 5 = .ok (.aload_n 0, 1) := by decide +kernel
theorem dX1_newLeafOfBoth_6 : decode cX1_newLeafOfBoth 6 = .ok (.iload_n 3, 1) := by decide +kernel
theorem dX1_newLeafOfBoth_7 : decode cX1_newLeafOfBoth 7 = .ok (.iload_n 1, 1) := by decide +kernel
theorem dX1_newLeafOfBoth_8 : decode cX1_newLeafOfBoth 8 = .ok (.iconst 0, 1) := by decide +kernel
theorem dX1_newLeafOfBoth_9 : decode cX1_newLeafOfBoth 9 = .ok (.aload_n 0, 1) := by decide +kernel
theorem dX1_newLeafOfBoth_10 : decode cX1_newLeafOfBoth 10 = .ok (.iload_n 1, 1) := by decide +kernel
theorem dX1_newLeafOfBoth_11 : decode cX1_newLeafOfBoth 11 = .ok (.invokevirtual 51, 3) := by decide +kernel
theorem dX1_newLeafOfBoth_14 : decode cX1_newLeafOfBoth 14 = .ok (.invokevirtual 67, 3) := by decide +kernel
theorem dX1_newLeafOfBoth_17 : decode cX1_newLeafOfBoth 17 = .ok (.aload_n 0, 1) := by decide +kernel
theorem dX1_newLeafOfBoth_18 : decode cX1_newLeafOfBoth 18 = .ok (.iload_n 3, 1) := by decide +kernel
theorem dX1_newLeafOfBoth_19 : decode cX1_newLeafOfBoth 19 = .ok (.iload_n 2, 1) := by decide +kernel
theorem dX1_newLeafOfBoth_20 : decode cX1_newLeafOfBoth 20 = .ok (.iconst 0, 1) := by decide +kernel
theorem dX1_newLeafOfBoth_21 : decode cX1_newLeafOfBoth 21 = .ok (.aload_n 0, 1) := by decide +kernel
theorem dX1_newLeafOfBoth_22 : decode cX1_newLeafOfBoth 22 = .ok (.iload_n 2, 1) := by decide +kernel
theorem dX1_newLeafOfBoth_23 : decode cX1_newLeafOfBoth 23 = .ok (.invokevirtual 51, 3) := by decide +kernel
theorem dX1_newLeafOfBoth_26 : decode cX1_newLeafOfBoth 26 = .ok (.invokevirtual 67, 3) := by decide +kernel
theorem dX1_newLeafOfBoth_29 : decode cX1_newLeafOfBoth 29 = .ok (.iload_n 3, 1) := by decide +kernel
theorem dX1_newLeafOfBoth_30 : decode cX1_newLeafOfBoth 30 = .ok (.ireturn, 1) := by decide +kernel
theorem dX1_newLeaf_0 : decode cX1_newLeaf 0 = .ok (.aload_n 0, 1) := by decide +kernel
theorem dX1_newLeaf_1 : decode cX1_newLeaf 1 = .ok (.invokevirtual 47, 3) := by decide +kernel
theorem dX1_newLeaf_4 : decode cX1_newLeaf 4 = .ok (.istore_n 1, 1) := by decide +kernel
theorem dX1_newLeaf_5 : decode cX1_newLeaf 5 = .ok (.iload_n 1, 1) := by decide +kernel
theorem dX1_newLeaf_6 : decode cX1_newLeaf 6 = .ok (.ifCond .le 52, 3) := by decide +kernel
theorem dX1_newLeaf_9 : decode cX1_newLeaf 9 = .ok (.iload_n 1, 1) := by decide +kernel
theorem dX1_newLeaf_10 : decode cX1_newLeaf 10 = .ok (.sipush 20000, 3) := by decide +kernel
theorem dX1_newLeaf_13 : decode cX1_newLeaf 13 = .ok (.if_icmp .ge 45, 3) := by decide +kernel
theorem dX1_newLeaf_16 : decode cX1_newLeaf 16 = .ok (.aload_n 0, 1) := by decide +kernel
theorem dX1_newLeaf_17 : decode cX1_newLeaf 17 = .ok (.getfield 9, 3) := by decide +kernel
theorem dX1_newLeaf_20 : decode cX1_newLeaf 20 = .ok (.iload_n 1, 1) := by decide +kernel
theorem dX1_newLeaf_21 : decode cX1_newLeaf 21 = .ok (.iconst 0, 1) := by decide +kernel
theorem dX1_newLeaf_22 : decode cX1_newLeaf 22 = .ok (.iastore, 1) := by decide +kernel
theorem dX1_newLeaf_23 : decode cX1_newLeaf 23 = .ok (.aload_n 0, 1) := by decide +kernel
theorem dX1_newLeaf_24 : decode cX1_newLeaf 24 = .ok (.getfield 15, 3) := by decide +kernel
theorem dX1_newLeaf_27 : decode cX1_newLeaf 27 = .ok (.iload_n 1, 1) := by decide +kernel
theorem dX1_newLeaf_28 : decode cX1_newLeaf 28 = .ok (.iconst 0, 1) := by decide +kernel
theorem dX1_newLeaf_29 : decode cX1_newLeaf 29 = .ok (.iastore, 1) := by decide +kernel
theorem dX1_newLeaf_30 : decode cX1_newLeaf 30 = .ok (.aload_n 0, 1) := by decide +kernel
theorem dX1_newLeaf_31 : decode cX1_newLeaf 31 = .ok (.getfield 18, 3) := by decide +kernel
theorem dX1_newLeaf_34 : decode cX1_newLeaf 34 = .ok (.iload_n 1, 1) := by decide +kernel
theorem dX1_newLeaf_35 : decode cX1_newLeaf 35 = .ok (.iconst 0, 1) := by decide +kernel
theorem dX1_newLeaf_36 : decode cX1_newLeaf 36 = .ok (.iastore, 1) := by decide +kernel
theorem dX1_newLeaf_37 : decode cX1_newLeaf 37 = .ok (.aload_n 0, 1) := by decide +kernel
theorem dX1_newLeaf_38 : decode cX1_newLeaf 38 = .ok (.getfield 21, 3) := by decide +kernel
theorem dX1_newLeaf_41 : decode cX1_newLeaf 41 = .ok (.iload_n 1, 1) := by decide +kernel
theorem dX1_newLeaf_42 : decode cX1_newLeaf 42 = .ok (.iconst 0, 1) := by decide +kernel
theorem dX1_newLeaf_43 : decode cX1_newLeaf 43 = .ok (.iastore, 1) := by decide +kernel
theorem dX1_newLeaf_44 : decode cX1_newLeaf 44 = .ok (.aload_n 0, 1) := by decide +kernel
theorem dX1_newLeaf_45 : decode cX1_newLeaf 45 = .ok (.getfield 24, 3) := by decide +kernel
theorem dX1_newLeaf_48 : decode cX1_newLeaf 48 = .ok (.iload_n 1, 1) := by decide +kernel
theorem dX1_newLeaf_49 : decode cX1_newLeaf 49 = .ok (.lconst 0, 1) := by decide +kernel
theorem dX1_newLeaf_50 : decode cX1_newLeaf 50 = .ok (.lastore, 1) := by decide +kernel
theorem dX1_newLeaf_51 : decode cX1_newLeaf 51 = .ok (.aload_n 0, 1) := by decide +kernel
theorem dX1_newLeaf_52 : decode cX1_newLeaf 52 = .ok (.getfield 28, 3) := by decide +kernel
theorem dX1_newLeaf_55 : decode cX1_newLeaf 55 = .ok (.iload_n 1, 1) := by decide +kernel
theorem dX1_newLeaf_56 : decode cX1_newLeaf 56 = .ok (.lconst 0, 1) := by decide +kernel
theorem dX1_newLeaf_57 : decode cX1_newLeaf 57 = .ok (.lastore, 1) := by decide +kernel
theorem dX1_newLeaf_58 : decode cX1_newLeaf 58 = .ok (.iload_n 1, 1) := by decide +kernel
theorem dX1_newLeaf_59 : decode cX1_newLeaf 59 = .ok (.ireturn, 1) := by decide +kernel
theorem dX1_append_0 : decode cX1_append 0 = .ok (.iload_n 1, 1) := by decide +kernel
theorem dX1_append_1 : decode cX1_append 1 = .ok (.ifCond .le 21, 3) := by decide +kernel
theorem dX1_append_4 : decode cX1_append 4 = .ok (.iload_n 1, 1) := by decide +kernel
theorem dX1_append_5 : decode cX1_append 5 = .ok (.sipush 20000, 3) := by decide +kernel
theorem dX1_append_8 : decode cX1_append 8 = .ok (.if_icmp .ge 14, 3) := by decide +kernel
theorem dX1_append_11 : decode cX1_append 11 = .ok (.aload_n 0, 1) := by decide +kernel
theorem dX1_append_12 : decode cX1_append 12 = .ok (.getfield 18, 3) := by decide +kernel
theorem dX1_append_15 : decode cX1_append 15 = .ok (.iload_n 1, 1) := by decide +kernel
theorem dX1_append_16 : decode cX1_append 16 = .ok (.iaload, 1) := by decide +kernel
theorem dX1_append_17 : decode cX1_append 17 = .ok (.bipush 16, 2) := by decide +kernel
theorem dX1_append_19 : decode cX1_append 19 = .ok (.if_icmp .lt 4, 3) := by decide +kernel
theorem dX1_append_22 : decode cX1_append 22 = .ok (.return_, 1) := by decide +kernel
theorem dX1_append_23 : decode cX1_append 23 = .ok (.aload_n 0, 1) := by decide +kernel
theorem dX1_append_24 : decode cX1_append 24 = .ok (.getfield 18, 3) := by decide +kernel
theorem dX1_append_27 : decode cX1_append 27 = .ok (.iload_n 1, 1) := by decide +kernel
theorem dX1_append_28 : decode cX1_append 28 = .ok (.iaload, 1) := by decide +kernel
theorem dX1_append_29 : decode cX1_append 29 = .ok (.istore_n 3, 1) := by decide +kernel
theorem dX1_append_30 : decode cX1_append 30 = .ok (.iload_n 2, 1) := by decide +kernel
theorem dX1_append_31 : decode cX1_append 31 = .ok (.i2l, 1) := by decide +kernel
theorem dX1_append_32 : decode cX1_append 32 = .ok (.bipush 8, 2) := by decide +kernel
theorem dX1_append_34 : decode cX1_append 34 = .ok (.iload_n 3, 1) := by decide +kernel
theorem dX1_append_35 : decode cX1_append 35 = .ok (.bipush 8, 2) := by decide +kernel
theorem dX1_append_37 : decode cX1_append 37 = .ok (.irem, 1) := by decide +kernel
theorem dX1_append_38 : decode cX1_append 38 = .ok (.imul, 1) := by decide +kernel
theorem dX1_append_39 : decode cX1_append 39 = .ok (.lshl, 1) := by decide +kernel
theorem dX1_append_40 : decode cX1_append 40 = .ok (.lstore 4, 2) := by decide +kernel
theorem dX1_append_42 : decode cX1_append 42 = .ok (.iload_n 3, 1) := by decide +kernel
theorem dX1_append_43 : decode cX1_append 43 = .ok (.bipush 8, 2) := by decide +kernel
theorem dX1_append_45 : decode cX1_append 45 = .ok (.if_icmp .ge 17, 3) := by decide +kernel
theorem dX1_append_48 : decode cX1_append 48 = .ok (.aload_n 0, 1) := by decide +kernel
theorem dX1_append_49 : decode cX1_append 49 = .ok (.getfield 24, 3) := by decide +kernel
theorem dX1_append_52 : decode cX1_append 52 = .ok (.iload_n 1, 1) := by decide +kernel
theorem dX1_append_53 : decode cX1_append 53 = .ok (.dup2, 1) := by decide +kernel
theorem dX1_append_54 : decode cX1_append 54 = .ok (.laload, 1) := by decide +kernel
theorem dX1_append_55 : decode cX1_append 55 = .ok (.lload 4, 2) := by decide +kernel
theorem dX1_append_57 : decode cX1_append 57 = .ok (.lor, 1) := by decide +kernel
theorem dX1_append_58 : decode cX1_append 58 = .ok (.lastore, 1) := by decide +kernel
theorem dX1_append_59 : decode cX1_append 59 = .ok (.goto 14, 3) := by decide +kernel
theorem dX1_append_62 : decode cX1_append 62 = .ok (.aload_n 0, 1) := by decide +kernel
theorem dX1_append_63 : decode cX1_append 63 = .ok (.getfield 28, 3) := by decide +kernel
theorem dX1_append_66 : decode cX1_append 66 = .ok (.iload_n 1, 1) := by decide +kernel
theorem dX1_append_67 : decode cX1_append 67 = .ok (.dup2, 1) := by decide +kernel
theorem dX1_append_68 : decode cX1_append 68 = .ok (.laload, 1) := by decide +kernel
theorem dX1_append_69 : decode cX1_append 69 = .ok (.lload 4, 2) := by decide +kernel
theorem dX1_append_71 : decode cX1_append 71 = .ok (.lor, 1) := by decide +kernel
theorem dX1_append_72 : decode cX1_append 72 = .ok (.lastore, 1) := by decide +kernel
theorem dX1_append_73 : decode cX1_append 73 = .ok (.aload_n 0, 1) := by decide +kernel
theorem dX1_append_74 : decode cX1_append 74 = .ok (.getfield 18, 3) := by decide +kernel
theorem dX1_append_77 : decode cX1_append 77 = .ok (.iload_n 1, 1) := by decide +kernel
theorem dX1_append_78 : decode cX1_append 78 = .ok (.dup2, 1) := by decide +kernel
theorem dX1_append_79 : decode cX1_append 79 = .ok (.iaload, 1) := by decide +kernel
theorem dX1_append_80 : decode cX1_append 80 = .ok (.iconst 1, 1) := by decide +kernel
theorem dX1_append_81 : decode cX1_append 81 = .ok (.iadd, 1) := by decide +kernel
theorem dX1_append_82 : decode cX1_append 82 = .ok (.iastore, 1) := by decide +kernel
theorem dX1_append_83 : decode cX1_append 83 = .ok (.return_, 1) := by decide +kernel
theorem dX1_appendCodes_0 : decode cX1_appendCodes 0 = .ok (.iload_n 3, 1) := by decide +kernel
theorem dX1_appendCodes_1 : decode cX1_appendCodes 1 = .ok (.istore 5, 2) := by decide +kernel
theorem dX1_appendCodes_3 : decode cX1_appendCodes 3 = .ok (.iload 5, 2) := by decide +kernel
theorem dX1_appendCodes_5 : decode cX1_appendCodes 5 = .ok (.iload 4, 2) := by decide +kernel
theorem dX1_appendCodes_7 : decode cX1_appendCodes 7 = .ok (.if_icmp .ge 21, 3) := by decide +kernel
theorem dX1_appendCodes_10 : decode cX1_appendCodes 10 = .ok (.aload_n 0, 1) := by decide +kernel
theorem dX1_appendCodes_11 : decode cX1_appendCodes 11 = .ok (.iload_n 1, 1) := by decide +kernel
theorem dX1_appendCodes_12 : decode cX1_appendCodes 12 = .ok (.aload_n 0, 1) := by decide +kernel
theorem dX1_appendCodes_13 : decode cX1_appendCodes 13 = .ok (.iload_n 2, 1) := by decide +kernel
theorem dX1_appendCodes_14 : decode cX1_appendCodes 14 = .ok (.iload 5, 2) := by decide +kernel
theorem dX1_appendCodes_16 : decode cX1_appendCodes 16 = .ok (.invokevirtual 71, 3) := by decide +kernel
theorem dX1_appendCodes_19 : decode cX1_appendCodes 19 = .ok (.invokevirtual 74, 3) := by decide +kernel
theorem dX1_appendCodes_22 : decode cX1_appendCodes 22 = .ok (.iinc 5 1, 3) := by decide +kernel
theorem dX1_appendCodes_25 : decode cX1_appendCodes 25 = .ok (.goto (-22), 3) := by decide +kernel
theorem dX1_appendCodes_28 : decode cX1_appendCodes 28 = .ok (.return_, 1) := by decide +kernel
theorem dX1_freshNode_0 : decode cX1_freshNode 0 = .ok (.aload_n 0, 1) := by decide +kernel
theorem dX1_freshNode_1 : decode cX1_freshNode 1 = .ok (.getfield 35, 3) := by decide +kernel
theorem dX1_freshNode_4 : decode cX1_freshNode 4 = .ok (.iconst 1, 1) := by decide +kernel
theorem dX1_freshNode_5 : decode cX1_freshNode 5 = .ok (.invokestatic 58, 3) := by decide +kernel
theorem dX1_freshNode_8 : decode cX1_freshNode 8 = .ok (.istore_n 1, 1) := by decide +kernel
theorem dX1_freshNode_9 : decode cX1_freshNode 9 = .ok (.iload_n 1, 1) := by decide +kernel
theorem dX1_freshNode_10 : decode cX1_freshNode 10 = .ok (.sipush 20000, 3) := by decide +kernel
theorem dX1_freshNode_13 : decode cX1_freshNode 13 = .ok (.if_icmp .ge 37, 3) := by decide +kernel
theorem dX1_freshNode_16 : decode cX1_freshNode 16 = .ok (.aload_n 0, 1) := by decide +kernel
theorem dX1_freshNode_17 : decode cX1_freshNode 17 = .ok (.getfield 31, 3) := by decide +kernel
theorem dX1_freshNode_20 : decode cX1_freshNode 20 = .ok (.iload_n 1, 1) := by decide +kernel
theorem dX1_freshNode_21 : decode cX1_freshNode 21 = .ok (.baload, 1) := by decide +kernel
theorem dX1_freshNode_22 : decode cX1_freshNode 22 = .ok (.ifCond .ne 22, 3) := by decide +kernel
theorem dX1_freshNode_25 : decode cX1_freshNode 25 = .ok (.aload_n 0, 1) := by decide +kernel
theorem dX1_freshNode_26 : decode cX1_freshNode 26 = .ok (.iload_n 1, 1) := by decide +kernel
theorem dX1_freshNode_27 : decode cX1_freshNode 27 = .ok (.iconst 1, 1) := by decide +kernel
theorem dX1_freshNode_28 : decode cX1_freshNode 28 = .ok (.iadd, 1) := by decide +kernel
theorem dX1_freshNode_29 : decode cX1_freshNode 29 = .ok (.putfield 35, 3) := by decide +kernel
theorem dX1_freshNode_32 : decode cX1_freshNode 32 = .ok (.aload_n 0, 1) := by decide +kernel
theorem dX1_freshNode_33 : decode cX1_freshNode 33 = .ok (.dup, 1) := by decide +kernel
theorem dX1_freshNode_34 : decode cX1_freshNode 34 = .ok (.getfield 39, 3) := by decide +kernel
theorem dX1_freshNode_37 : decode cX1_freshNode 37 = .ok (.iconst 1, 1) := by decide +kernel
theorem dX1_freshNode_38 : decode cX1_freshNode 38 = .ok (.isub, 1) := by decide +kernel
theorem dX1_freshNode_39 : decode cX1_freshNode 39 = .ok (.putfield 39, 3) := by decide +kernel
theorem dX1_freshNode_42 : decode cX1_freshNode 42 = .ok (.iload_n 1, 1) := by decide +kernel
theorem dX1_freshNode_43 : decode cX1_freshNode 43 = .ok (.ireturn, 1) := by decide +kernel
theorem dX1_freshNode_44 : decode cX1_freshNode 44 = .ok (.iinc 1 1, 3) := by decide +kernel
theorem dX1_freshNode_47 : decode cX1_freshNode 47 = .ok (.goto (-38), 3) := by decide +kernel
theorem dX1_freshNode_50 : decode cX1_freshNode 50 = .ok (.iconst 0, 1) := by decide +kernel
theorem dX1_freshNode_51 : decode cX1_freshNode 51 = .ok (.ireturn, 1) := by decide +kernel
theorem dX1_startCollection_0 : decode cX1_startCollection 0 = .ok (.iconst 0, 1) := by decide +kernel
theorem dX1_startCollection_1 : decode cX1_startCollection 1 = .ok (.istore_n 1, 1) := by decide +kernel
theorem dX1_startCollection_2 : decode cX1_startCollection 2 = .ok (.iload_n 1, 1) := by decide +kernel
theorem dX1_startCollection_3 : decode cX1_startCollection 3 = .ok (.sipush 20000, 3) := by decide +kernel
theorem dX1_startCollection_6 : decode cX1_startCollection 6 = .ok (.if_icmp .ge 16, 3) := by decide +kernel
theorem dX1_startCollection_9 : decode cX1_startCollection 9 = .ok (.aload_n 0, 1) := by decide +kernel
theorem dX1_startCollection_10 : decode cX1_startCollection 10 = .ok (.getfield 31, 3) := by decide +kernel
theorem dX1_startCollection_13 : decode cX1_startCollection 13 = .ok (.iload_n 1, 1) := by decide +kernel
theorem dX1_startCollection_14 : decode cX1_startCollection 14 = .ok (.iconst 0, 1) := by decide +kernel
theorem dX1_startCollection_15 : decode cX1_startCollection 15 = .ok (.bastore, 1) := by decide +kernel
theorem dX1_startCollection_16 : decode cX1_startCollection 16 = .ok (.iinc 1 1, 3) := by decide +kernel
theorem dX1_startCollection_19 : decode cX1_startCollection 19 = .ok (.goto (-17), 3) := by decide +kernel
theorem dX1_startCollection_22 : decode cX1_startCollection 22 = .ok (.return_, 1) := by decide +kernel
theorem dX1_retain_0 : decode cX1_retain 0 = .ok (.iload_n 1, 1) := by decide +kernel
theorem dX1_retain_1 : decode cX1_retain 1 = .ok (.istore_n 2, 1) := by decide +kernel
theorem dX1_retain_2 : decode cX1_retain 2 = .ok (.iconst 0, 1) := by decide +kernel
theorem dX1_retain_3 : decode cX1_retain 3 = .ok (.istore_n 3, 1) := by decide +kernel
theorem dX1_retain_4 : decode cX1_retain 4 = .ok (.iconst 0, 1) := by decide +kernel
theorem dX1_retain_5 : decode cX1_retain 5 = .ok (.istore 4, 2) := by decide +kernel
theorem dX1_retain_7 : decode cX1_retain 7 = .ok (.iload 4, 2) := by decide +kernel
theorem dX1_retain_9 : decode cX1_retain 9 = .ok (.ldc 78, 2) := by decide +kernel
theorem dX1_retain_11 : decode cX1_retain 11 = .ok (.if_icmp .ge 88, 3) := by decide +kernel
theorem dX1_retain_14 : decode cX1_retain 14 = .ok (.iload_n 2, 1) := by decide +kernel
theorem dX1_retain_15 : decode cX1_retain 15 = .ok (.ifCond .le 60, 3) := by decide +kernel
theorem dX1_retain_18 : decode cX1_retain 18 = .ok (.iload_n 2, 1) := by decide +kernel
theorem dX1_retain_19 : decode cX1_retain 19 = .ok (.sipush 20000, 3) := by decide +kernel
theorem dX1_retain_22 : decode cX1_retain 22 = .ok (.if_icmp .ge 53, 3) := by decide +kernel
theorem dX1_retain_25 : decode cX1_retain 25 = .ok (.aload_n 0, 1) := by decide +kernel
theorem dX1_retain_26 : decode cX1_retain 26 = .ok (.getfield 31, 3) := by decide +kernel
theorem dX1_retain_29 : decode cX1_retain 29 = .ok (.iload_n 2, 1) := by decide +kernel
theorem dX1_retain_30 : decode cX1_retain 30 = .ok (.baload, 1) := by decide +kernel
theorem dX1_retain_31 : decode cX1_retain 31 = .ok (.ifCond .ne 44, 3) := by decide +kernel
theorem dX1_retain_34 : decode cX1_retain 34 = .ok (.aload_n 0, 1) := by decide +kernel
theorem dX1_retain_35 : decode cX1_retain 35 = .ok (.getfield 31, 3) := by decide +kernel
theorem dX1_retain_38 : decode cX1_retain 38 = .ok (.iload_n 2, 1) := by decide +kernel
theorem dX1_retain_39 : decode cX1_retain 39 = .ok (.iconst 1, 1) := by decide +kernel
theorem dX1_retain_40 : decode cX1_retain 40 = .ok (.bastore, 1) := by decide +kernel
theorem dX1_retain_41 : decode cX1_retain 41 = .ok (.iload_n 3, 1) := by decide +kernel
theorem dX1_retain_42 : decode cX1_retain 42 = .ok (.aload_n 0, 1) := by decide +kernel
theorem dX1_retain_43 : decode cX1_retain 43 = .ok (.getfield 42, 3) := by decide +kernel
theorem dX1_retain_46 : decode cX1_retain 46 = .ok (.arraylength, 1) := by decide +kernel
theorem dX1_retain_47 : decode cX1_retain 47 = .ok (.if_icmp .ge 18, 3) := by decide +kernel
theorem dX1_retain_50 : decode cX1_retain 50 = .ok (.aload_n 0, 1) := by decide +kernel
theorem dX1_retain_51 : decode cX1_retain 51 = .ok (.getfield 42, 3) := by decide +kernel
theorem dX1_retain_54 : decode cX1_retain 54 = .ok (.iload_n 3, 1) := by decide +kernel
theorem dX1_retain_55 : decode cX1_retain 55 = .ok (.aload_n 0, 1) := by decide +kernel
theorem dX1_retain_56 : decode cX1_retain 56 = .ok (.getfield 15, 3) := by decide +kernel
theorem dX1_retain_59 : decode cX1_retain 59 = .ok (.iload_n 2, 1) := by decide +kernel
theorem dX1_retain_60 : decode cX1_retain 60 = .ok (.iaload, 1) := by decide +kernel
theorem dX1_retain_61 : decode cX1_retain 61 = .ok (.iastore, 1) := by decide +kernel
theorem dX1_retain_62 : decode cX1_retain 62 = .ok (.iinc 3 1, 3) := by decide +kernel
theorem dX1_retain_65 : decode cX1_retain 65 = .ok (.aload_n 0, 1) := by decide +kernel
theorem dX1_retain_66 : decode cX1_retain 66 = .ok (.getfield 9, 3) := by decide +kernel
theorem dX1_retain_69 : decode cX1_retain 69 = .ok (.iload_n 2, 1) := by decide +kernel
theorem dX1_retain_70 : decode cX1_retain 70 = .ok (.iaload, 1) := by decide +kernel
theorem dX1_retain_71 : decode cX1_retain 71 = .ok (.istore_n 2, 1) := by decide +kernel
theorem dX1_retain_72 : decode cX1_retain 72 = .ok (.goto 21, 3) := by decide +kernel
theorem dX1_retain_75 : decode cX1_retain 75 = .ok (.iload_n 3, 1) := by decide +kernel
theorem dX1_retain_76 : decode cX1_retain 76 = .ok (.ifCond .le 16, 3) := by decide +kernel
theorem dX1_retain_79 : decode cX1_retain 79 = .ok (.iinc 3 (-1), 3) := by decide +kernel
theorem dX1_retain_82 : decode cX1_retain 82 = .ok (.aload_n 0, 1) := by decide +kernel
theorem dX1_retain_83 : decode cX1_retain 83 = .ok (.getfield 42, 3) := by decide +kernel
theorem dX1_retain_86 : decode cX1_retain 86 = .ok (.iload_n 3, 1) := by decide +kernel
theorem dX1_retain_87 : decode cX1_retain 87 = .ok (.iaload, 1) := by decide +kernel
theorem dX1_retain_88 : decode cX1_retain 88 = .ok (.istore_n 2, 1) := by decide +kernel
theorem dX1_retain_89 : decode cX1_retain 89 = .ok (.goto 4, 3) := by decide +kernel
theorem dX1_retain_92 : decode cX1_retain 92 = .ok (.return_, 1) := by decide +kernel
theorem dX1_retain_93 : decode cX1_retain 93 = .ok (.iinc 4 1, 3) := by decide +kernel
theorem dX1_retain_96 : decode cX1_retain 96 = .ok (.goto (-89), 3) := by decide +kernel
theorem dX1_retain_99 : decode cX1_retain 99 = .ok (.return_, 1) := by decide +kernel
theorem dX1_endCollection_0 : decode cX1_endCollection 0 = .ok (.aload_n 0, 1) := by decide +kernel
theorem dX1_endCollection_1 : decode cX1_endCollection 1 = .ok (.iconst 0, 1) := by decide +kernel
theorem dX1_endCollection_2 : decode cX1_endCollection 2 = .ok (.putfield 39, 3) := by decide +kernel
theorem dX1_endCollection_5 : decode cX1_endCollection 5 = .ok (.iconst 1, 1) := by decide +kernel
theorem dX1_endCollection_6 : decode cX1_endCollection 6 = .ok (.istore_n 1, 1) := by decide +kernel
theorem dX1_endCollection_7 : decode cX1_endCollection 7 = .ok (.iload_n 1, 1) := by decide +kernel
theorem dX1_endCollection_8 : decode cX1_endCollection 8 = .ok (.sipush 20000, 3) := by decide +kernel
theorem dX1_endCollection_11 : decode cX1_endCollection 11 = .ok (.if_icmp .ge 28, 3) := by decide +kernel
theorem dX1_endCollection_14 : decode cX1_endCollection 14 = .ok (.aload_n 0, 1) := by decide +kernel
theorem dX1_endCollection_15 : decode cX1_endCollection 15 = .ok (.getfield 31, 3) := by decide +kernel
theorem dX1_endCollection_18 : decode cX1_endCollection 18 = .ok (.iload_n 1, 1) := by decide +kernel
theorem dX1_endCollection_19 : decode cX1_endCollection 19 = .ok (.baload, 1) := by decide +kernel
theorem dX1_endCollection_20 : decode cX1_endCollection 20 = .ok (.ifCond .ne 13, 3) := by decide +kernel
theorem dX1_endCollection_23 : decode cX1_endCollection 23 = .ok (.aload_n 0, 1) := by decide +kernel
theorem dX1_endCollection_24 : decode cX1_endCollection 24 = .ok (.dup, 1) := by decide +kernel
theorem dX1_endCollection_25 : decode cX1_endCollection 25 = .ok (.getfield 39, 3) := by decide +kernel
theorem dX1_endCollection_28 : decode cX1_endCollection 28 = .ok (.iconst 1, 1) := by decide +kernel
theorem dX1_endCollection_29 : decode cX1_endCollection 29 = .ok (.iadd, 1) := by decide +kernel
theorem dX1_endCollection_30 : decode cX1_endCollection 30 = .ok (.putfield 39, 3) := by decide +kernel
theorem dX1_endCollection_33 : decode cX1_endCollection 33 = .ok (.iinc 1 1, 3) := by decide +kernel
theorem dX1_endCollection_36 : decode cX1_endCollection 36 = .ok (.goto (-29), 3) := by decide +kernel
theorem dX1_endCollection_39 : decode cX1_endCollection 39 = .ok (.aload_n 0, 1) := by decide +kernel
theorem dX1_endCollection_40 : decode cX1_endCollection 40 = .ok (.iconst 1, 1) := by decide +kernel
theorem dX1_endCollection_41 : decode cX1_endCollection 41 = .ok (.putfield 35, 3) := by decide +kernel
theorem dX1_endCollection_44 : decode cX1_endCollection 44 = .ok (.return_, 1) := by decide +kernel
theorem dX2_init_0 : decode cX2_init 0 = .ok (.aload_n 0, 1) := by decide +kernel
theorem dX2_init_1 : decode cX2_init 1 = .ok (.invokespecial 3, 3) := by decide +kernel
theorem dX2_init_4 : decode cX2_init 4 = .ok (.aload_n 0, 1) := by decide +kernel
theorem dX2_init_5 : decode cX2_init 5 = .ok (.iconst 4, 1) := by decide +kernel
theorem dX2_init_6 : decode cX2_init 6 = .ok (.newarray .int, 2) := by decide +kernel
theorem dX2_init_8 : decode cX2_init 8 = .ok (.putfield 9, 3) := by decide +kernel
theorem dX2_init_11 : decode cX2_init 11 = .ok (.aload_n 0, 1) := by decide +kernel
theorem dX2_init_12 : decode cX2_init 12 = .ok (.iconst 4, 1) := by decide +kernel
theorem dX2_init_13 : decode cX2_init 13 = .ok (.newarray .int, 2) := by decide +kernel
theorem dX2_init_15 : decode cX2_init 15 = .ok (.putfield 15, 3) := by decide +kernel
theorem dX2_init_18 : decode cX2_init 18 = .ok (.aload_n 0, 1) := by decide +kernel
theorem dX2_init_19 : decode cX2_init 19 = .ok (.iconst 0, 1) := by decide +kernel
theorem dX2_init_20 : decode cX2_init 20 = .ok (.putfield 18, 3) := by decide +kernel
theorem dX2_init_23 : decode cX2_init 23 = .ok (.aload_n 0, 1) := by decide +kernel
theorem dX2_init_24 : decode cX2_init 24 = .ok (.bipush 8, 2) := by decide +kernel
theorem dX2_init_26 : decode cX2_init 26 = .ok (.putfield 22, 3) := by decide +kernel
theorem dX2_init_29 : decode cX2_init 29 = .ok (.aload_n 0, 1) := by decide +kernel
theorem dX2_init_30 : decode cX2_init 30 = .ok (.iconst 1, 1) := by decide +kernel
theorem dX2_init_31 : decode cX2_init 31 = .ok (.putfield 25, 3) := by decide +kernel
theorem dX2_init_34 : decode cX2_init 34 = .ok (.aload_n 0, 1) := by decide +kernel
theorem dX2_init_35 : decode cX2_init 35 = .ok (.iconst 0, 1) := by decide +kernel
theorem dX2_init_36 : decode cX2_init 36 = .ok (.putfield 28, 3) := by decide +kernel
theorem dX2_init_39 : decode cX2_init 39 = .ok (.aload_n 0, 1) := by decide +kernel
theorem dX2_init_40 : decode cX2_init 40 = .ok (.iconst 0, 1) := by decide +kernel
theorem dX2_init_41 : decode cX2_init 41 = .ok (.putfield 31, 3) := by decide +kernel
theorem dX2_init_44 : decode cX2_init 44 = .ok (.aload_n 0, 1) := by decide +kernel
theorem dX2_init_45 : decode cX2_init 45 = .ok (.getfield 9, 3) := by decide +kernel
theorem dX2_init_48 : decode cX2_init 48 = .ok (.bipush (-5), 2) := by decide +kernel
theorem dX2_init_50 : decode cX2_init 50 = .ok (.invokestatic 34, 3) := by decide +kernel
theorem dX2_init_53 : decode cX2_init 53 = .ok (.return_, 1) := by decide +kernel
theorem dX2_takeFrom_0 : decode cX2_takeFrom 0 = .ok (.aload_n 1, 1) := by decide +kernel
theorem dX2_takeFrom_1 : decode cX2_takeFrom 1 = .ok (.getfield 9, 3) := by decide +kernel
theorem dX2_takeFrom_4 : decode cX2_takeFrom 4 = .ok (.iconst 0, 1) := by decide +kernel
theorem dX2_takeFrom_5 : decode cX2_takeFrom 5 = .ok (.aload_n 0, 1) := by decide +kernel
theorem dX2_takeFrom_6 : decode cX2_takeFrom 6 = .ok (.getfield 9, 3) := by decide +kernel
theorem dX2_takeFrom_9 : decode cX2_takeFrom 9 = .ok (.iconst 0, 1) := by decide +kernel
theorem dX2_takeFrom_10 : decode cX2_takeFrom 10 = .ok (.iconst 4, 1) := by decide +kernel
theorem dX2_takeFrom_11 : decode cX2_takeFrom 11 = .ok (.invokestatic 40, 3) := by decide +kernel
theorem dX2_takeFrom_14 : decode cX2_takeFrom 14 = .ok (.aload_n 1, 1) := by decide +kernel
theorem dX2_takeFrom_15 : decode cX2_takeFrom 15 = .ok (.getfield 15, 3) := by decide +kernel
theorem dX2_takeFrom_18 : decode cX2_takeFrom 18 = .ok (.iconst 0, 1) := by decide +kernel
theorem dX2_takeFrom_19 : decode cX2_takeFrom 19 = .ok (.aload_n 0, 1) := by decide +kernel
theorem dX2_takeFrom_20 : decode cX2_takeFrom 20 = .ok (.getfield 15, 3) := by decide +kernel
theorem dX2_takeFrom_23 : decode cX2_takeFrom 23 = .ok (.iconst 0, 1) := by decide +kernel
theorem dX2_takeFrom_24 : decode cX2_takeFrom 24 = .ok (.iconst 4, 1) := by decide +kernel
theorem dX2_takeFrom_25 : decode cX2_takeFrom 25 = .ok (.invokestatic 40, 3) := by decide +kernel
theorem dX2_takeFrom_28 : decode cX2_takeFrom 28 = .ok (.aload_n 0, 1) := by decide +kernel
theorem dX2_takeFrom_29 : decode cX2_takeFrom 29 = .ok (.aload_n 1, 1) := by decide +kernel
theorem dX2_takeFrom_30 : decode cX2_takeFrom 30 = .ok (.getfield 18, 3) := by decide +kernel
theorem dX2_takeFrom_33 : decode cX2_takeFrom 33 = .ok (.putfield 18, 3) := by decide +kernel
theorem dX2_takeFrom_36 : decode cX2_takeFrom 36 = .ok (.aload_n 0, 1) := by decide +kernel
theorem dX2_takeFrom_37 : decode cX2_takeFrom 37 = .ok (.aload_n 1, 1) := by decide +kernel
theorem dX2_takeFrom_38 : decode cX2_takeFrom 38 = .ok (.getfield 22, 3) := by decide +kernel
theorem dX2_takeFrom_41 : decode cX2_takeFrom 41 = .ok (.putfield 22, 3) := by decide +kernel
theorem dX2_takeFrom_44 : decode cX2_takeFrom 44 = .ok (.aload_n 0, 1) := by decide +kernel
theorem dX2_takeFrom_45 : decode cX2_takeFrom 45 = .ok (.aload_n 1, 1) := by decide +kernel
theorem dX2_takeFrom_46 : decode cX2_takeFrom 46 = .ok (.getfield 25, 3) := by decide +kernel
theorem dX2_takeFrom_49 : decode cX2_takeFrom 49 = .ok (.putfield 25, 3) := by decide +kernel
theorem dX2_takeFrom_52 : decode cX2_takeFrom 52 = .ok (.aload_n 0, 1) := by decide +kernel
theorem dX2_takeFrom_53 : decode cX2_takeFrom 53 = .ok (.aload_n 1, 1) := by decide +kernel
theorem dX2_takeFrom_54 : decode cX2_takeFrom 54 = .ok (.getfield 28, 3) := by decide +kernel
theorem dX2_takeFrom_57 : decode cX2_takeFrom 57 = .ok (.putfield 28, 3) := by decide +kernel
theorem dX2_takeFrom_60 : decode cX2_takeFrom 60 = .ok (.aload_n 0, 1) := by decide +kernel
theorem dX2_takeFrom_61 : decode cX2_takeFrom 61 = .ok (.aload_n 1, 1) := by decide +kernel
theorem dX2_takeFrom_62 : decode cX2_takeFrom 62 = .ok (.getfield 31, 3) := by decide +kernel
theorem dX2_takeFrom_65 : decode cX2_takeFrom 65 = .ok (.putfield 31, 3) := by decide +kernel
theorem dX2_takeFrom_68 : decode cX2_takeFrom 68 = .ok (.return_, 1) := by decide +kernel
theorem dX2_hasInRing_0 : decode cX2_hasInRing 0 = .ok (.iload_n 1, 1) := by decide +kernel
theorem dX2_hasInRing_1 : decode cX2_hasInRing 1 = .ok (.ifCond .lt 15, 3) := by decide +kernel
theorem dX2_hasInRing_4 : decode cX2_hasInRing 4 = .ok (.iload_n 1, 1) := by decide +kernel
theorem dX2_hasInRing_5 : decode cX2_hasInRing 5 = .ok (.aload_n 0, 1) := by decide +kernel
theorem dX2_hasInRing_6 : decode cX2_hasInRing 6 = .ok (.getfield 18, 3) := by decide +kernel
theorem dX2_hasInRing_9 : decode cX2_hasInRing 9 = .ok (.if_icmp .ge 7, 3) := by decide +kernel
theorem dX2_hasInRing_12 : decode cX2_hasInRing 12 = .ok (.iconst 1, 1) := by decide +kernel
theorem dX2_hasInRing_13 : decode cX2_hasInRing 13 = .ok (.goto 4, 3) := by decide +kernel
theorem dX2_hasInRing_16 : decode cX2_hasInRing 16 = .ok (.iconst 0, 1) := by decide +kernel
theorem dX2_hasInRing_17 : decode cX2_hasInRing 17 = .ok (.ireturn, 1) := by decide +kernel
theorem dX2_ropeOfRing_0 : decode cX2_ropeOfRing 0 = .ok (.aload_n 0, 1) := by decide +kernel
theorem dX2_ropeOfRing_1 : decode cX2_ropeOfRing 1 = .ok (.iload_n 1, 1) := by decide +kernel
theorem dX2_ropeOfRing_2 : decode cX2_ropeOfRing 2 = .ok (.invokevirtual 46, 3) := by decide +kernel
theorem dX2_ropeOfRing_5 : decode cX2_ropeOfRing 5 = .ok (.ifCond .eq 21, 3) := by decide +kernel
theorem dX2_ropeOfRing_8 : decode cX2_ropeOfRing 8 = .ok (.iload_n 1, 1) := by decide +kernel
theorem dX2_ropeOfRing_9 : decode cX2_ropeOfRing 9 = .ok (.aload_n 0, 1) := by decide +kernel
theorem dX2_ropeOfRing_10 : decode cX2_ropeOfRing 10 = .ok (.getfield 15, 3) := by decide +kernel
theorem dX2_ropeOfRing_13 : decode cX2_ropeOfRing 13 = .ok (.arraylength, 1) := by decide +kernel
theorem dX2_ropeOfRing_14 : decode cX2_ropeOfRing 14 = .ok (.if_icmp .ge 12, 3) := by decide +kernel
theorem dX2_ropeOfRing_17 : decode cX2_ropeOfRing 17 = .ok (.aload_n 0, 1) := by decide +kernel
theorem dX2_ropeOfRing_18 : decode cX2_ropeOfRing 18 = .ok (.getfield 15, 3) := by decide +kernel
theorem dX2_ropeOfRing_21 : decode cX2_ropeOfRing 21 = .ok (.iload_n 1, 1) := by decide +kernel
theorem dX2_ropeOfRing_22 : decode cX2_ropeOfRing 22 = .ok (.iaload, 1) := by decide +kernel
theorem dX2_ropeOfRing_23 : decode cX2_ropeOfRing 23 = .ok (.goto 4, 3) := by decide +kernel
theorem dX2_ropeOfRing_26 : decode cX2_ropeOfRing 26 = .ok (.iconst 0, 1) := by decide +kernel
theorem dX2_ropeOfRing_27 : decode cX2_ropeOfRing 27 = .ok (.ireturn, 1) := by decide +kernel
theorem dX2_addToRing_0 : decode cX2_addToRing 0 = .ok (.aload_n 0, 1) := by decide +kernel
theorem dX2_addToRing_1 : decode cX2_addToRing 1 = .ok (.getfield 15, 3) := by decide +kernel
theorem dX2_addToRing_4 : decode cX2_addToRing 4 = .ok (.arraylength, 1) := by decide +kernel
theorem dX2_addToRing_5 : decode cX2_addToRing 5 = .ok (.iconst 1, 1) := by decide +kernel
theorem dX2_addToRing_6 : decode cX2_addToRing 6 = .ok (.isub, 1) := by decide +kernel
theorem dX2_addToRing_7 : decode cX2_addToRing 7 = .ok (.istore_n 2, 1) := by decide +kernel
theorem dX2_addToRing_8 : decode cX2_addToRing 8 = .ok (.iload_n 2, 1) := by decide +kernel
theorem dX2_addToRing_9 : decode cX2_addToRing 9 = .ok (.ifCond .le 23, 3) := by decide +kernel
theorem dX2_addToRing_12 : decode cX2_addToRing 12 = .ok (.aload_n 0, 1) := by decide +kernel
theorem dX2_addToRing_13 : decode cX2_addToRing 13 = .ok (.getfield 15, 3) := by decide +kernel
theorem dX2_addToRing_16 : decode cX2_addToRing 16 = .ok (.iload_n 2, 1) := by decide +kernel
theorem dX2_addToRing_17 : decode cX2_addToRing 17 = .ok (.aload_n 0, 1) := by decide +kernel
theorem dX2_addToRing_18 : decode cX2_addToRing 18 = .ok (.getfield 15, 3) := by decide +kernel
theorem dX2_addToRing_21 : decode cX2_addToRing 21 = .ok (.iload_n 2, 1) := by decide +kernel
theorem dX2_addToRing_22 : decode cX2_addToRing 22 = .ok (.iconst 1, 1) := by decide +kernel
theorem dX2_addToRing_23 : decode cX2_addToRing 23 = .ok (.isub, 1) := by decide +kernel
theorem dX2_addToRing_24 : decode cX2_addToRing 24 = .ok (.iaload, 1) := by decide +kernel
theorem dX2_addToRing_25 : decode cX2_addToRing 25 = .ok (.iastore, 1) := by decide +kernel
theorem dX2_addToRing_26 : decode cX2_addToRing 26 = .ok (.iinc 2 (-1), 3) := by decide +kernel
theorem dX2_addToRing_29 : decode cX2_addToRing 29 = .ok (.goto (-21), 3) := by decide +kernel
theorem dX2_addToRing_32 : decode cX2_addToRing 32 = .ok (.aload_n 0, 1) := by decide +kernel
theorem dX2_addToRing_33 : decode cX2_addToRing 33 = .ok (.getfield 15, 3) := by decide +kernel
theorem dX2_addToRing_36 : decode cX2_addToRing 36 = .ok (.iconst 0, 1) := by decide +kernel
theorem dX2_addToRing_37 : decode cX2_addToRing 37 = .ok (.iload_n 1, 1) := by decide +kernel
theorem dX2_addToRing_38 : decode cX2_addToRing 38 = .ok (.iastore, 1) := by decide +kernel
theorem dX2_addToRing_39 : decode cX2_addToRing 39 = .ok (.aload_n 0, 1) := by decide +kernel
theorem dX2_addToRing_40 : decode cX2_addToRing 40 = .ok (.aload_n 0, 1) := by decide +kernel
theorem dX2_addToRing_41 : decode cX2_addToRing 41 = .ok (.getfield 18, 3) := by decide +kernel
theorem dX2_addToRing_44 : decode cX2_addToRing 44 = .ok (.iconst 1, 1) := by decide +kernel
theorem dX2_addToRing_45 : decode cX2_addToRing 45 = .ok (.iadd, 1) := by decide +kernel
theorem dX2_addToRing_46 : decode cX2_addToRing 46 = .ok (.iconst 4, 1) := by decide +kernel
theorem dX2_addToRing_47 : decode cX2_addToRing 47 = .ok (.invokestatic 50, 3) := by decide +kernel
theorem dX2_addToRing_50 : decode cX2_addToRing 50 = .ok (.putfield 18, 3) := by decide +kernel
theorem dX2_addToRing_53 : decode cX2_addToRing 53 = .ok (.return_, 1) := by decide +kernel
theorem dX2_markAt_0 : decode cX2_markAt 0 = .ok (.iload_n 1, 1) := by decide +kernel
theorem dX2_markAt_1 : decode cX2_markAt 1 = .ok (.ifCond .lt 21, 3) := by decide +kernel
theorem dX2_markAt_4 : decode cX2_markAt 4 = .ok (.iload_n 1, 1) := by decide +kernel
theorem dX2_markAt_5 : decode cX2_markAt 5 = .ok (.aload_n 0, 1) := by decide +kernel
theorem dX2_markAt_6 : decode cX2_markAt 6 = .ok (.getfield 9, 3) := by decide +kernel
theorem dX2_markAt_9 : decode cX2_markAt 9 = .ok (.arraylength, 1) := by decide +kernel
theorem dX2_markAt_10 : decode cX2_markAt 10 = .ok (.if_icmp .ge 12, 3) := by decide +kernel
theorem dX2_markAt_13 : decode cX2_markAt 13 = .ok (.aload_n 0, 1) := by decide +kernel
theorem dX2_markAt_14 : decode cX2_markAt 14 = .ok (.getfield 9, 3) := by decide +kernel
theorem dX2_markAt_17 : decode cX2_markAt 17 = .ok (.iload_n 1, 1) := by decide +kernel
theorem dX2_markAt_18 : decode cX2_markAt 18 = .ok (.iaload, 1) := by decide +kernel
theorem dX2_markAt_19 : decode cX2_markAt 19 = .ok (.goto 5, 3) := by decide +kernel
theorem dX2_markAt_22 : decode cX2_markAt 22 = .ok (.bipush (-5), 2) := by decide +kernel
theorem dX2_markAt_24 : decode cX2_markAt 24 = .ok (.ireturn, 1) := by decide +kernel
theorem dX2_putMark_0 : decode cX2_putMark 0 = .ok (.iload_n 1, 1) := by decide +kernel
theorem dX2_putMark_1 : decode cX2_putMark 1 = .ok (.ifCond .lt 19, 3) := by decide +kernel
theorem dX2_putMark_4 : decode cX2_putMark 4 = .ok (.iload_n 1, 1) := by decide +kernel
theorem dX2_putMark_5 : decode cX2_putMark 5 = .ok (.aload_n 0, 1) := by decide +kernel
theorem dX2_putMark_6 : decode cX2_putMark 6 = .ok (.getfield 9, 3) := by decide +kernel
theorem dX2_putMark_9 : decode cX2_putMark 9 = .ok (.arraylength, 1) := by decide +kernel
theorem dX2_putMark_10 : decode cX2_putMark 10 = .ok (.if_icmp .ge 10, 3) := by decide +kernel
theorem dX2_putMark_13 : decode cX2_putMark 13 = .ok (.aload_n 0, 1) := by decide +kernel
theorem dX2_putMark_14 : decode cX2_putMark 14 = .ok (.getfield 9, 3) := by decide +kernel
theorem dX2_putMark_17 : decode cX2_putMark 17 = .ok (.iload_n 1, 1) := by decide +kernel
theorem dX2_putMark_18 : decode cX2_putMark 18 = .ok (.iload_n 2, 1) := by decide +kernel
theorem dX2_putMark_19 : decode cX2_putMark 19 = .ok (.iastore, 1) := by decide +kernel
theorem dX2_putMark_20 : decode cX2_putMark 20 = .ok (.return_, 1) := by decide +kernel
theorem dX2_moveMarksOn_0 : decode cX2_moveMarksOn 0 = .ok (.iconst 0, 1) := by decide +kernel
theorem dX2_moveMarksOn_1 : decode cX2_moveMarksOn 1 = .ok (.istore_n 3, 1) := by decide +kernel
theorem dX2_moveMarksOn_2 : decode cX2_moveMarksOn 2 = .ok (.iload_n 3, 1) := by decide +kernel
theorem dX2_moveMarksOn_3 : decode cX2_moveMarksOn 3 = .ok (.aload_n 0, 1) := by decide +kernel
theorem dX2_moveMarksOn_4 : decode cX2_moveMarksOn 4 = .ok (.getfield 9, 3) := by decide +kernel
theorem dX2_moveMarksOn_7 : decode cX2_moveMarksOn 7 = .ok (.arraylength, 1) := by decide +kernel
theorem dX2_moveMarksOn_8 : decode cX2_moveMarksOn 8 = .ok (.if_icmp .ge 29, 3) := by decide +kernel
theorem dX2_moveMarksOn_11 : decode cX2_moveMarksOn 11 = .ok (.aload_n 0, 1) := by decide +kernel
theorem dX2_moveMarksOn_12 : decode cX2_moveMarksOn 12 = .ok (.getfield 9, 3) := by decide +kernel
theorem dX2_moveMarksOn_15 : decode cX2_moveMarksOn 15 = .ok (.iload_n 3, 1) := by decide +kernel
theorem dX2_moveMarksOn_16 : decode cX2_moveMarksOn 16 = .ok (.iaload, 1) := by decide +kernel
theorem dX2_moveMarksOn_17 : decode cX2_moveMarksOn 17 = .ok (.iload_n 1, 1) := by decide +kernel
theorem dX2_moveMarksOn_18 : decode cX2_moveMarksOn 18 = .ok (.if_icmp .lt 13, 3) := by decide +kernel
theorem dX2_moveMarksOn_21 : decode cX2_moveMarksOn 21 = .ok (.aload_n 0, 1) := by decide +kernel
theorem dX2_moveMarksOn_22 : decode cX2_moveMarksOn 22 = .ok (.getfield 9, 3) := by decide +kernel
theorem dX2_moveMarksOn_25 : decode cX2_moveMarksOn 25 = .ok (.iload_n 3, 1) := by decide +kernel
theorem dX2_moveMarksOn_26 : decode cX2_moveMarksOn 26 = .ok (.dup2, 1) := by decide +kernel
theorem dX2_moveMarksOn_27 : decode cX2_moveMarksOn 27 = .ok (.iaload, 1) := by decide +kernel
theorem dX2_moveMarksOn_28 : decode cX2_moveMarksOn 28 = .ok (.iload_n 2, 1) := by decide +kernel
theorem dX2_moveMarksOn_29 : decode cX2_moveMarksOn 29 = .ok (.iadd, 1) := by decide +kernel
theorem dX2_moveMarksOn_30 : decode cX2_moveMarksOn 30 = .ok (.iastore, 1) := by decide +kernel
theorem dX2_moveMarksOn_31 : decode cX2_moveMarksOn 31 = .ok (.iinc 3 1, 3) := by decide +kernel
theorem dX2_moveMarksOn_34 : decode cX2_moveMarksOn 34 = .ok (.goto (-32), 3) := by decide +kernel
theorem dX2_moveMarksOn_37 : decode cX2_moveMarksOn 37 = .ok (.return_, 1) := by decide +kernel
theorem dX2_moveMarksBack_0 : decode cX2_moveMarksBack 0 = .ok (.iconst 0, 1) := by decide +kernel
theorem dX2_moveMarksBack_1 : decode cX2_moveMarksBack 1 = .ok (.istore_n 3, 1) := by decide +kernel
theorem dX2_moveMarksBack_2 : decode cX2_moveMarksBack 2 = .ok (.iload_n 3, 1) := by decide +kernel
theorem dX2_moveMarksBack_3 : decode cX2_moveMarksBack 3 = .ok (.aload_n 0, 1) := by decide +kernel
theorem dX2_moveMarksBack_4 : decode cX2_moveMarksBack 4 = .ok (.getfield 9, 3) := by decide +kernel
theorem dX2_moveMarksBack_7 : decode cX2_moveMarksBack 7 = .ok (.arraylength, 1) := by decide +kernel
theorem dX2_moveMarksBack_8 : decode cX2_moveMarksBack 8 = .ok (.if_icmp .ge 51, 3) := by decide +kernel
theorem dX2_moveMarksBack_11 : decode cX2_moveMarksBack 11 = .ok (.aload_n 0, 1) := by decide +kernel
theorem dX2_moveMarksBack_12 : decode cX2_moveMarksBack 12 = .ok (.getfield 9, 3) := by decide +kernel
theorem dX2_moveMarksBack_15 : decode cX2_moveMarksBack 15 = .ok (.iload_n 3, 1) := by decide +kernel
theorem dX2_moveMarksBack_16 : decode cX2_moveMarksBack 16 = .ok (.iaload, 1) := by decide +kernel
theorem dX2_moveMarksBack_17 : decode cX2_moveMarksBack 17 = .ok (.iload_n 2, 1) := by decide +kernel
theorem dX2_moveMarksBack_18 : decode cX2_moveMarksBack 18 = .ok (.if_icmp .le 18, 3) := by decide +kernel
theorem dX2_moveMarksBack_21 : decode cX2_moveMarksBack 21 = .ok (.aload_n 0, 1) := by decide +kernel
theorem dX2_moveMarksBack_22 : decode cX2_moveMarksBack 22 = .ok (.getfield 9, 3) := by decide +kernel
theorem dX2_moveMarksBack_25 : decode cX2_moveMarksBack 25 = .ok (.iload_n 3, 1) := by decide +kernel
theorem dX2_moveMarksBack_26 : decode cX2_moveMarksBack 26 = .ok (.dup2, 1) := by decide +kernel
theorem dX2_moveMarksBack_27 : decode cX2_moveMarksBack 27 = .ok (.iaload, 1) := by decide +kernel
theorem dX2_moveMarksBack_28 : decode cX2_moveMarksBack 28 = .ok (.iload_n 2, 1) := by decide +kernel
theorem dX2_moveMarksBack_29 : decode cX2_moveMarksBack 29 = .ok (.iload_n 1, 1) := by decide +kernel
theorem dX2_moveMarksBack_30 : decode cX2_moveMarksBack 30 = .ok (.isub, 1) := by decide +kernel
theorem dX2_moveMarksBack_31 : decode cX2_moveMarksBack 31 = .ok (.isub, 1) := by decide +kernel
theorem dX2_moveMarksBack_32 : decode cX2_moveMarksBack 32 = .ok (.iastore, 1) := by decide +kernel
theorem dX2_moveMarksBack_33 : decode cX2_moveMarksBack 33 = .ok (.goto 20, 3) := by decide +kernel
theorem dX2_moveMarksBack_36 : decode cX2_moveMarksBack 36 = .ok (.aload_n 0, 1) := by decide +kernel
theorem dX2_moveMarksBack_37 : decode cX2_moveMarksBack 37 = .ok (.getfield 9, 3) := by decide +kernel
theorem dX2_moveMarksBack_40 : decode cX2_moveMarksBack 40 = .ok (.iload_n 3, 1) := by decide +kernel
theorem dX2_moveMarksBack_41 : decode cX2_moveMarksBack 41 = .ok (.iaload, 1) := by decide +kernel
theorem dX2_moveMarksBack_42 : decode cX2_moveMarksBack 42 = .ok (.iload_n 1, 1) := by decide +kernel
theorem dX2_moveMarksBack_43 : decode cX2_moveMarksBack 43 = .ok (.if_icmp .lt 10, 3) := by decide +kernel
theorem dX2_moveMarksBack_46 : decode cX2_moveMarksBack 46 = .ok (.aload_n 0, 1) := by decide +kernel
theorem dX2_moveMarksBack_47 : decode cX2_moveMarksBack 47 = .ok (.getfield 9, 3) := by decide +kernel
theorem dX2_moveMarksBack_50 : decode cX2_moveMarksBack 50 = .ok (.iload_n 3, 1) := by decide +kernel
theorem dX2_moveMarksBack_51 : decode cX2_moveMarksBack 51 = .ok (.iload_n 1, 1) := by decide +kernel
theorem dX2_moveMarksBack_52 : decode cX2_moveMarksBack 52 = .ok (.iastore, 1) := by decide +kernel
theorem dX2_moveMarksBack_53 : decode cX2_moveMarksBack 53 = .ok (.iinc 3 1, 3) := by decide +kernel
theorem dX2_moveMarksBack_56 : decode cX2_moveMarksBack 56 = .ok (.goto (-54), 3) := by decide +kernel
theorem dX2_moveMarksBack_59 : decode cX2_moveMarksBack 59 = .ok (.return_, 1) := by decide +kernel
theorem dX3_init_0 : decode cX3_init 0 = .ok (.aload_n 0, 1) := by decide +kernel
theorem dX3_init_1 : decode cX3_init 1 = .ok (.invokespecial 3, 3) := by decide +kernel
theorem dX3_init_4 : decode cX3_init 4 = .ok (.aload_n 0, 1) := by decide +kernel
theorem dX3_init_5 : decode cX3_init 5 = .ok (.sipush 400, 3) := by decide +kernel
theorem dX3_init_8 : decode cX3_init 8 = .ok (.newarray .int, 2) := by decide +kernel
theorem dX3_init_10 : decode cX3_init 10 = .ok (.putfield 9, 3) := by decide +kernel
theorem dX3_init_13 : decode cX3_init 13 = .ok (.aload_n 0, 1) := by decide +kernel
theorem dX3_init_14 : decode cX3_init 14 = .ok (.sipush 400, 3) := by decide +kernel
theorem dX3_init_17 : decode cX3_init 17 = .ok (.newarray .int, 2) := by decide +kernel
theorem dX3_init_19 : decode cX3_init 19 = .ok (.putfield 15, 3) := by decide +kernel
theorem dX3_init_22 : decode cX3_init 22 = .ok (.aload_n 0, 1) := by decide +kernel
theorem dX3_init_23 : decode cX3_init 23 = .ok (.sipush 400, 3) := by decide +kernel
theorem dX3_init_26 : decode cX3_init 26 = .ok (.newarray .int, 2) := by decide +kernel
theorem dX3_init_28 : decode cX3_init 28 = .ok (.putfield 18, 3) := by decide +kernel
theorem dX3_init_31 : decode cX3_init 31 = .ok (.aload_n 0, 1) := by decide +kernel
theorem dX3_init_32 : decode cX3_init 32 = .ok (.sipush 400, 3) := by decide +kernel
theorem dX3_init_35 : decode cX3_init 35 = .ok (.newarray .int, 2) := by decide +kernel
theorem dX3_init_37 : decode cX3_init 37 = .ok (.putfield 21, 3) := by decide +kernel
theorem dX3_init_40 : decode cX3_init 40 = .ok (.aload_n 0, 1) := by decide +kernel
theorem dX3_init_41 : decode cX3_init 41 = .ok (.sipush 400, 3) := by decide +kernel
theorem dX3_init_44 : decode cX3_init 44 = .ok (.newarray .int, 2) := by decide +kernel
theorem dX3_init_46 : decode cX3_init 46 = .ok (.putfield 24, 3) := by decide +kernel
theorem dX3_init_49 : decode cX3_init 49 = .ok (.aload_n 0, 1) := by decide +kernel
theorem dX3_init_50 : decode cX3_init 50 = .ok (.sipush 400, 3) := by decide +kernel
theorem dX3_init_53 : decode cX3_init 53 = .ok (.newarray .int, 2) := by decide +kernel
theorem dX3_init_55 : decode cX3_init 55 = .ok (.putfield 27, 3) := by decide +kernel
theorem dX3_init_58 : decode cX3_init 58 = .ok (.aload_n 0, 1) := by decide +kernel
theorem dX3_init_59 : decode cX3_init 59 = .ok (.iconst 0, 1) := by decide +kernel
theorem dX3_init_60 : decode cX3_init 60 = .ok (.putfield 30, 3) := by decide +kernel
theorem dX3_init_63 : decode cX3_init 63 = .ok (.aload_n 0, 1) := by decide +kernel
theorem dX3_init_64 : decode cX3_init 64 = .ok (.iconst 0, 1) := by decide +kernel
theorem dX3_init_65 : decode cX3_init 65 = .ok (.putfield 34, 3) := by decide +kernel
theorem dX3_init_68 : decode cX3_init 68 = .ok (.return_, 1) := by decide +kernel
theorem dX3_read_0 : decode cX3_read 0 = .ok (.aload_n 0, 1) := by decide +kernel
theorem dX3_read_1 : decode cX3_read 1 = .ok (.iconst 0, 1) := by decide +kernel
theorem dX3_read_2 : decode cX3_read 2 = .ok (.putfield 30, 3) := by decide +kernel
theorem dX3_read_5 : decode cX3_read 5 = .ok (.aload_n 0, 1) := by decide +kernel
theorem dX3_read_6 : decode cX3_read 6 = .ok (.iconst 0, 1) := by decide +kernel
theorem dX3_read_7 : decode cX3_read 7 = .ok (.putfield 34, 3) := by decide +kernel
theorem dX3_read_10 : decode cX3_read 10 = .ok (.iconst 0, 1) := by decide +kernel
theorem dX3_read_11 : decode cX3_read 11 = .ok (.istore_n 3, 1) := by decide +kernel
theorem dX3_read_12 : decode cX3_read 12 = .ok (.iload_n 2, 1) := by decide +kernel
theorem dX3_read_13 : decode cX3_read 13 = .ok (.istore 4, 2) := by decide +kernel
theorem dX3_read_15 : decode cX3_read 15 = .ok (.iconst 0, 1) := by decide +kernel
theorem dX3_read_16 : decode cX3_read 16 = .ok (.istore 5, 2) := by decide +kernel
theorem dX3_read_18 : decode cX3_read 18 = .ok (.iconst 0, 1) := by decide +kernel
theorem dX3_read_19 : decode cX3_read 19 = .ok (.istore 6, 2) := by decide +kernel
theorem dX3_read_21 : decode cX3_read 21 = .ok (.iload 6, 2) := by decide +kernel
theorem dX3_read_23 : decode cX3_read 23 = .ok (.sipush 800, 3) := by decide +kernel
theorem dX3_read_26 : decode cX3_read 26 = .ok (.if_icmp .ge 122, 3) := by decide +kernel
theorem dX3_read_29 : decode cX3_read 29 = .ok (.iload 4, 2) := by decide +kernel
theorem dX3_read_31 : decode cX3_read 31 = .ok (.ifCond .eq 117, 3) := by decide +kernel
theorem dX3_read_34 : decode cX3_read 34 = .ok (.aload_n 1, 1) := by decide +kernel
theorem dX3_read_35 : decode cX3_read 35 = .ok (.iload 4, 2) := by decide +kernel
theorem dX3_read_37 : decode cX3_read 37 = .ok (.invokevirtual 37, 3) := by decide +kernel
theorem dX3_read_40 : decode cX3_read 40 = .ok (.ifCond .eq 58, 3) := by decide +kernel
theorem dX3_read_43 : decode cX3_read 43 = .ok (.iload_n 3, 1) := by decide +kernel
theorem dX3_read_44 : decode cX3_read 44 = .ok (.aload_n 0, 1) := by decide +kernel
theorem dX3_read_45 : decode cX3_read 45 = .ok (.getfield 24, 3) := by decide +kernel
theorem dX3_read_48 : decode cX3_read 48 = .ok (.arraylength, 1) := by decide +kernel
theorem dX3_read_49 : decode cX3_read 49 = .ok (.if_icmp .ge 49, 3) := by decide +kernel
theorem dX3_read_52 : decode cX3_read 52 = .ok (.iload_n 3, 1) := by decide +kernel
theorem dX3_read_53 : decode cX3_read 53 = .ok (.aload_n 0, 1) := by decide +kernel
theorem dX3_read_54 : decode cX3_read 54 = .ok (.getfield 27, 3) := by decide +kernel
theorem dX3_read_57 : decode cX3_read 57 = .ok (.arraylength, 1) := by decide +kernel
theorem dX3_read_58 : decode cX3_read 58 = .ok (.if_icmp .ge 40, 3) := by decide +kernel
theorem dX3_read_61 : decode cX3_read 61 = .ok (.iinc 5 1, 3) := by decide +kernel
theorem dX3_read_64 : decode cX3_read 64 = .ok (.aload_n 0, 1) := by decide +kernel
theorem dX3_read_65 : decode cX3_read 65 = .ok (.getfield 24, 3) := by decide +kernel
theorem dX3_read_68 : decode cX3_read 68 = .ok (.iload_n 3, 1) := by decide +kernel
theorem dX3_read_69 : decode cX3_read 69 = .ok (.aload_n 1, 1) := by decide +kernel
theorem dX3_read_70 : decode cX3_read 70 = .ok (.iload 4, 2) := by decide +kernel
theorem dX3_read_72 : decode cX3_read 72 = .ok (.invokevirtual 43, 3) := by decide +kernel
theorem dX3_read_75 : decode cX3_read 75 = .ok (.iastore, 1) := by decide +kernel
theorem dX3_read_76 : decode cX3_read 76 = .ok (.aload_n 0, 1) := by decide +kernel
theorem dX3_read_77 : decode cX3_read 77 = .ok (.getfield 27, 3) := by decide +kernel
theorem dX3_read_80 : decode cX3_read 80 = .ok (.iload_n 3, 1) := by decide +kernel
theorem dX3_read_81 : decode cX3_read 81 = .ok (.iload 5, 2) := by decide +kernel
theorem dX3_read_83 : decode cX3_read 83 = .ok (.iastore, 1) := by decide +kernel
theorem dX3_read_84 : decode cX3_read 84 = .ok (.iinc 3 1, 3) := by decide +kernel
theorem dX3_read_87 : decode cX3_read 87 = .ok (.aload_n 1, 1) := by decide +kernel
theorem dX3_read_88 : decode cX3_read 88 = .ok (.iload 4, 2) := by decide +kernel
theorem dX3_read_90 : decode cX3_read 90 = .ok (.invokevirtual 47, 3) := by decide +kernel
theorem dX3_read_93 : decode cX3_read 93 = .ok (.istore 4, 2) := by decide +kernel
theorem dX3_read_95 : decode cX3_read 95 = .ok (.goto 47, 3) := by decide +kernel
theorem dX3_read_98 : decode cX3_read 98 = .ok (.aload_n 0, 1) := by decide +kernel
theorem dX3_read_99 : decode cX3_read 99 = .ok (.aload_n 1, 1) := by decide +kernel
theorem dX3_read_100 : decode cX3_read 100 = .ok (.iload 4, 2) := by decide +kernel
theorem dX3_read_102 : decode cX3_read 102 = .ok (.iload 5, 2) := by decide +kernel
theorem dX3_read_104 : decode cX3_read 104 = .ok (.invokevirtual 50, 3) := by decide +kernel
theorem dX3_read_107 : decode cX3_read 107 = .ok (.iinc 3 (-1), 3) := by decide +kernel
theorem dX3_read_110 : decode cX3_read 110 = .ok (.iload_n 3, 1) := by decide +kernel
theorem dX3_read_111 : decode cX3_read 111 = .ok (.ifCond .lt 12, 3) := by decide +kernel
theorem dX3_read_114 : decode cX3_read 114 = .ok (.aload_n 0, 1) := by decide +kernel
theorem dX3_read_115 : decode cX3_read 115 = .ok (.getfield 24, 3) := by decide +kernel
theorem dX3_read_118 : decode cX3_read 118 = .ok (.iload_n 3, 1) := by decide +kernel
theorem dX3_read_119 : decode cX3_read 119 = .ok (.iaload, 1) := by decide +kernel
theorem dX3_read_120 : decode cX3_read 120 = .ok (.goto 4, 3) := by decide +kernel
theorem dX3_read_123 : decode cX3_read 123 = .ok (.iconst 0, 1) := by decide +kernel
theorem dX3_read_124 : decode cX3_read 124 = .ok (.istore 4, 2) := by decide +kernel
theorem dX3_read_126 : decode cX3_read 126 = .ok (.iload_n 3, 1) := by decide +kernel
theorem dX3_read_127 : decode cX3_read 127 = .ok (.ifCond .lt 12, 3) := by decide +kernel
theorem dX3_read_130 : decode cX3_read 130 = .ok (.aload_n 0, 1) := by decide +kernel
theorem dX3_read_131 : decode cX3_read 131 = .ok (.getfield 27, 3) := by decide +kernel
theorem dX3_read_134 : decode cX3_read 134 = .ok (.iload_n 3, 1) := by decide +kernel
theorem dX3_read_135 : decode cX3_read 135 = .ok (.iaload, 1) := by decide +kernel
theorem dX3_read_136 : decode cX3_read 136 = .ok (.goto 4, 3) := by decide +kernel
theorem dX3_read_139 : decode cX3_read 139 = .ok (.iconst 0, 1) := by decide +kernel
theorem dX3_read_140 : decode cX3_read 140 = .ok (.istore 5, 2) := by decide +kernel
theorem dX3_read_142 : decode cX3_read 142 = .ok (.iinc 6 1, 3) := by decide +kernel
theorem dX3_read_145 : decode cX3_read 145 = .ok (.goto (-124), 3) := by decide +kernel
theorem dX3_read_148 : decode cX3_read 148 = .ok (.return_, 1) := by decide +kernel
theorem dX3_addLeaf_0 : decode cX3_addLeaf 0 = .ok (.aload_n 0, 1) := by decide +kernel
theorem dX3_addLeaf_1 : decode cX3_addLeaf 1 = .ok (.getfield 34, 3) := by decide +kernel
theorem dX3_addLeaf_4 : decode cX3_addLeaf 4 = .ok (.sipush 400, 3) := by decide +kernel
theorem dX3_addLeaf_7 : decode cX3_addLeaf 7 = .ok (.if_icmp .lt 4, 3) := by decide +kernel
theorem dX3_addLeaf_10 : decode cX3_addLeaf 10 = .ok (.return_, 1) := by decide +kernel
theorem dX3_addLeaf_11 : decode cX3_addLeaf 11 = .ok (.aload_n 0, 1) := by decide +kernel
theorem dX3_addLeaf_12 : decode cX3_addLeaf 12 = .ok (.getfield 15, 3) := by decide +kernel
theorem dX3_addLeaf_15 : decode cX3_addLeaf 15 = .ok (.aload_n 0, 1) := by decide +kernel
theorem dX3_addLeaf_16 : decode cX3_addLeaf 16 = .ok (.getfield 34, 3) := by decide +kernel
theorem dX3_addLeaf_19 : decode cX3_addLeaf 19 = .ok (.iload_n 2, 1) := by decide +kernel
theorem dX3_addLeaf_20 : decode cX3_addLeaf 20 = .ok (.iastore, 1) := by decide +kernel
theorem dX3_addLeaf_21 : decode cX3_addLeaf 21 = .ok (.aload_n 0, 1) := by decide +kernel
theorem dX3_addLeaf_22 : decode cX3_addLeaf 22 = .ok (.getfield 18, 3) := by decide +kernel
theorem dX3_addLeaf_25 : decode cX3_addLeaf 25 = .ok (.aload_n 0, 1) := by decide +kernel
theorem dX3_addLeaf_26 : decode cX3_addLeaf 26 = .ok (.getfield 34, 3) := by decide +kernel
theorem dX3_addLeaf_29 : decode cX3_addLeaf 29 = .ok (.aload_n 0, 1) := by decide +kernel
theorem dX3_addLeaf_30 : decode cX3_addLeaf 30 = .ok (.getfield 30, 3) := by decide +kernel
theorem dX3_addLeaf_33 : decode cX3_addLeaf 33 = .ok (.iastore, 1) := by decide +kernel
theorem dX3_addLeaf_34 : decode cX3_addLeaf 34 = .ok (.aload_n 0, 1) := by decide +kernel
theorem dX3_addLeaf_35 : decode cX3_addLeaf 35 = .ok (.getfield 21, 3) := by decide +kernel
theorem dX3_addLeaf_38 : decode cX3_addLeaf 38 = .ok (.aload_n 0, 1) := by decide +kernel
theorem dX3_addLeaf_39 : decode cX3_addLeaf 39 = .ok (.getfield 34, 3) := by decide +kernel
theorem dX3_addLeaf_42 : decode cX3_addLeaf 42 = .ok (.iload_n 3, 1) := by decide +kernel
theorem dX3_addLeaf_43 : decode cX3_addLeaf 43 = .ok (.iastore, 1) := by decide +kernel
theorem dX3_addLeaf_44 : decode cX3_addLeaf 44 = .ok (.aload_n 0, 1) := by decide +kernel
theorem dX3_addLeaf_45 : decode cX3_addLeaf 45 = .ok (.dup, 1) := by decide +kernel
theorem dX3_addLeaf_46 : decode cX3_addLeaf 46 = .ok (.getfield 34, 3) := by decide +kernel
theorem dX3_addLeaf_49 : decode cX3_addLeaf 49 = .ok (.iconst 1, 1) := by decide +kernel
theorem dX3_addLeaf_50 : decode cX3_addLeaf 50 = .ok (.iadd, 1) := by decide +kernel
theorem dX3_addLeaf_51 : decode cX3_addLeaf 51 = .ok (.putfield 34, 3) := by decide +kernel
theorem dX3_addLeaf_54 : decode cX3_addLeaf 54 = .ok (.aload_n 1, 1) := by decide +kernel
theorem dX3_addLeaf_55 : decode cX3_addLeaf 55 = .ok (.iload_n 2, 1) := by decide +kernel
theorem dX3_addLeaf_56 : decode cX3_addLeaf 56 = .ok (.invokevirtual 54, 3) := by decide +kernel
theorem dX3_addLeaf_59 : decode cX3_addLeaf 59 = .ok (.istore 4, 2) := by decide +kernel
theorem dX3_addLeaf_61 : decode cX3_addLeaf 61 = .ok (.iconst 0, 1) := by decide +kernel
theorem dX3_addLeaf_62 : decode cX3_addLeaf 62 = .ok (.istore 5, 2) := by decide +kernel
theorem dX3_addLeaf_64 : decode cX3_addLeaf 64 = .ok (.iload 5, 2) := by decide +kernel
theorem dX3_addLeaf_66 : decode cX3_addLeaf 66 = .ok (.iload 4, 2) := by decide +kernel
theorem dX3_addLeaf_68 : decode cX3_addLeaf 68 = .ok (.if_icmp .ge 47, 3) := by decide +kernel
theorem dX3_addLeaf_71 : decode cX3_addLeaf 71 = .ok (.aload_n 0, 1) := by decide +kernel
theorem dX3_addLeaf_72 : decode cX3_addLeaf 72 = .ok (.getfield 30, 3) := by decide +kernel
theorem dX3_addLeaf_75 : decode cX3_addLeaf 75 = .ok (.aload_n 0, 1) := by decide +kernel
theorem dX3_addLeaf_76 : decode cX3_addLeaf 76 = .ok (.getfield 9, 3) := by decide +kernel
theorem dX3_addLeaf_79 : decode cX3_addLeaf 79 = .ok (.arraylength, 1) := by decide +kernel
theorem dX3_addLeaf_80 : decode cX3_addLeaf 80 = .ok (.if_icmp .ge 35, 3) := by decide +kernel
theorem dX3_addLeaf_83 : decode cX3_addLeaf 83 = .ok (.aload_n 0, 1) := by decide +kernel
theorem dX3_addLeaf_84 : decode cX3_addLeaf 84 = .ok (.getfield 9, 3) := by decide +kernel
theorem dX3_addLeaf_87 : decode cX3_addLeaf 87 = .ok (.aload_n 0, 1) := by decide +kernel
theorem dX3_addLeaf_88 : decode cX3_addLeaf 88 = .ok (.getfield 30, 3) := by decide +kernel
theorem dX3_addLeaf_91 : decode cX3_addLeaf 91 = .ok (.aload_n 1, 1) := by decide +kernel
theorem dX3_addLeaf_92 : decode cX3_addLeaf 92 = .ok (.iload_n 2, 1) := by decide +kernel
theorem dX3_addLeaf_93 : decode cX3_addLeaf 93 = .ok (.iload 5, 2) := by decide +kernel
theorem dX3_addLeaf_95 : decode cX3_addLeaf 95 = .ok (.invokevirtual 57, 3) := by decide +kernel
theorem dX3_addLeaf_98 : decode cX3_addLeaf 98 = .ok (.iastore, 1) := by decide +kernel
theorem dX3_addLeaf_99 : decode cX3_addLeaf 99 = .ok (.aload_n 0, 1) := by decide +kernel
theorem dX3_addLeaf_100 : decode cX3_addLeaf 100 = .ok (.dup, 1) := by decide +kernel
theorem dX3_addLeaf_101 : decode cX3_addLeaf 101 = .ok (.getfield 30, 3) := by decide +kernel
theorem dX3_addLeaf_104 : decode cX3_addLeaf 104 = .ok (.iconst 1, 1) := by decide +kernel
theorem dX3_addLeaf_105 : decode cX3_addLeaf 105 = .ok (.iadd, 1) := by decide +kernel
theorem dX3_addLeaf_106 : decode cX3_addLeaf 106 = .ok (.putfield 30, 3) := by decide +kernel
theorem dX3_addLeaf_109 : decode cX3_addLeaf 109 = .ok (.iinc 5 1, 3) := by decide +kernel
theorem dX3_addLeaf_112 : decode cX3_addLeaf 112 = .ok (.goto (-48), 3) := by decide +kernel
theorem dX3_addLeaf_115 : decode cX3_addLeaf 115 = .ok (.return_, 1) := by decide +kernel
theorem dX3_startOfLeaf_0 : decode cX3_startOfLeaf 0 = .ok (.iload_n 1, 1) := by decide +kernel
theorem dX3_startOfLeaf_1 : decode cX3_startOfLeaf 1 = .ok (.ifCond .lt 29, 3) := by decide +kernel
theorem dX3_startOfLeaf_4 : decode cX3_startOfLeaf 4 = .ok (.iload_n 1, 1) := by decide +kernel
theorem dX3_startOfLeaf_5 : decode cX3_startOfLeaf 5 = .ok (.aload_n 0, 1) := by decide +kernel
theorem dX3_startOfLeaf_6 : decode cX3_startOfLeaf 6 = .ok (.getfield 34, 3) := by decide +kernel
theorem dX3_startOfLeaf_9 : decode cX3_startOfLeaf 9 = .ok (.if_icmp .ge 21, 3) := by decide +kernel
theorem dX3_startOfLeaf_12 : decode cX3_startOfLeaf 12 = .ok (.iload_n 1, 1) := by decide +kernel
theorem dX3_startOfLeaf_13 : decode cX3_startOfLeaf 13 = .ok (.aload_n 0, 1) := by decide +kernel
theorem dX3_startOfLeaf_14 : decode cX3_startOfLeaf 14 = .ok (.getfield 18, 3) := by decide +kernel
theorem dX3_startOfLeaf_17 : decode cX3_startOfLeaf 17 = .ok (.arraylength, 1) := by decide +kernel
theorem dX3_startOfLeaf_18 : decode cX3_startOfLeaf 18 = .ok (.if_icmp .ge 12, 3) := by decide +kernel
theorem dX3_startOfLeaf_21 : decode cX3_startOfLeaf 21 = .ok (.aload_n 0, 1) := by decide +kernel
theorem dX3_startOfLeaf_22 : decode cX3_startOfLeaf 22 = .ok (.getfield 18, 3) := by decide +kernel
theorem dX3_startOfLeaf_25 : decode cX3_startOfLeaf 25 = .ok (.iload_n 1, 1) := by decide +kernel
theorem dX3_startOfLeaf_26 : decode cX3_startOfLeaf 26 = .ok (.iaload, 1) := by decide +kernel
theorem dX3_startOfLeaf_27 : decode cX3_startOfLeaf 27 = .ok (.goto 7, 3) := by decide +kernel
theorem dX3_startOfLeaf_30 : decode cX3_startOfLeaf 30 = .ok (.aload_n 0, 1) := by decide +kernel
theorem dX3_startOfLeaf_31 : decode cX3_startOfLeaf 31 = .ok (.getfield 30, 3) := by decide +kernel
theorem dX3_startOfLeaf_34 : decode cX3_startOfLeaf 34 = .ok (.ireturn, 1) := by decide +kernel
theorem dX3_sizeOfLeaf_0 : decode cX3_sizeOfLeaf 0 = .ok (.aload_n 0, 1) := by decide +kernel
theorem dX3_sizeOfLeaf_1 : decode cX3_sizeOfLeaf 1 = .ok (.iload_n 1, 1) := by decide +kernel
theorem dX3_sizeOfLeaf_2 : decode cX3_sizeOfLeaf 2 = .ok (.iconst 1, 1) := by decide +kernel
theorem dX3_sizeOfLeaf_3 : decode cX3_sizeOfLeaf 3 = .ok (.iadd, 1) := by decide +kernel
theorem dX3_sizeOfLeaf_4 : decode cX3_sizeOfLeaf 4 = .ok (.invokevirtual 61, 3) := by decide +kernel
theorem dX3_sizeOfLeaf_7 : decode cX3_sizeOfLeaf 7 = .ok (.aload_n 0, 1) := by decide +kernel
theorem dX3_sizeOfLeaf_8 : decode cX3_sizeOfLeaf 8 = .ok (.iload_n 1, 1) := by decide +kernel
theorem dX3_sizeOfLeaf_9 : decode cX3_sizeOfLeaf 9 = .ok (.invokevirtual 61, 3) := by decide +kernel
theorem dX3_sizeOfLeaf_12 : decode cX3_sizeOfLeaf 12 = .ok (.isub, 1) := by decide +kernel
theorem dX3_sizeOfLeaf_13 : decode cX3_sizeOfLeaf 13 = .ok (.ireturn, 1) := by decide +kernel
theorem dX3_levelOfLeaf_0 : decode cX3_levelOfLeaf 0 = .ok (.iload_n 1, 1) := by decide +kernel
theorem dX3_levelOfLeaf_1 : decode cX3_levelOfLeaf 1 = .ok (.ifCond .lt 29, 3) := by decide +kernel
theorem dX3_levelOfLeaf_4 : decode cX3_levelOfLeaf 4 = .ok (.iload_n 1, 1) := by decide +kernel
theorem dX3_levelOfLeaf_5 : decode cX3_levelOfLeaf 5 = .ok (.aload_n 0, 1) := by decide +kernel
theorem dX3_levelOfLeaf_6 : decode cX3_levelOfLeaf 6 = .ok (.getfield 34, 3) := by decide +kernel
theorem dX3_levelOfLeaf_9 : decode cX3_levelOfLeaf 9 = .ok (.if_icmp .ge 21, 3) := by decide +kernel
theorem dX3_levelOfLeaf_12 : decode cX3_levelOfLeaf 12 = .ok (.iload_n 1, 1) := by decide +kernel
theorem dX3_levelOfLeaf_13 : decode cX3_levelOfLeaf 13 = .ok (.aload_n 0, 1) := by decide +kernel
theorem dX3_levelOfLeaf_14 : decode cX3_levelOfLeaf 14 = .ok (.getfield 21, 3) := by decide +kernel
theorem dX3_levelOfLeaf_17 : decode cX3_levelOfLeaf 17 = .ok (.arraylength, 1) := by decide +kernel
theorem dX3_levelOfLeaf_18 : decode cX3_levelOfLeaf 18 = .ok (.if_icmp .ge 12, 3) := by decide +kernel
theorem dX3_levelOfLeaf_21 : decode cX3_levelOfLeaf 21 = .ok (.aload_n 0, 1) := by decide +kernel
theorem dX3_levelOfLeaf_22 : decode cX3_levelOfLeaf 22 = .ok (.getfield 21, 3) := by decide +kernel
theorem dX3_levelOfLeaf_25 : decode cX3_levelOfLeaf 25 = .ok (.iload_n 1, 1) := by decide +kernel
theorem dX3_levelOfLeaf_26 : decode cX3_levelOfLeaf 26 = .ok (.iaload, 1) := by decide +kernel
theorem dX3_levelOfLeaf_27 : decode cX3_levelOfLeaf 27 = .ok (.goto 4, 3) := by decide +kernel
theorem dX3_levelOfLeaf_30 : decode cX3_levelOfLeaf 30 = .ok (.iconst 0, 1) := by decide +kernel
theorem dX3_levelOfLeaf_31 : decode cX3_levelOfLeaf 31 = .ok (.ireturn, 1) := by decide +kernel
theorem dX4_init_0 : decode cX4_init 0 = .ok (.aload_n 0, 1) := by decide +kernel
theorem dX4_init_1 : decode cX4_init 1 = .ok (.invokespecial 3, 3) := by decide +kernel
theorem dX4_init_4 : decode cX4_init 4 = .ok (.aload_n 0, 1) := by decide +kernel
theorem dX4_init_5 : decode cX4_init 5 = .ok (.new 9, 3) := by decide +kernel
theorem dX4_init_8 : decode cX4_init 8 = .ok (.dup, 1) := by decide +kernel
theorem dX4_init_9 : decode cX4_init 9 = .ok (.invokespecial 11, 3) := by decide +kernel
theorem dX4_init_12 : decode cX4_init 12 = .ok (.putfield 12, 3) := by decide +kernel
theorem dX4_init_15 : decode cX4_init 15 = .ok (.aload_n 0, 1) := by decide +kernel
theorem dX4_init_16 : decode cX4_init 16 = .ok (.sipush 400, 3) := by decide +kernel
theorem dX4_init_19 : decode cX4_init 19 = .ok (.newarray .int, 2) := by decide +kernel
theorem dX4_init_21 : decode cX4_init 21 = .ok (.putfield 18, 3) := by decide +kernel
theorem dX4_init_24 : decode cX4_init 24 = .ok (.aload_n 0, 1) := by decide +kernel
theorem dX4_init_25 : decode cX4_init 25 = .ok (.sipush 400, 3) := by decide +kernel
theorem dX4_init_28 : decode cX4_init 28 = .ok (.newarray .boolean, 2) := by decide +kernel
theorem dX4_init_30 : decode cX4_init 30 = .ok (.putfield 22, 3) := by decide +kernel
theorem dX4_init_33 : decode cX4_init 33 = .ok (.aload_n 0, 1) := by decide +kernel
theorem dX4_init_34 : decode cX4_init 34 = .ok (.sipush 400, 3) := by decide +kernel
theorem dX4_init_37 : decode cX4_init 37 = .ok (.newarray .int, 2) := by decide +kernel
theorem dX4_init_39 : decode cX4_init 39 = .ok (.putfield 26, 3) := by decide +kernel
theorem dX4_init_42 : decode cX4_init 42 = .ok (.aload_n 0, 1) := by decide +kernel
theorem dX4_init_43 : decode cX4_init 43 = .ok (.iconst 0, 1) := by decide +kernel
theorem dX4_init_44 : decode cX4_init 44 = .ok (.putfield 29, 3) := by decide +kernel
theorem dX4_init_47 : decode cX4_init 47 = .ok (.aload_n 0, 1) := by decide +kernel
theorem dX4_init_48 : decode cX4_init 48 = .ok (.iconst 0, 1) := by decide +kernel
theorem dX4_init_49 : decode cX4_init 49 = .ok (.putfield 33, 3) := by decide +kernel
theorem dX4_init_52 : decode cX4_init 52 = .ok (.return_, 1) := by decide +kernel
theorem dX4_join_0 : decode cX4_join 0 = .ok (.iload_n 1, 1) := by decide +kernel
theorem dX4_join_1 : decode cX4_join 1 = .ok (.ifCond .ne 5, 3) := by decide +kernel
theorem dX4_join_4 : decode cX4_join 4 = .ok (.iload_n 2, 1) := by decide +kernel
theorem dX4_join_5 : decode cX4_join 5 = .ok (.ireturn, 1) := by decide +kernel
theorem dX4_join_6 : decode cX4_join 6 = .ok (.iload_n 2, 1) := by decide +kernel
theorem dX4_join_7 : decode cX4_join 7 = .ok (.ifCond .ne 5, 3) := by decide +kernel
theorem dX4_join_10 : decode cX4_join 10 = .ok (.iload_n 1, 1) := by decide +kernel
theorem dX4_join_11 : decode cX4_join 11 = .ok (.ireturn, 1) := by decide +kernel
theorem dX4_join_12 : decode cX4_join 12 = .ok (.aload_n 0, 1) := by decide +kernel
theorem dX4_join_13 : decode cX4_join 13 = .ok (.iload_n 1, 1) := by decide +kernel
theorem dX4_join_14 : decode cX4_join 14 = .ok (.iload_n 2, 1) := by decide +kernel
theorem dX4_join_15 : decode cX4_join 15 = .ok (.iload_n 3, 1) := by decide +kernel
theorem dX4_join_16 : decode cX4_join 16 = .ok (.invokevirtual 36, 3) := by decide +kernel
theorem dX4_join_19 : decode cX4_join 19 = .ok (.ifCond .eq 13, 3) := by decide +kernel
theorem dX4_join_22 : decode cX4_join 22 = .ok (.aload_n 0, 1) := by decide +kernel
theorem dX4_join_23 : decode cX4_join 23 = .ok (.getfield 12, 3) := by decide +kernel
theorem dX4_join_26 : decode cX4_join 26 = .ok (.iload_n 1, 1) := by decide +kernel
theorem dX4_join_27 : decode cX4_join 27 = .ok (.iload_n 2, 1) := by decide +kernel
theorem dX4_join_28 : decode cX4_join 28 = .ok (.invokevirtual 40, 3) := by decide +kernel
theorem dX4_join_31 : decode cX4_join 31 = .ok (.ireturn, 1) := by decide +kernel
theorem dX4_join_32 : decode cX4_join 32 = .ok (.aload_n 0, 1) := by decide +kernel
theorem dX4_join_33 : decode cX4_join 33 = .ok (.getfield 12, 3) := by decide +kernel
theorem dX4_join_36 : decode cX4_join 36 = .ok (.iload_n 1, 1) := by decide +kernel
theorem dX4_join_37 : decode cX4_join 37 = .ok (.invokevirtual 44, 3) := by decide +kernel
theorem dX4_join_40 : decode cX4_join 40 = .ok (.istore 4, 2) := by decide +kernel
theorem dX4_join_42 : decode cX4_join 42 = .ok (.aload_n 0, 1) := by decide +kernel
theorem dX4_join_43 : decode cX4_join 43 = .ok (.iload 4, 2) := by decide +kernel
theorem dX4_join_45 : decode cX4_join 45 = .ok (.iload_n 2, 1) := by decide +kernel
theorem dX4_join_46 : decode cX4_join 46 = .ok (.iload_n 3, 1) := by decide +kernel
theorem dX4_join_47 : decode cX4_join 47 = .ok (.invokevirtual 36, 3) := by decide +kernel
theorem dX4_join_50 : decode cX4_join 50 = .ok (.ifCond .eq 29, 3) := by decide +kernel
theorem dX4_join_53 : decode cX4_join 53 = .ok (.aload_n 0, 1) := by decide +kernel
theorem dX4_join_54 : decode cX4_join 54 = .ok (.getfield 12, 3) := by decide +kernel
theorem dX4_join_57 : decode cX4_join 57 = .ok (.aload_n 0, 1) := by decide +kernel
theorem dX4_join_58 : decode cX4_join 58 = .ok (.getfield 12, 3) := by decide +kernel
theorem dX4_join_61 : decode cX4_join 61 = .ok (.iload_n 1, 1) := by decide +kernel
theorem dX4_join_62 : decode cX4_join 62 = .ok (.invokevirtual 48, 3) := by decide +kernel
theorem dX4_join_65 : decode cX4_join 65 = .ok (.aload_n 0, 1) := by decide +kernel
theorem dX4_join_66 : decode cX4_join 66 = .ok (.getfield 12, 3) := by decide +kernel
theorem dX4_join_69 : decode cX4_join 69 = .ok (.iload 4, 2) := by decide +kernel
theorem dX4_join_71 : decode cX4_join 71 = .ok (.iload_n 2, 1) := by decide +kernel
theorem dX4_join_72 : decode cX4_join 72 = .ok (.invokevirtual 40, 3) := by decide +kernel
theorem dX4_join_75 : decode cX4_join 75 = .ok (.invokevirtual 51, 3) := by decide +kernel
theorem dX4_join_78 : decode cX4_join 78 = .ok (.ireturn, 1) := by decide +kernel
theorem dX4_join_79 : decode cX4_join 79 = .ok (.aload_n 0, 1) := by decide +kernel
theorem dX4_join_80 : decode cX4_join 80 = .ok (.getfield 12, 3) := by decide +kernel
theorem dX4_join_83 : decode cX4_join 83 = .ok (.iload_n 2, 1) := by decide +kernel
theorem dX4_join_84 : decode cX4_join 84 = .ok (.invokevirtual 48, 3) := by decide +kernel
theorem dX4_join_87 : decode cX4_join 87 = .ok (.istore 5, 2) := by decide +kernel
theorem dX4_join_89 : decode cX4_join 89 = .ok (.aload_n 0, 1) := by decide +kernel
theorem dX4_join_90 : decode cX4_join 90 = .ok (.iload_n 1, 1) := by decide +kernel
theorem dX4_join_91 : decode cX4_join 91 = .ok (.iload 5, 2) := by decide +kernel
theorem dX4_join_93 : decode cX4_join 93 = .ok (.iload_n 3, 1) := by decide +kernel
theorem dX4_join_94 : decode cX4_join 94 = .ok (.invokevirtual 36, 3) := by decide +kernel
theorem dX4_join_97 : decode cX4_join 97 = .ok (.ifCond .eq 29, 3) := by decide +kernel
theorem dX4_join_100 : decode cX4_join 100 = .ok (.aload_n 0, 1) := by decide +kernel
theorem dX4_join_101 : decode cX4_join 101 = .ok (.getfield 12, 3) := by decide +kernel
theorem dX4_join_104 : decode cX4_join 104 = .ok (.aload_n 0, 1) := by decide +kernel
theorem dX4_join_105 : decode cX4_join 105 = .ok (.getfield 12, 3) := by decide +kernel
theorem dX4_join_108 : decode cX4_join 108 = .ok (.iload_n 1, 1) := by decide +kernel
theorem dX4_join_109 : decode cX4_join 109 = .ok (.iload 5, 2) := by decide +kernel
theorem dX4_join_111 : decode cX4_join 111 = .ok (.invokevirtual 40, 3) := by decide +kernel
theorem dX4_join_114 : decode cX4_join 114 = .ok (.aload_n 0, 1) := by decide +kernel
theorem dX4_join_115 : decode cX4_join 115 = .ok (.getfield 12, 3) := by decide +kernel
theorem dX4_join_118 : decode cX4_join 118 = .ok (.iload_n 2, 1) := by decide +kernel
theorem dX4_join_119 : decode cX4_join 119 = .ok (.invokevirtual 44, 3) := by decide +kernel
theorem dX4_join_122 : decode cX4_join 122 = .ok (.invokevirtual 51, 3) := by decide +kernel
theorem dX4_join_125 : decode cX4_join 125 = .ok (.ireturn, 1) := by decide +kernel
theorem dX4_join_126 : decode cX4_join 126 = .ok (.aload_n 0, 1) := by decide +kernel
theorem dX4_join_127 : decode cX4_join 127 = .ok (.getfield 12, 3) := by decide +kernel
theorem dX4_join_130 : decode cX4_join 130 = .ok (.iload_n 1, 1) := by decide +kernel
theorem dX4_join_131 : decode cX4_join 131 = .ok (.iload_n 2, 1) := by decide +kernel
theorem dX4_join_132 : decode cX4_join 132 = .ok (.invokevirtual 51, 3) := by decide +kernel
theorem dX4_join_135 : decode cX4_join 135 = .ok (.ireturn, 1) := by decide +kernel
theorem dX4_fitInOneLeaf_0 : decode cX4_fitInOneLeaf 0 = .ok (.aload_n 0, 1) := by decide +kernel
theorem dX4_fitInOneLeaf_1 : decode cX4_fitInOneLeaf 1 = .ok (.getfield 12, 3) := by decide +kernel
theorem dX4_fitInOneLeaf_4 : decode cX4_fitInOneLeaf 4 = .ok (.iload_n 1, 1) := by decide +kernel
theorem dX4_fitInOneLeaf_5 : decode cX4_fitInOneLeaf 5 = .ok (.invokevirtual 54, 3) := by decide +kernel
theorem dX4_fitInOneLeaf_8 : decode cX4_fitInOneLeaf 8 = .ok (.ifCond .eq 39, 3) := by decide +kernel
theorem dX4_fitInOneLeaf_11 : decode cX4_fitInOneLeaf 11 = .ok (.aload_n 0, 1) := by decide +kernel
theorem dX4_fitInOneLeaf_12 : decode cX4_fitInOneLeaf 12 = .ok (.getfield 12, 3) := by decide +kernel
theorem dX4_fitInOneLeaf_15 : decode cX4_fitInOneLeaf 15 = .ok (.iload_n 2, 1) := by decide +kernel
theorem dX4_fitInOneLeaf_16 : decode cX4_fitInOneLeaf 16 = .ok (.invokevirtual 54, 3) := by decide +kernel
theorem dX4_fitInOneLeaf_19 : decode cX4_fitInOneLeaf 19 = .ok (.ifCond .eq 28, 3) := by decide +kernel
theorem dX4_fitInOneLeaf_22 : decode cX4_fitInOneLeaf 22 = .ok (.aload_n 0, 1) := by decide +kernel
theorem dX4_fitInOneLeaf_23 : decode cX4_fitInOneLeaf 23 = .ok (.getfield 12, 3) := by decide +kernel
theorem dX4_fitInOneLeaf_26 : decode cX4_fitInOneLeaf 26 = .ok (.iload_n 1, 1) := by decide +kernel
theorem dX4_fitInOneLeaf_27 : decode cX4_fitInOneLeaf 27 = .ok (.invokevirtual 58, 3) := by decide +kernel
theorem dX4_fitInOneLeaf_30 : decode cX4_fitInOneLeaf 30 = .ok (.aload_n 0, 1) := by decide +kernel
theorem dX4_fitInOneLeaf_31 : decode cX4_fitInOneLeaf 31 = .ok (.getfield 12, 3) := by decide +kernel
theorem dX4_fitInOneLeaf_34 : decode cX4_fitInOneLeaf 34 = .ok (.iload_n 2, 1) := by decide +kernel
theorem dX4_fitInOneLeaf_35 : decode cX4_fitInOneLeaf 35 = .ok (.invokevirtual 58, 3) := by decide +kernel
theorem dX4_fitInOneLeaf_38 : decode cX4_fitInOneLeaf 38 = .ok (.iadd, 1) := by decide +kernel
theorem dX4_fitInOneLeaf_39 : decode cX4_fitInOneLeaf 39 = .ok (.iload_n 3, 1) := by decide +kernel
theorem dX4_fitInOneLeaf_40 : decode cX4_fitInOneLeaf 40 = .ok (.if_icmp .gt 7, 3) := by decide +kernel
theorem dX4_fitInOneLeaf_43 : decode cX4_fitInOneLeaf 43 = .ok (.iconst 1, 1) := by decide +kernel
theorem dX4_fitInOneLeaf_44 : decode cX4_fitInOneLeaf 44 = .ok (.goto 4, 3) := by decide +kernel
theorem dX4_fitInOneLeaf_47 : decode cX4_fitInOneLeaf 47 = .ok (.iconst 0, 1) := by decide +kernel
theorem dX4_fitInOneLeaf_48 : decode cX4_fitInOneLeaf 48 = .ok (.ireturn, 1) := by decide +kernel
theorem dX4_split_0 : decode cX4_split 0 = .ok (.iload_n 1, 1) := by decide +kernel
theorem dX4_split_1 : decode cX4_split 1 = .ok (.istore 4, 2) := by decide +kernel
theorem dX4_split_3 : decode cX4_split 3 = .ok (.iload_n 2, 1) := by decide +kernel
theorem dX4_split_4 : decode cX4_split 4 = .ok (.istore 5, 2) := by decide +kernel
theorem dX4_split_6 : decode cX4_split 6 = .ok (.iconst 0, 1) := by decide +kernel
theorem dX4_split_7 : decode cX4_split 7 = .ok (.istore 6, 2) := by decide +kernel
theorem dX4_split_9 : decode cX4_split 9 = .ok (.iload 6, 2) := by decide +kernel
theorem dX4_split_11 : decode cX4_split 11 = .ok (.aload_n 0, 1) := by decide +kernel
theorem dX4_split_12 : decode cX4_split 12 = .ok (.getfield 18, 3) := by decide +kernel
theorem dX4_split_15 : decode cX4_split 15 = .ok (.arraylength, 1) := by decide +kernel
theorem dX4_split_16 : decode cX4_split 16 = .ok (.if_icmp .ge 125, 3) := by decide +kernel
theorem dX4_split_19 : decode cX4_split 19 = .ok (.iload 6, 2) := by decide +kernel
theorem dX4_split_21 : decode cX4_split 21 = .ok (.aload_n 0, 1) := by decide +kernel
theorem dX4_split_22 : decode cX4_split 22 = .ok (.getfield 22, 3) := by decide +kernel
theorem dX4_split_25 : decode cX4_split 25 = .ok (.arraylength, 1) := by decide +kernel
theorem dX4_split_26 : decode cX4_split 26 = .ok (.if_icmp .ge 115, 3) := by decide +kernel
theorem dX4_split_29 : decode cX4_split 29 = .ok (.aload_n 0, 1) := by decide +kernel
theorem dX4_split_30 : decode cX4_split 30 = .ok (.iload 4, 2) := by decide +kernel
theorem dX4_split_32 : decode cX4_split 32 = .ok (.iload 5, 2) := by decide +kernel
theorem dX4_split_34 : decode cX4_split 34 = .ok (.invokevirtual 61, 3) := by decide +kernel
theorem dX4_split_37 : decode cX4_split 37 = .ok (.ifCond .eq 104, 3) := by decide +kernel
theorem dX4_split_40 : decode cX4_split 40 = .ok (.aload_n 0, 1) := by decide +kernel
theorem dX4_split_41 : decode cX4_split 41 = .ok (.getfield 12, 3) := by decide +kernel
theorem dX4_split_44 : decode cX4_split 44 = .ok (.aload_n 0, 1) := by decide +kernel
theorem dX4_split_45 : decode cX4_split 45 = .ok (.getfield 12, 3) := by decide +kernel
theorem dX4_split_48 : decode cX4_split 48 = .ok (.iload 4, 2) := by decide +kernel
theorem dX4_split_50 : decode cX4_split 50 = .ok (.invokevirtual 48, 3) := by decide +kernel
theorem dX4_split_53 : decode cX4_split 53 = .ok (.invokevirtual 58, 3) := by decide +kernel
theorem dX4_split_56 : decode cX4_split 56 = .ok (.istore 7, 2) := by decide +kernel
theorem dX4_split_58 : decode cX4_split 58 = .ok (.aload_n 0, 1) := by decide +kernel
theorem dX4_split_59 : decode cX4_split 59 = .ok (.getfield 18, 3) := by decide +kernel
theorem dX4_split_62 : decode cX4_split 62 = .ok (.iload 6, 2) := by decide +kernel
theorem dX4_split_64 : decode cX4_split 64 = .ok (.iload 4, 2) := by decide +kernel
theorem dX4_split_66 : decode cX4_split 66 = .ok (.iastore, 1) := by decide +kernel
theorem dX4_split_67 : decode cX4_split 67 = .ok (.aload_n 0, 1) := by decide +kernel
theorem dX4_split_68 : decode cX4_split 68 = .ok (.getfield 22, 3) := by decide +kernel
theorem dX4_split_71 : decode cX4_split 71 = .ok (.iload 6, 2) := by decide +kernel
theorem dX4_split_73 : decode cX4_split 73 = .ok (.iload 5, 2) := by decide +kernel
theorem dX4_split_75 : decode cX4_split 75 = .ok (.iload 7, 2) := by decide +kernel
theorem dX4_split_77 : decode cX4_split 77 = .ok (.if_icmp .le 7, 3) := by decide +kernel
theorem dX4_split_80 : decode cX4_split 80 = .ok (.iconst 1, 1) := by decide +kernel
theorem dX4_split_81 : decode cX4_split 81 = .ok (.goto 4, 3) := by decide +kernel
theorem dX4_split_84 : decode cX4_split 84 = .ok (.iconst 0, 1) := by decide +kernel
theorem dX4_split_85 : decode cX4_split 85 = .ok (.bastore, 1) := by decide +kernel
theorem dX4_split_86 : decode cX4_split 86 = .ok (.iload 5, 2) := by decide +kernel
theorem dX4_split_88 : decode cX4_split 88 = .ok (.iload 7, 2) := by decide +kernel
theorem dX4_split_90 : decode cX4_split 90 = .ok (.if_icmp .le 15, 3) := by decide +kernel
theorem dX4_split_93 : decode cX4_split 93 = .ok (.aload_n 0, 1) := by decide +kernel
theorem dX4_split_94 : decode cX4_split 94 = .ok (.getfield 12, 3) := by decide +kernel
theorem dX4_split_97 : decode cX4_split 97 = .ok (.iload 4, 2) := by decide +kernel
theorem dX4_split_99 : decode cX4_split 99 = .ok (.invokevirtual 44, 3) := by decide +kernel
theorem dX4_split_102 : decode cX4_split 102 = .ok (.goto 12, 3) := by decide +kernel
theorem dX4_split_105 : decode cX4_split 105 = .ok (.aload_n 0, 1) := by decide +kernel
theorem dX4_split_106 : decode cX4_split 106 = .ok (.getfield 12, 3) := by decide +kernel
theorem dX4_split_109 : decode cX4_split 109 = .ok (.iload 4, 2) := by decide +kernel
theorem dX4_split_111 : decode cX4_split 111 = .ok (.invokevirtual 48, 3) := by decide +kernel
theorem dX4_split_114 : decode cX4_split 114 = .ok (.istore 4, 2) := by decide +kernel
theorem dX4_split_116 : decode cX4_split 116 = .ok (.iload 5, 2) := by decide +kernel
theorem dX4_split_118 : decode cX4_split 118 = .ok (.iload 7, 2) := by decide +kernel
theorem dX4_split_120 : decode cX4_split 120 = .ok (.if_icmp .le 11, 3) := by decide +kernel
theorem dX4_split_123 : decode cX4_split 123 = .ok (.iload 5, 2) := by decide +kernel
theorem dX4_split_125 : decode cX4_split 125 = .ok (.iload 7, 2) := by decide +kernel
theorem dX4_split_127 : decode cX4_split 127 = .ok (.isub, 1) := by decide +kernel
theorem dX4_split_128 : decode cX4_split 128 = .ok (.goto 5, 3) := by decide +kernel
theorem dX4_split_131 : decode cX4_split 131 = .ok (.iload 5, 2) := by decide +kernel
theorem dX4_split_133 : decode cX4_split 133 = .ok (.istore 5, 2) := by decide +kernel
theorem dX4_split_135 : decode cX4_split 135 = .ok (.iinc 6 1, 3) := by decide +kernel
theorem dX4_split_138 : decode cX4_split 138 = .ok (.goto (-129), 3) := by decide +kernel
theorem dX4_split_141 : decode cX4_split 141 = .ok (.aload_n 0, 1) := by decide +kernel
theorem dX4_split_142 : decode cX4_split 142 = .ok (.iload 4, 2) := by decide +kernel
theorem dX4_split_144 : decode cX4_split 144 = .ok (.iload 5, 2) := by decide +kernel
theorem dX4_split_146 : decode cX4_split 146 = .ok (.invokevirtual 65, 3) := by decide +kernel
theorem dX4_split_149 : decode cX4_split 149 = .ok (.iload 6, 2) := by decide +kernel
theorem dX4_split_151 : decode cX4_split 151 = .ok (.iconst 1, 1) := by decide +kernel
theorem dX4_split_152 : decode cX4_split 152 = .ok (.isub, 1) := by decide +kernel
theorem dX4_split_153 : decode cX4_split 153 = .ok (.istore 7, 2) := by decide +kernel
theorem dX4_split_155 : decode cX4_split 155 = .ok (.iload 7, 2) := by decide +kernel
theorem dX4_split_157 : decode cX4_split 157 = .ok (.ifCond .lt 76, 3) := by decide +kernel
theorem dX4_split_160 : decode cX4_split 160 = .ok (.aload_n 0, 1) := by decide +kernel
theorem dX4_split_161 : decode cX4_split 161 = .ok (.getfield 22, 3) := by decide +kernel
theorem dX4_split_164 : decode cX4_split 164 = .ok (.iload 7, 2) := by decide +kernel
theorem dX4_split_166 : decode cX4_split 166 = .ok (.baload, 1) := by decide +kernel
theorem dX4_split_167 : decode cX4_split 167 = .ok (.ifCond .eq 33, 3) := by decide +kernel
theorem dX4_split_170 : decode cX4_split 170 = .ok (.aload_n 0, 1) := by decide +kernel
theorem dX4_split_171 : decode cX4_split 171 = .ok (.aload_n 0, 1) := by decide +kernel
theorem dX4_split_172 : decode cX4_split 172 = .ok (.aload_n 0, 1) := by decide +kernel
theorem dX4_split_173 : decode cX4_split 173 = .ok (.getfield 12, 3) := by decide +kernel
theorem dX4_split_176 : decode cX4_split 176 = .ok (.aload_n 0, 1) := by decide +kernel
theorem dX4_split_177 : decode cX4_split 177 = .ok (.getfield 18, 3) := by decide +kernel
theorem dX4_split_180 : decode cX4_split 180 = .ok (.iload 7, 2) := by decide +kernel
theorem dX4_split_182 : decode cX4_split 182 = .ok (.iaload, 1) := by decide +kernel
theorem dX4_split_183 : decode cX4_split 183 = .ok (.invokevirtual 48, 3) := by decide +kernel
theorem dX4_split_186 : decode cX4_split 186 = .ok (.aload_n 0, 1) := by decide +kernel
theorem dX4_split_187 : decode cX4_split 187 = .ok (.getfield 29, 3) := by decide +kernel
theorem dX4_split_190 : decode cX4_split 190 = .ok (.iload_n 3, 1) := by decide +kernel
theorem dX4_split_191 : decode cX4_split 191 = .ok (.invokevirtual 69, 3) := by decide +kernel
theorem dX4_split_194 : decode cX4_split 194 = .ok (.putfield 29, 3) := by decide +kernel
theorem dX4_split_197 : decode cX4_split 197 = .ok (.goto 30, 3) := by decide +kernel
theorem dX4_split_200 : decode cX4_split 200 = .ok (.aload_n 0, 1) := by decide +kernel
theorem dX4_split_201 : decode cX4_split 201 = .ok (.aload_n 0, 1) := by decide +kernel
theorem dX4_split_202 : decode cX4_split 202 = .ok (.aload_n 0, 1) := by decide +kernel
theorem dX4_split_203 : decode cX4_split 203 = .ok (.getfield 33, 3) := by decide +kernel
theorem dX4_split_206 : decode cX4_split 206 = .ok (.aload_n 0, 1) := by decide +kernel
theorem dX4_split_207 : decode cX4_split 207 = .ok (.getfield 12, 3) := by decide +kernel
theorem dX4_split_210 : decode cX4_split 210 = .ok (.aload_n 0, 1) := by decide +kernel
theorem dX4_split_211 : decode cX4_split 211 = .ok (.getfield 18, 3) := by decide +kernel
theorem dX4_split_214 : decode cX4_split 214 = .ok (.iload 7, 2) := by decide +kernel
theorem dX4_split_216 : decode cX4_split 216 = .ok (.iaload, 1) := by decide +kernel
theorem dX4_split_217 : decode cX4_split 217 = .ok (.invokevirtual 44, 3) := by decide +kernel
theorem dX4_split_220 : decode cX4_split 220 = .ok (.iload_n 3, 1) := by decide +kernel
theorem dX4_split_221 : decode cX4_split 221 = .ok (.invokevirtual 69, 3) := by decide +kernel
theorem dX4_split_224 : decode cX4_split 224 = .ok (.putfield 33, 3) := by decide +kernel
theorem dX4_split_227 : decode cX4_split 227 = .ok (.iinc 7 (-1), 3) := by decide +kernel
theorem dX4_split_230 : decode cX4_split 230 = .ok (.goto (-75), 3) := by decide +kernel
theorem dX4_split_233 : decode cX4_split 233 = .ok (.return_, 1) := by decide +kernel
theorem dX4_liesInsideAPart_0 : decode cX4_liesInsideAPart 0 = .ok (.aload_n 0, 1) := by decide +kernel
theorem dX4_liesInsideAPart_1 : decode cX4_liesInsideAPart 1 = .ok (.getfield 12, 3) := by decide +kernel
theorem dX4_liesInsideAPart_4 : decode cX4_liesInsideAPart 4 = .ok (.iload_n 1, 1) := by decide +kernel
theorem dX4_liesInsideAPart_5 : decode cX4_liesInsideAPart 5 = .ok (.invokevirtual 73, 3) := by decide +kernel
theorem dX4_liesInsideAPart_8 : decode cX4_liesInsideAPart 8 = .ok (.ifCond .eq 42, 3) := by decide +kernel
theorem dX4_liesInsideAPart_11 : decode cX4_liesInsideAPart 11 = .ok (.iload_n 2, 1) := by decide +kernel
theorem dX4_liesInsideAPart_12 : decode cX4_liesInsideAPart 12 = .ok (.ifCond .le 38, 3) := by decide +kernel
theorem dX4_liesInsideAPart_15 : decode cX4_liesInsideAPart 15 = .ok (.iload_n 2, 1) := by decide +kernel
theorem dX4_liesInsideAPart_16 : decode cX4_liesInsideAPart 16 = .ok (.aload_n 0, 1) := by decide +kernel
theorem dX4_liesInsideAPart_17 : decode cX4_liesInsideAPart 17 = .ok (.getfield 12, 3) := by decide +kernel
theorem dX4_liesInsideAPart_20 : decode cX4_liesInsideAPart 20 = .ok (.iload_n 1, 1) := by decide +kernel
theorem dX4_liesInsideAPart_21 : decode cX4_liesInsideAPart 21 = .ok (.invokevirtual 58, 3) := by decide +kernel
theorem dX4_liesInsideAPart_24 : decode cX4_liesInsideAPart 24 = .ok (.if_icmp .ge 26, 3) := by decide +kernel
theorem dX4_liesInsideAPart_27 : decode cX4_liesInsideAPart 27 = .ok (.iload_n 2, 1) := by decide +kernel
theorem dX4_liesInsideAPart_28 : decode cX4_liesInsideAPart 28 = .ok (.aload_n 0, 1) := by decide +kernel
theorem dX4_liesInsideAPart_29 : decode cX4_liesInsideAPart 29 = .ok (.getfield 12, 3) := by decide +kernel
theorem dX4_liesInsideAPart_32 : decode cX4_liesInsideAPart 32 = .ok (.aload_n 0, 1) := by decide +kernel
theorem dX4_liesInsideAPart_33 : decode cX4_liesInsideAPart 33 = .ok (.getfield 12, 3) := by decide +kernel
theorem dX4_liesInsideAPart_36 : decode cX4_liesInsideAPart 36 = .ok (.iload_n 1, 1) := by decide +kernel
theorem dX4_liesInsideAPart_37 : decode cX4_liesInsideAPart 37 = .ok (.invokevirtual 48, 3) := by decide +kernel
theorem dX4_liesInsideAPart_40 : decode cX4_liesInsideAPart 40 = .ok (.invokevirtual 58, 3) := by decide +kernel
theorem dX4_liesInsideAPart_43 : decode cX4_liesInsideAPart 43 = .ok (.if_icmp .eq 7, 3) := by decide +kernel
theorem dX4_liesInsideAPart_46 : decode cX4_liesInsideAPart 46 = .ok (.iconst 1, 1) := by decide +kernel
theorem dX4_liesInsideAPart_47 : decode cX4_liesInsideAPart 47 = .ok (.goto 4, 3) := by decide +kernel
theorem dX4_liesInsideAPart_50 : decode cX4_liesInsideAPart 50 = .ok (.iconst 0, 1) := by decide +kernel
theorem dX4_liesInsideAPart_51 : decode cX4_liesInsideAPart 51 = .ok (.ireturn, 1) := by decide +kernel
theorem dX4_splitHere_0 : decode cX4_splitHere 0 = .ok (.aload_n 0, 1) := by decide +kernel
theorem dX4_splitHere_1 : decode cX4_splitHere 1 = .ok (.getfield 12, 3) := by decide +kernel
theorem dX4_splitHere_4 : decode cX4_splitHere 4 = .ok (.iload_n 1, 1) := by decide +kernel
theorem dX4_splitHere_5 : decode cX4_splitHere 5 = .ok (.invokevirtual 58, 3) := by decide +kernel
theorem dX4_splitHere_8 : decode cX4_splitHere 8 = .ok (.istore_n 3, 1) := by decide +kernel
theorem dX4_splitHere_9 : decode cX4_splitHere 9 = .ok (.iload_n 2, 1) := by decide +kernel
theorem dX4_splitHere_10 : decode cX4_splitHere 10 = .ok (.ifCond .gt 16, 3) := by decide +kernel
theorem dX4_splitHere_13 : decode cX4_splitHere 13 = .ok (.aload_n 0, 1) := by decide +kernel
theorem dX4_splitHere_14 : decode cX4_splitHere 14 = .ok (.iconst 0, 1) := by decide +kernel
theorem dX4_splitHere_15 : decode cX4_splitHere 15 = .ok (.putfield 29, 3) := by decide +kernel
theorem dX4_splitHere_18 : decode cX4_splitHere 18 = .ok (.aload_n 0, 1) := by decide +kernel
theorem dX4_splitHere_19 : decode cX4_splitHere 19 = .ok (.iload_n 1, 1) := by decide +kernel
theorem dX4_splitHere_20 : decode cX4_splitHere 20 = .ok (.putfield 33, 3) := by decide +kernel
theorem dX4_splitHere_23 : decode cX4_splitHere 23 = .ok (.goto 109, 3) := by decide +kernel
theorem dX4_splitHere_26 : decode cX4_splitHere 26 = .ok (.iload_n 2, 1) := by decide +kernel
theorem dX4_splitHere_27 : decode cX4_splitHere 27 = .ok (.iload_n 3, 1) := by decide +kernel
theorem dX4_splitHere_28 : decode cX4_splitHere 28 = .ok (.if_icmp .lt 16, 3) := by decide +kernel
theorem dX4_splitHere_31 : decode cX4_splitHere 31 = .ok (.aload_n 0, 1) := by decide +kernel
theorem dX4_splitHere_32 : decode cX4_splitHere 32 = .ok (.iload_n 1, 1) := by decide +kernel
theorem dX4_splitHere_33 : decode cX4_splitHere 33 = .ok (.putfield 29, 3) := by decide +kernel
theorem dX4_splitHere_36 : decode cX4_splitHere 36 = .ok (.aload_n 0, 1) := by decide +kernel
theorem dX4_splitHere_37 : decode cX4_splitHere 37 = .ok (.iconst 0, 1) := by decide +kernel
theorem dX4_splitHere_38 : decode cX4_splitHere 38 = .ok (.putfield 33, 3) := by decide +kernel
theorem dX4_splitHere_41 : decode cX4_splitHere 41 = .ok (.goto 91, 3) := by decide +kernel
theorem dX4_splitHere_44 : decode cX4_splitHere 44 = .ok (.aload_n 0, 1) := by decide +kernel
theorem dX4_splitHere_45 : decode cX4_splitHere 45 = .ok (.getfield 12, 3) := by decide +kernel
theorem dX4_splitHere_48 : decode cX4_splitHere 48 = .ok (.iload_n 1, 1) := by decide +kernel
theorem dX4_splitHere_49 : decode cX4_splitHere 49 = .ok (.invokevirtual 73, 3) := by decide +kernel
theorem dX4_splitHere_52 : decode cX4_splitHere 52 = .ok (.ifCond .eq 30, 3) := by decide +kernel
theorem dX4_splitHere_55 : decode cX4_splitHere 55 = .ok (.aload_n 0, 1) := by decide +kernel
theorem dX4_splitHere_56 : decode cX4_splitHere 56 = .ok (.aload_n 0, 1) := by decide +kernel
theorem dX4_splitHere_57 : decode cX4_splitHere 57 = .ok (.getfield 12, 3) := by decide +kernel
theorem dX4_splitHere_60 : decode cX4_splitHere 60 = .ok (.iload_n 1, 1) := by decide +kernel
theorem dX4_splitHere_61 : decode cX4_splitHere 61 = .ok (.invokevirtual 48, 3) := by decide +kernel
theorem dX4_splitHere_64 : decode cX4_splitHere 64 = .ok (.putfield 29, 3) := by decide +kernel
theorem dX4_splitHere_67 : decode cX4_splitHere 67 = .ok (.aload_n 0, 1) := by decide +kernel
theorem dX4_splitHere_68 : decode cX4_splitHere 68 = .ok (.aload_n 0, 1) := by decide +kernel
theorem dX4_splitHere_69 : decode cX4_splitHere 69 = .ok (.getfield 12, 3) := by decide +kernel
theorem dX4_splitHere_72 : decode cX4_splitHere 72 = .ok (.iload_n 1, 1) := by decide +kernel
theorem dX4_splitHere_73 : decode cX4_splitHere 73 = .ok (.invokevirtual 44, 3) := by decide +kernel
theorem dX4_splitHere_76 : decode cX4_splitHere 76 = .ok (.putfield 33, 3) := by decide +kernel
theorem dX4_splitHere_79 : decode cX4_splitHere 79 = .ok (.goto 53, 3) := by decide +kernel
theorem dX4_splitHere_82 : decode cX4_splitHere 82 = .ok (.aload_n 0, 1) := by decide +kernel
theorem dX4_splitHere_83 : decode cX4_splitHere 83 = .ok (.aload_n 0, 1) := by decide +kernel
theorem dX4_splitHere_84 : decode cX4_splitHere 84 = .ok (.getfield 12, 3) := by decide +kernel
theorem dX4_splitHere_87 : decode cX4_splitHere 87 = .ok (.invokevirtual 76, 3) := by decide +kernel
theorem dX4_splitHere_90 : decode cX4_splitHere 90 = .ok (.putfield 29, 3) := by decide +kernel
theorem dX4_splitHere_93 : decode cX4_splitHere 93 = .ok (.aload_n 0, 1) := by decide +kernel
theorem dX4_splitHere_94 : decode cX4_splitHere 94 = .ok (.getfield 12, 3) := by decide +kernel
theorem dX4_splitHere_97 : decode cX4_splitHere 97 = .ok (.aload_n 0, 1) := by decide +kernel
theorem dX4_splitHere_98 : decode cX4_splitHere 98 = .ok (.getfield 29, 3) := by decide +kernel
theorem dX4_splitHere_101 : decode cX4_splitHere 101 = .ok (.iload_n 1, 1) := by decide +kernel
theorem dX4_splitHere_102 : decode cX4_splitHere 102 = .ok (.iconst 0, 1) := by decide +kernel
theorem dX4_splitHere_103 : decode cX4_splitHere 103 = .ok (.iload_n 2, 1) := by decide +kernel
theorem dX4_splitHere_104 : decode cX4_splitHere 104 = .ok (.invokevirtual 80, 3) := by decide +kernel
theorem dX4_splitHere_107 : decode cX4_splitHere 107 = .ok (.aload_n 0, 1) := by decide +kernel
theorem dX4_splitHere_108 : decode cX4_splitHere 108 = .ok (.aload_n 0, 1) := by decide +kernel
theorem dX4_splitHere_109 : decode cX4_splitHere 109 = .ok (.getfield 12, 3) := by decide +kernel
theorem dX4_splitHere_112 : decode cX4_splitHere 112 = .ok (.invokevirtual 76, 3) := by decide +kernel
theorem dX4_splitHere_115 : decode cX4_splitHere 115 = .ok (.putfield 33, 3) := by decide +kernel
theorem dX4_splitHere_118 : decode cX4_splitHere 118 = .ok (.aload_n 0, 1) := by decide +kernel
theorem dX4_splitHere_119 : decode cX4_splitHere 119 = .ok (.getfield 12, 3) := by decide +kernel
theorem dX4_splitHere_122 : decode cX4_splitHere 122 = .ok (.aload_n 0, 1) := by decide +kernel
theorem dX4_splitHere_123 : decode cX4_splitHere 123 = .ok (.getfield 33, 3) := by decide +kernel
theorem dX4_splitHere_126 : decode cX4_splitHere 126 = .ok (.iload_n 1, 1) := by decide +kernel
theorem dX4_splitHere_127 : decode cX4_splitHere 127 = .ok (.iload_n 2, 1) := by decide +kernel
theorem dX4_splitHere_128 : decode cX4_splitHere 128 = .ok (.iload_n 3, 1) := by decide +kernel
theorem dX4_splitHere_129 : decode cX4_splitHere 129 = .ok (.invokevirtual 80, 3) := by decide +kernel
theorem dX4_splitHere_132 : decode cX4_splitHere 132 = .ok (.return_, 1) := by decide +kernel
theorem dX4_ropeOfCodes_0 : decode cX4_ropeOfCodes 0 = .ok (.iconst 0, 1) := by decide +kernel
theorem dX4_ropeOfCodes_1 : decode cX4_ropeOfCodes 1 = .ok (.istore 4, 2) := by decide +kernel
theorem dX4_ropeOfCodes_3 : decode cX4_ropeOfCodes 3 = .ok (.iconst 0, 1) := by decide +kernel
theorem dX4_ropeOfCodes_4 : decode cX4_ropeOfCodes 4 = .ok (.istore 5, 2) := by decide +kernel
theorem dX4_ropeOfCodes_6 : decode cX4_ropeOfCodes 6 = .ok (.iconst 0, 1) := by decide +kernel
theorem dX4_ropeOfCodes_7 : decode cX4_ropeOfCodes 7 = .ok (.istore 6, 2) := by decide +kernel
theorem dX4_ropeOfCodes_9 : decode cX4_ropeOfCodes 9 = .ok (.iload 6, 2) := by decide +kernel
theorem dX4_ropeOfCodes_11 : decode cX4_ropeOfCodes 11 = .ok (.iload_n 2, 1) := by decide +kernel
theorem dX4_ropeOfCodes_12 : decode cX4_ropeOfCodes 12 = .ok (.if_icmp .ge 78, 3) := by decide +kernel
theorem dX4_ropeOfCodes_15 : decode cX4_ropeOfCodes 15 = .ok (.iload 6, 2) := by decide +kernel
theorem dX4_ropeOfCodes_17 : decode cX4_ropeOfCodes 17 = .ok (.aload_n 1, 1) := by decide +kernel
theorem dX4_ropeOfCodes_18 : decode cX4_ropeOfCodes 18 = .ok (.arraylength, 1) := by decide +kernel
theorem dX4_ropeOfCodes_19 : decode cX4_ropeOfCodes 19 = .ok (.if_icmp .ge 71, 3) := by decide +kernel
theorem dX4_ropeOfCodes_22 : decode cX4_ropeOfCodes 22 = .ok (.iload 4, 2) := by decide +kernel
theorem dX4_ropeOfCodes_24 : decode cX4_ropeOfCodes 24 = .ok (.aload_n 0, 1) := by decide +kernel
theorem dX4_ropeOfCodes_25 : decode cX4_ropeOfCodes 25 = .ok (.getfield 26, 3) := by decide +kernel
theorem dX4_ropeOfCodes_28 : decode cX4_ropeOfCodes 28 = .ok (.arraylength, 1) := by decide +kernel
theorem dX4_ropeOfCodes_29 : decode cX4_ropeOfCodes 29 = .ok (.if_icmp .ge 42, 3) := by decide +kernel
theorem dX4_ropeOfCodes_32 : decode cX4_ropeOfCodes 32 = .ok (.iload 5, 2) := by decide +kernel
theorem dX4_ropeOfCodes_34 : decode cX4_ropeOfCodes 34 = .ok (.ifCond .eq 16, 3) := by decide +kernel
theorem dX4_ropeOfCodes_37 : decode cX4_ropeOfCodes 37 = .ok (.aload_n 0, 1) := by decide +kernel
theorem dX4_ropeOfCodes_38 : decode cX4_ropeOfCodes 38 = .ok (.getfield 12, 3) := by decide +kernel
theorem dX4_ropeOfCodes_41 : decode cX4_ropeOfCodes 41 = .ok (.iload 5, 2) := by decide +kernel
theorem dX4_ropeOfCodes_43 : decode cX4_ropeOfCodes 43 = .ok (.invokevirtual 58, 3) := by decide +kernel
theorem dX4_ropeOfCodes_46 : decode cX4_ropeOfCodes 46 = .ok (.iload_n 3, 1) := by decide +kernel
theorem dX4_ropeOfCodes_47 : decode cX4_ropeOfCodes 47 = .ok (.if_icmp .lt 24, 3) := by decide +kernel
theorem dX4_ropeOfCodes_50 : decode cX4_ropeOfCodes 50 = .ok (.aload_n 0, 1) := by decide +kernel
theorem dX4_ropeOfCodes_51 : decode cX4_ropeOfCodes 51 = .ok (.getfield 12, 3) := by decide +kernel
theorem dX4_ropeOfCodes_54 : decode cX4_ropeOfCodes 54 = .ok (.invokevirtual 76, 3) := by decide +kernel
theorem dX4_ropeOfCodes_57 : decode cX4_ropeOfCodes 57 = .ok (.istore 5, 2) := by decide +kernel
theorem dX4_ropeOfCodes_59 : decode cX4_ropeOfCodes 59 = .ok (.aload_n 0, 1) := by decide +kernel
theorem dX4_ropeOfCodes_60 : decode cX4_ropeOfCodes 60 = .ok (.getfield 26, 3) := by decide +kernel
theorem dX4_ropeOfCodes_63 : decode cX4_ropeOfCodes 63 = .ok (.iload 4, 2) := by decide +kernel
theorem dX4_ropeOfCodes_65 : decode cX4_ropeOfCodes 65 = .ok (.iload 5, 2) := by decide +kernel
theorem dX4_ropeOfCodes_67 : decode cX4_ropeOfCodes 67 = .ok (.iastore, 1) := by decide +kernel
theorem dX4_ropeOfCodes_68 : decode cX4_ropeOfCodes 68 = .ok (.iinc 4 1, 3) := by decide +kernel
theorem dX4_ropeOfCodes_71 : decode cX4_ropeOfCodes 71 = .ok (.aload_n 0, 1) := by decide +kernel
theorem dX4_ropeOfCodes_72 : decode cX4_ropeOfCodes 72 = .ok (.getfield 12, 3) := by decide +kernel
theorem dX4_ropeOfCodes_75 : decode cX4_ropeOfCodes 75 = .ok (.iload 5, 2) := by decide +kernel
theorem dX4_ropeOfCodes_77 : decode cX4_ropeOfCodes 77 = .ok (.aload_n 1, 1) := by decide +kernel
theorem dX4_ropeOfCodes_78 : decode cX4_ropeOfCodes 78 = .ok (.iload 6, 2) := by decide +kernel
theorem dX4_ropeOfCodes_80 : decode cX4_ropeOfCodes 80 = .ok (.iaload, 1) := by decide +kernel
theorem dX4_ropeOfCodes_81 : decode cX4_ropeOfCodes 81 = .ok (.invokevirtual 84, 3) := by decide +kernel
theorem dX4_ropeOfCodes_84 : decode cX4_ropeOfCodes 84 = .ok (.iinc 6 1, 3) := by decide +kernel
theorem dX4_ropeOfCodes_87 : decode cX4_ropeOfCodes 87 = .ok (.goto (-78), 3) := by decide +kernel
theorem dX4_ropeOfCodes_90 : decode cX4_ropeOfCodes 90 = .ok (.aload_n 0, 1) := by decide +kernel
theorem dX4_ropeOfCodes_91 : decode cX4_ropeOfCodes 91 = .ok (.aload_n 0, 1) := by decide +kernel
theorem dX4_ropeOfCodes_92 : decode cX4_ropeOfCodes 92 = .ok (.getfield 26, 3) := by decide +kernel
theorem dX4_ropeOfCodes_95 : decode cX4_ropeOfCodes 95 = .ok (.iload 4, 2) := by decide +kernel
theorem dX4_ropeOfCodes_97 : decode cX4_ropeOfCodes 97 = .ok (.invokevirtual 87, 3) := by decide +kernel
theorem dX4_ropeOfCodes_100 : decode cX4_ropeOfCodes 100 = .ok (.ireturn, 1) := by decide +kernel
theorem dX4_ropeOfLeaves_0 : decode cX4_ropeOfLeaves 0 = .ok (.aload_n 0, 1) := by decide +kernel
theorem dX4_ropeOfLeaves_1 : decode cX4_ropeOfLeaves 1 = .ok (.getfield 12, 3) := by decide +kernel
theorem dX4_ropeOfLeaves_4 : decode cX4_ropeOfLeaves 4 = .ok (.aload_n 1, 1) := by decide +kernel
theorem dX4_ropeOfLeaves_5 : decode cX4_ropeOfLeaves 5 = .ok (.iconst 0, 1) := by decide +kernel
theorem dX4_ropeOfLeaves_6 : decode cX4_ropeOfLeaves 6 = .ok (.iload_n 2, 1) := by decide +kernel
theorem dX4_ropeOfLeaves_7 : decode cX4_ropeOfLeaves 7 = .ok (.iconst 0, 1) := by decide +kernel
theorem dX4_ropeOfLeaves_8 : decode cX4_ropeOfLeaves 8 = .ok (.invokestatic 91, 3) := by decide +kernel
theorem dX4_ropeOfLeaves_11 : decode cX4_ropeOfLeaves 11 = .ok (.ireturn, 1) := by decide +kernel
theorem dX4_built_0 : decode cX4_built 0 = .ok (.iload_n 3, 1) := by decide +kernel
theorem dX4_built_1 : decode cX4_built 1 = .ok (.ifCond .le 20, 3) := by decide +kernel
theorem dX4_built_4 : decode cX4_built 4 = .ok (.iload 4, 2) := by decide +kernel
theorem dX4_built_6 : decode cX4_built 6 = .ok (.bipush 20, 2) := by decide +kernel
theorem dX4_built_8 : decode cX4_built 8 = .ok (.if_icmp .gt 13, 3) := by decide +kernel
theorem dX4_built_11 : decode cX4_built 11 = .ok (.iload_n 2, 1) := by decide +kernel
theorem dX4_built_12 : decode cX4_built 12 = .ok (.ifCond .lt 9, 3) := by decide +kernel
theorem dX4_built_15 : decode cX4_built 15 = .ok (.iload_n 2, 1) := by decide +kernel
theorem dX4_built_16 : decode cX4_built 16 = .ok (.aload_n 1, 1) := by decide +kernel
theorem dX4_built_17 : decode cX4_built 17 = .ok (.arraylength, 1) := by decide +kernel
theorem dX4_built_18 : decode cX4_built 18 = .ok (.if_icmp .lt 5, 3) := by decide +kernel
theorem dX4_built_21 : decode cX4_built 21 = .ok (.iconst 0, 1) := by decide +kernel
theorem dX4_built_22 : decode cX4_built 22 = .ok (.ireturn, 1) := by decide +kernel
theorem dX4_built_23 : decode cX4_built 23 = .ok (.iload_n 3, 1) := by decide +kernel
theorem dX4_built_24 : decode cX4_built 24 = .ok (.iconst 1, 1) := by decide +kernel
theorem dX4_built_25 : decode cX4_built 25 = .ok (.if_icmp .ne 7, 3) := by decide +kernel
theorem dX4_built_28 : decode cX4_built 28 = .ok (.aload_n 1, 1) := by decide +kernel
theorem dX4_built_29 : decode cX4_built 29 = .ok (.iload_n 2, 1) := by decide +kernel
theorem dX4_built_30 : decode cX4_built 30 = .ok (.iaload, 1) := by decide +kernel
theorem dX4_built_31 : decode cX4_built 31 = .ok (.ireturn, 1) := by decide +kernel
theorem dX4_built_32 : decode cX4_built 32 = .ok (.iload_n 3, 1) := by decide +kernel
theorem dX4_built_33 : decode cX4_built 33 = .ok (.iconst 1, 1) := by decide +kernel
theorem dX4_built_34 : decode cX4_built 34 = .ok (.iadd, 1) := by decide +kernel
theorem dX4_built_35 : decode cX4_built 35 = .ok (.iconst 2, 1) := by decide +kernel
theorem dX4_built_36 : decode cX4_built 36 = .ok (.idiv, 1) := by decide +kernel
theorem dX4_built_37 : decode cX4_built 37 = .ok (.istore 5, 2) := by decide +kernel
theorem dX4_built_39 : decode cX4_built 39 = .ok (.aload_n 0, 1) := by decide +kernel
theorem dX4_built_40 : decode cX4_built 40 = .ok (.aload_n 1, 1) := by decide +kernel
theorem dX4_built_41 : decode cX4_built 41 = .ok (.iload_n 2, 1) := by decide +kernel
theorem dX4_built_42 : decode cX4_built 42 = .ok (.iload 5, 2) := by decide +kernel
theorem dX4_built_44 : decode cX4_built 44 = .ok (.iload 4, 2) := by decide +kernel
theorem dX4_built_46 : decode cX4_built 46 = .ok (.iconst 1, 1) := by decide +kernel
theorem dX4_built_47 : decode cX4_built 47 = .ok (.iadd, 1) := by decide +kernel
theorem dX4_built_48 : decode cX4_built 48 = .ok (.invokestatic 91, 3) := by decide +kernel
theorem dX4_built_51 : decode cX4_built 51 = .ok (.istore 6, 2) := by decide +kernel
theorem dX4_built_53 : decode cX4_built 53 = .ok (.aload_n 0, 1) := by decide +kernel
theorem dX4_built_54 : decode cX4_built 54 = .ok (.aload_n 1, 1) := by decide +kernel
theorem dX4_built_55 : decode cX4_built 55 = .ok (.iload_n 2, 1) := by decide +kernel
theorem dX4_built_56 : decode cX4_built 56 = .ok (.iload 5, 2) := by decide +kernel
theorem dX4_built_58 : decode cX4_built 58 = .ok (.iadd, 1) := by decide +kernel
theorem dX4_built_59 : decode cX4_built 59 = .ok (.iload_n 3, 1) := by decide +kernel
theorem dX4_built_60 : decode cX4_built 60 = .ok (.iload 5, 2) := by decide +kernel
theorem dX4_built_62 : decode cX4_built 62 = .ok (.isub, 1) := by decide +kernel
theorem dX4_built_63 : decode cX4_built 63 = .ok (.iload 4, 2) := by decide +kernel
theorem dX4_built_65 : decode cX4_built 65 = .ok (.iconst 1, 1) := by decide +kernel
theorem dX4_built_66 : decode cX4_built 66 = .ok (.iadd, 1) := by decide +kernel
theorem dX4_built_67 : decode cX4_built 67 = .ok (.invokestatic 91, 3) := by decide +kernel
theorem dX4_built_70 : decode cX4_built 70 = .ok (.istore 7, 2) := by decide +kernel
theorem dX4_built_72 : decode cX4_built 72 = .ok (.aload_n 0, 1) := by decide +kernel
theorem dX4_built_73 : decode cX4_built 73 = .ok (.iload 6, 2) := by decide +kernel
theorem dX4_built_75 : decode cX4_built 75 = .ok (.iload 7, 2) := by decide +kernel
theorem dX4_built_77 : decode cX4_built 77 = .ok (.invokevirtual 51, 3) := by decide +kernel
theorem dX4_built_80 : decode cX4_built 80 = .ok (.ireturn, 1) := by decide +kernel
theorem dX4_hasBalance_0 : decode cX4_hasBalance 0 = .ok (.aload_n 0, 1) := by decide +kernel
theorem dX4_hasBalance_1 : decode cX4_hasBalance 1 = .ok (.getfield 12, 3) := by decide +kernel
theorem dX4_hasBalance_4 : decode cX4_hasBalance 4 = .ok (.iload_n 1, 1) := by decide +kernel
theorem dX4_hasBalance_5 : decode cX4_hasBalance 5 = .ok (.invokevirtual 58, 3) := by decide +kernel
theorem dX4_hasBalance_8 : decode cX4_hasBalance 8 = .ok (.istore_n 2, 1) := by decide +kernel
theorem dX4_hasBalance_9 : decode cX4_hasBalance 9 = .ok (.iconst 1, 1) := by decide +kernel
theorem dX4_hasBalance_10 : decode cX4_hasBalance 10 = .ok (.istore_n 3, 1) := by decide +kernel
theorem dX4_hasBalance_11 : decode cX4_hasBalance 11 = .ok (.iconst 2, 1) := by decide +kernel
theorem dX4_hasBalance_12 : decode cX4_hasBalance 12 = .ok (.istore 4, 2) := by decide +kernel
theorem dX4_hasBalance_14 : decode cX4_hasBalance 14 = .ok (.iconst 0, 1) := by decide +kernel
theorem dX4_hasBalance_15 : decode cX4_hasBalance 15 = .ok (.istore 5, 2) := by decide +kernel
theorem dX4_hasBalance_17 : decode cX4_hasBalance 17 = .ok (.iload 5, 2) := by decide +kernel
theorem dX4_hasBalance_19 : decode cX4_hasBalance 19 = .ok (.aload_n 0, 1) := by decide +kernel
theorem dX4_hasBalance_20 : decode cX4_hasBalance 20 = .ok (.getfield 12, 3) := by decide +kernel
theorem dX4_hasBalance_23 : decode cX4_hasBalance 23 = .ok (.iload_n 1, 1) := by decide +kernel
theorem dX4_hasBalance_24 : decode cX4_hasBalance 24 = .ok (.invokevirtual 95, 3) := by decide +kernel
theorem dX4_hasBalance_27 : decode cX4_hasBalance 27 = .ok (.if_icmp .ge 29, 3) := by decide +kernel
theorem dX4_hasBalance_30 : decode cX4_hasBalance 30 = .ok (.iload_n 3, 1) := by decide +kernel
theorem dX4_hasBalance_31 : decode cX4_hasBalance 31 = .ok (.sipush 400, 3) := by decide +kernel
theorem dX4_hasBalance_34 : decode cX4_hasBalance 34 = .ok (.if_icmp .gt 22, 3) := by decide +kernel
theorem dX4_hasBalance_37 : decode cX4_hasBalance 37 = .ok (.iload_n 3, 1) := by decide +kernel
theorem dX4_hasBalance_38 : decode cX4_hasBalance 38 = .ok (.iload 4, 2) := by decide +kernel
theorem dX4_hasBalance_40 : decode cX4_hasBalance 40 = .ok (.iadd, 1) := by decide +kernel
theorem dX4_hasBalance_41 : decode cX4_hasBalance 41 = .ok (.istore 6, 2) := by decide +kernel
theorem dX4_hasBalance_43 : decode cX4_hasBalance 43 = .ok (.iload 4, 2) := by decide +kernel
theorem dX4_hasBalance_45 : decode cX4_hasBalance 45 = .ok (.istore_n 3, 1) := by decide +kernel
theorem dX4_hasBalance_46 : decode cX4_hasBalance 46 = .ok (.iload 6, 2) := by decide +kernel
theorem dX4_hasBalance_48 : decode cX4_hasBalance 48 = .ok (.istore 4, 2) := by decide +kernel
theorem dX4_hasBalance_50 : decode cX4_hasBalance 50 = .ok (.iinc 5 1, 3) := by decide +kernel
theorem dX4_hasBalance_53 : decode cX4_hasBalance 53 = .ok (.goto (-36), 3) := by decide +kernel
theorem dX4_hasBalance_56 : decode cX4_hasBalance 56 = .ok (.iload_n 2, 1) := by decide +kernel
theorem dX4_hasBalance_57 : decode cX4_hasBalance 57 = .ok (.ifCond .eq 8, 3) := by decide +kernel
theorem dX4_hasBalance_60 : decode cX4_hasBalance 60 = .ok (.iload_n 2, 1) := by decide +kernel
theorem dX4_hasBalance_61 : decode cX4_hasBalance 61 = .ok (.iload_n 3, 1) := by decide +kernel
theorem dX4_hasBalance_62 : decode cX4_hasBalance 62 = .ok (.if_icmp .lt 7, 3) := by decide +kernel
theorem dX4_hasBalance_65 : decode cX4_hasBalance 65 = .ok (.iconst 1, 1) := by decide +kernel
theorem dX4_hasBalance_66 : decode cX4_hasBalance 66 = .ok (.goto 4, 3) := by decide +kernel
theorem dX4_hasBalance_69 : decode cX4_hasBalance 69 = .ok (.iconst 0, 1) := by decide +kernel
theorem dX4_hasBalance_70 : decode cX4_hasBalance 70 = .ok (.ireturn, 1) := by decide +kernel
theorem dX4_codeAt_0 : decode cX4_codeAt 0 = .ok (.iload_n 1, 1) := by decide +kernel
theorem dX4_codeAt_1 : decode cX4_codeAt 1 = .ok (.istore_n 3, 1) := by decide +kernel
theorem dX4_codeAt_2 : decode cX4_codeAt 2 = .ok (.iload_n 2, 1) := by decide +kernel
theorem dX4_codeAt_3 : decode cX4_codeAt 3 = .ok (.istore 4, 2) := by decide +kernel
theorem dX4_codeAt_5 : decode cX4_codeAt 5 = .ok (.iconst 0, 1) := by decide +kernel
theorem dX4_codeAt_6 : decode cX4_codeAt 6 = .ok (.istore 5, 2) := by decide +kernel
theorem dX4_codeAt_8 : decode cX4_codeAt 8 = .ok (.iload 5, 2) := by decide +kernel
theorem dX4_codeAt_10 : decode cX4_codeAt 10 = .ok (.sipush 400, 3) := by decide +kernel
theorem dX4_codeAt_13 : decode cX4_codeAt 13 = .ok (.if_icmp .ge 83, 3) := by decide +kernel
theorem dX4_codeAt_16 : decode cX4_codeAt 16 = .ok (.aload_n 0, 1) := by decide +kernel
theorem dX4_codeAt_17 : decode cX4_codeAt 17 = .ok (.getfield 12, 3) := by decide +kernel
theorem dX4_codeAt_20 : decode cX4_codeAt 20 = .ok (.iload_n 3, 1) := by decide +kernel
theorem dX4_codeAt_21 : decode cX4_codeAt 21 = .ok (.invokevirtual 73, 3) := by decide +kernel
theorem dX4_codeAt_24 : decode cX4_codeAt 24 = .ok (.ifCond .eq 72, 3) := by decide +kernel
theorem dX4_codeAt_27 : decode cX4_codeAt 27 = .ok (.aload_n 0, 1) := by decide +kernel
theorem dX4_codeAt_28 : decode cX4_codeAt 28 = .ok (.getfield 12, 3) := by decide +kernel
theorem dX4_codeAt_31 : decode cX4_codeAt 31 = .ok (.aload_n 0, 1) := by decide +kernel
theorem dX4_codeAt_32 : decode cX4_codeAt 32 = .ok (.getfield 12, 3) := by decide +kernel
theorem dX4_codeAt_35 : decode cX4_codeAt 35 = .ok (.iload_n 3, 1) := by decide +kernel
theorem dX4_codeAt_36 : decode cX4_codeAt 36 = .ok (.invokevirtual 48, 3) := by decide +kernel
theorem dX4_codeAt_39 : decode cX4_codeAt 39 = .ok (.invokevirtual 58, 3) := by decide +kernel
theorem dX4_codeAt_42 : decode cX4_codeAt 42 = .ok (.istore 6, 2) := by decide +kernel
theorem dX4_codeAt_44 : decode cX4_codeAt 44 = .ok (.iload 4, 2) := by decide +kernel
theorem dX4_codeAt_46 : decode cX4_codeAt 46 = .ok (.iload 6, 2) := by decide +kernel
theorem dX4_codeAt_48 : decode cX4_codeAt 48 = .ok (.if_icmp .ge 14, 3) := by decide +kernel
theorem dX4_codeAt_51 : decode cX4_codeAt 51 = .ok (.aload_n 0, 1) := by decide +kernel
theorem dX4_codeAt_52 : decode cX4_codeAt 52 = .ok (.getfield 12, 3) := by decide +kernel
theorem dX4_codeAt_55 : decode cX4_codeAt 55 = .ok (.iload_n 3, 1) := by decide +kernel
theorem dX4_codeAt_56 : decode cX4_codeAt 56 = .ok (.invokevirtual 48, 3) := by decide +kernel
theorem dX4_codeAt_59 : decode cX4_codeAt 59 = .ok (.goto 11, 3) := by decide +kernel
theorem dX4_codeAt_62 : decode cX4_codeAt 62 = .ok (.aload_n 0, 1) := by decide +kernel
theorem dX4_codeAt_63 : decode cX4_codeAt 63 = .ok (.getfield 12, 3) := by decide +kernel
theorem dX4_codeAt_66 : decode cX4_codeAt 66 = .ok (.iload_n 3, 1) := by decide +kernel
theorem dX4_codeAt_67 : decode cX4_codeAt 67 = .ok (.invokevirtual 44, 3) := by decide +kernel
theorem dX4_codeAt_70 : decode cX4_codeAt 70 = .ok (.istore_n 3, 1) := by decide +kernel
theorem dX4_codeAt_71 : decode cX4_codeAt 71 = .ok (.iload 4, 2) := by decide +kernel
theorem dX4_codeAt_73 : decode cX4_codeAt 73 = .ok (.iload 6, 2) := by decide +kernel
theorem dX4_codeAt_75 : decode cX4_codeAt 75 = .ok (.if_icmp .ge 8, 3) := by decide +kernel
theorem dX4_codeAt_78 : decode cX4_codeAt 78 = .ok (.iload 4, 2) := by decide +kernel
theorem dX4_codeAt_80 : decode cX4_codeAt 80 = .ok (.goto 8, 3) := by decide +kernel
theorem dX4_codeAt_83 : decode cX4_codeAt 83 = .ok (.iload 4, 2) := by decide +kernel
theorem dX4_codeAt_85 : decode cX4_codeAt 85 = .ok (.iload 6, 2) := by decide +kernel
theorem dX4_codeAt_87 : decode cX4_codeAt 87 = .ok (.isub, 1) := by decide +kernel
theorem dX4_codeAt_88 : decode cX4_codeAt 88 = .ok (.istore 4, 2) := by decide +kernel
theorem dX4_codeAt_90 : decode cX4_codeAt 90 = .ok (.iinc 5 1, 3) := by decide +kernel
theorem dX4_codeAt_93 : decode cX4_codeAt 93 = .ok (.goto (-85), 3) := by decide +kernel
theorem dX4_codeAt_96 : decode cX4_codeAt 96 = .ok (.aload_n 0, 1) := by decide +kernel
theorem dX4_codeAt_97 : decode cX4_codeAt 97 = .ok (.getfield 12, 3) := by decide +kernel
theorem dX4_codeAt_100 : decode cX4_codeAt 100 = .ok (.iload_n 3, 1) := by decide +kernel
theorem dX4_codeAt_101 : decode cX4_codeAt 101 = .ok (.iload 4, 2) := by decide +kernel
theorem dX4_codeAt_103 : decode cX4_codeAt 103 = .ok (.invokevirtual 98, 3) := by decide +kernel
theorem dX4_codeAt_106 : decode cX4_codeAt 106 = .ok (.ireturn, 1) := by decide +kernel
theorem dX4_wayTo_0 : decode cX4_wayTo 0 = .ok (.iload_n 1, 1) := by decide +kernel
theorem dX4_wayTo_1 : decode cX4_wayTo 1 = .ok (.istore_n 3, 1) := by decide +kernel
theorem dX4_wayTo_2 : decode cX4_wayTo 2 = .ok (.iload_n 2, 1) := by decide +kernel
theorem dX4_wayTo_3 : decode cX4_wayTo 3 = .ok (.istore 4, 2) := by decide +kernel
theorem dX4_wayTo_5 : decode cX4_wayTo 5 = .ok (.lconst 1, 1) := by decide +kernel
theorem dX4_wayTo_6 : decode cX4_wayTo 6 = .ok (.lstore 5, 2) := by decide +kernel
theorem dX4_wayTo_8 : decode cX4_wayTo 8 = .ok (.iconst 0, 1) := by decide +kernel
theorem dX4_wayTo_9 : decode cX4_wayTo 9 = .ok (.istore 7, 2) := by decide +kernel
theorem dX4_wayTo_11 : decode cX4_wayTo 11 = .ok (.iload 7, 2) := by decide +kernel
theorem dX4_wayTo_13 : decode cX4_wayTo 13 = .ok (.sipush 400, 3) := by decide +kernel
theorem dX4_wayTo_16 : decode cX4_wayTo 16 = .ok (.if_icmp .ge 109, 3) := by decide +kernel
theorem dX4_wayTo_19 : decode cX4_wayTo 19 = .ok (.aload_n 0, 1) := by decide +kernel
theorem dX4_wayTo_20 : decode cX4_wayTo 20 = .ok (.getfield 12, 3) := by decide +kernel
theorem dX4_wayTo_23 : decode cX4_wayTo 23 = .ok (.iload_n 3, 1) := by decide +kernel
theorem dX4_wayTo_24 : decode cX4_wayTo 24 = .ok (.invokevirtual 73, 3) := by decide +kernel
theorem dX4_wayTo_27 : decode cX4_wayTo 27 = .ok (.ifCond .eq 98, 3) := by decide +kernel
theorem dX4_wayTo_30 : decode cX4_wayTo 30 = .ok (.aload_n 0, 1) := by decide +kernel
theorem dX4_wayTo_31 : decode cX4_wayTo 31 = .ok (.getfield 12, 3) := by decide +kernel
theorem dX4_wayTo_34 : decode cX4_wayTo 34 = .ok (.aload_n 0, 1) := by decide +kernel
theorem dX4_wayTo_35 : decode cX4_wayTo 35 = .ok (.getfield 12, 3) := by decide +kernel
theorem dX4_wayTo_38 : decode cX4_wayTo 38 = .ok (.iload_n 3, 1) := by decide +kernel
theorem dX4_wayTo_39 : decode cX4_wayTo 39 = .ok (.invokevirtual 48, 3) := by decide +kernel
theorem dX4_wayTo_42 : decode cX4_wayTo 42 = .ok (.invokevirtual 58, 3) := by decide +kernel
theorem dX4_wayTo_45 : decode cX4_wayTo 45 = .ok (.istore 8, 2) := by decide +kernel
theorem dX4_wayTo_47 : decode cX4_wayTo 47 = .ok (.ldc2_w 101, 3) := by decide +kernel
theorem dX4_wayTo_50 : decode cX4_wayTo 50 = .ok (.lload 5, 2) := by decide +kernel
theorem dX4_wayTo_52 : decode cX4_wayTo 52 = .ok (.lmul, 1) := by decide +kernel
theorem dX4_wayTo_53 : decode cX4_wayTo 53 = .ok (.iload 4, 2) := by decide +kernel
theorem dX4_wayTo_55 : decode cX4_wayTo 55 = .ok (.iload 8, 2) := by decide +kernel
theorem dX4_wayTo_57 : decode cX4_wayTo 57 = .ok (.if_icmp .ge 7, 3) := by decide +kernel
theorem dX4_wayTo_60 : decode cX4_wayTo 60 = .ok (.iconst 0, 1) := by decide +kernel
theorem dX4_wayTo_61 : decode cX4_wayTo 61 = .ok (.goto 4, 3) := by decide +kernel
theorem dX4_wayTo_64 : decode cX4_wayTo 64 = .ok (.iconst 1, 1) := by decide +kernel
theorem dX4_wayTo_65 : decode cX4_wayTo 65 = .ok (.i2l, 1) := by decide +kernel
theorem dX4_wayTo_66 : decode cX4_wayTo 66 = .ok (.ladd, 1) := by decide +kernel
theorem dX4_wayTo_67 : decode cX4_wayTo 67 = .ok (.ldc2_w 103, 3) := by decide +kernel
theorem dX4_wayTo_70 : decode cX4_wayTo 70 = .ok (.lrem, 1) := by decide +kernel
theorem dX4_wayTo_71 : decode cX4_wayTo 71 = .ok (.lstore 5, 2) := by decide +kernel
theorem dX4_wayTo_73 : decode cX4_wayTo 73 = .ok (.iload 4, 2) := by decide +kernel
theorem dX4_wayTo_75 : decode cX4_wayTo 75 = .ok (.iload 8, 2) := by decide +kernel
theorem dX4_wayTo_77 : decode cX4_wayTo 77 = .ok (.if_icmp .ge 14, 3) := by decide +kernel
theorem dX4_wayTo_80 : decode cX4_wayTo 80 = .ok (.aload_n 0, 1) := by decide +kernel
theorem dX4_wayTo_81 : decode cX4_wayTo 81 = .ok (.getfield 12, 3) := by decide +kernel
theorem dX4_wayTo_84 : decode cX4_wayTo 84 = .ok (.iload_n 3, 1) := by decide +kernel
theorem dX4_wayTo_85 : decode cX4_wayTo 85 = .ok (.invokevirtual 48, 3) := by decide +kernel
theorem dX4_wayTo_88 : decode cX4_wayTo 88 = .ok (.goto 11, 3) := by decide +kernel
theorem dX4_wayTo_91 : decode cX4_wayTo 91 = .ok (.aload_n 0, 1) := by decide +kernel
theorem dX4_wayTo_92 : decode cX4_wayTo 92 = .ok (.getfield 12, 3) := by decide +kernel
theorem dX4_wayTo_95 : decode cX4_wayTo 95 = .ok (.iload_n 3, 1) := by decide +kernel
theorem dX4_wayTo_96 : decode cX4_wayTo 96 = .ok (.invokevirtual 44, 3) := by decide +kernel
theorem dX4_wayTo_99 : decode cX4_wayTo 99 = .ok (.istore_n 3, 1) := by decide +kernel
theorem dX4_wayTo_100 : decode cX4_wayTo 100 = .ok (.iload 4, 2) := by decide +kernel
theorem dX4_wayTo_102 : decode cX4_wayTo 102 = .ok (.iload 8, 2) := by decide +kernel
theorem dX4_wayTo_104 : decode cX4_wayTo 104 = .ok (.if_icmp .ge 8, 3) := by decide +kernel
theorem dX4_wayTo_107 : decode cX4_wayTo 107 = .ok (.iload 4, 2) := by decide +kernel
theorem dX4_wayTo_109 : decode cX4_wayTo 109 = .ok (.goto 8, 3) := by decide +kernel
theorem dX4_wayTo_112 : decode cX4_wayTo 112 = .ok (.iload 4, 2) := by decide +kernel
theorem dX4_wayTo_114 : decode cX4_wayTo 114 = .ok (.iload 8, 2) := by decide +kernel
theorem dX4_wayTo_116 : decode cX4_wayTo 116 = .ok (.isub, 1) := by decide +kernel
theorem dX4_wayTo_117 : decode cX4_wayTo 117 = .ok (.istore 4, 2) := by decide +kernel
theorem dX4_wayTo_119 : decode cX4_wayTo 119 = .ok (.iinc 7 1, 3) := by decide +kernel
theorem dX4_wayTo_122 : decode cX4_wayTo 122 = .ok (.goto (-111), 3) := by decide +kernel
theorem dX4_wayTo_125 : decode cX4_wayTo 125 = .ok (.lload 5, 2) := by decide +kernel
theorem dX4_wayTo_127 : decode cX4_wayTo 127 = .ok (.l2i, 1) := by decide +kernel
theorem dX4_wayTo_128 : decode cX4_wayTo 128 = .ok (.ireturn, 1) := by decide +kernel
theorem dX5_init_0 : decode cX5_init 0 = .ok (.aload_n 0, 1) := by decide +kernel
theorem dX5_init_1 : decode cX5_init 1 = .ok (.invokespecial 3, 3) := by decide +kernel
theorem dX5_init_4 : decode cX5_init 4 = .ok (.aload_n 0, 1) := by decide +kernel
theorem dX5_init_5 : decode cX5_init 5 = .ok (.new 9, 3) := by decide +kernel
theorem dX5_init_8 : decode cX5_init 8 = .ok (.dup, 1) := by decide +kernel
theorem dX5_init_9 : decode cX5_init 9 = .ok (.invokespecial 11, 3) := by decide +kernel
theorem dX5_init_12 : decode cX5_init 12 = .ok (.putfield 12, 3) := by decide +kernel
theorem dX5_init_15 : decode cX5_init 15 = .ok (.aload_n 0, 1) := by decide +kernel
theorem dX5_init_16 : decode cX5_init 16 = .ok (.aload_n 0, 1) := by decide +kernel
theorem dX5_init_17 : decode cX5_init 17 = .ok (.getfield 12, 3) := by decide +kernel
theorem dX5_init_20 : decode cX5_init 20 = .ok (.getfield 16, 3) := by decide +kernel
theorem dX5_init_23 : decode cX5_init 23 = .ok (.putfield 20, 3) := by decide +kernel
theorem dX5_init_26 : decode cX5_init 26 = .ok (.aload_n 0, 1) := by decide +kernel
theorem dX5_init_27 : decode cX5_init 27 = .ok (.new 21, 3) := by decide +kernel
theorem dX5_init_30 : decode cX5_init 30 = .ok (.dup, 1) := by decide +kernel
theorem dX5_init_31 : decode cX5_init 31 = .ok (.invokespecial 23, 3) := by decide +kernel
theorem dX5_init_34 : decode cX5_init 34 = .ok (.putfield 24, 3) := by decide +kernel
theorem dX5_init_37 : decode cX5_init 37 = .ok (.aload_n 0, 1) := by decide +kernel
theorem dX5_init_38 : decode cX5_init 38 = .ok (.new 21, 3) := by decide +kernel
theorem dX5_init_41 : decode cX5_init 41 = .ok (.dup, 1) := by decide +kernel
theorem dX5_init_42 : decode cX5_init 42 = .ok (.invokespecial 23, 3) := by decide +kernel
theorem dX5_init_45 : decode cX5_init 45 = .ok (.putfield 28, 3) := by decide +kernel
theorem dX5_init_48 : decode cX5_init 48 = .ok (.aload_n 0, 1) := by decide +kernel
