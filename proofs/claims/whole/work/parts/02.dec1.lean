theorem dX4_ropeOfLeaves_11 : decode cX4_ropeOfLeaves 11 = .ok (.ireturn, 1) := by decide +kernel
theorem dX4_built_0 : decode cX4_built 0 = .ok (.iload_n 3, 1) := by decide +kernel
theorem dX4_built_1 : decode cX4_built 1 = .ok (.ifCond .le 20, 3) := by decide +kernel
theorem dX4_built_4 : decode cX4_built 4 = .ok (.iload 4, 2) := by decide +kernel
theorem dX4_built_6 : decode cX4_built 6 = .ok (.bipush 20, 2) := by decide +kernel
theorem dX4_built_8 : decode cX4_built 8 = .ok (.if_icmp .gt 13, 3) := by decide +kernel
theorem dX4_built_11 : decode cX4_built 11 = .ok (.iload_n 2, 1) := by decide +kernel
theorem dX4_built_12 : decode cX4_built 12 = .ok (.ifCond .lt 9, 3) := by decide +kernel
theorem dX4_built_15 : decode cX4_built 15 = .ok (.iload_n 2, 1) := by decide +kernel
theorem dX4_built_16 : decode cX4_built 16 = .ok (.aload_n 1, 1) := by decide +kernel
theorem dX4_built_17 : decode cX4_built 17 = .ok (.arraylength, 1) := by decide +kernel
theorem dX4_built_18 : decode cX4_built 18 = .ok (.if_icmp .lt 5, 3) := by decide +kernel
theorem dX4_built_21 : decode cX4_built 21 = .ok (.iconst 0, 1) := by decide +kernel
theorem dX4_built_22 : decode cX4_built 22 = .ok (.ireturn, 1) := by decide +kernel
theorem dX4_built_23 : decode cX4_built 23 = .ok (.iload_n 3, 1) := by decide +kernel
theorem dX4_built_24 : decode cX4_built 24 = .ok (.iconst 1, 1) := by decide +kernel
theorem dX4_built_25 : decode cX4_built 25 = .ok (.if_icmp .ne 7, 3) := by decide +kernel
theorem dX4_built_28 : decode cX4_built 28 = .ok (.aload_n 1, 1) := by decide +kernel
theorem dX4_built_29 : decode cX4_built 29 = .ok (.iload_n 2, 1) := by decide +kernel
theorem dX4_built_30 : decode cX4_built 30 = .ok (.iaload, 1) := by decide +kernel
theorem dX4_built_31 : decode cX4_built 31 = .ok (.ireturn, 1) := by decide +kernel
theorem dX4_built_32 : decode cX4_built 32 = .ok (.iload_n 3, 1) := by decide +kernel
theorem dX4_built_33 : decode cX4_built 33 = .ok (.iconst 1, 1) := by decide +kernel
theorem dX4_built_34 : decode cX4_built 34 = .ok (.iadd, 1) := by decide +kernel
theorem dX4_built_35 : decode cX4_built 35 = .ok (.iconst 2, 1) := by decide +kernel
theorem dX4_built_36 : decode cX4_built 36 = .ok (.idiv, 1) := by decide +kernel
theorem dX4_built_37 : decode cX4_built 37 = .ok (.istore 5, 2) := by decide +kernel
theorem dX4_built_39 : decode cX4_built 39 = .ok (.aload_n 0, 1) := by decide +kernel
theorem dX4_built_40 : decode cX4_built 40 = .ok (.aload_n 1, 1) := by decide +kernel
theorem dX4_built_41 : decode cX4_built 41 = .ok (.iload_n 2, 1) := by decide +kernel
theorem dX4_built_42 : decode cX4_built 42 = .ok (.iload 5, 2) := by decide +kernel
theorem dX4_built_44 : decode cX4_built 44 = .ok (.iload 4, 2) := by decide +kernel
theorem dX4_built_46 : decode cX4_built 46 = .ok (.iconst 1, 1) := by decide +kernel
theorem dX4_built_47 : decode cX4_built 47 = .ok (.iadd, 1) := by decide +kernel
theorem dX4_built_48 : decode cX4_built 48 = .ok (.invokestatic 91, 3) := by decide +kernel
theorem dX4_built_51 : decode cX4_built 51 = .ok (.istore 6, 2) := by decide +kernel
theorem dX4_built_53 : decode cX4_built 53 = .ok (.aload_n 0, 1) := by decide +kernel
theorem dX4_built_54 : decode cX4_built 54 = .ok (.aload_n 1, 1) := by decide +kernel
theorem dX4_built_55 : decode cX4_built 55 = .ok (.iload_n 2, 1) := by decide +kernel
theorem dX4_built_56 : decode cX4_built 56 = .ok (.iload 5, 2) := by decide +kernel
theorem dX4_built_58 : decode cX4_built 58 = .ok (.iadd, 1) := by decide +kernel
theorem dX4_built_59 : decode cX4_built 59 = .ok (.iload_n 3, 1) := by decide +kernel
theorem dX4_built_60 : decode cX4_built 60 = .ok (.iload 5, 2) := by decide +kernel
theorem dX4_built_62 : decode cX4_built 62 = .ok (.isub, 1) := by decide +kernel
theorem dX4_built_63 : decode cX4_built 63 = .ok (.iload 4, 2) := by decide +kernel
theorem dX4_built_65 : decode cX4_built 65 = .ok (.iconst 1, 1) := by decide +kernel
theorem dX4_built_66 : decode cX4_built 66 = .ok (.iadd, 1) := by decide +kernel
theorem dX4_built_67 : decode cX4_built 67 = .ok (.invokestatic 91, 3) := by decide +kernel
theorem dX4_built_70 : decode cX4_built 70 = .ok (.istore 7, 2) := by decide +kernel
theorem dX4_built_72 : decode cX4_built 72 = .ok (.aload_n 0, 1) := by decide +kernel
theorem dX4_built_73 : decode cX4_built 73 = .ok (.iload 6, 2) := by decide +kernel
theorem dX4_built_75 : decode cX4_built 75 = .ok (.iload 7, 2) := by decide +kernel
theorem dX4_built_77 : decode cX4_built 77 = .ok (.invokevirtual 51, 3) := by decide +kernel
theorem dX4_built_80 : decode cX4_built 80 = .ok (.ireturn, 1) := by decide +kernel
theorem dX4_hasBalance_0 : decode cX4_hasBalance 0 = .ok (.aload_n 0, 1) := by decide +kernel
theorem dX4_hasBalance_1 : decode cX4_hasBalance 1 = .ok (.getfield 12, 3) := by decide +kernel
theorem dX4_hasBalance_4 : decode cX4_hasBalance 4 = .ok (.iload_n 1, 1) := by decide +kernel
theorem dX4_hasBalance_5 : decode cX4_hasBalance 5 = .ok (.invokevirtual 58, 3) := by decide +kernel
theorem dX4_hasBalance_8 : decode cX4_hasBalance 8 = .ok (.istore_n 2, 1) := by decide +kernel
theorem dX4_hasBalance_9 : decode cX4_hasBalance 9 = .ok (.iconst 1, 1) := by decide +kernel
theorem dX4_hasBalance_10 : decode cX4_hasBalance 10 = .ok (.istore_n 3, 1) := by decide +kernel
theorem dX4_hasBalance_11 : decode cX4_hasBalance 11 = .ok (.iconst 2, 1) := by decide +kernel
theorem dX4_hasBalance_12 : decode cX4_hasBalance 12 = .ok (.istore 4, 2) := by decide +kernel
theorem dX4_hasBalance_14 : decode cX4_hasBalance 14 = .ok (.iconst 0, 1) := by decide +kernel
theorem dX4_hasBalance_15 : decode cX4_hasBalance 15 = .ok (.istore 5, 2) := by decide +kernel
theorem dX4_hasBalance_17 : decode cX4_hasBalance 17 = .ok (.iload 5, 2) := by decide +kernel
theorem dX4_hasBalance_19 : decode cX4_hasBalance 19 = .ok (.aload_n 0, 1) := by decide +kernel
theorem dX4_hasBalance_20 : decode cX4_hasBalance 20 = .ok (.getfield 12, 3) := by decide +kernel
theorem dX4_hasBalance_23 : decode cX4_hasBalance 23 = .ok (.iload_n 1, 1) := by decide +kernel
theorem dX4_hasBalance_24 : decode cX4_hasBalance 24 = .ok (.invokevirtual 95, 3) := by decide +kernel
theorem dX4_hasBalance_27 : decode cX4_hasBalance 27 = .ok (.if_icmp .ge 29, 3) := by decide +kernel
theorem dX4_hasBalance_30 : decode cX4_hasBalance 30 = .ok (.iload_n 3, 1) := by decide +kernel
theorem dX4_hasBalance_31 : decode cX4_hasBalance 31 = .ok (.sipush 400, 3) := by decide +kernel
theorem dX4_hasBalance_34 : decode cX4_hasBalance 34 = .ok (.if_icmp .gt 22, 3) := by decide +kernel
theorem dX4_hasBalance_37 : decode cX4_hasBalance 37 = .ok (.iload_n 3, 1) := by decide +kernel
theorem dX4_hasBalance_38 : decode cX4_hasBalance 38 = .ok (.iload 4, 2) := by decide +kernel
theorem dX4_hasBalance_40 : decode cX4_hasBalance 40 = .ok (.iadd, 1) := by decide +kernel
theorem dX4_hasBalance_41 : decode cX4_hasBalance 41 = .ok (.istore 6, 2) := by decide +kernel
theorem dX4_hasBalance_43 : decode cX4_hasBalance 43 = .ok (.iload 4, 2) := by decide +kernel
theorem dX4_hasBalance_45 : decode cX4_hasBalance 45 = .ok (.istore_n 3, 1) := by decide +kernel
theorem dX4_hasBalance_46 : decode cX4_hasBalance 46 = .ok (.iload 6, 2) := by decide +kernel
theorem dX4_hasBalance_48 : decode cX4_hasBalance 48 = .ok (.istore 4, 2) := by decide +kernel
theorem dX4_hasBalance_50 : decode cX4_hasBalance 50 = .ok (.iinc 5 1, 3) := by decide +kernel
theorem dX4_hasBalance_53 : decode cX4_hasBalance 53 = .ok (.goto (-36), 3) := by decide +kernel
theorem dX4_hasBalance_56 : decode cX4_hasBalance 56 = .ok (.iload_n 2, 1) := by decide +kernel
theorem dX4_hasBalance_57 : decode cX4_hasBalance 57 = .ok (.ifCond .eq 8, 3) := by decide +kernel
theorem dX4_hasBalance_60 : decode cX4_hasBalance 60 = .ok (.iload_n 2, 1) := by decide +kernel
theorem dX4_hasBalance_61 : decode cX4_hasBalance 61 = .ok (.iload_n 3, 1) := by decide +kernel
theorem dX4_hasBalance_62 : decode cX4_hasBalance 62 = .ok (.if_icmp .lt 7, 3) := by decide +kernel
theorem dX4_hasBalance_65 : decode cX4_hasBalance 65 = .ok (.iconst 1, 1) := by decide +kernel
theorem dX4_hasBalance_66 : decode cX4_hasBalance 66 = .ok (.goto 4, 3) := by decide +kernel
theorem dX4_hasBalance_69 : decode cX4_hasBalance 69 = .ok (.iconst 0, 1) := by decide +kernel
theorem dX4_hasBalance_70 : decode cX4_hasBalance 70 = .ok (.ireturn, 1) := by decide +kernel
theorem dX4_codeAt_0 : decode cX4_codeAt 0 = .ok (.iload_n 1, 1) := by decide +kernel
theorem dX4_codeAt_1 : decode cX4_codeAt 1 = .ok (.istore_n 3, 1) := by decide +kernel
theorem dX4_codeAt_2 : decode cX4_codeAt 2 = .ok (.iload_n 2, 1) := by decide +kernel
theorem dX4_codeAt_3 : decode cX4_codeAt 3 = .ok (.istore 4, 2) := by decide +kernel
theorem dX4_codeAt_5 : decode cX4_codeAt 5 = .ok (.iconst 0, 1) := by decide +kernel
theorem dX4_codeAt_6 : decode cX4_codeAt 6 = .ok (.istore 5, 2) := by decide +kernel
theorem dX4_codeAt_8 : decode cX4_codeAt 8 = .ok (.iload 5, 2) := by decide +kernel
theorem dX4_codeAt_10 : decode cX4_codeAt 10 = .ok (.sipush 400, 3) := by decide +kernel
theorem dX4_codeAt_13 : decode cX4_codeAt 13 = .ok (.if_icmp .ge 83, 3) := by decide +kernel
theorem dX4_codeAt_16 : decode cX4_codeAt 16 = .ok (.aload_n 0, 1) := by decide +kernel
theorem dX4_codeAt_17 : decode cX4_codeAt 17 = .ok (.getfield 12, 3) := by decide +kernel
theorem dX4_codeAt_20 : decode cX4_codeAt 20 = .ok (.iload_n 3, 1) := by decide +kernel
theorem dX4_codeAt_21 : decode cX4_codeAt 21 = .ok (.invokevirtual 73, 3) := by decide +kernel
theorem dX4_codeAt_24 : decode cX4_codeAt 24 = .ok (.ifCond .eq 72, 3) := by decide +kernel
theorem dX4_codeAt_27 : decode cX4_codeAt 27 = .ok (.aload_n 0, 1) := by decide +kernel
theorem dX4_codeAt_28 : decode cX4_codeAt 28 = .ok (.getfield 12, 3) := by decide +kernel
theorem dX4_codeAt_31 : decode cX4_codeAt 31 = .ok (.aload_n 0, 1) := by decide +kernel
theorem dX4_codeAt_32 : decode cX4_codeAt 32 = .ok (.getfield 12, 3) := by decide +kernel
theorem dX4_codeAt_35 : decode cX4_codeAt 35 = .ok (.iload_n 3, 1) := by decide +kernel
theorem dX4_codeAt_36 : decode cX4_codeAt 36 = .ok (.invokevirtual 48, 3) := by decide +kernel
theorem dX4_codeAt_39 : decode cX4_codeAt 39 = .ok (.invokevirtual 58, 3) := by decide +kernel
theorem dX4_codeAt_42 : decode cX4_codeAt 42 = .ok (.istore 6, 2) := by decide +kernel
theorem dX4_codeAt_44 : decode cX4_codeAt 44 = .ok (.iload 4, 2) := by decide +kernel
theorem dX4_codeAt_46 : decode cX4_codeAt 46 = .ok (.iload 6, 2) := by decide +kernel
theorem dX4_codeAt_48 : decode cX4_codeAt 48 = .ok (.if_icmp .ge 14, 3) := by decide +kernel
theorem dX4_codeAt_51 : decode cX4_codeAt 51 = .ok (.aload_n 0, 1) := by decide +kernel
theorem dX4_codeAt_52 : decode cX4_codeAt 52 = .ok (.getfield 12, 3) := by decide +kernel
theorem dX4_codeAt_55 : decode cX4_codeAt 55 = .ok (.iload_n 3, 1) := by decide +kernel
theorem dX4_codeAt_56 : decode cX4_codeAt 56 = .ok (.invokevirtual 48, 3) := by decide +kernel
theorem dX4_codeAt_59 : decode cX4_codeAt 59 = .ok (.goto 11, 3) := by decide +kernel
theorem dX4_codeAt_62 : decode cX4_codeAt 62 = .ok (.aload_n 0, 1) := by decide +kernel
theorem dX4_codeAt_63 : decode cX4_codeAt 63 = .ok (.getfield 12, 3) := by decide +kernel
theorem dX4_codeAt_66 : decode cX4_codeAt 66 = .ok (.iload_n 3, 1) := by decide +kernel
theorem dX4_codeAt_67 : decode cX4_codeAt 67 = .ok (.invokevirtual 44, 3) := by decide +kernel
theorem dX4_codeAt_70 : decode cX4_codeAt 70 = .ok (.istore_n 3, 1) := by decide +kernel
theorem dX4_codeAt_71 : decode cX4_codeAt 71 = .ok (.iload 4, 2) := by decide +kernel
theorem dX4_codeAt_73 : decode cX4_codeAt 73 = .ok (.iload 6, 2) := by decide +kernel
theorem dX4_codeAt_75 : decode cX4_codeAt 75 = .ok (.if_icmp .ge 8, 3) := by decide +kernel
theorem dX4_codeAt_78 : decode cX4_codeAt 78 = .ok (.iload 4, 2) := by decide +kernel
theorem dX4_codeAt_80 : decode cX4_codeAt 80 = .ok (.goto 8, 3) := by decide +kernel
theorem dX4_codeAt_83 : decode cX4_codeAt 83 = .ok (.iload 4, 2) := by decide +kernel
theorem dX4_codeAt_85 : decode cX4_codeAt 85 = .ok (.iload 6, 2) := by decide +kernel
theorem dX4_codeAt_87 : decode cX4_codeAt 87 = .ok (.isub, 1) := by decide +kernel
theorem dX4_codeAt_88 : decode cX4_codeAt 88 = .ok (.istore 4, 2) := by decide +kernel
theorem dX4_codeAt_90 : decode cX4_codeAt 90 = .ok (.iinc 5 1, 3) := by decide +kernel
theorem dX4_codeAt_93 : decode cX4_codeAt 93 = .ok (.goto (-85), 3) := by decide +kernel
theorem dX4_codeAt_96 : decode cX4_codeAt 96 = .ok (.aload_n 0, 1) := by decide +kernel
theorem dX4_codeAt_97 : decode cX4_codeAt 97 = .ok (.getfield 12, 3) := by decide +kernel
theorem dX4_codeAt_100 : decode cX4_codeAt 100 = .ok (.iload_n 3, 1) := by decide +kernel
theorem dX4_codeAt_101 : decode cX4_codeAt 101 = .ok (.iload 4, 2) := by decide +kernel
theorem dX4_codeAt_103 : decode cX4_codeAt 103 = .ok (.invokevirtual 98, 3) := by decide +kernel
theorem dX4_codeAt_106 : decode cX4_codeAt 106 = .ok (.ireturn, 1) := by decide +kernel
theorem dX4_wayTo_0 : decode cX4_wayTo 0 = .ok (.iload_n 1, 1) := by decide +kernel
theorem dX4_wayTo_1 : decode cX4_wayTo 1 = .ok (.istore_n 3, 1) := by decide +kernel
theorem dX4_wayTo_2 : decode cX4_wayTo 2 = .ok (.iload_n 2, 1) := by decide +kernel
theorem dX4_wayTo_3 : decode cX4_wayTo 3 = .ok (.istore 4, 2) := by decide +kernel
theorem dX4_wayTo_5 : decode cX4_wayTo 5 = .ok (.lconst 1, 1) := by decide +kernel
theorem dX4_wayTo_6 : decode cX4_wayTo 6 = .ok (.lstore 5, 2) := by decide +kernel
theorem dX4_wayTo_8 : decode cX4_wayTo 8 = .ok (.iconst 0, 1) := by decide +kernel
theorem dX4_wayTo_9 : decode cX4_wayTo 9 = .ok (.istore 7, 2) := by decide +kernel
theorem dX4_wayTo_11 : decode cX4_wayTo 11 = .ok (.iload 7, 2) := by decide +kernel
theorem dX4_wayTo_13 : decode cX4_wayTo 13 = .ok (.sipush 400, 3) := by decide +kernel
theorem dX4_wayTo_16 : decode cX4_wayTo 16 = .ok (.if_icmp .ge 109, 3) := by decide +kernel
theorem dX4_wayTo_19 : decode cX4_wayTo 19 = .ok (.aload_n 0, 1) := by decide +kernel
theorem dX4_wayTo_20 : decode cX4_wayTo 20 = .ok (.getfield 12, 3) := by decide +kernel
theorem dX4_wayTo_23 : decode cX4_wayTo 23 = .ok (.iload_n 3, 1) := by decide +kernel
theorem dX4_wayTo_24 : decode cX4_wayTo 24 = .ok (.invokevirtual 73, 3) := by decide +kernel
theorem dX4_wayTo_27 : decode cX4_wayTo 27 = .ok (.ifCond .eq 98, 3) := by decide +kernel
theorem dX4_wayTo_30 : decode cX4_wayTo 30 = .ok (.aload_n 0, 1) := by decide +kernel
theorem dX4_wayTo_31 : decode cX4_wayTo 31 = .ok (.getfield 12, 3) := by decide +kernel
theorem dX4_wayTo_34 : decode cX4_wayTo 34 = .ok (.aload_n 0, 1) := by decide +kernel
theorem dX4_wayTo_35 : decode cX4_wayTo 35 = .ok (.getfield 12, 3) := by decide +kernel
theorem dX4_wayTo_38 : decode cX4_wayTo 38 = .ok (.iload_n 3, 1) := by decide +kernel
theorem dX4_wayTo_39 : decode cX4_wayTo 39 = .ok (.invokevirtual 48, 3) := by decide +kernel
theorem dX4_wayTo_42 : decode cX4_wayTo 42 = .ok (.invokevirtual 58, 3) := by decide +kernel
theorem dX4_wayTo_45 : decode cX4_wayTo 45 = .ok (.istore 8, 2) := by decide +kernel
theorem dX4_wayTo_47 : decode cX4_wayTo 47 = .ok (.ldc2_w 101, 3) := by decide +kernel
theorem dX4_wayTo_50 : decode cX4_wayTo 50 = .ok (.lload 5, 2) := by decide +kernel
theorem dX4_wayTo_52 : decode cX4_wayTo 52 = .ok (.lmul, 1) := by decide +kernel
theorem dX4_wayTo_53 : decode cX4_wayTo 53 = .ok (.iload 4, 2) := by decide +kernel
theorem dX4_wayTo_55 : decode cX4_wayTo 55 = .ok (.iload 8, 2) := by decide +kernel
theorem dX4_wayTo_57 : decode cX4_wayTo 57 = .ok (.if_icmp .ge 7, 3) := by decide +kernel
theorem dX4_wayTo_60 : decode cX4_wayTo 60 = .ok (.iconst 0, 1) := by decide +kernel
theorem dX4_wayTo_61 : decode cX4_wayTo 61 = .ok (.goto 4, 3) := by decide +kernel
theorem dX4_wayTo_64 : decode cX4_wayTo 64 = .ok (.iconst 1, 1) := by decide +kernel
theorem dX4_wayTo_65 : decode cX4_wayTo 65 = .ok (.i2l, 1) := by decide +kernel
theorem dX4_wayTo_66 : decode cX4_wayTo 66 = .ok (.ladd, 1) := by decide +kernel
theorem dX4_wayTo_67 : decode cX4_wayTo 67 = .ok (.ldc2_w 103, 3) := by decide +kernel
theorem dX4_wayTo_70 : decode cX4_wayTo 70 = .ok (.lrem, 1) := by decide +kernel
theorem dX4_wayTo_71 : decode cX4_wayTo 71 = .ok (.lstore 5, 2) := by decide +kernel
theorem dX4_wayTo_73 : decode cX4_wayTo 73 = .ok (.iload 4, 2) := by decide +kernel
theorem dX4_wayTo_75 : decode cX4_wayTo 75 = .ok (.iload 8, 2) := by decide +kernel
theorem dX4_wayTo_77 : decode cX4_wayTo 77 = .ok (.if_icmp .ge 14, 3) := by decide +kernel
theorem dX4_wayTo_80 : decode cX4_wayTo 80 = .ok (.aload_n 0, 1) := by decide +kernel
theorem dX4_wayTo_81 : decode cX4_wayTo 81 = .ok (.getfield 12, 3) := by decide +kernel
theorem dX4_wayTo_84 : decode cX4_wayTo 84 = .ok (.iload_n 3, 1) := by decide +kernel
theorem dX4_wayTo_85 : decode cX4_wayTo 85 = .ok (.invokevirtual 48, 3) := by decide +kernel
theorem dX4_wayTo_88 : decode cX4_wayTo 88 = .ok (.goto 11, 3) := by decide +kernel
theorem dX4_wayTo_91 : decode cX4_wayTo 91 = .ok (.aload_n 0, 1) := by decide +kernel
theorem dX4_wayTo_92 : decode cX4_wayTo 92 = .ok (.getfield 12, 3) := by decide +kernel
theorem dX4_wayTo_95 : decode cX4_wayTo 95 = .ok (.iload_n 3, 1) := by decide +kernel
theorem dX4_wayTo_96 : decode cX4_wayTo 96 = .ok (.invokevirtual 44, 3) := by decide +kernel
theorem dX4_wayTo_99 : decode cX4_wayTo 99 = .ok (.istore_n 3, 1) := by decide +kernel
theorem dX4_wayTo_100 : decode cX4_wayTo 100 = .ok (.iload 4, 2) := by decide +kernel
theorem dX4_wayTo_102 : decode cX4_wayTo 102 = .ok (.iload 8, 2) := by decide +kernel
theorem dX4_wayTo_104 : decode cX4_wayTo 104 = .ok (.if_icmp .ge 8, 3) := by decide +kernel
theorem dX4_wayTo_107 : decode cX4_wayTo 107 = .ok (.iload 4, 2) := by decide +kernel
theorem dX4_wayTo_109 : decode cX4_wayTo 109 = .ok (.goto 8, 3) := by decide +kernel
theorem dX4_wayTo_112 : decode cX4_wayTo 112 = .ok (.iload 4, 2) := by decide +kernel
theorem dX4_wayTo_114 : decode cX4_wayTo 114 = .ok (.iload 8, 2) := by decide +kernel
theorem dX4_wayTo_116 : decode cX4_wayTo 116 = .ok (.isub, 1) := by decide +kernel
theorem dX4_wayTo_117 : decode cX4_wayTo 117 = .ok (.istore 4, 2) := by decide +kernel
theorem dX4_wayTo_119 : decode cX4_wayTo 119 = .ok (.iinc 7 1, 3) := by decide +kernel
theorem dX4_wayTo_122 : decode cX4_wayTo 122 = .ok (.goto (-111), 3) := by decide +kernel
theorem dX4_wayTo_125 : decode cX4_wayTo 125 = .ok (.lload 5, 2) := by decide +kernel
theorem dX4_wayTo_127 : decode cX4_wayTo 127 = .ok (.l2i, 1) := by decide +kernel
theorem dX4_wayTo_128 : decode cX4_wayTo 128 = .ok (.ireturn, 1) := by decide +kernel
theorem dX5_init_0 : decode cX5_init 0 = .ok (.aload_n 0, 1) := by decide +kernel
theorem dX5_init_1 : decode cX5_init 1 = .ok (.invokespecial 3, 3) := by decide +kernel
theorem dX5_init_4 : decode cX5_init 4 = .ok (.aload_n 0, 1) := by decide +kernel
theorem dX5_init_5 : decode cX5_init 5 = .ok (.new 9, 3) := by decide +kernel
theorem dX5_init_8 : decode cX5_init 8 = .ok (.dup, 1) := by decide +kernel
theorem dX5_init_9 : decode cX5_init 9 = .ok (.invokespecial 11, 3) := by decide +kernel
theorem dX5_init_12 : decode cX5_init 12 = .ok (.putfield 12, 3) := by decide +kernel
theorem dX5_init_15 : decode cX5_init 15 = .ok (.aload_n 0, 1) := by decide +kernel
theorem dX5_init_16 : decode cX5_init 16 = .ok (.aload_n 0, 1) := by decide +kernel
theorem dX5_init_17 : decode cX5_init 17 = .ok (.getfield 12, 3) := by decide +kernel
theorem dX5_init_20 : decode cX5_init 20 = .ok (.getfield 16, 3) := by decide +kernel
theorem dX5_init_23 : decode cX5_init 23 = .ok (.putfield 20, 3) := by decide +kernel
theorem dX5_init_26 : decode cX5_init 26 = .ok (.aload_n 0, 1) := by decide +kernel
theorem dX5_init_27 : decode cX5_init 27 = .ok (.new 21, 3) := by decide +kernel
theorem dX5_init_30 : decode cX5_init 30 = .ok (.dup, 1) := by decide +kernel
theorem dX5_init_31 : decode cX5_init 31 = .ok (.invokespecial 23, 3) := by decide +kernel
theorem dX5_init_34 : decode cX5_init 34 = .ok (.putfield 24, 3) := by decide +kernel
theorem dX5_init_37 : decode cX5_init 37 = .ok (.aload_n 0, 1) := by decide +kernel
theorem dX5_init_38 : decode cX5_init 38 = .ok (.new 21, 3) := by decide +kernel
theorem dX5_init_41 : decode cX5_init 41 = .ok (.dup, 1) := by decide +kernel
theorem dX5_init_42 : decode cX5_init 42 = .ok (.invokespecial 23, 3) := by decide +kernel
theorem dX5_init_45 : decode cX5_init 45 = .ok (.putfield 28, 3) := by decide +kernel
theorem dX5_init_48 : decode cX5_init 48 = .ok (.aload_n 0, 1) := by decide +kernel
theorem dX5_init_49 : decode cX5_init 49 = .ok (.new 31, 3) := by decide +kernel
theorem dX5_init_52 : decode cX5_init 52 = .ok (.dup, 1) := by decide +kernel
theorem dX5_init_53 : decode cX5_init 53 = .ok (.invokespecial 33, 3) := by decide +kernel
theorem dX5_init_56 : decode cX5_init 56 = .ok (.putfield 34, 3) := by decide +kernel
theorem dX5_init_59 : decode cX5_init 59 = .ok (.aload_n 0, 1) := by decide +kernel
theorem dX5_init_60 : decode cX5_init 60 = .ok (.new 38, 3) := by decide +kernel
theorem dX5_init_63 : decode cX5_init 63 = .ok (.dup, 1) := by decide +kernel
theorem dX5_init_64 : decode cX5_init 64 = .ok (.invokespecial 40, 3) := by decide +kernel
theorem dX5_init_67 : decode cX5_init 67 = .ok (.putfield 41, 3) := by decide +kernel
theorem dX5_init_70 : decode cX5_init 70 = .ok (.aload_n 0, 1) := by decide +kernel
theorem dX5_init_71 : decode cX5_init 71 = .ok (.iconst 3, 1) := by decide +kernel
theorem dX5_init_72 : decode cX5_init 72 = .ok (.newarray .int, 2) := by decide +kernel
theorem dX5_init_74 : decode cX5_init 74 = .ok (.putfield 45, 3) := by decide +kernel
theorem dX5_init_77 : decode cX5_init 77 = .ok (.aload_n 0, 1) := by decide +kernel
theorem dX5_init_78 : decode cX5_init 78 = .ok (.iconst 3, 1) := by decide +kernel
theorem dX5_init_79 : decode cX5_init 79 = .ok (.newarray .boolean, 2) := by decide +kernel
theorem dX5_init_81 : decode cX5_init 81 = .ok (.putfield 49, 3) := by decide +kernel
theorem dX5_init_84 : decode cX5_init 84 = .ok (.aload_n 0, 1) := by decide +kernel
theorem dX5_init_85 : decode cX5_init 85 = .ok (.bipush 40, 2) := by decide +kernel
theorem dX5_init_87 : decode cX5_init 87 = .ok (.newarray .int, 2) := by decide +kernel
theorem dX5_init_89 : decode cX5_init 89 = .ok (.putfield 53, 3) := by decide +kernel
theorem dX5_init_92 : decode cX5_init 92 = .ok (.aload_n 0, 1) := by decide +kernel
theorem dX5_init_93 : decode cX5_init 93 = .ok (.iconst 0, 1) := by decide +kernel
theorem dX5_init_94 : decode cX5_init 94 = .ok (.putfield 56, 3) := by decide +kernel
theorem dX5_init_97 : decode cX5_init 97 = .ok (.aload_n 0, 1) := by decide +kernel
theorem dX5_init_98 : decode cX5_init 98 = .ok (.sipush 400, 3) := by decide +kernel
theorem dX5_init_101 : decode cX5_init 101 = .ok (.newarray .int, 2) := by decide +kernel
theorem dX5_init_103 : decode cX5_init 103 = .ok (.putfield 60, 3) := by decide +kernel
theorem dX5_init_106 : decode cX5_init 106 = .ok (.return_, 1) := by decide +kernel
theorem dX5_setLeafSize_0 : decode cX5_setLeafSize 0 = .ok (.iload_n 1, 1) := by decide +kernel
theorem dX5_setLeafSize_1 : decode cX5_setLeafSize 1 = .ok (.iconst 2, 1) := by decide +kernel
theorem dX5_setLeafSize_2 : decode cX5_setLeafSize 2 = .ok (.if_icmp .lt 9, 3) := by decide +kernel
theorem dX5_setLeafSize_5 : decode cX5_setLeafSize 5 = .ok (.iload_n 1, 1) := by decide +kernel
theorem dX5_setLeafSize_6 : decode cX5_setLeafSize 6 = .ok (.bipush 16, 2) := by decide +kernel
theorem dX5_setLeafSize_8 : decode cX5_setLeafSize 8 = .ok (.if_icmp .le 6, 3) := by decide +kernel
theorem dX5_setLeafSize_11 : decode cX5_setLeafSize 11 = .ok (.bipush (-2), 2) := by decide +kernel
theorem dX5_setLeafSize_13 : decode cX5_setLeafSize 13 = .ok (.ireturn, 1) := by decide +kernel
theorem dX5_setLeafSize_14 : decode cX5_setLeafSize 14 = .ok (.aload_n 0, 1) := by decide +kernel
theorem dX5_setLeafSize_15 : decode cX5_setLeafSize 15 = .ok (.getfield 34, 3) := by decide +kernel
theorem dX5_setLeafSize_18 : decode cX5_setLeafSize 18 = .ok (.getfield 63, 3) := by decide +kernel
theorem dX5_setLeafSize_21 : decode cX5_setLeafSize 21 = .ok (.istore_n 2, 1) := by decide +kernel
theorem dX5_setLeafSize_22 : decode cX5_setLeafSize 22 = .ok (.aload_n 0, 1) := by decide +kernel
theorem dX5_setLeafSize_23 : decode cX5_setLeafSize 23 = .ok (.getfield 41, 3) := by decide +kernel
theorem dX5_setLeafSize_26 : decode cX5_setLeafSize 26 = .ok (.aload_n 0, 1) := by decide +kernel
theorem dX5_setLeafSize_27 : decode cX5_setLeafSize 27 = .ok (.getfield 34, 3) := by decide +kernel
theorem dX5_setLeafSize_30 : decode cX5_setLeafSize 30 = .ok (.invokevirtual 66, 3) := by decide +kernel
theorem dX5_setLeafSize_33 : decode cX5_setLeafSize 33 = .ok (.aload_n 0, 1) := by decide +kernel
theorem dX5_setLeafSize_34 : decode cX5_setLeafSize 34 = .ok (.getfield 34, 3) := by decide +kernel
theorem dX5_setLeafSize_37 : decode cX5_setLeafSize 37 = .ok (.iload_n 1, 1) := by decide +kernel
theorem dX5_setLeafSize_38 : decode cX5_setLeafSize 38 = .ok (.putfield 63, 3) := by decide +kernel
theorem dX5_setLeafSize_41 : decode cX5_setLeafSize 41 = .ok (.iload_n 2, 1) := by decide +kernel
theorem dX5_setLeafSize_42 : decode cX5_setLeafSize 42 = .ok (.ireturn, 1) := by decide +kernel
theorem dX5_setBalancing_0 : decode cX5_setBalancing 0 = .ok (.iload_n 1, 1) := by decide +kernel
theorem dX5_setBalancing_1 : decode cX5_setBalancing 1 = .ok (.ifCond .eq 11, 3) := by decide +kernel
theorem dX5_setBalancing_4 : decode cX5_setBalancing 4 = .ok (.iload_n 1, 1) := by decide +kernel
theorem dX5_setBalancing_5 : decode cX5_setBalancing 5 = .ok (.iconst 1, 1) := by decide +kernel
theorem dX5_setBalancing_6 : decode cX5_setBalancing 6 = .ok (.if_icmp .eq 6, 3) := by decide +kernel
theorem dX5_setBalancing_9 : decode cX5_setBalancing 9 = .ok (.bipush (-2), 2) := by decide +kernel
theorem dX5_setBalancing_11 : decode cX5_setBalancing 11 = .ok (.ireturn, 1) := by decide +kernel
theorem dX5_setBalancing_12 : decode cX5_setBalancing 12 = .ok (.aload_n 0, 1) := by decide +kernel
theorem dX5_setBalancing_13 : decode cX5_setBalancing 13 = .ok (.getfield 34, 3) := by decide +kernel
theorem dX5_setBalancing_16 : decode cX5_setBalancing 16 = .ok (.getfield 70, 3) := by decide +kernel
theorem dX5_setBalancing_19 : decode cX5_setBalancing 19 = .ok (.istore_n 2, 1) := by decide +kernel
theorem dX5_setBalancing_20 : decode cX5_setBalancing 20 = .ok (.aload_n 0, 1) := by decide +kernel
theorem dX5_setBalancing_21 : decode cX5_setBalancing 21 = .ok (.getfield 41, 3) := by decide +kernel
theorem dX5_setBalancing_24 : decode cX5_setBalancing 24 = .ok (.aload_n 0, 1) := by decide +kernel
theorem dX5_setBalancing_25 : decode cX5_setBalancing 25 = .ok (.getfield 34, 3) := by decide +kernel
theorem dX5_setBalancing_28 : decode cX5_setBalancing 28 = .ok (.invokevirtual 66, 3) := by decide +kernel
theorem dX5_setBalancing_31 : decode cX5_setBalancing 31 = .ok (.aload_n 0, 1) := by decide +kernel
theorem dX5_setBalancing_32 : decode cX5_setBalancing 32 = .ok (.getfield 34, 3) := by decide +kernel
theorem dX5_setBalancing_35 : decode cX5_setBalancing 35 = .ok (.iload_n 1, 1) := by decide +kernel
theorem dX5_setBalancing_36 : decode cX5_setBalancing 36 = .ok (.putfield 70, 3) := by decide +kernel
theorem dX5_setBalancing_39 : decode cX5_setBalancing 39 = .ok (.iload_n 2, 1) := by decide +kernel
theorem dX5_setBalancing_40 : decode cX5_setBalancing 40 = .ok (.ireturn, 1) := by decide +kernel
theorem dX5_type_0 : decode cX5_type 0 = .ok (.iload_n 1, 1) := by decide +kernel
theorem dX5_type_1 : decode cX5_type 1 = .ok (.bipush 10, 2) := by decide +kernel
theorem dX5_type_3 : decode cX5_type 3 = .ok (.if_icmp .eq 18, 3) := by decide +kernel
theorem dX5_type_6 : decode cX5_type 6 = .ok (.iload_n 1, 1) := by decide +kernel
theorem dX5_type_7 : decode cX5_type 7 = .ok (.bipush 32, 2) := by decide +kernel
theorem dX5_type_9 : decode cX5_type 9 = .ok (.if_icmp .lt 9, 3) := by decide +kernel
theorem dX5_type_12 : decode cX5_type 12 = .ok (.iload_n 1, 1) := by decide +kernel
theorem dX5_type_13 : decode cX5_type 13 = .ok (.bipush 126, 2) := by decide +kernel
theorem dX5_type_15 : decode cX5_type 15 = .ok (.if_icmp .le 6, 3) := by decide +kernel
theorem dX5_type_18 : decode cX5_type 18 = .ok (.bipush (-2), 2) := by decide +kernel
theorem dX5_type_20 : decode cX5_type 20 = .ok (.ireturn, 1) := by decide +kernel
theorem dX5_type_21 : decode cX5_type 21 = .ok (.aload_n 0, 1) := by decide +kernel
theorem dX5_type_22 : decode cX5_type 22 = .ok (.getfield 56, 3) := by decide +kernel
theorem dX5_type_25 : decode cX5_type 25 = .ok (.ifCond .lt 15, 3) := by decide +kernel
theorem dX5_type_28 : decode cX5_type 28 = .ok (.aload_n 0, 1) := by decide +kernel
theorem dX5_type_29 : decode cX5_type 29 = .ok (.getfield 56, 3) := by decide +kernel
theorem dX5_type_32 : decode cX5_type 32 = .ok (.aload_n 0, 1) := by decide +kernel
theorem dX5_type_33 : decode cX5_type 33 = .ok (.getfield 53, 3) := by decide +kernel
theorem dX5_type_36 : decode cX5_type 36 = .ok (.arraylength, 1) := by decide +kernel
theorem dX5_type_37 : decode cX5_type 37 = .ok (.if_icmp .lt 6, 3) := by decide +kernel
theorem dX5_type_40 : decode cX5_type 40 = .ok (.bipush (-4), 2) := by decide +kernel
theorem dX5_type_42 : decode cX5_type 42 = .ok (.ireturn, 1) := by decide +kernel
theorem dX5_type_43 : decode cX5_type 43 = .ok (.aload_n 0, 1) := by decide +kernel
theorem dX5_type_44 : decode cX5_type 44 = .ok (.getfield 53, 3) := by decide +kernel
theorem dX5_type_47 : decode cX5_type 47 = .ok (.aload_n 0, 1) := by decide +kernel
theorem dX5_type_48 : decode cX5_type 48 = .ok (.getfield 56, 3) := by decide +kernel
theorem dX5_type_51 : decode cX5_type 51 = .ok (.iload_n 1, 1) := by decide +kernel
theorem dX5_type_52 : decode cX5_type 52 = .ok (.iastore, 1) := by decide +kernel
theorem dX5_type_53 : decode cX5_type 53 = .ok (.aload_n 0, 1) := by decide +kernel
theorem dX5_type_54 : decode cX5_type 54 = .ok (.dup, 1) := by decide +kernel
theorem dX5_type_55 : decode cX5_type 55 = .ok (.getfield 56, 3) := by decide +kernel
theorem dX5_type_58 : decode cX5_type 58 = .ok (.iconst 1, 1) := by decide +kernel
theorem dX5_type_59 : decode cX5_type 59 = .ok (.iadd, 1) := by decide +kernel
theorem dX5_type_60 : decode cX5_type 60 = .ok (.putfield 56, 3) := by decide +kernel
theorem dX5_type_63 : decode cX5_type 63 = .ok (.aload_n 0, 1) := by decide +kernel
theorem dX5_type_64 : decode cX5_type 64 = .ok (.getfield 56, 3) := by decide +kernel
theorem dX5_type_67 : decode cX5_type 67 = .ok (.ireturn, 1) := by decide +kernel
theorem dX5_clearBuffer_0 : decode cX5_clearBuffer 0 = .ok (.aload_n 0, 1) := by decide +kernel
theorem dX5_clearBuffer_1 : decode cX5_clearBuffer 1 = .ok (.getfield 56, 3) := by decide +kernel
theorem dX5_clearBuffer_4 : decode cX5_clearBuffer 4 = .ok (.istore_n 1, 1) := by decide +kernel
theorem dX5_clearBuffer_5 : decode cX5_clearBuffer 5 = .ok (.aload_n 0, 1) := by decide +kernel
theorem dX5_clearBuffer_6 : decode cX5_clearBuffer 6 = .ok (.iconst 0, 1) := by decide +kernel
theorem dX5_clearBuffer_7 : decode cX5_clearBuffer 7 = .ok (.putfield 56, 3) := by decide +kernel
theorem dX5_clearBuffer_10 : decode cX5_clearBuffer 10 = .ok (.iload_n 1, 1) := by decide +kernel
theorem dX5_clearBuffer_11 : decode cX5_clearBuffer 11 = .ok (.ireturn, 1) := by decide +kernel
theorem dX5_insert_0 : decode cX5_insert 0 = .ok (.aload_n 0, 1) := by decide +kernel
theorem dX5_insert_1 : decode cX5_insert 1 = .ok (.iload_n 1, 1) := by decide +kernel
theorem dX5_insert_2 : decode cX5_insert 2 = .ok (.invokevirtual 73, 3) := by decide +kernel
theorem dX5_insert_5 : decode cX5_insert 5 = .ok (.ifCond .ne 5, 3) := by decide +kernel
theorem dX5_insert_8 : decode cX5_insert 8 = .ok (.iconst (-1), 1) := by decide +kernel
theorem dX5_insert_9 : decode cX5_insert 9 = .ok (.ireturn, 1) := by decide +kernel
theorem dX5_insert_10 : decode cX5_insert 10 = .ok (.aload_n 0, 1) := by decide +kernel
theorem dX5_insert_11 : decode cX5_insert 11 = .ok (.getfield 56, 3) := by decide +kernel
theorem dX5_insert_14 : decode cX5_insert 14 = .ok (.ifCond .ne 6, 3) := by decide +kernel
theorem dX5_insert_17 : decode cX5_insert 17 = .ok (.bipush (-3), 2) := by decide +kernel
theorem dX5_insert_19 : decode cX5_insert 19 = .ok (.ireturn, 1) := by decide +kernel
theorem dX5_insert_20 : decode cX5_insert 20 = .ok (.aload_n 0, 1) := by decide +kernel
theorem dX5_insert_21 : decode cX5_insert 21 = .ok (.invokevirtual 77, 3) := by decide +kernel
theorem dX5_insert_24 : decode cX5_insert 24 = .ok (.aload_n 0, 1) := by decide +kernel
theorem dX5_insert_25 : decode cX5_insert 25 = .ok (.getfield 56, 3) := by decide +kernel
theorem dX5_insert_28 : decode cX5_insert 28 = .ok (.iadd, 1) := by decide +kernel
theorem dX5_insert_29 : decode cX5_insert 29 = .ok (.sipush 400, 3) := by decide +kernel
theorem dX5_insert_32 : decode cX5_insert 32 = .ok (.if_icmp .le 6, 3) := by decide +kernel
theorem dX5_insert_35 : decode cX5_insert 35 = .ok (.bipush (-4), 2) := by decide +kernel
theorem dX5_insert_37 : decode cX5_insert 37 = .ok (.ireturn, 1) := by decide +kernel
theorem dX5_insert_38 : decode cX5_insert 38 = .ok (.aload_n 0, 1) := by decide +kernel
theorem dX5_insert_39 : decode cX5_insert 39 = .ok (.invokevirtual 81, 3) := by decide +kernel
theorem dX5_insert_42 : decode cX5_insert 42 = .ok (.aload_n 0, 1) := by decide +kernel
theorem dX5_insert_43 : decode cX5_insert 43 = .ok (.getfield 12, 3) := by decide +kernel
theorem dX5_insert_46 : decode cX5_insert 46 = .ok (.aload_n 0, 1) := by decide +kernel
theorem dX5_insert_47 : decode cX5_insert 47 = .ok (.getfield 53, 3) := by decide +kernel
theorem dX5_insert_50 : decode cX5_insert 50 = .ok (.aload_n 0, 1) := by decide +kernel
theorem dX5_insert_51 : decode cX5_insert 51 = .ok (.getfield 56, 3) := by decide +kernel
theorem dX5_insert_54 : decode cX5_insert 54 = .ok (.aload_n 0, 1) := by decide +kernel
theorem dX5_insert_55 : decode cX5_insert 55 = .ok (.getfield 34, 3) := by decide +kernel
theorem dX5_insert_58 : decode cX5_insert 58 = .ok (.getfield 63, 3) := by decide +kernel
theorem dX5_insert_61 : decode cX5_insert 61 = .ok (.invokevirtual 84, 3) := by decide +kernel
theorem dX5_insert_64 : decode cX5_insert 64 = .ok (.istore_n 2, 1) := by decide +kernel
theorem dX5_insert_65 : decode cX5_insert 65 = .ok (.aload_n 0, 1) := by decide +kernel
theorem dX5_insert_66 : decode cX5_insert 66 = .ok (.iconst 0, 1) := by decide +kernel
theorem dX5_insert_67 : decode cX5_insert 67 = .ok (.putfield 56, 3) := by decide +kernel
theorem dX5_insert_70 : decode cX5_insert 70 = .ok (.aload_n 0, 1) := by decide +kernel
theorem dX5_insert_71 : decode cX5_insert 71 = .ok (.iload_n 1, 1) := by decide +kernel
theorem dX5_insert_72 : decode cX5_insert 72 = .ok (.iload_n 2, 1) := by decide +kernel
theorem dX5_insert_73 : decode cX5_insert 73 = .ok (.invokevirtual 88, 3) := by decide +kernel
theorem dX5_insert_76 : decode cX5_insert 76 = .ok (.aload_n 0, 1) := by decide +kernel
theorem dX5_insert_77 : decode cX5_insert 77 = .ok (.invokevirtual 92, 3) := by decide +kernel
theorem dX5_insert_80 : decode cX5_insert 80 = .ok (.aload_n 0, 1) := by decide +kernel
theorem dX5_insert_81 : decode cX5_insert 81 = .ok (.invokevirtual 77, 3) := by decide +kernel
theorem dX5_insert_84 : decode cX5_insert 84 = .ok (.ireturn, 1) := by decide +kernel
theorem dX5_delete_0 : decode cX5_delete 0 = .ok (.aload_n 0, 1) := by decide +kernel
theorem dX5_delete_1 : decode cX5_delete 1 = .ok (.iload_n 1, 1) := by decide +kernel
theorem dX5_delete_2 : decode cX5_delete 2 = .ok (.iload_n 2, 1) := by decide +kernel
theorem dX5_delete_3 : decode cX5_delete 3 = .ok (.invokevirtual 95, 3) := by decide +kernel
theorem dX5_delete_6 : decode cX5_delete 6 = .ok (.istore_n 3, 1) := by decide +kernel
theorem dX5_delete_7 : decode cX5_delete 7 = .ok (.iload_n 3, 1) := by decide +kernel
theorem dX5_delete_8 : decode cX5_delete 8 = .ok (.ifCond .eq 5, 3) := by decide +kernel
theorem dX5_delete_11 : decode cX5_delete 11 = .ok (.iload_n 3, 1) := by decide +kernel
theorem dX5_delete_12 : decode cX5_delete 12 = .ok (.ireturn, 1) := by decide +kernel
theorem dX5_delete_13 : decode cX5_delete 13 = .ok (.aload_n 0, 1) := by decide +kernel
theorem dX5_delete_14 : decode cX5_delete 14 = .ok (.invokevirtual 81, 3) := by decide +kernel
theorem dX5_delete_17 : decode cX5_delete 17 = .ok (.aload_n 0, 1) := by decide +kernel
theorem dX5_delete_18 : decode cX5_delete 18 = .ok (.iload_n 1, 1) := by decide +kernel
theorem dX5_delete_19 : decode cX5_delete 19 = .ok (.iload_n 2, 1) := by decide +kernel
theorem dX5_delete_20 : decode cX5_delete 20 = .ok (.invokevirtual 99, 3) := by decide +kernel
theorem dX5_delete_23 : decode cX5_delete 23 = .ok (.pop, 1) := by decide +kernel
theorem dX5_delete_24 : decode cX5_delete 24 = .ok (.aload_n 0, 1) := by decide +kernel
theorem dX5_delete_25 : decode cX5_delete 25 = .ok (.invokevirtual 92, 3) := by decide +kernel
theorem dX5_delete_28 : decode cX5_delete 28 = .ok (.aload_n 0, 1) := by decide +kernel
theorem dX5_delete_29 : decode cX5_delete 29 = .ok (.invokevirtual 77, 3) := by decide +kernel
theorem dX5_delete_32 : decode cX5_delete 32 = .ok (.ireturn, 1) := by decide +kernel
theorem dX5_cut_0 : decode cX5_cut 0 = .ok (.aload_n 0, 1) := by decide +kernel
theorem dX5_cut_1 : decode cX5_cut 1 = .ok (.iload_n 1, 1) := by decide +kernel
theorem dX5_cut_2 : decode cX5_cut 2 = .ok (.iload_n 2, 1) := by decide +kernel
theorem dX5_cut_3 : decode cX5_cut 3 = .ok (.invokevirtual 95, 3) := by decide +kernel
theorem dX5_cut_6 : decode cX5_cut 6 = .ok (.istore_n 3, 1) := by decide +kernel
theorem dX5_cut_7 : decode cX5_cut 7 = .ok (.iload_n 3, 1) := by decide +kernel
theorem dX5_cut_8 : decode cX5_cut 8 = .ok (.ifCond .eq 5, 3) := by decide +kernel
theorem dX5_cut_11 : decode cX5_cut 11 = .ok (.iload_n 3, 1) := by decide +kernel
theorem dX5_cut_12 : decode cX5_cut 12 = .ok (.ireturn, 1) := by decide +kernel
theorem dX5_cut_13 : decode cX5_cut 13 = .ok (.aload_n 0, 1) := by decide +kernel
theorem dX5_cut_14 : decode cX5_cut 14 = .ok (.invokevirtual 81, 3) := by decide +kernel
theorem dX5_cut_17 : decode cX5_cut 17 = .ok (.aload_n 0, 1) := by decide +kernel
theorem dX5_cut_18 : decode cX5_cut 18 = .ok (.getfield 34, 3) := by decide +kernel
theorem dX5_cut_21 : decode cX5_cut 21 = .ok (.aload_n 0, 1) := by decide +kernel
theorem dX5_cut_22 : decode cX5_cut 22 = .ok (.iload_n 1, 1) := by decide +kernel
theorem dX5_cut_23 : decode cX5_cut 23 = .ok (.iload_n 2, 1) := by decide +kernel
theorem dX5_cut_24 : decode cX5_cut 24 = .ok (.invokevirtual 99, 3) := by decide +kernel
theorem dX5_cut_27 : decode cX5_cut 27 = .ok (.invokevirtual 102, 3) := by decide +kernel
theorem dX5_cut_30 : decode cX5_cut 30 = .ok (.aload_n 0, 1) := by decide +kernel
theorem dX5_cut_31 : decode cX5_cut 31 = .ok (.invokevirtual 92, 3) := by decide +kernel
theorem dX5_cut_34 : decode cX5_cut 34 = .ok (.aload_n 0, 1) := by decide +kernel
theorem dX5_cut_35 : decode cX5_cut 35 = .ok (.invokevirtual 77, 3) := by decide +kernel
theorem dX5_cut_38 : decode cX5_cut 38 = .ok (.ireturn, 1) := by decide +kernel
theorem dX5_copy_0 : decode cX5_copy 0 = .ok (.aload_n 0, 1) := by decide +kernel
theorem dX5_copy_1 : decode cX5_copy 1 = .ok (.iload_n 1, 1) := by decide +kernel
theorem dX5_copy_2 : decode cX5_copy 2 = .ok (.iload_n 2, 1) := by decide +kernel
theorem dX5_copy_3 : decode cX5_copy 3 = .ok (.invokevirtual 95, 3) := by decide +kernel
theorem dX5_copy_6 : decode cX5_copy 6 = .ok (.istore_n 3, 1) := by decide +kernel
theorem dX5_copy_7 : decode cX5_copy 7 = .ok (.iload_n 3, 1) := by decide +kernel
theorem dX5_copy_8 : decode cX5_copy 8 = .ok (.ifCond .eq 5, 3) := by decide +kernel
theorem dX5_copy_11 : decode cX5_copy 11 = .ok (.iload_n 3, 1) := by decide +kernel
theorem dX5_copy_12 : decode cX5_copy 12 = .ok (.ireturn, 1) := by decide +kernel
theorem dX5_copy_13 : decode cX5_copy 13 = .ok (.aload_n 0, 1) := by decide +kernel
theorem dX5_copy_14 : decode cX5_copy 14 = .ok (.invokevirtual 81, 3) := by decide +kernel
theorem dX5_copy_17 : decode cX5_copy 17 = .ok (.aload_n 0, 1) := by decide +kernel
theorem dX5_copy_18 : decode cX5_copy 18 = .ok (.getfield 12, 3) := by decide +kernel
theorem dX5_copy_21 : decode cX5_copy 21 = .ok (.aload_n 0, 1) := by decide +kernel
theorem dX5_copy_22 : decode cX5_copy 22 = .ok (.getfield 34, 3) := by decide +kernel
theorem dX5_copy_25 : decode cX5_copy 25 = .ok (.getfield 106, 3) := by decide +kernel
theorem dX5_copy_28 : decode cX5_copy 28 = .ok (.iload_n 1, 1) := by decide +kernel
theorem dX5_copy_29 : decode cX5_copy 29 = .ok (.aload_n 0, 1) := by decide +kernel
theorem dX5_copy_30 : decode cX5_copy 30 = .ok (.getfield 34, 3) := by decide +kernel
theorem dX5_copy_33 : decode cX5_copy 33 = .ok (.getfield 63, 3) := by decide +kernel
theorem dX5_copy_36 : decode cX5_copy 36 = .ok (.invokevirtual 109, 3) := by decide +kernel
theorem dX5_copy_39 : decode cX5_copy 39 = .ok (.aload_n 0, 1) := by decide +kernel
theorem dX5_copy_40 : decode cX5_copy 40 = .ok (.getfield 12, 3) := by decide +kernel
theorem dX5_copy_43 : decode cX5_copy 43 = .ok (.aload_n 0, 1) := by decide +kernel
theorem dX5_copy_44 : decode cX5_copy 44 = .ok (.getfield 12, 3) := by decide +kernel
theorem dX5_copy_47 : decode cX5_copy 47 = .ok (.getfield 113, 3) := by decide +kernel
theorem dX5_copy_50 : decode cX5_copy 50 = .ok (.iload_n 2, 1) := by decide +kernel
theorem dX5_copy_51 : decode cX5_copy 51 = .ok (.iload_n 1, 1) := by decide +kernel
theorem dX5_copy_52 : decode cX5_copy 52 = .ok (.isub, 1) := by decide +kernel
theorem dX5_copy_53 : decode cX5_copy 53 = .ok (.aload_n 0, 1) := by decide +kernel
theorem dX5_copy_54 : decode cX5_copy 54 = .ok (.getfield 34, 3) := by decide +kernel
theorem dX5_copy_57 : decode cX5_copy 57 = .ok (.getfield 63, 3) := by decide +kernel
theorem dX5_copy_60 : decode cX5_copy 60 = .ok (.invokevirtual 109, 3) := by decide +kernel
theorem dX5_copy_63 : decode cX5_copy 63 = .ok (.aload_n 0, 1) := by decide +kernel
theorem dX5_copy_64 : decode cX5_copy 64 = .ok (.getfield 34, 3) := by decide +kernel
theorem dX5_copy_67 : decode cX5_copy 67 = .ok (.aload_n 0, 1) := by decide +kernel
theorem dX5_copy_68 : decode cX5_copy 68 = .ok (.getfield 12, 3) := by decide +kernel
theorem dX5_copy_71 : decode cX5_copy 71 = .ok (.getfield 116, 3) := by decide +kernel
theorem dX5_copy_74 : decode cX5_copy 74 = .ok (.invokevirtual 102, 3) := by decide +kernel
theorem dX5_copy_77 : decode cX5_copy 77 = .ok (.aload_n 0, 1) := by decide +kernel
theorem dX5_copy_78 : decode cX5_copy 78 = .ok (.getfield 24, 3) := by decide +kernel
theorem dX5_copy_81 : decode cX5_copy 81 = .ok (.aload_n 0, 1) := by decide +kernel
theorem dX5_copy_82 : decode cX5_copy 82 = .ok (.getfield 20, 3) := by decide +kernel
theorem dX5_copy_85 : decode cX5_copy 85 = .ok (.aload_n 0, 1) := by decide +kernel
theorem dX5_copy_86 : decode cX5_copy 86 = .ok (.getfield 12, 3) := by decide +kernel
theorem dX5_copy_89 : decode cX5_copy 89 = .ok (.getfield 116, 3) := by decide +kernel
theorem dX5_copy_92 : decode cX5_copy 92 = .ok (.invokevirtual 119, 3) := by decide +kernel
theorem dX5_copy_95 : decode cX5_copy 95 = .ok (.aload_n 0, 1) := by decide +kernel
theorem dX5_copy_96 : decode cX5_copy 96 = .ok (.getfield 24, 3) := by decide +kernel
theorem dX5_copy_99 : decode cX5_copy 99 = .ok (.getfield 123, 3) := by decide +kernel
theorem dX5_copy_102 : decode cX5_copy 102 = .ok (.ireturn, 1) := by decide +kernel
theorem dX5_paste_0 : decode cX5_paste 0 = .ok (.aload_n 0, 1) := by decide +kernel
theorem dX5_paste_1 : decode cX5_paste 1 = .ok (.iload_n 1, 1) := by decide +kernel
theorem dX5_paste_2 : decode cX5_paste 2 = .ok (.invokevirtual 73, 3) := by decide +kernel
theorem dX5_paste_5 : decode cX5_paste 5 = .ok (.ifCond .eq 14, 3) := by decide +kernel
theorem dX5_paste_8 : decode cX5_paste 8 = .ok (.aload_n 0, 1) := by decide +kernel
theorem dX5_paste_9 : decode cX5_paste 9 = .ok (.getfield 34, 3) := by decide +kernel
theorem dX5_paste_12 : decode cX5_paste 12 = .ok (.iload_n 2, 1) := by decide +kernel
theorem dX5_paste_13 : decode cX5_paste 13 = .ok (.invokevirtual 126, 3) := by decide +kernel
theorem dX5_paste_16 : decode cX5_paste 16 = .ok (.ifCond .ne 5, 3) := by decide +kernel
theorem dX5_paste_19 : decode cX5_paste 19 = .ok (.iconst (-1), 1) := by decide +kernel
theorem dX5_paste_20 : decode cX5_paste 20 = .ok (.ireturn, 1) := by decide +kernel
theorem dX5_paste_21 : decode cX5_paste 21 = .ok (.aload_n 0, 1) := by decide +kernel
theorem dX5_paste_22 : decode cX5_paste 22 = .ok (.getfield 34, 3) := by decide +kernel
theorem dX5_paste_25 : decode cX5_paste 25 = .ok (.iload_n 2, 1) := by decide +kernel
theorem dX5_paste_26 : decode cX5_paste 26 = .ok (.invokevirtual 129, 3) := by decide +kernel
theorem dX5_paste_29 : decode cX5_paste 29 = .ok (.istore_n 3, 1) := by decide +kernel
theorem dX5_paste_30 : decode cX5_paste 30 = .ok (.aload_n 0, 1) := by decide +kernel
theorem dX5_paste_31 : decode cX5_paste 31 = .ok (.invokevirtual 77, 3) := by decide +kernel
theorem dX5_paste_34 : decode cX5_paste 34 = .ok (.aload_n 0, 1) := by decide +kernel
theorem dX5_paste_35 : decode cX5_paste 35 = .ok (.getfield 20, 3) := by decide +kernel
theorem dX5_paste_38 : decode cX5_paste 38 = .ok (.iload_n 3, 1) := by decide +kernel
theorem dX5_paste_39 : decode cX5_paste 39 = .ok (.invokevirtual 133, 3) := by decide +kernel
theorem dX5_paste_42 : decode cX5_paste 42 = .ok (.iadd, 1) := by decide +kernel
theorem dX5_paste_43 : decode cX5_paste 43 = .ok (.sipush 400, 3) := by decide +kernel
theorem dX5_paste_46 : decode cX5_paste 46 = .ok (.if_icmp .le 6, 3) := by decide +kernel
theorem dX5_paste_49 : decode cX5_paste 49 = .ok (.bipush (-4), 2) := by decide +kernel
theorem dX5_paste_51 : decode cX5_paste 51 = .ok (.ireturn, 1) := by decide +kernel
theorem dX5_paste_52 : decode cX5_paste 52 = .ok (.aload_n 0, 1) := by decide +kernel
theorem dX5_paste_53 : decode cX5_paste 53 = .ok (.invokevirtual 81, 3) := by decide +kernel
theorem dX5_paste_56 : decode cX5_paste 56 = .ok (.aload_n 0, 1) := by decide +kernel
theorem dX5_paste_57 : decode cX5_paste 57 = .ok (.iload_n 1, 1) := by decide +kernel
theorem dX5_paste_58 : decode cX5_paste 58 = .ok (.iload_n 3, 1) := by decide +kernel
theorem dX5_paste_59 : decode cX5_paste 59 = .ok (.invokevirtual 88, 3) := by decide +kernel
theorem dX5_paste_62 : decode cX5_paste 62 = .ok (.aload_n 0, 1) := by decide +kernel
theorem dX5_paste_63 : decode cX5_paste 63 = .ok (.invokevirtual 92, 3) := by decide +kernel
theorem dX5_paste_66 : decode cX5_paste 66 = .ok (.aload_n 0, 1) := by decide +kernel
theorem dX5_paste_67 : decode cX5_paste 67 = .ok (.invokevirtual 77, 3) := by decide +kernel
theorem dX5_paste_70 : decode cX5_paste 70 = .ok (.ireturn, 1) := by decide +kernel
theorem dX5_move_0 : decode cX5_move 0 = .ok (.aload_n 0, 1) := by decide +kernel
theorem dX5_move_1 : decode cX5_move 1 = .ok (.iload_n 1, 1) := by decide +kernel
theorem dX5_move_2 : decode cX5_move 2 = .ok (.iload_n 2, 1) := by decide +kernel
theorem dX5_move_3 : decode cX5_move 3 = .ok (.invokevirtual 95, 3) := by decide +kernel
theorem dX5_move_6 : decode cX5_move 6 = .ok (.istore 4, 2) := by decide +kernel
theorem dX5_move_8 : decode cX5_move 8 = .ok (.iload 4, 2) := by decide +kernel
theorem dX5_move_10 : decode cX5_move 10 = .ok (.ifCond .eq 6, 3) := by decide +kernel
theorem dX5_move_13 : decode cX5_move 13 = .ok (.iload 4, 2) := by decide +kernel
theorem dX5_move_15 : decode cX5_move 15 = .ok (.ireturn, 1) := by decide +kernel
theorem dX5_move_16 : decode cX5_move 16 = .ok (.iload_n 2, 1) := by decide +kernel
theorem dX5_move_17 : decode cX5_move 17 = .ok (.iload_n 1, 1) := by decide +kernel
theorem dX5_move_18 : decode cX5_move 18 = .ok (.isub, 1) := by decide +kernel
theorem dX5_move_19 : decode cX5_move 19 = .ok (.istore 5, 2) := by decide +kernel
theorem dX5_move_21 : decode cX5_move 21 = .ok (.iload_n 3, 1) := by decide +kernel
theorem dX5_move_22 : decode cX5_move 22 = .ok (.ifCond .lt 14, 3) := by decide +kernel
theorem dX5_move_25 : decode cX5_move 25 = .ok (.iload_n 3, 1) := by decide +kernel
theorem dX5_move_26 : decode cX5_move 26 = .ok (.aload_n 0, 1) := by decide +kernel
theorem dX5_move_27 : decode cX5_move 27 = .ok (.invokevirtual 77, 3) := by decide +kernel
theorem dX5_move_30 : decode cX5_move 30 = .ok (.iload 5, 2) := by decide +kernel
theorem dX5_move_32 : decode cX5_move 32 = .ok (.isub, 1) := by decide +kernel
theorem dX5_move_33 : decode cX5_move 33 = .ok (.if_icmp .le 6, 3) := by decide +kernel
theorem dX5_move_36 : decode cX5_move 36 = .ok (.bipush (-2), 2) := by decide +kernel
theorem dX5_move_38 : decode cX5_move 38 = .ok (.ireturn, 1) := by decide +kernel
theorem dX5_move_39 : decode cX5_move 39 = .ok (.aload_n 0, 1) := by decide +kernel
theorem dX5_move_40 : decode cX5_move 40 = .ok (.invokevirtual 81, 3) := by decide +kernel
theorem dX5_move_43 : decode cX5_move 43 = .ok (.aload_n 0, 1) := by decide +kernel
theorem dX5_move_44 : decode cX5_move 44 = .ok (.iload_n 3, 1) := by decide +kernel
theorem dX5_move_45 : decode cX5_move 45 = .ok (.aload_n 0, 1) := by decide +kernel
theorem dX5_move_46 : decode cX5_move 46 = .ok (.iload_n 1, 1) := by decide +kernel
theorem dX5_move_47 : decode cX5_move 47 = .ok (.iload_n 2, 1) := by decide +kernel
theorem dX5_move_48 : decode cX5_move 48 = .ok (.invokevirtual 99, 3) := by decide +kernel
theorem dX5_move_51 : decode cX5_move 51 = .ok (.invokevirtual 88, 3) := by decide +kernel
theorem dX5_move_54 : decode cX5_move 54 = .ok (.aload_n 0, 1) := by decide +kernel
theorem dX5_move_55 : decode cX5_move 55 = .ok (.invokevirtual 92, 3) := by decide +kernel
theorem dX5_move_58 : decode cX5_move 58 = .ok (.iload_n 3, 1) := by decide +kernel
theorem dX5_move_59 : decode cX5_move 59 = .ok (.iload 5, 2) := by decide +kernel
theorem dX5_move_61 : decode cX5_move 61 = .ok (.iadd, 1) := by decide +kernel
theorem dX5_move_62 : decode cX5_move 62 = .ok (.ireturn, 1) := by decide +kernel
theorem dX5_replaceAll_0 : decode cX5_replaceAll 0 = .ok (.aload_n 0, 1) := by decide +kernel
theorem dX5_replaceAll_1 : decode cX5_replaceAll 1 = .ok (.getfield 56, 3) := by decide +kernel
theorem dX5_replaceAll_4 : decode cX5_replaceAll 4 = .ok (.ifCond .eq 13, 3) := by decide +kernel
theorem dX5_replaceAll_7 : decode cX5_replaceAll 7 = .ok (.aload_n 0, 1) := by decide +kernel
theorem dX5_replaceAll_8 : decode cX5_replaceAll 8 = .ok (.getfield 34, 3) := by decide +kernel
theorem dX5_replaceAll_11 : decode cX5_replaceAll 11 = .ok (.getfield 138, 3) := by decide +kernel
theorem dX5_replaceAll_14 : decode cX5_replaceAll 14 = .ok (.ifCond .ne 6, 3) := by decide +kernel
theorem dX5_replaceAll_17 : decode cX5_replaceAll 17 = .ok (.bipush (-3), 2) := by decide +kernel
theorem dX5_replaceAll_19 : decode cX5_replaceAll 19 = .ok (.ireturn, 1) := by decide +kernel
theorem dX5_replaceAll_20 : decode cX5_replaceAll 20 = .ok (.aload_n 0, 1) := by decide +kernel
theorem dX5_replaceAll_21 : decode cX5_replaceAll 21 = .ok (.getfield 34, 3) := by decide +kernel
theorem dX5_replaceAll_24 : decode cX5_replaceAll 24 = .ok (.iconst 0, 1) := by decide +kernel
theorem dX5_replaceAll_25 : decode cX5_replaceAll 25 = .ok (.invokevirtual 129, 3) := by decide +kernel
theorem dX5_replaceAll_28 : decode cX5_replaceAll 28 = .ok (.istore_n 1, 1) := by decide +kernel
theorem dX5_replaceAll_29 : decode cX5_replaceAll 29 = .ok (.aload_n 0, 1) := by decide +kernel
theorem dX5_replaceAll_30 : decode cX5_replaceAll 30 = .ok (.getfield 20, 3) := by decide +kernel
theorem dX5_replaceAll_33 : decode cX5_replaceAll 33 = .ok (.iload_n 1, 1) := by decide +kernel
theorem dX5_replaceAll_34 : decode cX5_replaceAll 34 = .ok (.invokevirtual 133, 3) := by decide +kernel
theorem dX5_replaceAll_37 : decode cX5_replaceAll 37 = .ok (.aload_n 0, 1) := by decide +kernel
theorem dX5_replaceAll_38 : decode cX5_replaceAll 38 = .ok (.getfield 56, 3) := by decide +kernel
theorem dX5_replaceAll_41 : decode cX5_replaceAll 41 = .ok (.isub, 1) := by decide +kernel
theorem dX5_replaceAll_42 : decode cX5_replaceAll 42 = .ok (.istore_n 2, 1) := by decide +kernel
theorem dX5_replaceAll_43 : decode cX5_replaceAll 43 = .ok (.aload_n 0, 1) := by decide +kernel
theorem dX5_replaceAll_44 : decode cX5_replaceAll 44 = .ok (.invokevirtual 141, 3) := by decide +kernel
theorem dX5_replaceAll_47 : decode cX5_replaceAll 47 = .ok (.istore_n 3, 1) := by decide +kernel
theorem dX5_replaceAll_48 : decode cX5_replaceAll 48 = .ok (.aload_n 0, 1) := by decide +kernel
theorem dX5_replaceAll_49 : decode cX5_replaceAll 49 = .ok (.invokevirtual 77, 3) := by decide +kernel
theorem dX5_replaceAll_52 : decode cX5_replaceAll 52 = .ok (.iload_n 3, 1) := by decide +kernel
theorem dX5_replaceAll_53 : decode cX5_replaceAll 53 = .ok (.iload_n 2, 1) := by decide +kernel
theorem dX5_replaceAll_54 : decode cX5_replaceAll 54 = .ok (.imul, 1) := by decide +kernel
theorem dX5_replaceAll_55 : decode cX5_replaceAll 55 = .ok (.iadd, 1) := by decide +kernel
theorem dX5_replaceAll_56 : decode cX5_replaceAll 56 = .ok (.sipush 400, 3) := by decide +kernel
theorem dX5_replaceAll_59 : decode cX5_replaceAll 59 = .ok (.if_icmp .le 6, 3) := by decide +kernel
theorem dX5_replaceAll_62 : decode cX5_replaceAll 62 = .ok (.bipush (-4), 2) := by decide +kernel
theorem dX5_replaceAll_64 : decode cX5_replaceAll 64 = .ok (.ireturn, 1) := by decide +kernel
theorem dX5_replaceAll_65 : decode cX5_replaceAll 65 = .ok (.aload_n 0, 1) := by decide +kernel
theorem dX5_replaceAll_66 : decode cX5_replaceAll 66 = .ok (.getfield 41, 3) := by decide +kernel
theorem dX5_replaceAll_69 : decode cX5_replaceAll 69 = .ok (.aload_n 0, 1) := by decide +kernel
theorem dX5_replaceAll_70 : decode cX5_replaceAll 70 = .ok (.getfield 34, 3) := by decide +kernel
theorem dX5_replaceAll_73 : decode cX5_replaceAll 73 = .ok (.invokevirtual 66, 3) := by decide +kernel
theorem dX5_replaceAll_76 : decode cX5_replaceAll 76 = .ok (.iconst 0, 1) := by decide +kernel
theorem dX5_replaceAll_77 : decode cX5_replaceAll 77 = .ok (.istore 4, 2) := by decide +kernel
theorem dX5_replaceAll_79 : decode cX5_replaceAll 79 = .ok (.iload 4, 2) := by decide +kernel
theorem dX5_replaceAll_81 : decode cX5_replaceAll 81 = .ok (.iload_n 3, 1) := by decide +kernel
theorem dX5_replaceAll_82 : decode cX5_replaceAll 82 = .ok (.if_icmp .ge 58, 3) := by decide +kernel
theorem dX5_replaceAll_85 : decode cX5_replaceAll 85 = .ok (.iload 4, 2) := by decide +kernel
theorem dX5_replaceAll_87 : decode cX5_replaceAll 87 = .ok (.aload_n 0, 1) := by decide +kernel
theorem dX5_replaceAll_88 : decode cX5_replaceAll 88 = .ok (.getfield 60, 3) := by decide +kernel
theorem dX5_replaceAll_91 : decode cX5_replaceAll 91 = .ok (.arraylength, 1) := by decide +kernel
theorem dX5_replaceAll_92 : decode cX5_replaceAll 92 = .ok (.if_icmp .ge 48, 3) := by decide +kernel
theorem dX5_replaceAll_95 : decode cX5_replaceAll 95 = .ok (.aload_n 0, 1) := by decide +kernel
theorem dX5_replaceAll_96 : decode cX5_replaceAll 96 = .ok (.getfield 60, 3) := by decide +kernel
theorem dX5_replaceAll_99 : decode cX5_replaceAll 99 = .ok (.iload 4, 2) := by decide +kernel
theorem dX5_replaceAll_101 : decode cX5_replaceAll 101 = .ok (.iaload, 1) := by decide +kernel
theorem dX5_replaceAll_102 : decode cX5_replaceAll 102 = .ok (.iload 4, 2) := by decide +kernel
theorem dX5_replaceAll_104 : decode cX5_replaceAll 104 = .ok (.iload_n 2, 1) := by decide +kernel
theorem dX5_replaceAll_105 : decode cX5_replaceAll 105 = .ok (.imul, 1) := by decide +kernel
theorem dX5_replaceAll_106 : decode cX5_replaceAll 106 = .ok (.iadd, 1) := by decide +kernel
theorem dX5_replaceAll_107 : decode cX5_replaceAll 107 = .ok (.istore 5, 2) := by decide +kernel
theorem dX5_replaceAll_109 : decode cX5_replaceAll 109 = .ok (.aload_n 0, 1) := by decide +kernel
theorem dX5_replaceAll_110 : decode cX5_replaceAll 110 = .ok (.invokevirtual 144, 3) := by decide +kernel
theorem dX5_replaceAll_113 : decode cX5_replaceAll 113 = .ok (.aload_n 0, 1) := by decide +kernel
theorem dX5_replaceAll_114 : decode cX5_replaceAll 114 = .ok (.iload 5, 2) := by decide +kernel
theorem dX5_replaceAll_116 : decode cX5_replaceAll 116 = .ok (.iload 5, 2) := by decide +kernel
theorem dX5_replaceAll_118 : decode cX5_replaceAll 118 = .ok (.aload_n 0, 1) := by decide +kernel
theorem dX5_replaceAll_119 : decode cX5_replaceAll 119 = .ok (.getfield 56, 3) := by decide +kernel
theorem dX5_replaceAll_122 : decode cX5_replaceAll 122 = .ok (.iadd, 1) := by decide +kernel
theorem dX5_replaceAll_123 : decode cX5_replaceAll 123 = .ok (.invokevirtual 99, 3) := by decide +kernel
theorem dX5_replaceAll_126 : decode cX5_replaceAll 126 = .ok (.pop, 1) := by decide +kernel
theorem dX5_replaceAll_127 : decode cX5_replaceAll 127 = .ok (.aload_n 0, 1) := by decide +kernel
theorem dX5_replaceAll_128 : decode cX5_replaceAll 128 = .ok (.iload 5, 2) := by decide +kernel
theorem dX5_replaceAll_130 : decode cX5_replaceAll 130 = .ok (.iload_n 1, 1) := by decide +kernel
theorem dX5_replaceAll_131 : decode cX5_replaceAll 131 = .ok (.invokevirtual 88, 3) := by decide +kernel
theorem dX5_replaceAll_134 : decode cX5_replaceAll 134 = .ok (.iinc 4 1, 3) := by decide +kernel
theorem dX5_replaceAll_137 : decode cX5_replaceAll 137 = .ok (.goto (-58), 3) := by decide +kernel
theorem dX5_replaceAll_140 : decode cX5_replaceAll 140 = .ok (.iload_n 3, 1) := by decide +kernel
theorem dX5_replaceAll_141 : decode cX5_replaceAll 141 = .ok (.ifCond .le 7, 3) := by decide +kernel
theorem dX5_replaceAll_144 : decode cX5_replaceAll 144 = .ok (.aload_n 0, 1) := by decide +kernel
theorem dX5_replaceAll_145 : decode cX5_replaceAll 145 = .ok (.invokevirtual 92, 3) := by decide +kernel
theorem dX5_replaceAll_148 : decode cX5_replaceAll 148 = .ok (.iload_n 3, 1) := by decide +kernel
theorem dX5_replaceAll_149 : decode cX5_replaceAll 149 = .ok (.ireturn, 1) := by decide +kernel
theorem dX5_build_0 : decode cX5_build 0 = .ok (.aload_n 0, 1) := by decide +kernel
theorem dX5_build_1 : decode cX5_build 1 = .ok (.invokevirtual 81, 3) := by decide +kernel
theorem dX5_build_4 : decode cX5_build 4 = .ok (.aload_n 0, 1) := by decide +kernel
theorem dX5_build_5 : decode cX5_build 5 = .ok (.invokevirtual 147, 3) := by decide +kernel
theorem dX5_build_8 : decode cX5_build 8 = .ok (.aload_n 0, 1) := by decide +kernel
theorem dX5_build_9 : decode cX5_build 9 = .ok (.invokevirtual 150, 3) := by decide +kernel
theorem dX5_build_12 : decode cX5_build 12 = .ok (.ireturn, 1) := by decide +kernel
theorem dX5_pack_0 : decode cX5_pack 0 = .ok (.aload_n 0, 1) := by decide +kernel
theorem dX5_pack_1 : decode cX5_pack 1 = .ok (.invokevirtual 81, 3) := by decide +kernel
theorem dX5_pack_4 : decode cX5_pack 4 = .ok (.aload_n 0, 1) := by decide +kernel
theorem dX5_pack_5 : decode cX5_pack 5 = .ok (.getfield 24, 3) := by decide +kernel
theorem dX5_pack_8 : decode cX5_pack 8 = .ok (.aload_n 0, 1) := by decide +kernel
theorem dX5_pack_9 : decode cX5_pack 9 = .ok (.getfield 20, 3) := by decide +kernel
theorem dX5_pack_12 : decode cX5_pack 12 = .ok (.aload_n 0, 1) := by decide +kernel
theorem dX5_pack_13 : decode cX5_pack 13 = .ok (.getfield 34, 3) := by decide +kernel
theorem dX5_pack_16 : decode cX5_pack 16 = .ok (.getfield 106, 3) := by decide +kernel
theorem dX5_pack_19 : decode cX5_pack 19 = .ok (.invokevirtual 119, 3) := by decide +kernel
theorem dX5_pack_22 : decode cX5_pack 22 = .ok (.aload_n 0, 1) := by decide +kernel
theorem dX5_pack_23 : decode cX5_pack 23 = .ok (.getfield 34, 3) := by decide +kernel
theorem dX5_pack_26 : decode cX5_pack 26 = .ok (.aload_n 0, 1) := by decide +kernel
theorem dX5_pack_27 : decode cX5_pack 27 = .ok (.getfield 12, 3) := by decide +kernel
theorem dX5_pack_30 : decode cX5_pack 30 = .ok (.aload_n 0, 1) := by decide +kernel
theorem dX5_pack_31 : decode cX5_pack 31 = .ok (.getfield 24, 3) := by decide +kernel
theorem dX5_pack_34 : decode cX5_pack 34 = .ok (.getfield 153, 3) := by decide +kernel
theorem dX5_pack_37 : decode cX5_pack 37 = .ok (.aload_n 0, 1) := by decide +kernel
theorem dX5_pack_38 : decode cX5_pack 38 = .ok (.getfield 24, 3) := by decide +kernel
theorem dX5_pack_41 : decode cX5_pack 41 = .ok (.getfield 156, 3) := by decide +kernel
theorem dX5_pack_44 : decode cX5_pack 44 = .ok (.aload_n 0, 1) := by decide +kernel
theorem dX5_pack_45 : decode cX5_pack 45 = .ok (.getfield 34, 3) := by decide +kernel
theorem dX5_pack_48 : decode cX5_pack 48 = .ok (.getfield 63, 3) := by decide +kernel
theorem dX5_pack_51 : decode cX5_pack 51 = .ok (.invokevirtual 84, 3) := by decide +kernel
theorem dX5_pack_54 : decode cX5_pack 54 = .ok (.putfield 106, 3) := by decide +kernel
theorem dX5_pack_57 : decode cX5_pack 57 = .ok (.aload_n 0, 1) := by decide +kernel
theorem dX5_pack_58 : decode cX5_pack 58 = .ok (.invokevirtual 159, 3) := by decide +kernel
theorem dX5_pack_61 : decode cX5_pack 61 = .ok (.ireturn, 1) := by decide +kernel
theorem dX5_length_0 : decode cX5_length 0 = .ok (.aload_n 0, 1) := by decide +kernel
theorem dX5_length_1 : decode cX5_length 1 = .ok (.getfield 20, 3) := by decide +kernel
theorem dX5_length_4 : decode cX5_length 4 = .ok (.aload_n 0, 1) := by decide +kernel
theorem dX5_length_5 : decode cX5_length 5 = .ok (.getfield 34, 3) := by decide +kernel
theorem dX5_length_8 : decode cX5_length 8 = .ok (.getfield 106, 3) := by decide +kernel
theorem dX5_length_11 : decode cX5_length 11 = .ok (.invokevirtual 133, 3) := by decide +kernel
theorem dX5_length_14 : decode cX5_length 14 = .ok (.ireturn, 1) := by decide +kernel
theorem dX5_depth_0 : decode cX5_depth 0 = .ok (.aload_n 0, 1) := by decide +kernel
theorem dX5_depth_1 : decode cX5_depth 1 = .ok (.getfield 20, 3) := by decide +kernel
theorem dX5_depth_4 : decode cX5_depth 4 = .ok (.aload_n 0, 1) := by decide +kernel
theorem dX5_depth_5 : decode cX5_depth 5 = .ok (.getfield 34, 3) := by decide +kernel
theorem dX5_depth_8 : decode cX5_depth 8 = .ok (.getfield 106, 3) := by decide +kernel
theorem dX5_depth_11 : decode cX5_depth 11 = .ok (.invokevirtual 162, 3) := by decide +kernel
theorem dX5_depth_14 : decode cX5_depth 14 = .ok (.ireturn, 1) := by decide +kernel
theorem dX5_leaves_0 : decode cX5_leaves 0 = .ok (.aload_n 0, 1) := by decide +kernel
theorem dX5_leaves_1 : decode cX5_leaves 1 = .ok (.getfield 24, 3) := by decide +kernel
theorem dX5_leaves_4 : decode cX5_leaves 4 = .ok (.aload_n 0, 1) := by decide +kernel
theorem dX5_leaves_5 : decode cX5_leaves 5 = .ok (.getfield 20, 3) := by decide +kernel
theorem dX5_leaves_8 : decode cX5_leaves 8 = .ok (.aload_n 0, 1) := by decide +kernel
theorem dX5_leaves_9 : decode cX5_leaves 9 = .ok (.getfield 34, 3) := by decide +kernel
theorem dX5_leaves_12 : decode cX5_leaves 12 = .ok (.getfield 106, 3) := by decide +kernel
theorem dX5_leaves_15 : decode cX5_leaves 15 = .ok (.invokevirtual 119, 3) := by decide +kernel
theorem dX5_leaves_18 : decode cX5_leaves 18 = .ok (.aload_n 0, 1) := by decide +kernel
theorem dX5_leaves_19 : decode cX5_leaves 19 = .ok (.getfield 24, 3) := by decide +kernel
theorem dX5_leaves_22 : decode cX5_leaves 22 = .ok (.getfield 123, 3) := by decide +kernel
theorem dX5_leaves_25 : decode cX5_leaves 25 = .ok (.ireturn, 1) := by decide +kernel
theorem dX5_isBalanced_0 : decode cX5_isBalanced 0 = .ok (.aload_n 0, 1) := by decide +kernel
theorem dX5_isBalanced_1 : decode cX5_isBalanced 1 = .ok (.getfield 12, 3) := by decide +kernel
theorem dX5_isBalanced_4 : decode cX5_isBalanced 4 = .ok (.aload_n 0, 1) := by decide +kernel
theorem dX5_isBalanced_5 : decode cX5_isBalanced 5 = .ok (.getfield 34, 3) := by decide +kernel
theorem dX5_isBalanced_8 : decode cX5_isBalanced 8 = .ok (.getfield 106, 3) := by decide +kernel
theorem dX5_isBalanced_11 : decode cX5_isBalanced 11 = .ok (.invokevirtual 165, 3) := by decide +kernel
theorem dX5_isBalanced_14 : decode cX5_isBalanced 14 = .ok (.ifCond .eq 7, 3) := by decide +kernel
theorem dX5_isBalanced_17 : decode cX5_isBalanced 17 = .ok (.iconst 1, 1) := by decide +kernel
theorem dX5_isBalanced_18 : decode cX5_isBalanced 18 = .ok (.goto 4, 3) := by decide +kernel
theorem dX5_isBalanced_21 : decode cX5_isBalanced 21 = .ok (.iconst 0, 1) := by decide +kernel
theorem dX5_isBalanced_22 : decode cX5_isBalanced 22 = .ok (.ireturn, 1) := by decide +kernel
theorem dX5_builds_0 : decode cX5_builds 0 = .ok (.aload_n 0, 1) := by decide +kernel
theorem dX5_builds_1 : decode cX5_builds 1 = .ok (.getfield 34, 3) := by decide +kernel
theorem dX5_builds_4 : decode cX5_builds 4 = .ok (.getfield 168, 3) := by decide +kernel
theorem dX5_builds_7 : decode cX5_builds 7 = .ok (.ireturn, 1) := by decide +kernel
theorem dX5_character_0 : decode cX5_character 0 = .ok (.iload_n 1, 1) := by decide +kernel
theorem dX5_character_1 : decode cX5_character 1 = .ok (.ifCond .lt 11, 3) := by decide +kernel
theorem dX5_character_4 : decode cX5_character 4 = .ok (.iload_n 1, 1) := by decide +kernel
theorem dX5_character_5 : decode cX5_character 5 = .ok (.aload_n 0, 1) := by decide +kernel
theorem dX5_character_6 : decode cX5_character 6 = .ok (.invokevirtual 77, 3) := by decide +kernel
theorem dX5_character_9 : decode cX5_character 9 = .ok (.if_icmp .lt 5, 3) := by decide +kernel
theorem dX5_character_12 : decode cX5_character 12 = .ok (.iconst (-1), 1) := by decide +kernel
theorem dX5_character_13 : decode cX5_character 13 = .ok (.ireturn, 1) := by decide +kernel
theorem dX5_character_14 : decode cX5_character 14 = .ok (.aload_n 0, 1) := by decide +kernel
theorem dX5_character_15 : decode cX5_character 15 = .ok (.getfield 12, 3) := by decide +kernel
theorem dX5_character_18 : decode cX5_character 18 = .ok (.aload_n 0, 1) := by decide +kernel
theorem dX5_character_19 : decode cX5_character 19 = .ok (.getfield 34, 3) := by decide +kernel
theorem dX5_character_22 : decode cX5_character 22 = .ok (.getfield 106, 3) := by decide +kernel
theorem dX5_character_25 : decode cX5_character 25 = .ok (.iload_n 1, 1) := by decide +kernel
theorem dX5_character_26 : decode cX5_character 26 = .ok (.invokevirtual 171, 3) := by decide +kernel
theorem dX5_character_29 : decode cX5_character 29 = .ok (.ireturn, 1) := by decide +kernel
theorem dX5_leaf_0 : decode cX5_leaf 0 = .ok (.aload_n 0, 1) := by decide +kernel
theorem dX5_leaf_1 : decode cX5_leaf 1 = .ok (.getfield 24, 3) := by decide +kernel
theorem dX5_leaf_4 : decode cX5_leaf 4 = .ok (.aload_n 0, 1) := by decide +kernel
theorem dX5_leaf_5 : decode cX5_leaf 5 = .ok (.getfield 20, 3) := by decide +kernel
theorem dX5_leaf_8 : decode cX5_leaf 8 = .ok (.aload_n 0, 1) := by decide +kernel
theorem dX5_leaf_9 : decode cX5_leaf 9 = .ok (.getfield 34, 3) := by decide +kernel
theorem dX5_leaf_12 : decode cX5_leaf 12 = .ok (.getfield 106, 3) := by decide +kernel
theorem dX5_leaf_15 : decode cX5_leaf 15 = .ok (.invokevirtual 119, 3) := by decide +kernel
theorem dX5_leaf_18 : decode cX5_leaf 18 = .ok (.iload_n 1, 1) := by decide +kernel
theorem dX5_leaf_19 : decode cX5_leaf 19 = .ok (.ifCond .lt 14, 3) := by decide +kernel
theorem dX5_leaf_22 : decode cX5_leaf 22 = .ok (.iload_n 1, 1) := by decide +kernel
theorem dX5_leaf_23 : decode cX5_leaf 23 = .ok (.aload_n 0, 1) := by decide +kernel
theorem dX5_leaf_24 : decode cX5_leaf 24 = .ok (.getfield 24, 3) := by decide +kernel
theorem dX5_leaf_27 : decode cX5_leaf 27 = .ok (.getfield 123, 3) := by decide +kernel
theorem dX5_leaf_30 : decode cX5_leaf 30 = .ok (.if_icmp .lt 5, 3) := by decide +kernel
theorem dX5_leaf_33 : decode cX5_leaf 33 = .ok (.iconst (-1), 1) := by decide +kernel
theorem dX5_leaf_34 : decode cX5_leaf 34 = .ok (.ireturn, 1) := by decide +kernel
theorem dX5_leaf_35 : decode cX5_leaf 35 = .ok (.iload_n 2, 1) := by decide +kernel
theorem dX5_leaf_36 : decode cX5_leaf 36 = .ok (.tableswitch 55 0 2 #[28, 37, 46], 28) := by decide +kernel
theorem dX5_leaf_64 : decode cX5_leaf 64 = .ok (.aload_n 0, 1) := by decide +kernel
theorem dX5_leaf_65 : decode cX5_leaf 65 = .ok (.getfield 24, 3) := by decide +kernel
theorem dX5_leaf_68 : decode cX5_leaf 68 = .ok (.iload_n 1, 1) := by decide +kernel
theorem dX5_leaf_69 : decode cX5_leaf 69 = .ok (.invokevirtual 174, 3) := by decide +kernel
theorem dX5_leaf_72 : decode cX5_leaf 72 = .ok (.ireturn, 1) := by decide +kernel
theorem dX5_leaf_73 : decode cX5_leaf 73 = .ok (.aload_n 0, 1) := by decide +kernel
theorem dX5_leaf_74 : decode cX5_leaf 74 = .ok (.getfield 24, 3) := by decide +kernel
theorem dX5_leaf_77 : decode cX5_leaf 77 = .ok (.iload_n 1, 1) := by decide +kernel
theorem dX5_leaf_78 : decode cX5_leaf 78 = .ok (.invokevirtual 177, 3) := by decide +kernel
theorem dX5_leaf_81 : decode cX5_leaf 81 = .ok (.ireturn, 1) := by decide +kernel
theorem dX5_leaf_82 : decode cX5_leaf 82 = .ok (.aload_n 0, 1) := by decide +kernel
theorem dX5_leaf_83 : decode cX5_leaf 83 = .ok (.getfield 24, 3) := by decide +kernel
theorem dX5_leaf_86 : decode cX5_leaf 86 = .ok (.iload_n 1, 1) := by decide +kernel
theorem dX5_leaf_87 : decode cX5_leaf 87 = .ok (.invokevirtual 180, 3) := by decide +kernel
theorem dX5_leaf_90 : decode cX5_leaf 90 = .ok (.ireturn, 1) := by decide +kernel
theorem dX5_leaf_91 : decode cX5_leaf 91 = .ok (.bipush (-2), 2) := by decide +kernel
theorem dX5_leaf_93 : decode cX5_leaf 93 = .ok (.ireturn, 1) := by decide +kernel
theorem dX5_way_0 : decode cX5_way 0 = .ok (.iload_n 1, 1) := by decide +kernel
theorem dX5_way_1 : decode cX5_way 1 = .ok (.ifCond .lt 11, 3) := by decide +kernel
theorem dX5_way_4 : decode cX5_way 4 = .ok (.iload_n 1, 1) := by decide +kernel
theorem dX5_way_5 : decode cX5_way 5 = .ok (.aload_n 0, 1) := by decide +kernel
theorem dX5_way_6 : decode cX5_way 6 = .ok (.invokevirtual 77, 3) := by decide +kernel
theorem dX5_way_9 : decode cX5_way 9 = .ok (.if_icmp .lt 5, 3) := by decide +kernel
theorem dX5_way_12 : decode cX5_way 12 = .ok (.iconst (-1), 1) := by decide +kernel
theorem dX5_way_13 : decode cX5_way 13 = .ok (.ireturn, 1) := by decide +kernel
theorem dX5_way_14 : decode cX5_way 14 = .ok (.aload_n 0, 1) := by decide +kernel
theorem dX5_way_15 : decode cX5_way 15 = .ok (.getfield 12, 3) := by decide +kernel
theorem dX5_way_18 : decode cX5_way 18 = .ok (.aload_n 0, 1) := by decide +kernel
theorem dX5_way_19 : decode cX5_way 19 = .ok (.getfield 34, 3) := by decide +kernel
theorem dX5_way_22 : decode cX5_way 22 = .ok (.getfield 106, 3) := by decide +kernel
theorem dX5_way_25 : decode cX5_way 25 = .ok (.iload_n 1, 1) := by decide +kernel
theorem dX5_way_26 : decode cX5_way 26 = .ok (.invokevirtual 183, 3) := by decide +kernel
theorem dX5_way_29 : decode cX5_way 29 = .ok (.ireturn, 1) := by decide +kernel
theorem dX5_find_0 : decode cX5_find 0 = .ok (.aload_n 0, 1) := by decide +kernel
theorem dX5_find_1 : decode cX5_find 1 = .ok (.iload_n 1, 1) := by decide +kernel
theorem dX5_find_2 : decode cX5_find 2 = .ok (.invokevirtual 73, 3) := by decide +kernel
theorem dX5_find_5 : decode cX5_find 5 = .ok (.ifCond .ne 5, 3) := by decide +kernel
theorem dX5_find_8 : decode cX5_find 8 = .ok (.iconst (-1), 1) := by decide +kernel
theorem dX5_find_9 : decode cX5_find 9 = .ok (.ireturn, 1) := by decide +kernel
theorem dX5_find_10 : decode cX5_find 10 = .ok (.aload_n 0, 1) := by decide +kernel
theorem dX5_find_11 : decode cX5_find 11 = .ok (.getfield 56, 3) := by decide +kernel
theorem dX5_find_14 : decode cX5_find 14 = .ok (.ifCond .ne 6, 3) := by decide +kernel
theorem dX5_find_17 : decode cX5_find 17 = .ok (.bipush (-3), 2) := by decide +kernel
theorem dX5_find_19 : decode cX5_find 19 = .ok (.ireturn, 1) := by decide +kernel
theorem dX5_find_20 : decode cX5_find 20 = .ok (.aload_n 0, 1) := by decide +kernel
theorem dX5_find_21 : decode cX5_find 21 = .ok (.getfield 24, 3) := by decide +kernel
theorem dX5_find_24 : decode cX5_find 24 = .ok (.aload_n 0, 1) := by decide +kernel
theorem dX5_find_25 : decode cX5_find 25 = .ok (.getfield 20, 3) := by decide +kernel
theorem dX5_find_28 : decode cX5_find 28 = .ok (.aload_n 0, 1) := by decide +kernel
theorem dX5_find_29 : decode cX5_find 29 = .ok (.getfield 34, 3) := by decide +kernel
theorem dX5_find_32 : decode cX5_find 32 = .ok (.getfield 106, 3) := by decide +kernel
theorem dX5_find_35 : decode cX5_find 35 = .ok (.invokevirtual 119, 3) := by decide +kernel
theorem dX5_find_38 : decode cX5_find 38 = .ok (.aload_n 0, 1) := by decide +kernel
theorem dX5_find_39 : decode cX5_find 39 = .ok (.getfield 24, 3) := by decide +kernel
theorem dX5_find_42 : decode cX5_find 42 = .ok (.aload_n 0, 1) := by decide +kernel
theorem dX5_find_43 : decode cX5_find 43 = .ok (.getfield 53, 3) := by decide +kernel
theorem dX5_find_46 : decode cX5_find 46 = .ok (.aload_n 0, 1) := by decide +kernel
theorem dX5_find_47 : decode cX5_find 47 = .ok (.getfield 56, 3) := by decide +kernel
theorem dX5_find_50 : decode cX5_find 50 = .ok (.iload_n 1, 1) := by decide +kernel
theorem dX5_find_51 : decode cX5_find 51 = .ok (.invokevirtual 186, 3) := by decide +kernel
theorem dX5_find_54 : decode cX5_find 54 = .ok (.ireturn, 1) := by decide +kernel
theorem dX5_lines_0 : decode cX5_lines 0 = .ok (.aload_n 0, 1) := by decide +kernel
theorem dX5_lines_1 : decode cX5_lines 1 = .ok (.getfield 24, 3) := by decide +kernel
theorem dX5_lines_4 : decode cX5_lines 4 = .ok (.aload_n 0, 1) := by decide +kernel
theorem dX5_lines_5 : decode cX5_lines 5 = .ok (.getfield 20, 3) := by decide +kernel
theorem dX5_lines_8 : decode cX5_lines 8 = .ok (.aload_n 0, 1) := by decide +kernel
theorem dX5_lines_9 : decode cX5_lines 9 = .ok (.getfield 34, 3) := by decide +kernel
theorem dX5_lines_12 : decode cX5_lines 12 = .ok (.getfield 106, 3) := by decide +kernel
theorem dX5_lines_15 : decode cX5_lines 15 = .ok (.invokevirtual 119, 3) := by decide +kernel
theorem dX5_lines_18 : decode cX5_lines 18 = .ok (.iconst 1, 1) := by decide +kernel
theorem dX5_lines_19 : decode cX5_lines 19 = .ok (.aload_n 0, 1) := by decide +kernel
theorem dX5_lines_20 : decode cX5_lines 20 = .ok (.getfield 24, 3) := by decide +kernel
theorem dX5_lines_23 : decode cX5_lines 23 = .ok (.aload_n 0, 1) := by decide +kernel
theorem dX5_lines_24 : decode cX5_lines 24 = .ok (.getfield 24, 3) := by decide +kernel
theorem dX5_lines_27 : decode cX5_lines 27 = .ok (.getfield 156, 3) := by decide +kernel
theorem dX5_lines_30 : decode cX5_lines 30 = .ok (.invokevirtual 189, 3) := by decide +kernel
theorem dX5_lines_33 : decode cX5_lines 33 = .ok (.iadd, 1) := by decide +kernel
theorem dX5_lines_34 : decode cX5_lines 34 = .ok (.ireturn, 1) := by decide +kernel
theorem dX5_lineStart_0 : decode cX5_lineStart 0 = .ok (.aload_n 0, 1) := by decide +kernel
theorem dX5_lineStart_1 : decode cX5_lineStart 1 = .ok (.getfield 24, 3) := by decide +kernel
theorem dX5_lineStart_4 : decode cX5_lineStart 4 = .ok (.aload_n 0, 1) := by decide +kernel
theorem dX5_lineStart_5 : decode cX5_lineStart 5 = .ok (.getfield 20, 3) := by decide +kernel
theorem dX5_lineStart_8 : decode cX5_lineStart 8 = .ok (.aload_n 0, 1) := by decide +kernel
theorem dX5_lineStart_9 : decode cX5_lineStart 9 = .ok (.getfield 34, 3) := by decide +kernel
theorem dX5_lineStart_12 : decode cX5_lineStart 12 = .ok (.getfield 106, 3) := by decide +kernel
theorem dX5_lineStart_15 : decode cX5_lineStart 15 = .ok (.invokevirtual 119, 3) := by decide +kernel
theorem dX5_lineStart_18 : decode cX5_lineStart 18 = .ok (.aload_n 0, 1) := by decide +kernel
theorem dX5_lineStart_19 : decode cX5_lineStart 19 = .ok (.getfield 24, 3) := by decide +kernel
theorem dX5_lineStart_22 : decode cX5_lineStart 22 = .ok (.iload_n 1, 1) := by decide +kernel
theorem dX5_lineStart_23 : decode cX5_lineStart 23 = .ok (.invokevirtual 192, 3) := by decide +kernel
theorem dX5_lineStart_26 : decode cX5_lineStart 26 = .ok (.ireturn, 1) := by decide +kernel
theorem dX5_lineOf_0 : decode cX5_lineOf 0 = .ok (.aload_n 0, 1) := by decide +kernel
theorem dX5_lineOf_1 : decode cX5_lineOf 1 = .ok (.iload_n 1, 1) := by decide +kernel
theorem dX5_lineOf_2 : decode cX5_lineOf 2 = .ok (.invokevirtual 73, 3) := by decide +kernel
theorem dX5_lineOf_5 : decode cX5_lineOf 5 = .ok (.ifCond .ne 5, 3) := by decide +kernel
theorem dX5_lineOf_8 : decode cX5_lineOf 8 = .ok (.iconst (-1), 1) := by decide +kernel
theorem dX5_lineOf_9 : decode cX5_lineOf 9 = .ok (.ireturn, 1) := by decide +kernel
theorem dX5_lineOf_10 : decode cX5_lineOf 10 = .ok (.aload_n 0, 1) := by decide +kernel
theorem dX5_lineOf_11 : decode cX5_lineOf 11 = .ok (.getfield 24, 3) := by decide +kernel
theorem dX5_lineOf_14 : decode cX5_lineOf 14 = .ok (.aload_n 0, 1) := by decide +kernel
theorem dX5_lineOf_15 : decode cX5_lineOf 15 = .ok (.getfield 20, 3) := by decide +kernel
theorem dX5_lineOf_18 : decode cX5_lineOf 18 = .ok (.aload_n 0, 1) := by decide +kernel
theorem dX5_lineOf_19 : decode cX5_lineOf 19 = .ok (.getfield 34, 3) := by decide +kernel
theorem dX5_lineOf_22 : decode cX5_lineOf 22 = .ok (.getfield 106, 3) := by decide +kernel
theorem dX5_lineOf_25 : decode cX5_lineOf 25 = .ok (.invokevirtual 119, 3) := by decide +kernel
theorem dX5_lineOf_28 : decode cX5_lineOf 28 = .ok (.aload_n 0, 1) := by decide +kernel
theorem dX5_lineOf_29 : decode cX5_lineOf 29 = .ok (.getfield 24, 3) := by decide +kernel
theorem dX5_lineOf_32 : decode cX5_lineOf 32 = .ok (.iload_n 1, 1) := by decide +kernel
theorem dX5_lineOf_33 : decode cX5_lineOf 33 = .ok (.invokevirtual 189, 3) := by decide +kernel
theorem dX5_lineOf_36 : decode cX5_lineOf 36 = .ok (.ireturn, 1) := by decide +kernel
theorem dX5_setMark_0 : decode cX5_setMark 0 = .ok (.iload_n 1, 1) := by decide +kernel
theorem dX5_setMark_1 : decode cX5_setMark 1 = .ok (.ifCond .lt 16, 3) := by decide +kernel
theorem dX5_setMark_4 : decode cX5_setMark 4 = .ok (.iload_n 1, 1) := by decide +kernel
theorem dX5_setMark_5 : decode cX5_setMark 5 = .ok (.iconst 4, 1) := by decide +kernel
theorem dX5_setMark_6 : decode cX5_setMark 6 = .ok (.if_icmp .ge 11, 3) := by decide +kernel
theorem dX5_setMark_9 : decode cX5_setMark 9 = .ok (.aload_n 0, 1) := by decide +kernel
theorem dX5_setMark_10 : decode cX5_setMark 10 = .ok (.iload_n 2, 1) := by decide +kernel
theorem dX5_setMark_11 : decode cX5_setMark 11 = .ok (.invokevirtual 73, 3) := by decide +kernel
theorem dX5_setMark_14 : decode cX5_setMark 14 = .ok (.ifCond .ne 5, 3) := by decide +kernel
theorem dX5_setMark_17 : decode cX5_setMark 17 = .ok (.iconst (-1), 1) := by decide +kernel
theorem dX5_setMark_18 : decode cX5_setMark 18 = .ok (.ireturn, 1) := by decide +kernel
theorem dX5_setMark_19 : decode cX5_setMark 19 = .ok (.aload_n 0, 1) := by decide +kernel
theorem dX5_setMark_20 : decode cX5_setMark 20 = .ok (.getfield 34, 3) := by decide +kernel
theorem dX5_setMark_23 : decode cX5_setMark 23 = .ok (.iload_n 1, 1) := by decide +kernel
theorem dX5_setMark_24 : decode cX5_setMark 24 = .ok (.invokevirtual 195, 3) := by decide +kernel
theorem dX5_setMark_27 : decode cX5_setMark 27 = .ok (.istore_n 3, 1) := by decide +kernel
theorem dX5_setMark_28 : decode cX5_setMark 28 = .ok (.aload_n 0, 1) := by decide +kernel
theorem dX5_setMark_29 : decode cX5_setMark 29 = .ok (.getfield 41, 3) := by decide +kernel
theorem dX5_setMark_32 : decode cX5_setMark 32 = .ok (.aload_n 0, 1) := by decide +kernel
theorem dX5_setMark_33 : decode cX5_setMark 33 = .ok (.getfield 34, 3) := by decide +kernel
theorem dX5_setMark_36 : decode cX5_setMark 36 = .ok (.invokevirtual 66, 3) := by decide +kernel
theorem dX5_setMark_39 : decode cX5_setMark 39 = .ok (.aload_n 0, 1) := by decide +kernel
theorem dX5_setMark_40 : decode cX5_setMark 40 = .ok (.getfield 34, 3) := by decide +kernel
theorem dX5_setMark_43 : decode cX5_setMark 43 = .ok (.iload_n 1, 1) := by decide +kernel
theorem dX5_setMark_44 : decode cX5_setMark 44 = .ok (.iload_n 2, 1) := by decide +kernel
theorem dX5_setMark_45 : decode cX5_setMark 45 = .ok (.invokevirtual 198, 3) := by decide +kernel
theorem dX5_setMark_48 : decode cX5_setMark 48 = .ok (.iload_n 3, 1) := by decide +kernel
theorem dX5_setMark_49 : decode cX5_setMark 49 = .ok (.ireturn, 1) := by decide +kernel
theorem dX5_mark_0 : decode cX5_mark 0 = .ok (.iload_n 1, 1) := by decide +kernel
theorem dX5_mark_1 : decode cX5_mark 1 = .ok (.ifCond .lt 8, 3) := by decide +kernel
theorem dX5_mark_4 : decode cX5_mark 4 = .ok (.iload_n 1, 1) := by decide +kernel
theorem dX5_mark_5 : decode cX5_mark 5 = .ok (.iconst 4, 1) := by decide +kernel
theorem dX5_mark_6 : decode cX5_mark 6 = .ok (.if_icmp .lt 5, 3) := by decide +kernel
theorem dX5_mark_9 : decode cX5_mark 9 = .ok (.iconst (-1), 1) := by decide +kernel
theorem dX5_mark_10 : decode cX5_mark 10 = .ok (.ireturn, 1) := by decide +kernel
theorem dX5_mark_11 : decode cX5_mark 11 = .ok (.aload_n 0, 1) := by decide +kernel
theorem dX5_mark_12 : decode cX5_mark 12 = .ok (.getfield 34, 3) := by decide +kernel
theorem dX5_mark_15 : decode cX5_mark 15 = .ok (.iload_n 1, 1) := by decide +kernel
theorem dX5_mark_16 : decode cX5_mark 16 = .ok (.invokevirtual 195, 3) := by decide +kernel
theorem dX5_mark_19 : decode cX5_mark 19 = .ok (.ireturn, 1) := by decide +kernel
theorem dX5_ring_0 : decode cX5_ring 0 = .ok (.aload_n 0, 1) := by decide +kernel
theorem dX5_ring_1 : decode cX5_ring 1 = .ok (.getfield 34, 3) := by decide +kernel
theorem dX5_ring_4 : decode cX5_ring 4 = .ok (.getfield 138, 3) := by decide +kernel
theorem dX5_ring_7 : decode cX5_ring 7 = .ok (.ireturn, 1) := by decide +kernel
theorem dX5_ofRing_0 : decode cX5_ofRing 0 = .ok (.aload_n 0, 1) := by decide +kernel
theorem dX5_ofRing_1 : decode cX5_ofRing 1 = .ok (.getfield 34, 3) := by decide +kernel
theorem dX5_ofRing_4 : decode cX5_ofRing 4 = .ok (.iload_n 1, 1) := by decide +kernel
theorem dX5_ofRing_5 : decode cX5_ofRing 5 = .ok (.invokevirtual 126, 3) := by decide +kernel
theorem dX5_ofRing_8 : decode cX5_ofRing 8 = .ok (.ifCond .ne 5, 3) := by decide +kernel
theorem dX5_ofRing_11 : decode cX5_ofRing 11 = .ok (.iconst (-1), 1) := by decide +kernel
theorem dX5_ofRing_12 : decode cX5_ofRing 12 = .ok (.ireturn, 1) := by decide +kernel
theorem dX5_ofRing_13 : decode cX5_ofRing 13 = .ok (.aload_n 0, 1) := by decide +kernel
theorem dX5_ofRing_14 : decode cX5_ofRing 14 = .ok (.getfield 34, 3) := by decide +kernel
theorem dX5_ofRing_17 : decode cX5_ofRing 17 = .ok (.iload_n 1, 1) := by decide +kernel
theorem dX5_ofRing_18 : decode cX5_ofRing 18 = .ok (.invokevirtual 129, 3) := by decide +kernel
theorem dX5_ofRing_21 : decode cX5_ofRing 21 = .ok (.istore_n 3, 1) := by decide +kernel
theorem dX5_ofRing_22 : decode cX5_ofRing 22 = .ok (.iload_n 2, 1) := by decide +kernel
theorem dX5_ofRing_23 : decode cX5_ofRing 23 = .ok (.tableswitch 63 0 2 #[25, 34, 43], 25) := by decide +kernel
theorem dX5_ofRing_48 : decode cX5_ofRing 48 = .ok (.aload_n 0, 1) := by decide +kernel
theorem dX5_ofRing_49 : decode cX5_ofRing 49 = .ok (.getfield 20, 3) := by decide +kernel
theorem dX5_ofRing_52 : decode cX5_ofRing 52 = .ok (.iload_n 3, 1) := by decide +kernel
theorem dX5_ofRing_53 : decode cX5_ofRing 53 = .ok (.invokevirtual 133, 3) := by decide +kernel
theorem dX5_ofRing_56 : decode cX5_ofRing 56 = .ok (.ireturn, 1) := by decide +kernel
theorem dX5_ofRing_57 : decode cX5_ofRing 57 = .ok (.aload_n 0, 1) := by decide +kernel
theorem dX5_ofRing_58 : decode cX5_ofRing 58 = .ok (.getfield 20, 3) := by decide +kernel
theorem dX5_ofRing_61 : decode cX5_ofRing 61 = .ok (.iload_n 3, 1) := by decide +kernel
theorem dX5_ofRing_62 : decode cX5_ofRing 62 = .ok (.invokevirtual 162, 3) := by decide +kernel
theorem dX5_ofRing_65 : decode cX5_ofRing 65 = .ok (.ireturn, 1) := by decide +kernel
theorem dX5_ofRing_66 : decode cX5_ofRing 66 = .ok (.aload_n 0, 1) := by decide +kernel
theorem dX5_ofRing_67 : decode cX5_ofRing 67 = .ok (.getfield 24, 3) := by decide +kernel
theorem dX5_ofRing_70 : decode cX5_ofRing 70 = .ok (.aload_n 0, 1) := by decide +kernel
theorem dX5_ofRing_71 : decode cX5_ofRing 71 = .ok (.getfield 20, 3) := by decide +kernel
theorem dX5_ofRing_74 : decode cX5_ofRing 74 = .ok (.iload_n 3, 1) := by decide +kernel
theorem dX5_ofRing_75 : decode cX5_ofRing 75 = .ok (.invokevirtual 119, 3) := by decide +kernel
theorem dX5_ofRing_78 : decode cX5_ofRing 78 = .ok (.aload_n 0, 1) := by decide +kernel
theorem dX5_ofRing_79 : decode cX5_ofRing 79 = .ok (.getfield 24, 3) := by decide +kernel
theorem dX5_ofRing_82 : decode cX5_ofRing 82 = .ok (.getfield 123, 3) := by decide +kernel
theorem dX5_ofRing_85 : decode cX5_ofRing 85 = .ok (.ireturn, 1) := by decide +kernel
theorem dX5_ofRing_86 : decode cX5_ofRing 86 = .ok (.bipush (-2), 2) := by decide +kernel
theorem dX5_ofRing_88 : decode cX5_ofRing 88 = .ok (.ireturn, 1) := by decide +kernel
theorem dX5_ringCharacter_0 : decode cX5_ringCharacter 0 = .ok (.aload_n 0, 1) := by decide +kernel
theorem dX5_ringCharacter_1 : decode cX5_ringCharacter 1 = .ok (.getfield 34, 3) := by decide +kernel
theorem dX5_ringCharacter_4 : decode cX5_ringCharacter 4 = .ok (.iload_n 1, 1) := by decide +kernel
theorem dX5_ringCharacter_5 : decode cX5_ringCharacter 5 = .ok (.invokevirtual 126, 3) := by decide +kernel
theorem dX5_ringCharacter_8 : decode cX5_ringCharacter 8 = .ok (.ifCond .ne 5, 3) := by decide +kernel
theorem dX5_ringCharacter_11 : decode cX5_ringCharacter 11 = .ok (.iconst (-1), 1) := by decide +kernel
theorem dX5_ringCharacter_12 : decode cX5_ringCharacter 12 = .ok (.ireturn, 1) := by decide +kernel
theorem dX5_ringCharacter_13 : decode cX5_ringCharacter 13 = .ok (.aload_n 0, 1) := by decide +kernel
theorem dX5_ringCharacter_14 : decode cX5_ringCharacter 14 = .ok (.getfield 34, 3) := by decide +kernel
theorem dX5_ringCharacter_17 : decode cX5_ringCharacter 17 = .ok (.iload_n 1, 1) := by decide +kernel
theorem dX5_ringCharacter_18 : decode cX5_ringCharacter 18 = .ok (.invokevirtual 129, 3) := by decide +kernel
theorem dX5_ringCharacter_21 : decode cX5_ringCharacter 21 = .ok (.istore_n 3, 1) := by decide +kernel
theorem dX5_ringCharacter_22 : decode cX5_ringCharacter 22 = .ok (.iload_n 2, 1) := by decide +kernel
theorem dX5_ringCharacter_23 : decode cX5_ringCharacter 23 = .ok (.ifCond .lt 15, 3) := by decide +kernel
theorem dX5_ringCharacter_26 : decode cX5_ringCharacter 26 = .ok (.iload_n 2, 1) := by decide +kernel
theorem dX5_ringCharacter_27 : decode cX5_ringCharacter 27 = .ok (.aload_n 0, 1) := by decide +kernel
theorem dX5_ringCharacter_28 : decode cX5_ringCharacter 28 = .ok (.getfield 20, 3) := by decide +kernel
theorem dX5_ringCharacter_31 : decode cX5_ringCharacter 31 = .ok (.iload_n 3, 1) := by decide +kernel
theorem dX5_ringCharacter_32 : decode cX5_ringCharacter 32 = .ok (.invokevirtual 133, 3) := by decide +kernel
theorem dX5_ringCharacter_35 : decode cX5_ringCharacter 35 = .ok (.if_icmp .lt 5, 3) := by decide +kernel
theorem dX5_ringCharacter_38 : decode cX5_ringCharacter 38 = .ok (.iconst (-1), 1) := by decide +kernel
theorem dX5_ringCharacter_39 : decode cX5_ringCharacter 39 = .ok (.ireturn, 1) := by decide +kernel
theorem dX5_ringCharacter_40 : decode cX5_ringCharacter 40 = .ok (.aload_n 0, 1) := by decide +kernel
theorem dX5_ringCharacter_41 : decode cX5_ringCharacter 41 = .ok (.getfield 12, 3) := by decide +kernel
theorem dX5_ringCharacter_44 : decode cX5_ringCharacter 44 = .ok (.iload_n 3, 1) := by decide +kernel
theorem dX5_ringCharacter_45 : decode cX5_ringCharacter 45 = .ok (.iload_n 2, 1) := by decide +kernel
theorem dX5_ringCharacter_46 : decode cX5_ringCharacter 46 = .ok (.invokevirtual 171, 3) := by decide +kernel
theorem dX5_ringCharacter_49 : decode cX5_ringCharacter 49 = .ok (.ireturn, 1) := by decide +kernel
theorem dX5_keep_0 : decode cX5_keep 0 = .ok (.iload_n 1, 1) := by decide +kernel
theorem dX5_keep_1 : decode cX5_keep 1 = .ok (.ifCond .lt 21, 3) := by decide +kernel
theorem dX5_keep_4 : decode cX5_keep 4 = .ok (.iload_n 1, 1) := by decide +kernel
theorem dX5_keep_5 : decode cX5_keep 5 = .ok (.aload_n 0, 1) := by decide +kernel
theorem dX5_keep_6 : decode cX5_keep 6 = .ok (.getfield 45, 3) := by decide +kernel
theorem dX5_keep_9 : decode cX5_keep 9 = .ok (.arraylength, 1) := by decide +kernel
theorem dX5_keep_10 : decode cX5_keep 10 = .ok (.if_icmp .ge 12, 3) := by decide +kernel
theorem dX5_keep_13 : decode cX5_keep 13 = .ok (.iload_n 1, 1) := by decide +kernel
theorem dX5_keep_14 : decode cX5_keep 14 = .ok (.aload_n 0, 1) := by decide +kernel
theorem dX5_keep_15 : decode cX5_keep 15 = .ok (.getfield 49, 3) := by decide +kernel
theorem dX5_keep_18 : decode cX5_keep 18 = .ok (.arraylength, 1) := by decide +kernel
theorem dX5_keep_19 : decode cX5_keep 19 = .ok (.if_icmp .lt 5, 3) := by decide +kernel
theorem dX5_keep_22 : decode cX5_keep 22 = .ok (.iconst (-1), 1) := by decide +kernel
theorem dX5_keep_23 : decode cX5_keep 23 = .ok (.ireturn, 1) := by decide +kernel
theorem dX5_keep_24 : decode cX5_keep 24 = .ok (.aload_n 0, 1) := by decide +kernel
theorem dX5_keep_25 : decode cX5_keep 25 = .ok (.getfield 45, 3) := by decide +kernel
theorem dX5_keep_28 : decode cX5_keep 28 = .ok (.iload_n 1, 1) := by decide +kernel
theorem dX5_keep_29 : decode cX5_keep 29 = .ok (.aload_n 0, 1) := by decide +kernel
theorem dX5_keep_30 : decode cX5_keep 30 = .ok (.getfield 34, 3) := by decide +kernel
theorem dX5_keep_33 : decode cX5_keep 33 = .ok (.getfield 106, 3) := by decide +kernel
theorem dX5_keep_36 : decode cX5_keep 36 = .ok (.iastore, 1) := by decide +kernel
theorem dX5_keep_37 : decode cX5_keep 37 = .ok (.aload_n 0, 1) := by decide +kernel
theorem dX5_keep_38 : decode cX5_keep 38 = .ok (.getfield 49, 3) := by decide +kernel
theorem dX5_keep_41 : decode cX5_keep 41 = .ok (.iload_n 1, 1) := by decide +kernel
theorem dX5_keep_42 : decode cX5_keep 42 = .ok (.iconst 1, 1) := by decide +kernel
theorem dX5_keep_43 : decode cX5_keep 43 = .ok (.bastore, 1) := by decide +kernel
theorem dX5_keep_44 : decode cX5_keep 44 = .ok (.aload_n 0, 1) := by decide +kernel
theorem dX5_keep_45 : decode cX5_keep 45 = .ok (.invokevirtual 77, 3) := by decide +kernel
theorem dX5_keep_48 : decode cX5_keep 48 = .ok (.ireturn, 1) := by decide +kernel
theorem dX5_goBack_0 : decode cX5_goBack 0 = .ok (.iload_n 1, 1) := by decide +kernel
theorem dX5_goBack_1 : decode cX5_goBack 1 = .ok (.ifCond .lt 21, 3) := by decide +kernel
theorem dX5_goBack_4 : decode cX5_goBack 4 = .ok (.iload_n 1, 1) := by decide +kernel
theorem dX5_goBack_5 : decode cX5_goBack 5 = .ok (.aload_n 0, 1) := by decide +kernel
theorem dX5_goBack_6 : decode cX5_goBack 6 = .ok (.getfield 45, 3) := by decide +kernel
theorem dX5_goBack_9 : decode cX5_goBack 9 = .ok (.arraylength, 1) := by decide +kernel
theorem dX5_goBack_10 : decode cX5_goBack 10 = .ok (.if_icmp .ge 12, 3) := by decide +kernel
theorem dX5_goBack_13 : decode cX5_goBack 13 = .ok (.iload_n 1, 1) := by decide +kernel
theorem dX5_goBack_14 : decode cX5_goBack 14 = .ok (.aload_n 0, 1) := by decide +kernel
theorem dX5_goBack_15 : decode cX5_goBack 15 = .ok (.getfield 49, 3) := by decide +kernel
theorem dX5_goBack_18 : decode cX5_goBack 18 = .ok (.arraylength, 1) := by decide +kernel
theorem dX5_goBack_19 : decode cX5_goBack 19 = .ok (.if_icmp .lt 5, 3) := by decide +kernel
theorem dX5_goBack_22 : decode cX5_goBack 22 = .ok (.iconst (-1), 1) := by decide +kernel
theorem dX5_goBack_23 : decode cX5_goBack 23 = .ok (.ireturn, 1) := by decide +kernel
theorem dX5_goBack_24 : decode cX5_goBack 24 = .ok (.aload_n 0, 1) := by decide +kernel
theorem dX5_goBack_25 : decode cX5_goBack 25 = .ok (.getfield 49, 3) := by decide +kernel
theorem dX5_goBack_28 : decode cX5_goBack 28 = .ok (.iload_n 1, 1) := by decide +kernel
theorem dX5_goBack_29 : decode cX5_goBack 29 = .ok (.baload, 1) := by decide +kernel
theorem dX5_goBack_30 : decode cX5_goBack 30 = .ok (.ifCond .ne 6, 3) := by decide +kernel
theorem dX5_goBack_33 : decode cX5_goBack 33 = .ok (.bipush (-3), 2) := by decide +kernel
theorem dX5_goBack_35 : decode cX5_goBack 35 = .ok (.ireturn, 1) := by decide +kernel
theorem dX5_goBack_36 : decode cX5_goBack 36 = .ok (.aload_n 0, 1) := by decide +kernel
theorem dX5_goBack_37 : decode cX5_goBack 37 = .ok (.getfield 41, 3) := by decide +kernel
theorem dX5_goBack_40 : decode cX5_goBack 40 = .ok (.aload_n 0, 1) := by decide +kernel
theorem dX5_goBack_41 : decode cX5_goBack 41 = .ok (.getfield 34, 3) := by decide +kernel
theorem dX5_goBack_44 : decode cX5_goBack 44 = .ok (.invokevirtual 66, 3) := by decide +kernel
theorem dX5_goBack_47 : decode cX5_goBack 47 = .ok (.aload_n 0, 1) := by decide +kernel
theorem dX5_goBack_48 : decode cX5_goBack 48 = .ok (.getfield 34, 3) := by decide +kernel
theorem dX5_goBack_51 : decode cX5_goBack 51 = .ok (.aload_n 0, 1) := by decide +kernel
theorem dX5_goBack_52 : decode cX5_goBack 52 = .ok (.getfield 45, 3) := by decide +kernel
theorem dX5_goBack_55 : decode cX5_goBack 55 = .ok (.iload_n 1, 1) := by decide +kernel
theorem dX5_goBack_56 : decode cX5_goBack 56 = .ok (.iaload, 1) := by decide +kernel
theorem dX5_goBack_57 : decode cX5_goBack 57 = .ok (.putfield 106, 3) := by decide +kernel
theorem dX5_goBack_60 : decode cX5_goBack 60 = .ok (.aload_n 0, 1) := by decide +kernel
theorem dX5_goBack_61 : decode cX5_goBack 61 = .ok (.getfield 34, 3) := by decide +kernel
theorem dX5_goBack_64 : decode cX5_goBack 64 = .ok (.aload_n 0, 1) := by decide +kernel
theorem dX5_goBack_65 : decode cX5_goBack 65 = .ok (.invokevirtual 77, 3) := by decide +kernel
theorem dX5_goBack_68 : decode cX5_goBack 68 = .ok (.invokevirtual 201, 3) := by decide +kernel
theorem dX5_goBack_71 : decode cX5_goBack 71 = .ok (.aload_n 0, 1) := by decide +kernel
theorem dX5_goBack_72 : decode cX5_goBack 72 = .ok (.invokevirtual 77, 3) := by decide +kernel
theorem dX5_goBack_75 : decode cX5_goBack 75 = .ok (.ireturn, 1) := by decide +kernel
theorem dX5_difference_0 : decode cX5_difference 0 = .ok (.iload_n 1, 1) := by decide +kernel
theorem dX5_difference_1 : decode cX5_difference 1 = .ok (.ifCond .lt 21, 3) := by decide +kernel
theorem dX5_difference_4 : decode cX5_difference 4 = .ok (.iload_n 1, 1) := by decide +kernel
theorem dX5_difference_5 : decode cX5_difference 5 = .ok (.aload_n 0, 1) := by decide +kernel
theorem dX5_difference_6 : decode cX5_difference 6 = .ok (.getfield 45, 3) := by decide +kernel
theorem dX5_difference_9 : decode cX5_difference 9 = .ok (.arraylength, 1) := by decide +kernel
theorem dX5_difference_10 : decode cX5_difference 10 = .ok (.if_icmp .ge 12, 3) := by decide +kernel
theorem dX5_difference_13 : decode cX5_difference 13 = .ok (.iload_n 1, 1) := by decide +kernel
theorem dX5_difference_14 : decode cX5_difference 14 = .ok (.aload_n 0, 1) := by decide +kernel
theorem dX5_difference_15 : decode cX5_difference 15 = .ok (.getfield 49, 3) := by decide +kernel
theorem dX5_difference_18 : decode cX5_difference 18 = .ok (.arraylength, 1) := by decide +kernel
theorem dX5_difference_19 : decode cX5_difference 19 = .ok (.if_icmp .lt 5, 3) := by decide +kernel
theorem dX5_difference_22 : decode cX5_difference 22 = .ok (.iconst (-1), 1) := by decide +kernel
theorem dX5_difference_23 : decode cX5_difference 23 = .ok (.ireturn, 1) := by decide +kernel
theorem dX5_difference_24 : decode cX5_difference 24 = .ok (.aload_n 0, 1) := by decide +kernel
theorem dX5_difference_25 : decode cX5_difference 25 = .ok (.getfield 49, 3) := by decide +kernel
theorem dX5_difference_28 : decode cX5_difference 28 = .ok (.iload_n 1, 1) := by decide +kernel
theorem dX5_difference_29 : decode cX5_difference 29 = .ok (.baload, 1) := by decide +kernel
theorem dX5_difference_30 : decode cX5_difference 30 = .ok (.ifCond .ne 6, 3) := by decide +kernel
theorem dX5_difference_33 : decode cX5_difference 33 = .ok (.bipush (-3), 2) := by decide +kernel
theorem dX5_difference_35 : decode cX5_difference 35 = .ok (.ireturn, 1) := by decide +kernel
theorem dX5_difference_36 : decode cX5_difference 36 = .ok (.aload_n 0, 1) := by decide +kernel
theorem dX5_difference_37 : decode cX5_difference 37 = .ok (.getfield 24, 3) := by decide +kernel
theorem dX5_difference_40 : decode cX5_difference 40 = .ok (.aload_n 0, 1) := by decide +kernel
theorem dX5_difference_41 : decode cX5_difference 41 = .ok (.getfield 20, 3) := by decide +kernel
theorem dX5_difference_44 : decode cX5_difference 44 = .ok (.aload_n 0, 1) := by decide +kernel
theorem dX5_difference_45 : decode cX5_difference 45 = .ok (.getfield 34, 3) := by decide +kernel
theorem dX5_difference_48 : decode cX5_difference 48 = .ok (.getfield 106, 3) := by decide +kernel
theorem dX5_difference_51 : decode cX5_difference 51 = .ok (.invokevirtual 119, 3) := by decide +kernel
theorem dX5_difference_54 : decode cX5_difference 54 = .ok (.aload_n 0, 1) := by decide +kernel
theorem dX5_difference_55 : decode cX5_difference 55 = .ok (.getfield 28, 3) := by decide +kernel
theorem dX5_difference_58 : decode cX5_difference 58 = .ok (.aload_n 0, 1) := by decide +kernel
theorem dX5_difference_59 : decode cX5_difference 59 = .ok (.getfield 20, 3) := by decide +kernel
theorem dX5_difference_62 : decode cX5_difference 62 = .ok (.aload_n 0, 1) := by decide +kernel
theorem dX5_difference_63 : decode cX5_difference 63 = .ok (.getfield 45, 3) := by decide +kernel
theorem dX5_difference_66 : decode cX5_difference 66 = .ok (.iload_n 1, 1) := by decide +kernel
theorem dX5_difference_67 : decode cX5_difference 67 = .ok (.iaload, 1) := by decide +kernel
theorem dX5_difference_68 : decode cX5_difference 68 = .ok (.invokevirtual 119, 3) := by decide +kernel
theorem dX5_difference_71 : decode cX5_difference 71 = .ok (.aload_n 0, 1) := by decide +kernel
theorem dX5_difference_72 : decode cX5_difference 72 = .ok (.getfield 24, 3) := by decide +kernel
theorem dX5_difference_75 : decode cX5_difference 75 = .ok (.aload_n 0, 1) := by decide +kernel
theorem dX5_difference_76 : decode cX5_difference 76 = .ok (.getfield 28, 3) := by decide +kernel
theorem dX5_difference_79 : decode cX5_difference 79 = .ok (.invokevirtual 204, 3) := by decide +kernel
theorem dX5_difference_82 : decode cX5_difference 82 = .ok (.ireturn, 1) := by decide +kernel
theorem dX5_undo_0 : decode cX5_undo 0 = .ok (.aload_n 0, 1) := by decide +kernel
theorem dX5_undo_1 : decode cX5_undo 1 = .ok (.getfield 41, 3) := by decide +kernel
theorem dX5_undo_4 : decode cX5_undo 4 = .ok (.aload_n 0, 1) := by decide +kernel
theorem dX5_undo_5 : decode cX5_undo 5 = .ok (.getfield 34, 3) := by decide +kernel
theorem dX5_undo_8 : decode cX5_undo 8 = .ok (.invokevirtual 208, 3) := by decide +kernel
theorem dX5_undo_11 : decode cX5_undo 11 = .ok (.ifCond .eq 13, 3) := by decide +kernel
theorem dX5_undo_14 : decode cX5_undo 14 = .ok (.aload_n 0, 1) := by decide +kernel
theorem dX5_undo_15 : decode cX5_undo 15 = .ok (.getfield 41, 3) := by decide +kernel
theorem dX5_undo_18 : decode cX5_undo 18 = .ok (.getfield 212, 3) := by decide +kernel
theorem dX5_undo_21 : decode cX5_undo 21 = .ok (.goto 5, 3) := by decide +kernel
theorem dX5_undo_24 : decode cX5_undo 24 = .ok (.bipush (-3), 2) := by decide +kernel
theorem dX5_undo_26 : decode cX5_undo 26 = .ok (.ireturn, 1) := by decide +kernel
theorem dX5_digest_0 : decode cX5_digest 0 = .ok (.ldc2_w 215, 3) := by decide +kernel
theorem dX5_digest_3 : decode cX5_digest 3 = .ok (.lstore_n 1, 1) := by decide +kernel
theorem dX5_digest_4 : decode cX5_digest 4 = .ok (.ldc2_w 217, 3) := by decide +kernel
theorem dX5_digest_7 : decode cX5_digest 7 = .ok (.lload_n 1, 1) := by decide +kernel
theorem dX5_digest_8 : decode cX5_digest 8 = .ok (.lmul, 1) := by decide +kernel
theorem dX5_digest_9 : decode cX5_digest 9 = .ok (.aload_n 0, 1) := by decide +kernel
theorem dX5_digest_10 : decode cX5_digest 10 = .ok (.invokevirtual 77, 3) := by decide +kernel
theorem dX5_digest_13 : decode cX5_digest 13 = .ok (.i2l, 1) := by decide +kernel
theorem dX5_digest_14 : decode cX5_digest 14 = .ok (.ladd, 1) := by decide +kernel
theorem dX5_digest_15 : decode cX5_digest 15 = .ok (.lstore_n 1, 1) := by decide +kernel
theorem dX5_digest_16 : decode cX5_digest 16 = .ok (.ldc2_w 217, 3) := by decide +kernel
theorem dX5_digest_19 : decode cX5_digest 19 = .ok (.lload_n 1, 1) := by decide +kernel
theorem dX5_digest_20 : decode cX5_digest 20 = .ok (.lmul, 1) := by decide +kernel
theorem dX5_digest_21 : decode cX5_digest 21 = .ok (.aload_n 0, 1) := by decide +kernel
theorem dX5_digest_22 : decode cX5_digest 22 = .ok (.invokevirtual 150, 3) := by decide +kernel
theorem dX5_digest_25 : decode cX5_digest 25 = .ok (.i2l, 1) := by decide +kernel
theorem dX5_digest_26 : decode cX5_digest 26 = .ok (.ladd, 1) := by decide +kernel
theorem dX5_digest_27 : decode cX5_digest 27 = .ok (.lstore_n 1, 1) := by decide +kernel
theorem dX5_digest_28 : decode cX5_digest 28 = .ok (.ldc2_w 217, 3) := by decide +kernel
theorem dX5_digest_31 : decode cX5_digest 31 = .ok (.lload_n 1, 1) := by decide +kernel
theorem dX5_digest_32 : decode cX5_digest 32 = .ok (.lmul, 1) := by decide +kernel
theorem dX5_digest_33 : decode cX5_digest 33 = .ok (.aload_n 0, 1) := by decide +kernel
theorem dX5_digest_34 : decode cX5_digest 34 = .ok (.invokevirtual 159, 3) := by decide +kernel
theorem dX5_digest_37 : decode cX5_digest 37 = .ok (.i2l, 1) := by decide +kernel
theorem dX5_digest_38 : decode cX5_digest 38 = .ok (.ladd, 1) := by decide +kernel
theorem dX5_digest_39 : decode cX5_digest 39 = .ok (.lstore_n 1, 1) := by decide +kernel
theorem dX5_digest_40 : decode cX5_digest 40 = .ok (.ldc2_w 217, 3) := by decide +kernel
theorem dX5_digest_43 : decode cX5_digest 43 = .ok (.lload_n 1, 1) := by decide +kernel
theorem dX5_digest_44 : decode cX5_digest 44 = .ok (.lmul, 1) := by decide +kernel
theorem dX5_digest_45 : decode cX5_digest 45 = .ok (.aload_n 0, 1) := by decide +kernel
theorem dX5_digest_46 : decode cX5_digest 46 = .ok (.invokevirtual 219, 3) := by decide +kernel
theorem dX5_digest_49 : decode cX5_digest 49 = .ok (.i2l, 1) := by decide +kernel
theorem dX5_digest_50 : decode cX5_digest 50 = .ok (.ladd, 1) := by decide +kernel
theorem dX5_digest_51 : decode cX5_digest 51 = .ok (.lstore_n 1, 1) := by decide +kernel
theorem dX5_digest_52 : decode cX5_digest 52 = .ok (.ldc2_w 217, 3) := by decide +kernel
theorem dX5_digest_55 : decode cX5_digest 55 = .ok (.lload_n 1, 1) := by decide +kernel
theorem dX5_digest_56 : decode cX5_digest 56 = .ok (.lmul, 1) := by decide +kernel
theorem dX5_digest_57 : decode cX5_digest 57 = .ok (.aload_n 0, 1) := by decide +kernel
theorem dX5_digest_58 : decode cX5_digest 58 = .ok (.invokevirtual 222, 3) := by decide +kernel
theorem dX5_digest_61 : decode cX5_digest 61 = .ok (.i2l, 1) := by decide +kernel
theorem dX5_digest_62 : decode cX5_digest 62 = .ok (.ladd, 1) := by decide +kernel
theorem dX5_digest_63 : decode cX5_digest 63 = .ok (.lstore_n 1, 1) := by decide +kernel
theorem dX5_digest_64 : decode cX5_digest 64 = .ok (.aload_n 0, 1) := by decide +kernel
theorem dX5_digest_65 : decode cX5_digest 65 = .ok (.getfield 24, 3) := by decide +kernel
theorem dX5_digest_68 : decode cX5_digest 68 = .ok (.aload_n 0, 1) := by decide +kernel
theorem dX5_digest_69 : decode cX5_digest 69 = .ok (.getfield 20, 3) := by decide +kernel
theorem dX5_digest_72 : decode cX5_digest 72 = .ok (.aload_n 0, 1) := by decide +kernel
theorem dX5_digest_73 : decode cX5_digest 73 = .ok (.getfield 34, 3) := by decide +kernel
theorem dX5_digest_76 : decode cX5_digest 76 = .ok (.getfield 106, 3) := by decide +kernel
theorem dX5_digest_79 : decode cX5_digest 79 = .ok (.invokevirtual 119, 3) := by decide +kernel
theorem dX5_digest_82 : decode cX5_digest 82 = .ok (.iconst 0, 1) := by decide +kernel
theorem dX5_digest_83 : decode cX5_digest 83 = .ok (.istore_n 3, 1) := by decide +kernel
theorem dX5_digest_84 : decode cX5_digest 84 = .ok (.iload_n 3, 1) := by decide +kernel
theorem dX5_digest_85 : decode cX5_digest 85 = .ok (.aload_n 0, 1) := by decide +kernel
theorem dX5_digest_86 : decode cX5_digest 86 = .ok (.getfield 24, 3) := by decide +kernel
theorem dX5_digest_89 : decode cX5_digest 89 = .ok (.getfield 123, 3) := by decide +kernel
theorem dX5_digest_92 : decode cX5_digest 92 = .ok (.if_icmp .ge 41, 3) := by decide +kernel
theorem dX5_digest_95 : decode cX5_digest 95 = .ok (.ldc2_w 217, 3) := by decide +kernel
theorem dX5_digest_98 : decode cX5_digest 98 = .ok (.lload_n 1, 1) := by decide +kernel
theorem dX5_digest_99 : decode cX5_digest 99 = .ok (.lmul, 1) := by decide +kernel
theorem dX5_digest_100 : decode cX5_digest 100 = .ok (.aload_n 0, 1) := by decide +kernel
theorem dX5_digest_101 : decode cX5_digest 101 = .ok (.getfield 24, 3) := by decide +kernel
theorem dX5_digest_104 : decode cX5_digest 104 = .ok (.iload_n 3, 1) := by decide +kernel
theorem dX5_digest_105 : decode cX5_digest 105 = .ok (.invokevirtual 177, 3) := by decide +kernel
theorem dX5_digest_108 : decode cX5_digest 108 = .ok (.i2l, 1) := by decide +kernel
theorem dX5_digest_109 : decode cX5_digest 109 = .ok (.ladd, 1) := by decide +kernel
theorem dX5_digest_110 : decode cX5_digest 110 = .ok (.lstore_n 1, 1) := by decide +kernel
theorem dX5_digest_111 : decode cX5_digest 111 = .ok (.ldc2_w 217, 3) := by decide +kernel
theorem dX5_digest_114 : decode cX5_digest 114 = .ok (.lload_n 1, 1) := by decide +kernel
theorem dX5_digest_115 : decode cX5_digest 115 = .ok (.lmul, 1) := by decide +kernel
theorem dX5_digest_116 : decode cX5_digest 116 = .ok (.aload_n 0, 1) := by decide +kernel
theorem dX5_digest_117 : decode cX5_digest 117 = .ok (.getfield 24, 3) := by decide +kernel
theorem dX5_digest_120 : decode cX5_digest 120 = .ok (.iload_n 3, 1) := by decide +kernel
theorem dX5_digest_121 : decode cX5_digest 121 = .ok (.invokevirtual 180, 3) := by decide +kernel
theorem dX5_digest_124 : decode cX5_digest 124 = .ok (.i2l, 1) := by decide +kernel
theorem dX5_digest_125 : decode cX5_digest 125 = .ok (.ladd, 1) := by decide +kernel
theorem dX5_digest_126 : decode cX5_digest 126 = .ok (.lstore_n 1, 1) := by decide +kernel
theorem dX5_digest_127 : decode cX5_digest 127 = .ok (.iinc 3 1, 3) := by decide +kernel
theorem dX5_digest_130 : decode cX5_digest 130 = .ok (.goto (-46), 3) := by decide +kernel
theorem dX5_digest_133 : decode cX5_digest 133 = .ok (.aload_n 0, 1) := by decide +kernel
theorem dX5_digest_134 : decode cX5_digest 134 = .ok (.getfield 24, 3) := by decide +kernel
theorem dX5_digest_137 : decode cX5_digest 137 = .ok (.lload_n 1, 1) := by decide +kernel
theorem dX5_digest_138 : decode cX5_digest 138 = .ok (.invokevirtual 225, 3) := by decide +kernel
theorem dX5_digest_141 : decode cX5_digest 141 = .ok (.lstore_n 1, 1) := by decide +kernel
theorem dX5_digest_142 : decode cX5_digest 142 = .ok (.ldc2_w 217, 3) := by decide +kernel
theorem dX5_digest_145 : decode cX5_digest 145 = .ok (.lload_n 1, 1) := by decide +kernel
theorem dX5_digest_146 : decode cX5_digest 146 = .ok (.lmul, 1) := by decide +kernel
theorem dX5_digest_147 : decode cX5_digest 147 = .ok (.aload_n 0, 1) := by decide +kernel
theorem dX5_digest_148 : decode cX5_digest 148 = .ok (.invokevirtual 229, 3) := by decide +kernel
theorem dX5_digest_151 : decode cX5_digest 151 = .ok (.i2l, 1) := by decide +kernel
theorem dX5_digest_152 : decode cX5_digest 152 = .ok (.ladd, 1) := by decide +kernel
theorem dX5_digest_153 : decode cX5_digest 153 = .ok (.lstore_n 1, 1) := by decide +kernel
theorem dX5_digest_154 : decode cX5_digest 154 = .ok (.iconst 0, 1) := by decide +kernel
theorem dX5_digest_155 : decode cX5_digest 155 = .ok (.istore_n 3, 1) := by decide +kernel
theorem dX5_digest_156 : decode cX5_digest 156 = .ok (.iload_n 3, 1) := by decide +kernel
theorem dX5_digest_157 : decode cX5_digest 157 = .ok (.iconst 4, 1) := by decide +kernel
theorem dX5_digest_158 : decode cX5_digest 158 = .ok (.if_icmp .ge 22, 3) := by decide +kernel
theorem dX5_digest_161 : decode cX5_digest 161 = .ok (.ldc2_w 217, 3) := by decide +kernel
theorem dX5_digest_164 : decode cX5_digest 164 = .ok (.lload_n 1, 1) := by decide +kernel
theorem dX5_digest_165 : decode cX5_digest 165 = .ok (.lmul, 1) := by decide +kernel
theorem dX5_digest_166 : decode cX5_digest 166 = .ok (.aload_n 0, 1) := by decide +kernel
theorem dX5_digest_167 : decode cX5_digest 167 = .ok (.iload_n 3, 1) := by decide +kernel
theorem dX5_digest_168 : decode cX5_digest 168 = .ok (.invokevirtual 232, 3) := by decide +kernel
theorem dX5_digest_171 : decode cX5_digest 171 = .ok (.i2l, 1) := by decide +kernel
theorem dX5_digest_172 : decode cX5_digest 172 = .ok (.ladd, 1) := by decide +kernel
theorem dX5_digest_173 : decode cX5_digest 173 = .ok (.lstore_n 1, 1) := by decide +kernel
theorem dX5_digest_174 : decode cX5_digest 174 = .ok (.iinc 3 1, 3) := by decide +kernel
theorem dX5_digest_177 : decode cX5_digest 177 = .ok (.goto (-21), 3) := by decide +kernel
theorem dX5_digest_180 : decode cX5_digest 180 = .ok (.ldc2_w 217, 3) := by decide +kernel
theorem dX5_digest_183 : decode cX5_digest 183 = .ok (.lload_n 1, 1) := by decide +kernel
theorem dX5_digest_184 : decode cX5_digest 184 = .ok (.lmul, 1) := by decide +kernel
theorem dX5_digest_185 : decode cX5_digest 185 = .ok (.aload_n 0, 1) := by decide +kernel
theorem dX5_digest_186 : decode cX5_digest 186 = .ok (.invokevirtual 235, 3) := by decide +kernel
theorem dX5_digest_189 : decode cX5_digest 189 = .ok (.i2l, 1) := by decide +kernel
theorem dX5_digest_190 : decode cX5_digest 190 = .ok (.ladd, 1) := by decide +kernel
theorem dX5_digest_191 : decode cX5_digest 191 = .ok (.lstore_n 1, 1) := by decide +kernel
theorem dX5_digest_192 : decode cX5_digest 192 = .ok (.iconst 0, 1) := by decide +kernel
theorem dX5_digest_193 : decode cX5_digest 193 = .ok (.istore_n 3, 1) := by decide +kernel
theorem dX5_digest_194 : decode cX5_digest 194 = .ok (.iload_n 3, 1) := by decide +kernel
theorem dX5_digest_195 : decode cX5_digest 195 = .ok (.aload_n 0, 1) := by decide +kernel
theorem dX5_digest_196 : decode cX5_digest 196 = .ok (.getfield 34, 3) := by decide +kernel
theorem dX5_digest_199 : decode cX5_digest 199 = .ok (.getfield 138, 3) := by decide +kernel
theorem dX5_digest_202 : decode cX5_digest 202 = .ok (.if_icmp .ge 28, 3) := by decide +kernel
theorem dX5_digest_205 : decode cX5_digest 205 = .ok (.iload_n 3, 1) := by decide +kernel
theorem dX5_digest_206 : decode cX5_digest 206 = .ok (.iconst 4, 1) := by decide +kernel
theorem dX5_digest_207 : decode cX5_digest 207 = .ok (.if_icmp .ge 23, 3) := by decide +kernel
theorem dX5_digest_210 : decode cX5_digest 210 = .ok (.aload_n 0, 1) := by decide +kernel
theorem dX5_digest_211 : decode cX5_digest 211 = .ok (.lload_n 1, 1) := by decide +kernel
theorem dX5_digest_212 : decode cX5_digest 212 = .ok (.aload_n 0, 1) := by decide +kernel
theorem dX5_digest_213 : decode cX5_digest 213 = .ok (.getfield 34, 3) := by decide +kernel
theorem dX5_digest_216 : decode cX5_digest 216 = .ok (.iload_n 3, 1) := by decide +kernel
theorem dX5_digest_217 : decode cX5_digest 217 = .ok (.invokevirtual 129, 3) := by decide +kernel
theorem dX5_digest_220 : decode cX5_digest 220 = .ok (.invokevirtual 238, 3) := by decide +kernel
theorem dX5_digest_223 : decode cX5_digest 223 = .ok (.lstore_n 1, 1) := by decide +kernel
theorem dX5_digest_224 : decode cX5_digest 224 = .ok (.iinc 3 1, 3) := by decide +kernel
theorem dX5_digest_227 : decode cX5_digest 227 = .ok (.goto (-33), 3) := by decide +kernel
theorem dX5_digest_230 : decode cX5_digest 230 = .ok (.lload_n 1, 1) := by decide +kernel
theorem dX5_digest_231 : decode cX5_digest 231 = .ok (.lreturn, 1) := by decide +kernel
theorem dX5_hashOfRingRope_0 : decode cX5_hashOfRingRope 0 = .ok (.aload_n 0, 1) := by decide +kernel
theorem dX5_hashOfRingRope_1 : decode cX5_hashOfRingRope 1 = .ok (.getfield 24, 3) := by decide +kernel
theorem dX5_hashOfRingRope_4 : decode cX5_hashOfRingRope 4 = .ok (.aload_n 0, 1) := by decide +kernel
theorem dX5_hashOfRingRope_5 : decode cX5_hashOfRingRope 5 = .ok (.getfield 20, 3) := by decide +kernel
theorem dX5_hashOfRingRope_8 : decode cX5_hashOfRingRope 8 = .ok (.iload_n 3, 1) := by decide +kernel
theorem dX5_hashOfRingRope_9 : decode cX5_hashOfRingRope 9 = .ok (.invokevirtual 119, 3) := by decide +kernel
theorem dX5_hashOfRingRope_12 : decode cX5_hashOfRingRope 12 = .ok (.ldc2_w 217, 3) := by decide +kernel
theorem dX5_hashOfRingRope_15 : decode cX5_hashOfRingRope 15 = .ok (.lload_n 1, 1) := by decide +kernel
theorem dX5_hashOfRingRope_16 : decode cX5_hashOfRingRope 16 = .ok (.lmul, 1) := by decide +kernel
theorem dX5_hashOfRingRope_17 : decode cX5_hashOfRingRope 17 = .ok (.aload_n 0, 1) := by decide +kernel
theorem dX5_hashOfRingRope_18 : decode cX5_hashOfRingRope 18 = .ok (.getfield 20, 3) := by decide +kernel
theorem dX5_hashOfRingRope_21 : decode cX5_hashOfRingRope 21 = .ok (.iload_n 3, 1) := by decide +kernel
theorem dX5_hashOfRingRope_22 : decode cX5_hashOfRingRope 22 = .ok (.invokevirtual 133, 3) := by decide +kernel
theorem dX5_hashOfRingRope_25 : decode cX5_hashOfRingRope 25 = .ok (.i2l, 1) := by decide +kernel
theorem dX5_hashOfRingRope_26 : decode cX5_hashOfRingRope 26 = .ok (.ladd, 1) := by decide +kernel
theorem dX5_hashOfRingRope_27 : decode cX5_hashOfRingRope 27 = .ok (.lstore 4, 2) := by decide +kernel
theorem dX5_hashOfRingRope_29 : decode cX5_hashOfRingRope 29 = .ok (.ldc2_w 217, 3) := by decide +kernel
theorem dX5_hashOfRingRope_32 : decode cX5_hashOfRingRope 32 = .ok (.lload 4, 2) := by decide +kernel
theorem dX5_hashOfRingRope_34 : decode cX5_hashOfRingRope 34 = .ok (.lmul, 1) := by decide +kernel
theorem dX5_hashOfRingRope_35 : decode cX5_hashOfRingRope 35 = .ok (.aload_n 0, 1) := by decide +kernel
theorem dX5_hashOfRingRope_36 : decode cX5_hashOfRingRope 36 = .ok (.getfield 20, 3) := by decide +kernel
theorem dX5_hashOfRingRope_39 : decode cX5_hashOfRingRope 39 = .ok (.iload_n 3, 1) := by decide +kernel
theorem dX5_hashOfRingRope_40 : decode cX5_hashOfRingRope 40 = .ok (.invokevirtual 162, 3) := by decide +kernel
theorem dX5_hashOfRingRope_43 : decode cX5_hashOfRingRope 43 = .ok (.i2l, 1) := by decide +kernel
theorem dX5_hashOfRingRope_44 : decode cX5_hashOfRingRope 44 = .ok (.ladd, 1) := by decide +kernel
theorem dX5_hashOfRingRope_45 : decode cX5_hashOfRingRope 45 = .ok (.lstore 4, 2) := by decide +kernel
theorem dX5_hashOfRingRope_47 : decode cX5_hashOfRingRope 47 = .ok (.ldc2_w 217, 3) := by decide +kernel
theorem dX5_hashOfRingRope_50 : decode cX5_hashOfRingRope 50 = .ok (.lload 4, 2) := by decide +kernel
theorem dX5_hashOfRingRope_52 : decode cX5_hashOfRingRope 52 = .ok (.lmul, 1) := by decide +kernel
theorem dX5_hashOfRingRope_53 : decode cX5_hashOfRingRope 53 = .ok (.aload_n 0, 1) := by decide +kernel
theorem dX5_hashOfRingRope_54 : decode cX5_hashOfRingRope 54 = .ok (.getfield 24, 3) := by decide +kernel
theorem dX5_hashOfRingRope_57 : decode cX5_hashOfRingRope 57 = .ok (.getfield 123, 3) := by decide +kernel
theorem dX5_hashOfRingRope_60 : decode cX5_hashOfRingRope 60 = .ok (.i2l, 1) := by decide +kernel
theorem dX5_hashOfRingRope_61 : decode cX5_hashOfRingRope 61 = .ok (.ladd, 1) := by decide +kernel
theorem dX5_hashOfRingRope_62 : decode cX5_hashOfRingRope 62 = .ok (.lstore 4, 2) := by decide +kernel
theorem dX5_hashOfRingRope_64 : decode cX5_hashOfRingRope 64 = .ok (.aload_n 0, 1) := by decide +kernel
theorem dX5_hashOfRingRope_65 : decode cX5_hashOfRingRope 65 = .ok (.getfield 24, 3) := by decide +kernel
theorem dX5_hashOfRingRope_68 : decode cX5_hashOfRingRope 68 = .ok (.lload 4, 2) := by decide +kernel
theorem dX5_hashOfRingRope_70 : decode cX5_hashOfRingRope 70 = .ok (.invokevirtual 225, 3) := by decide +kernel
theorem dX5_hashOfRingRope_73 : decode cX5_hashOfRingRope 73 = .ok (.lreturn, 1) := by decide +kernel
theorem dX5_isPosition_0 : decode cX5_isPosition 0 = .ok (.iload_n 1, 1) := by decide +kernel
theorem dX5_isPosition_1 : decode cX5_isPosition 1 = .ok (.ifCond .lt 15, 3) := by decide +kernel
theorem dX5_isPosition_4 : decode cX5_isPosition 4 = .ok (.iload_n 1, 1) := by decide +kernel
theorem dX5_isPosition_5 : decode cX5_isPosition 5 = .ok (.aload_n 0, 1) := by decide +kernel
theorem dX5_isPosition_6 : decode cX5_isPosition 6 = .ok (.invokevirtual 77, 3) := by decide +kernel
theorem dX5_isPosition_9 : decode cX5_isPosition 9 = .ok (.if_icmp .gt 7, 3) := by decide +kernel
theorem dX5_isPosition_12 : decode cX5_isPosition 12 = .ok (.iconst 1, 1) := by decide +kernel
theorem dX5_isPosition_13 : decode cX5_isPosition 13 = .ok (.goto 4, 3) := by decide +kernel
theorem dX5_isPosition_16 : decode cX5_isPosition 16 = .ok (.iconst 0, 1) := by decide +kernel
theorem dX5_isPosition_17 : decode cX5_isPosition 17 = .ok (.ireturn, 1) := by decide +kernel
theorem dX5_refusalOfPiece_0 : decode cX5_refusalOfPiece 0 = .ok (.aload_n 0, 1) := by decide +kernel
theorem dX5_refusalOfPiece_1 : decode cX5_refusalOfPiece 1 = .ok (.iload_n 1, 1) := by decide +kernel
theorem dX5_refusalOfPiece_2 : decode cX5_refusalOfPiece 2 = .ok (.invokevirtual 73, 3) := by decide +kernel
theorem dX5_refusalOfPiece_5 : decode cX5_refusalOfPiece 5 = .ok (.ifCond .eq 11, 3) := by decide +kernel
theorem dX5_refusalOfPiece_8 : decode cX5_refusalOfPiece 8 = .ok (.aload_n 0, 1) := by decide +kernel
theorem dX5_refusalOfPiece_9 : decode cX5_refusalOfPiece 9 = .ok (.iload_n 2, 1) := by decide +kernel
theorem dX5_refusalOfPiece_10 : decode cX5_refusalOfPiece 10 = .ok (.invokevirtual 73, 3) := by decide +kernel
theorem dX5_refusalOfPiece_13 : decode cX5_refusalOfPiece 13 = .ok (.ifCond .ne 5, 3) := by decide +kernel
theorem dX5_refusalOfPiece_16 : decode cX5_refusalOfPiece 16 = .ok (.iconst (-1), 1) := by decide +kernel
theorem dX5_refusalOfPiece_17 : decode cX5_refusalOfPiece 17 = .ok (.ireturn, 1) := by decide +kernel
theorem dX5_refusalOfPiece_18 : decode cX5_refusalOfPiece 18 = .ok (.iload_n 2, 1) := by decide +kernel
theorem dX5_refusalOfPiece_19 : decode cX5_refusalOfPiece 19 = .ok (.iload_n 1, 1) := by decide +kernel
theorem dX5_refusalOfPiece_20 : decode cX5_refusalOfPiece 20 = .ok (.if_icmp .gt 8, 3) := by decide +kernel
theorem dX5_refusalOfPiece_23 : decode cX5_refusalOfPiece 23 = .ok (.bipush (-2), 2) := by decide +kernel
theorem dX5_refusalOfPiece_25 : decode cX5_refusalOfPiece 25 = .ok (.goto 4, 3) := by decide +kernel
theorem dX5_refusalOfPiece_28 : decode cX5_refusalOfPiece 28 = .ok (.iconst 0, 1) := by decide +kernel
theorem dX5_refusalOfPiece_29 : decode cX5_refusalOfPiece 29 = .ok (.ireturn, 1) := by decide +kernel
theorem dX5_startChange_0 : decode cX5_startChange 0 = .ok (.aload_n 0, 1) := by decide +kernel
theorem dX5_startChange_1 : decode cX5_startChange 1 = .ok (.getfield 41, 3) := by decide +kernel
theorem dX5_startChange_4 : decode cX5_startChange 4 = .ok (.aload_n 0, 1) := by decide +kernel
theorem dX5_startChange_5 : decode cX5_startChange 5 = .ok (.getfield 34, 3) := by decide +kernel
theorem dX5_startChange_8 : decode cX5_startChange 8 = .ok (.invokevirtual 66, 3) := by decide +kernel
theorem dX5_startChange_11 : decode cX5_startChange 11 = .ok (.aload_n 0, 1) := by decide +kernel
theorem dX5_startChange_12 : decode cX5_startChange 12 = .ok (.invokevirtual 144, 3) := by decide +kernel
theorem dX5_startChange_15 : decode cX5_startChange 15 = .ok (.return_, 1) := by decide +kernel
theorem dX5_makeRoom_0 : decode cX5_makeRoom 0 = .ok (.aload_n 0, 1) := by decide +kernel
theorem dX5_makeRoom_1 : decode cX5_makeRoom 1 = .ok (.getfield 20, 3) := by decide +kernel
theorem dX5_makeRoom_4 : decode cX5_makeRoom 4 = .ok (.getfield 242, 3) := by decide +kernel
theorem dX5_makeRoom_7 : decode cX5_makeRoom 7 = .ok (.sipush 3000, 3) := by decide +kernel
theorem dX5_makeRoom_10 : decode cX5_makeRoom 10 = .ok (.if_icmp .lt 4, 3) := by decide +kernel
theorem dX5_makeRoom_13 : decode cX5_makeRoom 13 = .ok (.return_, 1) := by decide +kernel
theorem dX5_makeRoom_14 : decode cX5_makeRoom 14 = .ok (.aload_n 0, 1) := by decide +kernel
theorem dX5_makeRoom_15 : decode cX5_makeRoom 15 = .ok (.getfield 20, 3) := by decide +kernel
theorem dX5_makeRoom_18 : decode cX5_makeRoom 18 = .ok (.invokevirtual 245, 3) := by decide +kernel
theorem dX5_makeRoom_21 : decode cX5_makeRoom 21 = .ok (.aload_n 0, 1) := by decide +kernel
theorem dX5_makeRoom_22 : decode cX5_makeRoom 22 = .ok (.aload_n 0, 1) := by decide +kernel
theorem dX5_makeRoom_23 : decode cX5_makeRoom 23 = .ok (.getfield 34, 3) := by decide +kernel
theorem dX5_makeRoom_26 : decode cX5_makeRoom 26 = .ok (.invokevirtual 248, 3) := by decide +kernel
theorem dX5_makeRoom_29 : decode cX5_makeRoom 29 = .ok (.iconst 0, 1) := by decide +kernel
theorem dX5_makeRoom_30 : decode cX5_makeRoom 30 = .ok (.istore_n 1, 1) := by decide +kernel
theorem dX5_makeRoom_31 : decode cX5_makeRoom 31 = .ok (.iload_n 1, 1) := by decide +kernel
theorem dX5_makeRoom_32 : decode cX5_makeRoom 32 = .ok (.aload_n 0, 1) := by decide +kernel
theorem dX5_makeRoom_33 : decode cX5_makeRoom 33 = .ok (.getfield 41, 3) := by decide +kernel
theorem dX5_makeRoom_36 : decode cX5_makeRoom 36 = .ok (.getfield 212, 3) := by decide +kernel
theorem dX5_makeRoom_39 : decode cX5_makeRoom 39 = .ok (.if_icmp .ge 33, 3) := by decide +kernel
theorem dX5_makeRoom_42 : decode cX5_makeRoom 42 = .ok (.iload_n 1, 1) := by decide +kernel
theorem dX5_makeRoom_43 : decode cX5_makeRoom 43 = .ok (.bipush 6, 2) := by decide +kernel
theorem dX5_makeRoom_45 : decode cX5_makeRoom 45 = .ok (.if_icmp .ge 27, 3) := by decide +kernel
theorem dX5_makeRoom_48 : decode cX5_makeRoom 48 = .ok (.aload_n 0, 1) := by decide +kernel
theorem dX5_makeRoom_49 : decode cX5_makeRoom 49 = .ok (.getfield 41, 3) := by decide +kernel
theorem dX5_makeRoom_52 : decode cX5_makeRoom 52 = .ok (.iload_n 1, 1) := by decide +kernel
theorem dX5_makeRoom_53 : decode cX5_makeRoom 53 = .ok (.invokevirtual 251, 3) := by decide +kernel
theorem dX5_makeRoom_56 : decode cX5_makeRoom 56 = .ok (.astore_n 2, 1) := by decide +kernel
theorem dX5_makeRoom_57 : decode cX5_makeRoom 57 = .ok (.aload_n 2, 1) := by decide +kernel
theorem dX5_makeRoom_58 : decode cX5_makeRoom 58 = .ok (.ifnull 8, 3) := by decide +kernel
theorem dX5_makeRoom_61 : decode cX5_makeRoom 61 = .ok (.aload_n 0, 1) := by decide +kernel
theorem dX5_makeRoom_62 : decode cX5_makeRoom 62 = .ok (.aload_n 2, 1) := by decide +kernel
theorem dX5_makeRoom_63 : decode cX5_makeRoom 63 = .ok (.invokevirtual 248, 3) := by decide +kernel
theorem dX5_makeRoom_66 : decode cX5_makeRoom 66 = .ok (.iinc 1 1, 3) := by decide +kernel
theorem dX5_makeRoom_69 : decode cX5_makeRoom 69 = .ok (.goto (-38), 3) := by decide +kernel
theorem dX5_makeRoom_72 : decode cX5_makeRoom 72 = .ok (.iconst 0, 1) := by decide +kernel
theorem dX5_makeRoom_73 : decode cX5_makeRoom 73 = .ok (.istore_n 1, 1) := by decide +kernel
theorem dX5_makeRoom_74 : decode cX5_makeRoom 74 = .ok (.iload_n 1, 1) := by decide +kernel
theorem dX5_makeRoom_75 : decode cX5_makeRoom 75 = .ok (.aload_n 0, 1) := by decide +kernel
theorem dX5_makeRoom_76 : decode cX5_makeRoom 76 = .ok (.getfield 45, 3) := by decide +kernel
theorem dX5_makeRoom_79 : decode cX5_makeRoom 79 = .ok (.arraylength, 1) := by decide +kernel
theorem dX5_makeRoom_80 : decode cX5_makeRoom 80 = .ok (.if_icmp .ge 22, 3) := by decide +kernel
theorem dX5_makeRoom_83 : decode cX5_makeRoom 83 = .ok (.aload_n 0, 1) := by decide +kernel
theorem dX5_makeRoom_84 : decode cX5_makeRoom 84 = .ok (.getfield 20, 3) := by decide +kernel
theorem dX5_makeRoom_87 : decode cX5_makeRoom 87 = .ok (.aload_n 0, 1) := by decide +kernel
theorem dX5_makeRoom_88 : decode cX5_makeRoom 88 = .ok (.getfield 45, 3) := by decide +kernel
theorem dX5_makeRoom_91 : decode cX5_makeRoom 91 = .ok (.iload_n 1, 1) := by decide +kernel
theorem dX5_makeRoom_92 : decode cX5_makeRoom 92 = .ok (.iaload, 1) := by decide +kernel
theorem dX5_makeRoom_93 : decode cX5_makeRoom 93 = .ok (.invokevirtual 255, 3) := by decide +kernel
theorem dX5_makeRoom_96 : decode cX5_makeRoom 96 = .ok (.iinc 1 1, 3) := by decide +kernel
theorem dX5_makeRoom_99 : decode cX5_makeRoom 99 = .ok (.goto (-25), 3) := by decide +kernel
theorem dX5_makeRoom_102 : decode cX5_makeRoom 102 = .ok (.aload_n 0, 1) := by decide +kernel
theorem dX5_makeRoom_103 : decode cX5_makeRoom 103 = .ok (.getfield 20, 3) := by decide +kernel
theorem dX5_makeRoom_106 : decode cX5_makeRoom 106 = .ok (.invokevirtual 258, 3) := by decide +kernel
theorem dX5_makeRoom_109 : decode cX5_makeRoom 109 = .ok (.return_, 1) := by decide +kernel
theorem dX5_retainState_0 : decode cX5_retainState 0 = .ok (.aload_n 0, 1) := by decide +kernel
theorem dX5_retainState_1 : decode cX5_retainState 1 = .ok (.getfield 20, 3) := by decide +kernel
theorem dX5_retainState_4 : decode cX5_retainState 4 = .ok (.aload_n 1, 1) := by decide +kernel
theorem dX5_retainState_5 : decode cX5_retainState 5 = .ok (.getfield 106, 3) := by decide +kernel
theorem dX5_retainState_8 : decode cX5_retainState 8 = .ok (.invokevirtual 255, 3) := by decide +kernel
theorem dX5_retainState_11 : decode cX5_retainState 11 = .ok (.iconst 0, 1) := by decide +kernel
theorem dX5_retainState_12 : decode cX5_retainState 12 = .ok (.istore_n 2, 1) := by decide +kernel
theorem dX5_retainState_13 : decode cX5_retainState 13 = .ok (.iload_n 2, 1) := by decide +kernel
theorem dX5_retainState_14 : decode cX5_retainState 14 = .ok (.aload_n 1, 1) := by decide +kernel
theorem dX5_retainState_15 : decode cX5_retainState 15 = .ok (.getfield 138, 3) := by decide +kernel
theorem dX5_retainState_18 : decode cX5_retainState 18 = .ok (.if_icmp .ge 26, 3) := by decide +kernel
theorem dX5_retainState_21 : decode cX5_retainState 21 = .ok (.iload_n 2, 1) := by decide +kernel
theorem dX5_retainState_22 : decode cX5_retainState 22 = .ok (.iconst 4, 1) := by decide +kernel
theorem dX5_retainState_23 : decode cX5_retainState 23 = .ok (.if_icmp .ge 21, 3) := by decide +kernel
theorem dX5_retainState_26 : decode cX5_retainState 26 = .ok (.aload_n 0, 1) := by decide +kernel
theorem dX5_retainState_27 : decode cX5_retainState 27 = .ok (.getfield 20, 3) := by decide +kernel
theorem dX5_retainState_30 : decode cX5_retainState 30 = .ok (.aload_n 1, 1) := by decide +kernel
theorem dX5_retainState_31 : decode cX5_retainState 31 = .ok (.iload_n 2, 1) := by decide +kernel
theorem dX5_retainState_32 : decode cX5_retainState 32 = .ok (.invokevirtual 129, 3) := by decide +kernel
theorem dX5_retainState_35 : decode cX5_retainState 35 = .ok (.invokevirtual 255, 3) := by decide +kernel
theorem dX5_retainState_38 : decode cX5_retainState 38 = .ok (.iinc 2 1, 3) := by decide +kernel
theorem dX5_retainState_41 : decode cX5_retainState 41 = .ok (.goto (-28), 3) := by decide +kernel
theorem dX5_retainState_44 : decode cX5_retainState 44 = .ok (.return_, 1) := by decide +kernel
theorem dX5_putIn_0 : decode cX5_putIn 0 = .ok (.aload_n 0, 1) := by decide +kernel
theorem dX5_putIn_1 : decode cX5_putIn 1 = .ok (.getfield 34, 3) := by decide +kernel
theorem dX5_putIn_4 : decode cX5_putIn 4 = .ok (.getfield 63, 3) := by decide +kernel
theorem dX5_putIn_7 : decode cX5_putIn 7 = .ok (.istore_n 3, 1) := by decide +kernel
theorem dX5_putIn_8 : decode cX5_putIn 8 = .ok (.aload_n 0, 1) := by decide +kernel
theorem dX5_putIn_9 : decode cX5_putIn 9 = .ok (.getfield 12, 3) := by decide +kernel
theorem dX5_putIn_12 : decode cX5_putIn 12 = .ok (.aload_n 0, 1) := by decide +kernel
theorem dX5_putIn_13 : decode cX5_putIn 13 = .ok (.getfield 34, 3) := by decide +kernel
theorem dX5_putIn_16 : decode cX5_putIn 16 = .ok (.getfield 106, 3) := by decide +kernel
theorem dX5_putIn_19 : decode cX5_putIn 19 = .ok (.iload_n 1, 1) := by decide +kernel
theorem dX5_putIn_20 : decode cX5_putIn 20 = .ok (.iload_n 3, 1) := by decide +kernel
theorem dX5_putIn_21 : decode cX5_putIn 21 = .ok (.invokevirtual 109, 3) := by decide +kernel
theorem dX5_putIn_24 : decode cX5_putIn 24 = .ok (.aload_n 0, 1) := by decide +kernel
theorem dX5_putIn_25 : decode cX5_putIn 25 = .ok (.getfield 12, 3) := by decide +kernel
theorem dX5_putIn_28 : decode cX5_putIn 28 = .ok (.getfield 116, 3) := by decide +kernel
theorem dX5_putIn_31 : decode cX5_putIn 31 = .ok (.istore 4, 2) := by decide +kernel
theorem dX5_putIn_33 : decode cX5_putIn 33 = .ok (.aload_n 0, 1) := by decide +kernel
theorem dX5_putIn_34 : decode cX5_putIn 34 = .ok (.getfield 12, 3) := by decide +kernel
theorem dX5_putIn_37 : decode cX5_putIn 37 = .ok (.getfield 113, 3) := by decide +kernel
theorem dX5_putIn_40 : decode cX5_putIn 40 = .ok (.istore 5, 2) := by decide +kernel
theorem dX5_putIn_42 : decode cX5_putIn 42 = .ok (.aload_n 0, 1) := by decide +kernel
theorem dX5_putIn_43 : decode cX5_putIn 43 = .ok (.getfield 34, 3) := by decide +kernel
theorem dX5_putIn_46 : decode cX5_putIn 46 = .ok (.aload_n 0, 1) := by decide +kernel
theorem dX5_putIn_47 : decode cX5_putIn 47 = .ok (.getfield 12, 3) := by decide +kernel
theorem dX5_putIn_50 : decode cX5_putIn 50 = .ok (.aload_n 0, 1) := by decide +kernel
theorem dX5_putIn_51 : decode cX5_putIn 51 = .ok (.getfield 12, 3) := by decide +kernel
theorem dX5_putIn_54 : decode cX5_putIn 54 = .ok (.iload 4, 2) := by decide +kernel
theorem dX5_putIn_56 : decode cX5_putIn 56 = .ok (.iload_n 2, 1) := by decide +kernel
theorem dX5_putIn_57 : decode cX5_putIn 57 = .ok (.iload_n 3, 1) := by decide +kernel
theorem dX5_putIn_58 : decode cX5_putIn 58 = .ok (.invokevirtual 261, 3) := by decide +kernel
theorem dX5_putIn_61 : decode cX5_putIn 61 = .ok (.iload 5, 2) := by decide +kernel
theorem dX5_putIn_63 : decode cX5_putIn 63 = .ok (.iload_n 3, 1) := by decide +kernel
theorem dX5_putIn_64 : decode cX5_putIn 64 = .ok (.invokevirtual 261, 3) := by decide +kernel
theorem dX5_putIn_67 : decode cX5_putIn 67 = .ok (.putfield 106, 3) := by decide +kernel
theorem dX5_putIn_70 : decode cX5_putIn 70 = .ok (.aload_n 0, 1) := by decide +kernel
theorem dX5_putIn_71 : decode cX5_putIn 71 = .ok (.getfield 34, 3) := by decide +kernel
theorem dX5_putIn_74 : decode cX5_putIn 74 = .ok (.iload_n 1, 1) := by decide +kernel
theorem dX5_putIn_75 : decode cX5_putIn 75 = .ok (.aload_n 0, 1) := by decide +kernel
theorem dX5_putIn_76 : decode cX5_putIn 76 = .ok (.getfield 20, 3) := by decide +kernel
theorem dX5_putIn_79 : decode cX5_putIn 79 = .ok (.iload_n 2, 1) := by decide +kernel
theorem dX5_putIn_80 : decode cX5_putIn 80 = .ok (.invokevirtual 133, 3) := by decide +kernel
theorem dX5_putIn_83 : decode cX5_putIn 83 = .ok (.invokevirtual 265, 3) := by decide +kernel
theorem dX5_putIn_86 : decode cX5_putIn 86 = .ok (.return_, 1) := by decide +kernel
theorem dX5_takeOut_0 : decode cX5_takeOut 0 = .ok (.aload_n 0, 1) := by decide +kernel
theorem dX5_takeOut_1 : decode cX5_takeOut 1 = .ok (.getfield 34, 3) := by decide +kernel
theorem dX5_takeOut_4 : decode cX5_takeOut 4 = .ok (.getfield 63, 3) := by decide +kernel
theorem dX5_takeOut_7 : decode cX5_takeOut 7 = .ok (.istore_n 3, 1) := by decide +kernel
theorem dX5_takeOut_8 : decode cX5_takeOut 8 = .ok (.aload_n 0, 1) := by decide +kernel
theorem dX5_takeOut_9 : decode cX5_takeOut 9 = .ok (.getfield 12, 3) := by decide +kernel
theorem dX5_takeOut_12 : decode cX5_takeOut 12 = .ok (.aload_n 0, 1) := by decide +kernel
theorem dX5_takeOut_13 : decode cX5_takeOut 13 = .ok (.getfield 34, 3) := by decide +kernel
theorem dX5_takeOut_16 : decode cX5_takeOut 16 = .ok (.getfield 106, 3) := by decide +kernel
theorem dX5_takeOut_19 : decode cX5_takeOut 19 = .ok (.iload_n 1, 1) := by decide +kernel
theorem dX5_takeOut_20 : decode cX5_takeOut 20 = .ok (.iload_n 3, 1) := by decide +kernel
theorem dX5_takeOut_21 : decode cX5_takeOut 21 = .ok (.invokevirtual 109, 3) := by decide +kernel
theorem dX5_takeOut_24 : decode cX5_takeOut 24 = .ok (.aload_n 0, 1) := by decide +kernel
theorem dX5_takeOut_25 : decode cX5_takeOut 25 = .ok (.getfield 12, 3) := by decide +kernel
theorem dX5_takeOut_28 : decode cX5_takeOut 28 = .ok (.getfield 116, 3) := by decide +kernel
theorem dX5_takeOut_31 : decode cX5_takeOut 31 = .ok (.istore 4, 2) := by decide +kernel
theorem dX5_takeOut_33 : decode cX5_takeOut 33 = .ok (.aload_n 0, 1) := by decide +kernel
theorem dX5_takeOut_34 : decode cX5_takeOut 34 = .ok (.getfield 12, 3) := by decide +kernel
theorem dX5_takeOut_37 : decode cX5_takeOut 37 = .ok (.aload_n 0, 1) := by decide +kernel
theorem dX5_takeOut_38 : decode cX5_takeOut 38 = .ok (.getfield 12, 3) := by decide +kernel
theorem dX5_takeOut_41 : decode cX5_takeOut 41 = .ok (.getfield 113, 3) := by decide +kernel
theorem dX5_takeOut_44 : decode cX5_takeOut 44 = .ok (.iload_n 2, 1) := by decide +kernel
theorem dX5_takeOut_45 : decode cX5_takeOut 45 = .ok (.iload_n 1, 1) := by decide +kernel
theorem dX5_takeOut_46 : decode cX5_takeOut 46 = .ok (.isub, 1) := by decide +kernel
theorem dX5_takeOut_47 : decode cX5_takeOut 47 = .ok (.iload_n 3, 1) := by decide +kernel
theorem dX5_takeOut_48 : decode cX5_takeOut 48 = .ok (.invokevirtual 109, 3) := by decide +kernel
theorem dX5_takeOut_51 : decode cX5_takeOut 51 = .ok (.aload_n 0, 1) := by decide +kernel
theorem dX5_takeOut_52 : decode cX5_takeOut 52 = .ok (.getfield 12, 3) := by decide +kernel
theorem dX5_takeOut_55 : decode cX5_takeOut 55 = .ok (.getfield 116, 3) := by decide +kernel
theorem dX5_takeOut_58 : decode cX5_takeOut 58 = .ok (.istore 5, 2) := by decide +kernel
theorem dX5_takeOut_60 : decode cX5_takeOut 60 = .ok (.aload_n 0, 1) := by decide +kernel
theorem dX5_takeOut_61 : decode cX5_takeOut 61 = .ok (.getfield 34, 3) := by decide +kernel
theorem dX5_takeOut_64 : decode cX5_takeOut 64 = .ok (.aload_n 0, 1) := by decide +kernel
theorem dX5_takeOut_65 : decode cX5_takeOut 65 = .ok (.getfield 12, 3) := by decide +kernel
theorem dX5_takeOut_68 : decode cX5_takeOut 68 = .ok (.iload 4, 2) := by decide +kernel
theorem dX5_takeOut_70 : decode cX5_takeOut 70 = .ok (.aload_n 0, 1) := by decide +kernel
theorem dX5_takeOut_71 : decode cX5_takeOut 71 = .ok (.getfield 12, 3) := by decide +kernel
theorem dX5_takeOut_74 : decode cX5_takeOut 74 = .ok (.getfield 113, 3) := by decide +kernel
theorem dX5_takeOut_77 : decode cX5_takeOut 77 = .ok (.iload_n 3, 1) := by decide +kernel
theorem dX5_takeOut_78 : decode cX5_takeOut 78 = .ok (.invokevirtual 261, 3) := by decide +kernel
theorem dX5_takeOut_81 : decode cX5_takeOut 81 = .ok (.putfield 106, 3) := by decide +kernel
theorem dX5_takeOut_84 : decode cX5_takeOut 84 = .ok (.aload_n 0, 1) := by decide +kernel
theorem dX5_takeOut_85 : decode cX5_takeOut 85 = .ok (.getfield 34, 3) := by decide +kernel
theorem dX5_takeOut_88 : decode cX5_takeOut 88 = .ok (.iload_n 1, 1) := by decide +kernel
theorem dX5_takeOut_89 : decode cX5_takeOut 89 = .ok (.iload_n 2, 1) := by decide +kernel
theorem dX5_takeOut_90 : decode cX5_takeOut 90 = .ok (.invokevirtual 268, 3) := by decide +kernel
theorem dX5_takeOut_93 : decode cX5_takeOut 93 = .ok (.iload 5, 2) := by decide +kernel
theorem dX5_takeOut_95 : decode cX5_takeOut 95 = .ok (.ireturn, 1) := by decide +kernel
theorem dX5_balance_0 : decode cX5_balance 0 = .ok (.aload_n 0, 1) := by decide +kernel
theorem dX5_balance_1 : decode cX5_balance 1 = .ok (.getfield 34, 3) := by decide +kernel
theorem dX5_balance_4 : decode cX5_balance 4 = .ok (.getfield 70, 3) := by decide +kernel
theorem dX5_balance_7 : decode cX5_balance 7 = .ok (.iconst 1, 1) := by decide +kernel
theorem dX5_balance_8 : decode cX5_balance 8 = .ok (.if_icmp .ne 37, 3) := by decide +kernel
theorem dX5_balance_11 : decode cX5_balance 11 = .ok (.aload_n 0, 1) := by decide +kernel
theorem dX5_balance_12 : decode cX5_balance 12 = .ok (.getfield 12, 3) := by decide +kernel
theorem dX5_balance_15 : decode cX5_balance 15 = .ok (.aload_n 0, 1) := by decide +kernel
theorem dX5_balance_16 : decode cX5_balance 16 = .ok (.getfield 34, 3) := by decide +kernel
theorem dX5_balance_19 : decode cX5_balance 19 = .ok (.getfield 106, 3) := by decide +kernel
theorem dX5_balance_22 : decode cX5_balance 22 = .ok (.invokevirtual 165, 3) := by decide +kernel
theorem dX5_balance_25 : decode cX5_balance 25 = .ok (.ifCond .ne 20, 3) := by decide +kernel
theorem dX5_balance_28 : decode cX5_balance 28 = .ok (.aload_n 0, 1) := by decide +kernel
theorem dX5_balance_29 : decode cX5_balance 29 = .ok (.invokevirtual 147, 3) := by decide +kernel
theorem dX5_balance_32 : decode cX5_balance 32 = .ok (.aload_n 0, 1) := by decide +kernel
theorem dX5_balance_33 : decode cX5_balance 33 = .ok (.getfield 34, 3) := by decide +kernel
theorem dX5_balance_36 : decode cX5_balance 36 = .ok (.dup, 1) := by decide +kernel
theorem dX5_balance_37 : decode cX5_balance 37 = .ok (.getfield 168, 3) := by decide +kernel
theorem dX5_balance_40 : decode cX5_balance 40 = .ok (.iconst 1, 1) := by decide +kernel
theorem dX5_balance_41 : decode cX5_balance 41 = .ok (.iadd, 1) := by decide +kernel
theorem dX5_balance_42 : decode cX5_balance 42 = .ok (.putfield 168, 3) := by decide +kernel
theorem dX5_balance_45 : decode cX5_balance 45 = .ok (.return_, 1) := by decide +kernel
theorem dX5_rebuildText_0 : decode cX5_rebuildText 0 = .ok (.aload_n 0, 1) := by decide +kernel
theorem dX5_rebuildText_1 : decode cX5_rebuildText 1 = .ok (.getfield 24, 3) := by decide +kernel
theorem dX5_rebuildText_4 : decode cX5_rebuildText 4 = .ok (.aload_n 0, 1) := by decide +kernel
theorem dX5_rebuildText_5 : decode cX5_rebuildText 5 = .ok (.getfield 20, 3) := by decide +kernel
theorem dX5_rebuildText_8 : decode cX5_rebuildText 8 = .ok (.aload_n 0, 1) := by decide +kernel
theorem dX5_rebuildText_9 : decode cX5_rebuildText 9 = .ok (.getfield 34, 3) := by decide +kernel
theorem dX5_rebuildText_12 : decode cX5_rebuildText 12 = .ok (.getfield 106, 3) := by decide +kernel
theorem dX5_rebuildText_15 : decode cX5_rebuildText 15 = .ok (.invokevirtual 119, 3) := by decide +kernel
theorem dX5_rebuildText_18 : decode cX5_rebuildText 18 = .ok (.aload_n 0, 1) := by decide +kernel
theorem dX5_rebuildText_19 : decode cX5_rebuildText 19 = .ok (.getfield 34, 3) := by decide +kernel
theorem dX5_rebuildText_22 : decode cX5_rebuildText 22 = .ok (.aload_n 0, 1) := by decide +kernel
theorem dX5_rebuildText_23 : decode cX5_rebuildText 23 = .ok (.getfield 12, 3) := by decide +kernel
theorem dX5_rebuildText_26 : decode cX5_rebuildText 26 = .ok (.aload_n 0, 1) := by decide +kernel
theorem dX5_rebuildText_27 : decode cX5_rebuildText 27 = .ok (.getfield 24, 3) := by decide +kernel
theorem dX5_rebuildText_30 : decode cX5_rebuildText 30 = .ok (.getfield 271, 3) := by decide +kernel
theorem dX5_rebuildText_33 : decode cX5_rebuildText 33 = .ok (.aload_n 0, 1) := by decide +kernel
theorem dX5_rebuildText_34 : decode cX5_rebuildText 34 = .ok (.getfield 24, 3) := by decide +kernel
theorem dX5_rebuildText_37 : decode cX5_rebuildText 37 = .ok (.getfield 123, 3) := by decide +kernel
theorem dX5_rebuildText_40 : decode cX5_rebuildText 40 = .ok (.invokevirtual 274, 3) := by decide +kernel
theorem dX5_rebuildText_43 : decode cX5_rebuildText 43 = .ok (.putfield 106, 3) := by decide +kernel
theorem dX5_rebuildText_46 : decode cX5_rebuildText 46 = .ok (.return_, 1) := by decide +kernel
theorem dX5_findAll_0 : decode cX5_findAll 0 = .ok (.aload_n 0, 1) := by decide +kernel
theorem dX5_findAll_1 : decode cX5_findAll 1 = .ok (.getfield 24, 3) := by decide +kernel
theorem dX5_findAll_4 : decode cX5_findAll 4 = .ok (.aload_n 0, 1) := by decide +kernel
theorem dX5_findAll_5 : decode cX5_findAll 5 = .ok (.getfield 20, 3) := by decide +kernel
theorem dX5_findAll_8 : decode cX5_findAll 8 = .ok (.aload_n 0, 1) := by decide +kernel
theorem dX5_findAll_9 : decode cX5_findAll 9 = .ok (.getfield 34, 3) := by decide +kernel
theorem dX5_findAll_12 : decode cX5_findAll 12 = .ok (.getfield 106, 3) := by decide +kernel
theorem dX5_findAll_15 : decode cX5_findAll 15 = .ok (.invokevirtual 119, 3) := by decide +kernel
theorem dX5_findAll_18 : decode cX5_findAll 18 = .ok (.iconst 0, 1) := by decide +kernel
theorem dX5_findAll_19 : decode cX5_findAll 19 = .ok (.istore_n 1, 1) := by decide +kernel
theorem dX5_findAll_20 : decode cX5_findAll 20 = .ok (.iconst 0, 1) := by decide +kernel
theorem dX5_findAll_21 : decode cX5_findAll 21 = .ok (.istore_n 2, 1) := by decide +kernel
theorem dX5_findAll_22 : decode cX5_findAll 22 = .ok (.iconst 0, 1) := by decide +kernel
theorem dX5_findAll_23 : decode cX5_findAll 23 = .ok (.istore_n 3, 1) := by decide +kernel
theorem dX5_findAll_24 : decode cX5_findAll 24 = .ok (.iload_n 3, 1) := by decide +kernel
theorem dX5_findAll_25 : decode cX5_findAll 25 = .ok (.aload_n 0, 1) := by decide +kernel
theorem dX5_findAll_26 : decode cX5_findAll 26 = .ok (.getfield 60, 3) := by decide +kernel
theorem dX5_findAll_29 : decode cX5_findAll 29 = .ok (.arraylength, 1) := by decide +kernel
theorem dX5_findAll_30 : decode cX5_findAll 30 = .ok (.if_icmp .ge 55, 3) := by decide +kernel
theorem dX5_findAll_33 : decode cX5_findAll 33 = .ok (.aload_n 0, 1) := by decide +kernel
theorem dX5_findAll_34 : decode cX5_findAll 34 = .ok (.getfield 24, 3) := by decide +kernel
theorem dX5_findAll_37 : decode cX5_findAll 37 = .ok (.aload_n 0, 1) := by decide +kernel
theorem dX5_findAll_38 : decode cX5_findAll 38 = .ok (.getfield 53, 3) := by decide +kernel
theorem dX5_findAll_41 : decode cX5_findAll 41 = .ok (.aload_n 0, 1) := by decide +kernel
theorem dX5_findAll_42 : decode cX5_findAll 42 = .ok (.getfield 56, 3) := by decide +kernel
theorem dX5_findAll_45 : decode cX5_findAll 45 = .ok (.iload_n 2, 1) := by decide +kernel
theorem dX5_findAll_46 : decode cX5_findAll 46 = .ok (.invokevirtual 186, 3) := by decide +kernel
theorem dX5_findAll_49 : decode cX5_findAll 49 = .ok (.istore 4, 2) := by decide +kernel
theorem dX5_findAll_51 : decode cX5_findAll 51 = .ok (.iload 4, 2) := by decide +kernel
theorem dX5_findAll_53 : decode cX5_findAll 53 = .ok (.bipush (-5), 2) := by decide +kernel
theorem dX5_findAll_55 : decode cX5_findAll 55 = .ok (.if_icmp .ne 5, 3) := by decide +kernel
theorem dX5_findAll_58 : decode cX5_findAll 58 = .ok (.iload_n 1, 1) := by decide +kernel
theorem dX5_findAll_59 : decode cX5_findAll 59 = .ok (.ireturn, 1) := by decide +kernel
theorem dX5_findAll_60 : decode cX5_findAll 60 = .ok (.aload_n 0, 1) := by decide +kernel
theorem dX5_findAll_61 : decode cX5_findAll 61 = .ok (.getfield 60, 3) := by decide +kernel
theorem dX5_findAll_64 : decode cX5_findAll 64 = .ok (.iload_n 3, 1) := by decide +kernel
theorem dX5_findAll_65 : decode cX5_findAll 65 = .ok (.iload 4, 2) := by decide +kernel
theorem dX5_findAll_67 : decode cX5_findAll 67 = .ok (.iastore, 1) := by decide +kernel
theorem dX5_findAll_68 : decode cX5_findAll 68 = .ok (.iinc 1 1, 3) := by decide +kernel
theorem dX5_findAll_71 : decode cX5_findAll 71 = .ok (.iload 4, 2) := by decide +kernel
theorem dX5_findAll_73 : decode cX5_findAll 73 = .ok (.aload_n 0, 1) := by decide +kernel
theorem dX5_findAll_74 : decode cX5_findAll 74 = .ok (.getfield 56, 3) := by decide +kernel
theorem dX5_findAll_77 : decode cX5_findAll 77 = .ok (.iadd, 1) := by decide +kernel
theorem dX5_findAll_78 : decode cX5_findAll 78 = .ok (.istore_n 2, 1) := by decide +kernel
theorem dX5_findAll_79 : decode cX5_findAll 79 = .ok (.iinc 3 1, 3) := by decide +kernel
theorem dX5_findAll_82 : decode cX5_findAll 82 = .ok (.goto (-58), 3) := by decide +kernel
theorem dX5_findAll_85 : decode cX5_findAll 85 = .ok (.iload_n 1, 1) := by decide +kernel
theorem dX5_findAll_86 : decode cX5_findAll 86 = .ok (.ireturn, 1) := by decide +kernel
theorem dX6_init_0 : decode cX6_init 0 = .ok (.aload_n 0, 1) := by decide +kernel
theorem dX6_init_1 : decode cX6_init 1 = .ok (.invokespecial 1, 3) := by decide +kernel
theorem dX6_init_4 : decode cX6_init 4 = .ok (.aload_n 0, 1) := by decide +kernel
theorem dX6_init_5 : decode cX6_init 5 = .ok (.sipush 19232, 3) := by decide +kernel
theorem dX6_init_8 : decode cX6_init 8 = .ok (.newarray .int, 2) := by decide +kernel
theorem dX6_init_10 : decode cX6_init 10 = .ok (.putfield 7, 3) := by decide +kernel
theorem dX6_init_13 : decode cX6_init 13 = .ok (.aload_n 0, 1) := by decide +kernel
theorem dX6_init_14 : decode cX6_init 14 = .ok (.bipush 8, 2) := by decide +kernel
theorem dX6_init_16 : decode cX6_init 16 = .ok (.newarray .int, 2) := by decide +kernel
theorem dX6_init_18 : decode cX6_init 18 = .ok (.putfield 13, 3) := by decide +kernel
theorem dX6_init_21 : decode cX6_init 21 = .ok (.aload_n 0, 1) := by decide +kernel
theorem dX6_init_22 : decode cX6_init 22 = .ok (.ldc 16, 2) := by decide +kernel
theorem dX6_init_24 : decode cX6_init 24 = .ok (.newarray .int, 2) := by decide +kernel
theorem dX6_init_26 : decode cX6_init 26 = .ok (.putfield 17, 3) := by decide +kernel
theorem dX6_init_29 : decode cX6_init 29 = .ok (.aload_n 0, 1) := by decide +kernel
theorem dX6_init_30 : decode cX6_init 30 = .ok (.iconst 3, 1) := by decide +kernel
theorem dX6_init_31 : decode cX6_init 31 = .ok (.newarray .int, 2) := by decide +kernel
theorem dX6_init_33 : decode cX6_init 33 = .ok (.putfield 20, 3) := by decide +kernel
theorem dX6_init_36 : decode cX6_init 36 = .ok (.aload_n 0, 1) := by decide +kernel
theorem dX6_init_37 : decode cX6_init 37 = .ok (.bipush 40, 2) := by decide +kernel
theorem dX6_init_39 : decode cX6_init 39 = .ok (.newarray .int, 2) := by decide +kernel
theorem dX6_init_41 : decode cX6_init 41 = .ok (.putfield 23, 3) := by decide +kernel
theorem dX6_init_44 : decode cX6_init 44 = .ok (.aload_n 0, 1) := by decide +kernel
