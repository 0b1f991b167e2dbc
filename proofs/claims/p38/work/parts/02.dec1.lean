theorem dX5_init_49 : decode cX5_init 49 = .ok (.new 31, 3) := by decide +kernel
theorem dX5_init_52 : decode cX5_init 52 = .ok (.dup, 1) := by decide +kernel
theorem dX5_init_53 : decode cX5_init 53 = .ok (.invokespecial 33, 3) := by decide +kernel
theorem dX5_init_56 : decode cX5_init 56 = .ok (.putfield 34, 3) := by decide +kernel
theorem dX5_init_59 : decode cX5_init 59 = .ok (.aload_n 0, 1) := by decide +kernel
theorem dX5_init_60 : decode cX5_init 60 = .ok (.new 38, 3) := by decide +kernel
theorem dX5_init_63 : decode cX5_init 63 = .ok (.dup, 1) := by decide +kernel
theorem dX5_init_64 : decode cX5_init 64 = .ok (.invokespecial 40, 3) := by decide +kernel
theorem dX5_init_67 : decode cX5_init 67 = .ok (.putfield 41, 3) := by decide +kernel
theorem dX5_init_70 : decode cX5_init 70 = .ok (.aload_n 0, 1) := by decide +kernel
theorem dX5_init_71 : decode cX5_init 71 = .ok (.iconst 3, 1) := by decide +kernel
theorem dX5_init_72 : decode cX5_init 72 = .ok (.newarray .int, 2) := by decide +kernel
theorem dX5_init_74 : decode cX5_init 74 = .ok (.putfield 45, 3) := by decide +kernel
theorem dX5_init_77 : decode cX5_init 77 = .ok (.aload_n 0, 1) := by decide +kernel
theorem dX5_init_78 : decode cX5_init 78 = .ok (.iconst 3, 1) := by decide +kernel
theorem dX5_init_79 : decode cX5_init 79 = .ok (.newarray .boolean, 2) := by decide +kernel
theorem dX5_init_81 : decode cX5_init 81 = .ok (.putfield 49, 3) := by decide +kernel
theorem dX5_init_84 : decode cX5_init 84 = .ok (.aload_n 0, 1) := by decide +kernel
theorem dX5_init_85 : decode cX5_init 85 = .ok (.bipush 40, 2) := by decide +kernel
theorem dX5_init_87 : decode cX5_init 87 = .ok (.newarray .int, 2) := by decide +kernel
theorem dX5_init_89 : decode cX5_init 89 = .ok (.putfield 53, 3) := by decide +kernel
theorem dX5_init_92 : decode cX5_init 92 = .ok (.aload_n 0, 1) := by decide +kernel
theorem dX5_init_93 : decode cX5_init 93 = .ok (.iconst 0, 1) := by decide +kernel
theorem dX5_init_94 : decode cX5_init 94 = .ok (.putfield 56, 3) := by decide +kernel
theorem dX5_init_97 : decode cX5_init 97 = .ok (.aload_n 0, 1) := by decide +kernel
theorem dX5_init_98 : decode cX5_init 98 = .ok (.sipush 400, 3) := by decide +kernel
theorem dX5_init_101 : decode cX5_init 101 = .ok (.newarray .int, 2) := by decide +kernel
theorem dX5_init_103 : decode cX5_init 103 = .ok (.putfield 60, 3) := by decide +kernel
theorem dX5_init_106 : decode cX5_init 106 = .ok (.return_, 1) := by decide +kernel
theorem dX5_setLeafSize_0 : decode cX5_setLeafSize 0 = .ok (.iload_n 1, 1) := by decide +kernel
theorem dX5_setLeafSize_1 : decode cX5_setLeafSize 1 = .ok (.iconst 2, 1) := by decide +kernel
theorem dX5_setLeafSize_2 : decode cX5_setLeafSize 2 = .ok (.if_icmp .lt 9, 3) := by decide +kernel
theorem dX5_setLeafSize_5 : decode cX5_setLeafSize 5 = .ok (.iload_n 1, 1) := by decide +kernel
theorem dX5_setLeafSize_6 : decode cX5_setLeafSize 6 = .ok (.bipush 16, 2) := by decide +kernel
theorem dX5_setLeafSize_8 : decode cX5_setLeafSize 8 = .ok (.if_icmp .le 6, 3) := by decide +kernel
theorem dX5_setLeafSize_11 : decode cX5_setLeafSize 11 = .ok (.bipush (-2), 2) := by decide +kernel
theorem dX5_setLeafSize_13 : decode cX5_setLeafSize 13 = .ok (.ireturn, 1) := by decide +kernel
theorem dX5_setLeafSize_14 : decode cX5_setLeafSize 14 = .ok (.aload_n 0, 1) := by decide +kernel
theorem dX5_setLeafSize_15 : decode cX5_setLeafSize 15 = .ok (.getfield 34, 3) := by decide +kernel
theorem dX5_setLeafSize_18 : decode cX5_setLeafSize 18 = .ok (.getfield 63, 3) := by decide +kernel
theorem dX5_setLeafSize_21 : decode cX5_setLeafSize 21 = .ok (.istore_n 2, 1) := by decide +kernel
theorem dX5_setLeafSize_22 : decode cX5_setLeafSize 22 = .ok (.aload_n 0, 1) := by decide +kernel
theorem dX5_setLeafSize_23 : decode cX5_setLeafSize 23 = .ok (.getfield 41, 3) := by decide +kernel
theorem dX5_setLeafSize_26 : decode cX5_setLeafSize 26 = .ok (.aload_n 0, 1) := by decide +kernel
theorem dX5_setLeafSize_27 : decode cX5_setLeafSize 27 = .ok (.getfield 34, 3) := by decide +kernel
theorem dX5_setLeafSize_30 : decode cX5_setLeafSize 30 = .ok (.invokevirtual 66, 3) := by decide +kernel
theorem dX5_setLeafSize_33 : decode cX5_setLeafSize 33 = .ok (.aload_n 0, 1) := by decide +kernel
theorem dX5_setLeafSize_34 : decode cX5_setLeafSize 34 = .ok (.getfield 34, 3) := by decide +kernel
theorem dX5_setLeafSize_37 : decode cX5_setLeafSize 37 = .ok (.iload_n 1, 1) := by decide +kernel
theorem dX5_setLeafSize_38 : decode cX5_setLeafSize 38 = .ok (.putfield 63, 3) := by decide +kernel
theorem dX5_setLeafSize_41 : decode cX5_setLeafSize 41 = .ok (.iload_n 2, 1) := by decide +kernel
theorem dX5_setLeafSize_42 : decode cX5_setLeafSize 42 = .ok (.ireturn, 1) := by decide +kernel
theorem dX5_setBalancing_0 : decode cX5_setBalancing 0 = .ok (.iload_n 1, 1) := by decide +kernel
theorem dX5_setBalancing_1 : decode cX5_setBalancing 1 = .ok (.ifCond .eq 11, 3) := by decide +kernel
theorem dX5_setBalancing_4 : decode cX5_setBalancing 4 = .ok (.iload_n 1, 1) := by decide +kernel
theorem dX5_setBalancing_5 : decode cX5_setBalancing 5 = .ok (.iconst 1, 1) := by decide +kernel
theorem dX5_setBalancing_6 : decode cX5_setBalancing 6 = .ok (.if_icmp .eq 6, 3) := by decide +kernel
theorem dX5_setBalancing_9 : decode cX5_setBalancing 9 = .ok (.bipush (-2), 2) := by decide +kernel
theorem dX5_setBalancing_11 : decode cX5_setBalancing 11 = .ok (.ireturn, 1) := by decide +kernel
theorem dX5_setBalancing_12 : decode cX5_setBalancing 12 = .ok (.aload_n 0, 1) := by decide +kernel
theorem dX5_setBalancing_13 : decode cX5_setBalancing 13 = .ok (.getfield 34, 3) := by decide +kernel
theorem dX5_setBalancing_16 : decode cX5_setBalancing 16 = .ok (.getfield 70, 3) := by decide +kernel
theorem dX5_setBalancing_19 : decode cX5_setBalancing 19 = .ok (.istore_n 2, 1) := by decide +kernel
theorem dX5_setBalancing_20 : decode cX5_setBalancing 20 = .ok (.aload_n 0, 1) := by decide +kernel
theorem dX5_setBalancing_21 : decode cX5_setBalancing 21 = .ok (.getfield 41, 3) := by decide +kernel
theorem dX5_setBalancing_24 : decode cX5_setBalancing 24 = .ok (.aload_n 0, 1) := by decide +kernel
theorem dX5_setBalancing_25 : decode cX5_setBalancing 25 = .ok (.getfield 34, 3) := by decide +kernel
theorem dX5_setBalancing_28 : decode cX5_setBalancing 28 = .ok (.invokevirtual 66, 3) := by decide +kernel
theorem dX5_setBalancing_31 : decode cX5_setBalancing 31 = .ok (.aload_n 0, 1) := by decide +kernel
theorem dX5_setBalancing_32 : decode cX5_setBalancing 32 = .ok (.getfield 34, 3) := by decide +kernel
theorem dX5_setBalancing_35 : decode cX5_setBalancing 35 = .ok (.iload_n 1, 1) := by decide +kernel
theorem dX5_setBalancing_36 : decode cX5_setBalancing 36 = .ok (.putfield 70, 3) := by decide +kernel
theorem dX5_setBalancing_39 : decode cX5_setBalancing 39 = .ok (.iload_n 2, 1) := by decide +kernel
theorem dX5_setBalancing_40 : decode cX5_setBalancing 40 = .ok (.ireturn, 1) := by decide +kernel
theorem dX5_type_0 : decode cX5_type 0 = .ok (.iload_n 1, 1) := by decide +kernel
theorem dX5_type_1 : decode cX5_type 1 = .ok (.bipush 10, 2) := by decide +kernel
theorem dX5_type_3 : decode cX5_type 3 = .ok (.if_icmp .eq 18, 3) := by decide +kernel
theorem dX5_type_6 : decode cX5_type 6 = .ok (.iload_n 1, 1) := by decide +kernel
theorem dX5_type_7 : decode cX5_type 7 = .ok (.bipush 32, 2) := by decide +kernel
theorem dX5_type_9 : decode cX5_type 9 = .ok (.if_icmp .lt 9, 3) := by decide +kernel
theorem dX5_type_12 : decode cX5_type 12 = .ok (.iload_n 1, 1) := by decide +kernel
theorem dX5_type_13 : decode cX5_type 13 = .ok (.bipush 126, 2) := by decide +kernel
theorem dX5_type_15 : decode cX5_type 15 = .ok (.if_icmp .le 6, 3) := by decide +kernel
theorem dX5_type_18 : decode cX5_type 18 = .ok (.bipush (-2), 2) := by decide +kernel
theorem dX5_type_20 : decode cX5_type 20 = .ok (.ireturn, 1) := by decide +kernel
theorem dX5_type_21 : decode cX5_type 21 = .ok (.aload_n 0, 1) := by decide +kernel
theorem dX5_type_22 : decode cX5_type 22 = .ok (.getfield 56, 3) := by decide +kernel
theorem dX5_type_25 : decode cX5_type 25 = .ok (.ifCond .lt 15, 3) := by decide +kernel
theorem dX5_type_28 : decode cX5_type 28 = .ok (.aload_n 0, 1) := by decide +kernel
theorem dX5_type_29 : decode cX5_type 29 = .ok (.getfield 56, 3) := by decide +kernel
theorem dX5_type_32 : decode cX5_type 32 = .ok (.aload_n 0, 1) := by decide +kernel
theorem dX5_type_33 : decode cX5_type 33 = .ok (.getfield 53, 3) := by decide +kernel
theorem dX5_type_36 : decode cX5_type 36 = .ok (.arraylength, 1) := by decide +kernel
theorem dX5_type_37 : decode cX5_type 37 = .ok (.if_icmp .lt 6, 3) := by decide +kernel
theorem dX5_type_40 : decode cX5_type 40 = .ok (.bipush (-4), 2) := by decide +kernel
theorem dX5_type_42 : decode cX5_type 42 = .ok (.ireturn, 1) := by decide +kernel
theorem dX5_type_43 : decode cX5_type 43 = .ok (.aload_n 0, 1) := by decide +kernel
theorem dX5_type_44 : decode cX5_type 44 = .ok (.getfield 53, 3) := by decide +kernel
theorem dX5_type_47 : decode cX5_type 47 = .ok (.aload_n 0, 1) := by decide +kernel
theorem dX5_type_48 : decode cX5_type 48 = .ok (.getfield 56, 3) := by decide +kernel
theorem dX5_type_51 : decode cX5_type 51 = .ok (.iload_n 1, 1) := by decide +kernel
theorem dX5_type_52 : decode cX5_type 52 = .ok (.iastore, 1) := by decide +kernel
theorem dX5_type_53 : decode cX5_type 53 = .ok (.aload_n 0, 1) := by decide +kernel
theorem dX5_type_54 : decode cX5_type 54 = .ok (.dup, 1) := by decide +kernel
theorem dX5_type_55 : decode cX5_type 55 = .ok (.getfield 56, 3) := by decide +kernel
theorem dX5_type_58 : decode cX5_type 58 = .ok (.iconst 1, 1) := by decide +kernel
theorem dX5_type_59 : decode cX5_type 59 = .ok (.iadd, 1) := by decide +kernel
theorem dX5_type_60 : decode cX5_type 60 = .ok (.putfield 56, 3) := by decide +kernel
theorem dX5_type_63 : decode cX5_type 63 = .ok (.aload_n 0, 1) := by decide +kernel
theorem dX5_type_64 : decode cX5_type 64 = .ok (.getfield 56, 3) := by decide +kernel
theorem dX5_type_67 : decode cX5_type 67 = .ok (.ireturn, 1) := by decide +kernel
theorem dX5_insert_0 : decode cX5_insert 0 = .ok (.aload_n 0, 1) := by decide +kernel
theorem dX5_insert_1 : decode cX5_insert 1 = .ok (.iload_n 1, 1) := by decide +kernel
theorem dX5_insert_2 : decode cX5_insert 2 = .ok (.invokevirtual 73, 3) := by decide +kernel
theorem dX5_insert_5 : decode cX5_insert 5 = .ok (.ifCond .ne 5, 3) := by decide +kernel
theorem dX5_insert_8 : decode cX5_insert 8 = .ok (.iconst (-1), 1) := by decide +kernel
theorem dX5_insert_9 : decode cX5_insert 9 = .ok (.ireturn, 1) := by decide +kernel
theorem dX5_insert_10 : decode cX5_insert 10 = .ok (.aload_n 0, 1) := by decide +kernel
theorem dX5_insert_11 : decode cX5_insert 11 = .ok (.getfield 56, 3) := by decide +kernel
theorem dX5_insert_14 : decode cX5_insert 14 = .ok (.ifCond .ne 6, 3) := by decide +kernel
theorem dX5_insert_17 : decode cX5_insert 17 = .ok (.bipush (-3), 2) := by decide +kernel
theorem dX5_insert_19 : decode cX5_insert 19 = .ok (.ireturn, 1) := by decide +kernel
theorem dX5_insert_20 : decode cX5_insert 20 = .ok (.aload_n 0, 1) := by decide +kernel
theorem dX5_insert_21 : decode cX5_insert 21 = .ok (.invokevirtual 77, 3) := by decide +kernel
theorem dX5_insert_24 : decode cX5_insert 24 = .ok (.aload_n 0, 1) := by decide +kernel
theorem dX5_insert_25 : decode cX5_insert 25 = .ok (.getfield 56, 3) := by decide +kernel
theorem dX5_insert_28 : decode cX5_insert 28 = .ok (.iadd, 1) := by decide +kernel
theorem dX5_insert_29 : decode cX5_insert 29 = .ok (.sipush 400, 3) := by decide +kernel
theorem dX5_insert_32 : decode cX5_insert 32 = .ok (.if_icmp .le 6, 3) := by decide +kernel
theorem dX5_insert_35 : decode cX5_insert 35 = .ok (.bipush (-4), 2) := by decide +kernel
theorem dX5_insert_37 : decode cX5_insert 37 = .ok (.ireturn, 1) := by decide +kernel
theorem dX5_insert_38 : decode cX5_insert 38 = .ok (.aload_n 0, 1) := by decide +kernel
theorem dX5_insert_39 : decode cX5_insert 39 = .ok (.invokevirtual 81, 3) := by decide +kernel
theorem dX5_insert_42 : decode cX5_insert 42 = .ok (.aload_n 0, 1) := by decide +kernel
theorem dX5_insert_43 : decode cX5_insert 43 = .ok (.getfield 12, 3) := by decide +kernel
theorem dX5_insert_46 : decode cX5_insert 46 = .ok (.aload_n 0, 1) := by decide +kernel
theorem dX5_insert_47 : decode cX5_insert 47 = .ok (.getfield 53, 3) := by decide +kernel
theorem dX5_insert_50 : decode cX5_insert 50 = .ok (.aload_n 0, 1) := by decide +kernel
theorem dX5_insert_51 : decode cX5_insert 51 = .ok (.getfield 56, 3) := by decide +kernel
theorem dX5_insert_54 : decode cX5_insert 54 = .ok (.aload_n 0, 1) := by decide +kernel
theorem dX5_insert_55 : decode cX5_insert 55 = .ok (.getfield 34, 3) := by decide +kernel
theorem dX5_insert_58 : decode cX5_insert 58 = .ok (.getfield 63, 3) := by decide +kernel
theorem dX5_insert_61 : decode cX5_insert 61 = .ok (.invokevirtual 84, 3) := by decide +kernel
theorem dX5_insert_64 : decode cX5_insert 64 = .ok (.istore_n 2, 1) := by decide +kernel
theorem dX5_insert_65 : decode cX5_insert 65 = .ok (.aload_n 0, 1) := by decide +kernel
theorem dX5_insert_66 : decode cX5_insert 66 = .ok (.iconst 0, 1) := by decide +kernel
theorem dX5_insert_67 : decode cX5_insert 67 = .ok (.putfield 56, 3) := by decide +kernel
theorem dX5_insert_70 : decode cX5_insert 70 = .ok (.aload_n 0, 1) := by decide +kernel
theorem dX5_insert_71 : decode cX5_insert 71 = .ok (.iload_n 1, 1) := by decide +kernel
theorem dX5_insert_72 : decode cX5_insert 72 = .ok (.iload_n 2, 1) := by decide +kernel
theorem dX5_insert_73 : decode cX5_insert 73 = .ok (.invokevirtual 88, 3) := by decide +kernel
theorem dX5_insert_76 : decode cX5_insert 76 = .ok (.aload_n 0, 1) := by decide +kernel
theorem dX5_insert_77 : decode cX5_insert 77 = .ok (.invokevirtual 92, 3) := by decide +kernel
theorem dX5_insert_80 : decode cX5_insert 80 = .ok (.aload_n 0, 1) := by decide +kernel
theorem dX5_insert_81 : decode cX5_insert 81 = .ok (.invokevirtual 77, 3) := by decide +kernel
theorem dX5_insert_84 : decode cX5_insert 84 = .ok (.ireturn, 1) := by decide +kernel
theorem dX5_delete_0 : decode cX5_delete 0 = .ok (.aload_n 0, 1) := by decide +kernel
theorem dX5_delete_1 : decode cX5_delete 1 = .ok (.iload_n 1, 1) := by decide +kernel
theorem dX5_delete_2 : decode cX5_delete 2 = .ok (.iload_n 2, 1) := by decide +kernel
theorem dX5_delete_3 : decode cX5_delete 3 = .ok (.invokevirtual 95, 3) := by decide +kernel
theorem dX5_delete_6 : decode cX5_delete 6 = .ok (.istore_n 3, 1) := by decide +kernel
theorem dX5_delete_7 : decode cX5_delete 7 = .ok (.iload_n 3, 1) := by decide +kernel
theorem dX5_delete_8 : decode cX5_delete 8 = .ok (.ifCond .eq 5, 3) := by decide +kernel
theorem dX5_delete_11 : decode cX5_delete 11 = .ok (.iload_n 3, 1) := by decide +kernel
theorem dX5_delete_12 : decode cX5_delete 12 = .ok (.ireturn, 1) := by decide +kernel
theorem dX5_delete_13 : decode cX5_delete 13 = .ok (.aload_n 0, 1) := by decide +kernel
theorem dX5_delete_14 : decode cX5_delete 14 = .ok (.invokevirtual 81, 3) := by decide +kernel
theorem dX5_delete_17 : decode cX5_delete 17 = .ok (.aload_n 0, 1) := by decide +kernel
theorem dX5_delete_18 : decode cX5_delete 18 = .ok (.iload_n 1, 1) := by decide +kernel
theorem dX5_delete_19 : decode cX5_delete 19 = .ok (.iload_n 2, 1) := by decide +kernel
theorem dX5_delete_20 : decode cX5_delete 20 = .ok (.invokevirtual 99, 3) := by decide +kernel
theorem dX5_delete_23 : decode cX5_delete 23 = .ok (.pop, 1) := by decide +kernel
theorem dX5_delete_24 : decode cX5_delete 24 = .ok (.aload_n 0, 1) := by decide +kernel
theorem dX5_delete_25 : decode cX5_delete 25 = .ok (.invokevirtual 92, 3) := by decide +kernel
theorem dX5_delete_28 : decode cX5_delete 28 = .ok (.aload_n 0, 1) := by decide +kernel
theorem dX5_delete_29 : decode cX5_delete 29 = .ok (.invokevirtual 77, 3) := by decide +kernel
theorem dX5_delete_32 : decode cX5_delete 32 = .ok (.ireturn, 1) := by decide +kernel
theorem dX5_cut_0 : decode cX5_cut 0 = .ok (.aload_n 0, 1) := by decide +kernel
theorem dX5_cut_1 : decode cX5_cut 1 = .ok (.iload_n 1, 1) := by decide +kernel
theorem dX5_cut_2 : decode cX5_cut 2 = .ok (.iload_n 2, 1) := by decide +kernel
theorem dX5_cut_3 : decode cX5_cut 3 = .ok (.invokevirtual 95, 3) := by decide +kernel
theorem dX5_cut_6 : decode cX5_cut 6 = .ok (.istore_n 3, 1) := by decide +kernel
theorem dX5_cut_7 : decode cX5_cut 7 = .ok (.iload_n 3, 1) := by decide +kernel
theorem dX5_cut_8 : decode cX5_cut 8 = .ok (.ifCond .eq 5, 3) := by decide +kernel
theorem dX5_cut_11 : decode cX5_cut 11 = .ok (.iload_n 3, 1) := by decide +kernel
theorem dX5_cut_12 : decode cX5_cut 12 = .ok (.ireturn, 1) := by decide +kernel
theorem dX5_cut_13 : decode cX5_cut 13 = .ok (.aload_n 0, 1) := by decide +kernel
theorem dX5_cut_14 : decode cX5_cut 14 = .ok (.invokevirtual 81, 3) := by decide +kernel
theorem dX5_cut_17 : decode cX5_cut 17 = .ok (.aload_n 0, 1) := by decide +kernel
theorem dX5_cut_18 : decode cX5_cut 18 = .ok (.getfield 34, 3) := by decide +kernel
theorem dX5_cut_21 : decode cX5_cut 21 = .ok (.aload_n 0, 1) := by decide +kernel
theorem dX5_cut_22 : decode cX5_cut 22 = .ok (.iload_n 1, 1) := by decide +kernel
theorem dX5_cut_23 : decode cX5_cut 23 = .ok (.iload_n 2, 1) := by decide +kernel
theorem dX5_cut_24 : decode cX5_cut 24 = .ok (.invokevirtual 99, 3) := by decide +kernel
theorem dX5_cut_27 : decode cX5_cut 27 = .ok (.invokevirtual 102, 3) := by decide +kernel
theorem dX5_cut_30 : decode cX5_cut 30 = .ok (.aload_n 0, 1) := by decide +kernel
theorem dX5_cut_31 : decode cX5_cut 31 = .ok (.invokevirtual 92, 3) := by decide +kernel
theorem dX5_cut_34 : decode cX5_cut 34 = .ok (.aload_n 0, 1) := by decide +kernel
theorem dX5_cut_35 : decode cX5_cut 35 = .ok (.invokevirtual 77, 3) := by decide +kernel
theorem dX5_cut_38 : decode cX5_cut 38 = .ok (.ireturn, 1) := by decide +kernel
theorem dX5_copy_0 : decode cX5_copy 0 = .ok (.aload_n 0, 1) := by decide +kernel
theorem dX5_copy_1 : decode cX5_copy 1 = .ok (.iload_n 1, 1) := by decide +kernel
theorem dX5_copy_2 : decode cX5_copy 2 = .ok (.iload_n 2, 1) := by decide +kernel
theorem dX5_copy_3 : decode cX5_copy 3 = .ok (.invokevirtual 95, 3) := by decide +kernel
theorem dX5_copy_6 : decode cX5_copy 6 = .ok (.istore_n 3, 1) := by decide +kernel
theorem dX5_copy_7 : decode cX5_copy 7 = .ok (.iload_n 3, 1) := by decide +kernel
theorem dX5_copy_8 : decode cX5_copy 8 = .ok (.ifCond .eq 5, 3) := by decide +kernel
theorem dX5_copy_11 : decode cX5_copy 11 = .ok (.iload_n 3, 1) := by decide +kernel
theorem dX5_copy_12 : decode cX5_copy 12 = .ok (.ireturn, 1) := by decide +kernel
theorem dX5_copy_13 : decode cX5_copy 13 = .ok (.aload_n 0, 1) := by decide +kernel
theorem dX5_copy_14 : decode cX5_copy 14 = .ok (.invokevirtual 81, 3) := by decide +kernel
theorem dX5_copy_17 : decode cX5_copy 17 = .ok (.aload_n 0, 1) := by decide +kernel
theorem dX5_copy_18 : decode cX5_copy 18 = .ok (.getfield 12, 3) := by decide +kernel
theorem dX5_copy_21 : decode cX5_copy 21 = .ok (.aload_n 0, 1) := by decide +kernel
theorem dX5_copy_22 : decode cX5_copy 22 = .ok (.getfield 34, 3) := by decide +kernel
theorem dX5_copy_25 : decode cX5_copy 25 = .ok (.getfield 106, 3) := by decide +kernel
theorem dX5_copy_28 : decode cX5_copy 28 = .ok (.iload_n 1, 1) := by decide +kernel
theorem dX5_copy_29 : decode cX5_copy 29 = .ok (.aload_n 0, 1) := by decide +kernel
theorem dX5_copy_30 : decode cX5_copy 30 = .ok (.getfield 34, 3) := by decide +kernel
theorem dX5_copy_33 : decode cX5_copy 33 = .ok (.getfield 63, 3) := by decide +kernel
theorem dX5_copy_36 : decode cX5_copy 36 = .ok (.invokevirtual 109, 3) := by decide +kernel
theorem dX5_copy_39 : decode cX5_copy 39 = .ok (.aload_n 0, 1) := by decide +kernel
theorem dX5_copy_40 : decode cX5_copy 40 = .ok (.getfield 12, 3) := by decide +kernel
theorem dX5_copy_43 : decode cX5_copy 43 = .ok (.aload_n 0, 1) := by decide +kernel
theorem dX5_copy_44 : decode cX5_copy 44 = .ok (.getfield 12, 3) := by decide +kernel
theorem dX5_copy_47 : decode cX5_copy 47 = .ok (.getfield 113, 3) := by decide +kernel
theorem dX5_copy_50 : decode cX5_copy 50 = .ok (.iload_n 2, 1) := by decide +kernel
theorem dX5_copy_51 : decode cX5_copy 51 = .ok (.iload_n 1, 1) := by decide +kernel
theorem dX5_copy_52 : decode cX5_copy 52 = .ok (.isub, 1) := by decide +kernel
theorem dX5_copy_53 : decode cX5_copy 53 = .ok (.aload_n 0, 1) := by decide +kernel
theorem dX5_copy_54 : decode cX5_copy 54 = .ok (.getfield 34, 3) := by decide +kernel
theorem dX5_copy_57 : decode cX5_copy 57 = .ok (.getfield 63, 3) := by decide +kernel
theorem dX5_copy_60 : decode cX5_copy 60 = .ok (.invokevirtual 109, 3) := by decide +kernel
theorem dX5_copy_63 : decode cX5_copy 63 = .ok (.aload_n 0, 1) := by decide +kernel
theorem dX5_copy_64 : decode cX5_copy 64 = .ok (.getfield 34, 3) := by decide +kernel
theorem dX5_copy_67 : decode cX5_copy 67 = .ok (.aload_n 0, 1) := by decide +kernel
theorem dX5_copy_68 : decode cX5_copy 68 = .ok (.getfield 12, 3) := by decide +kernel
theorem dX5_copy_71 : decode cX5_copy 71 = .ok (.getfield 116, 3) := by decide +kernel
theorem dX5_copy_74 : decode cX5_copy 74 = .ok (.invokevirtual 102, 3) := by decide +kernel
theorem dX5_copy_77 : decode cX5_copy 77 = .ok (.aload_n 0, 1) := by decide +kernel
theorem dX5_copy_78 : decode cX5_copy 78 = .ok (.getfield 24, 3) := by decide +kernel
theorem dX5_copy_81 : decode cX5_copy 81 = .ok (.aload_n 0, 1) := by decide +kernel
theorem dX5_copy_82 : decode cX5_copy 82 = .ok (.getfield 20, 3) := by decide +kernel
theorem dX5_copy_85 : decode cX5_copy 85 = .ok (.aload_n 0, 1) := by decide +kernel
theorem dX5_copy_86 : decode cX5_copy 86 = .ok (.getfield 12, 3) := by decide +kernel
theorem dX5_copy_89 : decode cX5_copy 89 = .ok (.getfield 116, 3) := by decide +kernel
theorem dX5_copy_92 : decode cX5_copy 92 = .ok (.invokevirtual 119, 3) := by decide +kernel
theorem dX5_copy_95 : decode cX5_copy 95 = .ok (.aload_n 0, 1) := by decide +kernel
theorem dX5_copy_96 : decode cX5_copy 96 = .ok (.getfield 24, 3) := by decide +kernel
theorem dX5_copy_99 : decode cX5_copy 99 = .ok (.getfield 123, 3) := by decide +kernel
theorem dX5_copy_102 : decode cX5_copy 102 = .ok (.ireturn, 1) := by decide +kernel
theorem dX5_paste_0 : decode cX5_paste 0 = .ok (.aload_n 0, 1) := by decide +kernel
theorem dX5_paste_1 : decode cX5_paste 1 = .ok (.iload_n 1, 1) := by decide +kernel
theorem dX5_paste_2 : decode cX5_paste 2 = .ok (.invokevirtual 73, 3) := by decide +kernel
theorem dX5_paste_5 : decode cX5_paste 5 = .ok (.ifCond .eq 14, 3) := by decide +kernel
theorem dX5_paste_8 : decode cX5_paste 8 = .ok (.aload_n 0, 1) := by decide +kernel
theorem dX5_paste_9 : decode cX5_paste 9 = .ok (.getfield 34, 3) := by decide +kernel
theorem dX5_paste_12 : decode cX5_paste 12 = .ok (.iload_n 2, 1) := by decide +kernel
theorem dX5_paste_13 : decode cX5_paste 13 = .ok (.invokevirtual 126, 3) := by decide +kernel
theorem dX5_paste_16 : decode cX5_paste 16 = .ok (.ifCond .ne 5, 3) := by decide +kernel
theorem dX5_paste_19 : decode cX5_paste 19 = .ok (.iconst (-1), 1) := by decide +kernel
theorem dX5_paste_20 : decode cX5_paste 20 = .ok (.ireturn, 1) := by decide +kernel
theorem dX5_paste_21 : decode cX5_paste 21 = .ok (.aload_n 0, 1) := by decide +kernel
theorem dX5_paste_22 : decode cX5_paste 22 = .ok (.getfield 34, 3) := by decide +kernel
theorem dX5_paste_25 : decode cX5_paste 25 = .ok (.iload_n 2, 1) := by decide +kernel
theorem dX5_paste_26 : decode cX5_paste 26 = .ok (.invokevirtual 129, 3) := by decide +kernel
theorem dX5_paste_29 : decode cX5_paste 29 = .ok (.istore_n 3, 1) := by decide +kernel
theorem dX5_paste_30 : decode cX5_paste 30 = .ok (.aload_n 0, 1) := by decide +kernel
theorem dX5_paste_31 : decode cX5_paste 31 = .ok (.invokevirtual 77, 3) := by decide +kernel
theorem dX5_paste_34 : decode cX5_paste 34 = .ok (.aload_n 0, 1) := by decide +kernel
theorem dX5_paste_35 : decode cX5_paste 35 = .ok (.getfield 20, 3) := by decide +kernel
theorem dX5_paste_38 : decode cX5_paste 38 = .ok (.iload_n 3, 1) := by decide +kernel
theorem dX5_paste_39 : decode cX5_paste 39 = .ok (.invokevirtual 133, 3) := by decide +kernel
theorem dX5_paste_42 : decode cX5_paste 42 = .ok (.iadd, 1) := by decide +kernel
theorem dX5_paste_43 : decode cX5_paste 43 = .ok (.sipush 400, 3) := by decide +kernel
theorem dX5_paste_46 : decode cX5_paste 46 = .ok (.if_icmp .le 6, 3) := by decide +kernel
theorem dX5_paste_49 : decode cX5_paste 49 = .ok (.bipush (-4), 2) := by decide +kernel
theorem dX5_paste_51 : decode cX5_paste 51 = .ok (.ireturn, 1) := by decide +kernel
theorem dX5_paste_52 : decode cX5_paste 52 = .ok (.aload_n 0, 1) := by decide +kernel
theorem dX5_paste_53 : decode cX5_paste 53 = .ok (.invokevirtual 81, 3) := by decide +kernel
theorem dX5_paste_56 : decode cX5_paste 56 = .ok (.aload_n 0, 1) := by decide +kernel
theorem dX5_paste_57 : decode cX5_paste 57 = .ok (.iload_n 1, 1) := by decide +kernel
theorem dX5_paste_58 : decode cX5_paste 58 = .ok (.iload_n 3, 1) := by decide +kernel
theorem dX5_paste_59 : decode cX5_paste 59 = .ok (.invokevirtual 88, 3) := by decide +kernel
theorem dX5_paste_62 : decode cX5_paste 62 = .ok (.aload_n 0, 1) := by decide +kernel
theorem dX5_paste_63 : decode cX5_paste 63 = .ok (.invokevirtual 92, 3) := by decide +kernel
theorem dX5_paste_66 : decode cX5_paste 66 = .ok (.aload_n 0, 1) := by decide +kernel
theorem dX5_paste_67 : decode cX5_paste 67 = .ok (.invokevirtual 77, 3) := by decide +kernel
theorem dX5_paste_70 : decode cX5_paste 70 = .ok (.ireturn, 1) := by decide +kernel
theorem dX5_move_0 : decode cX5_move 0 = .ok (.aload_n 0, 1) := by decide +kernel
theorem dX5_move_1 : decode cX5_move 1 = .ok (.iload_n 1, 1) := by decide +kernel
theorem dX5_move_2 : decode cX5_move 2 = .ok (.iload_n 2, 1) := by decide +kernel
theorem dX5_move_3 : decode cX5_move 3 = .ok (.invokevirtual 95, 3) := by decide +kernel
theorem dX5_move_6 : decode cX5_move 6 = .ok (.istore 4, 2) := by decide +kernel
theorem dX5_move_8 : decode cX5_move 8 = .ok (.iload 4, 2) := by decide +kernel
theorem dX5_move_10 : decode cX5_move 10 = .ok (.ifCond .eq 6, 3) := by decide +kernel
theorem dX5_move_13 : decode cX5_move 13 = .ok (.iload 4, 2) := by decide +kernel
theorem dX5_move_15 : decode cX5_move 15 = .ok (.ireturn, 1) := by decide +kernel
theorem dX5_move_16 : decode cX5_move 16 = .ok (.iload_n 2, 1) := by decide +kernel
theorem dX5_move_17 : decode cX5_move 17 = .ok (.iload_n 1, 1) := by decide +kernel
theorem dX5_move_18 : decode cX5_move 18 = .ok (.isub, 1) := by decide +kernel
theorem dX5_move_19 : decode cX5_move 19 = .ok (.istore 5, 2) := by decide +kernel
theorem dX5_move_21 : decode cX5_move 21 = .ok (.iload_n 3, 1) := by decide +kernel
theorem dX5_move_22 : decode cX5_move 22 = .ok (.ifCond .lt 14, 3) := by decide +kernel
theorem dX5_move_25 : decode cX5_move 25 = .ok (.iload_n 3, 1) := by decide +kernel
theorem dX5_move_26 : decode cX5_move 26 = .ok (.aload_n 0, 1) := by decide +kernel
theorem dX5_move_27 : decode cX5_move 27 = .ok (.invokevirtual 77, 3) := by decide +kernel
theorem dX5_move_30 : decode cX5_move 30 = .ok (.iload 5, 2) := by decide +kernel
theorem dX5_move_32 : decode cX5_move 32 = .ok (.isub, 1) := by decide +kernel
theorem dX5_move_33 : decode cX5_move 33 = .ok (.if_icmp .le 6, 3) := by decide +kernel
theorem dX5_move_36 : decode cX5_move 36 = .ok (.bipush (-2), 2) := by decide +kernel
theorem dX5_move_38 : decode cX5_move 38 = .ok (.ireturn, 1) := by decide +kernel
theorem dX5_move_39 : decode cX5_move 39 = .ok (.aload_n 0, 1) := by decide +kernel
theorem dX5_move_40 : decode cX5_move 40 = .ok (.invokevirtual 81, 3) := by decide +kernel
theorem dX5_move_43 : decode cX5_move 43 = .ok (.aload_n 0, 1) := by decide +kernel
theorem dX5_move_44 : decode cX5_move 44 = .ok (.iload_n 3, 1) := by decide +kernel
theorem dX5_move_45 : decode cX5_move 45 = .ok (.aload_n 0, 1) := by decide +kernel
theorem dX5_move_46 : decode cX5_move 46 = .ok (.iload_n 1, 1) := by decide +kernel
theorem dX5_move_47 : decode cX5_move 47 = .ok (.iload_n 2, 1) := by decide +kernel
theorem dX5_move_48 : decode cX5_move 48 = .ok (.invokevirtual 99, 3) := by decide +kernel
theorem dX5_move_51 : decode cX5_move 51 = .ok (.invokevirtual 88, 3) := by decide +kernel
theorem dX5_move_54 : decode cX5_move 54 = .ok (.aload_n 0, 1) := by decide +kernel
theorem dX5_move_55 : decode cX5_move 55 = .ok (.invokevirtual 92, 3) := by decide +kernel
theorem dX5_move_58 : decode cX5_move 58 = .ok (.iload_n 3, 1) := by decide +kernel
theorem dX5_move_59 : decode cX5_move 59 = .ok (.iload 5, 2) := by decide +kernel
theorem dX5_move_61 : decode cX5_move 61 = .ok (.iadd, 1) := by decide +kernel
theorem dX5_move_62 : decode cX5_move 62 = .ok (.ireturn, 1) := by decide +kernel
theorem dX5_build_0 : decode cX5_build 0 = .ok (.aload_n 0, 1) := by decide +kernel
theorem dX5_build_1 : decode cX5_build 1 = .ok (.invokevirtual 81, 3) := by decide +kernel
theorem dX5_build_4 : decode cX5_build 4 = .ok (.aload_n 0, 1) := by decide +kernel
theorem dX5_build_5 : decode cX5_build 5 = .ok (.invokevirtual 147, 3) := by decide +kernel
theorem dX5_build_8 : decode cX5_build 8 = .ok (.aload_n 0, 1) := by decide +kernel
theorem dX5_build_9 : decode cX5_build 9 = .ok (.invokevirtual 150, 3) := by decide +kernel
theorem dX5_build_12 : decode cX5_build 12 = .ok (.ireturn, 1) := by decide +kernel
theorem dX5_pack_0 : decode cX5_pack 0 = .ok (.aload_n 0, 1) := by decide +kernel
theorem dX5_pack_1 : decode cX5_pack 1 = .ok (.invokevirtual 81, 3) := by decide +kernel
theorem dX5_pack_4 : decode cX5_pack 4 = .ok (.aload_n 0, 1) := by decide +kernel
theorem dX5_pack_5 : decode cX5_pack 5 = .ok (.getfield 24, 3) := by decide +kernel
theorem dX5_pack_8 : decode cX5_pack 8 = .ok (.aload_n 0, 1) := by decide +kernel
theorem dX5_pack_9 : decode cX5_pack 9 = .ok (.getfield 20, 3) := by decide +kernel
theorem dX5_pack_12 : decode cX5_pack 12 = .ok (.aload_n 0, 1) := by decide +kernel
theorem dX5_pack_13 : decode cX5_pack 13 = .ok (.getfield 34, 3) := by decide +kernel
theorem dX5_pack_16 : decode cX5_pack 16 = .ok (.getfield 106, 3) := by decide +kernel
theorem dX5_pack_19 : decode cX5_pack 19 = .ok (.invokevirtual 119, 3) := by decide +kernel
theorem dX5_pack_22 : decode cX5_pack 22 = .ok (.aload_n 0, 1) := by decide +kernel
theorem dX5_pack_23 : decode cX5_pack 23 = .ok (.getfield 34, 3) := by decide +kernel
theorem dX5_pack_26 : decode cX5_pack 26 = .ok (.aload_n 0, 1) := by decide +kernel
theorem dX5_pack_27 : decode cX5_pack 27 = .ok (.getfield 12, 3) := by decide +kernel
theorem dX5_pack_30 : decode cX5_pack 30 = .ok (.aload_n 0, 1) := by decide +kernel
theorem dX5_pack_31 : decode cX5_pack 31 = .ok (.getfield 24, 3) := by decide +kernel
theorem dX5_pack_34 : decode cX5_pack 34 = .ok (.getfield 153, 3) := by decide +kernel
theorem dX5_pack_37 : decode cX5_pack 37 = .ok (.aload_n 0, 1) := by decide +kernel
theorem dX5_pack_38 : decode cX5_pack 38 = .ok (.getfield 24, 3) := by decide +kernel
theorem dX5_pack_41 : decode cX5_pack 41 = .ok (.getfield 156, 3) := by decide +kernel
theorem dX5_pack_44 : decode cX5_pack 44 = .ok (.aload_n 0, 1) := by decide +kernel
theorem dX5_pack_45 : decode cX5_pack 45 = .ok (.getfield 34, 3) := by decide +kernel
theorem dX5_pack_48 : decode cX5_pack 48 = .ok (.getfield 63, 3) := by decide +kernel
theorem dX5_pack_51 : decode cX5_pack 51 = .ok (.invokevirtual 84, 3) := by decide +kernel
theorem dX5_pack_54 : decode cX5_pack 54 = .ok (.putfield 106, 3) := by decide +kernel
theorem dX5_pack_57 : decode cX5_pack 57 = .ok (.aload_n 0, 1) := by decide +kernel
theorem dX5_pack_58 : decode cX5_pack 58 = .ok (.invokevirtual 159, 3) := by decide +kernel
theorem dX5_pack_61 : decode cX5_pack 61 = .ok (.ireturn, 1) := by decide +kernel
theorem dX5_length_0 : decode cX5_length 0 = .ok (.aload_n 0, 1) := by decide +kernel
theorem dX5_length_1 : decode cX5_length 1 = .ok (.getfield 20, 3) := by decide +kernel
theorem dX5_length_4 : decode cX5_length 4 = .ok (.aload_n 0, 1) := by decide +kernel
theorem dX5_length_5 : decode cX5_length 5 = .ok (.getfield 34, 3) := by decide +kernel
theorem dX5_length_8 : decode cX5_length 8 = .ok (.getfield 106, 3) := by decide +kernel
theorem dX5_length_11 : decode cX5_length 11 = .ok (.invokevirtual 133, 3) := by decide +kernel
theorem dX5_length_14 : decode cX5_length 14 = .ok (.ireturn, 1) := by decide +kernel
theorem dX5_depth_0 : decode cX5_depth 0 = .ok (.aload_n 0, 1) := by decide +kernel
theorem dX5_depth_1 : decode cX5_depth 1 = .ok (.getfield 20, 3) := by decide +kernel
theorem dX5_depth_4 : decode cX5_depth 4 = .ok (.aload_n 0, 1) := by decide +kernel
theorem dX5_depth_5 : decode cX5_depth 5 = .ok (.getfield 34, 3) := by decide +kernel
theorem dX5_depth_8 : decode cX5_depth 8 = .ok (.getfield 106, 3) := by decide +kernel
theorem dX5_depth_11 : decode cX5_depth 11 = .ok (.invokevirtual 162, 3) := by decide +kernel
theorem dX5_depth_14 : decode cX5_depth 14 = .ok (.ireturn, 1) := by decide +kernel
theorem dX5_leaves_0 : decode cX5_leaves 0 = .ok (.aload_n 0, 1) := by decide +kernel
theorem dX5_leaves_1 : decode cX5_leaves 1 = .ok (.getfield 24, 3) := by decide +kernel
theorem dX5_leaves_4 : decode cX5_leaves 4 = .ok (.aload_n 0, 1) := by decide +kernel
theorem dX5_leaves_5 : decode cX5_leaves 5 = .ok (.getfield 20, 3) := by decide +kernel
theorem dX5_leaves_8 : decode cX5_leaves 8 = .ok (.aload_n 0, 1) := by decide +kernel
theorem dX5_leaves_9 : decode cX5_leaves 9 = .ok (.getfield 34, 3) := by decide +kernel
theorem dX5_leaves_12 : decode cX5_leaves 12 = .ok (.getfield 106, 3) := by decide +kernel
theorem dX5_leaves_15 : decode cX5_leaves 15 = .ok (.invokevirtual 119, 3) := by decide +kernel
theorem dX5_leaves_18 : decode cX5_leaves 18 = .ok (.aload_n 0, 1) := by decide +kernel
theorem dX5_leaves_19 : decode cX5_leaves 19 = .ok (.getfield 24, 3) := by decide +kernel
theorem dX5_leaves_22 : decode cX5_leaves 22 = .ok (.getfield 123, 3) := by decide +kernel
theorem dX5_leaves_25 : decode cX5_leaves 25 = .ok (.ireturn, 1) := by decide +kernel
theorem dX5_isBalanced_0 : decode cX5_isBalanced 0 = .ok (.aload_n 0, 1) := by decide +kernel
theorem dX5_isBalanced_1 : decode cX5_isBalanced 1 = .ok (.getfield 12, 3) := by decide +kernel
theorem dX5_isBalanced_4 : decode cX5_isBalanced 4 = .ok (.aload_n 0, 1) := by decide +kernel
theorem dX5_isBalanced_5 : decode cX5_isBalanced 5 = .ok (.getfield 34, 3) := by decide +kernel
theorem dX5_isBalanced_8 : decode cX5_isBalanced 8 = .ok (.getfield 106, 3) := by decide +kernel
theorem dX5_isBalanced_11 : decode cX5_isBalanced 11 = .ok (.invokevirtual 165, 3) := by decide +kernel
theorem dX5_isBalanced_14 : decode cX5_isBalanced 14 = .ok (.ifCond .eq 7, 3) := by decide +kernel
theorem dX5_isBalanced_17 : decode cX5_isBalanced 17 = .ok (.iconst 1, 1) := by decide +kernel
theorem dX5_isBalanced_18 : decode cX5_isBalanced 18 = .ok (.goto 4, 3) := by decide +kernel
theorem dX5_isBalanced_21 : decode cX5_isBalanced 21 = .ok (.iconst 0, 1) := by decide +kernel
theorem dX5_isBalanced_22 : decode cX5_isBalanced 22 = .ok (.ireturn, 1) := by decide +kernel
theorem dX5_builds_0 : decode cX5_builds 0 = .ok (.aload_n 0, 1) := by decide +kernel
theorem dX5_builds_1 : decode cX5_builds 1 = .ok (.getfield 34, 3) := by decide +kernel
theorem dX5_builds_4 : decode cX5_builds 4 = .ok (.getfield 168, 3) := by decide +kernel
theorem dX5_builds_7 : decode cX5_builds 7 = .ok (.ireturn, 1) := by decide +kernel
theorem dX5_character_0 : decode cX5_character 0 = .ok (.iload_n 1, 1) := by decide +kernel
theorem dX5_character_1 : decode cX5_character 1 = .ok (.ifCond .lt 11, 3) := by decide +kernel
theorem dX5_character_4 : decode cX5_character 4 = .ok (.iload_n 1, 1) := by decide +kernel
theorem dX5_character_5 : decode cX5_character 5 = .ok (.aload_n 0, 1) := by decide +kernel
theorem dX5_character_6 : decode cX5_character 6 = .ok (.invokevirtual 77, 3) := by decide +kernel
theorem dX5_character_9 : decode cX5_character 9 = .ok (.if_icmp .lt 5, 3) := by decide +kernel
theorem dX5_character_12 : decode cX5_character 12 = .ok (.iconst (-1), 1) := by decide +kernel
theorem dX5_character_13 : decode cX5_character 13 = .ok (.ireturn, 1) := by decide +kernel
theorem dX5_character_14 : decode cX5_character 14 = .ok (.aload_n 0, 1) := by decide +kernel
theorem dX5_character_15 : decode cX5_character 15 = .ok (.getfield 12, 3) := by decide +kernel
theorem dX5_character_18 : decode cX5_character 18 = .ok (.aload_n 0, 1) := by decide +kernel
theorem dX5_character_19 : decode cX5_character 19 = .ok (.getfield 34, 3) := by decide +kernel
theorem dX5_character_22 : decode cX5_character 22 = .ok (.getfield 106, 3) := by decide +kernel
theorem dX5_character_25 : decode cX5_character 25 = .ok (.iload_n 1, 1) := by decide +kernel
theorem dX5_character_26 : decode cX5_character 26 = .ok (.invokevirtual 171, 3) := by decide +kernel
theorem dX5_character_29 : decode cX5_character 29 = .ok (.ireturn, 1) := by decide +kernel
theorem dX5_leaf_0 : decode cX5_leaf 0 = .ok (.aload_n 0, 1) := by decide +kernel
theorem dX5_leaf_1 : decode cX5_leaf 1 = .ok (.getfield 24, 3) := by decide +kernel
theorem dX5_leaf_4 : decode cX5_leaf 4 = .ok (.aload_n 0, 1) := by decide +kernel
theorem dX5_leaf_5 : decode cX5_leaf 5 = .ok (.getfield 20, 3) := by decide +kernel
theorem dX5_leaf_8 : decode cX5_leaf 8 = .ok (.aload_n 0, 1) := by decide +kernel
theorem dX5_leaf_9 : decode cX5_leaf 9 = .ok (.getfield 34, 3) := by decide +kernel
theorem dX5_leaf_12 : decode cX5_leaf 12 = .ok (.getfield 106, 3) := by decide +kernel
theorem dX5_leaf_15 : decode cX5_leaf 15 = .ok (.invokevirtual 119, 3) := by decide +kernel
theorem dX5_leaf_18 : decode cX5_leaf 18 = .ok (.iload_n 1, 1) := by decide +kernel
theorem dX5_leaf_19 : decode cX5_leaf 19 = .ok (.ifCond .lt 14, 3) := by decide +kernel
theorem dX5_leaf_22 : decode cX5_leaf 22 = .ok (.iload_n 1, 1) := by decide +kernel
theorem dX5_leaf_23 : decode cX5_leaf 23 = .ok (.aload_n 0, 1) := by decide +kernel
theorem dX5_leaf_24 : decode cX5_leaf 24 = .ok (.getfield 24, 3) := by decide +kernel
theorem dX5_leaf_27 : decode cX5_leaf 27 = .ok (.getfield 123, 3) := by decide +kernel
theorem dX5_leaf_30 : decode cX5_leaf 30 = .ok (.if_icmp .lt 5, 3) := by decide +kernel
theorem dX5_leaf_33 : decode cX5_leaf 33 = .ok (.iconst (-1), 1) := by decide +kernel
theorem dX5_leaf_34 : decode cX5_leaf 34 = .ok (.ireturn, 1) := by decide +kernel
theorem dX5_leaf_35 : decode cX5_leaf 35 = .ok (.iload_n 2, 1) := by decide +kernel
theorem dX5_leaf_36 : decode cX5_leaf 36 = .ok (.tableswitch 55 0 2 #[28, 37, 46], 28) := by decide +kernel
theorem dX5_leaf_64 : decode cX5_leaf 64 = .ok (.aload_n 0, 1) := by decide +kernel
theorem dX5_leaf_65 : decode cX5_leaf 65 = .ok (.getfield 24, 3) := by decide +kernel
theorem dX5_leaf_68 : decode cX5_leaf 68 = .ok (.iload_n 1, 1) := by decide +kernel
theorem dX5_leaf_69 : decode cX5_leaf 69 = .ok (.invokevirtual 174, 3) := by decide +kernel
theorem dX5_leaf_72 : decode cX5_leaf 72 = .ok (.ireturn, 1) := by decide +kernel
theorem dX5_leaf_73 : decode cX5_leaf 73 = .ok (.aload_n 0, 1) := by decide +kernel
theorem dX5_leaf_74 : decode cX5_leaf 74 = .ok (.getfield 24, 3) := by decide +kernel
theorem dX5_leaf_77 : decode cX5_leaf 77 = .ok (.iload_n 1, 1) := by decide +kernel
theorem dX5_leaf_78 : decode cX5_leaf 78 = .ok (.invokevirtual 177, 3) := by decide +kernel
theorem dX5_leaf_81 : decode cX5_leaf 81 = .ok (.ireturn, 1) := by decide +kernel
theorem dX5_leaf_82 : decode cX5_leaf 82 = .ok (.aload_n 0, 1) := by decide +kernel
theorem dX5_leaf_83 : decode cX5_leaf 83 = .ok (.getfield 24, 3) := by decide +kernel
theorem dX5_leaf_86 : decode cX5_leaf 86 = .ok (.iload_n 1, 1) := by decide +kernel
theorem dX5_leaf_87 : decode cX5_leaf 87 = .ok (.invokevirtual 180, 3) := by decide +kernel
theorem dX5_leaf_90 : decode cX5_leaf 90 = .ok (.ireturn, 1) := by decide +kernel
theorem dX5_leaf_91 : decode cX5_leaf 91 = .ok (.bipush (-2), 2) := by decide +kernel
theorem dX5_leaf_93 : decode cX5_leaf 93 = .ok (.ireturn, 1) := by decide +kernel
theorem dX5_way_0 : decode cX5_way 0 = .ok (.iload_n 1, 1) := by decide +kernel
theorem dX5_way_1 : decode cX5_way 1 = .ok (.ifCond .lt 11, 3) := by decide +kernel
theorem dX5_way_4 : decode cX5_way 4 = .ok (.iload_n 1, 1) := by decide +kernel
theorem dX5_way_5 : decode cX5_way 5 = .ok (.aload_n 0, 1) := by decide +kernel
theorem dX5_way_6 : decode cX5_way 6 = .ok (.invokevirtual 77, 3) := by decide +kernel
theorem dX5_way_9 : decode cX5_way 9 = .ok (.if_icmp .lt 5, 3) := by decide +kernel
theorem dX5_way_12 : decode cX5_way 12 = .ok (.iconst (-1), 1) := by decide +kernel
theorem dX5_way_13 : decode cX5_way 13 = .ok (.ireturn, 1) := by decide +kernel
theorem dX5_way_14 : decode cX5_way 14 = .ok (.aload_n 0, 1) := by decide +kernel
theorem dX5_way_15 : decode cX5_way 15 = .ok (.getfield 12, 3) := by decide +kernel
theorem dX5_way_18 : decode cX5_way 18 = .ok (.aload_n 0, 1) := by decide +kernel
theorem dX5_way_19 : decode cX5_way 19 = .ok (.getfield 34, 3) := by decide +kernel
theorem dX5_way_22 : decode cX5_way 22 = .ok (.getfield 106, 3) := by decide +kernel
theorem dX5_way_25 : decode cX5_way 25 = .ok (.iload_n 1, 1) := by decide +kernel
theorem dX5_way_26 : decode cX5_way 26 = .ok (.invokevirtual 183, 3) := by decide +kernel
theorem dX5_way_29 : decode cX5_way 29 = .ok (.ireturn, 1) := by decide +kernel
theorem dX5_setMark_0 : decode cX5_setMark 0 = .ok (.iload_n 1, 1) := by decide +kernel
theorem dX5_setMark_1 : decode cX5_setMark 1 = .ok (.ifCond .lt 16, 3) := by decide +kernel
theorem dX5_setMark_4 : decode cX5_setMark 4 = .ok (.iload_n 1, 1) := by decide +kernel
theorem dX5_setMark_5 : decode cX5_setMark 5 = .ok (.iconst 4, 1) := by decide +kernel
theorem dX5_setMark_6 : decode cX5_setMark 6 = .ok (.if_icmp .ge 11, 3) := by decide +kernel
theorem dX5_setMark_9 : decode cX5_setMark 9 = .ok (.aload_n 0, 1) := by decide +kernel
theorem dX5_setMark_10 : decode cX5_setMark 10 = .ok (.iload_n 2, 1) := by decide +kernel
theorem dX5_setMark_11 : decode cX5_setMark 11 = .ok (.invokevirtual 73, 3) := by decide +kernel
theorem dX5_setMark_14 : decode cX5_setMark 14 = .ok (.ifCond .ne 5, 3) := by decide +kernel
theorem dX5_setMark_17 : decode cX5_setMark 17 = .ok (.iconst (-1), 1) := by decide +kernel
theorem dX5_setMark_18 : decode cX5_setMark 18 = .ok (.ireturn, 1) := by decide +kernel
theorem dX5_setMark_19 : decode cX5_setMark 19 = .ok (.aload_n 0, 1) := by decide +kernel
theorem dX5_setMark_20 : decode cX5_setMark 20 = .ok (.getfield 34, 3) := by decide +kernel
theorem dX5_setMark_23 : decode cX5_setMark 23 = .ok (.iload_n 1, 1) := by decide +kernel
theorem dX5_setMark_24 : decode cX5_setMark 24 = .ok (.invokevirtual 195, 3) := by decide +kernel
theorem dX5_setMark_27 : decode cX5_setMark 27 = .ok (.istore_n 3, 1) := by decide +kernel
theorem dX5_setMark_28 : decode cX5_setMark 28 = .ok (.aload_n 0, 1) := by decide +kernel
theorem dX5_setMark_29 : decode cX5_setMark 29 = .ok (.getfield 41, 3) := by decide +kernel
theorem dX5_setMark_32 : decode cX5_setMark 32 = .ok (.aload_n 0, 1) := by decide +kernel
theorem dX5_setMark_33 : decode cX5_setMark 33 = .ok (.getfield 34, 3) := by decide +kernel
theorem dX5_setMark_36 : decode cX5_setMark 36 = .ok (.invokevirtual 66, 3) := by decide +kernel
theorem dX5_setMark_39 : decode cX5_setMark 39 = .ok (.aload_n 0, 1) := by decide +kernel
theorem dX5_setMark_40 : decode cX5_setMark 40 = .ok (.getfield 34, 3) := by decide +kernel
theorem dX5_setMark_43 : decode cX5_setMark 43 = .ok (.iload_n 1, 1) := by decide +kernel
theorem dX5_setMark_44 : decode cX5_setMark 44 = .ok (.iload_n 2, 1) := by decide +kernel
theorem dX5_setMark_45 : decode cX5_setMark 45 = .ok (.invokevirtual 198, 3) := by decide +kernel
theorem dX5_setMark_48 : decode cX5_setMark 48 = .ok (.iload_n 3, 1) := by decide +kernel
theorem dX5_setMark_49 : decode cX5_setMark 49 = .ok (.ireturn, 1) := by decide +kernel
theorem dX5_mark_0 : decode cX5_mark 0 = .ok (.iload_n 1, 1) := by decide +kernel
theorem dX5_mark_1 : decode cX5_mark 1 = .ok (.ifCond .lt 8, 3) := by decide +kernel
theorem dX5_mark_4 : decode cX5_mark 4 = .ok (.iload_n 1, 1) := by decide +kernel
theorem dX5_mark_5 : decode cX5_mark 5 = .ok (.iconst 4, 1) := by decide +kernel
theorem dX5_mark_6 : decode cX5_mark 6 = .ok (.if_icmp .lt 5, 3) := by decide +kernel
theorem dX5_mark_9 : decode cX5_mark 9 = .ok (.iconst (-1), 1) := by decide +kernel
theorem dX5_mark_10 : decode cX5_mark 10 = .ok (.ireturn, 1) := by decide +kernel
theorem dX5_mark_11 : decode cX5_mark 11 = .ok (.aload_n 0, 1) := by decide +kernel
theorem dX5_mark_12 : decode cX5_mark 12 = .ok (.getfield 34, 3) := by decide +kernel
theorem dX5_mark_15 : decode cX5_mark 15 = .ok (.iload_n 1, 1) := by decide +kernel
theorem dX5_mark_16 : decode cX5_mark 16 = .ok (.invokevirtual 195, 3) := by decide +kernel
theorem dX5_mark_19 : decode cX5_mark 19 = .ok (.ireturn, 1) := by decide +kernel
theorem dX5_ring_0 : decode cX5_ring 0 = .ok (.aload_n 0, 1) := by decide +kernel
theorem dX5_ring_1 : decode cX5_ring 1 = .ok (.getfield 34, 3) := by decide +kernel
theorem dX5_ring_4 : decode cX5_ring 4 = .ok (.getfield 138, 3) := by decide +kernel
theorem dX5_ring_7 : decode cX5_ring 7 = .ok (.ireturn, 1) := by decide +kernel
theorem dX5_ofRing_0 : decode cX5_ofRing 0 = .ok (.aload_n 0, 1) := by decide +kernel
theorem dX5_ofRing_1 : decode cX5_ofRing 1 = .ok (.getfield 34, 3) := by decide +kernel
theorem dX5_ofRing_4 : decode cX5_ofRing 4 = .ok (.iload_n 1, 1) := by decide +kernel
theorem dX5_ofRing_5 : decode cX5_ofRing 5 = .ok (.invokevirtual 126, 3) := by decide +kernel
theorem dX5_ofRing_8 : decode cX5_ofRing 8 = .ok (.ifCond .ne 5, 3) := by decide +kernel
theorem dX5_ofRing_11 : decode cX5_ofRing 11 = .ok (.iconst (-1), 1) := by decide +kernel
theorem dX5_ofRing_12 : decode cX5_ofRing 12 = .ok (.ireturn, 1) := by decide +kernel
theorem dX5_ofRing_13 : decode cX5_ofRing 13 = .ok (.aload_n 0, 1) := by decide +kernel
theorem dX5_ofRing_14 : decode cX5_ofRing 14 = .ok (.getfield 34, 3) := by decide +kernel
theorem dX5_ofRing_17 : decode cX5_ofRing 17 = .ok (.iload_n 1, 1) := by decide +kernel
theorem dX5_ofRing_18 : decode cX5_ofRing 18 = .ok (.invokevirtual 129, 3) := by decide +kernel
theorem dX5_ofRing_21 : decode cX5_ofRing 21 = .ok (.istore_n 3, 1) := by decide +kernel
theorem dX5_ofRing_22 : decode cX5_ofRing 22 = .ok (.iload_n 2, 1) := by decide +kernel
theorem dX5_ofRing_23 : decode cX5_ofRing 23 = .ok (.tableswitch 63 0 2 #[25, 34, 43], 25) := by decide +kernel
theorem dX5_ofRing_48 : decode cX5_ofRing 48 = .ok (.aload_n 0, 1) := by decide +kernel
theorem dX5_ofRing_49 : decode cX5_ofRing 49 = .ok (.getfield 20, 3) := by decide +kernel
theorem dX5_ofRing_52 : decode cX5_ofRing 52 = .ok (.iload_n 3, 1) := by decide +kernel
theorem dX5_ofRing_53 : decode cX5_ofRing 53 = .ok (.invokevirtual 133, 3) := by decide +kernel
theorem dX5_ofRing_56 : decode cX5_ofRing 56 = .ok (.ireturn, 1) := by decide +kernel
theorem dX5_ofRing_57 : decode cX5_ofRing 57 = .ok (.aload_n 0, 1) := by decide +kernel
theorem dX5_ofRing_58 : decode cX5_ofRing 58 = .ok (.getfield 20, 3) := by decide +kernel
theorem dX5_ofRing_61 : decode cX5_ofRing 61 = .ok (.iload_n 3, 1) := by decide +kernel
theorem dX5_ofRing_62 : decode cX5_ofRing 62 = .ok (.invokevirtual 162, 3) := by decide +kernel
theorem dX5_ofRing_65 : decode cX5_ofRing 65 = .ok (.ireturn, 1) := by decide +kernel
theorem dX5_ofRing_66 : decode cX5_ofRing 66 = .ok (.aload_n 0, 1) := by decide +kernel
theorem dX5_ofRing_67 : decode cX5_ofRing 67 = .ok (.getfield 24, 3) := by decide +kernel
theorem dX5_ofRing_70 : decode cX5_ofRing 70 = .ok (.aload_n 0, 1) := by decide +kernel
theorem dX5_ofRing_71 : decode cX5_ofRing 71 = .ok (.getfield 20, 3) := by decide +kernel
theorem dX5_ofRing_74 : decode cX5_ofRing 74 = .ok (.iload_n 3, 1) := by decide +kernel
theorem dX5_ofRing_75 : decode cX5_ofRing 75 = .ok (.invokevirtual 119, 3) := by decide +kernel
theorem dX5_ofRing_78 : decode cX5_ofRing 78 = .ok (.aload_n 0, 1) := by decide +kernel
theorem dX5_ofRing_79 : decode cX5_ofRing 79 = .ok (.getfield 24, 3) := by decide +kernel
theorem dX5_ofRing_82 : decode cX5_ofRing 82 = .ok (.getfield 123, 3) := by decide +kernel
theorem dX5_ofRing_85 : decode cX5_ofRing 85 = .ok (.ireturn, 1) := by decide +kernel
theorem dX5_ofRing_86 : decode cX5_ofRing 86 = .ok (.bipush (-2), 2) := by decide +kernel
theorem dX5_ofRing_88 : decode cX5_ofRing 88 = .ok (.ireturn, 1) := by decide +kernel
theorem dX5_ringCharacter_0 : decode cX5_ringCharacter 0 = .ok (.aload_n 0, 1) := by decide +kernel
theorem dX5_ringCharacter_1 : decode cX5_ringCharacter 1 = .ok (.getfield 34, 3) := by decide +kernel
theorem dX5_ringCharacter_4 : decode cX5_ringCharacter 4 = .ok (.iload_n 1, 1) := by decide +kernel
theorem dX5_ringCharacter_5 : decode cX5_ringCharacter 5 = .ok (.invokevirtual 126, 3) := by decide +kernel
theorem dX5_ringCharacter_8 : decode cX5_ringCharacter 8 = .ok (.ifCond .ne 5, 3) := by decide +kernel
theorem dX5_ringCharacter_11 : decode cX5_ringCharacter 11 = .ok (.iconst (-1), 1) := by decide +kernel
theorem dX5_ringCharacter_12 : decode cX5_ringCharacter 12 = .ok (.ireturn, 1) := by decide +kernel
theorem dX5_ringCharacter_13 : decode cX5_ringCharacter 13 = .ok (.aload_n 0, 1) := by decide +kernel
theorem dX5_ringCharacter_14 : decode cX5_ringCharacter 14 = .ok (.getfield 34, 3) := by decide +kernel
theorem dX5_ringCharacter_17 : decode cX5_ringCharacter 17 = .ok (.iload_n 1, 1) := by decide +kernel
theorem dX5_ringCharacter_18 : decode cX5_ringCharacter 18 = .ok (.invokevirtual 129, 3) := by decide +kernel
theorem dX5_ringCharacter_21 : decode cX5_ringCharacter 21 = .ok (.istore_n 3, 1) := by decide +kernel
theorem dX5_ringCharacter_22 : decode cX5_ringCharacter 22 = .ok (.iload_n 2, 1) := by decide +kernel
theorem dX5_ringCharacter_23 : decode cX5_ringCharacter 23 = .ok (.ifCond .lt 15, 3) := by decide +kernel
theorem dX5_ringCharacter_26 : decode cX5_ringCharacter 26 = .ok (.iload_n 2, 1) := by decide +kernel
theorem dX5_ringCharacter_27 : decode cX5_ringCharacter 27 = .ok (.aload_n 0, 1) := by decide +kernel
theorem dX5_ringCharacter_28 : decode cX5_ringCharacter 28 = .ok (.getfield 20, 3) := by decide +kernel
theorem dX5_ringCharacter_31 : decode cX5_ringCharacter 31 = .ok (.iload_n 3, 1) := by decide +kernel
theorem dX5_ringCharacter_32 : decode cX5_ringCharacter 32 = .ok (.invokevirtual 133, 3) := by decide +kernel
theorem dX5_ringCharacter_35 : decode cX5_ringCharacter 35 = .ok (.if_icmp .lt 5, 3) := by decide +kernel
theorem dX5_ringCharacter_38 : decode cX5_ringCharacter 38 = .ok (.iconst (-1), 1) := by decide +kernel
theorem dX5_ringCharacter_39 : decode cX5_ringCharacter 39 = .ok (.ireturn, 1) := by decide +kernel
theorem dX5_ringCharacter_40 : decode cX5_ringCharacter 40 = .ok (.aload_n 0, 1) := by decide +kernel
theorem dX5_ringCharacter_41 : decode cX5_ringCharacter 41 = .ok (.getfield 12, 3) := by decide +kernel
theorem dX5_ringCharacter_44 : decode cX5_ringCharacter 44 = .ok (.iload_n 3, 1) := by decide +kernel
theorem dX5_ringCharacter_45 : decode cX5_ringCharacter 45 = .ok (.iload_n 2, 1) := by decide +kernel
theorem dX5_ringCharacter_46 : decode cX5_ringCharacter 46 = .ok (.invokevirtual 171, 3) := by decide +kernel
theorem dX5_ringCharacter_49 : decode cX5_ringCharacter 49 = .ok (.ireturn, 1) := by decide +kernel
theorem dX5_isPosition_0 : decode cX5_isPosition 0 = .ok (.iload_n 1, 1) := by decide +kernel
theorem dX5_isPosition_1 : decode cX5_isPosition 1 = .ok (.ifCond .lt 15, 3) := by decide +kernel
theorem dX5_isPosition_4 : decode cX5_isPosition 4 = .ok (.iload_n 1, 1) := by decide +kernel
theorem dX5_isPosition_5 : decode cX5_isPosition 5 = .ok (.aload_n 0, 1) := by decide +kernel
theorem dX5_isPosition_6 : decode cX5_isPosition 6 = .ok (.invokevirtual 77, 3) := by decide +kernel
theorem dX5_isPosition_9 : decode cX5_isPosition 9 = .ok (.if_icmp .gt 7, 3) := by decide +kernel
theorem dX5_isPosition_12 : decode cX5_isPosition 12 = .ok (.iconst 1, 1) := by decide +kernel
theorem dX5_isPosition_13 : decode cX5_isPosition 13 = .ok (.goto 4, 3) := by decide +kernel
theorem dX5_isPosition_16 : decode cX5_isPosition 16 = .ok (.iconst 0, 1) := by decide +kernel
theorem dX5_isPosition_17 : decode cX5_isPosition 17 = .ok (.ireturn, 1) := by decide +kernel
theorem dX5_refusalOfPiece_0 : decode cX5_refusalOfPiece 0 = .ok (.aload_n 0, 1) := by decide +kernel
theorem dX5_refusalOfPiece_1 : decode cX5_refusalOfPiece 1 = .ok (.iload_n 1, 1) := by decide +kernel
theorem dX5_refusalOfPiece_2 : decode cX5_refusalOfPiece 2 = .ok (.invokevirtual 73, 3) := by decide +kernel
theorem dX5_refusalOfPiece_5 : decode cX5_refusalOfPiece 5 = .ok (.ifCond .eq 11, 3) := by decide +kernel
theorem dX5_refusalOfPiece_8 : decode cX5_refusalOfPiece 8 = .ok (.aload_n 0, 1) := by decide +kernel
theorem dX5_refusalOfPiece_9 : decode cX5_refusalOfPiece 9 = .ok (.iload_n 2, 1) := by decide +kernel
theorem dX5_refusalOfPiece_10 : decode cX5_refusalOfPiece 10 = .ok (.invokevirtual 73, 3) := by decide +kernel
theorem dX5_refusalOfPiece_13 : decode cX5_refusalOfPiece 13 = .ok (.ifCond .ne 5, 3) := by decide +kernel
theorem dX5_refusalOfPiece_16 : decode cX5_refusalOfPiece 16 = .ok (.iconst (-1), 1) := by decide +kernel
theorem dX5_refusalOfPiece_17 : decode cX5_refusalOfPiece 17 = .ok (.ireturn, 1) := by decide +kernel
theorem dX5_refusalOfPiece_18 : decode cX5_refusalOfPiece 18 = .ok (.iload_n 2, 1) := by decide +kernel
theorem dX5_refusalOfPiece_19 : decode cX5_refusalOfPiece 19 = .ok (.iload_n 1, 1) := by decide +kernel
theorem dX5_refusalOfPiece_20 : decode cX5_refusalOfPiece 20 = .ok (.if_icmp .gt 8, 3) := by decide +kernel
theorem dX5_refusalOfPiece_23 : decode cX5_refusalOfPiece 23 = .ok (.bipush (-2), 2) := by decide +kernel
theorem dX5_refusalOfPiece_25 : decode cX5_refusalOfPiece 25 = .ok (.goto 4, 3) := by decide +kernel
theorem dX5_refusalOfPiece_28 : decode cX5_refusalOfPiece 28 = .ok (.iconst 0, 1) := by decide +kernel
theorem dX5_refusalOfPiece_29 : decode cX5_refusalOfPiece 29 = .ok (.ireturn, 1) := by decide +kernel
theorem dX5_startChange_0 : decode cX5_startChange 0 = .ok (.aload_n 0, 1) := by decide +kernel
theorem dX5_startChange_1 : decode cX5_startChange 1 = .ok (.getfield 41, 3) := by decide +kernel
theorem dX5_startChange_4 : decode cX5_startChange 4 = .ok (.aload_n 0, 1) := by decide +kernel
theorem dX5_startChange_5 : decode cX5_startChange 5 = .ok (.getfield 34, 3) := by decide +kernel
theorem dX5_startChange_8 : decode cX5_startChange 8 = .ok (.invokevirtual 66, 3) := by decide +kernel
theorem dX5_startChange_11 : decode cX5_startChange 11 = .ok (.aload_n 0, 1) := by decide +kernel
theorem dX5_startChange_12 : decode cX5_startChange 12 = .ok (.invokevirtual 144, 3) := by decide +kernel
theorem dX5_startChange_15 : decode cX5_startChange 15 = .ok (.return_, 1) := by decide +kernel
theorem dX5_makeRoom_0 : decode cX5_makeRoom 0 = .ok (.aload_n 0, 1) := by decide +kernel
theorem dX5_makeRoom_1 : decode cX5_makeRoom 1 = .ok (.getfield 20, 3) := by decide +kernel
theorem dX5_makeRoom_4 : decode cX5_makeRoom 4 = .ok (.getfield 242, 3) := by decide +kernel
theorem dX5_makeRoom_7 : decode cX5_makeRoom 7 = .ok (.sipush 3000, 3) := by decide +kernel
theorem dX5_makeRoom_10 : decode cX5_makeRoom 10 = .ok (.if_icmp .lt 4, 3) := by decide +kernel
theorem dX5_makeRoom_13 : decode cX5_makeRoom 13 = .ok (.return_, 1) := by decide +kernel
theorem dX5_makeRoom_14 : decode cX5_makeRoom 14 = .ok (.aload_n 0, 1) := by decide +kernel
theorem dX5_makeRoom_15 : decode cX5_makeRoom 15 = .ok (.getfield 20, 3) := by decide +kernel
theorem dX5_makeRoom_18 : decode cX5_makeRoom 18 = .ok (.invokevirtual 245, 3) := by decide +kernel
theorem dX5_makeRoom_21 : decode cX5_makeRoom 21 = .ok (.aload_n 0, 1) := by decide +kernel
theorem dX5_makeRoom_22 : decode cX5_makeRoom 22 = .ok (.aload_n 0, 1) := by decide +kernel
theorem dX5_makeRoom_23 : decode cX5_makeRoom 23 = .ok (.getfield 34, 3) := by decide +kernel
theorem dX5_makeRoom_26 : decode cX5_makeRoom 26 = .ok (.invokevirtual 248, 3) := by decide +kernel
theorem dX5_makeRoom_29 : decode cX5_makeRoom 29 = .ok (.iconst 0, 1) := by decide +kernel
theorem dX5_makeRoom_30 : decode cX5_makeRoom 30 = .ok (.istore_n 1, 1) := by decide +kernel
theorem dX5_makeRoom_31 : decode cX5_makeRoom 31 = .ok (.iload_n 1, 1) := by decide +kernel
theorem dX5_makeRoom_32 : decode cX5_makeRoom 32 = .ok (.aload_n 0, 1) := by decide +kernel
theorem dX5_makeRoom_33 : decode cX5_makeRoom 33 = .ok (.getfield 41, 3) := by decide +kernel
theorem dX5_makeRoom_36 : decode cX5_makeRoom 36 = .ok (.getfield 212, 3) := by decide +kernel
theorem dX5_makeRoom_39 : decode cX5_makeRoom 39 = .ok (.if_icmp .ge 33, 3) := by decide +kernel
theorem dX5_makeRoom_42 : decode cX5_makeRoom 42 = .ok (.iload_n 1, 1) := by decide +kernel
theorem dX5_makeRoom_43 : decode cX5_makeRoom 43 = .ok (.bipush 6, 2) := by decide +kernel
theorem dX5_makeRoom_45 : decode cX5_makeRoom 45 = .ok (.if_icmp .ge 27, 3) := by decide +kernel
theorem dX5_makeRoom_48 : decode cX5_makeRoom 48 = .ok (.aload_n 0, 1) := by decide +kernel
theorem dX5_makeRoom_49 : decode cX5_makeRoom 49 = .ok (.getfield 41, 3) := by decide +kernel
theorem dX5_makeRoom_52 : decode cX5_makeRoom 52 = .ok (.iload_n 1, 1) := by decide +kernel
theorem dX5_makeRoom_53 : decode cX5_makeRoom 53 = .ok (.invokevirtual 251, 3) := by decide +kernel
theorem dX5_makeRoom_56 : decode cX5_makeRoom 56 = .ok (.astore_n 2, 1) := by decide +kernel
theorem dX5_makeRoom_57 : decode cX5_makeRoom 57 = .ok (.aload_n 2, 1) := by decide +kernel
theorem dX5_makeRoom_58 : decode cX5_makeRoom 58 = .ok (.ifnull 8, 3) := by decide +kernel
theorem dX5_makeRoom_61 : decode cX5_makeRoom 61 = .ok (.aload_n 0, 1) := by decide +kernel
theorem dX5_makeRoom_62 : decode cX5_makeRoom 62 = .ok (.aload_n 2, 1) := by decide +kernel
theorem dX5_makeRoom_63 : decode cX5_makeRoom 63 = .ok (.invokevirtual 248, 3) := by decide +kernel
theorem dX5_makeRoom_66 : decode cX5_makeRoom 66 = .ok (.iinc 1 1, 3) := by decide +kernel
theorem dX5_makeRoom_69 : decode cX5_makeRoom 69 = .ok (.goto (-38), 3) := by decide +kernel
theorem dX5_makeRoom_72 : decode cX5_makeRoom 72 = .ok (.iconst 0, 1) := by decide +kernel
theorem dX5_makeRoom_73 : decode cX5_makeRoom 73 = .ok (.istore_n 1, 1) := by decide +kernel
theorem dX5_makeRoom_74 : decode cX5_makeRoom 74 = .ok (.iload_n 1, 1) := by decide +kernel
theorem dX5_makeRoom_75 : decode cX5_makeRoom 75 = .ok (.aload_n 0, 1) := by decide +kernel
theorem dX5_makeRoom_76 : decode cX5_makeRoom 76 = .ok (.getfield 45, 3) := by decide +kernel
theorem dX5_makeRoom_79 : decode cX5_makeRoom 79 = .ok (.arraylength, 1) := by decide +kernel
theorem dX5_makeRoom_80 : decode cX5_makeRoom 80 = .ok (.if_icmp .ge 22, 3) := by decide +kernel
theorem dX5_makeRoom_83 : decode cX5_makeRoom 83 = .ok (.aload_n 0, 1) := by decide +kernel
theorem dX5_makeRoom_84 : decode cX5_makeRoom 84 = .ok (.getfield 20, 3) := by decide +kernel
theorem dX5_makeRoom_87 : decode cX5_makeRoom 87 = .ok (.aload_n 0, 1) := by decide +kernel
theorem dX5_makeRoom_88 : decode cX5_makeRoom 88 = .ok (.getfield 45, 3) := by decide +kernel
theorem dX5_makeRoom_91 : decode cX5_makeRoom 91 = .ok (.iload_n 1, 1) := by decide +kernel
theorem dX5_makeRoom_92 : decode cX5_makeRoom 92 = .ok (.iaload, 1) := by decide +kernel
theorem dX5_makeRoom_93 : decode cX5_makeRoom 93 = .ok (.invokevirtual 255, 3) := by decide +kernel
theorem dX5_makeRoom_96 : decode cX5_makeRoom 96 = .ok (.iinc 1 1, 3) := by decide +kernel
theorem dX5_makeRoom_99 : decode cX5_makeRoom 99 = .ok (.goto (-25), 3) := by decide +kernel
theorem dX5_makeRoom_102 : decode cX5_makeRoom 102 = .ok (.aload_n 0, 1) := by decide +kernel
theorem dX5_makeRoom_103 : decode cX5_makeRoom 103 = .ok (.getfield 20, 3) := by decide +kernel
theorem dX5_makeRoom_106 : decode cX5_makeRoom 106 = .ok (.invokevirtual 258, 3) := by decide +kernel
theorem dX5_makeRoom_109 : decode cX5_makeRoom 109 = .ok (.return_, 1) := by decide +kernel
theorem dX5_retainState_0 : decode cX5_retainState 0 = .ok (.aload_n 0, 1) := by decide +kernel
theorem dX5_retainState_1 : decode cX5_retainState 1 = .ok (.getfield 20, 3) := by decide +kernel
theorem dX5_retainState_4 : decode cX5_retainState 4 = .ok (.aload_n 1, 1) := by decide +kernel
theorem dX5_retainState_5 : decode cX5_retainState 5 = .ok (.getfield 106, 3) := by decide +kernel
theorem dX5_retainState_8 : decode cX5_retainState 8 = .ok (.invokevirtual 255, 3) := by decide +kernel
theorem dX5_retainState_11 : decode cX5_retainState 11 = .ok (.iconst 0, 1) := by decide +kernel
theorem dX5_retainState_12 : decode cX5_retainState 12 = .ok (.istore_n 2, 1) := by decide +kernel
theorem dX5_retainState_13 : decode cX5_retainState 13 = .ok (.iload_n 2, 1) := by decide +kernel
theorem dX5_retainState_14 : decode cX5_retainState 14 = .ok (.aload_n 1, 1) := by decide +kernel
theorem dX5_retainState_15 : decode cX5_retainState 15 = .ok (.getfield 138, 3) := by decide +kernel
theorem dX5_retainState_18 : decode cX5_retainState 18 = .ok (.if_icmp .ge 26, 3) := by decide +kernel
theorem dX5_retainState_21 : decode cX5_retainState 21 = .ok (.iload_n 2, 1) := by decide +kernel
theorem dX5_retainState_22 : decode cX5_retainState 22 = .ok (.iconst 4, 1) := by decide +kernel
theorem dX5_retainState_23 : decode cX5_retainState 23 = .ok (.if_icmp .ge 21, 3) := by decide +kernel
theorem dX5_retainState_26 : decode cX5_retainState 26 = .ok (.aload_n 0, 1) := by decide +kernel
theorem dX5_retainState_27 : decode cX5_retainState 27 = .ok (.getfield 20, 3) := by decide +kernel
theorem dX5_retainState_30 : decode cX5_retainState 30 = .ok (.aload_n 1, 1) := by decide +kernel
theorem dX5_retainState_31 : decode cX5_retainState 31 = .ok (.iload_n 2, 1) := by decide +kernel
theorem dX5_retainState_32 : decode cX5_retainState 32 = .ok (.invokevirtual 129, 3) := by decide +kernel
theorem dX5_retainState_35 : decode cX5_retainState 35 = .ok (.invokevirtual 255, 3) := by decide +kernel
theorem dX5_retainState_38 : decode cX5_retainState 38 = .ok (.iinc 2 1, 3) := by decide +kernel
theorem dX5_retainState_41 : decode cX5_retainState 41 = .ok (.goto (-28), 3) := by decide +kernel
theorem dX5_retainState_44 : decode cX5_retainState 44 = .ok (.return_, 1) := by decide +kernel
theorem dX5_putIn_0 : decode cX5_putIn 0 = .ok (.aload_n 0, 1) := by decide +kernel
theorem dX5_putIn_1 : decode cX5_putIn 1 = .ok (.getfield 34, 3) := by decide +kernel
theorem dX5_putIn_4 : decode cX5_putIn 4 = .ok (.getfield 63, 3) := by decide +kernel
theorem dX5_putIn_7 : decode cX5_putIn 7 = .ok (.istore_n 3, 1) := by decide +kernel
theorem dX5_putIn_8 : decode cX5_putIn 8 = .ok (.aload_n 0, 1) := by decide +kernel
theorem dX5_putIn_9 : decode cX5_putIn 9 = .ok (.getfield 12, 3) := by decide +kernel
theorem dX5_putIn_12 : decode cX5_putIn 12 = .ok (.aload_n 0, 1) := by decide +kernel
theorem dX5_putIn_13 : decode cX5_putIn 13 = .ok (.getfield 34, 3) := by decide +kernel
theorem dX5_putIn_16 : decode cX5_putIn 16 = .ok (.getfield 106, 3) := by decide +kernel
theorem dX5_putIn_19 : decode cX5_putIn 19 = .ok (.iload_n 1, 1) := by decide +kernel
theorem dX5_putIn_20 : decode cX5_putIn 20 = .ok (.iload_n 3, 1) := by decide +kernel
theorem dX5_putIn_21 : decode cX5_putIn 21 = .ok (.invokevirtual 109, 3) := by decide +kernel
theorem dX5_putIn_24 : decode cX5_putIn 24 = .ok (.aload_n 0, 1) := by decide +kernel
theorem dX5_putIn_25 : decode cX5_putIn 25 = .ok (.getfield 12, 3) := by decide +kernel
theorem dX5_putIn_28 : decode cX5_putIn 28 = .ok (.getfield 116, 3) := by decide +kernel
theorem dX5_putIn_31 : decode cX5_putIn 31 = .ok (.istore 4, 2) := by decide +kernel
theorem dX5_putIn_33 : decode cX5_putIn 33 = .ok (.aload_n 0, 1) := by decide +kernel
theorem dX5_putIn_34 : decode cX5_putIn 34 = .ok (.getfield 12, 3) := by decide +kernel
theorem dX5_putIn_37 : decode cX5_putIn 37 = .ok (.getfield 113, 3) := by decide +kernel
theorem dX5_putIn_40 : decode cX5_putIn 40 = .ok (.istore 5, 2) := by decide +kernel
theorem dX5_putIn_42 : decode cX5_putIn 42 = .ok (.aload_n 0, 1) := by decide +kernel
theorem dX5_putIn_43 : decode cX5_putIn 43 = .ok (.getfield 34, 3) := by decide +kernel
theorem dX5_putIn_46 : decode cX5_putIn 46 = .ok (.aload_n 0, 1) := by decide +kernel
theorem dX5_putIn_47 : decode cX5_putIn 47 = .ok (.getfield 12, 3) := by decide +kernel
theorem dX5_putIn_50 : decode cX5_putIn 50 = .ok (.aload_n 0, 1) := by decide +kernel
theorem dX5_putIn_51 : decode cX5_putIn 51 = .ok (.getfield 12, 3) := by decide +kernel
theorem dX5_putIn_54 : decode cX5_putIn 54 = .ok (.iload 4, 2) := by decide +kernel
theorem dX5_putIn_56 : decode cX5_putIn 56 = .ok (.iload_n 2, 1) := by decide +kernel
theorem dX5_putIn_57 : decode cX5_putIn 57 = .ok (.iload_n 3, 1) := by decide +kernel
theorem dX5_putIn_58 : decode cX5_putIn 58 = .ok (.invokevirtual 261, 3) := by decide +kernel
theorem dX5_putIn_61 : decode cX5_putIn 61 = .ok (.iload 5, 2) := by decide +kernel
theorem dX5_putIn_63 : decode cX5_putIn 63 = .ok (.iload_n 3, 1) := by decide +kernel
theorem dX5_putIn_64 : decode cX5_putIn 64 = .ok (.invokevirtual 261, 3) := by decide +kernel
theorem dX5_putIn_67 : decode cX5_putIn 67 = .ok (.putfield 106, 3) := by decide +kernel
theorem dX5_putIn_70 : decode cX5_putIn 70 = .ok (.aload_n 0, 1) := by decide +kernel
theorem dX5_putIn_71 : decode cX5_putIn 71 = .ok (.getfield 34, 3) := by decide +kernel
theorem dX5_putIn_74 : decode cX5_putIn 74 = .ok (.iload_n 1, 1) := by decide +kernel
theorem dX5_putIn_75 : decode cX5_putIn 75 = .ok (.aload_n 0, 1) := by decide +kernel
theorem dX5_putIn_76 : decode cX5_putIn 76 = .ok (.getfield 20, 3) := by decide +kernel
theorem dX5_putIn_79 : decode cX5_putIn 79 = .ok (.iload_n 2, 1) := by decide +kernel
theorem dX5_putIn_80 : decode cX5_putIn 80 = .ok (.invokevirtual 133, 3) := by decide +kernel
theorem dX5_putIn_83 : decode cX5_putIn 83 = .ok (.invokevirtual 265, 3) := by decide +kernel
theorem dX5_putIn_86 : decode cX5_putIn 86 = .ok (.return_, 1) := by decide +kernel
theorem dX5_takeOut_0 : decode cX5_takeOut 0 = .ok (.aload_n 0, 1) := by decide +kernel
theorem dX5_takeOut_1 : decode cX5_takeOut 1 = .ok (.getfield 34, 3) := by decide +kernel
theorem dX5_takeOut_4 : decode cX5_takeOut 4 = .ok (.getfield 63, 3) := by decide +kernel
theorem dX5_takeOut_7 : decode cX5_takeOut 7 = .ok (.istore_n 3, 1) := by decide +kernel
theorem dX5_takeOut_8 : decode cX5_takeOut 8 = .ok (.aload_n 0, 1) := by decide +kernel
theorem dX5_takeOut_9 : decode cX5_takeOut 9 = .ok (.getfield 12, 3) := by decide +kernel
theorem dX5_takeOut_12 : decode cX5_takeOut 12 = .ok (.aload_n 0, 1) := by decide +kernel
theorem dX5_takeOut_13 : decode cX5_takeOut 13 = .ok (.getfield 34, 3) := by decide +kernel
theorem dX5_takeOut_16 : decode cX5_takeOut 16 = .ok (.getfield 106, 3) := by decide +kernel
theorem dX5_takeOut_19 : decode cX5_takeOut 19 = .ok (.iload_n 1, 1) := by decide +kernel
theorem dX5_takeOut_20 : decode cX5_takeOut 20 = .ok (.iload_n 3, 1) := by decide +kernel
theorem dX5_takeOut_21 : decode cX5_takeOut 21 = .ok (.invokevirtual 109, 3) := by decide +kernel
theorem dX5_takeOut_24 : decode cX5_takeOut 24 = .ok (.aload_n 0, 1) := by decide +kernel
theorem dX5_takeOut_25 : decode cX5_takeOut 25 = .ok (.getfield 12, 3) := by decide +kernel
theorem dX5_takeOut_28 : decode cX5_takeOut 28 = .ok (.getfield 116, 3) := by decide +kernel
theorem dX5_takeOut_31 : decode cX5_takeOut 31 = .ok (.istore 4, 2) := by decide +kernel
theorem dX5_takeOut_33 : decode cX5_takeOut 33 = .ok (.aload_n 0, 1) := by decide +kernel
theorem dX5_takeOut_34 : decode cX5_takeOut 34 = .ok (.getfield 12, 3) := by decide +kernel
theorem dX5_takeOut_37 : decode cX5_takeOut 37 = .ok (.aload_n 0, 1) := by decide +kernel
theorem dX5_takeOut_38 : decode cX5_takeOut 38 = .ok (.getfield 12, 3) := by decide +kernel
theorem dX5_takeOut_41 : decode cX5_takeOut 41 = .ok (.getfield 113, 3) := by decide +kernel
theorem dX5_takeOut_44 : decode cX5_takeOut 44 = .ok (.iload_n 2, 1) := by decide +kernel
theorem dX5_takeOut_45 : decode cX5_takeOut 45 = .ok (.iload_n 1, 1) := by decide +kernel
theorem dX5_takeOut_46 : decode cX5_takeOut 46 = .ok (.isub, 1) := by decide +kernel
theorem dX5_takeOut_47 : decode cX5_takeOut 47 = .ok (.iload_n 3, 1) := by decide +kernel
theorem dX5_takeOut_48 : decode cX5_takeOut 48 = .ok (.invokevirtual 109, 3) := by decide +kernel
theorem dX5_takeOut_51 : decode cX5_takeOut 51 = .ok (.aload_n 0, 1) := by decide +kernel
theorem dX5_takeOut_52 : decode cX5_takeOut 52 = .ok (.getfield 12, 3) := by decide +kernel
theorem dX5_takeOut_55 : decode cX5_takeOut 55 = .ok (.getfield 116, 3) := by decide +kernel
theorem dX5_takeOut_58 : decode cX5_takeOut 58 = .ok (.istore 5, 2) := by decide +kernel
theorem dX5_takeOut_60 : decode cX5_takeOut 60 = .ok (.aload_n 0, 1) := by decide +kernel
theorem dX5_takeOut_61 : decode cX5_takeOut 61 = .ok (.getfield 34, 3) := by decide +kernel
theorem dX5_takeOut_64 : decode cX5_takeOut 64 = .ok (.aload_n 0, 1) := by decide +kernel
theorem dX5_takeOut_65 : decode cX5_takeOut 65 = .ok (.getfield 12, 3) := by decide +kernel
theorem dX5_takeOut_68 : decode cX5_takeOut 68 = .ok (.iload 4, 2) := by decide +kernel
theorem dX5_takeOut_70 : decode cX5_takeOut 70 = .ok (.aload_n 0, 1) := by decide +kernel
theorem dX5_takeOut_71 : decode cX5_takeOut 71 = .ok (.getfield 12, 3) := by decide +kernel
theorem dX5_takeOut_74 : decode cX5_takeOut 74 = .ok (.getfield 113, 3) := by decide +kernel
theorem dX5_takeOut_77 : decode cX5_takeOut 77 = .ok (.iload_n 3, 1) := by decide +kernel
theorem dX5_takeOut_78 : decode cX5_takeOut 78 = .ok (.invokevirtual 261, 3) := by decide +kernel
theorem dX5_takeOut_81 : decode cX5_takeOut 81 = .ok (.putfield 106, 3) := by decide +kernel
theorem dX5_takeOut_84 : decode cX5_takeOut 84 = .ok (.aload_n 0, 1) := by decide +kernel
theorem dX5_takeOut_85 : decode cX5_takeOut 85 = .ok (.getfield 34, 3) := by decide +kernel
theorem dX5_takeOut_88 : decode cX5_takeOut 88 = .ok (.iload_n 1, 1) := by decide +kernel
theorem dX5_takeOut_89 : decode cX5_takeOut 89 = .ok (.iload_n 2, 1) := by decide +kernel
theorem dX5_takeOut_90 : decode cX5_takeOut 90 = .ok (.invokevirtual 268, 3) := by decide +kernel
theorem dX5_takeOut_93 : decode cX5_takeOut 93 = .ok (.iload 5, 2) := by decide +kernel
theorem dX5_takeOut_95 : decode cX5_takeOut 95 = .ok (.ireturn, 1) := by decide +kernel
theorem dX5_balance_0 : decode cX5_balance 0 = .ok (.aload_n 0, 1) := by decide +kernel
theorem dX5_balance_1 : decode cX5_balance 1 = .ok (.getfield 34, 3) := by decide +kernel
theorem dX5_balance_4 : decode cX5_balance 4 = .ok (.getfield 70, 3) := by decide +kernel
theorem dX5_balance_7 : decode cX5_balance 7 = .ok (.iconst 1, 1) := by decide +kernel
theorem dX5_balance_8 : decode cX5_balance 8 = .ok (.if_icmp .ne 37, 3) := by decide +kernel
theorem dX5_balance_11 : decode cX5_balance 11 = .ok (.aload_n 0, 1) := by decide +kernel
theorem dX5_balance_12 : decode cX5_balance 12 = .ok (.getfield 12, 3) := by decide +kernel
theorem dX5_balance_15 : decode cX5_balance 15 = .ok (.aload_n 0, 1) := by decide +kernel
theorem dX5_balance_16 : decode cX5_balance 16 = .ok (.getfield 34, 3) := by decide +kernel
theorem dX5_balance_19 : decode cX5_balance 19 = .ok (.getfield 106, 3) := by decide +kernel
theorem dX5_balance_22 : decode cX5_balance 22 = .ok (.invokevirtual 165, 3) := by decide +kernel
theorem dX5_balance_25 : decode cX5_balance 25 = .ok (.ifCond .ne 20, 3) := by decide +kernel
theorem dX5_balance_28 : decode cX5_balance 28 = .ok (.aload_n 0, 1) := by decide +kernel
theorem dX5_balance_29 : decode cX5_balance 29 = .ok (.invokevirtual 147, 3) := by decide +kernel
theorem dX5_balance_32 : decode cX5_balance 32 = .ok (.aload_n 0, 1) := by decide +kernel
theorem dX5_balance_33 : decode cX5_balance 33 = .ok (.getfield 34, 3) := by decide +kernel
theorem dX5_balance_36 : decode cX5_balance 36 = .ok (.dup, 1) := by decide +kernel
theorem dX5_balance_37 : decode cX5_balance 37 = .ok (.getfield 168, 3) := by decide +kernel
theorem dX5_balance_40 : decode cX5_balance 40 = .ok (.iconst 1, 1) := by decide +kernel
theorem dX5_balance_41 : decode cX5_balance 41 = .ok (.iadd, 1) := by decide +kernel
theorem dX5_balance_42 : decode cX5_balance 42 = .ok (.putfield 168, 3) := by decide +kernel
theorem dX5_balance_45 : decode cX5_balance 45 = .ok (.return_, 1) := by decide +kernel
theorem dX5_rebuildText_0 : decode cX5_rebuildText 0 = .ok (.aload_n 0, 1) := by decide +kernel
theorem dX5_rebuildText_1 : decode cX5_rebuildText 1 = .ok (.getfield 24, 3) := by decide +kernel
theorem dX5_rebuildText_4 : decode cX5_rebuildText 4 = .ok (.aload_n 0, 1) := by decide +kernel
theorem dX5_rebuildText_5 : decode cX5_rebuildText 5 = .ok (.getfield 20, 3) := by decide +kernel
theorem dX5_rebuildText_8 : decode cX5_rebuildText 8 = .ok (.aload_n 0, 1) := by decide +kernel
theorem dX5_rebuildText_9 : decode cX5_rebuildText 9 = .ok (.getfield 34, 3) := by decide +kernel
theorem dX5_rebuildText_12 : decode cX5_rebuildText 12 = .ok (.getfield 106, 3) := by decide +kernel
theorem dX5_rebuildText_15 : decode cX5_rebuildText 15 = .ok (.invokevirtual 119, 3) := by decide +kernel
theorem dX5_rebuildText_18 : decode cX5_rebuildText 18 = .ok (.aload_n 0, 1) := by decide +kernel
theorem dX5_rebuildText_19 : decode cX5_rebuildText 19 = .ok (.getfield 34, 3) := by decide +kernel
theorem dX5_rebuildText_22 : decode cX5_rebuildText 22 = .ok (.aload_n 0, 1) := by decide +kernel
theorem dX5_rebuildText_23 : decode cX5_rebuildText 23 = .ok (.getfield 12, 3) := by decide +kernel
theorem dX5_rebuildText_26 : decode cX5_rebuildText 26 = .ok (.aload_n 0, 1) := by decide +kernel
theorem dX5_rebuildText_27 : decode cX5_rebuildText 27 = .ok (.getfield 24, 3) := by decide +kernel
theorem dX5_rebuildText_30 : decode cX5_rebuildText 30 = .ok (.getfield 271, 3) := by decide +kernel
theorem dX5_rebuildText_33 : decode cX5_rebuildText 33 = .ok (.aload_n 0, 1) := by decide +kernel
theorem dX5_rebuildText_34 : decode cX5_rebuildText 34 = .ok (.getfield 24, 3) := by decide +kernel
theorem dX5_rebuildText_37 : decode cX5_rebuildText 37 = .ok (.getfield 123, 3) := by decide +kernel
theorem dX5_rebuildText_40 : decode cX5_rebuildText 40 = .ok (.invokevirtual 274, 3) := by decide +kernel
theorem dX5_rebuildText_43 : decode cX5_rebuildText 43 = .ok (.putfield 106, 3) := by decide +kernel
theorem dX5_rebuildText_46 : decode cX5_rebuildText 46 = .ok (.return_, 1) := by decide +kernel
theorem dJ9_floorMod_7cf53_0 : decode cJ9_floorMod_7cf53 0 = .ok (.iload_n 0, 1) := by decide +kernel
theorem dJ9_floorMod_7cf53_1 : decode cJ9_floorMod_7cf53 1 = .ok (.iload_n 1, 1) := by decide +kernel
theorem dJ9_floorMod_7cf53_2 : decode cJ9_floorMod_7cf53 2 = .ok (.irem, 1) := by decide +kernel
theorem dJ9_floorMod_7cf53_3 : decode cJ9_floorMod_7cf53 3 = .ok (.istore_n 2, 1) := by decide +kernel
theorem dJ9_floorMod_7cf53_4 : decode cJ9_floorMod_7cf53 4 = .ok (.iload_n 0, 1) := by decide +kernel
theorem dJ9_floorMod_7cf53_5 : decode cJ9_floorMod_7cf53 5 = .ok (.iload_n 1, 1) := by decide +kernel
theorem dJ9_floorMod_7cf53_6 : decode cJ9_floorMod_7cf53 6 = .ok (.ixor, 1) := by decide +kernel
theorem dJ9_floorMod_7cf53_7 : decode cJ9_floorMod_7cf53 7 = .ok (.ifCond .ge 11, 3) := by decide +kernel
theorem dJ9_floorMod_7cf53_10 : decode cJ9_floorMod_7cf53 10 = .ok (.iload_n 2, 1) := by decide +kernel
theorem dJ9_floorMod_7cf53_11 : decode cJ9_floorMod_7cf53 11 = .ok (.ifCond .eq 7, 3) := by decide +kernel
theorem dJ9_floorMod_7cf53_14 : decode cJ9_floorMod_7cf53 14 = .ok (.iload_n 2, 1) := by decide +kernel
theorem dJ9_floorMod_7cf53_15 : decode cJ9_floorMod_7cf53 15 = .ok (.iload_n 1, 1) := by decide +kernel
theorem dJ9_floorMod_7cf53_16 : decode cJ9_floorMod_7cf53 16 = .ok (.iadd, 1) := by decide +kernel
theorem dJ9_floorMod_7cf53_17 : decode cJ9_floorMod_7cf53 17 = .ok (.ireturn, 1) := by decide +kernel
theorem dJ9_floorMod_7cf53_18 : decode cJ9_floorMod_7cf53 18 = .ok (.iload_n 2, 1) := by decide +kernel
theorem dJ9_floorMod_7cf53_19 : decode cJ9_floorMod_7cf53 19 = .ok (.ireturn, 1) := by decide +kernel
theorem dJ9_max_7cf53_0 : decode cJ9_max_7cf53 0 = .ok (.iload_n 0, 1) := by decide +kernel
theorem dJ9_max_7cf53_1 : decode cJ9_max_7cf53 1 = .ok (.iload_n 1, 1) := by decide +kernel
theorem dJ9_max_7cf53_2 : decode cJ9_max_7cf53 2 = .ok (.if_icmp .lt 7, 3) := by decide +kernel
theorem dJ9_max_7cf53_5 : decode cJ9_max_7cf53 5 = .ok (.iload_n 0, 1) := by decide +kernel
theorem dJ9_max_7cf53_6 : decode cJ9_max_7cf53 6 = .ok (.goto 4, 3) := by decide +kernel
theorem dJ9_max_7cf53_9 : decode cJ9_max_7cf53 9 = .ok (.iload_n 1, 1) := by decide +kernel
theorem dJ9_max_7cf53_10 : decode cJ9_max_7cf53 10 = .ok (.ireturn, 1) := by decide +kernel
theorem dJ9_min_7cf53_0 : decode cJ9_min_7cf53 0 = .ok (.iload_n 0, 1) := by decide +kernel
theorem dJ9_min_7cf53_1 : decode cJ9_min_7cf53 1 = .ok (.iload_n 1, 1) := by decide +kernel
theorem dJ9_min_7cf53_2 : decode cJ9_min_7cf53 2 = .ok (.if_icmp .gt 7, 3) := by decide +kernel
theorem dJ9_min_7cf53_5 : decode cJ9_min_7cf53 5 = .ok (.iload_n 0, 1) := by decide +kernel
theorem dJ9_min_7cf53_6 : decode cJ9_min_7cf53 6 = .ok (.goto 4, 3) := by decide +kernel
theorem dJ9_min_7cf53_9 : decode cJ9_min_7cf53 9 = .ok (.iload_n 1, 1) := by decide +kernel
theorem dJ9_min_7cf53_10 : decode cJ9_min_7cf53 10 = .ok (.ireturn, 1) := by decide +kernel
theorem dJ7_fill_53178_0 : decode cJ7_fill_53178 0 = .ok (.iconst 0, 1) := by decide +kernel
theorem dJ7_fill_53178_1 : decode cJ7_fill_53178 1 = .ok (.istore_n 2, 1) := by decide +kernel
theorem dJ7_fill_53178_2 : decode cJ7_fill_53178 2 = .ok (.aload_n 0, 1) := by decide +kernel
theorem dJ7_fill_53178_3 : decode cJ7_fill_53178 3 = .ok (.arraylength, 1) := by decide +kernel
theorem dJ7_fill_53178_4 : decode cJ7_fill_53178 4 = .ok (.istore_n 3, 1) := by decide +kernel
theorem dJ7_fill_53178_5 : decode cJ7_fill_53178 5 = .ok (.iload_n 2, 1) := by decide +kernel
theorem dJ7_fill_53178_6 : decode cJ7_fill_53178 6 = .ok (.iload_n 3, 1) := by decide +kernel
theorem dJ7_fill_53178_7 : decode cJ7_fill_53178 7 = .ok (.if_icmp .ge 13, 3) := by decide +kernel
theorem dJ7_fill_53178_10 : decode cJ7_fill_53178 10 = .ok (.aload_n 0, 1) := by decide +kernel
theorem dJ7_fill_53178_11 : decode cJ7_fill_53178 11 = .ok (.iload_n 2, 1) := by decide +kernel
theorem dJ7_fill_53178_12 : decode cJ7_fill_53178 12 = .ok (.iload_n 1, 1) := by decide +kernel
theorem dJ7_fill_53178_13 : decode cJ7_fill_53178 13 = .ok (.iastore, 1) := by decide +kernel
theorem dJ7_fill_53178_14 : decode cJ7_fill_53178 14 = .ok (.iinc 2 1, 3) := by decide +kernel
theorem dJ7_fill_53178_17 : decode cJ7_fill_53178 17 = .ok (.goto (-12), 3) := by decide +kernel
theorem dJ7_fill_53178_20 : decode cJ7_fill_53178 20 = .ok (.return_, 1) := by decide +kernel
theorem dL_cell_0 : decode cL_cell 0 = .ok (.iload_n 1, 1) := by decide +kernel
theorem dL_cell_1 : decode cL_cell 1 = .ok (.aload_n 0, 1) := by decide +kernel
theorem dL_cell_2 : decode cL_cell 2 = .ok (.arraylength, 1) := by decide +kernel
theorem dL_cell_3 : decode cL_cell 3 = .ok (.if_icmp .ge 9, 3) := by decide +kernel
theorem dL_cell_6 : decode cL_cell 6 = .ok (.aload_n 0, 1) := by decide +kernel
theorem dL_cell_7 : decode cL_cell 7 = .ok (.iload_n 1, 1) := by decide +kernel
theorem dL_cell_8 : decode cL_cell 8 = .ok (.iaload, 1) := by decide +kernel
theorem dL_cell_9 : decode cL_cell 9 = .ok (.goto 12, 3) := by decide +kernel
theorem dL_cell_12 : decode cL_cell 12 = .ok (.ldc 7, 2) := by decide +kernel
theorem dL_cell_14 : decode cL_cell 14 = .ok (.iload_n 1, 1) := by decide +kernel
theorem dL_cell_15 : decode cL_cell 15 = .ok (.iconst 1, 1) := by decide +kernel
theorem dL_cell_16 : decode cL_cell 16 = .ok (.iadd, 1) := by decide +kernel
theorem dL_cell_17 : decode cL_cell 17 = .ok (.imul, 1) := by decide +kernel
theorem dL_cell_18 : decode cL_cell 18 = .ok (.ldc 8, 2) := by decide +kernel
theorem dL_cell_20 : decode cL_cell 20 = .ok (.iadd, 1) := by decide +kernel
theorem dL_cell_21 : decode cL_cell 21 = .ok (.ireturn, 1) := by decide +kernel
theorem dL_low_0 : decode cL_low 0 = .ok (.iload_n 0, 1) := by decide +kernel
theorem dL_low_1 : decode cL_low 1 = .ok (.ldc 9, 2) := by decide +kernel
theorem dL_low_3 : decode cL_low 3 = .ok (.iand, 1) := by decide +kernel
theorem dL_low_4 : decode cL_low 4 = .ok (.iload_n 1, 1) := by decide +kernel
theorem dL_low_5 : decode cL_low 5 = .ok (.irem, 1) := by decide +kernel
theorem dL_low_6 : decode cL_low 6 = .ok (.ireturn, 1) := by decide +kernel
theorem dL_size_0 : decode cL_size 0 = .ok (.aload_n 0, 1) := by decide +kernel
theorem dL_size_1 : decode cL_size 1 = .ok (.iload_n 1, 1) := by decide +kernel
theorem dL_size_2 : decode cL_size 2 = .ok (.iaload, 1) := by decide +kernel
theorem dL_size_3 : decode cL_size 3 = .ok (.bipush 31, 2) := by decide +kernel
theorem dL_size_5 : decode cL_size 5 = .ok (.iand, 1) := by decide +kernel
theorem dL_size_6 : decode cL_size 6 = .ok (.ireturn, 1) := by decide +kernel
theorem dL_gap_0 : decode cL_gap 0 = .ok (.aload_n 0, 1) := by decide +kernel
theorem dL_gap_1 : decode cL_gap 1 = .ok (.iload_n 1, 1) := by decide +kernel
theorem dL_gap_2 : decode cL_gap 2 = .ok (.iaload, 1) := by decide +kernel
theorem dL_gap_3 : decode cL_gap 3 = .ok (.iconst 5, 1) := by decide +kernel
theorem dL_gap_4 : decode cL_gap 4 = .ok (.ishr, 1) := by decide +kernel
theorem dL_gap_5 : decode cL_gap 5 = .ok (.ireturn, 1) := by decide +kernel
theorem dL_part_0 : decode cL_part 0 = .ok (.bipush 64, 2) := by decide +kernel
theorem dL_part_2 : decode cL_part 2 = .ok (.newarray .int, 2) := by decide +kernel
theorem dL_part_4 : decode cL_part 4 = .ok (.astore 4, 2) := by decide +kernel
theorem dL_part_6 : decode cL_part 6 = .ok (.aload 4, 2) := by decide +kernel
theorem dL_part_8 : decode cL_part 8 = .ok (.bipush 63, 2) := by decide +kernel
theorem dL_part_10 : decode cL_part 10 = .ok (.iload_n 2, 1) := by decide +kernel
theorem dL_part_11 : decode cL_part 11 = .ok (.iload_n 1, 1) := by decide +kernel
theorem dL_part_12 : decode cL_part 12 = .ok (.isub, 1) := by decide +kernel
theorem dL_part_13 : decode cL_part 13 = .ok (.iastore, 1) := by decide +kernel
theorem dL_part_14 : decode cL_part 14 = .ok (.iload_n 1, 1) := by decide +kernel
theorem dL_part_15 : decode cL_part 15 = .ok (.istore 5, 2) := by decide +kernel
theorem dL_part_17 : decode cL_part 17 = .ok (.iload 5, 2) := by decide +kernel
theorem dL_part_19 : decode cL_part 19 = .ok (.iload_n 2, 1) := by decide +kernel
theorem dL_part_20 : decode cL_part 20 = .ok (.if_icmp .ge 45, 3) := by decide +kernel
theorem dL_part_23 : decode cL_part 23 = .ok (.aload 4, 2) := by decide +kernel
theorem dL_part_25 : decode cL_part 25 = .ok (.iload 5, 2) := by decide +kernel
theorem dL_part_27 : decode cL_part 27 = .ok (.iload_n 1, 1) := by decide +kernel
theorem dL_part_28 : decode cL_part 28 = .ok (.isub, 1) := by decide +kernel
theorem dL_part_29 : decode cL_part 29 = .ok (.aload_n 0, 1) := by decide +kernel
theorem dL_part_30 : decode cL_part 30 = .ok (.iload 5, 2) := by decide +kernel
theorem dL_part_32 : decode cL_part 32 = .ok (.invokestatic 10, 3) := by decide +kernel
theorem dL_part_35 : decode cL_part 35 = .ok (.iload 5, 2) := by decide +kernel
theorem dL_part_37 : decode cL_part 37 = .ok (.iload_n 2, 1) := by decide +kernel
theorem dL_part_38 : decode cL_part 38 = .ok (.iconst 1, 1) := by decide +kernel
theorem dL_part_39 : decode cL_part 39 = .ok (.isub, 1) := by decide +kernel
theorem dL_part_40 : decode cL_part 40 = .ok (.if_icmp .ne 7, 3) := by decide +kernel
theorem dL_part_43 : decode cL_part 43 = .ok (.iconst 0, 1) := by decide +kernel
theorem dL_part_44 : decode cL_part 44 = .ok (.goto 13, 3) := by decide +kernel
theorem dL_part_47 : decode cL_part 47 = .ok (.aload_n 0, 1) := by decide +kernel
theorem dL_part_48 : decode cL_part 48 = .ok (.iload 5, 2) := by decide +kernel
theorem dL_part_50 : decode cL_part 50 = .ok (.invokestatic 16, 3) := by decide +kernel
theorem dL_part_53 : decode cL_part 53 = .ok (.iload_n 3, 1) := by decide +kernel
theorem dL_part_54 : decode cL_part 54 = .ok (.isub, 1) := by decide +kernel
theorem dL_part_55 : decode cL_part 55 = .ok (.iconst 5, 1) := by decide +kernel
theorem dL_part_56 : decode cL_part 56 = .ok (.ishl, 1) := by decide +kernel
theorem dL_part_57 : decode cL_part 57 = .ok (.ior, 1) := by decide +kernel
theorem dL_part_58 : decode cL_part 58 = .ok (.iastore, 1) := by decide +kernel
theorem dL_part_59 : decode cL_part 59 = .ok (.iinc 5 1, 3) := by decide +kernel
theorem dL_part_62 : decode cL_part 62 = .ok (.goto (-45), 3) := by decide +kernel
theorem dL_part_65 : decode cL_part 65 = .ok (.aload 4, 2) := by decide +kernel
theorem dL_part_67 : decode cL_part 67 = .ok (.areturn, 1) := by decide +kernel
theorem dL_join_0 : decode cL_join 0 = .ok (.aload_n 0, 1) := by decide +kernel
theorem dL_join_1 : decode cL_join 1 = .ok (.bipush 63, 2) := by decide +kernel
theorem dL_join_3 : decode cL_join 3 = .ok (.iaload, 1) := by decide +kernel
theorem dL_join_4 : decode cL_join 4 = .ok (.istore_n 3, 1) := by decide +kernel
theorem dL_join_5 : decode cL_join 5 = .ok (.aload_n 1, 1) := by decide +kernel
theorem dL_join_6 : decode cL_join 6 = .ok (.bipush 63, 2) := by decide +kernel
theorem dL_join_8 : decode cL_join 8 = .ok (.iaload, 1) := by decide +kernel
theorem dL_join_9 : decode cL_join 9 = .ok (.istore 4, 2) := by decide +kernel
theorem dL_join_11 : decode cL_join 11 = .ok (.iload_n 3, 1) := by decide +kernel
theorem dL_join_12 : decode cL_join 12 = .ok (.ifCond .eq 8, 3) := by decide +kernel
theorem dL_join_15 : decode cL_join 15 = .ok (.iload 4, 2) := by decide +kernel
theorem dL_join_17 : decode cL_join 17 = .ok (.ifCond .ne 22, 3) := by decide +kernel
theorem dL_join_20 : decode cL_join 20 = .ok (.iload_n 3, 1) := by decide +kernel
theorem dL_join_21 : decode cL_join 21 = .ok (.ifCond .ne 7, 3) := by decide +kernel
theorem dL_join_24 : decode cL_join 24 = .ok (.aload_n 1, 1) := by decide +kernel
theorem dL_join_25 : decode cL_join 25 = .ok (.goto 4, 3) := by decide +kernel
theorem dL_join_28 : decode cL_join 28 = .ok (.aload_n 0, 1) := by decide +kernel
theorem dL_join_29 : decode cL_join 29 = .ok (.iconst 0, 1) := by decide +kernel
theorem dL_join_30 : decode cL_join 30 = .ok (.iload_n 3, 1) := by decide +kernel
theorem dL_join_31 : decode cL_join 31 = .ok (.iload 4, 2) := by decide +kernel
theorem dL_join_33 : decode cL_join 33 = .ok (.iadd, 1) := by decide +kernel
theorem dL_join_34 : decode cL_join 34 = .ok (.iconst 0, 1) := by decide +kernel
theorem dL_join_35 : decode cL_join 35 = .ok (.invokestatic 19, 3) := by decide +kernel
theorem dL_join_38 : decode cL_join 38 = .ok (.areturn, 1) := by decide +kernel
theorem dL_join_39 : decode cL_join 39 = .ok (.aload_n 0, 1) := by decide +kernel
theorem dL_join_40 : decode cL_join 40 = .ok (.iload_n 3, 1) := by decide +kernel
theorem dL_join_41 : decode cL_join 41 = .ok (.iconst 1, 1) := by decide +kernel
theorem dL_join_42 : decode cL_join 42 = .ok (.isub, 1) := by decide +kernel
theorem dL_join_43 : decode cL_join 43 = .ok (.invokestatic 10, 3) := by decide +kernel
theorem dL_join_46 : decode cL_join 46 = .ok (.aload_n 1, 1) := by decide +kernel
theorem dL_join_47 : decode cL_join 47 = .ok (.iconst 0, 1) := by decide +kernel
theorem dL_join_48 : decode cL_join 48 = .ok (.invokestatic 10, 3) := by decide +kernel
theorem dL_join_51 : decode cL_join 51 = .ok (.iadd, 1) := by decide +kernel
theorem dL_join_52 : decode cL_join 52 = .ok (.iload_n 2, 1) := by decide +kernel
theorem dL_join_53 : decode cL_join 53 = .ok (.if_icmp .gt 7, 3) := by decide +kernel
theorem dL_join_56 : decode cL_join 56 = .ok (.iconst 1, 1) := by decide +kernel
theorem dL_join_57 : decode cL_join 57 = .ok (.goto 4, 3) := by decide +kernel
theorem dL_join_60 : decode cL_join 60 = .ok (.iconst 0, 1) := by decide +kernel
theorem dL_join_61 : decode cL_join 61 = .ok (.istore 5, 2) := by decide +kernel
theorem dL_join_63 : decode cL_join 63 = .ok (.bipush 64, 2) := by decide +kernel
theorem dL_join_65 : decode cL_join 65 = .ok (.newarray .int, 2) := by decide +kernel
theorem dL_join_67 : decode cL_join 67 = .ok (.astore 6, 2) := by decide +kernel
theorem dL_join_69 : decode cL_join 69 = .ok (.iload 5, 2) := by decide +kernel
theorem dL_join_71 : decode cL_join 71 = .ok (.ifCond .eq 50, 3) := by decide +kernel
theorem dL_join_74 : decode cL_join 74 = .ok (.iload 4, 2) := by decide +kernel
theorem dL_join_76 : decode cL_join 76 = .ok (.iconst 1, 1) := by decide +kernel
theorem dL_join_77 : decode cL_join 77 = .ok (.if_icmp .ne 44, 3) := by decide +kernel
theorem dL_join_80 : decode cL_join 80 = .ok (.iload_n 3, 1) := by decide +kernel
theorem dL_join_81 : decode cL_join 81 = .ok (.iconst 1, 1) := by decide +kernel
theorem dL_join_82 : decode cL_join 82 = .ok (.if_icmp .eq 13, 3) := by decide +kernel
theorem dL_join_85 : decode cL_join 85 = .ok (.aload_n 0, 1) := by decide +kernel
theorem dL_join_86 : decode cL_join 86 = .ok (.iload_n 3, 1) := by decide +kernel
theorem dL_join_87 : decode cL_join 87 = .ok (.iconst 2, 1) := by decide +kernel
theorem dL_join_88 : decode cL_join 88 = .ok (.isub, 1) := by decide +kernel
theorem dL_join_89 : decode cL_join 89 = .ok (.invokestatic 16, 3) := by decide +kernel
theorem dL_join_92 : decode cL_join 92 = .ok (.ifCond .ne 29, 3) := by decide +kernel
theorem dL_join_95 : decode cL_join 95 = .ok (.aload_n 0, 1) := by decide +kernel
theorem dL_join_96 : decode cL_join 96 = .ok (.iconst 0, 1) := by decide +kernel
theorem dL_join_97 : decode cL_join 97 = .ok (.iload_n 3, 1) := by decide +kernel
theorem dL_join_98 : decode cL_join 98 = .ok (.iconst 0, 1) := by decide +kernel
theorem dL_join_99 : decode cL_join 99 = .ok (.invokestatic 19, 3) := by decide +kernel
theorem dL_join_102 : decode cL_join 102 = .ok (.astore 6, 2) := by decide +kernel
theorem dL_join_104 : decode cL_join 104 = .ok (.aload 6, 2) := by decide +kernel
theorem dL_join_106 : decode cL_join 106 = .ok (.iload_n 3, 1) := by decide +kernel
theorem dL_join_107 : decode cL_join 107 = .ok (.iconst 1, 1) := by decide +kernel
theorem dL_join_108 : decode cL_join 108 = .ok (.isub, 1) := by decide +kernel
theorem dL_join_109 : decode cL_join 109 = .ok (.dup2, 1) := by decide +kernel
theorem dL_join_110 : decode cL_join 110 = .ok (.iaload, 1) := by decide +kernel
theorem dL_join_111 : decode cL_join 111 = .ok (.aload_n 1, 1) := by decide +kernel
theorem dL_join_112 : decode cL_join 112 = .ok (.iconst 0, 1) := by decide +kernel
theorem dL_join_113 : decode cL_join 113 = .ok (.invokestatic 10, 3) := by decide +kernel
theorem dL_join_116 : decode cL_join 116 = .ok (.iadd, 1) := by decide +kernel
theorem dL_join_117 : decode cL_join 117 = .ok (.iastore, 1) := by decide +kernel
theorem dL_join_118 : decode cL_join 118 = .ok (.aload 6, 2) := by decide +kernel
theorem dL_join_120 : decode cL_join 120 = .ok (.areturn, 1) := by decide +kernel
theorem dL_join_121 : decode cL_join 121 = .ok (.iload 5, 2) := by decide +kernel
theorem dL_join_123 : decode cL_join 123 = .ok (.ifCond .eq 41, 3) := by decide +kernel
theorem dL_join_126 : decode cL_join 126 = .ok (.iload_n 3, 1) := by decide +kernel
theorem dL_join_127 : decode cL_join 127 = .ok (.iconst 1, 1) := by decide +kernel
theorem dL_join_128 : decode cL_join 128 = .ok (.if_icmp .ne 36, 3) := by decide +kernel
theorem dL_join_131 : decode cL_join 131 = .ok (.aload_n 1, 1) := by decide +kernel
theorem dL_join_132 : decode cL_join 132 = .ok (.iconst 0, 1) := by decide +kernel
theorem dL_join_133 : decode cL_join 133 = .ok (.invokestatic 16, 3) := by decide +kernel
theorem dL_join_136 : decode cL_join 136 = .ok (.ifCond .ne 28, 3) := by decide +kernel
theorem dL_join_139 : decode cL_join 139 = .ok (.aload_n 1, 1) := by decide +kernel
theorem dL_join_140 : decode cL_join 140 = .ok (.iconst 0, 1) := by decide +kernel
theorem dL_join_141 : decode cL_join 141 = .ok (.iload 4, 2) := by decide +kernel
theorem dL_join_143 : decode cL_join 143 = .ok (.iconst 0, 1) := by decide +kernel
theorem dL_join_144 : decode cL_join 144 = .ok (.invokestatic 19, 3) := by decide +kernel
theorem dL_join_147 : decode cL_join 147 = .ok (.astore 6, 2) := by decide +kernel
theorem dL_join_149 : decode cL_join 149 = .ok (.aload 6, 2) := by decide +kernel
theorem dL_join_151 : decode cL_join 151 = .ok (.iconst 0, 1) := by decide +kernel
theorem dL_join_152 : decode cL_join 152 = .ok (.dup2, 1) := by decide +kernel
theorem dL_join_153 : decode cL_join 153 = .ok (.iaload, 1) := by decide +kernel
theorem dL_join_154 : decode cL_join 154 = .ok (.aload_n 0, 1) := by decide +kernel
theorem dL_join_155 : decode cL_join 155 = .ok (.iconst 0, 1) := by decide +kernel
theorem dL_join_156 : decode cL_join 156 = .ok (.invokestatic 10, 3) := by decide +kernel
theorem dL_join_159 : decode cL_join 159 = .ok (.iadd, 1) := by decide +kernel
theorem dL_join_160 : decode cL_join 160 = .ok (.iastore, 1) := by decide +kernel
theorem dL_join_161 : decode cL_join 161 = .ok (.aload 6, 2) := by decide +kernel
theorem dL_join_163 : decode cL_join 163 = .ok (.areturn, 1) := by decide +kernel
theorem dL_join_164 : decode cL_join 164 = .ok (.iconst 0, 1) := by decide +kernel
theorem dL_join_165 : decode cL_join 165 = .ok (.istore 7, 2) := by decide +kernel
theorem dL_join_167 : decode cL_join 167 = .ok (.iload 7, 2) := by decide +kernel
theorem dL_join_169 : decode cL_join 169 = .ok (.iload_n 3, 1) := by decide +kernel
theorem dL_join_170 : decode cL_join 170 = .ok (.if_icmp .ge 43, 3) := by decide +kernel
theorem dL_join_173 : decode cL_join 173 = .ok (.aload 6, 2) := by decide +kernel
theorem dL_join_175 : decode cL_join 175 = .ok (.iload 7, 2) := by decide +kernel
theorem dL_join_177 : decode cL_join 177 = .ok (.aload_n 0, 1) := by decide +kernel
theorem dL_join_178 : decode cL_join 178 = .ok (.iload 7, 2) := by decide +kernel
theorem dL_join_180 : decode cL_join 180 = .ok (.invokestatic 10, 3) := by decide +kernel
theorem dL_join_183 : decode cL_join 183 = .ok (.iload 7, 2) := by decide +kernel
theorem dL_join_185 : decode cL_join 185 = .ok (.iload_n 3, 1) := by decide +kernel
theorem dL_join_186 : decode cL_join 186 = .ok (.iconst 1, 1) := by decide +kernel
theorem dL_join_187 : decode cL_join 187 = .ok (.isub, 1) := by decide +kernel
theorem dL_join_188 : decode cL_join 188 = .ok (.if_icmp .ne 7, 3) := by decide +kernel
theorem dL_join_191 : decode cL_join 191 = .ok (.iconst 0, 1) := by decide +kernel
theorem dL_join_192 : decode cL_join 192 = .ok (.goto 13, 3) := by decide +kernel
theorem dL_join_195 : decode cL_join 195 = .ok (.aload_n 0, 1) := by decide +kernel
theorem dL_join_196 : decode cL_join 196 = .ok (.iload 7, 2) := by decide +kernel
theorem dL_join_198 : decode cL_join 198 = .ok (.invokestatic 16, 3) := by decide +kernel
theorem dL_join_201 : decode cL_join 201 = .ok (.iconst 1, 1) := by decide +kernel
theorem dL_join_202 : decode cL_join 202 = .ok (.iadd, 1) := by decide +kernel
theorem dL_join_203 : decode cL_join 203 = .ok (.iconst 5, 1) := by decide +kernel
theorem dL_join_204 : decode cL_join 204 = .ok (.ishl, 1) := by decide +kernel
theorem dL_join_205 : decode cL_join 205 = .ok (.ior, 1) := by decide +kernel
theorem dL_join_206 : decode cL_join 206 = .ok (.iastore, 1) := by decide +kernel
theorem dL_join_207 : decode cL_join 207 = .ok (.iinc 7 1, 3) := by decide +kernel
theorem dL_join_210 : decode cL_join 210 = .ok (.goto (-43), 3) := by decide +kernel
theorem dL_join_213 : decode cL_join 213 = .ok (.iconst 0, 1) := by decide +kernel
theorem dL_join_214 : decode cL_join 214 = .ok (.istore 7, 2) := by decide +kernel
theorem dL_join_216 : decode cL_join 216 = .ok (.iload 7, 2) := by decide +kernel
theorem dL_join_218 : decode cL_join 218 = .ok (.iload 4, 2) := by decide +kernel
theorem dL_join_220 : decode cL_join 220 = .ok (.if_icmp .ge 46, 3) := by decide +kernel
theorem dL_join_223 : decode cL_join 223 = .ok (.aload 6, 2) := by decide +kernel
theorem dL_join_225 : decode cL_join 225 = .ok (.iload_n 3, 1) := by decide +kernel
theorem dL_join_226 : decode cL_join 226 = .ok (.iload 7, 2) := by decide +kernel
theorem dL_join_228 : decode cL_join 228 = .ok (.iadd, 1) := by decide +kernel
theorem dL_join_229 : decode cL_join 229 = .ok (.aload_n 1, 1) := by decide +kernel
theorem dL_join_230 : decode cL_join 230 = .ok (.iload 7, 2) := by decide +kernel
theorem dL_join_232 : decode cL_join 232 = .ok (.invokestatic 10, 3) := by decide +kernel
theorem dL_join_235 : decode cL_join 235 = .ok (.iload 7, 2) := by decide +kernel
theorem dL_join_237 : decode cL_join 237 = .ok (.iload 4, 2) := by decide +kernel
theorem dL_join_239 : decode cL_join 239 = .ok (.iconst 1, 1) := by decide +kernel
theorem dL_join_240 : decode cL_join 240 = .ok (.isub, 1) := by decide +kernel
theorem dL_join_241 : decode cL_join 241 = .ok (.if_icmp .ne 7, 3) := by decide +kernel
theorem dL_join_244 : decode cL_join 244 = .ok (.iconst 0, 1) := by decide +kernel
theorem dL_join_245 : decode cL_join 245 = .ok (.goto 13, 3) := by decide +kernel
theorem dL_join_248 : decode cL_join 248 = .ok (.aload_n 1, 1) := by decide +kernel
theorem dL_join_249 : decode cL_join 249 = .ok (.iload 7, 2) := by decide +kernel
theorem dL_join_251 : decode cL_join 251 = .ok (.invokestatic 16, 3) := by decide +kernel
theorem dL_join_254 : decode cL_join 254 = .ok (.iconst 1, 1) := by decide +kernel
theorem dL_join_255 : decode cL_join 255 = .ok (.iadd, 1) := by decide +kernel
theorem dL_join_256 : decode cL_join 256 = .ok (.iconst 5, 1) := by decide +kernel
theorem dL_join_257 : decode cL_join 257 = .ok (.ishl, 1) := by decide +kernel
theorem dL_join_258 : decode cL_join 258 = .ok (.ior, 1) := by decide +kernel
theorem dL_join_259 : decode cL_join 259 = .ok (.iastore, 1) := by decide +kernel
theorem dL_join_260 : decode cL_join 260 = .ok (.iinc 7 1, 3) := by decide +kernel
theorem dL_join_263 : decode cL_join 263 = .ok (.goto (-47), 3) := by decide +kernel
theorem dL_join_266 : decode cL_join 266 = .ok (.aload 6, 2) := by decide +kernel
theorem dL_join_268 : decode cL_join 268 = .ok (.bipush 63, 2) := by decide +kernel
theorem dL_join_270 : decode cL_join 270 = .ok (.iload_n 3, 1) := by decide +kernel
theorem dL_join_271 : decode cL_join 271 = .ok (.iload 4, 2) := by decide +kernel
theorem dL_join_273 : decode cL_join 273 = .ok (.iadd, 1) := by decide +kernel
theorem dL_join_274 : decode cL_join 274 = .ok (.iastore, 1) := by decide +kernel
theorem dL_join_275 : decode cL_join 275 = .ok (.aload 6, 2) := by decide +kernel
theorem dL_join_277 : decode cL_join 277 = .ok (.areturn, 1) := by decide +kernel
theorem dL_parted_0 : decode cL_parted 0 = .ok (.iload_n 1, 1) := by decide +kernel
theorem dL_parted_1 : decode cL_parted 1 = .ok (.istore 4, 2) := by decide +kernel
theorem dL_parted_3 : decode cL_parted 3 = .ok (.iload 4, 2) := by decide +kernel
theorem dL_parted_5 : decode cL_parted 5 = .ok (.iload_n 2, 1) := by decide +kernel
theorem dL_parted_6 : decode cL_parted 6 = .ok (.iconst 1, 1) := by decide +kernel
theorem dL_parted_7 : decode cL_parted 7 = .ok (.isub, 1) := by decide +kernel
theorem dL_parted_8 : decode cL_parted 8 = .ok (.if_icmp .ge 19, 3) := by decide +kernel
theorem dL_parted_11 : decode cL_parted 11 = .ok (.aload_n 0, 1) := by decide +kernel
theorem dL_parted_12 : decode cL_parted 12 = .ok (.iload 4, 2) := by decide +kernel
theorem dL_parted_14 : decode cL_parted 14 = .ok (.invokestatic 16, 3) := by decide +kernel
theorem dL_parted_17 : decode cL_parted 17 = .ok (.iload_n 3, 1) := by decide +kernel
theorem dL_parted_18 : decode cL_parted 18 = .ok (.if_icmp .eq 9, 3) := by decide +kernel
theorem dL_parted_21 : decode cL_parted 21 = .ok (.iinc 4 1, 3) := by decide +kernel
theorem dL_parted_24 : decode cL_parted 24 = .ok (.goto (-21), 3) := by decide +kernel
theorem dL_parted_27 : decode cL_parted 27 = .ok (.iload 4, 2) := by decide +kernel
theorem dL_parted_29 : decode cL_parted 29 = .ok (.ireturn, 1) := by decide +kernel
theorem dL_split_0 : decode cL_split 0 = .ok (.iconst 0, 1) := by decide +kernel
theorem dL_split_1 : decode cL_split 1 = .ok (.istore 4, 2) := by decide +kernel
theorem dL_split_3 : decode cL_split 3 = .ok (.iconst 0, 1) := by decide +kernel
theorem dL_split_4 : decode cL_split 4 = .ok (.istore 5, 2) := by decide +kernel
theorem dL_split_6 : decode cL_split 6 = .ok (.iload 5, 2) := by decide +kernel
theorem dL_split_8 : decode cL_split 8 = .ok (.aload_n 0, 1) := by decide +kernel
theorem dL_split_9 : decode cL_split 9 = .ok (.bipush 63, 2) := by decide +kernel
theorem dL_split_11 : decode cL_split 11 = .ok (.iaload, 1) := by decide +kernel
theorem dL_split_12 : decode cL_split 12 = .ok (.if_icmp .ge 20, 3) := by decide +kernel
theorem dL_split_15 : decode cL_split 15 = .ok (.iload 4, 2) := by decide +kernel
theorem dL_split_17 : decode cL_split 17 = .ok (.aload_n 0, 1) := by decide +kernel
theorem dL_split_18 : decode cL_split 18 = .ok (.iload 5, 2) := by decide +kernel
theorem dL_split_20 : decode cL_split 20 = .ok (.invokestatic 10, 3) := by decide +kernel
theorem dL_split_23 : decode cL_split 23 = .ok (.iadd, 1) := by decide +kernel
theorem dL_split_24 : decode cL_split 24 = .ok (.istore 4, 2) := by decide +kernel
theorem dL_split_26 : decode cL_split 26 = .ok (.iinc 5 1, 3) := by decide +kernel
theorem dL_split_29 : decode cL_split 29 = .ok (.goto (-23), 3) := by decide +kernel
theorem dL_split_32 : decode cL_split 32 = .ok (.iload_n 1, 1) := by decide +kernel
theorem dL_split_33 : decode cL_split 33 = .ok (.ifCond .eq 9, 3) := by decide +kernel
theorem dL_split_36 : decode cL_split 36 = .ok (.iload_n 1, 1) := by decide +kernel
theorem dL_split_37 : decode cL_split 37 = .ok (.iload 4, 2) := by decide +kernel
theorem dL_split_39 : decode cL_split 39 = .ok (.if_icmp .ne 34, 3) := by decide +kernel
theorem dL_split_42 : decode cL_split 42 = .ok (.iload_n 1, 1) := by decide +kernel
theorem dL_split_43 : decode cL_split 43 = .ok (.ifCond .ne 7, 3) := by decide +kernel
theorem dL_split_46 : decode cL_split 46 = .ok (.iconst 1, 1) := by decide +kernel
theorem dL_split_47 : decode cL_split 47 = .ok (.goto 4, 3) := by decide +kernel
theorem dL_split_50 : decode cL_split 50 = .ok (.iconst 0, 1) := by decide +kernel
theorem dL_split_51 : decode cL_split 51 = .ok (.iload_n 2, 1) := by decide +kernel
theorem dL_split_52 : decode cL_split 52 = .ok (.if_icmp .ne 10, 3) := by decide +kernel
theorem dL_split_55 : decode cL_split 55 = .ok (.bipush 64, 2) := by decide +kernel
theorem dL_split_57 : decode cL_split 57 = .ok (.newarray .int, 2) := by decide +kernel
theorem dL_split_59 : decode cL_split 59 = .ok (.goto 13, 3) := by decide +kernel
theorem dL_split_62 : decode cL_split 62 = .ok (.aload_n 0, 1) := by decide +kernel
theorem dL_split_63 : decode cL_split 63 = .ok (.iconst 0, 1) := by decide +kernel
theorem dL_split_64 : decode cL_split 64 = .ok (.aload_n 0, 1) := by decide +kernel
theorem dL_split_65 : decode cL_split 65 = .ok (.bipush 63, 2) := by decide +kernel
theorem dL_split_67 : decode cL_split 67 = .ok (.iaload, 1) := by decide +kernel
theorem dL_split_68 : decode cL_split 68 = .ok (.iconst 0, 1) := by decide +kernel
theorem dL_split_69 : decode cL_split 69 = .ok (.invokestatic 19, 3) := by decide +kernel
theorem dL_split_72 : decode cL_split 72 = .ok (.areturn, 1) := by decide +kernel
theorem dL_split_73 : decode cL_split 73 = .ok (.iconst 0, 1) := by decide +kernel
theorem dL_split_74 : decode cL_split 74 = .ok (.istore 5, 2) := by decide +kernel
theorem dL_split_76 : decode cL_split 76 = .ok (.aload_n 0, 1) := by decide +kernel
theorem dL_split_77 : decode cL_split 77 = .ok (.bipush 63, 2) := by decide +kernel
theorem dL_split_79 : decode cL_split 79 = .ok (.iaload, 1) := by decide +kernel
theorem dL_split_80 : decode cL_split 80 = .ok (.istore 6, 2) := by decide +kernel
theorem dL_split_82 : decode cL_split 82 = .ok (.iconst 0, 1) := by decide +kernel
theorem dL_split_83 : decode cL_split 83 = .ok (.istore 7, 2) := by decide +kernel
theorem dL_split_85 : decode cL_split 85 = .ok (.iload_n 1, 1) := by decide +kernel
theorem dL_split_86 : decode cL_split 86 = .ok (.istore 8, 2) := by decide +kernel
theorem dL_split_88 : decode cL_split 88 = .ok (.iconst 0, 1) := by decide +kernel
theorem dL_split_89 : decode cL_split 89 = .ok (.istore 9, 2) := by decide +kernel
theorem dL_split_91 : decode cL_split 91 = .ok (.bipush 64, 2) := by decide +kernel
theorem dL_split_93 : decode cL_split 93 = .ok (.newarray .int, 2) := by decide +kernel
theorem dL_split_95 : decode cL_split 95 = .ok (.astore 10, 2) := by decide +kernel
theorem dL_split_97 : decode cL_split 97 = .ok (.bipush 64, 2) := by decide +kernel
theorem dL_split_99 : decode cL_split 99 = .ok (.newarray .int, 2) := by decide +kernel
theorem dL_split_101 : decode cL_split 101 = .ok (.astore 11, 2) := by decide +kernel
theorem dL_split_103 : decode cL_split 103 = .ok (.bipush 64, 2) := by decide +kernel
theorem dL_split_105 : decode cL_split 105 = .ok (.newarray .int, 2) := by decide +kernel
theorem dL_split_107 : decode cL_split 107 = .ok (.astore 12, 2) := by decide +kernel
theorem dL_split_109 : decode cL_split 109 = .ok (.iload 6, 2) := by decide +kernel
theorem dL_split_111 : decode cL_split 111 = .ok (.iload 5, 2) := by decide +kernel
theorem dL_split_113 : decode cL_split 113 = .ok (.isub, 1) := by decide +kernel
theorem dL_split_114 : decode cL_split 114 = .ok (.iconst 1, 1) := by decide +kernel
theorem dL_split_115 : decode cL_split 115 = .ok (.if_icmp .ne 34, 3) := by decide +kernel
theorem dL_split_118 : decode cL_split 118 = .ok (.aload 12, 2) := by decide +kernel
theorem dL_split_120 : decode cL_split 120 = .ok (.iconst 0, 1) := by decide +kernel
theorem dL_split_121 : decode cL_split 121 = .ok (.iload_n 2, 1) := by decide +kernel
theorem dL_split_122 : decode cL_split 122 = .ok (.ifCond .eq 8, 3) := by decide +kernel
theorem dL_split_125 : decode cL_split 125 = .ok (.iload 8, 2) := by decide +kernel
theorem dL_split_127 : decode cL_split 127 = .ok (.goto 12, 3) := by decide +kernel
theorem dL_split_130 : decode cL_split 130 = .ok (.aload_n 0, 1) := by decide +kernel
theorem dL_split_131 : decode cL_split 131 = .ok (.iload 5, 2) := by decide +kernel
theorem dL_split_133 : decode cL_split 133 = .ok (.invokestatic 10, 3) := by decide +kernel
theorem dL_split_136 : decode cL_split 136 = .ok (.iload 8, 2) := by decide +kernel
theorem dL_split_138 : decode cL_split 138 = .ok (.isub, 1) := by decide +kernel
theorem dL_split_139 : decode cL_split 139 = .ok (.iastore, 1) := by decide +kernel
theorem dL_split_140 : decode cL_split 140 = .ok (.aload 12, 2) := by decide +kernel
theorem dL_split_142 : decode cL_split 142 = .ok (.bipush 63, 2) := by decide +kernel
theorem dL_split_144 : decode cL_split 144 = .ok (.iconst 1, 1) := by decide +kernel
theorem dL_split_145 : decode cL_split 145 = .ok (.iastore, 1) := by decide +kernel
theorem dL_split_146 : decode cL_split 146 = .ok (.goto 202, 3) := by decide +kernel
theorem dL_split_149 : decode cL_split 149 = .ok (.aload_n 0, 1) := by decide +kernel
theorem dL_split_150 : decode cL_split 150 = .ok (.iload 5, 2) := by decide +kernel
theorem dL_split_152 : decode cL_split 152 = .ok (.iload 6, 2) := by decide +kernel
theorem dL_split_154 : decode cL_split 154 = .ok (.iload 7, 2) := by decide +kernel
theorem dL_split_156 : decode cL_split 156 = .ok (.invokestatic 23, 3) := by decide +kernel
theorem dL_split_159 : decode cL_split 159 = .ok (.iconst 1, 1) := by decide +kernel
theorem dL_split_160 : decode cL_split 160 = .ok (.iadd, 1) := by decide +kernel
theorem dL_split_161 : decode cL_split 161 = .ok (.istore 13, 2) := by decide +kernel
theorem dL_split_163 : decode cL_split 163 = .ok (.iconst 0, 1) := by decide +kernel
theorem dL_split_164 : decode cL_split 164 = .ok (.istore 14, 2) := by decide +kernel
theorem dL_split_166 : decode cL_split 166 = .ok (.iload 5, 2) := by decide +kernel
theorem dL_split_168 : decode cL_split 168 = .ok (.istore 15, 2) := by decide +kernel
theorem dL_split_170 : decode cL_split 170 = .ok (.iload 15, 2) := by decide +kernel
theorem dL_split_172 : decode cL_split 172 = .ok (.iload 13, 2) := by decide +kernel
theorem dL_split_174 : decode cL_split 174 = .ok (.if_icmp .ge 20, 3) := by decide +kernel
theorem dL_split_177 : decode cL_split 177 = .ok (.iload 14, 2) := by decide +kernel
theorem dL_split_179 : decode cL_split 179 = .ok (.aload_n 0, 1) := by decide +kernel
theorem dL_split_180 : decode cL_split 180 = .ok (.iload 15, 2) := by decide +kernel
theorem dL_split_182 : decode cL_split 182 = .ok (.invokestatic 10, 3) := by decide +kernel
theorem dL_split_185 : decode cL_split 185 = .ok (.iadd, 1) := by decide +kernel
theorem dL_split_186 : decode cL_split 186 = .ok (.istore 14, 2) := by decide +kernel
theorem dL_split_188 : decode cL_split 188 = .ok (.iinc 15 1, 3) := by decide +kernel
theorem dL_split_191 : decode cL_split 191 = .ok (.goto (-21), 3) := by decide +kernel
theorem dL_split_194 : decode cL_split 194 = .ok (.iload 8, 2) := by decide +kernel
theorem dL_split_196 : decode cL_split 196 = .ok (.iload 14, 2) := by decide +kernel
theorem dL_split_198 : decode cL_split 198 = .ok (.if_icmp .ne 39, 3) := by decide +kernel
theorem dL_split_201 : decode cL_split 201 = .ok (.iload_n 2, 1) := by decide +kernel
theorem dL_split_202 : decode cL_split 202 = .ok (.ifCond .eq 18, 3) := by decide +kernel
theorem dL_split_205 : decode cL_split 205 = .ok (.aload_n 0, 1) := by decide +kernel
theorem dL_split_206 : decode cL_split 206 = .ok (.iload 5, 2) := by decide +kernel
theorem dL_split_208 : decode cL_split 208 = .ok (.iload 13, 2) := by decide +kernel
theorem dL_split_210 : decode cL_split 210 = .ok (.iload 7, 2) := by decide +kernel
theorem dL_split_212 : decode cL_split 212 = .ok (.iconst 1, 1) := by decide +kernel
theorem dL_split_213 : decode cL_split 213 = .ok (.iadd, 1) := by decide +kernel
theorem dL_split_214 : decode cL_split 214 = .ok (.invokestatic 19, 3) := by decide +kernel
theorem dL_split_217 : decode cL_split 217 = .ok (.goto 15, 3) := by decide +kernel
theorem dL_split_220 : decode cL_split 220 = .ok (.aload_n 0, 1) := by decide +kernel
theorem dL_split_221 : decode cL_split 221 = .ok (.iload 13, 2) := by decide +kernel
theorem dL_split_223 : decode cL_split 223 = .ok (.iload 6, 2) := by decide +kernel
theorem dL_split_225 : decode cL_split 225 = .ok (.iload 7, 2) := by decide +kernel
theorem dL_split_227 : decode cL_split 227 = .ok (.iconst 1, 1) := by decide +kernel
theorem dL_split_228 : decode cL_split 228 = .ok (.iadd, 1) := by decide +kernel
theorem dL_split_229 : decode cL_split 229 = .ok (.invokestatic 19, 3) := by decide +kernel
theorem dL_split_232 : decode cL_split 232 = .ok (.astore 12, 2) := by decide +kernel
theorem dL_split_234 : decode cL_split 234 = .ok (.goto 114, 3) := by decide +kernel
theorem dL_split_237 : decode cL_split 237 = .ok (.iload 8, 2) := by decide +kernel
theorem dL_split_239 : decode cL_split 239 = .ok (.iload 14, 2) := by decide +kernel
theorem dL_split_241 : decode cL_split 241 = .ok (.if_icmp .ge 7, 3) := by decide +kernel
theorem dL_split_244 : decode cL_split 244 = .ok (.iconst 1, 1) := by decide +kernel
theorem dL_split_245 : decode cL_split 245 = .ok (.goto 4, 3) := by decide +kernel
theorem dL_split_248 : decode cL_split 248 = .ok (.iconst 0, 1) := by decide +kernel
theorem dL_split_249 : decode cL_split 249 = .ok (.istore 15, 2) := by decide +kernel
theorem dL_split_251 : decode cL_split 251 = .ok (.aload 10, 2) := by decide +kernel
theorem dL_split_253 : decode cL_split 253 = .ok (.iload 9, 2) := by decide +kernel
theorem dL_split_255 : decode cL_split 255 = .ok (.iload 15, 2) := by decide +kernel
theorem dL_split_257 : decode cL_split 257 = .ok (.iload_n 2, 1) := by decide +kernel
theorem dL_split_258 : decode cL_split 258 = .ok (.if_icmp .eq 18, 3) := by decide +kernel
theorem dL_split_261 : decode cL_split 261 = .ok (.iload 15, 2) := by decide +kernel
theorem dL_split_263 : decode cL_split 263 = .ok (.ifCond .eq 8, 3) := by decide +kernel
theorem dL_split_266 : decode cL_split 266 = .ok (.iload 13, 2) := by decide +kernel
theorem dL_split_268 : decode cL_split 268 = .ok (.goto 9, 3) := by decide +kernel
theorem dL_split_271 : decode cL_split 271 = .ok (.iload 5, 2) := by decide +kernel
theorem dL_split_273 : decode cL_split 273 = .ok (.goto 4, 3) := by decide +kernel
theorem dL_split_276 : decode cL_split 276 = .ok (.iconst (-1), 1) := by decide +kernel
theorem dL_split_277 : decode cL_split 277 = .ok (.iastore, 1) := by decide +kernel
theorem dL_split_278 : decode cL_split 278 = .ok (.aload 11, 2) := by decide +kernel
theorem dL_split_280 : decode cL_split 280 = .ok (.iload 9, 2) := by decide +kernel
theorem dL_split_282 : decode cL_split 282 = .ok (.iload 15, 2) := by decide +kernel
theorem dL_split_284 : decode cL_split 284 = .ok (.ifCond .eq 8, 3) := by decide +kernel
theorem dL_split_287 : decode cL_split 287 = .ok (.iload 6, 2) := by decide +kernel
theorem dL_split_289 : decode cL_split 289 = .ok (.goto 5, 3) := by decide +kernel
theorem dL_split_292 : decode cL_split 292 = .ok (.iload 13, 2) := by decide +kernel
theorem dL_split_294 : decode cL_split 294 = .ok (.iastore, 1) := by decide +kernel
theorem dL_split_295 : decode cL_split 295 = .ok (.iinc 9 1, 3) := by decide +kernel
theorem dL_split_298 : decode cL_split 298 = .ok (.iload 8, 2) := by decide +kernel
theorem dL_split_300 : decode cL_split 300 = .ok (.iload 15, 2) := by decide +kernel
theorem dL_split_302 : decode cL_split 302 = .ok (.ifCond .eq 7, 3) := by decide +kernel
theorem dL_split_305 : decode cL_split 305 = .ok (.iconst 0, 1) := by decide +kernel
theorem dL_split_306 : decode cL_split 306 = .ok (.goto 5, 3) := by decide +kernel
theorem dL_split_309 : decode cL_split 309 = .ok (.iload 14, 2) := by decide +kernel
theorem dL_split_311 : decode cL_split 311 = .ok (.isub, 1) := by decide +kernel
theorem dL_split_312 : decode cL_split 312 = .ok (.istore 8, 2) := by decide +kernel
theorem dL_split_314 : decode cL_split 314 = .ok (.iload 15, 2) := by decide +kernel
theorem dL_split_316 : decode cL_split 316 = .ok (.ifCond .eq 8, 3) := by decide +kernel
theorem dL_split_319 : decode cL_split 319 = .ok (.iload 13, 2) := by decide +kernel
theorem dL_split_321 : decode cL_split 321 = .ok (.goto 5, 3) := by decide +kernel
theorem dL_split_324 : decode cL_split 324 = .ok (.iload 6, 2) := by decide +kernel
theorem dL_split_326 : decode cL_split 326 = .ok (.istore 6, 2) := by decide +kernel
theorem dL_split_328 : decode cL_split 328 = .ok (.iload 15, 2) := by decide +kernel
theorem dL_split_330 : decode cL_split 330 = .ok (.ifCond .eq 8, 3) := by decide +kernel
theorem dL_split_333 : decode cL_split 333 = .ok (.iload 5, 2) := by decide +kernel
theorem dL_split_335 : decode cL_split 335 = .ok (.goto 5, 3) := by decide +kernel
theorem dL_split_338 : decode cL_split 338 = .ok (.iload 13, 2) := by decide +kernel
theorem dL_split_340 : decode cL_split 340 = .ok (.istore 5, 2) := by decide +kernel
theorem dL_split_342 : decode cL_split 342 = .ok (.iinc 7 1, 3) := by decide +kernel
theorem dL_split_345 : decode cL_split 345 = .ok (.goto (-236), 3) := by decide +kernel
theorem dL_split_348 : decode cL_split 348 = .ok (.iload 9, 2) := by decide +kernel
theorem dL_split_350 : decode cL_split 350 = .ok (.iconst 1, 1) := by decide +kernel
theorem dL_split_351 : decode cL_split 351 = .ok (.isub, 1) := by decide +kernel
theorem dL_split_352 : decode cL_split 352 = .ok (.istore 13, 2) := by decide +kernel
theorem dL_split_354 : decode cL_split 354 = .ok (.iload 13, 2) := by decide +kernel
theorem dL_split_356 : decode cL_split 356 = .ok (.ifCond .lt 65, 3) := by decide +kernel
theorem dL_split_359 : decode cL_split 359 = .ok (.aload 10, 2) := by decide +kernel
theorem dL_split_361 : decode cL_split 361 = .ok (.iload 13, 2) := by decide +kernel
theorem dL_split_363 : decode cL_split 363 = .ok (.iaload, 1) := by decide +kernel
theorem dL_split_364 : decode cL_split 364 = .ok (.ifCond .ge 6, 3) := by decide +kernel
theorem dL_split_367 : decode cL_split 367 = .ok (.goto 48, 3) := by decide +kernel
theorem dL_split_370 : decode cL_split 370 = .ok (.aload_n 0, 1) := by decide +kernel
theorem dL_split_371 : decode cL_split 371 = .ok (.aload 10, 2) := by decide +kernel
theorem dL_split_373 : decode cL_split 373 = .ok (.iload 13, 2) := by decide +kernel
theorem dL_split_375 : decode cL_split 375 = .ok (.iaload, 1) := by decide +kernel
theorem dL_split_376 : decode cL_split 376 = .ok (.aload 11, 2) := by decide +kernel
theorem dL_split_378 : decode cL_split 378 = .ok (.iload 13, 2) := by decide +kernel
theorem dL_split_380 : decode cL_split 380 = .ok (.iaload, 1) := by decide +kernel
theorem dL_split_381 : decode cL_split 381 = .ok (.iload 13, 2) := by decide +kernel
theorem dL_split_383 : decode cL_split 383 = .ok (.iconst 1, 1) := by decide +kernel
theorem dL_split_384 : decode cL_split 384 = .ok (.iadd, 1) := by decide +kernel
theorem dL_split_385 : decode cL_split 385 = .ok (.invokestatic 19, 3) := by decide +kernel
theorem dL_split_388 : decode cL_split 388 = .ok (.astore 14, 2) := by decide +kernel
theorem dL_split_390 : decode cL_split 390 = .ok (.iload_n 2, 1) := by decide +kernel
theorem dL_split_391 : decode cL_split 391 = .ok (.ifCond .eq 14, 3) := by decide +kernel
theorem dL_split_394 : decode cL_split 394 = .ok (.aload 14, 2) := by decide +kernel
theorem dL_split_396 : decode cL_split 396 = .ok (.aload 12, 2) := by decide +kernel
theorem dL_split_398 : decode cL_split 398 = .ok (.iload_n 3, 1) := by decide +kernel
theorem dL_split_399 : decode cL_split 399 = .ok (.invokestatic 27, 3) := by decide +kernel
theorem dL_split_402 : decode cL_split 402 = .ok (.goto 11, 3) := by decide +kernel
theorem dL_split_405 : decode cL_split 405 = .ok (.aload 12, 2) := by decide +kernel
theorem dL_split_407 : decode cL_split 407 = .ok (.aload 14, 2) := by decide +kernel
theorem dL_split_409 : decode cL_split 409 = .ok (.iload_n 3, 1) := by decide +kernel
theorem dL_split_410 : decode cL_split 410 = .ok (.invokestatic 27, 3) := by decide +kernel
theorem dL_split_413 : decode cL_split 413 = .ok (.astore 12, 2) := by decide +kernel
theorem dL_split_415 : decode cL_split 415 = .ok (.iinc 13 (-1), 3) := by decide +kernel
theorem dL_split_418 : decode cL_split 418 = .ok (.goto (-64), 3) := by decide +kernel
theorem dL_split_421 : decode cL_split 421 = .ok (.aload 12, 2) := by decide +kernel
theorem dL_split_423 : decode cL_split 423 = .ok (.areturn, 1) := by decide +kernel
theorem dL_level_0 : decode cL_level 0 = .ok (.aload_n 0, 1) := by decide +kernel
theorem dL_level_1 : decode cL_level 1 = .ok (.bipush 63, 2) := by decide +kernel
theorem dL_level_3 : decode cL_level 3 = .ok (.iaload, 1) := by decide +kernel
theorem dL_level_4 : decode cL_level 4 = .ok (.iconst 2, 1) := by decide +kernel
theorem dL_level_5 : decode cL_level 5 = .ok (.if_icmp .ge 5, 3) := by decide +kernel
theorem dL_level_8 : decode cL_level 8 = .ok (.iconst 0, 1) := by decide +kernel
theorem dL_level_9 : decode cL_level 9 = .ok (.ireturn, 1) := by decide +kernel
theorem dL_level_10 : decode cL_level 10 = .ok (.iload_n 1, 1) := by decide +kernel
theorem dL_level_11 : decode cL_level 11 = .ok (.ifCond .ne 7, 3) := by decide +kernel
theorem dL_level_14 : decode cL_level 14 = .ok (.iconst 0, 1) := by decide +kernel
theorem dL_level_15 : decode cL_level 15 = .ok (.goto 12, 3) := by decide +kernel
theorem dL_level_18 : decode cL_level 18 = .ok (.aload_n 0, 1) := by decide +kernel
theorem dL_level_19 : decode cL_level 19 = .ok (.iload_n 1, 1) := by decide +kernel
theorem dL_level_20 : decode cL_level 20 = .ok (.iconst 1, 1) := by decide +kernel
theorem dL_level_21 : decode cL_level 21 = .ok (.isub, 1) := by decide +kernel
theorem dL_level_22 : decode cL_level 22 = .ok (.invokestatic 16, 3) := by decide +kernel
theorem dL_level_25 : decode cL_level 25 = .ok (.iconst 1, 1) := by decide +kernel
theorem dL_level_26 : decode cL_level 26 = .ok (.iadd, 1) := by decide +kernel
theorem dL_level_27 : decode cL_level 27 = .ok (.istore_n 2, 1) := by decide +kernel
theorem dL_level_28 : decode cL_level 28 = .ok (.iload_n 1, 1) := by decide +kernel
theorem dL_level_29 : decode cL_level 29 = .ok (.aload_n 0, 1) := by decide +kernel
theorem dL_level_30 : decode cL_level 30 = .ok (.bipush 63, 2) := by decide +kernel
theorem dL_level_32 : decode cL_level 32 = .ok (.iaload, 1) := by decide +kernel
theorem dL_level_33 : decode cL_level 33 = .ok (.iconst 1, 1) := by decide +kernel
theorem dL_level_34 : decode cL_level 34 = .ok (.isub, 1) := by decide +kernel
theorem dL_level_35 : decode cL_level 35 = .ok (.if_icmp .ne 7, 3) := by decide +kernel
theorem dL_level_38 : decode cL_level 38 = .ok (.iconst 0, 1) := by decide +kernel
theorem dL_level_39 : decode cL_level 39 = .ok (.goto 10, 3) := by decide +kernel
theorem dL_level_42 : decode cL_level 42 = .ok (.aload_n 0, 1) := by decide +kernel
theorem dL_level_43 : decode cL_level 43 = .ok (.iload_n 1, 1) := by decide +kernel
theorem dL_level_44 : decode cL_level 44 = .ok (.invokestatic 16, 3) := by decide +kernel
theorem dL_level_47 : decode cL_level 47 = .ok (.iconst 1, 1) := by decide +kernel
theorem dL_level_48 : decode cL_level 48 = .ok (.iadd, 1) := by decide +kernel
theorem dL_level_49 : decode cL_level 49 = .ok (.istore_n 3, 1) := by decide +kernel
theorem dL_level_50 : decode cL_level 50 = .ok (.iload_n 2, 1) := by decide +kernel
theorem dL_level_51 : decode cL_level 51 = .ok (.iload_n 3, 1) := by decide +kernel
theorem dL_level_52 : decode cL_level 52 = .ok (.if_icmp .le 7, 3) := by decide +kernel
theorem dL_level_55 : decode cL_level 55 = .ok (.iload_n 2, 1) := by decide +kernel
theorem dL_level_56 : decode cL_level 56 = .ok (.goto 4, 3) := by decide +kernel
theorem dL_level_59 : decode cL_level 59 = .ok (.iload_n 3, 1) := by decide +kernel
theorem dL_level_60 : decode cL_level 60 = .ok (.ireturn, 1) := by decide +kernel
theorem dL_depth_0 : decode cL_depth 0 = .ok (.iconst 0, 1) := by decide +kernel
theorem dL_depth_1 : decode cL_depth 1 = .ok (.istore_n 1, 1) := by decide +kernel
theorem dL_depth_2 : decode cL_depth 2 = .ok (.iconst 0, 1) := by decide +kernel
theorem dL_depth_3 : decode cL_depth 3 = .ok (.istore_n 2, 1) := by decide +kernel
theorem dL_depth_4 : decode cL_depth 4 = .ok (.iload_n 2, 1) := by decide +kernel
theorem dL_depth_5 : decode cL_depth 5 = .ok (.aload_n 0, 1) := by decide +kernel
theorem dL_depth_6 : decode cL_depth 6 = .ok (.bipush 63, 2) := by decide +kernel
theorem dL_depth_8 : decode cL_depth 8 = .ok (.iaload, 1) := by decide +kernel
theorem dL_depth_9 : decode cL_depth 9 = .ok (.if_icmp .ge 28, 3) := by decide +kernel
theorem dL_depth_12 : decode cL_depth 12 = .ok (.aload_n 0, 1) := by decide +kernel
theorem dL_depth_13 : decode cL_depth 13 = .ok (.iload_n 2, 1) := by decide +kernel
theorem dL_depth_14 : decode cL_depth 14 = .ok (.invokestatic 31, 3) := by decide +kernel
theorem dL_depth_17 : decode cL_depth 17 = .ok (.iload_n 1, 1) := by decide +kernel
theorem dL_depth_18 : decode cL_depth 18 = .ok (.if_icmp .le 11, 3) := by decide +kernel
theorem dL_depth_21 : decode cL_depth 21 = .ok (.aload_n 0, 1) := by decide +kernel
theorem dL_depth_22 : decode cL_depth 22 = .ok (.iload_n 2, 1) := by decide +kernel
theorem dL_depth_23 : decode cL_depth 23 = .ok (.invokestatic 31, 3) := by decide +kernel
theorem dL_depth_26 : decode cL_depth 26 = .ok (.goto 4, 3) := by decide +kernel
theorem dL_depth_29 : decode cL_depth 29 = .ok (.iload_n 1, 1) := by decide +kernel
theorem dL_depth_30 : decode cL_depth 30 = .ok (.istore_n 1, 1) := by decide +kernel
theorem dL_depth_31 : decode cL_depth 31 = .ok (.iinc 2 1, 3) := by decide +kernel
theorem dL_depth_34 : decode cL_depth 34 = .ok (.goto (-30), 3) := by decide +kernel
theorem dL_depth_37 : decode cL_depth 37 = .ok (.iload_n 1, 1) := by decide +kernel
theorem dL_depth_38 : decode cL_depth 38 = .ok (.ireturn, 1) := by decide +kernel
theorem dL_balanced_0 : decode cL_balanced 0 = .ok (.aload_n 0, 1) := by decide +kernel
theorem dL_balanced_1 : decode cL_balanced 1 = .ok (.invokestatic 34, 3) := by decide +kernel
theorem dL_balanced_4 : decode cL_balanced 4 = .ok (.istore_n 2, 1) := by decide +kernel
theorem dL_balanced_5 : decode cL_balanced 5 = .ok (.iload_n 2, 1) := by decide +kernel
theorem dL_balanced_6 : decode cL_balanced 6 = .ok (.ifCond .ne 7, 3) := by decide +kernel
theorem dL_balanced_9 : decode cL_balanced 9 = .ok (.iconst 1, 1) := by decide +kernel
theorem dL_balanced_10 : decode cL_balanced 10 = .ok (.goto 97, 3) := by decide +kernel
theorem dL_balanced_13 : decode cL_balanced 13 = .ok (.iload_n 2, 1) := by decide +kernel
theorem dL_balanced_14 : decode cL_balanced 14 = .ok (.iconst 1, 1) := by decide +kernel
theorem dL_balanced_15 : decode cL_balanced 15 = .ok (.if_icmp .ne 7, 3) := by decide +kernel
theorem dL_balanced_18 : decode cL_balanced 18 = .ok (.iconst 2, 1) := by decide +kernel
theorem dL_balanced_19 : decode cL_balanced 19 = .ok (.goto 88, 3) := by decide +kernel
theorem dL_balanced_22 : decode cL_balanced 22 = .ok (.iload_n 2, 1) := by decide +kernel
theorem dL_balanced_23 : decode cL_balanced 23 = .ok (.iconst 2, 1) := by decide +kernel
theorem dL_balanced_24 : decode cL_balanced 24 = .ok (.if_icmp .ne 7, 3) := by decide +kernel
theorem dL_balanced_27 : decode cL_balanced 27 = .ok (.iconst 3, 1) := by decide +kernel
theorem dL_balanced_28 : decode cL_balanced 28 = .ok (.goto 79, 3) := by decide +kernel
theorem dL_balanced_31 : decode cL_balanced 31 = .ok (.iload_n 2, 1) := by decide +kernel
theorem dL_balanced_32 : decode cL_balanced 32 = .ok (.iconst 3, 1) := by decide +kernel
theorem dL_balanced_33 : decode cL_balanced 33 = .ok (.if_icmp .ne 7, 3) := by decide +kernel
theorem dL_balanced_36 : decode cL_balanced 36 = .ok (.iconst 5, 1) := by decide +kernel
theorem dL_balanced_37 : decode cL_balanced 37 = .ok (.goto 70, 3) := by decide +kernel
theorem dL_balanced_40 : decode cL_balanced 40 = .ok (.iload_n 2, 1) := by decide +kernel
theorem dL_balanced_41 : decode cL_balanced 41 = .ok (.iconst 4, 1) := by decide +kernel
theorem dL_balanced_42 : decode cL_balanced 42 = .ok (.if_icmp .ne 8, 3) := by decide +kernel
theorem dL_balanced_45 : decode cL_balanced 45 = .ok (.bipush 8, 2) := by decide +kernel
theorem dL_balanced_47 : decode cL_balanced 47 = .ok (.goto 60, 3) := by decide +kernel
theorem dL_balanced_50 : decode cL_balanced 50 = .ok (.iload_n 2, 1) := by decide +kernel
theorem dL_balanced_51 : decode cL_balanced 51 = .ok (.iconst 5, 1) := by decide +kernel
theorem dL_balanced_52 : decode cL_balanced 52 = .ok (.if_icmp .ne 8, 3) := by decide +kernel
theorem dL_balanced_55 : decode cL_balanced 55 = .ok (.bipush 13, 2) := by decide +kernel
theorem dL_balanced_57 : decode cL_balanced 57 = .ok (.goto 50, 3) := by decide +kernel
theorem dL_balanced_60 : decode cL_balanced 60 = .ok (.iload_n 2, 1) := by decide +kernel
theorem dL_balanced_61 : decode cL_balanced 61 = .ok (.bipush 6, 2) := by decide +kernel
theorem dL_balanced_63 : decode cL_balanced 63 = .ok (.if_icmp .ne 8, 3) := by decide +kernel
theorem dL_balanced_66 : decode cL_balanced 66 = .ok (.bipush 21, 2) := by decide +kernel
theorem dL_balanced_68 : decode cL_balanced 68 = .ok (.goto 39, 3) := by decide +kernel
theorem dL_balanced_71 : decode cL_balanced 71 = .ok (.iload_n 2, 1) := by decide +kernel
theorem dL_balanced_72 : decode cL_balanced 72 = .ok (.bipush 7, 2) := by decide +kernel
theorem dL_balanced_74 : decode cL_balanced 74 = .ok (.if_icmp .ne 8, 3) := by decide +kernel
theorem dL_balanced_77 : decode cL_balanced 77 = .ok (.bipush 34, 2) := by decide +kernel
theorem dL_balanced_79 : decode cL_balanced 79 = .ok (.goto 28, 3) := by decide +kernel
theorem dL_balanced_82 : decode cL_balanced 82 = .ok (.iload_n 2, 1) := by decide +kernel
theorem dL_balanced_83 : decode cL_balanced 83 = .ok (.bipush 8, 2) := by decide +kernel
theorem dL_balanced_85 : decode cL_balanced 85 = .ok (.if_icmp .ne 8, 3) := by decide +kernel
theorem dL_balanced_88 : decode cL_balanced 88 = .ok (.bipush 55, 2) := by decide +kernel
theorem dL_balanced_90 : decode cL_balanced 90 = .ok (.goto 17, 3) := by decide +kernel
theorem dL_balanced_93 : decode cL_balanced 93 = .ok (.iload_n 2, 1) := by decide +kernel
theorem dL_balanced_94 : decode cL_balanced 94 = .ok (.bipush 9, 2) := by decide +kernel
theorem dL_balanced_96 : decode cL_balanced 96 = .ok (.if_icmp .ne 8, 3) := by decide +kernel
theorem dL_balanced_99 : decode cL_balanced 99 = .ok (.bipush 89, 2) := by decide +kernel
theorem dL_balanced_101 : decode cL_balanced 101 = .ok (.goto 6, 3) := by decide +kernel
theorem dL_balanced_104 : decode cL_balanced 104 = .ok (.sipush 999, 3) := by decide +kernel
theorem dL_balanced_107 : decode cL_balanced 107 = .ok (.istore_n 3, 1) := by decide +kernel
theorem dL_balanced_108 : decode cL_balanced 108 = .ok (.iload_n 1, 1) := by decide +kernel
theorem dL_balanced_109 : decode cL_balanced 109 = .ok (.ifCond .eq 8, 3) := by decide +kernel
theorem dL_balanced_112 : decode cL_balanced 112 = .ok (.iload_n 1, 1) := by decide +kernel
theorem dL_balanced_113 : decode cL_balanced 113 = .ok (.iload_n 3, 1) := by decide +kernel
theorem dL_balanced_114 : decode cL_balanced 114 = .ok (.if_icmp .lt 7, 3) := by decide +kernel
theorem dL_balanced_117 : decode cL_balanced 117 = .ok (.iconst 1, 1) := by decide +kernel
theorem dL_balanced_118 : decode cL_balanced 118 = .ok (.goto 4, 3) := by decide +kernel
theorem dL_balanced_121 : decode cL_balanced 121 = .ok (.iconst 0, 1) := by decide +kernel
theorem dL_balanced_122 : decode cL_balanced 122 = .ok (.ireturn, 1) := by decide +kernel
theorem dL_build_0 : decode cL_build 0 = .ok (.iconst 0, 1) := by decide +kernel
theorem dL_build_1 : decode cL_build 1 = .ok (.istore_n 1, 1) := by decide +kernel
theorem dL_build_2 : decode cL_build 2 = .ok (.iload_n 1, 1) := by decide +kernel
theorem dL_build_3 : decode cL_build 3 = .ok (.aload_n 0, 1) := by decide +kernel
theorem dL_build_4 : decode cL_build 4 = .ok (.bipush 63, 2) := by decide +kernel
theorem dL_build_6 : decode cL_build 6 = .ok (.iaload, 1) := by decide +kernel
theorem dL_build_7 : decode cL_build 7 = .ok (.if_icmp .ge 117, 3) := by decide +kernel
theorem dL_build_10 : decode cL_build 10 = .ok (.aload_n 0, 1) := by decide +kernel
theorem dL_build_11 : decode cL_build 11 = .ok (.bipush 63, 2) := by decide +kernel
theorem dL_build_13 : decode cL_build 13 = .ok (.iaload, 1) := by decide +kernel
theorem dL_build_14 : decode cL_build 14 = .ok (.istore_n 2, 1) := by decide +kernel
theorem dL_build_15 : decode cL_build 15 = .ok (.iload_n 1, 1) := by decide +kernel
theorem dL_build_16 : decode cL_build 16 = .ok (.istore_n 3, 1) := by decide +kernel
theorem dL_build_17 : decode cL_build 17 = .ok (.iconst 0, 1) := by decide +kernel
theorem dL_build_18 : decode cL_build 18 = .ok (.istore 4, 2) := by decide +kernel
theorem dL_build_20 : decode cL_build 20 = .ok (.iload_n 2, 1) := by decide +kernel
theorem dL_build_21 : decode cL_build 21 = .ok (.iconst 1, 1) := by decide +kernel
theorem dL_build_22 : decode cL_build 22 = .ok (.if_icmp .le 69, 3) := by decide +kernel
theorem dL_build_25 : decode cL_build 25 = .ok (.iload_n 3, 1) := by decide +kernel
theorem dL_build_26 : decode cL_build 26 = .ok (.iload_n 2, 1) := by decide +kernel
theorem dL_build_27 : decode cL_build 27 = .ok (.iconst 1, 1) := by decide +kernel
theorem dL_build_28 : decode cL_build 28 = .ok (.iadd, 1) := by decide +kernel
theorem dL_build_29 : decode cL_build 29 = .ok (.iconst 2, 1) := by decide +kernel
theorem dL_build_30 : decode cL_build 30 = .ok (.idiv, 1) := by decide +kernel
theorem dL_build_31 : decode cL_build 31 = .ok (.iconst 1, 1) := by decide +kernel
theorem dL_build_32 : decode cL_build 32 = .ok (.isub, 1) := by decide +kernel
theorem dL_build_33 : decode cL_build 33 = .ok (.if_icmp .eq 58, 3) := by decide +kernel
theorem dL_build_36 : decode cL_build 36 = .ok (.iload_n 2, 1) := by decide +kernel
theorem dL_build_37 : decode cL_build 37 = .ok (.iconst 1, 1) := by decide +kernel
theorem dL_build_38 : decode cL_build 38 = .ok (.iadd, 1) := by decide +kernel
theorem dL_build_39 : decode cL_build 39 = .ok (.iconst 2, 1) := by decide +kernel
theorem dL_build_40 : decode cL_build 40 = .ok (.idiv, 1) := by decide +kernel
theorem dL_build_41 : decode cL_build 41 = .ok (.istore 5, 2) := by decide +kernel
theorem dL_build_43 : decode cL_build 43 = .ok (.iload_n 3, 1) := by decide +kernel
theorem dL_build_44 : decode cL_build 44 = .ok (.iload 5, 2) := by decide +kernel
theorem dL_build_46 : decode cL_build 46 = .ok (.if_icmp .ge 7, 3) := by decide +kernel
theorem dL_build_49 : decode cL_build 49 = .ok (.iconst 1, 1) := by decide +kernel
theorem dL_build_50 : decode cL_build 50 = .ok (.goto 4, 3) := by decide +kernel
theorem dL_build_53 : decode cL_build 53 = .ok (.iconst 0, 1) := by decide +kernel
theorem dL_build_54 : decode cL_build 54 = .ok (.istore 6, 2) := by decide +kernel
theorem dL_build_56 : decode cL_build 56 = .ok (.iload_n 3, 1) := by decide +kernel
theorem dL_build_57 : decode cL_build 57 = .ok (.iload 6, 2) := by decide +kernel
theorem dL_build_59 : decode cL_build 59 = .ok (.ifCond .eq 7, 3) := by decide +kernel
theorem dL_build_62 : decode cL_build 62 = .ok (.iconst 0, 1) := by decide +kernel
theorem dL_build_63 : decode cL_build 63 = .ok (.goto 5, 3) := by decide +kernel
theorem dL_build_66 : decode cL_build 66 = .ok (.iload 5, 2) := by decide +kernel
theorem dL_build_68 : decode cL_build 68 = .ok (.isub, 1) := by decide +kernel
theorem dL_build_69 : decode cL_build 69 = .ok (.istore_n 3, 1) := by decide +kernel
theorem dL_build_70 : decode cL_build 70 = .ok (.iload 6, 2) := by decide +kernel
theorem dL_build_72 : decode cL_build 72 = .ok (.ifCond .eq 8, 3) := by decide +kernel
theorem dL_build_75 : decode cL_build 75 = .ok (.iload 5, 2) := by decide +kernel
theorem dL_build_77 : decode cL_build 77 = .ok (.goto 7, 3) := by decide +kernel
theorem dL_build_80 : decode cL_build 80 = .ok (.iload_n 2, 1) := by decide +kernel
theorem dL_build_81 : decode cL_build 81 = .ok (.iload 5, 2) := by decide +kernel
theorem dL_build_83 : decode cL_build 83 = .ok (.isub, 1) := by decide +kernel
theorem dL_build_84 : decode cL_build 84 = .ok (.istore_n 2, 1) := by decide +kernel
theorem dL_build_85 : decode cL_build 85 = .ok (.iinc 4 1, 3) := by decide +kernel
theorem dL_build_88 : decode cL_build 88 = .ok (.goto (-68), 3) := by decide +kernel
theorem dL_build_91 : decode cL_build 91 = .ok (.aload_n 0, 1) := by decide +kernel
theorem dL_build_92 : decode cL_build 92 = .ok (.iload_n 1, 1) := by decide +kernel
theorem dL_build_93 : decode cL_build 93 = .ok (.aload_n 0, 1) := by decide +kernel
theorem dL_build_94 : decode cL_build 94 = .ok (.iload_n 1, 1) := by decide +kernel
theorem dL_build_95 : decode cL_build 95 = .ok (.invokestatic 10, 3) := by decide +kernel
theorem dL_build_98 : decode cL_build 98 = .ok (.iload_n 1, 1) := by decide +kernel
theorem dL_build_99 : decode cL_build 99 = .ok (.aload_n 0, 1) := by decide +kernel
theorem dL_build_100 : decode cL_build 100 = .ok (.bipush 63, 2) := by decide +kernel
theorem dL_build_102 : decode cL_build 102 = .ok (.iaload, 1) := by decide +kernel
theorem dL_build_103 : decode cL_build 103 = .ok (.iconst 1, 1) := by decide +kernel
theorem dL_build_104 : decode cL_build 104 = .ok (.isub, 1) := by decide +kernel
theorem dL_build_105 : decode cL_build 105 = .ok (.if_icmp .ne 7, 3) := by decide +kernel
theorem dL_build_108 : decode cL_build 108 = .ok (.iconst 0, 1) := by decide +kernel
theorem dL_build_109 : decode cL_build 109 = .ok (.goto 7, 3) := by decide +kernel
theorem dL_build_112 : decode cL_build 112 = .ok (.iload 4, 2) := by decide +kernel
theorem dL_build_114 : decode cL_build 114 = .ok (.iconst 5, 1) := by decide +kernel
theorem dL_build_115 : decode cL_build 115 = .ok (.ishl, 1) := by decide +kernel
theorem dL_build_116 : decode cL_build 116 = .ok (.ior, 1) := by decide +kernel
theorem dL_build_117 : decode cL_build 117 = .ok (.iastore, 1) := by decide +kernel
theorem dL_build_118 : decode cL_build 118 = .ok (.iinc 1 1, 3) := by decide +kernel
theorem dL_build_121 : decode cL_build 121 = .ok (.goto (-119), 3) := by decide +kernel
theorem dL_build_124 : decode cL_build 124 = .ok (.return_, 1) := by decide +kernel
theorem dL_packed_0 : decode cL_packed 0 = .ok (.bipush 64, 2) := by decide +kernel
theorem dL_packed_2 : decode cL_packed 2 = .ok (.newarray .int, 2) := by decide +kernel
theorem dL_packed_4 : decode cL_packed 4 = .ok (.astore_n 2, 1) := by decide +kernel
theorem dL_packed_5 : decode cL_packed 5 = .ok (.iconst 0, 1) := by decide +kernel
theorem dL_packed_6 : decode cL_packed 6 = .ok (.istore_n 3, 1) := by decide +kernel
theorem dL_packed_7 : decode cL_packed 7 = .ok (.iload_n 3, 1) := by decide +kernel
theorem dL_packed_8 : decode cL_packed 8 = .ok (.iload_n 0, 1) := by decide +kernel
theorem dL_packed_9 : decode cL_packed 9 = .ok (.if_icmp .ge 38, 3) := by decide +kernel
theorem dL_packed_12 : decode cL_packed 12 = .ok (.aload_n 2, 1) := by decide +kernel
theorem dL_packed_13 : decode cL_packed 13 = .ok (.aload_n 2, 1) := by decide +kernel
theorem dL_packed_14 : decode cL_packed 14 = .ok (.bipush 63, 2) := by decide +kernel
theorem dL_packed_16 : decode cL_packed 16 = .ok (.iaload, 1) := by decide +kernel
theorem dL_packed_17 : decode cL_packed 17 = .ok (.iload_n 0, 1) := by decide +kernel
theorem dL_packed_18 : decode cL_packed 18 = .ok (.iload_n 3, 1) := by decide +kernel
theorem dL_packed_19 : decode cL_packed 19 = .ok (.isub, 1) := by decide +kernel
theorem dL_packed_20 : decode cL_packed 20 = .ok (.iload_n 1, 1) := by decide +kernel
theorem dL_packed_21 : decode cL_packed 21 = .ok (.if_icmp .ge 9, 3) := by decide +kernel
theorem dL_packed_24 : decode cL_packed 24 = .ok (.iload_n 0, 1) := by decide +kernel
theorem dL_packed_25 : decode cL_packed 25 = .ok (.iload_n 3, 1) := by decide +kernel
theorem dL_packed_26 : decode cL_packed 26 = .ok (.isub, 1) := by decide +kernel
theorem dL_packed_27 : decode cL_packed 27 = .ok (.goto 4, 3) := by decide +kernel
theorem dL_packed_30 : decode cL_packed 30 = .ok (.iload_n 1, 1) := by decide +kernel
theorem dL_packed_31 : decode cL_packed 31 = .ok (.iastore, 1) := by decide +kernel
theorem dL_packed_32 : decode cL_packed 32 = .ok (.aload_n 2, 1) := by decide +kernel
theorem dL_packed_33 : decode cL_packed 33 = .ok (.bipush 63, 2) := by decide +kernel
theorem dL_packed_35 : decode cL_packed 35 = .ok (.dup2, 1) := by decide +kernel
theorem dL_packed_36 : decode cL_packed 36 = .ok (.iaload, 1) := by decide +kernel
theorem dL_packed_37 : decode cL_packed 37 = .ok (.iconst 1, 1) := by decide +kernel
theorem dL_packed_38 : decode cL_packed 38 = .ok (.iadd, 1) := by decide +kernel
theorem dL_packed_39 : decode cL_packed 39 = .ok (.iastore, 1) := by decide +kernel
theorem dL_packed_40 : decode cL_packed 40 = .ok (.iload_n 3, 1) := by decide +kernel
theorem dL_packed_41 : decode cL_packed 41 = .ok (.iload_n 1, 1) := by decide +kernel
theorem dL_packed_42 : decode cL_packed 42 = .ok (.iadd, 1) := by decide +kernel
theorem dL_packed_43 : decode cL_packed 43 = .ok (.istore_n 3, 1) := by decide +kernel
theorem dL_packed_44 : decode cL_packed 44 = .ok (.goto (-37), 3) := by decide +kernel
theorem dL_packed_47 : decode cL_packed 47 = .ok (.aload_n 2, 1) := by decide +kernel
theorem dL_packed_48 : decode cL_packed 48 = .ok (.invokestatic 38, 3) := by decide +kernel
theorem dL_packed_51 : decode cL_packed 51 = .ok (.aload_n 2, 1) := by decide +kernel
theorem dL_packed_52 : decode cL_packed 52 = .ok (.areturn, 1) := by decide +kernel
theorem dL_marks_0 : decode cL_marks 0 = .ok (.iconst 3, 1) := by decide +kernel
theorem dL_marks_1 : decode cL_marks 1 = .ok (.istore 4, 2) := by decide +kernel
theorem dL_marks_3 : decode cL_marks 3 = .ok (.iload 4, 2) := by decide +kernel
theorem dL_marks_5 : decode cL_marks 5 = .ok (.bipush 7, 2) := by decide +kernel
theorem dL_marks_7 : decode cL_marks 7 = .ok (.if_icmp .ge 68, 3) := by decide +kernel
theorem dL_marks_10 : decode cL_marks 10 = .ok (.aload_n 3, 1) := by decide +kernel
