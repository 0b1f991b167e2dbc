theorem dX6_init_45 : decode cX6_init 45 = .ok (.sipush 402, 3) := by decide +kernel
theorem dX6_init_48 : decode cX6_init 48 = .ok (.newarray .int, 2) := by decide +kernel
theorem dX6_init_50 : decode cX6_init 50 = .ok (.putfield 26, 3) := by decide +kernel
theorem dX6_init_53 : decode cX6_init 53 = .ok (.aload_n 0, 1) := by decide +kernel
theorem dX6_init_54 : decode cX6_init 54 = .ok (.sipush 402, 3) := by decide +kernel
theorem dX6_init_57 : decode cX6_init 57 = .ok (.newarray .int, 2) := by decide +kernel
theorem dX6_init_59 : decode cX6_init 59 = .ok (.putfield 29, 3) := by decide +kernel
theorem dX6_init_62 : decode cX6_init 62 = .ok (.aload_n 0, 1) := by decide +kernel
theorem dX6_init_63 : decode cX6_init 63 = .ok (.sipush 402, 3) := by decide +kernel
theorem dX6_init_66 : decode cX6_init 66 = .ok (.newarray .int, 2) := by decide +kernel
theorem dX6_init_68 : decode cX6_init 68 = .ok (.putfield 32, 3) := by decide +kernel
theorem dX6_init_71 : decode cX6_init 71 = .ok (.aload_n 0, 1) := by decide +kernel
theorem dX6_init_72 : decode cX6_init 72 = .ok (.sipush 402, 3) := by decide +kernel
theorem dX6_init_75 : decode cX6_init 75 = .ok (.newarray .int, 2) := by decide +kernel
theorem dX6_init_77 : decode cX6_init 77 = .ok (.putfield 35, 3) := by decide +kernel
theorem dX6_init_80 : decode cX6_init 80 = .ok (.aload_n 0, 1) := by decide +kernel
theorem dX6_init_81 : decode cX6_init 81 = .ok (.sipush 402, 3) := by decide +kernel
theorem dX6_init_84 : decode cX6_init 84 = .ok (.newarray .int, 2) := by decide +kernel
theorem dX6_init_86 : decode cX6_init 86 = .ok (.putfield 38, 3) := by decide +kernel
theorem dX6_init_89 : decode cX6_init 89 = .ok (.aload_n 0, 1) := by decide +kernel
theorem dX6_init_90 : decode cX6_init 90 = .ok (.getfield 13, 3) := by decide +kernel
theorem dX6_init_93 : decode cX6_init 93 = .ok (.iconst 0, 1) := by decide +kernel
theorem dX6_init_94 : decode cX6_init 94 = .ok (.bipush 8, 2) := by decide +kernel
theorem dX6_init_96 : decode cX6_init 96 = .ok (.iastore, 1) := by decide +kernel
theorem dX6_init_97 : decode cX6_init 97 = .ok (.aload_n 0, 1) := by decide +kernel
theorem dX6_init_98 : decode cX6_init 98 = .ok (.getfield 13, 3) := by decide +kernel
theorem dX6_init_101 : decode cX6_init 101 = .ok (.iconst 1, 1) := by decide +kernel
theorem dX6_init_102 : decode cX6_init 102 = .ok (.iconst 1, 1) := by decide +kernel
theorem dX6_init_103 : decode cX6_init 103 = .ok (.iastore, 1) := by decide +kernel
theorem dX6_init_104 : decode cX6_init 104 = .ok (.iconst 0, 1) := by decide +kernel
theorem dX6_init_105 : decode cX6_init 105 = .ok (.istore_n 1, 1) := by decide +kernel
theorem dX6_init_106 : decode cX6_init 106 = .ok (.iload_n 1, 1) := by decide +kernel
theorem dX6_init_107 : decode cX6_init 107 = .ok (.iconst 4, 1) := by decide +kernel
theorem dX6_init_108 : decode cX6_init 108 = .ok (.if_icmp .ge 19, 3) := by decide +kernel
theorem dX6_init_111 : decode cX6_init 111 = .ok (.aload_n 0, 1) := by decide +kernel
theorem dX6_init_112 : decode cX6_init 112 = .ok (.getfield 13, 3) := by decide +kernel
theorem dX6_init_115 : decode cX6_init 115 = .ok (.iconst 4, 1) := by decide +kernel
theorem dX6_init_116 : decode cX6_init 116 = .ok (.iload_n 1, 1) := by decide +kernel
theorem dX6_init_117 : decode cX6_init 117 = .ok (.iadd, 1) := by decide +kernel
theorem dX6_init_118 : decode cX6_init 118 = .ok (.bipush (-5), 2) := by decide +kernel
theorem dX6_init_120 : decode cX6_init 120 = .ok (.iastore, 1) := by decide +kernel
theorem dX6_init_121 : decode cX6_init 121 = .ok (.iinc 1 1, 3) := by decide +kernel
theorem dX6_init_124 : decode cX6_init 124 = .ok (.goto (-18), 3) := by decide +kernel
theorem dX6_init_127 : decode cX6_init 127 = .ok (.return_, 1) := by decide +kernel
theorem dX6_within_0 : decode cX6_within 0 = .ok (.iload_n 0, 1) := by decide +kernel
theorem dX6_within_1 : decode cX6_within 1 = .ok (.iload_n 1, 1) := by decide +kernel
theorem dX6_within_2 : decode cX6_within 2 = .ok (.if_icmp .lt 12, 3) := by decide +kernel
theorem dX6_within_5 : decode cX6_within 5 = .ok (.iload_n 0, 1) := by decide +kernel
theorem dX6_within_6 : decode cX6_within 6 = .ok (.iload_n 2, 1) := by decide +kernel
theorem dX6_within_7 : decode cX6_within 7 = .ok (.if_icmp .gt 7, 3) := by decide +kernel
theorem dX6_within_10 : decode cX6_within 10 = .ok (.iconst 1, 1) := by decide +kernel
theorem dX6_within_11 : decode cX6_within 11 = .ok (.goto 4, 3) := by decide +kernel
theorem dX6_within_14 : decode cX6_within 14 = .ok (.iconst 0, 1) := by decide +kernel
theorem dX6_within_15 : decode cX6_within 15 = .ok (.ireturn, 1) := by decide +kernel
theorem dX6_record_0 : decode cX6_record 0 = .ok (.aload_n 0, 1) := by decide +kernel
theorem dX6_record_1 : decode cX6_record 1 = .ok (.getfield 41, 3) := by decide +kernel
theorem dX6_record_4 : decode cX6_record 4 = .ok (.bipush 6, 2) := by decide +kernel
theorem dX6_record_6 : decode cX6_record 6 = .ok (.if_icmp .ne 44, 3) := by decide +kernel
theorem dX6_record_9 : decode cX6_record 9 = .ok (.iconst 0, 1) := by decide +kernel
theorem dX6_record_10 : decode cX6_record 10 = .ok (.istore_n 1, 1) := by decide +kernel
theorem dX6_record_11 : decode cX6_record 11 = .ok (.iload_n 1, 1) := by decide +kernel
theorem dX6_record_12 : decode cX6_record 12 = .ok (.sipush 30090, 3) := by decide +kernel
theorem dX6_record_15 : decode cX6_record 15 = .ok (.if_icmp .ge 25, 3) := by decide +kernel
theorem dX6_record_18 : decode cX6_record 18 = .ok (.aload_n 0, 1) := by decide +kernel
theorem dX6_record_19 : decode cX6_record 19 = .ok (.getfield 17, 3) := by decide +kernel
theorem dX6_record_22 : decode cX6_record 22 = .ok (.iload_n 1, 1) := by decide +kernel
theorem dX6_record_23 : decode cX6_record 23 = .ok (.aload_n 0, 1) := by decide +kernel
theorem dX6_record_24 : decode cX6_record 24 = .ok (.getfield 17, 3) := by decide +kernel
theorem dX6_record_27 : decode cX6_record 27 = .ok (.iload_n 1, 1) := by decide +kernel
theorem dX6_record_28 : decode cX6_record 28 = .ok (.sipush 6018, 3) := by decide +kernel
theorem dX6_record_31 : decode cX6_record 31 = .ok (.iadd, 1) := by decide +kernel
theorem dX6_record_32 : decode cX6_record 32 = .ok (.iaload, 1) := by decide +kernel
theorem dX6_record_33 : decode cX6_record 33 = .ok (.iastore, 1) := by decide +kernel
theorem dX6_record_34 : decode cX6_record 34 = .ok (.iinc 1 1, 3) := by decide +kernel
theorem dX6_record_37 : decode cX6_record 37 = .ok (.goto (-26), 3) := by decide +kernel
theorem dX6_record_40 : decode cX6_record 40 = .ok (.aload_n 0, 1) := by decide +kernel
theorem dX6_record_41 : decode cX6_record 41 = .ok (.dup, 1) := by decide +kernel
theorem dX6_record_42 : decode cX6_record 42 = .ok (.getfield 41, 3) := by decide +kernel
theorem dX6_record_45 : decode cX6_record 45 = .ok (.iconst 1, 1) := by decide +kernel
theorem dX6_record_46 : decode cX6_record 46 = .ok (.isub, 1) := by decide +kernel
theorem dX6_record_47 : decode cX6_record 47 = .ok (.putfield 41, 3) := by decide +kernel
theorem dX6_record_50 : decode cX6_record 50 = .ok (.iconst 0, 1) := by decide +kernel
theorem dX6_record_51 : decode cX6_record 51 = .ok (.istore_n 1, 1) := by decide +kernel
theorem dX6_record_52 : decode cX6_record 52 = .ok (.iload_n 1, 1) := by decide +kernel
theorem dX6_record_53 : decode cX6_record 53 = .ok (.sipush 6010, 3) := by decide +kernel
theorem dX6_record_56 : decode cX6_record 56 = .ok (.if_icmp .ge 30, 3) := by decide +kernel
theorem dX6_record_59 : decode cX6_record 59 = .ok (.aload_n 0, 1) := by decide +kernel
theorem dX6_record_60 : decode cX6_record 60 = .ok (.getfield 17, 3) := by decide +kernel
theorem dX6_record_63 : decode cX6_record 63 = .ok (.aload_n 0, 1) := by decide +kernel
theorem dX6_record_64 : decode cX6_record 64 = .ok (.getfield 41, 3) := by decide +kernel
theorem dX6_record_67 : decode cX6_record 67 = .ok (.sipush 6018, 3) := by decide +kernel
theorem dX6_record_70 : decode cX6_record 70 = .ok (.imul, 1) := by decide +kernel
theorem dX6_record_71 : decode cX6_record 71 = .ok (.iload_n 1, 1) := by decide +kernel
theorem dX6_record_72 : decode cX6_record 72 = .ok (.iadd, 1) := by decide +kernel
theorem dX6_record_73 : decode cX6_record 73 = .ok (.aload_n 0, 1) := by decide +kernel
theorem dX6_record_74 : decode cX6_record 74 = .ok (.getfield 7, 3) := by decide +kernel
theorem dX6_record_77 : decode cX6_record 77 = .ok (.iload_n 1, 1) := by decide +kernel
theorem dX6_record_78 : decode cX6_record 78 = .ok (.iaload, 1) := by decide +kernel
theorem dX6_record_79 : decode cX6_record 79 = .ok (.iastore, 1) := by decide +kernel
theorem dX6_record_80 : decode cX6_record 80 = .ok (.iinc 1 1, 3) := by decide +kernel
theorem dX6_record_83 : decode cX6_record 83 = .ok (.goto (-31), 3) := by decide +kernel
theorem dX6_record_86 : decode cX6_record 86 = .ok (.iconst 0, 1) := by decide +kernel
theorem dX6_record_87 : decode cX6_record 87 = .ok (.istore_n 1, 1) := by decide +kernel
theorem dX6_record_88 : decode cX6_record 88 = .ok (.iload_n 1, 1) := by decide +kernel
theorem dX6_record_89 : decode cX6_record 89 = .ok (.bipush 8, 2) := by decide +kernel
theorem dX6_record_91 : decode cX6_record 91 = .ok (.if_icmp .ge 34, 3) := by decide +kernel
theorem dX6_record_94 : decode cX6_record 94 = .ok (.aload_n 0, 1) := by decide +kernel
theorem dX6_record_95 : decode cX6_record 95 = .ok (.getfield 17, 3) := by decide +kernel
theorem dX6_record_98 : decode cX6_record 98 = .ok (.aload_n 0, 1) := by decide +kernel
theorem dX6_record_99 : decode cX6_record 99 = .ok (.getfield 41, 3) := by decide +kernel
theorem dX6_record_102 : decode cX6_record 102 = .ok (.sipush 6018, 3) := by decide +kernel
theorem dX6_record_105 : decode cX6_record 105 = .ok (.imul, 1) := by decide +kernel
theorem dX6_record_106 : decode cX6_record 106 = .ok (.sipush 6010, 3) := by decide +kernel
theorem dX6_record_109 : decode cX6_record 109 = .ok (.iadd, 1) := by decide +kernel
theorem dX6_record_110 : decode cX6_record 110 = .ok (.iload_n 1, 1) := by decide +kernel
theorem dX6_record_111 : decode cX6_record 111 = .ok (.iadd, 1) := by decide +kernel
theorem dX6_record_112 : decode cX6_record 112 = .ok (.aload_n 0, 1) := by decide +kernel
theorem dX6_record_113 : decode cX6_record 113 = .ok (.getfield 13, 3) := by decide +kernel
theorem dX6_record_116 : decode cX6_record 116 = .ok (.iload_n 1, 1) := by decide +kernel
theorem dX6_record_117 : decode cX6_record 117 = .ok (.iaload, 1) := by decide +kernel
theorem dX6_record_118 : decode cX6_record 118 = .ok (.iastore, 1) := by decide +kernel
theorem dX6_record_119 : decode cX6_record 119 = .ok (.iinc 1 1, 3) := by decide +kernel
theorem dX6_record_122 : decode cX6_record 122 = .ok (.goto (-34), 3) := by decide +kernel
theorem dX6_record_125 : decode cX6_record 125 = .ok (.aload_n 0, 1) := by decide +kernel
theorem dX6_record_126 : decode cX6_record 126 = .ok (.dup, 1) := by decide +kernel
theorem dX6_record_127 : decode cX6_record 127 = .ok (.getfield 41, 3) := by decide +kernel
theorem dX6_record_130 : decode cX6_record 130 = .ok (.iconst 1, 1) := by decide +kernel
theorem dX6_record_131 : decode cX6_record 131 = .ok (.iadd, 1) := by decide +kernel
theorem dX6_record_132 : decode cX6_record 132 = .ok (.putfield 41, 3) := by decide +kernel
theorem dX6_record_135 : decode cX6_record 135 = .ok (.return_, 1) := by decide +kernel
theorem dX6_many_0 : decode cX6_many 0 = .ok (.aload_n 0, 1) := by decide +kernel
theorem dX6_many_1 : decode cX6_many 1 = .ok (.getfield 7, 3) := by decide +kernel
theorem dX6_many_4 : decode cX6_many 4 = .ok (.sipush 1202, 3) := by decide +kernel
theorem dX6_many_7 : decode cX6_many 7 = .ok (.iload_n 1, 1) := by decide +kernel
theorem dX6_many_8 : decode cX6_many 8 = .ok (.imul, 1) := by decide +kernel
theorem dX6_many_9 : decode cX6_many 9 = .ok (.iconst 0, 1) := by decide +kernel
theorem dX6_many_10 : decode cX6_many 10 = .ok (.iadd, 1) := by decide +kernel
theorem dX6_many_11 : decode cX6_many 11 = .ok (.iaload, 1) := by decide +kernel
theorem dX6_many_12 : decode cX6_many 12 = .ok (.ireturn, 1) := by decide +kernel
theorem dX6_lengthOf_0 : decode cX6_lengthOf 0 = .ok (.aload_n 0, 1) := by decide +kernel
theorem dX6_lengthOf_1 : decode cX6_lengthOf 1 = .ok (.getfield 7, 3) := by decide +kernel
theorem dX6_lengthOf_4 : decode cX6_lengthOf 4 = .ok (.sipush 1202, 3) := by decide +kernel
theorem dX6_lengthOf_7 : decode cX6_lengthOf 7 = .ok (.iload_n 1, 1) := by decide +kernel
theorem dX6_lengthOf_8 : decode cX6_lengthOf 8 = .ok (.imul, 1) := by decide +kernel
theorem dX6_lengthOf_9 : decode cX6_lengthOf 9 = .ok (.iconst 1, 1) := by decide +kernel
theorem dX6_lengthOf_10 : decode cX6_lengthOf 10 = .ok (.iadd, 1) := by decide +kernel
theorem dX6_lengthOf_11 : decode cX6_lengthOf 11 = .ok (.iaload, 1) := by decide +kernel
theorem dX6_lengthOf_12 : decode cX6_lengthOf 12 = .ok (.ireturn, 1) := by decide +kernel
theorem dX6_sizeOf_0 : decode cX6_sizeOf 0 = .ok (.aload_n 0, 1) := by decide +kernel
theorem dX6_sizeOf_1 : decode cX6_sizeOf 1 = .ok (.getfield 7, 3) := by decide +kernel
theorem dX6_sizeOf_4 : decode cX6_sizeOf 4 = .ok (.sipush 1202, 3) := by decide +kernel
theorem dX6_sizeOf_7 : decode cX6_sizeOf 7 = .ok (.iload_n 1, 1) := by decide +kernel
theorem dX6_sizeOf_8 : decode cX6_sizeOf 8 = .ok (.imul, 1) := by decide +kernel
theorem dX6_sizeOf_9 : decode cX6_sizeOf 9 = .ok (.iconst 2, 1) := by decide +kernel
theorem dX6_sizeOf_10 : decode cX6_sizeOf 10 = .ok (.iadd, 1) := by decide +kernel
theorem dX6_sizeOf_11 : decode cX6_sizeOf 11 = .ok (.iload_n 2, 1) := by decide +kernel
theorem dX6_sizeOf_12 : decode cX6_sizeOf 12 = .ok (.iadd, 1) := by decide +kernel
theorem dX6_sizeOf_13 : decode cX6_sizeOf 13 = .ok (.iaload, 1) := by decide +kernel
theorem dX6_sizeOf_14 : decode cX6_sizeOf 14 = .ok (.ireturn, 1) := by decide +kernel
theorem dX6_levelOf_0 : decode cX6_levelOf 0 = .ok (.aload_n 0, 1) := by decide +kernel
theorem dX6_levelOf_1 : decode cX6_levelOf 1 = .ok (.getfield 7, 3) := by decide +kernel
theorem dX6_levelOf_4 : decode cX6_levelOf 4 = .ok (.sipush 1202, 3) := by decide +kernel
theorem dX6_levelOf_7 : decode cX6_levelOf 7 = .ok (.iload_n 1, 1) := by decide +kernel
theorem dX6_levelOf_8 : decode cX6_levelOf 8 = .ok (.imul, 1) := by decide +kernel
theorem dX6_levelOf_9 : decode cX6_levelOf 9 = .ok (.sipush 402, 3) := by decide +kernel
theorem dX6_levelOf_12 : decode cX6_levelOf 12 = .ok (.iadd, 1) := by decide +kernel
theorem dX6_levelOf_13 : decode cX6_levelOf 13 = .ok (.iload_n 2, 1) := by decide +kernel
theorem dX6_levelOf_14 : decode cX6_levelOf 14 = .ok (.iadd, 1) := by decide +kernel
theorem dX6_levelOf_15 : decode cX6_levelOf 15 = .ok (.iaload, 1) := by decide +kernel
theorem dX6_levelOf_16 : decode cX6_levelOf 16 = .ok (.ireturn, 1) := by decide +kernel
theorem dX6_characterOf_0 : decode cX6_characterOf 0 = .ok (.aload_n 0, 1) := by decide +kernel
theorem dX6_characterOf_1 : decode cX6_characterOf 1 = .ok (.getfield 7, 3) := by decide +kernel
theorem dX6_characterOf_4 : decode cX6_characterOf 4 = .ok (.sipush 1202, 3) := by decide +kernel
theorem dX6_characterOf_7 : decode cX6_characterOf 7 = .ok (.iload_n 1, 1) := by decide +kernel
theorem dX6_characterOf_8 : decode cX6_characterOf 8 = .ok (.imul, 1) := by decide +kernel
theorem dX6_characterOf_9 : decode cX6_characterOf 9 = .ok (.sipush 802, 3) := by decide +kernel
theorem dX6_characterOf_12 : decode cX6_characterOf 12 = .ok (.iadd, 1) := by decide +kernel
theorem dX6_characterOf_13 : decode cX6_characterOf 13 = .ok (.iload_n 2, 1) := by decide +kernel
theorem dX6_characterOf_14 : decode cX6_characterOf 14 = .ok (.iadd, 1) := by decide +kernel
theorem dX6_characterOf_15 : decode cX6_characterOf 15 = .ok (.iaload, 1) := by decide +kernel
theorem dX6_characterOf_16 : decode cX6_characterOf 16 = .ok (.ireturn, 1) := by decide +kernel
theorem dX6_empties_0 : decode cX6_empties 0 = .ok (.aload_n 0, 1) := by decide +kernel
theorem dX6_empties_1 : decode cX6_empties 1 = .ok (.getfield 7, 3) := by decide +kernel
theorem dX6_empties_4 : decode cX6_empties 4 = .ok (.sipush 1202, 3) := by decide +kernel
theorem dX6_empties_7 : decode cX6_empties 7 = .ok (.iload_n 1, 1) := by decide +kernel
theorem dX6_empties_8 : decode cX6_empties 8 = .ok (.imul, 1) := by decide +kernel
theorem dX6_empties_9 : decode cX6_empties 9 = .ok (.iconst 0, 1) := by decide +kernel
theorem dX6_empties_10 : decode cX6_empties 10 = .ok (.iadd, 1) := by decide +kernel
theorem dX6_empties_11 : decode cX6_empties 11 = .ok (.iconst 0, 1) := by decide +kernel
theorem dX6_empties_12 : decode cX6_empties 12 = .ok (.iastore, 1) := by decide +kernel
theorem dX6_empties_13 : decode cX6_empties 13 = .ok (.aload_n 0, 1) := by decide +kernel
theorem dX6_empties_14 : decode cX6_empties 14 = .ok (.getfield 7, 3) := by decide +kernel
theorem dX6_empties_17 : decode cX6_empties 17 = .ok (.sipush 1202, 3) := by decide +kernel
theorem dX6_empties_20 : decode cX6_empties 20 = .ok (.iload_n 1, 1) := by decide +kernel
theorem dX6_empties_21 : decode cX6_empties 21 = .ok (.imul, 1) := by decide +kernel
theorem dX6_empties_22 : decode cX6_empties 22 = .ok (.iconst 1, 1) := by decide +kernel
theorem dX6_empties_23 : decode cX6_empties 23 = .ok (.iadd, 1) := by decide +kernel
theorem dX6_empties_24 : decode cX6_empties 24 = .ok (.iconst 0, 1) := by decide +kernel
theorem dX6_empties_25 : decode cX6_empties 25 = .ok (.iastore, 1) := by decide +kernel
theorem dX6_empties_26 : decode cX6_empties 26 = .ok (.return_, 1) := by decide +kernel
theorem dX6_copies_0 : decode cX6_copies 0 = .ok (.iconst 0, 1) := by decide +kernel
theorem dX6_copies_1 : decode cX6_copies 1 = .ok (.istore_n 3, 1) := by decide +kernel
theorem dX6_copies_2 : decode cX6_copies 2 = .ok (.iload_n 3, 1) := by decide +kernel
theorem dX6_copies_3 : decode cX6_copies 3 = .ok (.sipush 1202, 3) := by decide +kernel
theorem dX6_copies_6 : decode cX6_copies 6 = .ok (.if_icmp .ge 33, 3) := by decide +kernel
theorem dX6_copies_9 : decode cX6_copies 9 = .ok (.aload_n 0, 1) := by decide +kernel
theorem dX6_copies_10 : decode cX6_copies 10 = .ok (.getfield 7, 3) := by decide +kernel
theorem dX6_copies_13 : decode cX6_copies 13 = .ok (.sipush 1202, 3) := by decide +kernel
theorem dX6_copies_16 : decode cX6_copies 16 = .ok (.iload_n 2, 1) := by decide +kernel
theorem dX6_copies_17 : decode cX6_copies 17 = .ok (.imul, 1) := by decide +kernel
theorem dX6_copies_18 : decode cX6_copies 18 = .ok (.iload_n 3, 1) := by decide +kernel
theorem dX6_copies_19 : decode cX6_copies 19 = .ok (.iadd, 1) := by decide +kernel
theorem dX6_copies_20 : decode cX6_copies 20 = .ok (.aload_n 0, 1) := by decide +kernel
theorem dX6_copies_21 : decode cX6_copies 21 = .ok (.getfield 7, 3) := by decide +kernel
theorem dX6_copies_24 : decode cX6_copies 24 = .ok (.sipush 1202, 3) := by decide +kernel
theorem dX6_copies_27 : decode cX6_copies 27 = .ok (.iload_n 1, 1) := by decide +kernel
theorem dX6_copies_28 : decode cX6_copies 28 = .ok (.imul, 1) := by decide +kernel
theorem dX6_copies_29 : decode cX6_copies 29 = .ok (.iload_n 3, 1) := by decide +kernel
theorem dX6_copies_30 : decode cX6_copies 30 = .ok (.iadd, 1) := by decide +kernel
theorem dX6_copies_31 : decode cX6_copies 31 = .ok (.iaload, 1) := by decide +kernel
theorem dX6_copies_32 : decode cX6_copies 32 = .ok (.iastore, 1) := by decide +kernel
theorem dX6_copies_33 : decode cX6_copies 33 = .ok (.iinc 3 1, 3) := by decide +kernel
theorem dX6_copies_36 : decode cX6_copies 36 = .ok (.goto (-34), 3) := by decide +kernel
theorem dX6_copies_39 : decode cX6_copies 39 = .ok (.return_, 1) := by decide +kernel
theorem dX6_addsLeaf_0 : decode cX6_addsLeaf 0 = .ok (.aload_n 0, 1) := by decide +kernel
theorem dX6_addsLeaf_1 : decode cX6_addsLeaf 1 = .ok (.iload_n 1, 1) := by decide +kernel
theorem dX6_addsLeaf_2 : decode cX6_addsLeaf 2 = .ok (.invokevirtual 45, 3) := by decide +kernel
theorem dX6_addsLeaf_5 : decode cX6_addsLeaf 5 = .ok (.istore 4, 2) := by decide +kernel
theorem dX6_addsLeaf_7 : decode cX6_addsLeaf 7 = .ok (.aload_n 0, 1) := by decide +kernel
theorem dX6_addsLeaf_8 : decode cX6_addsLeaf 8 = .ok (.getfield 7, 3) := by decide +kernel
theorem dX6_addsLeaf_11 : decode cX6_addsLeaf 11 = .ok (.sipush 1202, 3) := by decide +kernel
theorem dX6_addsLeaf_14 : decode cX6_addsLeaf 14 = .ok (.iload_n 1, 1) := by decide +kernel
theorem dX6_addsLeaf_15 : decode cX6_addsLeaf 15 = .ok (.imul, 1) := by decide +kernel
theorem dX6_addsLeaf_16 : decode cX6_addsLeaf 16 = .ok (.iconst 2, 1) := by decide +kernel
theorem dX6_addsLeaf_17 : decode cX6_addsLeaf 17 = .ok (.iadd, 1) := by decide +kernel
theorem dX6_addsLeaf_18 : decode cX6_addsLeaf 18 = .ok (.iload 4, 2) := by decide +kernel
theorem dX6_addsLeaf_20 : decode cX6_addsLeaf 20 = .ok (.iadd, 1) := by decide +kernel
theorem dX6_addsLeaf_21 : decode cX6_addsLeaf 21 = .ok (.iload_n 2, 1) := by decide +kernel
theorem dX6_addsLeaf_22 : decode cX6_addsLeaf 22 = .ok (.iastore, 1) := by decide +kernel
theorem dX6_addsLeaf_23 : decode cX6_addsLeaf 23 = .ok (.aload_n 0, 1) := by decide +kernel
theorem dX6_addsLeaf_24 : decode cX6_addsLeaf 24 = .ok (.getfield 7, 3) := by decide +kernel
theorem dX6_addsLeaf_27 : decode cX6_addsLeaf 27 = .ok (.sipush 1202, 3) := by decide +kernel
theorem dX6_addsLeaf_30 : decode cX6_addsLeaf 30 = .ok (.iload_n 1, 1) := by decide +kernel
theorem dX6_addsLeaf_31 : decode cX6_addsLeaf 31 = .ok (.imul, 1) := by decide +kernel
theorem dX6_addsLeaf_32 : decode cX6_addsLeaf 32 = .ok (.sipush 402, 3) := by decide +kernel
theorem dX6_addsLeaf_35 : decode cX6_addsLeaf 35 = .ok (.iadd, 1) := by decide +kernel
theorem dX6_addsLeaf_36 : decode cX6_addsLeaf 36 = .ok (.iload 4, 2) := by decide +kernel
theorem dX6_addsLeaf_38 : decode cX6_addsLeaf 38 = .ok (.iadd, 1) := by decide +kernel
theorem dX6_addsLeaf_39 : decode cX6_addsLeaf 39 = .ok (.iload_n 3, 1) := by decide +kernel
theorem dX6_addsLeaf_40 : decode cX6_addsLeaf 40 = .ok (.iastore, 1) := by decide +kernel
theorem dX6_addsLeaf_41 : decode cX6_addsLeaf 41 = .ok (.aload_n 0, 1) := by decide +kernel
theorem dX6_addsLeaf_42 : decode cX6_addsLeaf 42 = .ok (.getfield 7, 3) := by decide +kernel
theorem dX6_addsLeaf_45 : decode cX6_addsLeaf 45 = .ok (.sipush 1202, 3) := by decide +kernel
theorem dX6_addsLeaf_48 : decode cX6_addsLeaf 48 = .ok (.iload_n 1, 1) := by decide +kernel
theorem dX6_addsLeaf_49 : decode cX6_addsLeaf 49 = .ok (.imul, 1) := by decide +kernel
theorem dX6_addsLeaf_50 : decode cX6_addsLeaf 50 = .ok (.iconst 0, 1) := by decide +kernel
theorem dX6_addsLeaf_51 : decode cX6_addsLeaf 51 = .ok (.iadd, 1) := by decide +kernel
theorem dX6_addsLeaf_52 : decode cX6_addsLeaf 52 = .ok (.dup2, 1) := by decide +kernel
theorem dX6_addsLeaf_53 : decode cX6_addsLeaf 53 = .ok (.iaload, 1) := by decide +kernel
theorem dX6_addsLeaf_54 : decode cX6_addsLeaf 54 = .ok (.iconst 1, 1) := by decide +kernel
theorem dX6_addsLeaf_55 : decode cX6_addsLeaf 55 = .ok (.iadd, 1) := by decide +kernel
theorem dX6_addsLeaf_56 : decode cX6_addsLeaf 56 = .ok (.iastore, 1) := by decide +kernel
theorem dX6_addsLeaf_57 : decode cX6_addsLeaf 57 = .ok (.return_, 1) := by decide +kernel
theorem dX6_addsCharacter_0 : decode cX6_addsCharacter 0 = .ok (.aload_n 0, 1) := by decide +kernel
theorem dX6_addsCharacter_1 : decode cX6_addsCharacter 1 = .ok (.getfield 7, 3) := by decide +kernel
theorem dX6_addsCharacter_4 : decode cX6_addsCharacter 4 = .ok (.sipush 1202, 3) := by decide +kernel
theorem dX6_addsCharacter_7 : decode cX6_addsCharacter 7 = .ok (.iload_n 1, 1) := by decide +kernel
theorem dX6_addsCharacter_8 : decode cX6_addsCharacter 8 = .ok (.imul, 1) := by decide +kernel
theorem dX6_addsCharacter_9 : decode cX6_addsCharacter 9 = .ok (.sipush 802, 3) := by decide +kernel
theorem dX6_addsCharacter_12 : decode cX6_addsCharacter 12 = .ok (.iadd, 1) := by decide +kernel
theorem dX6_addsCharacter_13 : decode cX6_addsCharacter 13 = .ok (.aload_n 0, 1) := by decide +kernel
theorem dX6_addsCharacter_14 : decode cX6_addsCharacter 14 = .ok (.iload_n 1, 1) := by decide +kernel
theorem dX6_addsCharacter_15 : decode cX6_addsCharacter 15 = .ok (.invokevirtual 49, 3) := by decide +kernel
theorem dX6_addsCharacter_18 : decode cX6_addsCharacter 18 = .ok (.iadd, 1) := by decide +kernel
theorem dX6_addsCharacter_19 : decode cX6_addsCharacter 19 = .ok (.iload_n 2, 1) := by decide +kernel
theorem dX6_addsCharacter_20 : decode cX6_addsCharacter 20 = .ok (.iastore, 1) := by decide +kernel
theorem dX6_addsCharacter_21 : decode cX6_addsCharacter 21 = .ok (.aload_n 0, 1) := by decide +kernel
theorem dX6_addsCharacter_22 : decode cX6_addsCharacter 22 = .ok (.getfield 7, 3) := by decide +kernel
theorem dX6_addsCharacter_25 : decode cX6_addsCharacter 25 = .ok (.sipush 1202, 3) := by decide +kernel
theorem dX6_addsCharacter_28 : decode cX6_addsCharacter 28 = .ok (.iload_n 1, 1) := by decide +kernel
theorem dX6_addsCharacter_29 : decode cX6_addsCharacter 29 = .ok (.imul, 1) := by decide +kernel
theorem dX6_addsCharacter_30 : decode cX6_addsCharacter 30 = .ok (.iconst 1, 1) := by decide +kernel
theorem dX6_addsCharacter_31 : decode cX6_addsCharacter 31 = .ok (.iadd, 1) := by decide +kernel
theorem dX6_addsCharacter_32 : decode cX6_addsCharacter 32 = .ok (.dup2, 1) := by decide +kernel
theorem dX6_addsCharacter_33 : decode cX6_addsCharacter 33 = .ok (.iaload, 1) := by decide +kernel
theorem dX6_addsCharacter_34 : decode cX6_addsCharacter 34 = .ok (.iconst 1, 1) := by decide +kernel
theorem dX6_addsCharacter_35 : decode cX6_addsCharacter 35 = .ok (.iadd, 1) := by decide +kernel
theorem dX6_addsCharacter_36 : decode cX6_addsCharacter 36 = .ok (.iastore, 1) := by decide +kernel
theorem dX6_addsCharacter_37 : decode cX6_addsCharacter 37 = .ok (.return_, 1) := by decide +kernel
theorem dX6_addsCharacters_0 : decode cX6_addsCharacters 0 = .ok (.iload_n 3, 1) := by decide +kernel
theorem dX6_addsCharacters_1 : decode cX6_addsCharacters 1 = .ok (.istore 5, 2) := by decide +kernel
theorem dX6_addsCharacters_3 : decode cX6_addsCharacters 3 = .ok (.iload 5, 2) := by decide +kernel
theorem dX6_addsCharacters_5 : decode cX6_addsCharacters 5 = .ok (.iload 4, 2) := by decide +kernel
theorem dX6_addsCharacters_7 : decode cX6_addsCharacters 7 = .ok (.if_icmp .ge 21, 3) := by decide +kernel
theorem dX6_addsCharacters_10 : decode cX6_addsCharacters 10 = .ok (.aload_n 0, 1) := by decide +kernel
theorem dX6_addsCharacters_11 : decode cX6_addsCharacters 11 = .ok (.iload_n 1, 1) := by decide +kernel
theorem dX6_addsCharacters_12 : decode cX6_addsCharacters 12 = .ok (.aload_n 0, 1) := by decide +kernel
theorem dX6_addsCharacters_13 : decode cX6_addsCharacters 13 = .ok (.iload_n 2, 1) := by decide +kernel
theorem dX6_addsCharacters_14 : decode cX6_addsCharacters 14 = .ok (.iload 5, 2) := by decide +kernel
theorem dX6_addsCharacters_16 : decode cX6_addsCharacters 16 = .ok (.invokevirtual 52, 3) := by decide +kernel
theorem dX6_addsCharacters_19 : decode cX6_addsCharacters 19 = .ok (.invokevirtual 56, 3) := by decide +kernel
theorem dX6_addsCharacters_22 : decode cX6_addsCharacters 22 = .ok (.iinc 5 1, 3) := by decide +kernel
theorem dX6_addsCharacters_25 : decode cX6_addsCharacters 25 = .ok (.goto (-22), 3) := by decide +kernel
theorem dX6_addsCharacters_28 : decode cX6_addsCharacters 28 = .ok (.return_, 1) := by decide +kernel
theorem dX6_startOf_0 : decode cX6_startOf 0 = .ok (.iconst 0, 1) := by decide +kernel
theorem dX6_startOf_1 : decode cX6_startOf 1 = .ok (.istore_n 3, 1) := by decide +kernel
theorem dX6_startOf_2 : decode cX6_startOf 2 = .ok (.iconst 0, 1) := by decide +kernel
theorem dX6_startOf_3 : decode cX6_startOf 3 = .ok (.istore 4, 2) := by decide +kernel
theorem dX6_startOf_5 : decode cX6_startOf 5 = .ok (.iload 4, 2) := by decide +kernel
theorem dX6_startOf_7 : decode cX6_startOf 7 = .ok (.iload_n 2, 1) := by decide +kernel
theorem dX6_startOf_8 : decode cX6_startOf 8 = .ok (.if_icmp .ge 19, 3) := by decide +kernel
theorem dX6_startOf_11 : decode cX6_startOf 11 = .ok (.iload_n 3, 1) := by decide +kernel
theorem dX6_startOf_12 : decode cX6_startOf 12 = .ok (.aload_n 0, 1) := by decide +kernel
theorem dX6_startOf_13 : decode cX6_startOf 13 = .ok (.iload_n 1, 1) := by decide +kernel
theorem dX6_startOf_14 : decode cX6_startOf 14 = .ok (.iload 4, 2) := by decide +kernel
theorem dX6_startOf_16 : decode cX6_startOf 16 = .ok (.invokevirtual 60, 3) := by decide +kernel
theorem dX6_startOf_19 : decode cX6_startOf 19 = .ok (.iadd, 1) := by decide +kernel
theorem dX6_startOf_20 : decode cX6_startOf 20 = .ok (.istore_n 3, 1) := by decide +kernel
theorem dX6_startOf_21 : decode cX6_startOf 21 = .ok (.iinc 4 1, 3) := by decide +kernel
theorem dX6_startOf_24 : decode cX6_startOf 24 = .ok (.goto (-19), 3) := by decide +kernel
theorem dX6_startOf_27 : decode cX6_startOf 27 = .ok (.iload_n 3, 1) := by decide +kernel
theorem dX6_startOf_28 : decode cX6_startOf 28 = .ok (.ireturn, 1) := by decide +kernel
theorem dX6_takes_0 : decode cX6_takes 0 = .ok (.aload_n 0, 1) := by decide +kernel
theorem dX6_takes_1 : decode cX6_takes 1 = .ok (.iload 5, 2) := by decide +kernel
theorem dX6_takes_3 : decode cX6_takes 3 = .ok (.invokevirtual 63, 3) := by decide +kernel
theorem dX6_takes_6 : decode cX6_takes 6 = .ok (.iload_n 2, 1) := by decide +kernel
theorem dX6_takes_7 : decode cX6_takes 7 = .ok (.istore 6, 2) := by decide +kernel
theorem dX6_takes_9 : decode cX6_takes 9 = .ok (.iload 6, 2) := by decide +kernel
theorem dX6_takes_11 : decode cX6_takes 11 = .ok (.iload_n 3, 1) := by decide +kernel
theorem dX6_takes_12 : decode cX6_takes 12 = .ok (.if_icmp .ge 32, 3) := by decide +kernel
theorem dX6_takes_15 : decode cX6_takes 15 = .ok (.aload_n 0, 1) := by decide +kernel
theorem dX6_takes_16 : decode cX6_takes 16 = .ok (.iload 5, 2) := by decide +kernel
theorem dX6_takes_18 : decode cX6_takes 18 = .ok (.aload_n 0, 1) := by decide +kernel
theorem dX6_takes_19 : decode cX6_takes 19 = .ok (.iload_n 1, 1) := by decide +kernel
theorem dX6_takes_20 : decode cX6_takes 20 = .ok (.iload 6, 2) := by decide +kernel
theorem dX6_takes_22 : decode cX6_takes 22 = .ok (.invokevirtual 60, 3) := by decide +kernel
theorem dX6_takes_25 : decode cX6_takes 25 = .ok (.aload_n 0, 1) := by decide +kernel
theorem dX6_takes_26 : decode cX6_takes 26 = .ok (.iload_n 1, 1) := by decide +kernel
theorem dX6_takes_27 : decode cX6_takes 27 = .ok (.iload 6, 2) := by decide +kernel
theorem dX6_takes_29 : decode cX6_takes 29 = .ok (.invokevirtual 67, 3) := by decide +kernel
theorem dX6_takes_32 : decode cX6_takes 32 = .ok (.iload 4, 2) := by decide +kernel
theorem dX6_takes_34 : decode cX6_takes 34 = .ok (.isub, 1) := by decide +kernel
theorem dX6_takes_35 : decode cX6_takes 35 = .ok (.invokevirtual 70, 3) := by decide +kernel
theorem dX6_takes_38 : decode cX6_takes 38 = .ok (.iinc 6 1, 3) := by decide +kernel
theorem dX6_takes_41 : decode cX6_takes 41 = .ok (.goto (-32), 3) := by decide +kernel
theorem dX6_takes_44 : decode cX6_takes 44 = .ok (.aload_n 0, 1) := by decide +kernel
theorem dX6_takes_45 : decode cX6_takes 45 = .ok (.iload 5, 2) := by decide +kernel
theorem dX6_takes_47 : decode cX6_takes 47 = .ok (.iload_n 1, 1) := by decide +kernel
theorem dX6_takes_48 : decode cX6_takes 48 = .ok (.aload_n 0, 1) := by decide +kernel
theorem dX6_takes_49 : decode cX6_takes 49 = .ok (.iload_n 1, 1) := by decide +kernel
theorem dX6_takes_50 : decode cX6_takes 50 = .ok (.iload_n 2, 1) := by decide +kernel
theorem dX6_takes_51 : decode cX6_takes 51 = .ok (.invokevirtual 74, 3) := by decide +kernel
theorem dX6_takes_54 : decode cX6_takes 54 = .ok (.aload_n 0, 1) := by decide +kernel
theorem dX6_takes_55 : decode cX6_takes 55 = .ok (.iload_n 1, 1) := by decide +kernel
theorem dX6_takes_56 : decode cX6_takes 56 = .ok (.iload_n 3, 1) := by decide +kernel
theorem dX6_takes_57 : decode cX6_takes 57 = .ok (.invokevirtual 74, 3) := by decide +kernel
theorem dX6_takes_60 : decode cX6_takes 60 = .ok (.invokevirtual 77, 3) := by decide +kernel
theorem dX6_takes_63 : decode cX6_takes 63 = .ok (.return_, 1) := by decide +kernel
theorem dX6_depthOf_0 : decode cX6_depthOf 0 = .ok (.iconst 0, 1) := by decide +kernel
theorem dX6_depthOf_1 : decode cX6_depthOf 1 = .ok (.istore_n 2, 1) := by decide +kernel
theorem dX6_depthOf_2 : decode cX6_depthOf 2 = .ok (.iconst 0, 1) := by decide +kernel
theorem dX6_depthOf_3 : decode cX6_depthOf 3 = .ok (.istore_n 3, 1) := by decide +kernel
theorem dX6_depthOf_4 : decode cX6_depthOf 4 = .ok (.iload_n 3, 1) := by decide +kernel
theorem dX6_depthOf_5 : decode cX6_depthOf 5 = .ok (.aload_n 0, 1) := by decide +kernel
theorem dX6_depthOf_6 : decode cX6_depthOf 6 = .ok (.iload_n 1, 1) := by decide +kernel
theorem dX6_depthOf_7 : decode cX6_depthOf 7 = .ok (.invokevirtual 45, 3) := by decide +kernel
theorem dX6_depthOf_10 : decode cX6_depthOf 10 = .ok (.if_icmp .ge 30, 3) := by decide +kernel
theorem dX6_depthOf_13 : decode cX6_depthOf 13 = .ok (.aload_n 0, 1) := by decide +kernel
theorem dX6_depthOf_14 : decode cX6_depthOf 14 = .ok (.iload_n 1, 1) := by decide +kernel
theorem dX6_depthOf_15 : decode cX6_depthOf 15 = .ok (.iload_n 3, 1) := by decide +kernel
theorem dX6_depthOf_16 : decode cX6_depthOf 16 = .ok (.invokevirtual 67, 3) := by decide +kernel
theorem dX6_depthOf_19 : decode cX6_depthOf 19 = .ok (.iload_n 2, 1) := by decide +kernel
theorem dX6_depthOf_20 : decode cX6_depthOf 20 = .ok (.if_icmp .le 12, 3) := by decide +kernel
theorem dX6_depthOf_23 : decode cX6_depthOf 23 = .ok (.aload_n 0, 1) := by decide +kernel
theorem dX6_depthOf_24 : decode cX6_depthOf 24 = .ok (.iload_n 1, 1) := by decide +kernel
theorem dX6_depthOf_25 : decode cX6_depthOf 25 = .ok (.iload_n 3, 1) := by decide +kernel
theorem dX6_depthOf_26 : decode cX6_depthOf 26 = .ok (.invokevirtual 67, 3) := by decide +kernel
theorem dX6_depthOf_29 : decode cX6_depthOf 29 = .ok (.goto 4, 3) := by decide +kernel
theorem dX6_depthOf_32 : decode cX6_depthOf 32 = .ok (.iload_n 2, 1) := by decide +kernel
theorem dX6_depthOf_33 : decode cX6_depthOf 33 = .ok (.istore_n 2, 1) := by decide +kernel
theorem dX6_depthOf_34 : decode cX6_depthOf 34 = .ok (.iinc 3 1, 3) := by decide +kernel
theorem dX6_depthOf_37 : decode cX6_depthOf 37 = .ok (.goto (-33), 3) := by decide +kernel
theorem dX6_depthOf_40 : decode cX6_depthOf 40 = .ok (.iload_n 2, 1) := by decide +kernel
theorem dX6_depthOf_41 : decode cX6_depthOf 41 = .ok (.ireturn, 1) := by decide +kernel
theorem dX6_endOf_0 : decode cX6_endOf 0 = .ok (.iload_n 2, 1) := by decide +kernel
theorem dX6_endOf_1 : decode cX6_endOf 1 = .ok (.istore 4, 2) := by decide +kernel
theorem dX6_endOf_3 : decode cX6_endOf 3 = .ok (.iconst 0, 1) := by decide +kernel
theorem dX6_endOf_4 : decode cX6_endOf 4 = .ok (.istore 5, 2) := by decide +kernel
theorem dX6_endOf_6 : decode cX6_endOf 6 = .ok (.iload_n 3, 1) := by decide +kernel
theorem dX6_endOf_7 : decode cX6_endOf 7 = .ok (.istore 6, 2) := by decide +kernel
theorem dX6_endOf_9 : decode cX6_endOf 9 = .ok (.iload 6, 2) := by decide +kernel
theorem dX6_endOf_11 : decode cX6_endOf 11 = .ok (.iconst 1, 1) := by decide +kernel
theorem dX6_endOf_12 : decode cX6_endOf 12 = .ok (.iadd, 1) := by decide +kernel
theorem dX6_endOf_13 : decode cX6_endOf 13 = .ok (.istore 7, 2) := by decide +kernel
theorem dX6_endOf_15 : decode cX6_endOf 15 = .ok (.iload 7, 2) := by decide +kernel
theorem dX6_endOf_17 : decode cX6_endOf 17 = .ok (.aload_n 0, 1) := by decide +kernel
theorem dX6_endOf_18 : decode cX6_endOf 18 = .ok (.iload_n 1, 1) := by decide +kernel
theorem dX6_endOf_19 : decode cX6_endOf 19 = .ok (.iload 4, 2) := by decide +kernel
theorem dX6_endOf_21 : decode cX6_endOf 21 = .ok (.invokevirtual 67, 3) := by decide +kernel
theorem dX6_endOf_24 : decode cX6_endOf 24 = .ok (.if_icmp .gt 21, 3) := by decide +kernel
theorem dX6_endOf_27 : decode cX6_endOf 27 = .ok (.aload_n 0, 1) := by decide +kernel
theorem dX6_endOf_28 : decode cX6_endOf 28 = .ok (.getfield 26, 3) := by decide +kernel
theorem dX6_endOf_31 : decode cX6_endOf 31 = .ok (.iload 5, 2) := by decide +kernel
theorem dX6_endOf_33 : decode cX6_endOf 33 = .ok (.iload 7, 2) := by decide +kernel
theorem dX6_endOf_35 : decode cX6_endOf 35 = .ok (.iastore, 1) := by decide +kernel
theorem dX6_endOf_36 : decode cX6_endOf 36 = .ok (.iinc 5 1, 3) := by decide +kernel
theorem dX6_endOf_39 : decode cX6_endOf 39 = .ok (.iinc 7 1, 3) := by decide +kernel
theorem dX6_endOf_42 : decode cX6_endOf 42 = .ok (.goto (-27), 3) := by decide +kernel
theorem dX6_endOf_45 : decode cX6_endOf 45 = .ok (.iinc 4 1, 3) := by decide +kernel
theorem dX6_endOf_48 : decode cX6_endOf 48 = .ok (.iload 5, 2) := by decide +kernel
theorem dX6_endOf_50 : decode cX6_endOf 50 = .ok (.ifCond .ne 6, 3) := by decide +kernel
theorem dX6_endOf_53 : decode cX6_endOf 53 = .ok (.iload 4, 2) := by decide +kernel
theorem dX6_endOf_55 : decode cX6_endOf 55 = .ok (.ireturn, 1) := by decide +kernel
theorem dX6_endOf_56 : decode cX6_endOf 56 = .ok (.iinc 5 (-1), 3) := by decide +kernel
theorem dX6_endOf_59 : decode cX6_endOf 59 = .ok (.aload_n 0, 1) := by decide +kernel
theorem dX6_endOf_60 : decode cX6_endOf 60 = .ok (.getfield 26, 3) := by decide +kernel
theorem dX6_endOf_63 : decode cX6_endOf 63 = .ok (.iload 5, 2) := by decide +kernel
theorem dX6_endOf_65 : decode cX6_endOf 65 = .ok (.iaload, 1) := by decide +kernel
theorem dX6_endOf_66 : decode cX6_endOf 66 = .ok (.istore 6, 2) := by decide +kernel
theorem dX6_endOf_68 : decode cX6_endOf 68 = .ok (.goto (-59), 3) := by decide +kernel
theorem dX6_addsDeeper_0 : decode cX6_addsDeeper 0 = .ok (.iconst 0, 1) := by decide +kernel
theorem dX6_addsDeeper_1 : decode cX6_addsDeeper 1 = .ok (.istore_n 3, 1) := by decide +kernel
theorem dX6_addsDeeper_2 : decode cX6_addsDeeper 2 = .ok (.iload_n 3, 1) := by decide +kernel
theorem dX6_addsDeeper_3 : decode cX6_addsDeeper 3 = .ok (.aload_n 0, 1) := by decide +kernel
theorem dX6_addsDeeper_4 : decode cX6_addsDeeper 4 = .ok (.iload_n 2, 1) := by decide +kernel
theorem dX6_addsDeeper_5 : decode cX6_addsDeeper 5 = .ok (.invokevirtual 45, 3) := by decide +kernel
theorem dX6_addsDeeper_8 : decode cX6_addsDeeper 8 = .ok (.if_icmp .ge 28, 3) := by decide +kernel
theorem dX6_addsDeeper_11 : decode cX6_addsDeeper 11 = .ok (.aload_n 0, 1) := by decide +kernel
theorem dX6_addsDeeper_12 : decode cX6_addsDeeper 12 = .ok (.iload_n 1, 1) := by decide +kernel
theorem dX6_addsDeeper_13 : decode cX6_addsDeeper 13 = .ok (.aload_n 0, 1) := by decide +kernel
theorem dX6_addsDeeper_14 : decode cX6_addsDeeper 14 = .ok (.iload_n 2, 1) := by decide +kernel
theorem dX6_addsDeeper_15 : decode cX6_addsDeeper 15 = .ok (.iload_n 3, 1) := by decide +kernel
theorem dX6_addsDeeper_16 : decode cX6_addsDeeper 16 = .ok (.invokevirtual 60, 3) := by decide +kernel
theorem dX6_addsDeeper_19 : decode cX6_addsDeeper 19 = .ok (.aload_n 0, 1) := by decide +kernel
theorem dX6_addsDeeper_20 : decode cX6_addsDeeper 20 = .ok (.iload_n 2, 1) := by decide +kernel
theorem dX6_addsDeeper_21 : decode cX6_addsDeeper 21 = .ok (.iload_n 3, 1) := by decide +kernel
theorem dX6_addsDeeper_22 : decode cX6_addsDeeper 22 = .ok (.invokevirtual 67, 3) := by decide +kernel
theorem dX6_addsDeeper_25 : decode cX6_addsDeeper 25 = .ok (.iconst 1, 1) := by decide +kernel
theorem dX6_addsDeeper_26 : decode cX6_addsDeeper 26 = .ok (.iadd, 1) := by decide +kernel
theorem dX6_addsDeeper_27 : decode cX6_addsDeeper 27 = .ok (.invokevirtual 70, 3) := by decide +kernel
theorem dX6_addsDeeper_30 : decode cX6_addsDeeper 30 = .ok (.iinc 3 1, 3) := by decide +kernel
theorem dX6_addsDeeper_33 : decode cX6_addsDeeper 33 = .ok (.goto (-31), 3) := by decide +kernel
theorem dX6_addsDeeper_36 : decode cX6_addsDeeper 36 = .ok (.aload_n 0, 1) := by decide +kernel
theorem dX6_addsDeeper_37 : decode cX6_addsDeeper 37 = .ok (.iload_n 1, 1) := by decide +kernel
theorem dX6_addsDeeper_38 : decode cX6_addsDeeper 38 = .ok (.iload_n 2, 1) := by decide +kernel
theorem dX6_addsDeeper_39 : decode cX6_addsDeeper 39 = .ok (.iconst 0, 1) := by decide +kernel
theorem dX6_addsDeeper_40 : decode cX6_addsDeeper 40 = .ok (.aload_n 0, 1) := by decide +kernel
theorem dX6_addsDeeper_41 : decode cX6_addsDeeper 41 = .ok (.iload_n 2, 1) := by decide +kernel
theorem dX6_addsDeeper_42 : decode cX6_addsDeeper 42 = .ok (.invokevirtual 49, 3) := by decide +kernel
theorem dX6_addsDeeper_45 : decode cX6_addsDeeper 45 = .ok (.invokevirtual 77, 3) := by decide +kernel
theorem dX6_addsDeeper_48 : decode cX6_addsDeeper 48 = .ok (.return_, 1) := by decide +kernel
theorem dX6_isLeaf_0 : decode cX6_isLeaf 0 = .ok (.aload_n 0, 1) := by decide +kernel
theorem dX6_isLeaf_1 : decode cX6_isLeaf 1 = .ok (.iload_n 1, 1) := by decide +kernel
theorem dX6_isLeaf_2 : decode cX6_isLeaf 2 = .ok (.invokevirtual 45, 3) := by decide +kernel
theorem dX6_isLeaf_5 : decode cX6_isLeaf 5 = .ok (.iconst 1, 1) := by decide +kernel
theorem dX6_isLeaf_6 : decode cX6_isLeaf 6 = .ok (.if_icmp .ne 7, 3) := by decide +kernel
theorem dX6_isLeaf_9 : decode cX6_isLeaf 9 = .ok (.iconst 1, 1) := by decide +kernel
theorem dX6_isLeaf_10 : decode cX6_isLeaf 10 = .ok (.goto 4, 3) := by decide +kernel
theorem dX6_isLeaf_13 : decode cX6_isLeaf 13 = .ok (.iconst 0, 1) := by decide +kernel
theorem dX6_isLeaf_14 : decode cX6_isLeaf 14 = .ok (.ireturn, 1) := by decide +kernel
theorem dX6_joins_0 : decode cX6_joins 0 = .ok (.aload_n 0, 1) := by decide +kernel
theorem dX6_joins_1 : decode cX6_joins 1 = .ok (.iload_n 1, 1) := by decide +kernel
theorem dX6_joins_2 : decode cX6_joins 2 = .ok (.invokevirtual 45, 3) := by decide +kernel
theorem dX6_joins_5 : decode cX6_joins 5 = .ok (.ifCond .eq 11, 3) := by decide +kernel
theorem dX6_joins_8 : decode cX6_joins 8 = .ok (.aload_n 0, 1) := by decide +kernel
theorem dX6_joins_9 : decode cX6_joins 9 = .ok (.iload_n 2, 1) := by decide +kernel
theorem dX6_joins_10 : decode cX6_joins 10 = .ok (.invokevirtual 45, 3) := by decide +kernel
theorem dX6_joins_13 : decode cX6_joins 13 = .ok (.ifCond .ne 22, 3) := by decide +kernel
theorem dX6_joins_16 : decode cX6_joins 16 = .ok (.aload_n 0, 1) := by decide +kernel
theorem dX6_joins_17 : decode cX6_joins 17 = .ok (.aload_n 0, 1) := by decide +kernel
theorem dX6_joins_18 : decode cX6_joins 18 = .ok (.iload_n 1, 1) := by decide +kernel
theorem dX6_joins_19 : decode cX6_joins 19 = .ok (.invokevirtual 45, 3) := by decide +kernel
theorem dX6_joins_22 : decode cX6_joins 22 = .ok (.ifCond .ne 7, 3) := by decide +kernel
theorem dX6_joins_25 : decode cX6_joins 25 = .ok (.iload_n 2, 1) := by decide +kernel
theorem dX6_joins_26 : decode cX6_joins 26 = .ok (.goto 4, 3) := by decide +kernel
theorem dX6_joins_29 : decode cX6_joins 29 = .ok (.iload_n 1, 1) := by decide +kernel
theorem dX6_joins_30 : decode cX6_joins 30 = .ok (.iload_n 3, 1) := by decide +kernel
theorem dX6_joins_31 : decode cX6_joins 31 = .ok (.invokevirtual 81, 3) := by decide +kernel
theorem dX6_joins_34 : decode cX6_joins 34 = .ok (.return_, 1) := by decide +kernel
theorem dX6_joins_35 : decode cX6_joins 35 = .ok (.aload_n 0, 1) := by decide +kernel
theorem dX6_joins_36 : decode cX6_joins 36 = .ok (.iload_n 1, 1) := by decide +kernel
theorem dX6_joins_37 : decode cX6_joins 37 = .ok (.invokevirtual 45, 3) := by decide +kernel
theorem dX6_joins_40 : decode cX6_joins 40 = .ok (.iconst 1, 1) := by decide +kernel
theorem dX6_joins_41 : decode cX6_joins 41 = .ok (.isub, 1) := by decide +kernel
theorem dX6_joins_42 : decode cX6_joins 42 = .ok (.istore 4, 2) := by decide +kernel
theorem dX6_joins_44 : decode cX6_joins 44 = .ok (.aload_n 0, 1) := by decide +kernel
theorem dX6_joins_45 : decode cX6_joins 45 = .ok (.iload_n 1, 1) := by decide +kernel
theorem dX6_joins_46 : decode cX6_joins 46 = .ok (.iload 4, 2) := by decide +kernel
theorem dX6_joins_48 : decode cX6_joins 48 = .ok (.invokevirtual 60, 3) := by decide +kernel
theorem dX6_joins_51 : decode cX6_joins 51 = .ok (.aload_n 0, 1) := by decide +kernel
theorem dX6_joins_52 : decode cX6_joins 52 = .ok (.iload_n 2, 1) := by decide +kernel
theorem dX6_joins_53 : decode cX6_joins 53 = .ok (.iconst 0, 1) := by decide +kernel
theorem dX6_joins_54 : decode cX6_joins 54 = .ok (.invokevirtual 60, 3) := by decide +kernel
theorem dX6_joins_57 : decode cX6_joins 57 = .ok (.iadd, 1) := by decide +kernel
theorem dX6_joins_58 : decode cX6_joins 58 = .ok (.aload_n 0, 1) := by decide +kernel
theorem dX6_joins_59 : decode cX6_joins 59 = .ok (.getfield 13, 3) := by decide +kernel
theorem dX6_joins_62 : decode cX6_joins 62 = .ok (.iconst 0, 1) := by decide +kernel
theorem dX6_joins_63 : decode cX6_joins 63 = .ok (.iaload, 1) := by decide +kernel
theorem dX6_joins_64 : decode cX6_joins 64 = .ok (.if_icmp .gt 7, 3) := by decide +kernel
theorem dX6_joins_67 : decode cX6_joins 67 = .ok (.iconst 1, 1) := by decide +kernel
theorem dX6_joins_68 : decode cX6_joins 68 = .ok (.goto 4, 3) := by decide +kernel
theorem dX6_joins_71 : decode cX6_joins 71 = .ok (.iconst 0, 1) := by decide +kernel
theorem dX6_joins_72 : decode cX6_joins 72 = .ok (.istore 5, 2) := by decide +kernel
theorem dX6_joins_74 : decode cX6_joins 74 = .ok (.iload 5, 2) := by decide +kernel
theorem dX6_joins_76 : decode cX6_joins 76 = .ok (.ifCond .eq 75, 3) := by decide +kernel
theorem dX6_joins_79 : decode cX6_joins 79 = .ok (.aload_n 0, 1) := by decide +kernel
theorem dX6_joins_80 : decode cX6_joins 80 = .ok (.iload_n 2, 1) := by decide +kernel
theorem dX6_joins_81 : decode cX6_joins 81 = .ok (.invokevirtual 84, 3) := by decide +kernel
theorem dX6_joins_84 : decode cX6_joins 84 = .ok (.ifCond .eq 67, 3) := by decide +kernel
theorem dX6_joins_87 : decode cX6_joins 87 = .ok (.aload_n 0, 1) := by decide +kernel
theorem dX6_joins_88 : decode cX6_joins 88 = .ok (.iload_n 1, 1) := by decide +kernel
theorem dX6_joins_89 : decode cX6_joins 89 = .ok (.invokevirtual 84, 3) := by decide +kernel
theorem dX6_joins_92 : decode cX6_joins 92 = .ok (.ifCond .ne 14, 3) := by decide +kernel
theorem dX6_joins_95 : decode cX6_joins 95 = .ok (.aload_n 0, 1) := by decide +kernel
theorem dX6_joins_96 : decode cX6_joins 96 = .ok (.iload_n 1, 1) := by decide +kernel
theorem dX6_joins_97 : decode cX6_joins 97 = .ok (.iload 4, 2) := by decide +kernel
theorem dX6_joins_99 : decode cX6_joins 99 = .ok (.invokevirtual 67, 3) := by decide +kernel
theorem dX6_joins_102 : decode cX6_joins 102 = .ok (.iconst 1, 1) := by decide +kernel
theorem dX6_joins_103 : decode cX6_joins 103 = .ok (.if_icmp .ne 48, 3) := by decide +kernel
theorem dX6_joins_106 : decode cX6_joins 106 = .ok (.aload_n 0, 1) := by decide +kernel
theorem dX6_joins_107 : decode cX6_joins 107 = .ok (.iload_n 1, 1) := by decide +kernel
theorem dX6_joins_108 : decode cX6_joins 108 = .ok (.iload_n 3, 1) := by decide +kernel
theorem dX6_joins_109 : decode cX6_joins 109 = .ok (.invokevirtual 81, 3) := by decide +kernel
theorem dX6_joins_112 : decode cX6_joins 112 = .ok (.aload_n 0, 1) := by decide +kernel
theorem dX6_joins_113 : decode cX6_joins 113 = .ok (.getfield 7, 3) := by decide +kernel
theorem dX6_joins_116 : decode cX6_joins 116 = .ok (.sipush 1202, 3) := by decide +kernel
theorem dX6_joins_119 : decode cX6_joins 119 = .ok (.iload_n 3, 1) := by decide +kernel
theorem dX6_joins_120 : decode cX6_joins 120 = .ok (.imul, 1) := by decide +kernel
theorem dX6_joins_121 : decode cX6_joins 121 = .ok (.iconst 2, 1) := by decide +kernel
theorem dX6_joins_122 : decode cX6_joins 122 = .ok (.iadd, 1) := by decide +kernel
theorem dX6_joins_123 : decode cX6_joins 123 = .ok (.iload 4, 2) := by decide +kernel
theorem dX6_joins_125 : decode cX6_joins 125 = .ok (.iadd, 1) := by decide +kernel
theorem dX6_joins_126 : decode cX6_joins 126 = .ok (.dup2, 1) := by decide +kernel
theorem dX6_joins_127 : decode cX6_joins 127 = .ok (.iaload, 1) := by decide +kernel
theorem dX6_joins_128 : decode cX6_joins 128 = .ok (.aload_n 0, 1) := by decide +kernel
theorem dX6_joins_129 : decode cX6_joins 129 = .ok (.iload_n 2, 1) := by decide +kernel
theorem dX6_joins_130 : decode cX6_joins 130 = .ok (.iconst 0, 1) := by decide +kernel
theorem dX6_joins_131 : decode cX6_joins 131 = .ok (.invokevirtual 60, 3) := by decide +kernel
theorem dX6_joins_134 : decode cX6_joins 134 = .ok (.iadd, 1) := by decide +kernel
theorem dX6_joins_135 : decode cX6_joins 135 = .ok (.iastore, 1) := by decide +kernel
theorem dX6_joins_136 : decode cX6_joins 136 = .ok (.aload_n 0, 1) := by decide +kernel
theorem dX6_joins_137 : decode cX6_joins 137 = .ok (.iload_n 3, 1) := by decide +kernel
theorem dX6_joins_138 : decode cX6_joins 138 = .ok (.iload_n 2, 1) := by decide +kernel
theorem dX6_joins_139 : decode cX6_joins 139 = .ok (.iconst 0, 1) := by decide +kernel
theorem dX6_joins_140 : decode cX6_joins 140 = .ok (.aload_n 0, 1) := by decide +kernel
theorem dX6_joins_141 : decode cX6_joins 141 = .ok (.iload_n 2, 1) := by decide +kernel
theorem dX6_joins_142 : decode cX6_joins 142 = .ok (.invokevirtual 49, 3) := by decide +kernel
theorem dX6_joins_145 : decode cX6_joins 145 = .ok (.invokevirtual 77, 3) := by decide +kernel
theorem dX6_joins_148 : decode cX6_joins 148 = .ok (.goto 132, 3) := by decide +kernel
theorem dX6_joins_151 : decode cX6_joins 151 = .ok (.iload 5, 2) := by decide +kernel
theorem dX6_joins_153 : decode cX6_joins 153 = .ok (.ifCond .eq 110, 3) := by decide +kernel
theorem dX6_joins_156 : decode cX6_joins 156 = .ok (.aload_n 0, 1) := by decide +kernel
theorem dX6_joins_157 : decode cX6_joins 157 = .ok (.iload_n 1, 1) := by decide +kernel
theorem dX6_joins_158 : decode cX6_joins 158 = .ok (.invokevirtual 84, 3) := by decide +kernel
theorem dX6_joins_161 : decode cX6_joins 161 = .ok (.ifCond .eq 102, 3) := by decide +kernel
theorem dX6_joins_164 : decode cX6_joins 164 = .ok (.aload_n 0, 1) := by decide +kernel
theorem dX6_joins_165 : decode cX6_joins 165 = .ok (.iload_n 2, 1) := by decide +kernel
theorem dX6_joins_166 : decode cX6_joins 166 = .ok (.iconst 0, 1) := by decide +kernel
theorem dX6_joins_167 : decode cX6_joins 167 = .ok (.invokevirtual 67, 3) := by decide +kernel
theorem dX6_joins_170 : decode cX6_joins 170 = .ok (.iconst 1, 1) := by decide +kernel
theorem dX6_joins_171 : decode cX6_joins 171 = .ok (.if_icmp .ne 92, 3) := by decide +kernel
theorem dX6_joins_174 : decode cX6_joins 174 = .ok (.aload_n 0, 1) := by decide +kernel
theorem dX6_joins_175 : decode cX6_joins 175 = .ok (.iload_n 3, 1) := by decide +kernel
theorem dX6_joins_176 : decode cX6_joins 176 = .ok (.invokevirtual 63, 3) := by decide +kernel
theorem dX6_joins_179 : decode cX6_joins 179 = .ok (.aload_n 0, 1) := by decide +kernel
theorem dX6_joins_180 : decode cX6_joins 180 = .ok (.iload_n 3, 1) := by decide +kernel
theorem dX6_joins_181 : decode cX6_joins 181 = .ok (.aload_n 0, 1) := by decide +kernel
theorem dX6_joins_182 : decode cX6_joins 182 = .ok (.iload_n 1, 1) := by decide +kernel
theorem dX6_joins_183 : decode cX6_joins 183 = .ok (.iconst 0, 1) := by decide +kernel
theorem dX6_joins_184 : decode cX6_joins 184 = .ok (.invokevirtual 60, 3) := by decide +kernel
theorem dX6_joins_187 : decode cX6_joins 187 = .ok (.aload_n 0, 1) := by decide +kernel
theorem dX6_joins_188 : decode cX6_joins 188 = .ok (.iload_n 2, 1) := by decide +kernel
theorem dX6_joins_189 : decode cX6_joins 189 = .ok (.iconst 0, 1) := by decide +kernel
theorem dX6_joins_190 : decode cX6_joins 190 = .ok (.invokevirtual 60, 3) := by decide +kernel
theorem dX6_joins_193 : decode cX6_joins 193 = .ok (.iadd, 1) := by decide +kernel
theorem dX6_joins_194 : decode cX6_joins 194 = .ok (.iconst 1, 1) := by decide +kernel
theorem dX6_joins_195 : decode cX6_joins 195 = .ok (.invokevirtual 70, 3) := by decide +kernel
theorem dX6_joins_198 : decode cX6_joins 198 = .ok (.iconst 1, 1) := by decide +kernel
theorem dX6_joins_199 : decode cX6_joins 199 = .ok (.istore 6, 2) := by decide +kernel
theorem dX6_joins_201 : decode cX6_joins 201 = .ok (.iload 6, 2) := by decide +kernel
theorem dX6_joins_203 : decode cX6_joins 203 = .ok (.aload_n 0, 1) := by decide +kernel
theorem dX6_joins_204 : decode cX6_joins 204 = .ok (.iload_n 2, 1) := by decide +kernel
theorem dX6_joins_205 : decode cX6_joins 205 = .ok (.invokevirtual 45, 3) := by decide +kernel
theorem dX6_joins_208 : decode cX6_joins 208 = .ok (.if_icmp .ge 28, 3) := by decide +kernel
theorem dX6_joins_211 : decode cX6_joins 211 = .ok (.aload_n 0, 1) := by decide +kernel
theorem dX6_joins_212 : decode cX6_joins 212 = .ok (.iload_n 3, 1) := by decide +kernel
theorem dX6_joins_213 : decode cX6_joins 213 = .ok (.aload_n 0, 1) := by decide +kernel
theorem dX6_joins_214 : decode cX6_joins 214 = .ok (.iload_n 2, 1) := by decide +kernel
theorem dX6_joins_215 : decode cX6_joins 215 = .ok (.iload 6, 2) := by decide +kernel
theorem dX6_joins_217 : decode cX6_joins 217 = .ok (.invokevirtual 60, 3) := by decide +kernel
theorem dX6_joins_220 : decode cX6_joins 220 = .ok (.aload_n 0, 1) := by decide +kernel
theorem dX6_joins_221 : decode cX6_joins 221 = .ok (.iload_n 2, 1) := by decide +kernel
theorem dX6_joins_222 : decode cX6_joins 222 = .ok (.iload 6, 2) := by decide +kernel
theorem dX6_joins_224 : decode cX6_joins 224 = .ok (.invokevirtual 67, 3) := by decide +kernel
theorem dX6_joins_227 : decode cX6_joins 227 = .ok (.invokevirtual 70, 3) := by decide +kernel
theorem dX6_joins_230 : decode cX6_joins 230 = .ok (.iinc 6 1, 3) := by decide +kernel
theorem dX6_joins_233 : decode cX6_joins 233 = .ok (.goto (-32), 3) := by decide +kernel
theorem dX6_joins_236 : decode cX6_joins 236 = .ok (.aload_n 0, 1) := by decide +kernel
theorem dX6_joins_237 : decode cX6_joins 237 = .ok (.iload_n 3, 1) := by decide +kernel
theorem dX6_joins_238 : decode cX6_joins 238 = .ok (.iload_n 1, 1) := by decide +kernel
theorem dX6_joins_239 : decode cX6_joins 239 = .ok (.iconst 0, 1) := by decide +kernel
theorem dX6_joins_240 : decode cX6_joins 240 = .ok (.aload_n 0, 1) := by decide +kernel
theorem dX6_joins_241 : decode cX6_joins 241 = .ok (.iload_n 1, 1) := by decide +kernel
theorem dX6_joins_242 : decode cX6_joins 242 = .ok (.invokevirtual 49, 3) := by decide +kernel
theorem dX6_joins_245 : decode cX6_joins 245 = .ok (.invokevirtual 77, 3) := by decide +kernel
theorem dX6_joins_248 : decode cX6_joins 248 = .ok (.aload_n 0, 1) := by decide +kernel
theorem dX6_joins_249 : decode cX6_joins 249 = .ok (.iload_n 3, 1) := by decide +kernel
theorem dX6_joins_250 : decode cX6_joins 250 = .ok (.iload_n 2, 1) := by decide +kernel
theorem dX6_joins_251 : decode cX6_joins 251 = .ok (.iconst 0, 1) := by decide +kernel
theorem dX6_joins_252 : decode cX6_joins 252 = .ok (.aload_n 0, 1) := by decide +kernel
theorem dX6_joins_253 : decode cX6_joins 253 = .ok (.iload_n 2, 1) := by decide +kernel
theorem dX6_joins_254 : decode cX6_joins 254 = .ok (.invokevirtual 49, 3) := by decide +kernel
theorem dX6_joins_257 : decode cX6_joins 257 = .ok (.invokevirtual 77, 3) := by decide +kernel
theorem dX6_joins_260 : decode cX6_joins 260 = .ok (.goto 20, 3) := by decide +kernel
theorem dX6_joins_263 : decode cX6_joins 263 = .ok (.aload_n 0, 1) := by decide +kernel
theorem dX6_joins_264 : decode cX6_joins 264 = .ok (.iload_n 3, 1) := by decide +kernel
theorem dX6_joins_265 : decode cX6_joins 265 = .ok (.invokevirtual 63, 3) := by decide +kernel
theorem dX6_joins_268 : decode cX6_joins 268 = .ok (.aload_n 0, 1) := by decide +kernel
theorem dX6_joins_269 : decode cX6_joins 269 = .ok (.iload_n 3, 1) := by decide +kernel
theorem dX6_joins_270 : decode cX6_joins 270 = .ok (.iload_n 1, 1) := by decide +kernel
theorem dX6_joins_271 : decode cX6_joins 271 = .ok (.invokevirtual 88, 3) := by decide +kernel
theorem dX6_joins_274 : decode cX6_joins 274 = .ok (.aload_n 0, 1) := by decide +kernel
theorem dX6_joins_275 : decode cX6_joins 275 = .ok (.iload_n 3, 1) := by decide +kernel
theorem dX6_joins_276 : decode cX6_joins 276 = .ok (.iload_n 2, 1) := by decide +kernel
theorem dX6_joins_277 : decode cX6_joins 277 = .ok (.invokevirtual 88, 3) := by decide +kernel
theorem dX6_joins_280 : decode cX6_joins 280 = .ok (.return_, 1) := by decide +kernel
theorem dX6_splits_0 : decode cX6_splits 0 = .ok (.iload_n 2, 1) := by decide +kernel
theorem dX6_splits_1 : decode cX6_splits 1 = .ok (.ifCond .eq 12, 3) := by decide +kernel
theorem dX6_splits_4 : decode cX6_splits 4 = .ok (.iload_n 2, 1) := by decide +kernel
theorem dX6_splits_5 : decode cX6_splits 5 = .ok (.aload_n 0, 1) := by decide +kernel
theorem dX6_splits_6 : decode cX6_splits 6 = .ok (.iload_n 1, 1) := by decide +kernel
theorem dX6_splits_7 : decode cX6_splits 7 = .ok (.invokevirtual 49, 3) := by decide +kernel
theorem dX6_splits_10 : decode cX6_splits 10 = .ok (.if_icmp .ne 33, 3) := by decide +kernel
theorem dX6_splits_13 : decode cX6_splits 13 = .ok (.aload_n 0, 1) := by decide +kernel
theorem dX6_splits_14 : decode cX6_splits 14 = .ok (.iload_n 1, 1) := by decide +kernel
theorem dX6_splits_15 : decode cX6_splits 15 = .ok (.iload_n 2, 1) := by decide +kernel
theorem dX6_splits_16 : decode cX6_splits 16 = .ok (.ifCond .ne 8, 3) := by decide +kernel
theorem dX6_splits_19 : decode cX6_splits 19 = .ok (.iload 4, 2) := by decide +kernel
theorem dX6_splits_21 : decode cX6_splits 21 = .ok (.goto 4, 3) := by decide +kernel
theorem dX6_splits_24 : decode cX6_splits 24 = .ok (.iload_n 3, 1) := by decide +kernel
theorem dX6_splits_25 : decode cX6_splits 25 = .ok (.invokevirtual 81, 3) := by decide +kernel
theorem dX6_splits_28 : decode cX6_splits 28 = .ok (.aload_n 0, 1) := by decide +kernel
theorem dX6_splits_29 : decode cX6_splits 29 = .ok (.iload_n 2, 1) := by decide +kernel
theorem dX6_splits_30 : decode cX6_splits 30 = .ok (.ifCond .ne 7, 3) := by decide +kernel
theorem dX6_splits_33 : decode cX6_splits 33 = .ok (.iload_n 3, 1) := by decide +kernel
theorem dX6_splits_34 : decode cX6_splits 34 = .ok (.goto 5, 3) := by decide +kernel
theorem dX6_splits_37 : decode cX6_splits 37 = .ok (.iload 4, 2) := by decide +kernel
theorem dX6_splits_39 : decode cX6_splits 39 = .ok (.invokevirtual 63, 3) := by decide +kernel
theorem dX6_splits_42 : decode cX6_splits 42 = .ok (.return_, 1) := by decide +kernel
theorem dX6_splits_43 : decode cX6_splits 43 = .ok (.iconst 0, 1) := by decide +kernel
theorem dX6_splits_44 : decode cX6_splits 44 = .ok (.istore 5, 2) := by decide +kernel
theorem dX6_splits_46 : decode cX6_splits 46 = .ok (.aload_n 0, 1) := by decide +kernel
theorem dX6_splits_47 : decode cX6_splits 47 = .ok (.iload_n 1, 1) := by decide +kernel
theorem dX6_splits_48 : decode cX6_splits 48 = .ok (.invokevirtual 45, 3) := by decide +kernel
theorem dX6_splits_51 : decode cX6_splits 51 = .ok (.istore 6, 2) := by decide +kernel
theorem dX6_splits_53 : decode cX6_splits 53 = .ok (.iconst 0, 1) := by decide +kernel
theorem dX6_splits_54 : decode cX6_splits 54 = .ok (.istore 7, 2) := by decide +kernel
theorem dX6_splits_56 : decode cX6_splits 56 = .ok (.iload_n 2, 1) := by decide +kernel
theorem dX6_splits_57 : decode cX6_splits 57 = .ok (.istore 8, 2) := by decide +kernel
theorem dX6_splits_59 : decode cX6_splits 59 = .ok (.iconst 0, 1) := by decide +kernel
theorem dX6_splits_60 : decode cX6_splits 60 = .ok (.istore 9, 2) := by decide +kernel
theorem dX6_splits_62 : decode cX6_splits 62 = .ok (.iconst 1, 1) := by decide +kernel
theorem dX6_splits_63 : decode cX6_splits 63 = .ok (.istore 10, 2) := by decide +kernel
theorem dX6_splits_65 : decode cX6_splits 65 = .ok (.iload 10, 2) := by decide +kernel
theorem dX6_splits_67 : decode cX6_splits 67 = .ok (.ifCond .eq 297, 3) := by decide +kernel
theorem dX6_splits_70 : decode cX6_splits 70 = .ok (.iload 6, 2) := by decide +kernel
theorem dX6_splits_72 : decode cX6_splits 72 = .ok (.iload 5, 2) := by decide +kernel
theorem dX6_splits_74 : decode cX6_splits 74 = .ok (.isub, 1) := by decide +kernel
theorem dX6_splits_75 : decode cX6_splits 75 = .ok (.iconst 1, 1) := by decide +kernel
theorem dX6_splits_76 : decode cX6_splits 76 = .ok (.if_icmp .ne 89, 3) := by decide +kernel
theorem dX6_splits_79 : decode cX6_splits 79 = .ok (.aload_n 0, 1) := by decide +kernel
theorem dX6_splits_80 : decode cX6_splits 80 = .ok (.iload_n 1, 1) := by decide +kernel
theorem dX6_splits_81 : decode cX6_splits 81 = .ok (.iload 5, 2) := by decide +kernel
theorem dX6_splits_83 : decode cX6_splits 83 = .ok (.invokevirtual 74, 3) := by decide +kernel
theorem dX6_splits_86 : decode cX6_splits 86 = .ok (.istore 11, 2) := by decide +kernel
theorem dX6_splits_88 : decode cX6_splits 88 = .ok (.aload_n 0, 1) := by decide +kernel
theorem dX6_splits_89 : decode cX6_splits 89 = .ok (.iload_n 3, 1) := by decide +kernel
theorem dX6_splits_90 : decode cX6_splits 90 = .ok (.invokevirtual 63, 3) := by decide +kernel
theorem dX6_splits_93 : decode cX6_splits 93 = .ok (.aload_n 0, 1) := by decide +kernel
theorem dX6_splits_94 : decode cX6_splits 94 = .ok (.iload_n 3, 1) := by decide +kernel
theorem dX6_splits_95 : decode cX6_splits 95 = .ok (.iload 8, 2) := by decide +kernel
theorem dX6_splits_97 : decode cX6_splits 97 = .ok (.iconst 0, 1) := by decide +kernel
theorem dX6_splits_98 : decode cX6_splits 98 = .ok (.invokevirtual 70, 3) := by decide +kernel
theorem dX6_splits_101 : decode cX6_splits 101 = .ok (.aload_n 0, 1) := by decide +kernel
theorem dX6_splits_102 : decode cX6_splits 102 = .ok (.iload_n 3, 1) := by decide +kernel
theorem dX6_splits_103 : decode cX6_splits 103 = .ok (.iload_n 1, 1) := by decide +kernel
theorem dX6_splits_104 : decode cX6_splits 104 = .ok (.iload 11, 2) := by decide +kernel
theorem dX6_splits_106 : decode cX6_splits 106 = .ok (.iload 11, 2) := by decide +kernel
theorem dX6_splits_108 : decode cX6_splits 108 = .ok (.iload 8, 2) := by decide +kernel
theorem dX6_splits_110 : decode cX6_splits 110 = .ok (.iadd, 1) := by decide +kernel
theorem dX6_splits_111 : decode cX6_splits 111 = .ok (.invokevirtual 77, 3) := by decide +kernel
theorem dX6_splits_114 : decode cX6_splits 114 = .ok (.aload_n 0, 1) := by decide +kernel
theorem dX6_splits_115 : decode cX6_splits 115 = .ok (.iload 4, 2) := by decide +kernel
theorem dX6_splits_117 : decode cX6_splits 117 = .ok (.invokevirtual 63, 3) := by decide +kernel
theorem dX6_splits_120 : decode cX6_splits 120 = .ok (.aload_n 0, 1) := by decide +kernel
theorem dX6_splits_121 : decode cX6_splits 121 = .ok (.iload 4, 2) := by decide +kernel
theorem dX6_splits_123 : decode cX6_splits 123 = .ok (.aload_n 0, 1) := by decide +kernel
theorem dX6_splits_124 : decode cX6_splits 124 = .ok (.iload_n 1, 1) := by decide +kernel
theorem dX6_splits_125 : decode cX6_splits 125 = .ok (.iload 5, 2) := by decide +kernel
theorem dX6_splits_127 : decode cX6_splits 127 = .ok (.invokevirtual 60, 3) := by decide +kernel
theorem dX6_splits_130 : decode cX6_splits 130 = .ok (.iload 8, 2) := by decide +kernel
theorem dX6_splits_132 : decode cX6_splits 132 = .ok (.isub, 1) := by decide +kernel
theorem dX6_splits_133 : decode cX6_splits 133 = .ok (.iconst 0, 1) := by decide +kernel
theorem dX6_splits_134 : decode cX6_splits 134 = .ok (.invokevirtual 70, 3) := by decide +kernel
theorem dX6_splits_137 : decode cX6_splits 137 = .ok (.aload_n 0, 1) := by decide +kernel
theorem dX6_splits_138 : decode cX6_splits 138 = .ok (.iload 4, 2) := by decide +kernel
theorem dX6_splits_140 : decode cX6_splits 140 = .ok (.iload_n 1, 1) := by decide +kernel
theorem dX6_splits_141 : decode cX6_splits 141 = .ok (.iload 11, 2) := by decide +kernel
theorem dX6_splits_143 : decode cX6_splits 143 = .ok (.iload 8, 2) := by decide +kernel
theorem dX6_splits_145 : decode cX6_splits 145 = .ok (.iadd, 1) := by decide +kernel
theorem dX6_splits_146 : decode cX6_splits 146 = .ok (.iload 11, 2) := by decide +kernel
theorem dX6_splits_148 : decode cX6_splits 148 = .ok (.aload_n 0, 1) := by decide +kernel
theorem dX6_splits_149 : decode cX6_splits 149 = .ok (.iload_n 1, 1) := by decide +kernel
theorem dX6_splits_150 : decode cX6_splits 150 = .ok (.iload 5, 2) := by decide +kernel
theorem dX6_splits_152 : decode cX6_splits 152 = .ok (.invokevirtual 60, 3) := by decide +kernel
theorem dX6_splits_155 : decode cX6_splits 155 = .ok (.iadd, 1) := by decide +kernel
theorem dX6_splits_156 : decode cX6_splits 156 = .ok (.invokevirtual 77, 3) := by decide +kernel
theorem dX6_splits_159 : decode cX6_splits 159 = .ok (.iconst 0, 1) := by decide +kernel
theorem dX6_splits_160 : decode cX6_splits 160 = .ok (.istore 10, 2) := by decide +kernel
theorem dX6_splits_162 : decode cX6_splits 162 = .ok (.goto (-97), 3) := by decide +kernel
theorem dX6_splits_165 : decode cX6_splits 165 = .ok (.aload_n 0, 1) := by decide +kernel
theorem dX6_splits_166 : decode cX6_splits 166 = .ok (.iload_n 1, 1) := by decide +kernel
theorem dX6_splits_167 : decode cX6_splits 167 = .ok (.iload 5, 2) := by decide +kernel
theorem dX6_splits_169 : decode cX6_splits 169 = .ok (.iload 7, 2) := by decide +kernel
theorem dX6_splits_171 : decode cX6_splits 171 = .ok (.iconst 1, 1) := by decide +kernel
theorem dX6_splits_172 : decode cX6_splits 172 = .ok (.iadd, 1) := by decide +kernel
theorem dX6_splits_173 : decode cX6_splits 173 = .ok (.invokevirtual 91, 3) := by decide +kernel
theorem dX6_splits_176 : decode cX6_splits 176 = .ok (.istore 11, 2) := by decide +kernel
theorem dX6_splits_178 : decode cX6_splits 178 = .ok (.aload_n 0, 1) := by decide +kernel
theorem dX6_splits_179 : decode cX6_splits 179 = .ok (.iload_n 1, 1) := by decide +kernel
theorem dX6_splits_180 : decode cX6_splits 180 = .ok (.iload 11, 2) := by decide +kernel
theorem dX6_splits_182 : decode cX6_splits 182 = .ok (.invokevirtual 74, 3) := by decide +kernel
theorem dX6_splits_185 : decode cX6_splits 185 = .ok (.aload_n 0, 1) := by decide +kernel
theorem dX6_splits_186 : decode cX6_splits 186 = .ok (.iload_n 1, 1) := by decide +kernel
theorem dX6_splits_187 : decode cX6_splits 187 = .ok (.iload 5, 2) := by decide +kernel
theorem dX6_splits_189 : decode cX6_splits 189 = .ok (.invokevirtual 74, 3) := by decide +kernel
theorem dX6_splits_192 : decode cX6_splits 192 = .ok (.isub, 1) := by decide +kernel
theorem dX6_splits_193 : decode cX6_splits 193 = .ok (.istore 12, 2) := by decide +kernel
theorem dX6_splits_195 : decode cX6_splits 195 = .ok (.iinc 7 1, 3) := by decide +kernel
theorem dX6_splits_198 : decode cX6_splits 198 = .ok (.iload 8, 2) := by decide +kernel
theorem dX6_splits_200 : decode cX6_splits 200 = .ok (.iload 12, 2) := by decide +kernel
theorem dX6_splits_202 : decode cX6_splits 202 = .ok (.if_icmp .ne 34, 3) := by decide +kernel
theorem dX6_splits_205 : decode cX6_splits 205 = .ok (.aload_n 0, 1) := by decide +kernel
theorem dX6_splits_206 : decode cX6_splits 206 = .ok (.iload_n 1, 1) := by decide +kernel
theorem dX6_splits_207 : decode cX6_splits 207 = .ok (.iload 5, 2) := by decide +kernel
theorem dX6_splits_209 : decode cX6_splits 209 = .ok (.iload 11, 2) := by decide +kernel
theorem dX6_splits_211 : decode cX6_splits 211 = .ok (.iload 7, 2) := by decide +kernel
theorem dX6_splits_213 : decode cX6_splits 213 = .ok (.iload_n 3, 1) := by decide +kernel
theorem dX6_splits_214 : decode cX6_splits 214 = .ok (.invokevirtual 95, 3) := by decide +kernel
theorem dX6_splits_217 : decode cX6_splits 217 = .ok (.aload_n 0, 1) := by decide +kernel
theorem dX6_splits_218 : decode cX6_splits 218 = .ok (.iload_n 1, 1) := by decide +kernel
theorem dX6_splits_219 : decode cX6_splits 219 = .ok (.iload 11, 2) := by decide +kernel
theorem dX6_splits_221 : decode cX6_splits 221 = .ok (.iload 6, 2) := by decide +kernel
theorem dX6_splits_223 : decode cX6_splits 223 = .ok (.iload 7, 2) := by decide +kernel
theorem dX6_splits_225 : decode cX6_splits 225 = .ok (.iload 4, 2) := by decide +kernel
theorem dX6_splits_227 : decode cX6_splits 227 = .ok (.invokevirtual 95, 3) := by decide +kernel
theorem dX6_splits_230 : decode cX6_splits 230 = .ok (.iconst 0, 1) := by decide +kernel
theorem dX6_splits_231 : decode cX6_splits 231 = .ok (.istore 10, 2) := by decide +kernel
theorem dX6_splits_233 : decode cX6_splits 233 = .ok (.goto 128, 3) := by decide +kernel
theorem dX6_splits_236 : decode cX6_splits 236 = .ok (.iload 8, 2) := by decide +kernel
theorem dX6_splits_238 : decode cX6_splits 238 = .ok (.iload 12, 2) := by decide +kernel
theorem dX6_splits_240 : decode cX6_splits 240 = .ok (.if_icmp .ge 7, 3) := by decide +kernel
theorem dX6_splits_243 : decode cX6_splits 243 = .ok (.iconst 1, 1) := by decide +kernel
theorem dX6_splits_244 : decode cX6_splits 244 = .ok (.goto 4, 3) := by decide +kernel
theorem dX6_splits_247 : decode cX6_splits 247 = .ok (.iconst 0, 1) := by decide +kernel
theorem dX6_splits_248 : decode cX6_splits 248 = .ok (.istore 13, 2) := by decide +kernel
theorem dX6_splits_250 : decode cX6_splits 250 = .ok (.aload_n 0, 1) := by decide +kernel
theorem dX6_splits_251 : decode cX6_splits 251 = .ok (.getfield 29, 3) := by decide +kernel
theorem dX6_splits_254 : decode cX6_splits 254 = .ok (.iload 9, 2) := by decide +kernel
theorem dX6_splits_256 : decode cX6_splits 256 = .ok (.iload 13, 2) := by decide +kernel
theorem dX6_splits_258 : decode cX6_splits 258 = .ok (.ifCond .eq 8, 3) := by decide +kernel
theorem dX6_splits_261 : decode cX6_splits 261 = .ok (.iload 11, 2) := by decide +kernel
theorem dX6_splits_263 : decode cX6_splits 263 = .ok (.goto 5, 3) := by decide +kernel
theorem dX6_splits_266 : decode cX6_splits 266 = .ok (.iload 5, 2) := by decide +kernel
theorem dX6_splits_268 : decode cX6_splits 268 = .ok (.iastore, 1) := by decide +kernel
theorem dX6_splits_269 : decode cX6_splits 269 = .ok (.aload_n 0, 1) := by decide +kernel
theorem dX6_splits_270 : decode cX6_splits 270 = .ok (.getfield 32, 3) := by decide +kernel
theorem dX6_splits_273 : decode cX6_splits 273 = .ok (.iload 9, 2) := by decide +kernel
theorem dX6_splits_275 : decode cX6_splits 275 = .ok (.iload 13, 2) := by decide +kernel
theorem dX6_splits_277 : decode cX6_splits 277 = .ok (.ifCond .eq 8, 3) := by decide +kernel
theorem dX6_splits_280 : decode cX6_splits 280 = .ok (.iload 6, 2) := by decide +kernel
theorem dX6_splits_282 : decode cX6_splits 282 = .ok (.goto 5, 3) := by decide +kernel
theorem dX6_splits_285 : decode cX6_splits 285 = .ok (.iload 11, 2) := by decide +kernel
theorem dX6_splits_287 : decode cX6_splits 287 = .ok (.iastore, 1) := by decide +kernel
theorem dX6_splits_288 : decode cX6_splits 288 = .ok (.aload_n 0, 1) := by decide +kernel
theorem dX6_splits_289 : decode cX6_splits 289 = .ok (.getfield 35, 3) := by decide +kernel
theorem dX6_splits_292 : decode cX6_splits 292 = .ok (.iload 9, 2) := by decide +kernel
theorem dX6_splits_294 : decode cX6_splits 294 = .ok (.iload 7, 2) := by decide +kernel
theorem dX6_splits_296 : decode cX6_splits 296 = .ok (.iastore, 1) := by decide +kernel
theorem dX6_splits_297 : decode cX6_splits 297 = .ok (.aload_n 0, 1) := by decide +kernel
theorem dX6_splits_298 : decode cX6_splits 298 = .ok (.getfield 38, 3) := by decide +kernel
theorem dX6_splits_301 : decode cX6_splits 301 = .ok (.iload 9, 2) := by decide +kernel
theorem dX6_splits_303 : decode cX6_splits 303 = .ok (.iload 13, 2) := by decide +kernel
theorem dX6_splits_305 : decode cX6_splits 305 = .ok (.ifCond .eq 7, 3) := by decide +kernel
theorem dX6_splits_308 : decode cX6_splits 308 = .ok (.iconst 1, 1) := by decide +kernel
theorem dX6_splits_309 : decode cX6_splits 309 = .ok (.goto 4, 3) := by decide +kernel
theorem dX6_splits_312 : decode cX6_splits 312 = .ok (.iconst 0, 1) := by decide +kernel
theorem dX6_splits_313 : decode cX6_splits 313 = .ok (.iastore, 1) := by decide +kernel
theorem dX6_splits_314 : decode cX6_splits 314 = .ok (.iinc 9 1, 3) := by decide +kernel
theorem dX6_splits_317 : decode cX6_splits 317 = .ok (.iload 13, 2) := by decide +kernel
theorem dX6_splits_319 : decode cX6_splits 319 = .ok (.ifCond .eq 8, 3) := by decide +kernel
theorem dX6_splits_322 : decode cX6_splits 322 = .ok (.iload 11, 2) := by decide +kernel
theorem dX6_splits_324 : decode cX6_splits 324 = .ok (.goto 5, 3) := by decide +kernel
theorem dX6_splits_327 : decode cX6_splits 327 = .ok (.iload 6, 2) := by decide +kernel
theorem dX6_splits_329 : decode cX6_splits 329 = .ok (.istore 6, 2) := by decide +kernel
theorem dX6_splits_331 : decode cX6_splits 331 = .ok (.iload 13, 2) := by decide +kernel
theorem dX6_splits_333 : decode cX6_splits 333 = .ok (.ifCond .eq 8, 3) := by decide +kernel
theorem dX6_splits_336 : decode cX6_splits 336 = .ok (.iload 5, 2) := by decide +kernel
theorem dX6_splits_338 : decode cX6_splits 338 = .ok (.goto 5, 3) := by decide +kernel
theorem dX6_splits_341 : decode cX6_splits 341 = .ok (.iload 11, 2) := by decide +kernel
theorem dX6_splits_343 : decode cX6_splits 343 = .ok (.istore 5, 2) := by decide +kernel
theorem dX6_splits_345 : decode cX6_splits 345 = .ok (.iload 8, 2) := by decide +kernel
theorem dX6_splits_347 : decode cX6_splits 347 = .ok (.iload 13, 2) := by decide +kernel
theorem dX6_splits_349 : decode cX6_splits 349 = .ok (.ifCond .eq 7, 3) := by decide +kernel
theorem dX6_splits_352 : decode cX6_splits 352 = .ok (.iconst 0, 1) := by decide +kernel
theorem dX6_splits_353 : decode cX6_splits 353 = .ok (.goto 5, 3) := by decide +kernel
theorem dX6_splits_356 : decode cX6_splits 356 = .ok (.iload 12, 2) := by decide +kernel
theorem dX6_splits_358 : decode cX6_splits 358 = .ok (.isub, 1) := by decide +kernel
theorem dX6_splits_359 : decode cX6_splits 359 = .ok (.istore 8, 2) := by decide +kernel
theorem dX6_splits_361 : decode cX6_splits 361 = .ok (.goto (-296), 3) := by decide +kernel
theorem dX6_splits_364 : decode cX6_splits 364 = .ok (.iload 9, 2) := by decide +kernel
theorem dX6_splits_366 : decode cX6_splits 366 = .ok (.ifCond .le 85, 3) := by decide +kernel
theorem dX6_splits_369 : decode cX6_splits 369 = .ok (.iinc 9 (-1), 3) := by decide +kernel
theorem dX6_splits_372 : decode cX6_splits 372 = .ok (.aload_n 0, 1) := by decide +kernel
theorem dX6_splits_373 : decode cX6_splits 373 = .ok (.iload_n 1, 1) := by decide +kernel
theorem dX6_splits_374 : decode cX6_splits 374 = .ok (.aload_n 0, 1) := by decide +kernel
theorem dX6_splits_375 : decode cX6_splits 375 = .ok (.getfield 29, 3) := by decide +kernel
theorem dX6_splits_378 : decode cX6_splits 378 = .ok (.iload 9, 2) := by decide +kernel
theorem dX6_splits_380 : decode cX6_splits 380 = .ok (.iaload, 1) := by decide +kernel
theorem dX6_splits_381 : decode cX6_splits 381 = .ok (.aload_n 0, 1) := by decide +kernel
theorem dX6_splits_382 : decode cX6_splits 382 = .ok (.getfield 32, 3) := by decide +kernel
theorem dX6_splits_385 : decode cX6_splits 385 = .ok (.iload 9, 2) := by decide +kernel
theorem dX6_splits_387 : decode cX6_splits 387 = .ok (.iaload, 1) := by decide +kernel
theorem dX6_splits_388 : decode cX6_splits 388 = .ok (.aload_n 0, 1) := by decide +kernel
theorem dX6_splits_389 : decode cX6_splits 389 = .ok (.getfield 35, 3) := by decide +kernel
theorem dX6_splits_392 : decode cX6_splits 392 = .ok (.iload 9, 2) := by decide +kernel
theorem dX6_splits_394 : decode cX6_splits 394 = .ok (.iaload, 1) := by decide +kernel
theorem dX6_splits_395 : decode cX6_splits 395 = .ok (.bipush 12, 2) := by decide +kernel
theorem dX6_splits_397 : decode cX6_splits 397 = .ok (.invokevirtual 95, 3) := by decide +kernel
theorem dX6_splits_400 : decode cX6_splits 400 = .ok (.aload_n 0, 1) := by decide +kernel
theorem dX6_splits_401 : decode cX6_splits 401 = .ok (.getfield 38, 3) := by decide +kernel
theorem dX6_splits_404 : decode cX6_splits 404 = .ok (.iload 9, 2) := by decide +kernel
theorem dX6_splits_406 : decode cX6_splits 406 = .ok (.iaload, 1) := by decide +kernel
theorem dX6_splits_407 : decode cX6_splits 407 = .ok (.iconst 1, 1) := by decide +kernel
theorem dX6_splits_408 : decode cX6_splits 408 = .ok (.if_icmp .ne 24, 3) := by decide +kernel
theorem dX6_splits_411 : decode cX6_splits 411 = .ok (.aload_n 0, 1) := by decide +kernel
theorem dX6_splits_412 : decode cX6_splits 412 = .ok (.iload 4, 2) := by decide +kernel
theorem dX6_splits_414 : decode cX6_splits 414 = .ok (.bipush 12, 2) := by decide +kernel
theorem dX6_splits_416 : decode cX6_splits 416 = .ok (.bipush 13, 2) := by decide +kernel
theorem dX6_splits_418 : decode cX6_splits 418 = .ok (.invokevirtual 99, 3) := by decide +kernel
theorem dX6_splits_421 : decode cX6_splits 421 = .ok (.aload_n 0, 1) := by decide +kernel
theorem dX6_splits_422 : decode cX6_splits 422 = .ok (.bipush 13, 2) := by decide +kernel
theorem dX6_splits_424 : decode cX6_splits 424 = .ok (.iload 4, 2) := by decide +kernel
theorem dX6_splits_426 : decode cX6_splits 426 = .ok (.invokevirtual 81, 3) := by decide +kernel
theorem dX6_splits_429 : decode cX6_splits 429 = .ok (.goto (-65), 3) := by decide +kernel
theorem dX6_splits_432 : decode cX6_splits 432 = .ok (.aload_n 0, 1) := by decide +kernel
theorem dX6_splits_433 : decode cX6_splits 433 = .ok (.bipush 12, 2) := by decide +kernel
theorem dX6_splits_435 : decode cX6_splits 435 = .ok (.iload_n 3, 1) := by decide +kernel
theorem dX6_splits_436 : decode cX6_splits 436 = .ok (.bipush 13, 2) := by decide +kernel
theorem dX6_splits_438 : decode cX6_splits 438 = .ok (.invokevirtual 99, 3) := by decide +kernel
theorem dX6_splits_441 : decode cX6_splits 441 = .ok (.aload_n 0, 1) := by decide +kernel
theorem dX6_splits_442 : decode cX6_splits 442 = .ok (.bipush 13, 2) := by decide +kernel
theorem dX6_splits_444 : decode cX6_splits 444 = .ok (.iload_n 3, 1) := by decide +kernel
theorem dX6_splits_445 : decode cX6_splits 445 = .ok (.invokevirtual 81, 3) := by decide +kernel
theorem dX6_splits_448 : decode cX6_splits 448 = .ok (.goto (-84), 3) := by decide +kernel
theorem dX6_splits_451 : decode cX6_splits 451 = .ok (.return_, 1) := by decide +kernel
theorem dX6_builtLevel_0 : decode cX6_builtLevel 0 = .ok (.iload_n 0, 1) := by decide +kernel
theorem dX6_builtLevel_1 : decode cX6_builtLevel 1 = .ok (.istore_n 2, 1) := by decide +kernel
theorem dX6_builtLevel_2 : decode cX6_builtLevel 2 = .ok (.iload_n 1, 1) := by decide +kernel
theorem dX6_builtLevel_3 : decode cX6_builtLevel 3 = .ok (.istore_n 3, 1) := by decide +kernel
theorem dX6_builtLevel_4 : decode cX6_builtLevel 4 = .ok (.iconst 0, 1) := by decide +kernel
theorem dX6_builtLevel_5 : decode cX6_builtLevel 5 = .ok (.istore 4, 2) := by decide +kernel
theorem dX6_builtLevel_7 : decode cX6_builtLevel 7 = .ok (.iload_n 3, 1) := by decide +kernel
theorem dX6_builtLevel_8 : decode cX6_builtLevel 8 = .ok (.iconst 1, 1) := by decide +kernel
theorem dX6_builtLevel_9 : decode cX6_builtLevel 9 = .ok (.if_icmp .le 58, 3) := by decide +kernel
theorem dX6_builtLevel_12 : decode cX6_builtLevel 12 = .ok (.iload_n 3, 1) := by decide +kernel
theorem dX6_builtLevel_13 : decode cX6_builtLevel 13 = .ok (.iconst 1, 1) := by decide +kernel
theorem dX6_builtLevel_14 : decode cX6_builtLevel 14 = .ok (.iadd, 1) := by decide +kernel
theorem dX6_builtLevel_15 : decode cX6_builtLevel 15 = .ok (.iconst 2, 1) := by decide +kernel
theorem dX6_builtLevel_16 : decode cX6_builtLevel 16 = .ok (.idiv, 1) := by decide +kernel
theorem dX6_builtLevel_17 : decode cX6_builtLevel 17 = .ok (.istore 5, 2) := by decide +kernel
theorem dX6_builtLevel_19 : decode cX6_builtLevel 19 = .ok (.iload_n 2, 1) := by decide +kernel
theorem dX6_builtLevel_20 : decode cX6_builtLevel 20 = .ok (.iload 5, 2) := by decide +kernel
theorem dX6_builtLevel_22 : decode cX6_builtLevel 22 = .ok (.if_icmp .ge 7, 3) := by decide +kernel
theorem dX6_builtLevel_25 : decode cX6_builtLevel 25 = .ok (.iconst 1, 1) := by decide +kernel
theorem dX6_builtLevel_26 : decode cX6_builtLevel 26 = .ok (.goto 4, 3) := by decide +kernel
theorem dX6_builtLevel_29 : decode cX6_builtLevel 29 = .ok (.iconst 0, 1) := by decide +kernel
theorem dX6_builtLevel_30 : decode cX6_builtLevel 30 = .ok (.istore 6, 2) := by decide +kernel
theorem dX6_builtLevel_32 : decode cX6_builtLevel 32 = .ok (.iload_n 2, 1) := by decide +kernel
theorem dX6_builtLevel_33 : decode cX6_builtLevel 33 = .ok (.iload 6, 2) := by decide +kernel
theorem dX6_builtLevel_35 : decode cX6_builtLevel 35 = .ok (.ifCond .eq 7, 3) := by decide +kernel
theorem dX6_builtLevel_38 : decode cX6_builtLevel 38 = .ok (.iconst 0, 1) := by decide +kernel
theorem dX6_builtLevel_39 : decode cX6_builtLevel 39 = .ok (.goto 5, 3) := by decide +kernel
theorem dX6_builtLevel_42 : decode cX6_builtLevel 42 = .ok (.iload 5, 2) := by decide +kernel
theorem dX6_builtLevel_44 : decode cX6_builtLevel 44 = .ok (.isub, 1) := by decide +kernel
theorem dX6_builtLevel_45 : decode cX6_builtLevel 45 = .ok (.istore_n 2, 1) := by decide +kernel
theorem dX6_builtLevel_46 : decode cX6_builtLevel 46 = .ok (.iload 6, 2) := by decide +kernel
theorem dX6_builtLevel_48 : decode cX6_builtLevel 48 = .ok (.ifCond .eq 8, 3) := by decide +kernel
theorem dX6_builtLevel_51 : decode cX6_builtLevel 51 = .ok (.iload 5, 2) := by decide +kernel
theorem dX6_builtLevel_53 : decode cX6_builtLevel 53 = .ok (.goto 7, 3) := by decide +kernel
theorem dX6_builtLevel_56 : decode cX6_builtLevel 56 = .ok (.iload_n 3, 1) := by decide +kernel
theorem dX6_builtLevel_57 : decode cX6_builtLevel 57 = .ok (.iload 5, 2) := by decide +kernel
theorem dX6_builtLevel_59 : decode cX6_builtLevel 59 = .ok (.isub, 1) := by decide +kernel
theorem dX6_builtLevel_60 : decode cX6_builtLevel 60 = .ok (.istore_n 3, 1) := by decide +kernel
theorem dX6_builtLevel_61 : decode cX6_builtLevel 61 = .ok (.iinc 4 1, 3) := by decide +kernel
theorem dX6_builtLevel_64 : decode cX6_builtLevel 64 = .ok (.goto (-57), 3) := by decide +kernel
theorem dX6_builtLevel_67 : decode cX6_builtLevel 67 = .ok (.iload 4, 2) := by decide +kernel
theorem dX6_builtLevel_69 : decode cX6_builtLevel 69 = .ok (.ireturn, 1) := by decide +kernel
theorem dX6_buildsAnew_0 : decode cX6_buildsAnew 0 = .ok (.iconst 0, 1) := by decide +kernel
theorem dX6_buildsAnew_1 : decode cX6_buildsAnew 1 = .ok (.istore_n 2, 1) := by decide +kernel
theorem dX6_buildsAnew_2 : decode cX6_buildsAnew 2 = .ok (.iload_n 2, 1) := by decide +kernel
theorem dX6_buildsAnew_3 : decode cX6_buildsAnew 3 = .ok (.aload_n 0, 1) := by decide +kernel
theorem dX6_buildsAnew_4 : decode cX6_buildsAnew 4 = .ok (.iload_n 1, 1) := by decide +kernel
theorem dX6_buildsAnew_5 : decode cX6_buildsAnew 5 = .ok (.invokevirtual 45, 3) := by decide +kernel
theorem dX6_buildsAnew_8 : decode cX6_buildsAnew 8 = .ok (.if_icmp .ge 34, 3) := by decide +kernel
theorem dX6_buildsAnew_11 : decode cX6_buildsAnew 11 = .ok (.aload_n 0, 1) := by decide +kernel
theorem dX6_buildsAnew_12 : decode cX6_buildsAnew 12 = .ok (.getfield 7, 3) := by decide +kernel
theorem dX6_buildsAnew_15 : decode cX6_buildsAnew 15 = .ok (.sipush 1202, 3) := by decide +kernel
theorem dX6_buildsAnew_18 : decode cX6_buildsAnew 18 = .ok (.iload_n 1, 1) := by decide +kernel
theorem dX6_buildsAnew_19 : decode cX6_buildsAnew 19 = .ok (.imul, 1) := by decide +kernel
theorem dX6_buildsAnew_20 : decode cX6_buildsAnew 20 = .ok (.sipush 402, 3) := by decide +kernel
theorem dX6_buildsAnew_23 : decode cX6_buildsAnew 23 = .ok (.iadd, 1) := by decide +kernel
theorem dX6_buildsAnew_24 : decode cX6_buildsAnew 24 = .ok (.iload_n 2, 1) := by decide +kernel
theorem dX6_buildsAnew_25 : decode cX6_buildsAnew 25 = .ok (.iadd, 1) := by decide +kernel
theorem dX6_buildsAnew_26 : decode cX6_buildsAnew 26 = .ok (.iload_n 2, 1) := by decide +kernel
theorem dX6_buildsAnew_27 : decode cX6_buildsAnew 27 = .ok (.aload_n 0, 1) := by decide +kernel
theorem dX6_buildsAnew_28 : decode cX6_buildsAnew 28 = .ok (.iload_n 1, 1) := by decide +kernel
theorem dX6_buildsAnew_29 : decode cX6_buildsAnew 29 = .ok (.invokevirtual 45, 3) := by decide +kernel
theorem dX6_buildsAnew_32 : decode cX6_buildsAnew 32 = .ok (.invokestatic 102, 3) := by decide +kernel
theorem dX6_buildsAnew_35 : decode cX6_buildsAnew 35 = .ok (.iastore, 1) := by decide +kernel
theorem dX6_buildsAnew_36 : decode cX6_buildsAnew 36 = .ok (.iinc 2 1, 3) := by decide +kernel
theorem dX6_buildsAnew_39 : decode cX6_buildsAnew 39 = .ok (.goto (-37), 3) := by decide +kernel
theorem dX6_buildsAnew_42 : decode cX6_buildsAnew 42 = .ok (.return_, 1) := by decide +kernel
theorem dX6_packs_0 : decode cX6_packs 0 = .ok (.aload_n 0, 1) := by decide +kernel
theorem dX6_packs_1 : decode cX6_packs 1 = .ok (.getfield 7, 3) := by decide +kernel
theorem dX6_packs_4 : decode cX6_packs 4 = .ok (.sipush 1202, 3) := by decide +kernel
theorem dX6_packs_7 : decode cX6_packs 7 = .ok (.iload_n 1, 1) := by decide +kernel
theorem dX6_packs_8 : decode cX6_packs 8 = .ok (.imul, 1) := by decide +kernel
theorem dX6_packs_9 : decode cX6_packs 9 = .ok (.iconst 0, 1) := by decide +kernel
theorem dX6_packs_10 : decode cX6_packs 10 = .ok (.iadd, 1) := by decide +kernel
theorem dX6_packs_11 : decode cX6_packs 11 = .ok (.iconst 0, 1) := by decide +kernel
theorem dX6_packs_12 : decode cX6_packs 12 = .ok (.iastore, 1) := by decide +kernel
theorem dX6_packs_13 : decode cX6_packs 13 = .ok (.iconst 0, 1) := by decide +kernel
theorem dX6_packs_14 : decode cX6_packs 14 = .ok (.istore_n 2, 1) := by decide +kernel
theorem dX6_packs_15 : decode cX6_packs 15 = .ok (.iload_n 2, 1) := by decide +kernel
theorem dX6_packs_16 : decode cX6_packs 16 = .ok (.aload_n 0, 1) := by decide +kernel
theorem dX6_packs_17 : decode cX6_packs 17 = .ok (.iload_n 1, 1) := by decide +kernel
theorem dX6_packs_18 : decode cX6_packs 18 = .ok (.invokevirtual 49, 3) := by decide +kernel
theorem dX6_packs_21 : decode cX6_packs 21 = .ok (.if_icmp .ge 49, 3) := by decide +kernel
theorem dX6_packs_24 : decode cX6_packs 24 = .ok (.aload_n 0, 1) := by decide +kernel
theorem dX6_packs_25 : decode cX6_packs 25 = .ok (.iload_n 1, 1) := by decide +kernel
theorem dX6_packs_26 : decode cX6_packs 26 = .ok (.invokevirtual 49, 3) := by decide +kernel
theorem dX6_packs_29 : decode cX6_packs 29 = .ok (.iload_n 2, 1) := by decide +kernel
theorem dX6_packs_30 : decode cX6_packs 30 = .ok (.isub, 1) := by decide +kernel
theorem dX6_packs_31 : decode cX6_packs 31 = .ok (.istore_n 3, 1) := by decide +kernel
theorem dX6_packs_32 : decode cX6_packs 32 = .ok (.aload_n 0, 1) := by decide +kernel
theorem dX6_packs_33 : decode cX6_packs 33 = .ok (.iload_n 1, 1) := by decide +kernel
theorem dX6_packs_34 : decode cX6_packs 34 = .ok (.iload_n 3, 1) := by decide +kernel
theorem dX6_packs_35 : decode cX6_packs 35 = .ok (.aload_n 0, 1) := by decide +kernel
theorem dX6_packs_36 : decode cX6_packs 36 = .ok (.getfield 13, 3) := by decide +kernel
theorem dX6_packs_39 : decode cX6_packs 39 = .ok (.iconst 0, 1) := by decide +kernel
theorem dX6_packs_40 : decode cX6_packs 40 = .ok (.iaload, 1) := by decide +kernel
theorem dX6_packs_41 : decode cX6_packs 41 = .ok (.if_icmp .ge 7, 3) := by decide +kernel
theorem dX6_packs_44 : decode cX6_packs 44 = .ok (.iload_n 3, 1) := by decide +kernel
theorem dX6_packs_45 : decode cX6_packs 45 = .ok (.goto 9, 3) := by decide +kernel
theorem dX6_packs_48 : decode cX6_packs 48 = .ok (.aload_n 0, 1) := by decide +kernel
theorem dX6_packs_49 : decode cX6_packs 49 = .ok (.getfield 13, 3) := by decide +kernel
theorem dX6_packs_52 : decode cX6_packs 52 = .ok (.iconst 0, 1) := by decide +kernel
theorem dX6_packs_53 : decode cX6_packs 53 = .ok (.iaload, 1) := by decide +kernel
theorem dX6_packs_54 : decode cX6_packs 54 = .ok (.iconst 0, 1) := by decide +kernel
theorem dX6_packs_55 : decode cX6_packs 55 = .ok (.invokevirtual 70, 3) := by decide +kernel
theorem dX6_packs_58 : decode cX6_packs 58 = .ok (.iload_n 2, 1) := by decide +kernel
theorem dX6_packs_59 : decode cX6_packs 59 = .ok (.aload_n 0, 1) := by decide +kernel
theorem dX6_packs_60 : decode cX6_packs 60 = .ok (.getfield 13, 3) := by decide +kernel
theorem dX6_packs_63 : decode cX6_packs 63 = .ok (.iconst 0, 1) := by decide +kernel
theorem dX6_packs_64 : decode cX6_packs 64 = .ok (.iaload, 1) := by decide +kernel
theorem dX6_packs_65 : decode cX6_packs 65 = .ok (.iadd, 1) := by decide +kernel
theorem dX6_packs_66 : decode cX6_packs 66 = .ok (.istore_n 2, 1) := by decide +kernel
theorem dX6_packs_67 : decode cX6_packs 67 = .ok (.goto (-52), 3) := by decide +kernel
theorem dX6_packs_70 : decode cX6_packs 70 = .ok (.aload_n 0, 1) := by decide +kernel
theorem dX6_packs_71 : decode cX6_packs 71 = .ok (.iload_n 1, 1) := by decide +kernel
theorem dX6_packs_72 : decode cX6_packs 72 = .ok (.invokevirtual 105, 3) := by decide +kernel
theorem dX6_packs_75 : decode cX6_packs 75 = .ok (.return_, 1) := by decide +kernel
theorem dX6_hasEnough_0 : decode cX6_hasEnough 0 = .ok (.iconst 1, 1) := by decide +kernel
theorem dX6_hasEnough_1 : decode cX6_hasEnough 1 = .ok (.istore_n 2, 1) := by decide +kernel
theorem dX6_hasEnough_2 : decode cX6_hasEnough 2 = .ok (.iconst 1, 1) := by decide +kernel
theorem dX6_hasEnough_3 : decode cX6_hasEnough 3 = .ok (.istore_n 3, 1) := by decide +kernel
theorem dX6_hasEnough_4 : decode cX6_hasEnough 4 = .ok (.iconst 0, 1) := by decide +kernel
theorem dX6_hasEnough_5 : decode cX6_hasEnough 5 = .ok (.istore 4, 2) := by decide +kernel
theorem dX6_hasEnough_7 : decode cX6_hasEnough 7 = .ok (.iload 4, 2) := by decide +kernel
theorem dX6_hasEnough_9 : decode cX6_hasEnough 9 = .ok (.aload_n 0, 1) := by decide +kernel
theorem dX6_hasEnough_10 : decode cX6_hasEnough 10 = .ok (.iload_n 1, 1) := by decide +kernel
theorem dX6_hasEnough_11 : decode cX6_hasEnough 11 = .ok (.invokevirtual 108, 3) := by decide +kernel
theorem dX6_hasEnough_14 : decode cX6_hasEnough 14 = .ok (.if_icmp .ge 26, 3) := by decide +kernel
theorem dX6_hasEnough_17 : decode cX6_hasEnough 17 = .ok (.iload_n 3, 1) := by decide +kernel
theorem dX6_hasEnough_18 : decode cX6_hasEnough 18 = .ok (.sipush 400, 3) := by decide +kernel
theorem dX6_hasEnough_21 : decode cX6_hasEnough 21 = .ok (.if_icmp .gt 19, 3) := by decide +kernel
theorem dX6_hasEnough_24 : decode cX6_hasEnough 24 = .ok (.iload_n 2, 1) := by decide +kernel
theorem dX6_hasEnough_25 : decode cX6_hasEnough 25 = .ok (.iload_n 3, 1) := by decide +kernel
theorem dX6_hasEnough_26 : decode cX6_hasEnough 26 = .ok (.iadd, 1) := by decide +kernel
theorem dX6_hasEnough_27 : decode cX6_hasEnough 27 = .ok (.istore 5, 2) := by decide +kernel
theorem dX6_hasEnough_29 : decode cX6_hasEnough 29 = .ok (.iload_n 3, 1) := by decide +kernel
theorem dX6_hasEnough_30 : decode cX6_hasEnough 30 = .ok (.istore_n 2, 1) := by decide +kernel
theorem dX6_hasEnough_31 : decode cX6_hasEnough 31 = .ok (.iload 5, 2) := by decide +kernel
theorem dX6_hasEnough_33 : decode cX6_hasEnough 33 = .ok (.istore_n 3, 1) := by decide +kernel
theorem dX6_hasEnough_34 : decode cX6_hasEnough 34 = .ok (.iinc 4 1, 3) := by decide +kernel
theorem dX6_hasEnough_37 : decode cX6_hasEnough 37 = .ok (.goto (-30), 3) := by decide +kernel
theorem dX6_hasEnough_40 : decode cX6_hasEnough 40 = .ok (.aload_n 0, 1) := by decide +kernel
theorem dX6_hasEnough_41 : decode cX6_hasEnough 41 = .ok (.iload_n 1, 1) := by decide +kernel
theorem dX6_hasEnough_42 : decode cX6_hasEnough 42 = .ok (.invokevirtual 45, 3) := by decide +kernel
theorem dX6_hasEnough_45 : decode cX6_hasEnough 45 = .ok (.ifCond .eq 12, 3) := by decide +kernel
theorem dX6_hasEnough_48 : decode cX6_hasEnough 48 = .ok (.aload_n 0, 1) := by decide +kernel
theorem dX6_hasEnough_49 : decode cX6_hasEnough 49 = .ok (.iload_n 1, 1) := by decide +kernel
theorem dX6_hasEnough_50 : decode cX6_hasEnough 50 = .ok (.invokevirtual 49, 3) := by decide +kernel
theorem dX6_hasEnough_53 : decode cX6_hasEnough 53 = .ok (.iload_n 3, 1) := by decide +kernel
theorem dX6_hasEnough_54 : decode cX6_hasEnough 54 = .ok (.if_icmp .lt 7, 3) := by decide +kernel
theorem dX6_hasEnough_57 : decode cX6_hasEnough 57 = .ok (.iconst 1, 1) := by decide +kernel
theorem dX6_hasEnough_58 : decode cX6_hasEnough 58 = .ok (.goto 4, 3) := by decide +kernel
theorem dX6_hasEnough_61 : decode cX6_hasEnough 61 = .ok (.iconst 0, 1) := by decide +kernel
theorem dX6_hasEnough_62 : decode cX6_hasEnough 62 = .ok (.ireturn, 1) := by decide +kernel
theorem dX6_balances_0 : decode cX6_balances 0 = .ok (.aload_n 0, 1) := by decide +kernel
theorem dX6_balances_1 : decode cX6_balances 1 = .ok (.getfield 13, 3) := by decide +kernel
theorem dX6_balances_4 : decode cX6_balances 4 = .ok (.iconst 1, 1) := by decide +kernel
theorem dX6_balances_5 : decode cX6_balances 5 = .ok (.iaload, 1) := by decide +kernel
theorem dX6_balances_6 : decode cX6_balances 6 = .ok (.iconst 1, 1) := by decide +kernel
theorem dX6_balances_7 : decode cX6_balances 7 = .ok (.if_icmp .ne 26, 3) := by decide +kernel
theorem dX6_balances_10 : decode cX6_balances 10 = .ok (.aload_n 0, 1) := by decide +kernel
theorem dX6_balances_11 : decode cX6_balances 11 = .ok (.iconst 0, 1) := by decide +kernel
theorem dX6_balances_12 : decode cX6_balances 12 = .ok (.invokevirtual 111, 3) := by decide +kernel
theorem dX6_balances_15 : decode cX6_balances 15 = .ok (.ifCond .ne 18, 3) := by decide +kernel
theorem dX6_balances_18 : decode cX6_balances 18 = .ok (.aload_n 0, 1) := by decide +kernel
theorem dX6_balances_19 : decode cX6_balances 19 = .ok (.iconst 0, 1) := by decide +kernel
theorem dX6_balances_20 : decode cX6_balances 20 = .ok (.invokevirtual 105, 3) := by decide +kernel
theorem dX6_balances_23 : decode cX6_balances 23 = .ok (.aload_n 0, 1) := by decide +kernel
theorem dX6_balances_24 : decode cX6_balances 24 = .ok (.getfield 13, 3) := by decide +kernel
theorem dX6_balances_27 : decode cX6_balances 27 = .ok (.iconst 2, 1) := by decide +kernel
theorem dX6_balances_28 : decode cX6_balances 28 = .ok (.dup2, 1) := by decide +kernel
theorem dX6_balances_29 : decode cX6_balances 29 = .ok (.iaload, 1) := by decide +kernel
theorem dX6_balances_30 : decode cX6_balances 30 = .ok (.iconst 1, 1) := by decide +kernel
theorem dX6_balances_31 : decode cX6_balances 31 = .ok (.iadd, 1) := by decide +kernel
theorem dX6_balances_32 : decode cX6_balances 32 = .ok (.iastore, 1) := by decide +kernel
theorem dX6_balances_33 : decode cX6_balances 33 = .ok (.return_, 1) := by decide +kernel
theorem dX6_inserts_0 : decode cX6_inserts 0 = .ok (.aload_n 0, 1) := by decide +kernel
theorem dX6_inserts_1 : decode cX6_inserts 1 = .ok (.iconst 0, 1) := by decide +kernel
theorem dX6_inserts_2 : decode cX6_inserts 2 = .ok (.iload_n 2, 1) := by decide +kernel
theorem dX6_inserts_3 : decode cX6_inserts 3 = .ok (.bipush 8, 2) := by decide +kernel
theorem dX6_inserts_5 : decode cX6_inserts 5 = .ok (.bipush 9, 2) := by decide +kernel
theorem dX6_inserts_7 : decode cX6_inserts 7 = .ok (.invokevirtual 114, 3) := by decide +kernel
theorem dX6_inserts_10 : decode cX6_inserts 10 = .ok (.aload_n 0, 1) := by decide +kernel
theorem dX6_inserts_11 : decode cX6_inserts 11 = .ok (.bipush 8, 2) := by decide +kernel
theorem dX6_inserts_13 : decode cX6_inserts 13 = .ok (.iload_n 1, 1) := by decide +kernel
theorem dX6_inserts_14 : decode cX6_inserts 14 = .ok (.bipush 14, 2) := by decide +kernel
theorem dX6_inserts_16 : decode cX6_inserts 16 = .ok (.invokevirtual 99, 3) := by decide +kernel
theorem dX6_inserts_19 : decode cX6_inserts 19 = .ok (.aload_n 0, 1) := by decide +kernel
theorem dX6_inserts_20 : decode cX6_inserts 20 = .ok (.bipush 14, 2) := by decide +kernel
theorem dX6_inserts_22 : decode cX6_inserts 22 = .ok (.bipush 9, 2) := by decide +kernel
theorem dX6_inserts_24 : decode cX6_inserts 24 = .ok (.iconst 0, 1) := by decide +kernel
theorem dX6_inserts_25 : decode cX6_inserts 25 = .ok (.invokevirtual 99, 3) := by decide +kernel
theorem dX6_inserts_28 : decode cX6_inserts 28 = .ok (.iconst 0, 1) := by decide +kernel
theorem dX6_inserts_29 : decode cX6_inserts 29 = .ok (.istore_n 3, 1) := by decide +kernel
theorem dX6_inserts_30 : decode cX6_inserts 30 = .ok (.iload_n 3, 1) := by decide +kernel
theorem dX6_inserts_31 : decode cX6_inserts 31 = .ok (.iconst 4, 1) := by decide +kernel
theorem dX6_inserts_32 : decode cX6_inserts 32 = .ok (.if_icmp .ge 41, 3) := by decide +kernel
theorem dX6_inserts_35 : decode cX6_inserts 35 = .ok (.aload_n 0, 1) := by decide +kernel
theorem dX6_inserts_36 : decode cX6_inserts 36 = .ok (.getfield 13, 3) := by decide +kernel
theorem dX6_inserts_39 : decode cX6_inserts 39 = .ok (.iconst 4, 1) := by decide +kernel
theorem dX6_inserts_40 : decode cX6_inserts 40 = .ok (.iload_n 3, 1) := by decide +kernel
theorem dX6_inserts_41 : decode cX6_inserts 41 = .ok (.iadd, 1) := by decide +kernel
theorem dX6_inserts_42 : decode cX6_inserts 42 = .ok (.dup2, 1) := by decide +kernel
theorem dX6_inserts_43 : decode cX6_inserts 43 = .ok (.iaload, 1) := by decide +kernel
theorem dX6_inserts_44 : decode cX6_inserts 44 = .ok (.aload_n 0, 1) := by decide +kernel
theorem dX6_inserts_45 : decode cX6_inserts 45 = .ok (.getfield 13, 3) := by decide +kernel
theorem dX6_inserts_48 : decode cX6_inserts 48 = .ok (.iconst 4, 1) := by decide +kernel
theorem dX6_inserts_49 : decode cX6_inserts 49 = .ok (.iload_n 3, 1) := by decide +kernel
theorem dX6_inserts_50 : decode cX6_inserts 50 = .ok (.iadd, 1) := by decide +kernel
theorem dX6_inserts_51 : decode cX6_inserts 51 = .ok (.iaload, 1) := by decide +kernel
theorem dX6_inserts_52 : decode cX6_inserts 52 = .ok (.iload_n 2, 1) := by decide +kernel
theorem dX6_inserts_53 : decode cX6_inserts 53 = .ok (.if_icmp .lt 11, 3) := by decide +kernel
theorem dX6_inserts_56 : decode cX6_inserts 56 = .ok (.aload_n 0, 1) := by decide +kernel
theorem dX6_inserts_57 : decode cX6_inserts 57 = .ok (.iload_n 1, 1) := by decide +kernel
theorem dX6_inserts_58 : decode cX6_inserts 58 = .ok (.invokevirtual 49, 3) := by decide +kernel
theorem dX6_inserts_61 : decode cX6_inserts 61 = .ok (.goto 4, 3) := by decide +kernel
theorem dX6_inserts_64 : decode cX6_inserts 64 = .ok (.iconst 0, 1) := by decide +kernel
theorem dX6_inserts_65 : decode cX6_inserts 65 = .ok (.iadd, 1) := by decide +kernel
theorem dX6_inserts_66 : decode cX6_inserts 66 = .ok (.iastore, 1) := by decide +kernel
theorem dX6_inserts_67 : decode cX6_inserts 67 = .ok (.iinc 3 1, 3) := by decide +kernel
theorem dX6_inserts_70 : decode cX6_inserts 70 = .ok (.goto (-40), 3) := by decide +kernel
theorem dX6_inserts_73 : decode cX6_inserts 73 = .ok (.return_, 1) := by decide +kernel
theorem dX6_parts_0 : decode cX6_parts 0 = .ok (.aload_n 0, 1) := by decide +kernel
theorem dX6_parts_1 : decode cX6_parts 1 = .ok (.iconst 0, 1) := by decide +kernel
theorem dX6_parts_2 : decode cX6_parts 2 = .ok (.iload_n 1, 1) := by decide +kernel
theorem dX6_parts_3 : decode cX6_parts 3 = .ok (.bipush 8, 2) := by decide +kernel
theorem dX6_parts_5 : decode cX6_parts 5 = .ok (.bipush 9, 2) := by decide +kernel
theorem dX6_parts_7 : decode cX6_parts 7 = .ok (.invokevirtual 114, 3) := by decide +kernel
theorem dX6_parts_10 : decode cX6_parts 10 = .ok (.aload_n 0, 1) := by decide +kernel
theorem dX6_parts_11 : decode cX6_parts 11 = .ok (.bipush 9, 2) := by decide +kernel
theorem dX6_parts_13 : decode cX6_parts 13 = .ok (.iload_n 2, 1) := by decide +kernel
theorem dX6_parts_14 : decode cX6_parts 14 = .ok (.iload_n 1, 1) := by decide +kernel
theorem dX6_parts_15 : decode cX6_parts 15 = .ok (.isub, 1) := by decide +kernel
theorem dX6_parts_16 : decode cX6_parts 16 = .ok (.bipush 10, 2) := by decide +kernel
theorem dX6_parts_18 : decode cX6_parts 18 = .ok (.bipush 11, 2) := by decide +kernel
theorem dX6_parts_20 : decode cX6_parts 20 = .ok (.invokevirtual 114, 3) := by decide +kernel
theorem dX6_parts_23 : decode cX6_parts 23 = .ok (.return_, 1) := by decide +kernel
theorem dX6_takesOut_0 : decode cX6_takesOut 0 = .ok (.aload_n 0, 1) := by decide +kernel
theorem dX6_takesOut_1 : decode cX6_takesOut 1 = .ok (.iload_n 1, 1) := by decide +kernel
theorem dX6_takesOut_2 : decode cX6_takesOut 2 = .ok (.iload_n 2, 1) := by decide +kernel
theorem dX6_takesOut_3 : decode cX6_takesOut 3 = .ok (.invokevirtual 117, 3) := by decide +kernel
theorem dX6_takesOut_6 : decode cX6_takesOut 6 = .ok (.aload_n 0, 1) := by decide +kernel
theorem dX6_takesOut_7 : decode cX6_takesOut 7 = .ok (.bipush 8, 2) := by decide +kernel
theorem dX6_takesOut_9 : decode cX6_takesOut 9 = .ok (.bipush 11, 2) := by decide +kernel
theorem dX6_takesOut_11 : decode cX6_takesOut 11 = .ok (.iconst 0, 1) := by decide +kernel
theorem dX6_takesOut_12 : decode cX6_takesOut 12 = .ok (.invokevirtual 99, 3) := by decide +kernel
theorem dX6_takesOut_15 : decode cX6_takesOut 15 = .ok (.iconst 0, 1) := by decide +kernel
theorem dX6_takesOut_16 : decode cX6_takesOut 16 = .ok (.istore_n 3, 1) := by decide +kernel
theorem dX6_takesOut_17 : decode cX6_takesOut 17 = .ok (.iload_n 3, 1) := by decide +kernel
theorem dX6_takesOut_18 : decode cX6_takesOut 18 = .ok (.iconst 4, 1) := by decide +kernel
theorem dX6_takesOut_19 : decode cX6_takesOut 19 = .ok (.if_icmp .ge 54, 3) := by decide +kernel
theorem dX6_takesOut_22 : decode cX6_takesOut 22 = .ok (.aload_n 0, 1) := by decide +kernel
theorem dX6_takesOut_23 : decode cX6_takesOut 23 = .ok (.getfield 13, 3) := by decide +kernel
theorem dX6_takesOut_26 : decode cX6_takesOut 26 = .ok (.iconst 4, 1) := by decide +kernel
theorem dX6_takesOut_27 : decode cX6_takesOut 27 = .ok (.iload_n 3, 1) := by decide +kernel
theorem dX6_takesOut_28 : decode cX6_takesOut 28 = .ok (.iadd, 1) := by decide +kernel
theorem dX6_takesOut_29 : decode cX6_takesOut 29 = .ok (.iaload, 1) := by decide +kernel
theorem dX6_takesOut_30 : decode cX6_takesOut 30 = .ok (.istore 4, 2) := by decide +kernel
theorem dX6_takesOut_32 : decode cX6_takesOut 32 = .ok (.aload_n 0, 1) := by decide +kernel
theorem dX6_takesOut_33 : decode cX6_takesOut 33 = .ok (.getfield 13, 3) := by decide +kernel
theorem dX6_takesOut_36 : decode cX6_takesOut 36 = .ok (.iconst 4, 1) := by decide +kernel
theorem dX6_takesOut_37 : decode cX6_takesOut 37 = .ok (.iload_n 3, 1) := by decide +kernel
theorem dX6_takesOut_38 : decode cX6_takesOut 38 = .ok (.iadd, 1) := by decide +kernel
theorem dX6_takesOut_39 : decode cX6_takesOut 39 = .ok (.iload 4, 2) := by decide +kernel
theorem dX6_takesOut_41 : decode cX6_takesOut 41 = .ok (.iload_n 2, 1) := by decide +kernel
theorem dX6_takesOut_42 : decode cX6_takesOut 42 = .ok (.if_icmp .le 12, 3) := by decide +kernel
theorem dX6_takesOut_45 : decode cX6_takesOut 45 = .ok (.iload 4, 2) := by decide +kernel
theorem dX6_takesOut_47 : decode cX6_takesOut 47 = .ok (.iload_n 2, 1) := by decide +kernel
theorem dX6_takesOut_48 : decode cX6_takesOut 48 = .ok (.iload_n 1, 1) := by decide +kernel
theorem dX6_takesOut_49 : decode cX6_takesOut 49 = .ok (.isub, 1) := by decide +kernel
theorem dX6_takesOut_50 : decode cX6_takesOut 50 = .ok (.isub, 1) := by decide +kernel
theorem dX6_takesOut_51 : decode cX6_takesOut 51 = .ok (.goto 15, 3) := by decide +kernel
theorem dX6_takesOut_54 : decode cX6_takesOut 54 = .ok (.iload 4, 2) := by decide +kernel
theorem dX6_takesOut_56 : decode cX6_takesOut 56 = .ok (.iload_n 1, 1) := by decide +kernel
theorem dX6_takesOut_57 : decode cX6_takesOut 57 = .ok (.if_icmp .lt 7, 3) := by decide +kernel
theorem dX6_takesOut_60 : decode cX6_takesOut 60 = .ok (.iload_n 1, 1) := by decide +kernel
theorem dX6_takesOut_61 : decode cX6_takesOut 61 = .ok (.goto 5, 3) := by decide +kernel
theorem dX6_takesOut_64 : decode cX6_takesOut 64 = .ok (.iload 4, 2) := by decide +kernel
theorem dX6_takesOut_66 : decode cX6_takesOut 66 = .ok (.iastore, 1) := by decide +kernel
theorem dX6_takesOut_67 : decode cX6_takesOut 67 = .ok (.iinc 3 1, 3) := by decide +kernel
theorem dX6_takesOut_70 : decode cX6_takesOut 70 = .ok (.goto (-53), 3) := by decide +kernel
theorem dX6_takesOut_73 : decode cX6_takesOut 73 = .ok (.return_, 1) := by decide +kernel
theorem dX6_putsIntoRing_0 : decode cX6_putsIntoRing 0 = .ok (.iconst 3, 1) := by decide +kernel
theorem dX6_putsIntoRing_1 : decode cX6_putsIntoRing 1 = .ok (.istore_n 2, 1) := by decide +kernel
theorem dX6_putsIntoRing_2 : decode cX6_putsIntoRing 2 = .ok (.iload_n 2, 1) := by decide +kernel
theorem dX6_putsIntoRing_3 : decode cX6_putsIntoRing 3 = .ok (.ifCond .le 21, 3) := by decide +kernel
theorem dX6_putsIntoRing_6 : decode cX6_putsIntoRing 6 = .ok (.aload_n 0, 1) := by decide +kernel
theorem dX6_putsIntoRing_7 : decode cX6_putsIntoRing 7 = .ok (.iconst 1, 1) := by decide +kernel
theorem dX6_putsIntoRing_8 : decode cX6_putsIntoRing 8 = .ok (.iload_n 2, 1) := by decide +kernel
theorem dX6_putsIntoRing_9 : decode cX6_putsIntoRing 9 = .ok (.iadd, 1) := by decide +kernel
theorem dX6_putsIntoRing_10 : decode cX6_putsIntoRing 10 = .ok (.iconst 1, 1) := by decide +kernel
theorem dX6_putsIntoRing_11 : decode cX6_putsIntoRing 11 = .ok (.isub, 1) := by decide +kernel
theorem dX6_putsIntoRing_12 : decode cX6_putsIntoRing 12 = .ok (.iconst 1, 1) := by decide +kernel
theorem dX6_putsIntoRing_13 : decode cX6_putsIntoRing 13 = .ok (.iload_n 2, 1) := by decide +kernel
theorem dX6_putsIntoRing_14 : decode cX6_putsIntoRing 14 = .ok (.iadd, 1) := by decide +kernel
theorem dX6_putsIntoRing_15 : decode cX6_putsIntoRing 15 = .ok (.invokevirtual 81, 3) := by decide +kernel
theorem dX6_putsIntoRing_18 : decode cX6_putsIntoRing 18 = .ok (.iinc 2 (-1), 3) := by decide +kernel
theorem dX6_putsIntoRing_21 : decode cX6_putsIntoRing 21 = .ok (.goto (-19), 3) := by decide +kernel
theorem dX6_putsIntoRing_24 : decode cX6_putsIntoRing 24 = .ok (.aload_n 0, 1) := by decide +kernel
theorem dX6_putsIntoRing_25 : decode cX6_putsIntoRing 25 = .ok (.iload_n 1, 1) := by decide +kernel
theorem dX6_putsIntoRing_26 : decode cX6_putsIntoRing 26 = .ok (.iconst 1, 1) := by decide +kernel
theorem dX6_putsIntoRing_27 : decode cX6_putsIntoRing 27 = .ok (.invokevirtual 81, 3) := by decide +kernel
theorem dX6_putsIntoRing_30 : decode cX6_putsIntoRing 30 = .ok (.aload_n 0, 1) := by decide +kernel
theorem dX6_putsIntoRing_31 : decode cX6_putsIntoRing 31 = .ok (.getfield 13, 3) := by decide +kernel
theorem dX6_putsIntoRing_34 : decode cX6_putsIntoRing 34 = .ok (.iconst 3, 1) := by decide +kernel
theorem dX6_putsIntoRing_35 : decode cX6_putsIntoRing 35 = .ok (.dup2, 1) := by decide +kernel
theorem dX6_putsIntoRing_36 : decode cX6_putsIntoRing 36 = .ok (.iaload, 1) := by decide +kernel
theorem dX6_putsIntoRing_37 : decode cX6_putsIntoRing 37 = .ok (.aload_n 0, 1) := by decide +kernel
theorem dX6_putsIntoRing_38 : decode cX6_putsIntoRing 38 = .ok (.getfield 13, 3) := by decide +kernel
theorem dX6_putsIntoRing_41 : decode cX6_putsIntoRing 41 = .ok (.iconst 3, 1) := by decide +kernel
theorem dX6_putsIntoRing_42 : decode cX6_putsIntoRing 42 = .ok (.iaload, 1) := by decide +kernel
theorem dX6_putsIntoRing_43 : decode cX6_putsIntoRing 43 = .ok (.iconst 4, 1) := by decide +kernel
theorem dX6_putsIntoRing_44 : decode cX6_putsIntoRing 44 = .ok (.if_icmp .ge 7, 3) := by decide +kernel
theorem dX6_putsIntoRing_47 : decode cX6_putsIntoRing 47 = .ok (.iconst 1, 1) := by decide +kernel
theorem dX6_putsIntoRing_48 : decode cX6_putsIntoRing 48 = .ok (.goto 4, 3) := by decide +kernel
theorem dX6_putsIntoRing_51 : decode cX6_putsIntoRing 51 = .ok (.iconst 0, 1) := by decide +kernel
theorem dX6_putsIntoRing_52 : decode cX6_putsIntoRing 52 = .ok (.iadd, 1) := by decide +kernel
theorem dX6_putsIntoRing_53 : decode cX6_putsIntoRing 53 = .ok (.iastore, 1) := by decide +kernel
theorem dX6_putsIntoRing_54 : decode cX6_putsIntoRing 54 = .ok (.return_, 1) := by decide +kernel
theorem dX6_isPosition_0 : decode cX6_isPosition 0 = .ok (.iload_n 1, 1) := by decide +kernel
theorem dX6_isPosition_1 : decode cX6_isPosition 1 = .ok (.iconst 0, 1) := by decide +kernel
theorem dX6_isPosition_2 : decode cX6_isPosition 2 = .ok (.aload_n 0, 1) := by decide +kernel
theorem dX6_isPosition_3 : decode cX6_isPosition 3 = .ok (.iconst 0, 1) := by decide +kernel
theorem dX6_isPosition_4 : decode cX6_isPosition 4 = .ok (.invokevirtual 49, 3) := by decide +kernel
theorem dX6_isPosition_7 : decode cX6_isPosition 7 = .ok (.invokestatic 120, 3) := by decide +kernel
theorem dX6_isPosition_10 : decode cX6_isPosition 10 = .ok (.ireturn, 1) := by decide +kernel
theorem dX6_whyNoRange_0 : decode cX6_whyNoRange 0 = .ok (.aload_n 0, 1) := by decide +kernel
theorem dX6_whyNoRange_1 : decode cX6_whyNoRange 1 = .ok (.iload_n 1, 1) := by decide +kernel
theorem dX6_whyNoRange_2 : decode cX6_whyNoRange 2 = .ok (.invokevirtual 124, 3) := by decide +kernel
theorem dX6_whyNoRange_5 : decode cX6_whyNoRange 5 = .ok (.ifCond .eq 11, 3) := by decide +kernel
theorem dX6_whyNoRange_8 : decode cX6_whyNoRange 8 = .ok (.aload_n 0, 1) := by decide +kernel
theorem dX6_whyNoRange_9 : decode cX6_whyNoRange 9 = .ok (.iload_n 2, 1) := by decide +kernel
theorem dX6_whyNoRange_10 : decode cX6_whyNoRange 10 = .ok (.invokevirtual 124, 3) := by decide +kernel
theorem dX6_whyNoRange_13 : decode cX6_whyNoRange 13 = .ok (.ifCond .ne 7, 3) := by decide +kernel
theorem dX6_whyNoRange_16 : decode cX6_whyNoRange 16 = .ok (.iconst (-1), 1) := by decide +kernel
theorem dX6_whyNoRange_17 : decode cX6_whyNoRange 17 = .ok (.goto 14, 3) := by decide +kernel
theorem dX6_whyNoRange_20 : decode cX6_whyNoRange 20 = .ok (.iload_n 2, 1) := by decide +kernel
theorem dX6_whyNoRange_21 : decode cX6_whyNoRange 21 = .ok (.iload_n 1, 1) := by decide +kernel
theorem dX6_whyNoRange_22 : decode cX6_whyNoRange 22 = .ok (.if_icmp .gt 8, 3) := by decide +kernel
theorem dX6_whyNoRange_25 : decode cX6_whyNoRange 25 = .ok (.bipush (-2), 2) := by decide +kernel
theorem dX6_whyNoRange_27 : decode cX6_whyNoRange 27 = .ok (.goto 4, 3) := by decide +kernel
theorem dX6_whyNoRange_30 : decode cX6_whyNoRange 30 = .ok (.iconst 0, 1) := by decide +kernel
theorem dX6_whyNoRange_31 : decode cX6_whyNoRange 31 = .ok (.ireturn, 1) := by decide +kernel
theorem dX6_isInRing_0 : decode cX6_isInRing 0 = .ok (.iload_n 1, 1) := by decide +kernel
theorem dX6_isInRing_1 : decode cX6_isInRing 1 = .ok (.iconst 0, 1) := by decide +kernel
theorem dX6_isInRing_2 : decode cX6_isInRing 2 = .ok (.aload_n 0, 1) := by decide +kernel
theorem dX6_isInRing_3 : decode cX6_isInRing 3 = .ok (.getfield 13, 3) := by decide +kernel
theorem dX6_isInRing_6 : decode cX6_isInRing 6 = .ok (.iconst 3, 1) := by decide +kernel
theorem dX6_isInRing_7 : decode cX6_isInRing 7 = .ok (.iaload, 1) := by decide +kernel
theorem dX6_isInRing_8 : decode cX6_isInRing 8 = .ok (.iconst 1, 1) := by decide +kernel
theorem dX6_isInRing_9 : decode cX6_isInRing 9 = .ok (.isub, 1) := by decide +kernel
theorem dX6_isInRing_10 : decode cX6_isInRing 10 = .ok (.invokestatic 120, 3) := by decide +kernel
theorem dX6_isInRing_13 : decode cX6_isInRing 13 = .ok (.ireturn, 1) := by decide +kernel
theorem dX6_setLeafSize_0 : decode cX6_setLeafSize 0 = .ok (.iload_n 1, 1) := by decide +kernel
theorem dX6_setLeafSize_1 : decode cX6_setLeafSize 1 = .ok (.iconst 2, 1) := by decide +kernel
theorem dX6_setLeafSize_2 : decode cX6_setLeafSize 2 = .ok (.bipush 16, 2) := by decide +kernel
theorem dX6_setLeafSize_4 : decode cX6_setLeafSize 4 = .ok (.invokestatic 120, 3) := by decide +kernel
theorem dX6_setLeafSize_7 : decode cX6_setLeafSize 7 = .ok (.ifCond .ne 6, 3) := by decide +kernel
theorem dX6_setLeafSize_10 : decode cX6_setLeafSize 10 = .ok (.bipush (-2), 2) := by decide +kernel
theorem dX6_setLeafSize_12 : decode cX6_setLeafSize 12 = .ok (.ireturn, 1) := by decide +kernel
theorem dX6_setLeafSize_13 : decode cX6_setLeafSize 13 = .ok (.aload_n 0, 1) := by decide +kernel
theorem dX6_setLeafSize_14 : decode cX6_setLeafSize 14 = .ok (.invokevirtual 127, 3) := by decide +kernel
theorem dX6_setLeafSize_17 : decode cX6_setLeafSize 17 = .ok (.aload_n 0, 1) := by decide +kernel
theorem dX6_setLeafSize_18 : decode cX6_setLeafSize 18 = .ok (.getfield 13, 3) := by decide +kernel
theorem dX6_setLeafSize_21 : decode cX6_setLeafSize 21 = .ok (.iconst 0, 1) := by decide +kernel
theorem dX6_setLeafSize_22 : decode cX6_setLeafSize 22 = .ok (.iaload, 1) := by decide +kernel
theorem dX6_setLeafSize_23 : decode cX6_setLeafSize 23 = .ok (.istore_n 2, 1) := by decide +kernel
theorem dX6_setLeafSize_24 : decode cX6_setLeafSize 24 = .ok (.aload_n 0, 1) := by decide +kernel
theorem dX6_setLeafSize_25 : decode cX6_setLeafSize 25 = .ok (.getfield 13, 3) := by decide +kernel
theorem dX6_setLeafSize_28 : decode cX6_setLeafSize 28 = .ok (.iconst 0, 1) := by decide +kernel
theorem dX6_setLeafSize_29 : decode cX6_setLeafSize 29 = .ok (.iload_n 1, 1) := by decide +kernel
theorem dX6_setLeafSize_30 : decode cX6_setLeafSize 30 = .ok (.iastore, 1) := by decide +kernel
theorem dX6_setLeafSize_31 : decode cX6_setLeafSize 31 = .ok (.iload_n 2, 1) := by decide +kernel
theorem dX6_setLeafSize_32 : decode cX6_setLeafSize 32 = .ok (.ireturn, 1) := by decide +kernel
theorem dX6_setBalancing_0 : decode cX6_setBalancing 0 = .ok (.iload_n 1, 1) := by decide +kernel
theorem dX6_setBalancing_1 : decode cX6_setBalancing 1 = .ok (.iconst 0, 1) := by decide +kernel
theorem dX6_setBalancing_2 : decode cX6_setBalancing 2 = .ok (.iconst 1, 1) := by decide +kernel
theorem dX6_setBalancing_3 : decode cX6_setBalancing 3 = .ok (.invokestatic 120, 3) := by decide +kernel
theorem dX6_setBalancing_6 : decode cX6_setBalancing 6 = .ok (.ifCond .ne 6, 3) := by decide +kernel
theorem dX6_setBalancing_9 : decode cX6_setBalancing 9 = .ok (.bipush (-2), 2) := by decide +kernel
theorem dX6_setBalancing_11 : decode cX6_setBalancing 11 = .ok (.ireturn, 1) := by decide +kernel
theorem dX6_setBalancing_12 : decode cX6_setBalancing 12 = .ok (.aload_n 0, 1) := by decide +kernel
theorem dX6_setBalancing_13 : decode cX6_setBalancing 13 = .ok (.invokevirtual 127, 3) := by decide +kernel
theorem dX6_setBalancing_16 : decode cX6_setBalancing 16 = .ok (.aload_n 0, 1) := by decide +kernel
theorem dX6_setBalancing_17 : decode cX6_setBalancing 17 = .ok (.getfield 13, 3) := by decide +kernel
theorem dX6_setBalancing_20 : decode cX6_setBalancing 20 = .ok (.iconst 1, 1) := by decide +kernel
theorem dX6_setBalancing_21 : decode cX6_setBalancing 21 = .ok (.iaload, 1) := by decide +kernel
theorem dX6_setBalancing_22 : decode cX6_setBalancing 22 = .ok (.istore_n 2, 1) := by decide +kernel
theorem dX6_setBalancing_23 : decode cX6_setBalancing 23 = .ok (.aload_n 0, 1) := by decide +kernel
theorem dX6_setBalancing_24 : decode cX6_setBalancing 24 = .ok (.getfield 13, 3) := by decide +kernel
theorem dX6_setBalancing_27 : decode cX6_setBalancing 27 = .ok (.iconst 1, 1) := by decide +kernel
theorem dX6_setBalancing_28 : decode cX6_setBalancing 28 = .ok (.iload_n 1, 1) := by decide +kernel
theorem dX6_setBalancing_29 : decode cX6_setBalancing 29 = .ok (.iastore, 1) := by decide +kernel
theorem dX6_setBalancing_30 : decode cX6_setBalancing 30 = .ok (.iload_n 2, 1) := by decide +kernel
theorem dX6_setBalancing_31 : decode cX6_setBalancing 31 = .ok (.ireturn, 1) := by decide +kernel
theorem dX6_type_0 : decode cX6_type 0 = .ok (.iload_n 1, 1) := by decide +kernel
theorem dX6_type_1 : decode cX6_type 1 = .ok (.bipush 32, 2) := by decide +kernel
theorem dX6_type_3 : decode cX6_type 3 = .ok (.bipush 126, 2) := by decide +kernel
theorem dX6_type_5 : decode cX6_type 5 = .ok (.invokestatic 120, 3) := by decide +kernel
theorem dX6_type_8 : decode cX6_type 8 = .ok (.ifCond .ne 12, 3) := by decide +kernel
theorem dX6_type_11 : decode cX6_type 11 = .ok (.iload_n 1, 1) := by decide +kernel
theorem dX6_type_12 : decode cX6_type 12 = .ok (.bipush 10, 2) := by decide +kernel
theorem dX6_type_14 : decode cX6_type 14 = .ok (.if_icmp .eq 6, 3) := by decide +kernel
theorem dX6_type_17 : decode cX6_type 17 = .ok (.bipush (-2), 2) := by decide +kernel
theorem dX6_type_19 : decode cX6_type 19 = .ok (.ireturn, 1) := by decide +kernel
theorem dX6_type_20 : decode cX6_type 20 = .ok (.aload_n 0, 1) := by decide +kernel
theorem dX6_type_21 : decode cX6_type 21 = .ok (.getfield 130, 3) := by decide +kernel
theorem dX6_type_24 : decode cX6_type 24 = .ok (.bipush 40, 2) := by decide +kernel
theorem dX6_type_26 : decode cX6_type 26 = .ok (.if_icmp .ne 6, 3) := by decide +kernel
theorem dX6_type_29 : decode cX6_type 29 = .ok (.bipush (-4), 2) := by decide +kernel
theorem dX6_type_31 : decode cX6_type 31 = .ok (.ireturn, 1) := by decide +kernel
theorem dX6_type_32 : decode cX6_type 32 = .ok (.aload_n 0, 1) := by decide +kernel
theorem dX6_type_33 : decode cX6_type 33 = .ok (.getfield 23, 3) := by decide +kernel
theorem dX6_type_36 : decode cX6_type 36 = .ok (.aload_n 0, 1) := by decide +kernel
theorem dX6_type_37 : decode cX6_type 37 = .ok (.getfield 130, 3) := by decide +kernel
theorem dX6_type_40 : decode cX6_type 40 = .ok (.iload_n 1, 1) := by decide +kernel
theorem dX6_type_41 : decode cX6_type 41 = .ok (.iastore, 1) := by decide +kernel
theorem dX6_type_42 : decode cX6_type 42 = .ok (.aload_n 0, 1) := by decide +kernel
theorem dX6_type_43 : decode cX6_type 43 = .ok (.dup, 1) := by decide +kernel
theorem dX6_type_44 : decode cX6_type 44 = .ok (.getfield 130, 3) := by decide +kernel
theorem dX6_type_47 : decode cX6_type 47 = .ok (.iconst 1, 1) := by decide +kernel
theorem dX6_type_48 : decode cX6_type 48 = .ok (.iadd, 1) := by decide +kernel
theorem dX6_type_49 : decode cX6_type 49 = .ok (.putfield 130, 3) := by decide +kernel
theorem dX6_type_52 : decode cX6_type 52 = .ok (.aload_n 0, 1) := by decide +kernel
theorem dX6_type_53 : decode cX6_type 53 = .ok (.getfield 130, 3) := by decide +kernel
theorem dX6_type_56 : decode cX6_type 56 = .ok (.ireturn, 1) := by decide +kernel
theorem dX6_clearBuffer_0 : decode cX6_clearBuffer 0 = .ok (.aload_n 0, 1) := by decide +kernel
theorem dX6_clearBuffer_1 : decode cX6_clearBuffer 1 = .ok (.getfield 130, 3) := by decide +kernel
theorem dX6_clearBuffer_4 : decode cX6_clearBuffer 4 = .ok (.istore_n 1, 1) := by decide +kernel
theorem dX6_clearBuffer_5 : decode cX6_clearBuffer 5 = .ok (.aload_n 0, 1) := by decide +kernel
theorem dX6_clearBuffer_6 : decode cX6_clearBuffer 6 = .ok (.iconst 0, 1) := by decide +kernel
theorem dX6_clearBuffer_7 : decode cX6_clearBuffer 7 = .ok (.putfield 130, 3) := by decide +kernel
theorem dX6_clearBuffer_10 : decode cX6_clearBuffer 10 = .ok (.iload_n 1, 1) := by decide +kernel
theorem dX6_clearBuffer_11 : decode cX6_clearBuffer 11 = .ok (.ireturn, 1) := by decide +kernel
theorem dX6_insert_0 : decode cX6_insert 0 = .ok (.aload_n 0, 1) := by decide +kernel
theorem dX6_insert_1 : decode cX6_insert 1 = .ok (.iload_n 1, 1) := by decide +kernel
theorem dX6_insert_2 : decode cX6_insert 2 = .ok (.invokevirtual 124, 3) := by decide +kernel
theorem dX6_insert_5 : decode cX6_insert 5 = .ok (.ifCond .ne 5, 3) := by decide +kernel
theorem dX6_insert_8 : decode cX6_insert 8 = .ok (.iconst (-1), 1) := by decide +kernel
theorem dX6_insert_9 : decode cX6_insert 9 = .ok (.ireturn, 1) := by decide +kernel
theorem dX6_insert_10 : decode cX6_insert 10 = .ok (.aload_n 0, 1) := by decide +kernel
theorem dX6_insert_11 : decode cX6_insert 11 = .ok (.getfield 130, 3) := by decide +kernel
theorem dX6_insert_14 : decode cX6_insert 14 = .ok (.ifCond .ne 6, 3) := by decide +kernel
theorem dX6_insert_17 : decode cX6_insert 17 = .ok (.bipush (-3), 2) := by decide +kernel
theorem dX6_insert_19 : decode cX6_insert 19 = .ok (.ireturn, 1) := by decide +kernel
theorem dX6_insert_20 : decode cX6_insert 20 = .ok (.aload_n 0, 1) := by decide +kernel
theorem dX6_insert_21 : decode cX6_insert 21 = .ok (.iconst 0, 1) := by decide +kernel
theorem dX6_insert_22 : decode cX6_insert 22 = .ok (.invokevirtual 49, 3) := by decide +kernel
theorem dX6_insert_25 : decode cX6_insert 25 = .ok (.aload_n 0, 1) := by decide +kernel
theorem dX6_insert_26 : decode cX6_insert 26 = .ok (.getfield 130, 3) := by decide +kernel
theorem dX6_insert_29 : decode cX6_insert 29 = .ok (.iadd, 1) := by decide +kernel
theorem dX6_insert_30 : decode cX6_insert 30 = .ok (.sipush 400, 3) := by decide +kernel
theorem dX6_insert_33 : decode cX6_insert 33 = .ok (.if_icmp .le 6, 3) := by decide +kernel
theorem dX6_insert_36 : decode cX6_insert 36 = .ok (.bipush (-4), 2) := by decide +kernel
theorem dX6_insert_38 : decode cX6_insert 38 = .ok (.ireturn, 1) := by decide +kernel
theorem dX6_insert_39 : decode cX6_insert 39 = .ok (.aload_n 0, 1) := by decide +kernel
theorem dX6_insert_40 : decode cX6_insert 40 = .ok (.invokevirtual 127, 3) := by decide +kernel
theorem dX6_insert_43 : decode cX6_insert 43 = .ok (.aload_n 0, 1) := by decide +kernel
theorem dX6_insert_44 : decode cX6_insert 44 = .ok (.bipush 15, 2) := by decide +kernel
theorem dX6_insert_46 : decode cX6_insert 46 = .ok (.invokevirtual 63, 3) := by decide +kernel
theorem dX6_insert_49 : decode cX6_insert 49 = .ok (.iconst 0, 1) := by decide +kernel
theorem dX6_insert_50 : decode cX6_insert 50 = .ok (.istore_n 2, 1) := by decide +kernel
theorem dX6_insert_51 : decode cX6_insert 51 = .ok (.iload_n 2, 1) := by decide +kernel
theorem dX6_insert_52 : decode cX6_insert 52 = .ok (.aload_n 0, 1) := by decide +kernel
theorem dX6_insert_53 : decode cX6_insert 53 = .ok (.getfield 130, 3) := by decide +kernel
theorem dX6_insert_56 : decode cX6_insert 56 = .ok (.if_icmp .ge 21, 3) := by decide +kernel
theorem dX6_insert_59 : decode cX6_insert 59 = .ok (.aload_n 0, 1) := by decide +kernel
theorem dX6_insert_60 : decode cX6_insert 60 = .ok (.bipush 15, 2) := by decide +kernel
theorem dX6_insert_62 : decode cX6_insert 62 = .ok (.aload_n 0, 1) := by decide +kernel
theorem dX6_insert_63 : decode cX6_insert 63 = .ok (.getfield 23, 3) := by decide +kernel
theorem dX6_insert_66 : decode cX6_insert 66 = .ok (.iload_n 2, 1) := by decide +kernel
theorem dX6_insert_67 : decode cX6_insert 67 = .ok (.iaload, 1) := by decide +kernel
theorem dX6_insert_68 : decode cX6_insert 68 = .ok (.invokevirtual 56, 3) := by decide +kernel
theorem dX6_insert_71 : decode cX6_insert 71 = .ok (.iinc 2 1, 3) := by decide +kernel
theorem dX6_insert_74 : decode cX6_insert 74 = .ok (.goto (-23), 3) := by decide +kernel
theorem dX6_insert_77 : decode cX6_insert 77 = .ok (.aload_n 0, 1) := by decide +kernel
theorem dX6_insert_78 : decode cX6_insert 78 = .ok (.bipush 15, 2) := by decide +kernel
theorem dX6_insert_80 : decode cX6_insert 80 = .ok (.invokevirtual 133, 3) := by decide +kernel
theorem dX6_insert_83 : decode cX6_insert 83 = .ok (.aload_n 0, 1) := by decide +kernel
theorem dX6_insert_84 : decode cX6_insert 84 = .ok (.iconst 0, 1) := by decide +kernel
theorem dX6_insert_85 : decode cX6_insert 85 = .ok (.putfield 130, 3) := by decide +kernel
theorem dX6_insert_88 : decode cX6_insert 88 = .ok (.aload_n 0, 1) := by decide +kernel
theorem dX6_insert_89 : decode cX6_insert 89 = .ok (.bipush 15, 2) := by decide +kernel
theorem dX6_insert_91 : decode cX6_insert 91 = .ok (.iload_n 1, 1) := by decide +kernel
theorem dX6_insert_92 : decode cX6_insert 92 = .ok (.invokevirtual 136, 3) := by decide +kernel
theorem dX6_insert_95 : decode cX6_insert 95 = .ok (.aload_n 0, 1) := by decide +kernel
theorem dX6_insert_96 : decode cX6_insert 96 = .ok (.invokevirtual 139, 3) := by decide +kernel
theorem dX6_insert_99 : decode cX6_insert 99 = .ok (.aload_n 0, 1) := by decide +kernel
theorem dX6_insert_100 : decode cX6_insert 100 = .ok (.iconst 0, 1) := by decide +kernel
theorem dX6_insert_101 : decode cX6_insert 101 = .ok (.invokevirtual 49, 3) := by decide +kernel
theorem dX6_insert_104 : decode cX6_insert 104 = .ok (.ireturn, 1) := by decide +kernel
theorem dX6_delete_0 : decode cX6_delete 0 = .ok (.aload_n 0, 1) := by decide +kernel
theorem dX6_delete_1 : decode cX6_delete 1 = .ok (.iload_n 1, 1) := by decide +kernel
theorem dX6_delete_2 : decode cX6_delete 2 = .ok (.iload_n 2, 1) := by decide +kernel
theorem dX6_delete_3 : decode cX6_delete 3 = .ok (.invokevirtual 142, 3) := by decide +kernel
theorem dX6_delete_6 : decode cX6_delete 6 = .ok (.istore_n 3, 1) := by decide +kernel
theorem dX6_delete_7 : decode cX6_delete 7 = .ok (.iload_n 3, 1) := by decide +kernel
theorem dX6_delete_8 : decode cX6_delete 8 = .ok (.ifCond .ge 5, 3) := by decide +kernel
theorem dX6_delete_11 : decode cX6_delete 11 = .ok (.iload_n 3, 1) := by decide +kernel
theorem dX6_delete_12 : decode cX6_delete 12 = .ok (.ireturn, 1) := by decide +kernel
theorem dX6_delete_13 : decode cX6_delete 13 = .ok (.aload_n 0, 1) := by decide +kernel
theorem dX6_delete_14 : decode cX6_delete 14 = .ok (.invokevirtual 127, 3) := by decide +kernel
theorem dX6_delete_17 : decode cX6_delete 17 = .ok (.aload_n 0, 1) := by decide +kernel
theorem dX6_delete_18 : decode cX6_delete 18 = .ok (.iload_n 1, 1) := by decide +kernel
theorem dX6_delete_19 : decode cX6_delete 19 = .ok (.iload_n 2, 1) := by decide +kernel
theorem dX6_delete_20 : decode cX6_delete 20 = .ok (.invokevirtual 145, 3) := by decide +kernel
theorem dX6_delete_23 : decode cX6_delete 23 = .ok (.aload_n 0, 1) := by decide +kernel
theorem dX6_delete_24 : decode cX6_delete 24 = .ok (.invokevirtual 139, 3) := by decide +kernel
theorem dX6_delete_27 : decode cX6_delete 27 = .ok (.aload_n 0, 1) := by decide +kernel
theorem dX6_delete_28 : decode cX6_delete 28 = .ok (.iconst 0, 1) := by decide +kernel
theorem dX6_delete_29 : decode cX6_delete 29 = .ok (.invokevirtual 49, 3) := by decide +kernel
theorem dX6_delete_32 : decode cX6_delete 32 = .ok (.ireturn, 1) := by decide +kernel
theorem dX6_cut_0 : decode cX6_cut 0 = .ok (.aload_n 0, 1) := by decide +kernel
theorem dX6_cut_1 : decode cX6_cut 1 = .ok (.iload_n 1, 1) := by decide +kernel
theorem dX6_cut_2 : decode cX6_cut 2 = .ok (.iload_n 2, 1) := by decide +kernel
theorem dX6_cut_3 : decode cX6_cut 3 = .ok (.invokevirtual 142, 3) := by decide +kernel
theorem dX6_cut_6 : decode cX6_cut 6 = .ok (.istore_n 3, 1) := by decide +kernel
theorem dX6_cut_7 : decode cX6_cut 7 = .ok (.iload_n 3, 1) := by decide +kernel
theorem dX6_cut_8 : decode cX6_cut 8 = .ok (.ifCond .ge 5, 3) := by decide +kernel
theorem dX6_cut_11 : decode cX6_cut 11 = .ok (.iload_n 3, 1) := by decide +kernel
theorem dX6_cut_12 : decode cX6_cut 12 = .ok (.ireturn, 1) := by decide +kernel
theorem dX6_cut_13 : decode cX6_cut 13 = .ok (.aload_n 0, 1) := by decide +kernel
theorem dX6_cut_14 : decode cX6_cut 14 = .ok (.invokevirtual 127, 3) := by decide +kernel
theorem dX6_cut_17 : decode cX6_cut 17 = .ok (.aload_n 0, 1) := by decide +kernel
theorem dX6_cut_18 : decode cX6_cut 18 = .ok (.iload_n 1, 1) := by decide +kernel
theorem dX6_cut_19 : decode cX6_cut 19 = .ok (.iload_n 2, 1) := by decide +kernel
theorem dX6_cut_20 : decode cX6_cut 20 = .ok (.invokevirtual 145, 3) := by decide +kernel
theorem dX6_cut_23 : decode cX6_cut 23 = .ok (.aload_n 0, 1) := by decide +kernel
theorem dX6_cut_24 : decode cX6_cut 24 = .ok (.bipush 10, 2) := by decide +kernel
theorem dX6_cut_26 : decode cX6_cut 26 = .ok (.invokevirtual 148, 3) := by decide +kernel
theorem dX6_cut_29 : decode cX6_cut 29 = .ok (.aload_n 0, 1) := by decide +kernel
theorem dX6_cut_30 : decode cX6_cut 30 = .ok (.invokevirtual 139, 3) := by decide +kernel
theorem dX6_cut_33 : decode cX6_cut 33 = .ok (.aload_n 0, 1) := by decide +kernel
theorem dX6_cut_34 : decode cX6_cut 34 = .ok (.iconst 0, 1) := by decide +kernel
theorem dX6_cut_35 : decode cX6_cut 35 = .ok (.invokevirtual 49, 3) := by decide +kernel
theorem dX6_cut_38 : decode cX6_cut 38 = .ok (.ireturn, 1) := by decide +kernel
theorem dX6_copy_0 : decode cX6_copy 0 = .ok (.aload_n 0, 1) := by decide +kernel
theorem dX6_copy_1 : decode cX6_copy 1 = .ok (.iload_n 1, 1) := by decide +kernel
theorem dX6_copy_2 : decode cX6_copy 2 = .ok (.iload_n 2, 1) := by decide +kernel
theorem dX6_copy_3 : decode cX6_copy 3 = .ok (.invokevirtual 142, 3) := by decide +kernel
theorem dX6_copy_6 : decode cX6_copy 6 = .ok (.istore_n 3, 1) := by decide +kernel
theorem dX6_copy_7 : decode cX6_copy 7 = .ok (.iload_n 3, 1) := by decide +kernel
theorem dX6_copy_8 : decode cX6_copy 8 = .ok (.ifCond .ge 5, 3) := by decide +kernel
theorem dX6_copy_11 : decode cX6_copy 11 = .ok (.iload_n 3, 1) := by decide +kernel
theorem dX6_copy_12 : decode cX6_copy 12 = .ok (.ireturn, 1) := by decide +kernel
theorem dX6_copy_13 : decode cX6_copy 13 = .ok (.aload_n 0, 1) := by decide +kernel
theorem dX6_copy_14 : decode cX6_copy 14 = .ok (.invokevirtual 127, 3) := by decide +kernel
theorem dX6_copy_17 : decode cX6_copy 17 = .ok (.aload_n 0, 1) := by decide +kernel
theorem dX6_copy_18 : decode cX6_copy 18 = .ok (.iload_n 1, 1) := by decide +kernel
theorem dX6_copy_19 : decode cX6_copy 19 = .ok (.iload_n 2, 1) := by decide +kernel
theorem dX6_copy_20 : decode cX6_copy 20 = .ok (.invokevirtual 117, 3) := by decide +kernel
theorem dX6_copy_23 : decode cX6_copy 23 = .ok (.aload_n 0, 1) := by decide +kernel
theorem dX6_copy_24 : decode cX6_copy 24 = .ok (.bipush 10, 2) := by decide +kernel
theorem dX6_copy_26 : decode cX6_copy 26 = .ok (.invokevirtual 148, 3) := by decide +kernel
theorem dX6_copy_29 : decode cX6_copy 29 = .ok (.aload_n 0, 1) := by decide +kernel
theorem dX6_copy_30 : decode cX6_copy 30 = .ok (.bipush 10, 2) := by decide +kernel
theorem dX6_copy_32 : decode cX6_copy 32 = .ok (.invokevirtual 45, 3) := by decide +kernel
theorem dX6_copy_35 : decode cX6_copy 35 = .ok (.ireturn, 1) := by decide +kernel
theorem dX6_paste_0 : decode cX6_paste 0 = .ok (.aload_n 0, 1) := by decide +kernel
theorem dX6_paste_1 : decode cX6_paste 1 = .ok (.iload_n 1, 1) := by decide +kernel
theorem dX6_paste_2 : decode cX6_paste 2 = .ok (.invokevirtual 124, 3) := by decide +kernel
theorem dX6_paste_5 : decode cX6_paste 5 = .ok (.ifCond .eq 11, 3) := by decide +kernel
theorem dX6_paste_8 : decode cX6_paste 8 = .ok (.aload_n 0, 1) := by decide +kernel
theorem dX6_paste_9 : decode cX6_paste 9 = .ok (.iload_n 2, 1) := by decide +kernel
theorem dX6_paste_10 : decode cX6_paste 10 = .ok (.invokevirtual 151, 3) := by decide +kernel
theorem dX6_paste_13 : decode cX6_paste 13 = .ok (.ifCond .ne 5, 3) := by decide +kernel
theorem dX6_paste_16 : decode cX6_paste 16 = .ok (.iconst (-1), 1) := by decide +kernel
theorem dX6_paste_17 : decode cX6_paste 17 = .ok (.ireturn, 1) := by decide +kernel
theorem dX6_paste_18 : decode cX6_paste 18 = .ok (.aload_n 0, 1) := by decide +kernel
theorem dX6_paste_19 : decode cX6_paste 19 = .ok (.iconst 0, 1) := by decide +kernel
theorem dX6_paste_20 : decode cX6_paste 20 = .ok (.invokevirtual 49, 3) := by decide +kernel
theorem dX6_paste_23 : decode cX6_paste 23 = .ok (.aload_n 0, 1) := by decide +kernel
theorem dX6_paste_24 : decode cX6_paste 24 = .ok (.iconst 1, 1) := by decide +kernel
theorem dX6_paste_25 : decode cX6_paste 25 = .ok (.iload_n 2, 1) := by decide +kernel
theorem dX6_paste_26 : decode cX6_paste 26 = .ok (.iadd, 1) := by decide +kernel
theorem dX6_paste_27 : decode cX6_paste 27 = .ok (.invokevirtual 49, 3) := by decide +kernel
theorem dX6_paste_30 : decode cX6_paste 30 = .ok (.iadd, 1) := by decide +kernel
theorem dX6_paste_31 : decode cX6_paste 31 = .ok (.sipush 400, 3) := by decide +kernel
theorem dX6_paste_34 : decode cX6_paste 34 = .ok (.if_icmp .le 6, 3) := by decide +kernel
theorem dX6_paste_37 : decode cX6_paste 37 = .ok (.bipush (-4), 2) := by decide +kernel
theorem dX6_paste_39 : decode cX6_paste 39 = .ok (.ireturn, 1) := by decide +kernel
theorem dX6_paste_40 : decode cX6_paste 40 = .ok (.aload_n 0, 1) := by decide +kernel
theorem dX6_paste_41 : decode cX6_paste 41 = .ok (.invokevirtual 127, 3) := by decide +kernel
theorem dX6_paste_44 : decode cX6_paste 44 = .ok (.aload_n 0, 1) := by decide +kernel
theorem dX6_paste_45 : decode cX6_paste 45 = .ok (.iconst 1, 1) := by decide +kernel
theorem dX6_paste_46 : decode cX6_paste 46 = .ok (.iload_n 2, 1) := by decide +kernel
theorem dX6_paste_47 : decode cX6_paste 47 = .ok (.iadd, 1) := by decide +kernel
theorem dX6_paste_48 : decode cX6_paste 48 = .ok (.iload_n 1, 1) := by decide +kernel
theorem dX6_paste_49 : decode cX6_paste 49 = .ok (.invokevirtual 136, 3) := by decide +kernel
theorem dX6_paste_52 : decode cX6_paste 52 = .ok (.aload_n 0, 1) := by decide +kernel
theorem dX6_paste_53 : decode cX6_paste 53 = .ok (.invokevirtual 139, 3) := by decide +kernel
theorem dX6_paste_56 : decode cX6_paste 56 = .ok (.aload_n 0, 1) := by decide +kernel
theorem dX6_paste_57 : decode cX6_paste 57 = .ok (.iconst 0, 1) := by decide +kernel
theorem dX6_paste_58 : decode cX6_paste 58 = .ok (.invokevirtual 49, 3) := by decide +kernel
theorem dX6_paste_61 : decode cX6_paste 61 = .ok (.ireturn, 1) := by decide +kernel
theorem dX6_move_0 : decode cX6_move 0 = .ok (.aload_n 0, 1) := by decide +kernel
theorem dX6_move_1 : decode cX6_move 1 = .ok (.iload_n 1, 1) := by decide +kernel
theorem dX6_move_2 : decode cX6_move 2 = .ok (.iload_n 2, 1) := by decide +kernel
theorem dX6_move_3 : decode cX6_move 3 = .ok (.invokevirtual 142, 3) := by decide +kernel
theorem dX6_move_6 : decode cX6_move 6 = .ok (.istore 4, 2) := by decide +kernel
theorem dX6_move_8 : decode cX6_move 8 = .ok (.iload 4, 2) := by decide +kernel
theorem dX6_move_10 : decode cX6_move 10 = .ok (.ifCond .ge 6, 3) := by decide +kernel
theorem dX6_move_13 : decode cX6_move 13 = .ok (.iload 4, 2) := by decide +kernel
theorem dX6_move_15 : decode cX6_move 15 = .ok (.ireturn, 1) := by decide +kernel
theorem dX6_move_16 : decode cX6_move 16 = .ok (.iload_n 2, 1) := by decide +kernel
theorem dX6_move_17 : decode cX6_move 17 = .ok (.iload_n 1, 1) := by decide +kernel
theorem dX6_move_18 : decode cX6_move 18 = .ok (.isub, 1) := by decide +kernel
theorem dX6_move_19 : decode cX6_move 19 = .ok (.istore 5, 2) := by decide +kernel
theorem dX6_move_21 : decode cX6_move 21 = .ok (.iload_n 3, 1) := by decide +kernel
theorem dX6_move_22 : decode cX6_move 22 = .ok (.iconst 0, 1) := by decide +kernel
theorem dX6_move_23 : decode cX6_move 23 = .ok (.aload_n 0, 1) := by decide +kernel
theorem dX6_move_24 : decode cX6_move 24 = .ok (.iconst 0, 1) := by decide +kernel
theorem dX6_move_25 : decode cX6_move 25 = .ok (.invokevirtual 49, 3) := by decide +kernel
theorem dX6_move_28 : decode cX6_move 28 = .ok (.iload 5, 2) := by decide +kernel
theorem dX6_move_30 : decode cX6_move 30 = .ok (.isub, 1) := by decide +kernel
theorem dX6_move_31 : decode cX6_move 31 = .ok (.invokestatic 120, 3) := by decide +kernel
theorem dX6_move_34 : decode cX6_move 34 = .ok (.ifCond .ne 6, 3) := by decide +kernel
theorem dX6_move_37 : decode cX6_move 37 = .ok (.bipush (-2), 2) := by decide +kernel
theorem dX6_move_39 : decode cX6_move 39 = .ok (.ireturn, 1) := by decide +kernel
theorem dX6_move_40 : decode cX6_move 40 = .ok (.aload_n 0, 1) := by decide +kernel
theorem dX6_move_41 : decode cX6_move 41 = .ok (.invokevirtual 127, 3) := by decide +kernel
theorem dX6_move_44 : decode cX6_move 44 = .ok (.aload_n 0, 1) := by decide +kernel
theorem dX6_move_45 : decode cX6_move 45 = .ok (.iload_n 1, 1) := by decide +kernel
theorem dX6_move_46 : decode cX6_move 46 = .ok (.iload_n 2, 1) := by decide +kernel
theorem dX6_move_47 : decode cX6_move 47 = .ok (.invokevirtual 145, 3) := by decide +kernel
theorem dX6_move_50 : decode cX6_move 50 = .ok (.aload_n 0, 1) := by decide +kernel
theorem dX6_move_51 : decode cX6_move 51 = .ok (.bipush 10, 2) := by decide +kernel
theorem dX6_move_53 : decode cX6_move 53 = .ok (.bipush 15, 2) := by decide +kernel
theorem dX6_move_55 : decode cX6_move 55 = .ok (.invokevirtual 81, 3) := by decide +kernel
theorem dX6_move_58 : decode cX6_move 58 = .ok (.aload_n 0, 1) := by decide +kernel
theorem dX6_move_59 : decode cX6_move 59 = .ok (.bipush 15, 2) := by decide +kernel
theorem dX6_move_61 : decode cX6_move 61 = .ok (.iload_n 3, 1) := by decide +kernel
theorem dX6_move_62 : decode cX6_move 62 = .ok (.invokevirtual 136, 3) := by decide +kernel
theorem dX6_move_65 : decode cX6_move 65 = .ok (.aload_n 0, 1) := by decide +kernel
theorem dX6_move_66 : decode cX6_move 66 = .ok (.invokevirtual 139, 3) := by decide +kernel
theorem dX6_move_69 : decode cX6_move 69 = .ok (.iload_n 3, 1) := by decide +kernel
theorem dX6_move_70 : decode cX6_move 70 = .ok (.iload 5, 2) := by decide +kernel
theorem dX6_move_72 : decode cX6_move 72 = .ok (.iadd, 1) := by decide +kernel
theorem dX6_move_73 : decode cX6_move 73 = .ok (.ireturn, 1) := by decide +kernel
theorem dX6_standsAt_0 : decode cX6_standsAt 0 = .ok (.iload_n 1, 1) := by decide +kernel
theorem dX6_standsAt_1 : decode cX6_standsAt 1 = .ok (.aload_n 0, 1) := by decide +kernel
theorem dX6_standsAt_2 : decode cX6_standsAt 2 = .ok (.getfield 130, 3) := by decide +kernel
theorem dX6_standsAt_5 : decode cX6_standsAt 5 = .ok (.iadd, 1) := by decide +kernel
theorem dX6_standsAt_6 : decode cX6_standsAt 6 = .ok (.aload_n 0, 1) := by decide +kernel
theorem dX6_standsAt_7 : decode cX6_standsAt 7 = .ok (.iconst 0, 1) := by decide +kernel
theorem dX6_standsAt_8 : decode cX6_standsAt 8 = .ok (.invokevirtual 49, 3) := by decide +kernel
theorem dX6_standsAt_11 : decode cX6_standsAt 11 = .ok (.if_icmp .gt 7, 3) := by decide +kernel
theorem dX6_standsAt_14 : decode cX6_standsAt 14 = .ok (.iconst 1, 1) := by decide +kernel
theorem dX6_standsAt_15 : decode cX6_standsAt 15 = .ok (.goto 4, 3) := by decide +kernel
theorem dX6_standsAt_18 : decode cX6_standsAt 18 = .ok (.iconst 0, 1) := by decide +kernel
theorem dX6_standsAt_19 : decode cX6_standsAt 19 = .ok (.istore_n 2, 1) := by decide +kernel
theorem dX6_standsAt_20 : decode cX6_standsAt 20 = .ok (.iconst 0, 1) := by decide +kernel
theorem dX6_standsAt_21 : decode cX6_standsAt 21 = .ok (.istore_n 3, 1) := by decide +kernel
theorem dX6_standsAt_22 : decode cX6_standsAt 22 = .ok (.iload_n 3, 1) := by decide +kernel
theorem dX6_standsAt_23 : decode cX6_standsAt 23 = .ok (.aload_n 0, 1) := by decide +kernel
theorem dX6_standsAt_24 : decode cX6_standsAt 24 = .ok (.getfield 130, 3) := by decide +kernel
theorem dX6_standsAt_27 : decode cX6_standsAt 27 = .ok (.if_icmp .ge 36, 3) := by decide +kernel
theorem dX6_standsAt_30 : decode cX6_standsAt 30 = .ok (.iload_n 2, 1) := by decide +kernel
theorem dX6_standsAt_31 : decode cX6_standsAt 31 = .ok (.ifCond .eq 32, 3) := by decide +kernel
theorem dX6_standsAt_34 : decode cX6_standsAt 34 = .ok (.aload_n 0, 1) := by decide +kernel
theorem dX6_standsAt_35 : decode cX6_standsAt 35 = .ok (.iconst 0, 1) := by decide +kernel
theorem dX6_standsAt_36 : decode cX6_standsAt 36 = .ok (.iload_n 1, 1) := by decide +kernel
theorem dX6_standsAt_37 : decode cX6_standsAt 37 = .ok (.iload_n 3, 1) := by decide +kernel
theorem dX6_standsAt_38 : decode cX6_standsAt 38 = .ok (.iadd, 1) := by decide +kernel
theorem dX6_standsAt_39 : decode cX6_standsAt 39 = .ok (.invokevirtual 52, 3) := by decide +kernel
theorem dX6_standsAt_42 : decode cX6_standsAt 42 = .ok (.aload_n 0, 1) := by decide +kernel
theorem dX6_standsAt_43 : decode cX6_standsAt 43 = .ok (.getfield 23, 3) := by decide +kernel
theorem dX6_standsAt_46 : decode cX6_standsAt 46 = .ok (.iload_n 3, 1) := by decide +kernel
theorem dX6_standsAt_47 : decode cX6_standsAt 47 = .ok (.iaload, 1) := by decide +kernel
theorem dX6_standsAt_48 : decode cX6_standsAt 48 = .ok (.if_icmp .ne 7, 3) := by decide +kernel
theorem dX6_standsAt_51 : decode cX6_standsAt 51 = .ok (.iconst 1, 1) := by decide +kernel
theorem dX6_standsAt_52 : decode cX6_standsAt 52 = .ok (.goto 4, 3) := by decide +kernel
theorem dX6_standsAt_55 : decode cX6_standsAt 55 = .ok (.iconst 0, 1) := by decide +kernel
theorem dX6_standsAt_56 : decode cX6_standsAt 56 = .ok (.istore_n 2, 1) := by decide +kernel
theorem dX6_standsAt_57 : decode cX6_standsAt 57 = .ok (.iinc 3 1, 3) := by decide +kernel
theorem dX6_standsAt_60 : decode cX6_standsAt 60 = .ok (.goto (-38), 3) := by decide +kernel
theorem dX6_standsAt_63 : decode cX6_standsAt 63 = .ok (.iload_n 2, 1) := by decide +kernel
theorem dX6_standsAt_64 : decode cX6_standsAt 64 = .ok (.ireturn, 1) := by decide +kernel
theorem dX6_findFrom_0 : decode cX6_findFrom 0 = .ok (.iload_n 1, 1) := by decide +kernel
theorem dX6_findFrom_1 : decode cX6_findFrom 1 = .ok (.istore_n 2, 1) := by decide +kernel
theorem dX6_findFrom_2 : decode cX6_findFrom 2 = .ok (.iload_n 2, 1) := by decide +kernel
theorem dX6_findFrom_3 : decode cX6_findFrom 3 = .ok (.aload_n 0, 1) := by decide +kernel
theorem dX6_findFrom_4 : decode cX6_findFrom 4 = .ok (.getfield 130, 3) := by decide +kernel
theorem dX6_findFrom_7 : decode cX6_findFrom 7 = .ok (.iadd, 1) := by decide +kernel
theorem dX6_findFrom_8 : decode cX6_findFrom 8 = .ok (.aload_n 0, 1) := by decide +kernel
theorem dX6_findFrom_9 : decode cX6_findFrom 9 = .ok (.iconst 0, 1) := by decide +kernel
theorem dX6_findFrom_10 : decode cX6_findFrom 10 = .ok (.invokevirtual 49, 3) := by decide +kernel
theorem dX6_findFrom_13 : decode cX6_findFrom 13 = .ok (.if_icmp .gt 19, 3) := by decide +kernel
theorem dX6_findFrom_16 : decode cX6_findFrom 16 = .ok (.aload_n 0, 1) := by decide +kernel
theorem dX6_findFrom_17 : decode cX6_findFrom 17 = .ok (.iload_n 2, 1) := by decide +kernel
theorem dX6_findFrom_18 : decode cX6_findFrom 18 = .ok (.invokevirtual 154, 3) := by decide +kernel
theorem dX6_findFrom_21 : decode cX6_findFrom 21 = .ok (.ifCond .eq 5, 3) := by decide +kernel
theorem dX6_findFrom_24 : decode cX6_findFrom 24 = .ok (.iload_n 2, 1) := by decide +kernel
theorem dX6_findFrom_25 : decode cX6_findFrom 25 = .ok (.ireturn, 1) := by decide +kernel
theorem dX6_findFrom_26 : decode cX6_findFrom 26 = .ok (.iinc 2 1, 3) := by decide +kernel
theorem dX6_findFrom_29 : decode cX6_findFrom 29 = .ok (.goto (-27), 3) := by decide +kernel
theorem dX6_findFrom_32 : decode cX6_findFrom 32 = .ok (.bipush (-5), 2) := by decide +kernel
theorem dX6_findFrom_34 : decode cX6_findFrom 34 = .ok (.ireturn, 1) := by decide +kernel
theorem dX6_occurrences_0 : decode cX6_occurrences 0 = .ok (.iconst 0, 1) := by decide +kernel
theorem dX6_occurrences_1 : decode cX6_occurrences 1 = .ok (.istore_n 1, 1) := by decide +kernel
theorem dX6_occurrences_2 : decode cX6_occurrences 2 = .ok (.aload_n 0, 1) := by decide +kernel
theorem dX6_occurrences_3 : decode cX6_occurrences 3 = .ok (.iconst 0, 1) := by decide +kernel
theorem dX6_occurrences_4 : decode cX6_occurrences 4 = .ok (.invokevirtual 157, 3) := by decide +kernel
theorem dX6_occurrences_7 : decode cX6_occurrences 7 = .ok (.istore_n 2, 1) := by decide +kernel
theorem dX6_occurrences_8 : decode cX6_occurrences 8 = .ok (.iload_n 2, 1) := by decide +kernel
theorem dX6_occurrences_9 : decode cX6_occurrences 9 = .ok (.bipush (-5), 2) := by decide +kernel
theorem dX6_occurrences_11 : decode cX6_occurrences 11 = .ok (.if_icmp .eq 20, 3) := by decide +kernel
theorem dX6_occurrences_14 : decode cX6_occurrences 14 = .ok (.iinc 1 1, 3) := by decide +kernel
theorem dX6_occurrences_17 : decode cX6_occurrences 17 = .ok (.aload_n 0, 1) := by decide +kernel
theorem dX6_occurrences_18 : decode cX6_occurrences 18 = .ok (.iload_n 2, 1) := by decide +kernel
theorem dX6_occurrences_19 : decode cX6_occurrences 19 = .ok (.aload_n 0, 1) := by decide +kernel
theorem dX6_occurrences_20 : decode cX6_occurrences 20 = .ok (.getfield 130, 3) := by decide +kernel
theorem dX6_occurrences_23 : decode cX6_occurrences 23 = .ok (.iadd, 1) := by decide +kernel
theorem dX6_occurrences_24 : decode cX6_occurrences 24 = .ok (.invokevirtual 157, 3) := by decide +kernel
theorem dX6_occurrences_27 : decode cX6_occurrences 27 = .ok (.istore_n 2, 1) := by decide +kernel
theorem dX6_occurrences_28 : decode cX6_occurrences 28 = .ok (.goto (-20), 3) := by decide +kernel
theorem dX6_occurrences_31 : decode cX6_occurrences 31 = .ok (.iload_n 1, 1) := by decide +kernel
theorem dX6_occurrences_32 : decode cX6_occurrences 32 = .ok (.ireturn, 1) := by decide +kernel
theorem dX6_replaceAll_0 : decode cX6_replaceAll 0 = .ok (.aload_n 0, 1) := by decide +kernel
theorem dX6_replaceAll_1 : decode cX6_replaceAll 1 = .ok (.getfield 130, 3) := by decide +kernel
theorem dX6_replaceAll_4 : decode cX6_replaceAll 4 = .ok (.ifCond .eq 12, 3) := by decide +kernel
theorem dX6_replaceAll_7 : decode cX6_replaceAll 7 = .ok (.aload_n 0, 1) := by decide +kernel
theorem dX6_replaceAll_8 : decode cX6_replaceAll 8 = .ok (.getfield 13, 3) := by decide +kernel
theorem dX6_replaceAll_11 : decode cX6_replaceAll 11 = .ok (.iconst 3, 1) := by decide +kernel
theorem dX6_replaceAll_12 : decode cX6_replaceAll 12 = .ok (.iaload, 1) := by decide +kernel
theorem dX6_replaceAll_13 : decode cX6_replaceAll 13 = .ok (.ifCond .ne 6, 3) := by decide +kernel
theorem dX6_replaceAll_16 : decode cX6_replaceAll 16 = .ok (.bipush (-3), 2) := by decide +kernel
theorem dX6_replaceAll_18 : decode cX6_replaceAll 18 = .ok (.ireturn, 1) := by decide +kernel
theorem dX6_replaceAll_19 : decode cX6_replaceAll 19 = .ok (.aload_n 0, 1) := by decide +kernel
theorem dX6_replaceAll_20 : decode cX6_replaceAll 20 = .ok (.invokevirtual 160, 3) := by decide +kernel
theorem dX6_replaceAll_23 : decode cX6_replaceAll 23 = .ok (.istore_n 1, 1) := by decide +kernel
theorem dX6_replaceAll_24 : decode cX6_replaceAll 24 = .ok (.aload_n 0, 1) := by decide +kernel
theorem dX6_replaceAll_25 : decode cX6_replaceAll 25 = .ok (.iconst 0, 1) := by decide +kernel
theorem dX6_replaceAll_26 : decode cX6_replaceAll 26 = .ok (.invokevirtual 49, 3) := by decide +kernel
