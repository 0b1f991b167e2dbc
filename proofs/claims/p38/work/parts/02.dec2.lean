theorem dL_marks_11 : decode cL_marks 11 = .ok (.iload 4, 2) := by decide +kernel
theorem dL_marks_13 : decode cL_marks 13 = .ok (.aload_n 3, 1) := by decide +kernel
theorem dL_marks_14 : decode cL_marks 14 = .ok (.iload 4, 2) := by decide +kernel
theorem dL_marks_16 : decode cL_marks 16 = .ok (.iaload, 1) := by decide +kernel
theorem dL_marks_17 : decode cL_marks 17 = .ok (.iload_n 0, 1) := by decide +kernel
theorem dL_marks_18 : decode cL_marks 18 = .ok (.iload_n 1, 1) := by decide +kernel
theorem dL_marks_19 : decode cL_marks 19 = .ok (.iadd, 1) := by decide +kernel
theorem dL_marks_20 : decode cL_marks 20 = .ok (.if_icmp .le 12, 3) := by decide +kernel
theorem dL_marks_23 : decode cL_marks 23 = .ok (.aload_n 3, 1) := by decide +kernel
theorem dL_marks_24 : decode cL_marks 24 = .ok (.iload 4, 2) := by decide +kernel
theorem dL_marks_26 : decode cL_marks 26 = .ok (.iaload, 1) := by decide +kernel
theorem dL_marks_27 : decode cL_marks 27 = .ok (.iload_n 1, 1) := by decide +kernel
theorem dL_marks_28 : decode cL_marks 28 = .ok (.isub, 1) := by decide +kernel
theorem dL_marks_29 : decode cL_marks 29 = .ok (.goto 19, 3) := by decide +kernel
theorem dL_marks_32 : decode cL_marks 32 = .ok (.aload_n 3, 1) := by decide +kernel
theorem dL_marks_33 : decode cL_marks 33 = .ok (.iload 4, 2) := by decide +kernel
theorem dL_marks_35 : decode cL_marks 35 = .ok (.iaload, 1) := by decide +kernel
theorem dL_marks_36 : decode cL_marks 36 = .ok (.iload_n 0, 1) := by decide +kernel
theorem dL_marks_37 : decode cL_marks 37 = .ok (.if_icmp .le 7, 3) := by decide +kernel
theorem dL_marks_40 : decode cL_marks 40 = .ok (.iload_n 0, 1) := by decide +kernel
theorem dL_marks_41 : decode cL_marks 41 = .ok (.goto 7, 3) := by decide +kernel
theorem dL_marks_44 : decode cL_marks 44 = .ok (.aload_n 3, 1) := by decide +kernel
theorem dL_marks_45 : decode cL_marks 45 = .ok (.iload 4, 2) := by decide +kernel
theorem dL_marks_47 : decode cL_marks 47 = .ok (.iaload, 1) := by decide +kernel
theorem dL_marks_48 : decode cL_marks 48 = .ok (.iastore, 1) := by decide +kernel
theorem dL_marks_49 : decode cL_marks 49 = .ok (.aload_n 3, 1) := by decide +kernel
theorem dL_marks_50 : decode cL_marks 50 = .ok (.iload 4, 2) := by decide +kernel
theorem dL_marks_52 : decode cL_marks 52 = .ok (.dup2, 1) := by decide +kernel
theorem dL_marks_53 : decode cL_marks 53 = .ok (.iaload, 1) := by decide +kernel
theorem dL_marks_54 : decode cL_marks 54 = .ok (.aload_n 3, 1) := by decide +kernel
theorem dL_marks_55 : decode cL_marks 55 = .ok (.iload 4, 2) := by decide +kernel
theorem dL_marks_57 : decode cL_marks 57 = .ok (.iaload, 1) := by decide +kernel
theorem dL_marks_58 : decode cL_marks 58 = .ok (.iload_n 0, 1) := by decide +kernel
theorem dL_marks_59 : decode cL_marks 59 = .ok (.if_icmp .lt 7, 3) := by decide +kernel
theorem dL_marks_62 : decode cL_marks 62 = .ok (.iload_n 2, 1) := by decide +kernel
theorem dL_marks_63 : decode cL_marks 63 = .ok (.goto 4, 3) := by decide +kernel
theorem dL_marks_66 : decode cL_marks 66 = .ok (.iconst 0, 1) := by decide +kernel
theorem dL_marks_67 : decode cL_marks 67 = .ok (.iadd, 1) := by decide +kernel
theorem dL_marks_68 : decode cL_marks 68 = .ok (.iastore, 1) := by decide +kernel
theorem dL_marks_69 : decode cL_marks 69 = .ok (.iinc 4 1, 3) := by decide +kernel
theorem dL_marks_72 : decode cL_marks 72 = .ok (.goto (-69), 3) := by decide +kernel
theorem dL_marks_75 : decode cL_marks 75 = .ok (.return_, 1) := by decide +kernel
theorem dL_replace_0 : decode cL_replace 0 = .ok (.bipush 64, 2) := by decide +kernel
theorem dL_replace_2 : decode cL_replace 2 = .ok (.newarray .int, 2) := by decide +kernel
theorem dL_replace_4 : decode cL_replace 4 = .ok (.astore 6, 2) := by decide +kernel
theorem dL_replace_6 : decode cL_replace 6 = .ok (.iconst 0, 1) := by decide +kernel
theorem dL_replace_7 : decode cL_replace 7 = .ok (.istore 7, 2) := by decide +kernel
theorem dL_replace_9 : decode cL_replace 9 = .ok (.iload 7, 2) := by decide +kernel
theorem dL_replace_11 : decode cL_replace 11 = .ok (.aload 5, 2) := by decide +kernel
theorem dL_replace_13 : decode cL_replace 13 = .ok (.bipush 7, 2) := by decide +kernel
theorem dL_replace_15 : decode cL_replace 15 = .ok (.iaload, 1) := by decide +kernel
theorem dL_replace_16 : decode cL_replace 16 = .ok (.if_icmp .ge 19, 3) := by decide +kernel
theorem dL_replace_19 : decode cL_replace 19 = .ok (.aload 6, 2) := by decide +kernel
theorem dL_replace_21 : decode cL_replace 21 = .ok (.iload 7, 2) := by decide +kernel
theorem dL_replace_23 : decode cL_replace 23 = .ok (.aload 4, 2) := by decide +kernel
theorem dL_replace_25 : decode cL_replace 25 = .ok (.iload 7, 2) := by decide +kernel
theorem dL_replace_27 : decode cL_replace 27 = .ok (.iaload, 1) := by decide +kernel
theorem dL_replace_28 : decode cL_replace 28 = .ok (.iastore, 1) := by decide +kernel
theorem dL_replace_29 : decode cL_replace 29 = .ok (.iinc 7 1, 3) := by decide +kernel
theorem dL_replace_32 : decode cL_replace 32 = .ok (.goto (-23), 3) := by decide +kernel
theorem dL_replace_35 : decode cL_replace 35 = .ok (.iconst 0, 1) := by decide +kernel
theorem dL_replace_36 : decode cL_replace 36 = .ok (.istore 7, 2) := by decide +kernel
theorem dL_replace_38 : decode cL_replace 38 = .ok (.iload 7, 2) := by decide +kernel
theorem dL_replace_40 : decode cL_replace 40 = .ok (.iload_n 3, 1) := by decide +kernel
theorem dL_replace_41 : decode cL_replace 41 = .ok (.if_icmp .ge 20, 3) := by decide +kernel
theorem dL_replace_44 : decode cL_replace 44 = .ok (.aload 4, 2) := by decide +kernel
theorem dL_replace_46 : decode cL_replace 46 = .ok (.iload_n 0, 1) := by decide +kernel
theorem dL_replace_47 : decode cL_replace 47 = .ok (.iload 7, 2) := by decide +kernel
theorem dL_replace_49 : decode cL_replace 49 = .ok (.iadd, 1) := by decide +kernel
theorem dL_replace_50 : decode cL_replace 50 = .ok (.aload_n 2, 1) := by decide +kernel
theorem dL_replace_51 : decode cL_replace 51 = .ok (.iload 7, 2) := by decide +kernel
theorem dL_replace_53 : decode cL_replace 53 = .ok (.iaload, 1) := by decide +kernel
theorem dL_replace_54 : decode cL_replace 54 = .ok (.iastore, 1) := by decide +kernel
theorem dL_replace_55 : decode cL_replace 55 = .ok (.iinc 7 1, 3) := by decide +kernel
theorem dL_replace_58 : decode cL_replace 58 = .ok (.goto (-20), 3) := by decide +kernel
theorem dL_replace_61 : decode cL_replace 61 = .ok (.iload_n 0, 1) := by decide +kernel
theorem dL_replace_62 : decode cL_replace 62 = .ok (.iload_n 1, 1) := by decide +kernel
theorem dL_replace_63 : decode cL_replace 63 = .ok (.iadd, 1) := by decide +kernel
theorem dL_replace_64 : decode cL_replace 64 = .ok (.istore 7, 2) := by decide +kernel
theorem dL_replace_66 : decode cL_replace 66 = .ok (.iload 7, 2) := by decide +kernel
theorem dL_replace_68 : decode cL_replace 68 = .ok (.aload 5, 2) := by decide +kernel
theorem dL_replace_70 : decode cL_replace 70 = .ok (.bipush 7, 2) := by decide +kernel
theorem dL_replace_72 : decode cL_replace 72 = .ok (.iaload, 1) := by decide +kernel
theorem dL_replace_73 : decode cL_replace 73 = .ok (.if_icmp .ge 23, 3) := by decide +kernel
theorem dL_replace_76 : decode cL_replace 76 = .ok (.aload 4, 2) := by decide +kernel
theorem dL_replace_78 : decode cL_replace 78 = .ok (.iload 7, 2) := by decide +kernel
theorem dL_replace_80 : decode cL_replace 80 = .ok (.iload_n 1, 1) := by decide +kernel
theorem dL_replace_81 : decode cL_replace 81 = .ok (.isub, 1) := by decide +kernel
theorem dL_replace_82 : decode cL_replace 82 = .ok (.iload_n 3, 1) := by decide +kernel
theorem dL_replace_83 : decode cL_replace 83 = .ok (.iadd, 1) := by decide +kernel
theorem dL_replace_84 : decode cL_replace 84 = .ok (.aload 6, 2) := by decide +kernel
theorem dL_replace_86 : decode cL_replace 86 = .ok (.iload 7, 2) := by decide +kernel
theorem dL_replace_88 : decode cL_replace 88 = .ok (.iaload, 1) := by decide +kernel
theorem dL_replace_89 : decode cL_replace 89 = .ok (.iastore, 1) := by decide +kernel
theorem dL_replace_90 : decode cL_replace 90 = .ok (.iinc 7 1, 3) := by decide +kernel
theorem dL_replace_93 : decode cL_replace 93 = .ok (.goto (-27), 3) := by decide +kernel
theorem dL_replace_96 : decode cL_replace 96 = .ok (.aload 5, 2) := by decide +kernel
theorem dL_replace_98 : decode cL_replace 98 = .ok (.bipush 7, 2) := by decide +kernel
theorem dL_replace_100 : decode cL_replace 100 = .ok (.dup2, 1) := by decide +kernel
theorem dL_replace_101 : decode cL_replace 101 = .ok (.iaload, 1) := by decide +kernel
theorem dL_replace_102 : decode cL_replace 102 = .ok (.iload_n 3, 1) := by decide +kernel
theorem dL_replace_103 : decode cL_replace 103 = .ok (.iload_n 1, 1) := by decide +kernel
theorem dL_replace_104 : decode cL_replace 104 = .ok (.isub, 1) := by decide +kernel
theorem dL_replace_105 : decode cL_replace 105 = .ok (.iadd, 1) := by decide +kernel
theorem dL_replace_106 : decode cL_replace 106 = .ok (.iastore, 1) := by decide +kernel
theorem dL_replace_107 : decode cL_replace 107 = .ok (.return_, 1) := by decide +kernel
theorem dL_balance_0 : decode cL_balance 0 = .ok (.aload_n 1, 1) := by decide +kernel
theorem dL_balance_1 : decode cL_balance 1 = .ok (.iconst 1, 1) := by decide +kernel
theorem dL_balance_2 : decode cL_balance 2 = .ok (.iaload, 1) := by decide +kernel
theorem dL_balance_3 : decode cL_balance 3 = .ok (.iconst 1, 1) := by decide +kernel
theorem dL_balance_4 : decode cL_balance 4 = .ok (.if_icmp .ne 25, 3) := by decide +kernel
theorem dL_balance_7 : decode cL_balance 7 = .ok (.aload_n 0, 1) := by decide +kernel
theorem dL_balance_8 : decode cL_balance 8 = .ok (.aload_n 1, 1) := by decide +kernel
theorem dL_balance_9 : decode cL_balance 9 = .ok (.bipush 7, 2) := by decide +kernel
theorem dL_balance_11 : decode cL_balance 11 = .ok (.iaload, 1) := by decide +kernel
theorem dL_balance_12 : decode cL_balance 12 = .ok (.invokestatic 42, 3) := by decide +kernel
theorem dL_balance_15 : decode cL_balance 15 = .ok (.ifCond .ne 14, 3) := by decide +kernel
theorem dL_balance_18 : decode cL_balance 18 = .ok (.aload_n 0, 1) := by decide +kernel
theorem dL_balance_19 : decode cL_balance 19 = .ok (.invokestatic 38, 3) := by decide +kernel
theorem dL_balance_22 : decode cL_balance 22 = .ok (.aload_n 1, 1) := by decide +kernel
theorem dL_balance_23 : decode cL_balance 23 = .ok (.iconst 2, 1) := by decide +kernel
theorem dL_balance_24 : decode cL_balance 24 = .ok (.dup2, 1) := by decide +kernel
theorem dL_balance_25 : decode cL_balance 25 = .ok (.iaload, 1) := by decide +kernel
theorem dL_balance_26 : decode cL_balance 26 = .ok (.iconst 1, 1) := by decide +kernel
theorem dL_balance_27 : decode cL_balance 27 = .ok (.iadd, 1) := by decide +kernel
theorem dL_balance_28 : decode cL_balance 28 = .ok (.iastore, 1) := by decide +kernel
theorem dL_balance_29 : decode cL_balance 29 = .ok (.aload_n 0, 1) := by decide +kernel
theorem dL_balance_30 : decode cL_balance 30 = .ok (.areturn, 1) := by decide +kernel
theorem dL_same_0 : decode cL_same 0 = .ok (.iconst 0, 1) := by decide +kernel
theorem dL_same_1 : decode cL_same 1 = .ok (.istore 7, 2) := by decide +kernel
theorem dL_same_3 : decode cL_same 3 = .ok (.iconst 0, 1) := by decide +kernel
theorem dL_same_4 : decode cL_same 4 = .ok (.istore 8, 2) := by decide +kernel
theorem dL_same_6 : decode cL_same 6 = .ok (.iload 8, 2) := by decide +kernel
theorem dL_same_8 : decode cL_same 8 = .ok (.aload_n 2, 1) := by decide +kernel
theorem dL_same_9 : decode cL_same 9 = .ok (.bipush 63, 2) := by decide +kernel
theorem dL_same_11 : decode cL_same 11 = .ok (.iaload, 1) := by decide +kernel
theorem dL_same_12 : decode cL_same 12 = .ok (.if_icmp .ge 66, 3) := by decide +kernel
theorem dL_same_15 : decode cL_same 15 = .ok (.aload_n 0, 1) := by decide +kernel
theorem dL_same_16 : decode cL_same 16 = .ok (.iload 8, 2) := by decide +kernel
theorem dL_same_18 : decode cL_same 18 = .ok (.iconst 0, 1) := by decide +kernel
theorem dL_same_19 : decode cL_same 19 = .ok (.invokevirtual 46, 3) := by decide +kernel
theorem dL_same_22 : decode cL_same 22 = .ok (.iload 7, 2) := by decide +kernel
theorem dL_same_24 : decode cL_same 24 = .ok (.if_icmp .ne 35, 3) := by decide +kernel
theorem dL_same_27 : decode cL_same 27 = .ok (.aload_n 0, 1) := by decide +kernel
theorem dL_same_28 : decode cL_same 28 = .ok (.iload 8, 2) := by decide +kernel
theorem dL_same_30 : decode cL_same 30 = .ok (.iconst 1, 1) := by decide +kernel
theorem dL_same_31 : decode cL_same 31 = .ok (.invokevirtual 46, 3) := by decide +kernel
theorem dL_same_34 : decode cL_same 34 = .ok (.aload_n 2, 1) := by decide +kernel
theorem dL_same_35 : decode cL_same 35 = .ok (.iload 8, 2) := by decide +kernel
theorem dL_same_37 : decode cL_same 37 = .ok (.invokestatic 10, 3) := by decide +kernel
theorem dL_same_40 : decode cL_same 40 = .ok (.if_icmp .ne 19, 3) := by decide +kernel
theorem dL_same_43 : decode cL_same 43 = .ok (.aload_n 0, 1) := by decide +kernel
theorem dL_same_44 : decode cL_same 44 = .ok (.iload 8, 2) := by decide +kernel
theorem dL_same_46 : decode cL_same 46 = .ok (.iconst 2, 1) := by decide +kernel
theorem dL_same_47 : decode cL_same 47 = .ok (.invokevirtual 46, 3) := by decide +kernel
theorem dL_same_50 : decode cL_same 50 = .ok (.aload_n 2, 1) := by decide +kernel
theorem dL_same_51 : decode cL_same 51 = .ok (.iload 8, 2) := by decide +kernel
theorem dL_same_53 : decode cL_same 53 = .ok (.invokestatic 31, 3) := by decide +kernel
theorem dL_same_56 : decode cL_same 56 = .ok (.if_icmp .eq 5, 3) := by decide +kernel
theorem dL_same_59 : decode cL_same 59 = .ok (.iconst 0, 1) := by decide +kernel
theorem dL_same_60 : decode cL_same 60 = .ok (.ireturn, 1) := by decide +kernel
theorem dL_same_61 : decode cL_same 61 = .ok (.iload 7, 2) := by decide +kernel
theorem dL_same_63 : decode cL_same 63 = .ok (.aload_n 2, 1) := by decide +kernel
theorem dL_same_64 : decode cL_same 64 = .ok (.iload 8, 2) := by decide +kernel
theorem dL_same_66 : decode cL_same 66 = .ok (.invokestatic 10, 3) := by decide +kernel
theorem dL_same_69 : decode cL_same 69 = .ok (.iadd, 1) := by decide +kernel
theorem dL_same_70 : decode cL_same 70 = .ok (.istore 7, 2) := by decide +kernel
theorem dL_same_72 : decode cL_same 72 = .ok (.iinc 8 1, 3) := by decide +kernel
theorem dL_same_75 : decode cL_same 75 = .ok (.goto (-69), 3) := by decide +kernel
theorem dL_same_78 : decode cL_same 78 = .ok (.iconst 0, 1) := by decide +kernel
theorem dL_same_79 : decode cL_same 79 = .ok (.istore 8, 2) := by decide +kernel
theorem dL_same_81 : decode cL_same 81 = .ok (.iload 8, 2) := by decide +kernel
theorem dL_same_83 : decode cL_same 83 = .ok (.aload 6, 2) := by decide +kernel
theorem dL_same_85 : decode cL_same 85 = .ok (.bipush 7, 2) := by decide +kernel
theorem dL_same_87 : decode cL_same 87 = .ok (.iaload, 1) := by decide +kernel
theorem dL_same_88 : decode cL_same 88 = .ok (.if_icmp .ge 24, 3) := by decide +kernel
theorem dL_same_91 : decode cL_same 91 = .ok (.aload_n 0, 1) := by decide +kernel
theorem dL_same_92 : decode cL_same 92 = .ok (.iload 8, 2) := by decide +kernel
theorem dL_same_94 : decode cL_same 94 = .ok (.invokevirtual 52, 3) := by decide +kernel
theorem dL_same_97 : decode cL_same 97 = .ok (.aload_n 3, 1) := by decide +kernel
theorem dL_same_98 : decode cL_same 98 = .ok (.iload 8, 2) := by decide +kernel
theorem dL_same_100 : decode cL_same 100 = .ok (.iaload, 1) := by decide +kernel
theorem dL_same_101 : decode cL_same 101 = .ok (.if_icmp .eq 5, 3) := by decide +kernel
theorem dL_same_104 : decode cL_same 104 = .ok (.iconst 0, 1) := by decide +kernel
theorem dL_same_105 : decode cL_same 105 = .ok (.ireturn, 1) := by decide +kernel
theorem dL_same_106 : decode cL_same 106 = .ok (.iinc 8 1, 3) := by decide +kernel
theorem dL_same_109 : decode cL_same 109 = .ok (.goto (-28), 3) := by decide +kernel
theorem dL_same_112 : decode cL_same 112 = .ok (.iconst 0, 1) := by decide +kernel
theorem dL_same_113 : decode cL_same 113 = .ok (.istore 8, 2) := by decide +kernel
theorem dL_same_115 : decode cL_same 115 = .ok (.iload 8, 2) := by decide +kernel
theorem dL_same_117 : decode cL_same 117 = .ok (.iconst 4, 1) := by decide +kernel
theorem dL_same_118 : decode cL_same 118 = .ok (.if_icmp .ge 42, 3) := by decide +kernel
theorem dL_same_121 : decode cL_same 121 = .ok (.aload_n 0, 1) := by decide +kernel
theorem dL_same_122 : decode cL_same 122 = .ok (.iload 8, 2) := by decide +kernel
theorem dL_same_124 : decode cL_same 124 = .ok (.invokevirtual 56, 3) := by decide +kernel
theorem dL_same_127 : decode cL_same 127 = .ok (.aload 6, 2) := by decide +kernel
theorem dL_same_129 : decode cL_same 129 = .ok (.iconst 3, 1) := by decide +kernel
theorem dL_same_130 : decode cL_same 130 = .ok (.iload 8, 2) := by decide +kernel
theorem dL_same_132 : decode cL_same 132 = .ok (.iadd, 1) := by decide +kernel
theorem dL_same_133 : decode cL_same 133 = .ok (.iaload, 1) := by decide +kernel
theorem dL_same_134 : decode cL_same 134 = .ok (.ifCond .ge 8, 3) := by decide +kernel
theorem dL_same_137 : decode cL_same 137 = .ok (.bipush (-5), 2) := by decide +kernel
theorem dL_same_139 : decode cL_same 139 = .ok (.goto 10, 3) := by decide +kernel
theorem dL_same_142 : decode cL_same 142 = .ok (.aload 6, 2) := by decide +kernel
theorem dL_same_144 : decode cL_same 144 = .ok (.iconst 3, 1) := by decide +kernel
theorem dL_same_145 : decode cL_same 145 = .ok (.iload 8, 2) := by decide +kernel
theorem dL_same_147 : decode cL_same 147 = .ok (.iadd, 1) := by decide +kernel
theorem dL_same_148 : decode cL_same 148 = .ok (.iaload, 1) := by decide +kernel
theorem dL_same_149 : decode cL_same 149 = .ok (.if_icmp .eq 5, 3) := by decide +kernel
theorem dL_same_152 : decode cL_same 152 = .ok (.iconst 0, 1) := by decide +kernel
theorem dL_same_153 : decode cL_same 153 = .ok (.ireturn, 1) := by decide +kernel
theorem dL_same_154 : decode cL_same 154 = .ok (.iinc 8 1, 3) := by decide +kernel
theorem dL_same_157 : decode cL_same 157 = .ok (.goto (-42), 3) := by decide +kernel
theorem dL_same_160 : decode cL_same 160 = .ok (.aload 6, 2) := by decide +kernel
theorem dL_same_162 : decode cL_same 162 = .ok (.bipush 7, 2) := by decide +kernel
theorem dL_same_164 : decode cL_same 164 = .ok (.iaload, 1) := by decide +kernel
theorem dL_same_165 : decode cL_same 165 = .ok (.ifCond .le 187, 3) := by decide +kernel
theorem dL_same_168 : decode cL_same 168 = .ok (.iload_n 1, 1) := by decide +kernel
theorem dL_same_169 : decode cL_same 169 = .ok (.aload 6, 2) := by decide +kernel
theorem dL_same_171 : decode cL_same 171 = .ok (.bipush 7, 2) := by decide +kernel
theorem dL_same_173 : decode cL_same 173 = .ok (.iaload, 1) := by decide +kernel
theorem dL_same_174 : decode cL_same 174 = .ok (.invokestatic 59, 3) := by decide +kernel
theorem dL_same_177 : decode cL_same 177 = .ok (.istore 8, 2) := by decide +kernel
theorem dL_same_179 : decode cL_same 179 = .ok (.iconst 0, 1) := by decide +kernel
theorem dL_same_180 : decode cL_same 180 = .ok (.istore 9, 2) := by decide +kernel
theorem dL_same_182 : decode cL_same 182 = .ok (.aload_n 2, 1) := by decide +kernel
theorem dL_same_183 : decode cL_same 183 = .ok (.bipush 63, 2) := by decide +kernel
theorem dL_same_185 : decode cL_same 185 = .ok (.iaload, 1) := by decide +kernel
theorem dL_same_186 : decode cL_same 186 = .ok (.istore 10, 2) := by decide +kernel
theorem dL_same_188 : decode cL_same 188 = .ok (.iconst 0, 1) := by decide +kernel
theorem dL_same_189 : decode cL_same 189 = .ok (.istore 11, 2) := by decide +kernel
theorem dL_same_191 : decode cL_same 191 = .ok (.lconst 1, 1) := by decide +kernel
theorem dL_same_192 : decode cL_same 192 = .ok (.lstore 12, 2) := by decide +kernel
theorem dL_same_194 : decode cL_same 194 = .ok (.iconst 0, 1) := by decide +kernel
theorem dL_same_195 : decode cL_same 195 = .ok (.istore 14, 2) := by decide +kernel
theorem dL_same_197 : decode cL_same 197 = .ok (.iload 10, 2) := by decide +kernel
theorem dL_same_199 : decode cL_same 199 = .ok (.iload 9, 2) := by decide +kernel
theorem dL_same_201 : decode cL_same 201 = .ok (.isub, 1) := by decide +kernel
theorem dL_same_202 : decode cL_same 202 = .ok (.iconst 1, 1) := by decide +kernel
theorem dL_same_203 : decode cL_same 203 = .ok (.if_icmp .le 134, 3) := by decide +kernel
theorem dL_same_206 : decode cL_same 206 = .ok (.aload_n 2, 1) := by decide +kernel
theorem dL_same_207 : decode cL_same 207 = .ok (.iload 9, 2) := by decide +kernel
theorem dL_same_209 : decode cL_same 209 = .ok (.iload 10, 2) := by decide +kernel
theorem dL_same_211 : decode cL_same 211 = .ok (.iload 14, 2) := by decide +kernel
theorem dL_same_213 : decode cL_same 213 = .ok (.invokestatic 23, 3) := by decide +kernel
theorem dL_same_216 : decode cL_same 216 = .ok (.iconst 1, 1) := by decide +kernel
theorem dL_same_217 : decode cL_same 217 = .ok (.iadd, 1) := by decide +kernel
theorem dL_same_218 : decode cL_same 218 = .ok (.istore 15, 2) := by decide +kernel
theorem dL_same_220 : decode cL_same 220 = .ok (.iload 11, 2) := by decide +kernel
theorem dL_same_222 : decode cL_same 222 = .ok (.istore 16, 2) := by decide +kernel
theorem dL_same_224 : decode cL_same 224 = .ok (.iload 9, 2) := by decide +kernel
theorem dL_same_226 : decode cL_same 226 = .ok (.istore 17, 2) := by decide +kernel
theorem dL_same_228 : decode cL_same 228 = .ok (.iload 17, 2) := by decide +kernel
theorem dL_same_230 : decode cL_same 230 = .ok (.iload 15, 2) := by decide +kernel
theorem dL_same_232 : decode cL_same 232 = .ok (.if_icmp .ge 20, 3) := by decide +kernel
theorem dL_same_235 : decode cL_same 235 = .ok (.iload 16, 2) := by decide +kernel
theorem dL_same_237 : decode cL_same 237 = .ok (.aload_n 2, 1) := by decide +kernel
theorem dL_same_238 : decode cL_same 238 = .ok (.iload 17, 2) := by decide +kernel
theorem dL_same_240 : decode cL_same 240 = .ok (.invokestatic 10, 3) := by decide +kernel
theorem dL_same_243 : decode cL_same 243 = .ok (.iadd, 1) := by decide +kernel
theorem dL_same_244 : decode cL_same 244 = .ok (.istore 16, 2) := by decide +kernel
theorem dL_same_246 : decode cL_same 246 = .ok (.iinc 17 1, 3) := by decide +kernel
theorem dL_same_249 : decode cL_same 249 = .ok (.goto (-21), 3) := by decide +kernel
theorem dL_same_252 : decode cL_same 252 = .ok (.iload 8, 2) := by decide +kernel
theorem dL_same_254 : decode cL_same 254 = .ok (.iload 16, 2) := by decide +kernel
theorem dL_same_256 : decode cL_same 256 = .ok (.if_icmp .ge 7, 3) := by decide +kernel
theorem dL_same_259 : decode cL_same 259 = .ok (.iconst 1, 1) := by decide +kernel
theorem dL_same_260 : decode cL_same 260 = .ok (.goto 4, 3) := by decide +kernel
theorem dL_same_263 : decode cL_same 263 = .ok (.iconst 0, 1) := by decide +kernel
theorem dL_same_264 : decode cL_same 264 = .ok (.istore 17, 2) := by decide +kernel
theorem dL_same_266 : decode cL_same 266 = .ok (.ldc2_w 62, 3) := by decide +kernel
theorem dL_same_269 : decode cL_same 269 = .ok (.lload 12, 2) := by decide +kernel
theorem dL_same_271 : decode cL_same 271 = .ok (.lmul, 1) := by decide +kernel
theorem dL_same_272 : decode cL_same 272 = .ok (.iload 17, 2) := by decide +kernel
theorem dL_same_274 : decode cL_same 274 = .ok (.ifCond .eq 7, 3) := by decide +kernel
theorem dL_same_277 : decode cL_same 277 = .ok (.lconst 0, 1) := by decide +kernel
theorem dL_same_278 : decode cL_same 278 = .ok (.goto 4, 3) := by decide +kernel
theorem dL_same_281 : decode cL_same 281 = .ok (.lconst 1, 1) := by decide +kernel
theorem dL_same_282 : decode cL_same 282 = .ok (.ladd, 1) := by decide +kernel
theorem dL_same_283 : decode cL_same 283 = .ok (.ldc2_w 64, 3) := by decide +kernel
theorem dL_same_286 : decode cL_same 286 = .ok (.lrem, 1) := by decide +kernel
theorem dL_same_287 : decode cL_same 287 = .ok (.lstore 12, 2) := by decide +kernel
theorem dL_same_289 : decode cL_same 289 = .ok (.iload 17, 2) := by decide +kernel
theorem dL_same_291 : decode cL_same 291 = .ok (.ifCond .eq 8, 3) := by decide +kernel
theorem dL_same_294 : decode cL_same 294 = .ok (.iload 11, 2) := by decide +kernel
theorem dL_same_296 : decode cL_same 296 = .ok (.goto 5, 3) := by decide +kernel
theorem dL_same_299 : decode cL_same 299 = .ok (.iload 16, 2) := by decide +kernel
theorem dL_same_301 : decode cL_same 301 = .ok (.istore 11, 2) := by decide +kernel
theorem dL_same_303 : decode cL_same 303 = .ok (.iload 17, 2) := by decide +kernel
theorem dL_same_305 : decode cL_same 305 = .ok (.ifCond .eq 8, 3) := by decide +kernel
theorem dL_same_308 : decode cL_same 308 = .ok (.iload 15, 2) := by decide +kernel
theorem dL_same_310 : decode cL_same 310 = .ok (.goto 5, 3) := by decide +kernel
theorem dL_same_313 : decode cL_same 313 = .ok (.iload 10, 2) := by decide +kernel
theorem dL_same_315 : decode cL_same 315 = .ok (.istore 10, 2) := by decide +kernel
theorem dL_same_317 : decode cL_same 317 = .ok (.iload 17, 2) := by decide +kernel
theorem dL_same_319 : decode cL_same 319 = .ok (.ifCond .eq 8, 3) := by decide +kernel
theorem dL_same_322 : decode cL_same 322 = .ok (.iload 9, 2) := by decide +kernel
theorem dL_same_324 : decode cL_same 324 = .ok (.goto 5, 3) := by decide +kernel
theorem dL_same_327 : decode cL_same 327 = .ok (.iload 15, 2) := by decide +kernel
theorem dL_same_329 : decode cL_same 329 = .ok (.istore 9, 2) := by decide +kernel
theorem dL_same_331 : decode cL_same 331 = .ok (.iinc 14 1, 3) := by decide +kernel
theorem dL_same_334 : decode cL_same 334 = .ok (.goto (-137), 3) := by decide +kernel
theorem dL_same_337 : decode cL_same 337 = .ok (.aload_n 0, 1) := by decide +kernel
theorem dL_same_338 : decode cL_same 338 = .ok (.iload 8, 2) := by decide +kernel
theorem dL_same_340 : decode cL_same 340 = .ok (.invokevirtual 66, 3) := by decide +kernel
theorem dL_same_343 : decode cL_same 343 = .ok (.i2l, 1) := by decide +kernel
theorem dL_same_344 : decode cL_same 344 = .ok (.lload 12, 2) := by decide +kernel
theorem dL_same_346 : decode cL_same 346 = .ok (.lcmp, 1) := by decide +kernel
theorem dL_same_347 : decode cL_same 347 = .ok (.ifCond .eq 5, 3) := by decide +kernel
theorem dL_same_350 : decode cL_same 350 = .ok (.iconst 0, 1) := by decide +kernel
theorem dL_same_351 : decode cL_same 351 = .ok (.ireturn, 1) := by decide +kernel
theorem dL_same_352 : decode cL_same 352 = .ok (.aload 6, 2) := by decide +kernel
theorem dL_same_354 : decode cL_same 354 = .ok (.bipush 8, 2) := by decide +kernel
theorem dL_same_356 : decode cL_same 356 = .ok (.iaload, 1) := by decide +kernel
theorem dL_same_357 : decode cL_same 357 = .ok (.ifCond .le 83, 3) := by decide +kernel
theorem dL_same_360 : decode cL_same 360 = .ok (.aload_n 0, 1) := by decide +kernel
theorem dL_same_361 : decode cL_same 361 = .ok (.iconst 0, 1) := by decide +kernel
theorem dL_same_362 : decode cL_same 362 = .ok (.iconst 0, 1) := by decide +kernel
theorem dL_same_363 : decode cL_same 363 = .ok (.invokevirtual 69, 3) := by decide +kernel
theorem dL_same_366 : decode cL_same 366 = .ok (.aload 6, 2) := by decide +kernel
theorem dL_same_368 : decode cL_same 368 = .ok (.bipush 9, 2) := by decide +kernel
theorem dL_same_370 : decode cL_same 370 = .ok (.iaload, 1) := by decide +kernel
theorem dL_same_371 : decode cL_same 371 = .ok (.if_icmp .ne 31, 3) := by decide +kernel
theorem dL_same_374 : decode cL_same 374 = .ok (.aload_n 0, 1) := by decide +kernel
theorem dL_same_375 : decode cL_same 375 = .ok (.iconst 0, 1) := by decide +kernel
theorem dL_same_376 : decode cL_same 376 = .ok (.iconst 1, 1) := by decide +kernel
theorem dL_same_377 : decode cL_same 377 = .ok (.invokevirtual 69, 3) := by decide +kernel
theorem dL_same_380 : decode cL_same 380 = .ok (.aload 4, 2) := by decide +kernel
theorem dL_same_382 : decode cL_same 382 = .ok (.invokestatic 34, 3) := by decide +kernel
theorem dL_same_385 : decode cL_same 385 = .ok (.if_icmp .ne 17, 3) := by decide +kernel
theorem dL_same_388 : decode cL_same 388 = .ok (.aload_n 0, 1) := by decide +kernel
theorem dL_same_389 : decode cL_same 389 = .ok (.iconst 0, 1) := by decide +kernel
theorem dL_same_390 : decode cL_same 390 = .ok (.iconst 2, 1) := by decide +kernel
theorem dL_same_391 : decode cL_same 391 = .ok (.invokevirtual 69, 3) := by decide +kernel
theorem dL_same_394 : decode cL_same 394 = .ok (.aload 4, 2) := by decide +kernel
theorem dL_same_396 : decode cL_same 396 = .ok (.bipush 63, 2) := by decide +kernel
theorem dL_same_398 : decode cL_same 398 = .ok (.iaload, 1) := by decide +kernel
theorem dL_same_399 : decode cL_same 399 = .ok (.if_icmp .eq 5, 3) := by decide +kernel
theorem dL_same_402 : decode cL_same 402 = .ok (.iconst 0, 1) := by decide +kernel
theorem dL_same_403 : decode cL_same 403 = .ok (.ireturn, 1) := by decide +kernel
theorem dL_same_404 : decode cL_same 404 = .ok (.iconst 0, 1) := by decide +kernel
theorem dL_same_405 : decode cL_same 405 = .ok (.istore 8, 2) := by decide +kernel
theorem dL_same_407 : decode cL_same 407 = .ok (.iload 8, 2) := by decide +kernel
theorem dL_same_409 : decode cL_same 409 = .ok (.aload 6, 2) := by decide +kernel
theorem dL_same_411 : decode cL_same 411 = .ok (.bipush 9, 2) := by decide +kernel
theorem dL_same_413 : decode cL_same 413 = .ok (.iaload, 1) := by decide +kernel
theorem dL_same_414 : decode cL_same 414 = .ok (.if_icmp .ge 26, 3) := by decide +kernel
theorem dL_same_417 : decode cL_same 417 = .ok (.aload_n 0, 1) := by decide +kernel
theorem dL_same_418 : decode cL_same 418 = .ok (.iconst 0, 1) := by decide +kernel
theorem dL_same_419 : decode cL_same 419 = .ok (.iload 8, 2) := by decide +kernel
theorem dL_same_421 : decode cL_same 421 = .ok (.invokevirtual 72, 3) := by decide +kernel
theorem dL_same_424 : decode cL_same 424 = .ok (.aload 5, 2) := by decide +kernel
theorem dL_same_426 : decode cL_same 426 = .ok (.iload 8, 2) := by decide +kernel
theorem dL_same_428 : decode cL_same 428 = .ok (.iaload, 1) := by decide +kernel
theorem dL_same_429 : decode cL_same 429 = .ok (.if_icmp .eq 5, 3) := by decide +kernel
theorem dL_same_432 : decode cL_same 432 = .ok (.iconst 0, 1) := by decide +kernel
theorem dL_same_433 : decode cL_same 433 = .ok (.ireturn, 1) := by decide +kernel
theorem dL_same_434 : decode cL_same 434 = .ok (.iinc 8 1, 3) := by decide +kernel
theorem dL_same_437 : decode cL_same 437 = .ok (.goto (-30), 3) := by decide +kernel
theorem dL_same_440 : decode cL_same 440 = .ok (.aload_n 0, 1) := by decide +kernel
theorem dL_same_441 : decode cL_same 441 = .ok (.invokevirtual 75, 3) := by decide +kernel
theorem dL_same_444 : decode cL_same 444 = .ok (.aload 6, 2) := by decide +kernel
theorem dL_same_446 : decode cL_same 446 = .ok (.bipush 7, 2) := by decide +kernel
theorem dL_same_448 : decode cL_same 448 = .ok (.iaload, 1) := by decide +kernel
theorem dL_same_449 : decode cL_same 449 = .ok (.if_icmp .ne 102, 3) := by decide +kernel
theorem dL_same_452 : decode cL_same 452 = .ok (.aload_n 0, 1) := by decide +kernel
theorem dL_same_453 : decode cL_same 453 = .ok (.invokevirtual 79, 3) := by decide +kernel
theorem dL_same_456 : decode cL_same 456 = .ok (.aload_n 2, 1) := by decide +kernel
theorem dL_same_457 : decode cL_same 457 = .ok (.bipush 63, 2) := by decide +kernel
theorem dL_same_459 : decode cL_same 459 = .ok (.iaload, 1) := by decide +kernel
theorem dL_same_460 : decode cL_same 460 = .ok (.if_icmp .ne 91, 3) := by decide +kernel
theorem dL_same_463 : decode cL_same 463 = .ok (.aload_n 0, 1) := by decide +kernel
theorem dL_same_464 : decode cL_same 464 = .ok (.invokevirtual 82, 3) := by decide +kernel
theorem dL_same_467 : decode cL_same 467 = .ok (.aload_n 2, 1) := by decide +kernel
theorem dL_same_468 : decode cL_same 468 = .ok (.invokestatic 34, 3) := by decide +kernel
theorem dL_same_471 : decode cL_same 471 = .ok (.if_icmp .ne 80, 3) := by decide +kernel
theorem dL_same_474 : decode cL_same 474 = .ok (.aload_n 0, 1) := by decide +kernel
theorem dL_same_475 : decode cL_same 475 = .ok (.invokevirtual 84, 3) := by decide +kernel
theorem dL_same_478 : decode cL_same 478 = .ok (.aload_n 2, 1) := by decide +kernel
theorem dL_same_479 : decode cL_same 479 = .ok (.aload 6, 2) := by decide +kernel
theorem dL_same_481 : decode cL_same 481 = .ok (.bipush 7, 2) := by decide +kernel
theorem dL_same_483 : decode cL_same 483 = .ok (.iaload, 1) := by decide +kernel
theorem dL_same_484 : decode cL_same 484 = .ok (.invokestatic 42, 3) := by decide +kernel
theorem dL_same_487 : decode cL_same 487 = .ok (.ifCond .eq 7, 3) := by decide +kernel
theorem dL_same_490 : decode cL_same 490 = .ok (.iconst 1, 1) := by decide +kernel
theorem dL_same_491 : decode cL_same 491 = .ok (.goto 4, 3) := by decide +kernel
theorem dL_same_494 : decode cL_same 494 = .ok (.iconst 0, 1) := by decide +kernel
theorem dL_same_495 : decode cL_same 495 = .ok (.if_icmp .ne 56, 3) := by decide +kernel
theorem dL_same_498 : decode cL_same 498 = .ok (.aload_n 0, 1) := by decide +kernel
theorem dL_same_499 : decode cL_same 499 = .ok (.invokevirtual 87, 3) := by decide +kernel
theorem dL_same_502 : decode cL_same 502 = .ok (.aload 6, 2) := by decide +kernel
theorem dL_same_504 : decode cL_same 504 = .ok (.iconst 2, 1) := by decide +kernel
theorem dL_same_505 : decode cL_same 505 = .ok (.iaload, 1) := by decide +kernel
theorem dL_same_506 : decode cL_same 506 = .ok (.if_icmp .ne 45, 3) := by decide +kernel
theorem dL_same_509 : decode cL_same 509 = .ok (.aload_n 0, 1) := by decide +kernel
theorem dL_same_510 : decode cL_same 510 = .ok (.invokevirtual 90, 3) := by decide +kernel
theorem dL_same_513 : decode cL_same 513 = .ok (.aload 6, 2) := by decide +kernel
theorem dL_same_515 : decode cL_same 515 = .ok (.bipush 8, 2) := by decide +kernel
theorem dL_same_517 : decode cL_same 517 = .ok (.iaload, 1) := by decide +kernel
theorem dL_same_518 : decode cL_same 518 = .ok (.if_icmp .ne 33, 3) := by decide +kernel
theorem dL_same_521 : decode cL_same 521 = .ok (.aload_n 0, 1) := by decide +kernel
theorem dL_same_522 : decode cL_same 522 = .ok (.aload_n 2, 1) := by decide +kernel
theorem dL_same_523 : decode cL_same 523 = .ok (.bipush 63, 2) := by decide +kernel
theorem dL_same_525 : decode cL_same 525 = .ok (.iaload, 1) := by decide +kernel
theorem dL_same_526 : decode cL_same 526 = .ok (.iconst 0, 1) := by decide +kernel
theorem dL_same_527 : decode cL_same 527 = .ok (.invokevirtual 46, 3) := by decide +kernel
theorem dL_same_530 : decode cL_same 530 = .ok (.iconst (-1), 1) := by decide +kernel
theorem dL_same_531 : decode cL_same 531 = .ok (.if_icmp .ne 20, 3) := by decide +kernel
theorem dL_same_534 : decode cL_same 534 = .ok (.aload_n 0, 1) := by decide +kernel
theorem dL_same_535 : decode cL_same 535 = .ok (.aload 6, 2) := by decide +kernel
theorem dL_same_537 : decode cL_same 537 = .ok (.bipush 7, 2) := by decide +kernel
theorem dL_same_539 : decode cL_same 539 = .ok (.iaload, 1) := by decide +kernel
theorem dL_same_540 : decode cL_same 540 = .ok (.invokevirtual 52, 3) := by decide +kernel
theorem dL_same_543 : decode cL_same 543 = .ok (.iconst (-1), 1) := by decide +kernel
theorem dL_same_544 : decode cL_same 544 = .ok (.if_icmp .ne 7, 3) := by decide +kernel
theorem dL_same_547 : decode cL_same 547 = .ok (.iconst 1, 1) := by decide +kernel
theorem dL_same_548 : decode cL_same 548 = .ok (.goto 4, 3) := by decide +kernel
theorem dL_same_551 : decode cL_same 551 = .ok (.iconst 0, 1) := by decide +kernel
theorem dL_same_552 : decode cL_same 552 = .ok (.ireturn, 1) := by decide +kernel
theorem dL_law_0 : decode cL_law 0 = .ok (.new 47, 3) := by decide +kernel
theorem dL_law_3 : decode cL_law 3 = .ok (.dup, 1) := by decide +kernel
theorem dL_law_4 : decode cL_law 4 = .ok (.invokespecial 93, 3) := by decide +kernel
theorem dL_law_7 : decode cL_law 7 = .ok (.astore_n 1, 1) := by decide +kernel
theorem dL_law_8 : decode cL_law 8 = .ok (.bipush 10, 2) := by decide +kernel
theorem dL_law_10 : decode cL_law 10 = .ok (.newarray .int, 2) := by decide +kernel
theorem dL_law_12 : decode cL_law 12 = .ok (.astore_n 2, 1) := by decide +kernel
theorem dL_law_13 : decode cL_law 13 = .ok (.bipush 64, 2) := by decide +kernel
theorem dL_law_15 : decode cL_law 15 = .ok (.newarray .int, 2) := by decide +kernel
theorem dL_law_17 : decode cL_law 17 = .ok (.astore_n 3, 1) := by decide +kernel
theorem dL_law_18 : decode cL_law 18 = .ok (.bipush 64, 2) := by decide +kernel
theorem dL_law_20 : decode cL_law 20 = .ok (.newarray .int, 2) := by decide +kernel
theorem dL_law_22 : decode cL_law 22 = .ok (.astore 4, 2) := by decide +kernel
theorem dL_law_24 : decode cL_law 24 = .ok (.bipush 64, 2) := by decide +kernel
theorem dL_law_26 : decode cL_law 26 = .ok (.newarray .int, 2) := by decide +kernel
theorem dL_law_28 : decode cL_law 28 = .ok (.astore 5, 2) := by decide +kernel
theorem dL_law_30 : decode cL_law 30 = .ok (.bipush 64, 2) := by decide +kernel
theorem dL_law_32 : decode cL_law 32 = .ok (.newarray .int, 2) := by decide +kernel
theorem dL_law_34 : decode cL_law 34 = .ok (.astore 6, 2) := by decide +kernel
theorem dL_law_36 : decode cL_law 36 = .ok (.aload_n 2, 1) := by decide +kernel
theorem dL_law_37 : decode cL_law 37 = .ok (.iconst 0, 1) := by decide +kernel
theorem dL_law_38 : decode cL_law 38 = .ok (.bipush 8, 2) := by decide +kernel
theorem dL_law_40 : decode cL_law 40 = .ok (.iastore, 1) := by decide +kernel
theorem dL_law_41 : decode cL_law 41 = .ok (.aload_n 2, 1) := by decide +kernel
theorem dL_law_42 : decode cL_law 42 = .ok (.iconst 1, 1) := by decide +kernel
theorem dL_law_43 : decode cL_law 43 = .ok (.iconst 1, 1) := by decide +kernel
theorem dL_law_44 : decode cL_law 44 = .ok (.iastore, 1) := by decide +kernel
theorem dL_law_45 : decode cL_law 45 = .ok (.iconst 3, 1) := by decide +kernel
theorem dL_law_46 : decode cL_law 46 = .ok (.istore 7, 2) := by decide +kernel
theorem dL_law_48 : decode cL_law 48 = .ok (.iload 7, 2) := by decide +kernel
theorem dL_law_50 : decode cL_law 50 = .ok (.bipush 7, 2) := by decide +kernel
theorem dL_law_52 : decode cL_law 52 = .ok (.if_icmp .ge 14, 3) := by decide +kernel
theorem dL_law_55 : decode cL_law 55 = .ok (.aload_n 2, 1) := by decide +kernel
theorem dL_law_56 : decode cL_law 56 = .ok (.iload 7, 2) := by decide +kernel
theorem dL_law_58 : decode cL_law 58 = .ok (.iconst (-1), 1) := by decide +kernel
theorem dL_law_59 : decode cL_law 59 = .ok (.iastore, 1) := by decide +kernel
theorem dL_law_60 : decode cL_law 60 = .ok (.iinc 7 1, 3) := by decide +kernel
theorem dL_law_63 : decode cL_law 63 = .ok (.goto (-15), 3) := by decide +kernel
theorem dL_law_66 : decode cL_law 66 = .ok (.iconst 0, 1) := by decide +kernel
theorem dL_law_67 : decode cL_law 67 = .ok (.istore 7, 2) := by decide +kernel
theorem dL_law_69 : decode cL_law 69 = .ok (.iload 7, 2) := by decide +kernel
theorem dL_law_71 : decode cL_law 71 = .ok (.bipush 40, 2) := by decide +kernel
theorem dL_law_73 : decode cL_law 73 = .ok (.if_icmp .ge 1198, 3) := by decide +kernel
theorem dL_law_76 : decode cL_law 76 = .ok (.aload_n 0, 1) := by decide +kernel
theorem dL_law_77 : decode cL_law 77 = .ok (.iconst 2, 1) := by decide +kernel
theorem dL_law_78 : decode cL_law 78 = .ok (.iload 7, 2) := by decide +kernel
theorem dL_law_80 : decode cL_law 80 = .ok (.imul, 1) := by decide +kernel
theorem dL_law_81 : decode cL_law 81 = .ok (.invokestatic 94, 3) := by decide +kernel
theorem dL_law_84 : decode cL_law 84 = .ok (.istore 8, 2) := by decide +kernel
theorem dL_law_86 : decode cL_law 86 = .ok (.aload_n 0, 1) := by decide +kernel
theorem dL_law_87 : decode cL_law 87 = .ok (.iconst 2, 1) := by decide +kernel
theorem dL_law_88 : decode cL_law 88 = .ok (.iload 7, 2) := by decide +kernel
theorem dL_law_90 : decode cL_law 90 = .ok (.imul, 1) := by decide +kernel
theorem dL_law_91 : decode cL_law 91 = .ok (.iconst 1, 1) := by decide +kernel
theorem dL_law_92 : decode cL_law 92 = .ok (.iadd, 1) := by decide +kernel
theorem dL_law_93 : decode cL_law 93 = .ok (.invokestatic 94, 3) := by decide +kernel
theorem dL_law_96 : decode cL_law 96 = .ok (.istore 9, 2) := by decide +kernel
theorem dL_law_98 : decode cL_law 98 = .ok (.iload 7, 2) := by decide +kernel
theorem dL_law_100 : decode cL_law 100 = .ok (.ifCond .ne 7, 3) := by decide +kernel
theorem dL_law_103 : decode cL_law 103 = .ok (.iconst 0, 1) := by decide +kernel
theorem dL_law_104 : decode cL_law 104 = .ok (.goto 20, 3) := by decide +kernel
theorem dL_law_107 : decode cL_law 107 = .ok (.iload 7, 2) := by decide +kernel
theorem dL_law_109 : decode cL_law 109 = .ok (.iconst 1, 1) := by decide +kernel
theorem dL_law_110 : decode cL_law 110 = .ok (.if_icmp .ne 7, 3) := by decide +kernel
theorem dL_law_113 : decode cL_law 113 = .ok (.iconst 1, 1) := by decide +kernel
theorem dL_law_114 : decode cL_law 114 = .ok (.goto 10, 3) := by decide +kernel
theorem dL_law_117 : decode cL_law 117 = .ok (.iload 8, 2) := by decide +kernel
theorem dL_law_119 : decode cL_law 119 = .ok (.bipush 16, 2) := by decide +kernel
theorem dL_law_121 : decode cL_law 121 = .ok (.invokestatic 59, 3) := by decide +kernel
theorem dL_law_124 : decode cL_law 124 = .ok (.istore 10, 2) := by decide +kernel
theorem dL_law_126 : decode cL_law 126 = .ok (.aload_n 2, 1) := by decide +kernel
theorem dL_law_127 : decode cL_law 127 = .ok (.bipush 7, 2) := by decide +kernel
theorem dL_law_129 : decode cL_law 129 = .ok (.iaload, 1) := by decide +kernel
theorem dL_law_130 : decode cL_law 130 = .ok (.istore 11, 2) := by decide +kernel
theorem dL_law_132 : decode cL_law 132 = .ok (.iload 9, 2) := by decide +kernel
theorem dL_law_134 : decode cL_law 134 = .ok (.iload 11, 2) := by decide +kernel
theorem dL_law_136 : decode cL_law 136 = .ok (.iconst 1, 1) := by decide +kernel
theorem dL_law_137 : decode cL_law 137 = .ok (.iadd, 1) := by decide +kernel
theorem dL_law_138 : decode cL_law 138 = .ok (.invokestatic 59, 3) := by decide +kernel
theorem dL_law_141 : decode cL_law 141 = .ok (.istore 12, 2) := by decide +kernel
theorem dL_law_143 : decode cL_law 143 = .ok (.iload 9, 2) := by decide +kernel
theorem dL_law_145 : decode cL_law 145 = .ok (.iconst 5, 1) := by decide +kernel
theorem dL_law_146 : decode cL_law 146 = .ok (.ishr, 1) := by decide +kernel
theorem dL_law_147 : decode cL_law 147 = .ok (.iload 11, 2) := by decide +kernel
theorem dL_law_149 : decode cL_law 149 = .ok (.iconst 1, 1) := by decide +kernel
theorem dL_law_150 : decode cL_law 150 = .ok (.iadd, 1) := by decide +kernel
theorem dL_law_151 : decode cL_law 151 = .ok (.invokestatic 59, 3) := by decide +kernel
theorem dL_law_154 : decode cL_law 154 = .ok (.istore 13, 2) := by decide +kernel
theorem dL_law_156 : decode cL_law 156 = .ok (.iload 12, 2) := by decide +kernel
theorem dL_law_158 : decode cL_law 158 = .ok (.iload 13, 2) := by decide +kernel
theorem dL_law_160 : decode cL_law 160 = .ok (.if_icmp .ge 8, 3) := by decide +kernel
theorem dL_law_163 : decode cL_law 163 = .ok (.iload 12, 2) := by decide +kernel
theorem dL_law_165 : decode cL_law 165 = .ok (.goto 5, 3) := by decide +kernel
theorem dL_law_168 : decode cL_law 168 = .ok (.iload 13, 2) := by decide +kernel
theorem dL_law_170 : decode cL_law 170 = .ok (.istore 14, 2) := by decide +kernel
theorem dL_law_172 : decode cL_law 172 = .ok (.iload 12, 2) := by decide +kernel
theorem dL_law_174 : decode cL_law 174 = .ok (.iload 13, 2) := by decide +kernel
theorem dL_law_176 : decode cL_law 176 = .ok (.if_icmp .ge 8, 3) := by decide +kernel
theorem dL_law_179 : decode cL_law 179 = .ok (.iload 13, 2) := by decide +kernel
theorem dL_law_181 : decode cL_law 181 = .ok (.goto 5, 3) := by decide +kernel
theorem dL_law_184 : decode cL_law 184 = .ok (.iload 12, 2) := by decide +kernel
theorem dL_law_186 : decode cL_law 186 = .ok (.istore 15, 2) := by decide +kernel
theorem dL_law_188 : decode cL_law 188 = .ok (.iload 10, 2) := by decide +kernel
theorem dL_law_190 : decode cL_law 190 = .ok (.ifCond .ne 52, 3) := by decide +kernel
theorem dL_law_193 : decode cL_law 193 = .ok (.iconst 2, 1) := by decide +kernel
theorem dL_law_194 : decode cL_law 194 = .ok (.iload 9, 2) := by decide +kernel
theorem dL_law_196 : decode cL_law 196 = .ok (.iload 9, 2) := by decide +kernel
theorem dL_law_198 : decode cL_law 198 = .ok (.bipush 7, 2) := by decide +kernel
theorem dL_law_200 : decode cL_law 200 = .ok (.ishr, 1) := by decide +kernel
theorem dL_law_201 : decode cL_law 201 = .ok (.iconst 3, 1) := by decide +kernel
theorem dL_law_202 : decode cL_law 202 = .ok (.invokestatic 59, 3) := by decide +kernel
theorem dL_law_205 : decode cL_law 205 = .ok (.ifCond .ne 8, 3) := by decide +kernel
theorem dL_law_208 : decode cL_law 208 = .ok (.bipush 15, 2) := by decide +kernel
theorem dL_law_210 : decode cL_law 210 = .ok (.goto 4, 3) := by decide +kernel
theorem dL_law_213 : decode cL_law 213 = .ok (.iconst 4, 1) := by decide +kernel
theorem dL_law_214 : decode cL_law 214 = .ok (.invokestatic 59, 3) := by decide +kernel
theorem dL_law_217 : decode cL_law 217 = .ok (.iadd, 1) := by decide +kernel
theorem dL_law_218 : decode cL_law 218 = .ok (.istore 16, 2) := by decide +kernel
theorem dL_law_220 : decode cL_law 220 = .ok (.aload_n 1, 1) := by decide +kernel
theorem dL_law_221 : decode cL_law 221 = .ok (.iload 16, 2) := by decide +kernel
theorem dL_law_223 : decode cL_law 223 = .ok (.invokevirtual 97, 3) := by decide +kernel
theorem dL_law_226 : decode cL_law 226 = .ok (.aload_n 2, 1) := by decide +kernel
theorem dL_law_227 : decode cL_law 227 = .ok (.iconst 0, 1) := by decide +kernel
theorem dL_law_228 : decode cL_law 228 = .ok (.iaload, 1) := by decide +kernel
theorem dL_law_229 : decode cL_law 229 = .ok (.if_icmp .eq 5, 3) := by decide +kernel
theorem dL_law_232 : decode cL_law 232 = .ok (.iconst 0, 1) := by decide +kernel
theorem dL_law_233 : decode cL_law 233 = .ok (.ireturn, 1) := by decide +kernel
theorem dL_law_234 : decode cL_law 234 = .ok (.aload_n 2, 1) := by decide +kernel
theorem dL_law_235 : decode cL_law 235 = .ok (.iconst 0, 1) := by decide +kernel
theorem dL_law_236 : decode cL_law 236 = .ok (.iload 16, 2) := by decide +kernel
theorem dL_law_238 : decode cL_law 238 = .ok (.iastore, 1) := by decide +kernel
theorem dL_law_239 : decode cL_law 239 = .ok (.goto 1005, 3) := by decide +kernel
theorem dL_law_242 : decode cL_law 242 = .ok (.iload 10, 2) := by decide +kernel
theorem dL_law_244 : decode cL_law 244 = .ok (.iconst 5, 1) := by decide +kernel
theorem dL_law_245 : decode cL_law 245 = .ok (.if_icmp .ge 199, 3) := by decide +kernel
theorem dL_law_248 : decode cL_law 248 = .ok (.iconst 1, 1) := by decide +kernel
theorem dL_law_249 : decode cL_law 249 = .ok (.iload 8, 2) := by decide +kernel
theorem dL_law_251 : decode cL_law 251 = .ok (.iconst 4, 1) := by decide +kernel
theorem dL_law_252 : decode cL_law 252 = .ok (.ishr, 1) := by decide +kernel
theorem dL_law_253 : decode cL_law 253 = .ok (.bipush 9, 2) := by decide +kernel
theorem dL_law_255 : decode cL_law 255 = .ok (.invokestatic 59, 3) := by decide +kernel
theorem dL_law_258 : decode cL_law 258 = .ok (.iadd, 1) := by decide +kernel
theorem dL_law_259 : decode cL_law 259 = .ok (.istore 16, 2) := by decide +kernel
theorem dL_law_261 : decode cL_law 261 = .ok (.iload 11, 2) := by decide +kernel
theorem dL_law_263 : decode cL_law 263 = .ok (.iload 16, 2) := by decide +kernel
theorem dL_law_265 : decode cL_law 265 = .ok (.iadd, 1) := by decide +kernel
theorem dL_law_266 : decode cL_law 266 = .ok (.bipush 60, 2) := by decide +kernel
theorem dL_law_268 : decode cL_law 268 = .ok (.if_icmp .le 6, 3) := by decide +kernel
theorem dL_law_271 : decode cL_law 271 = .ok (.goto 994, 3) := by decide +kernel
theorem dL_law_274 : decode cL_law 274 = .ok (.bipush 64, 2) := by decide +kernel
theorem dL_law_276 : decode cL_law 276 = .ok (.newarray .int, 2) := by decide +kernel
theorem dL_law_278 : decode cL_law 278 = .ok (.astore 17, 2) := by decide +kernel
theorem dL_law_280 : decode cL_law 280 = .ok (.iconst 0, 1) := by decide +kernel
theorem dL_law_281 : decode cL_law 281 = .ok (.istore 18, 2) := by decide +kernel
theorem dL_law_283 : decode cL_law 283 = .ok (.iload 18, 2) := by decide +kernel
theorem dL_law_285 : decode cL_law 285 = .ok (.iload 16, 2) := by decide +kernel
theorem dL_law_287 : decode cL_law 287 = .ok (.if_icmp .ge 61, 3) := by decide +kernel
theorem dL_law_290 : decode cL_law 290 = .ok (.aload 17, 2) := by decide +kernel
theorem dL_law_292 : decode cL_law 292 = .ok (.iload 18, 2) := by decide +kernel
theorem dL_law_294 : decode cL_law 294 = .ok (.iload 9, 2) := by decide +kernel
theorem dL_law_296 : decode cL_law 296 = .ok (.iload 18, 2) := by decide +kernel
theorem dL_law_298 : decode cL_law 298 = .ok (.ishr, 1) := by decide +kernel
theorem dL_law_299 : decode cL_law 299 = .ok (.iconst 5, 1) := by decide +kernel
theorem dL_law_300 : decode cL_law 300 = .ok (.invokestatic 59, 3) := by decide +kernel
theorem dL_law_303 : decode cL_law 303 = .ok (.ifCond .ne 8, 3) := by decide +kernel
theorem dL_law_306 : decode cL_law 306 = .ok (.bipush 10, 2) := by decide +kernel
theorem dL_law_308 : decode cL_law 308 = .ok (.goto 15, 3) := by decide +kernel
theorem dL_law_311 : decode cL_law 311 = .ok (.bipush 97, 2) := by decide +kernel
theorem dL_law_313 : decode cL_law 313 = .ok (.iload 8, 2) := by decide +kernel
theorem dL_law_315 : decode cL_law 315 = .ok (.iload 18, 2) := by decide +kernel
theorem dL_law_317 : decode cL_law 317 = .ok (.ishr, 1) := by decide +kernel
theorem dL_law_318 : decode cL_law 318 = .ok (.iconst 2, 1) := by decide +kernel
theorem dL_law_319 : decode cL_law 319 = .ok (.invokestatic 59, 3) := by decide +kernel
theorem dL_law_322 : decode cL_law 322 = .ok (.iadd, 1) := by decide +kernel
theorem dL_law_323 : decode cL_law 323 = .ok (.iastore, 1) := by decide +kernel
theorem dL_law_324 : decode cL_law 324 = .ok (.aload_n 1, 1) := by decide +kernel
theorem dL_law_325 : decode cL_law 325 = .ok (.aload 17, 2) := by decide +kernel
theorem dL_law_327 : decode cL_law 327 = .ok (.iload 18, 2) := by decide +kernel
theorem dL_law_329 : decode cL_law 329 = .ok (.iaload, 1) := by decide +kernel
theorem dL_law_330 : decode cL_law 330 = .ok (.invokevirtual 100, 3) := by decide +kernel
theorem dL_law_333 : decode cL_law 333 = .ok (.iload 18, 2) := by decide +kernel
theorem dL_law_335 : decode cL_law 335 = .ok (.iconst 1, 1) := by decide +kernel
theorem dL_law_336 : decode cL_law 336 = .ok (.iadd, 1) := by decide +kernel
theorem dL_law_337 : decode cL_law 337 = .ok (.if_icmp .eq 5, 3) := by decide +kernel
theorem dL_law_340 : decode cL_law 340 = .ok (.iconst 0, 1) := by decide +kernel
theorem dL_law_341 : decode cL_law 341 = .ok (.ireturn, 1) := by decide +kernel
theorem dL_law_342 : decode cL_law 342 = .ok (.iinc 18 1, 3) := by decide +kernel
theorem dL_law_345 : decode cL_law 345 = .ok (.goto (-62), 3) := by decide +kernel
theorem dL_law_348 : decode cL_law 348 = .ok (.aload_n 3, 1) := by decide +kernel
theorem dL_law_349 : decode cL_law 349 = .ok (.iload 12, 2) := by decide +kernel
theorem dL_law_351 : decode cL_law 351 = .ok (.iconst 1, 1) := by decide +kernel
theorem dL_law_352 : decode cL_law 352 = .ok (.aload_n 2, 1) := by decide +kernel
theorem dL_law_353 : decode cL_law 353 = .ok (.iconst 0, 1) := by decide +kernel
theorem dL_law_354 : decode cL_law 354 = .ok (.iaload, 1) := by decide +kernel
theorem dL_law_355 : decode cL_law 355 = .ok (.invokestatic 103, 3) := by decide +kernel
theorem dL_law_358 : decode cL_law 358 = .ok (.astore 18, 2) := by decide +kernel
theorem dL_law_360 : decode cL_law 360 = .ok (.aload_n 3, 1) := by decide +kernel
theorem dL_law_361 : decode cL_law 361 = .ok (.iload 12, 2) := by decide +kernel
theorem dL_law_363 : decode cL_law 363 = .ok (.iconst 0, 1) := by decide +kernel
theorem dL_law_364 : decode cL_law 364 = .ok (.aload_n 2, 1) := by decide +kernel
theorem dL_law_365 : decode cL_law 365 = .ok (.iconst 0, 1) := by decide +kernel
theorem dL_law_366 : decode cL_law 366 = .ok (.iaload, 1) := by decide +kernel
theorem dL_law_367 : decode cL_law 367 = .ok (.invokestatic 103, 3) := by decide +kernel
theorem dL_law_370 : decode cL_law 370 = .ok (.astore 19, 2) := by decide +kernel
theorem dL_law_372 : decode cL_law 372 = .ok (.aload 18, 2) := by decide +kernel
theorem dL_law_374 : decode cL_law 374 = .ok (.iload 16, 2) := by decide +kernel
theorem dL_law_376 : decode cL_law 376 = .ok (.aload_n 2, 1) := by decide +kernel
theorem dL_law_377 : decode cL_law 377 = .ok (.iconst 0, 1) := by decide +kernel
theorem dL_law_378 : decode cL_law 378 = .ok (.iaload, 1) := by decide +kernel
theorem dL_law_379 : decode cL_law 379 = .ok (.invokestatic 107, 3) := by decide +kernel
theorem dL_law_382 : decode cL_law 382 = .ok (.aload_n 2, 1) := by decide +kernel
theorem dL_law_383 : decode cL_law 383 = .ok (.iconst 0, 1) := by decide +kernel
theorem dL_law_384 : decode cL_law 384 = .ok (.iaload, 1) := by decide +kernel
theorem dL_law_385 : decode cL_law 385 = .ok (.invokestatic 27, 3) := by decide +kernel
theorem dL_law_388 : decode cL_law 388 = .ok (.aload 19, 2) := by decide +kernel
theorem dL_law_390 : decode cL_law 390 = .ok (.aload_n 2, 1) := by decide +kernel
theorem dL_law_391 : decode cL_law 391 = .ok (.iconst 0, 1) := by decide +kernel
theorem dL_law_392 : decode cL_law 392 = .ok (.iaload, 1) := by decide +kernel
theorem dL_law_393 : decode cL_law 393 = .ok (.invokestatic 27, 3) := by decide +kernel
theorem dL_law_396 : decode cL_law 396 = .ok (.astore_n 3, 1) := by decide +kernel
theorem dL_law_397 : decode cL_law 397 = .ok (.iload 12, 2) := by decide +kernel
theorem dL_law_399 : decode cL_law 399 = .ok (.iconst 0, 1) := by decide +kernel
theorem dL_law_400 : decode cL_law 400 = .ok (.aload 17, 2) := by decide +kernel
theorem dL_law_402 : decode cL_law 402 = .ok (.iload 16, 2) := by decide +kernel
theorem dL_law_404 : decode cL_law 404 = .ok (.aload 4, 2) := by decide +kernel
theorem dL_law_406 : decode cL_law 406 = .ok (.aload_n 2, 1) := by decide +kernel
theorem dL_law_407 : decode cL_law 407 = .ok (.invokestatic 111, 3) := by decide +kernel
theorem dL_law_410 : decode cL_law 410 = .ok (.iload 12, 2) := by decide +kernel
theorem dL_law_412 : decode cL_law 412 = .ok (.iconst 0, 1) := by decide +kernel
theorem dL_law_413 : decode cL_law 413 = .ok (.iload 16, 2) := by decide +kernel
theorem dL_law_415 : decode cL_law 415 = .ok (.aload_n 2, 1) := by decide +kernel
theorem dL_law_416 : decode cL_law 416 = .ok (.invokestatic 115, 3) := by decide +kernel
theorem dL_law_419 : decode cL_law 419 = .ok (.aload_n 3, 1) := by decide +kernel
theorem dL_law_420 : decode cL_law 420 = .ok (.aload_n 2, 1) := by decide +kernel
theorem dL_law_421 : decode cL_law 421 = .ok (.invokestatic 119, 3) := by decide +kernel
theorem dL_law_424 : decode cL_law 424 = .ok (.astore_n 3, 1) := by decide +kernel
theorem dL_law_425 : decode cL_law 425 = .ok (.aload_n 1, 1) := by decide +kernel
theorem dL_law_426 : decode cL_law 426 = .ok (.iload 12, 2) := by decide +kernel
theorem dL_law_428 : decode cL_law 428 = .ok (.invokevirtual 123, 3) := by decide +kernel
theorem dL_law_431 : decode cL_law 431 = .ok (.iload 11, 2) := by decide +kernel
theorem dL_law_433 : decode cL_law 433 = .ok (.iload 16, 2) := by decide +kernel
theorem dL_law_435 : decode cL_law 435 = .ok (.iadd, 1) := by decide +kernel
theorem dL_law_436 : decode cL_law 436 = .ok (.if_icmp .eq 5, 3) := by decide +kernel
theorem dL_law_439 : decode cL_law 439 = .ok (.iconst 0, 1) := by decide +kernel
theorem dL_law_440 : decode cL_law 440 = .ok (.ireturn, 1) := by decide +kernel
theorem dL_law_441 : decode cL_law 441 = .ok (.goto 803, 3) := by decide +kernel
theorem dL_law_444 : decode cL_law 444 = .ok (.iload 10, 2) := by decide +kernel
theorem dL_law_446 : decode cL_law 446 = .ok (.bipush 9, 2) := by decide +kernel
theorem dL_law_448 : decode cL_law 448 = .ok (.if_icmp .ge 242, 3) := by decide +kernel
theorem dL_law_451 : decode cL_law 451 = .ok (.iload 14, 2) := by decide +kernel
theorem dL_law_453 : decode cL_law 453 = .ok (.iload 15, 2) := by decide +kernel
theorem dL_law_455 : decode cL_law 455 = .ok (.if_icmp .ge 235, 3) := by decide +kernel
theorem dL_law_458 : decode cL_law 458 = .ok (.aload_n 3, 1) := by decide +kernel
theorem dL_law_459 : decode cL_law 459 = .ok (.iload 14, 2) := by decide +kernel
theorem dL_law_461 : decode cL_law 461 = .ok (.iconst 1, 1) := by decide +kernel
theorem dL_law_462 : decode cL_law 462 = .ok (.aload_n 2, 1) := by decide +kernel
theorem dL_law_463 : decode cL_law 463 = .ok (.iconst 0, 1) := by decide +kernel
theorem dL_law_464 : decode cL_law 464 = .ok (.iaload, 1) := by decide +kernel
theorem dL_law_465 : decode cL_law 465 = .ok (.invokestatic 103, 3) := by decide +kernel
theorem dL_law_468 : decode cL_law 468 = .ok (.astore 16, 2) := by decide +kernel
theorem dL_law_470 : decode cL_law 470 = .ok (.aload_n 3, 1) := by decide +kernel
theorem dL_law_471 : decode cL_law 471 = .ok (.iload 14, 2) := by decide +kernel
theorem dL_law_473 : decode cL_law 473 = .ok (.iconst 0, 1) := by decide +kernel
theorem dL_law_474 : decode cL_law 474 = .ok (.aload_n 2, 1) := by decide +kernel
theorem dL_law_475 : decode cL_law 475 = .ok (.iconst 0, 1) := by decide +kernel
theorem dL_law_476 : decode cL_law 476 = .ok (.iaload, 1) := by decide +kernel
theorem dL_law_477 : decode cL_law 477 = .ok (.invokestatic 103, 3) := by decide +kernel
theorem dL_law_480 : decode cL_law 480 = .ok (.astore 17, 2) := by decide +kernel
theorem dL_law_482 : decode cL_law 482 = .ok (.aload 17, 2) := by decide +kernel
theorem dL_law_484 : decode cL_law 484 = .ok (.iload 15, 2) := by decide +kernel
theorem dL_law_486 : decode cL_law 486 = .ok (.iload 14, 2) := by decide +kernel
theorem dL_law_488 : decode cL_law 488 = .ok (.isub, 1) := by decide +kernel
theorem dL_law_489 : decode cL_law 489 = .ok (.iconst 1, 1) := by decide +kernel
theorem dL_law_490 : decode cL_law 490 = .ok (.aload_n 2, 1) := by decide +kernel
theorem dL_law_491 : decode cL_law 491 = .ok (.iconst 0, 1) := by decide +kernel
theorem dL_law_492 : decode cL_law 492 = .ok (.iaload, 1) := by decide +kernel
theorem dL_law_493 : decode cL_law 493 = .ok (.invokestatic 103, 3) := by decide +kernel
theorem dL_law_496 : decode cL_law 496 = .ok (.astore 18, 2) := by decide +kernel
theorem dL_law_498 : decode cL_law 498 = .ok (.aload 17, 2) := by decide +kernel
theorem dL_law_500 : decode cL_law 500 = .ok (.iload 15, 2) := by decide +kernel
theorem dL_law_502 : decode cL_law 502 = .ok (.iload 14, 2) := by decide +kernel
theorem dL_law_504 : decode cL_law 504 = .ok (.isub, 1) := by decide +kernel
theorem dL_law_505 : decode cL_law 505 = .ok (.iconst 0, 1) := by decide +kernel
theorem dL_law_506 : decode cL_law 506 = .ok (.aload_n 2, 1) := by decide +kernel
theorem dL_law_507 : decode cL_law 507 = .ok (.iconst 0, 1) := by decide +kernel
theorem dL_law_508 : decode cL_law 508 = .ok (.iaload, 1) := by decide +kernel
theorem dL_law_509 : decode cL_law 509 = .ok (.invokestatic 103, 3) := by decide +kernel
theorem dL_law_512 : decode cL_law 512 = .ok (.astore 19, 2) := by decide +kernel
theorem dL_law_514 : decode cL_law 514 = .ok (.iload 10, 2) := by decide +kernel
theorem dL_law_516 : decode cL_law 516 = .ok (.iconst 5, 1) := by decide +kernel
theorem dL_law_517 : decode cL_law 517 = .ok (.if_icmp .le 66, 3) := by decide +kernel
theorem dL_law_520 : decode cL_law 520 = .ok (.aload 18, 2) := by decide +kernel
theorem dL_law_522 : decode cL_law 522 = .ok (.astore 5, 2) := by decide +kernel
theorem dL_law_524 : decode cL_law 524 = .ok (.iload 14, 2) := by decide +kernel
theorem dL_law_526 : decode cL_law 526 = .ok (.istore 20, 2) := by decide +kernel
theorem dL_law_528 : decode cL_law 528 = .ok (.iload 20, 2) := by decide +kernel
theorem dL_law_530 : decode cL_law 530 = .ok (.iload 15, 2) := by decide +kernel
theorem dL_law_532 : decode cL_law 532 = .ok (.if_icmp .ge 22, 3) := by decide +kernel
theorem dL_law_535 : decode cL_law 535 = .ok (.aload 6, 2) := by decide +kernel
theorem dL_law_537 : decode cL_law 537 = .ok (.iload 20, 2) := by decide +kernel
theorem dL_law_539 : decode cL_law 539 = .ok (.iload 14, 2) := by decide +kernel
theorem dL_law_541 : decode cL_law 541 = .ok (.isub, 1) := by decide +kernel
theorem dL_law_542 : decode cL_law 542 = .ok (.aload 4, 2) := by decide +kernel
theorem dL_law_544 : decode cL_law 544 = .ok (.iload 20, 2) := by decide +kernel
theorem dL_law_546 : decode cL_law 546 = .ok (.iaload, 1) := by decide +kernel
theorem dL_law_547 : decode cL_law 547 = .ok (.iastore, 1) := by decide +kernel
theorem dL_law_548 : decode cL_law 548 = .ok (.iinc 20 1, 3) := by decide +kernel
theorem dL_law_551 : decode cL_law 551 = .ok (.goto (-23), 3) := by decide +kernel
theorem dL_law_554 : decode cL_law 554 = .ok (.aload_n 2, 1) := by decide +kernel
theorem dL_law_555 : decode cL_law 555 = .ok (.bipush 9, 2) := by decide +kernel
theorem dL_law_557 : decode cL_law 557 = .ok (.iload 15, 2) := by decide +kernel
theorem dL_law_559 : decode cL_law 559 = .ok (.iload 14, 2) := by decide +kernel
theorem dL_law_561 : decode cL_law 561 = .ok (.isub, 1) := by decide +kernel
theorem dL_law_562 : decode cL_law 562 = .ok (.iastore, 1) := by decide +kernel
theorem dL_law_563 : decode cL_law 563 = .ok (.aload_n 2, 1) := by decide +kernel
theorem dL_law_564 : decode cL_law 564 = .ok (.bipush 8, 2) := by decide +kernel
theorem dL_law_566 : decode cL_law 566 = .ok (.dup2, 1) := by decide +kernel
theorem dL_law_567 : decode cL_law 567 = .ok (.iaload, 1) := by decide +kernel
theorem dL_law_568 : decode cL_law 568 = .ok (.aload_n 2, 1) := by decide +kernel
theorem dL_law_569 : decode cL_law 569 = .ok (.bipush 8, 2) := by decide +kernel
theorem dL_law_571 : decode cL_law 571 = .ok (.iaload, 1) := by decide +kernel
theorem dL_law_572 : decode cL_law 572 = .ok (.iconst 4, 1) := by decide +kernel
theorem dL_law_573 : decode cL_law 573 = .ok (.if_icmp .ge 7, 3) := by decide +kernel
theorem dL_law_576 : decode cL_law 576 = .ok (.iconst 1, 1) := by decide +kernel
theorem dL_law_577 : decode cL_law 577 = .ok (.goto 4, 3) := by decide +kernel
theorem dL_law_580 : decode cL_law 580 = .ok (.iconst 0, 1) := by decide +kernel
theorem dL_law_581 : decode cL_law 581 = .ok (.iadd, 1) := by decide +kernel
theorem dL_law_582 : decode cL_law 582 = .ok (.iastore, 1) := by decide +kernel
theorem dL_law_583 : decode cL_law 583 = .ok (.iload 10, 2) := by decide +kernel
theorem dL_law_585 : decode cL_law 585 = .ok (.bipush 8, 2) := by decide +kernel
theorem dL_law_587 : decode cL_law 587 = .ok (.if_icmp .ne 21, 3) := by decide +kernel
theorem dL_law_590 : decode cL_law 590 = .ok (.aload_n 1, 1) := by decide +kernel
theorem dL_law_591 : decode cL_law 591 = .ok (.iload 14, 2) := by decide +kernel
theorem dL_law_593 : decode cL_law 593 = .ok (.iload 15, 2) := by decide +kernel
theorem dL_law_595 : decode cL_law 595 = .ok (.invokevirtual 126, 3) := by decide +kernel
theorem dL_law_598 : decode cL_law 598 = .ok (.aload 18, 2) := by decide +kernel
theorem dL_law_600 : decode cL_law 600 = .ok (.bipush 63, 2) := by decide +kernel
theorem dL_law_602 : decode cL_law 602 = .ok (.iaload, 1) := by decide +kernel
theorem dL_law_603 : decode cL_law 603 = .ok (.if_icmp .eq 84, 3) := by decide +kernel
theorem dL_law_606 : decode cL_law 606 = .ok (.iconst 0, 1) := by decide +kernel
theorem dL_law_607 : decode cL_law 607 = .ok (.ireturn, 1) := by decide +kernel
theorem dL_law_608 : decode cL_law 608 = .ok (.aload 16, 2) := by decide +kernel
theorem dL_law_610 : decode cL_law 610 = .ok (.aload 19, 2) := by decide +kernel
theorem dL_law_612 : decode cL_law 612 = .ok (.aload_n 2, 1) := by decide +kernel
theorem dL_law_613 : decode cL_law 613 = .ok (.iconst 0, 1) := by decide +kernel
theorem dL_law_614 : decode cL_law 614 = .ok (.iaload, 1) := by decide +kernel
theorem dL_law_615 : decode cL_law 615 = .ok (.invokestatic 27, 3) := by decide +kernel
theorem dL_law_618 : decode cL_law 618 = .ok (.astore_n 3, 1) := by decide +kernel
theorem dL_law_619 : decode cL_law 619 = .ok (.iload 14, 2) := by decide +kernel
theorem dL_law_621 : decode cL_law 621 = .ok (.iload 15, 2) := by decide +kernel
theorem dL_law_623 : decode cL_law 623 = .ok (.iload 14, 2) := by decide +kernel
theorem dL_law_625 : decode cL_law 625 = .ok (.isub, 1) := by decide +kernel
theorem dL_law_626 : decode cL_law 626 = .ok (.aload 6, 2) := by decide +kernel
theorem dL_law_628 : decode cL_law 628 = .ok (.iconst 0, 1) := by decide +kernel
theorem dL_law_629 : decode cL_law 629 = .ok (.aload 4, 2) := by decide +kernel
theorem dL_law_631 : decode cL_law 631 = .ok (.aload_n 2, 1) := by decide +kernel
theorem dL_law_632 : decode cL_law 632 = .ok (.invokestatic 111, 3) := by decide +kernel
theorem dL_law_635 : decode cL_law 635 = .ok (.iload 14, 2) := by decide +kernel
theorem dL_law_637 : decode cL_law 637 = .ok (.iload 15, 2) := by decide +kernel
theorem dL_law_639 : decode cL_law 639 = .ok (.iload 14, 2) := by decide +kernel
theorem dL_law_641 : decode cL_law 641 = .ok (.isub, 1) := by decide +kernel
theorem dL_law_642 : decode cL_law 642 = .ok (.iconst 0, 1) := by decide +kernel
theorem dL_law_643 : decode cL_law 643 = .ok (.aload_n 2, 1) := by decide +kernel
theorem dL_law_644 : decode cL_law 644 = .ok (.invokestatic 115, 3) := by decide +kernel
theorem dL_law_647 : decode cL_law 647 = .ok (.aload_n 3, 1) := by decide +kernel
theorem dL_law_648 : decode cL_law 648 = .ok (.aload_n 2, 1) := by decide +kernel
theorem dL_law_649 : decode cL_law 649 = .ok (.invokestatic 119, 3) := by decide +kernel
theorem dL_law_652 : decode cL_law 652 = .ok (.astore_n 3, 1) := by decide +kernel
theorem dL_law_653 : decode cL_law 653 = .ok (.iload 10, 2) := by decide +kernel
theorem dL_law_655 : decode cL_law 655 = .ok (.iconst 5, 1) := by decide +kernel
theorem dL_law_656 : decode cL_law 656 = .ok (.if_icmp .ne 14, 3) := by decide +kernel
theorem dL_law_659 : decode cL_law 659 = .ok (.aload_n 1, 1) := by decide +kernel
theorem dL_law_660 : decode cL_law 660 = .ok (.iload 14, 2) := by decide +kernel
theorem dL_law_662 : decode cL_law 662 = .ok (.iload 15, 2) := by decide +kernel
theorem dL_law_664 : decode cL_law 664 = .ok (.invokevirtual 129, 3) := by decide +kernel
theorem dL_law_667 : decode cL_law 667 = .ok (.goto 11, 3) := by decide +kernel
theorem dL_law_670 : decode cL_law 670 = .ok (.aload_n 1, 1) := by decide +kernel
theorem dL_law_671 : decode cL_law 671 = .ok (.iload 14, 2) := by decide +kernel
theorem dL_law_673 : decode cL_law 673 = .ok (.iload 15, 2) := by decide +kernel
theorem dL_law_675 : decode cL_law 675 = .ok (.invokevirtual 132, 3) := by decide +kernel
theorem dL_law_678 : decode cL_law 678 = .ok (.aload_n 2, 1) := by decide +kernel
theorem dL_law_679 : decode cL_law 679 = .ok (.bipush 7, 2) := by decide +kernel
theorem dL_law_681 : decode cL_law 681 = .ok (.iaload, 1) := by decide +kernel
theorem dL_law_682 : decode cL_law 682 = .ok (.if_icmp .eq 5, 3) := by decide +kernel
theorem dL_law_685 : decode cL_law 685 = .ok (.iconst 0, 1) := by decide +kernel
theorem dL_law_686 : decode cL_law 686 = .ok (.ireturn, 1) := by decide +kernel
theorem dL_law_687 : decode cL_law 687 = .ok (.goto 557, 3) := by decide +kernel
theorem dL_law_690 : decode cL_law 690 = .ok (.iload 10, 2) := by decide +kernel
theorem dL_law_692 : decode cL_law 692 = .ok (.bipush 11, 2) := by decide +kernel
theorem dL_law_694 : decode cL_law 694 = .ok (.if_icmp .ge 144, 3) := by decide +kernel
theorem dL_law_697 : decode cL_law 697 = .ok (.aload_n 2, 1) := by decide +kernel
theorem dL_law_698 : decode cL_law 698 = .ok (.bipush 8, 2) := by decide +kernel
theorem dL_law_700 : decode cL_law 700 = .ok (.iaload, 1) := by decide +kernel
theorem dL_law_701 : decode cL_law 701 = .ok (.ifCond .le 18, 3) := by decide +kernel
theorem dL_law_704 : decode cL_law 704 = .ok (.iload 11, 2) := by decide +kernel
theorem dL_law_706 : decode cL_law 706 = .ok (.aload_n 2, 1) := by decide +kernel
theorem dL_law_707 : decode cL_law 707 = .ok (.bipush 9, 2) := by decide +kernel
theorem dL_law_709 : decode cL_law 709 = .ok (.iaload, 1) := by decide +kernel
theorem dL_law_710 : decode cL_law 710 = .ok (.iadd, 1) := by decide +kernel
theorem dL_law_711 : decode cL_law 711 = .ok (.bipush 60, 2) := by decide +kernel
theorem dL_law_713 : decode cL_law 713 = .ok (.if_icmp .le 6, 3) := by decide +kernel
theorem dL_law_716 : decode cL_law 716 = .ok (.goto 549, 3) := by decide +kernel
theorem dL_law_719 : decode cL_law 719 = .ok (.aload_n 1, 1) := by decide +kernel
theorem dL_law_720 : decode cL_law 720 = .ok (.iload 12, 2) := by decide +kernel
theorem dL_law_722 : decode cL_law 722 = .ok (.iconst 0, 1) := by decide +kernel
theorem dL_law_723 : decode cL_law 723 = .ok (.invokevirtual 135, 3) := by decide +kernel
theorem dL_law_726 : decode cL_law 726 = .ok (.istore 16, 2) := by decide +kernel
theorem dL_law_728 : decode cL_law 728 = .ok (.iload 16, 2) := by decide +kernel
theorem dL_law_730 : decode cL_law 730 = .ok (.aload_n 2, 1) := by decide +kernel
theorem dL_law_731 : decode cL_law 731 = .ok (.bipush 8, 2) := by decide +kernel
theorem dL_law_733 : decode cL_law 733 = .ok (.iaload, 1) := by decide +kernel
theorem dL_law_734 : decode cL_law 734 = .ok (.ifCond .ne 7, 3) := by decide +kernel
theorem dL_law_737 : decode cL_law 737 = .ok (.iconst (-1), 1) := by decide +kernel
theorem dL_law_738 : decode cL_law 738 = .ok (.goto 10, 3) := by decide +kernel
theorem dL_law_741 : decode cL_law 741 = .ok (.iload 11, 2) := by decide +kernel
theorem dL_law_743 : decode cL_law 743 = .ok (.aload_n 2, 1) := by decide +kernel
theorem dL_law_744 : decode cL_law 744 = .ok (.bipush 9, 2) := by decide +kernel
theorem dL_law_746 : decode cL_law 746 = .ok (.iaload, 1) := by decide +kernel
theorem dL_law_747 : decode cL_law 747 = .ok (.iadd, 1) := by decide +kernel
theorem dL_law_748 : decode cL_law 748 = .ok (.if_icmp .eq 5, 3) := by decide +kernel
theorem dL_law_751 : decode cL_law 751 = .ok (.iconst 0, 1) := by decide +kernel
theorem dL_law_752 : decode cL_law 752 = .ok (.ireturn, 1) := by decide +kernel
theorem dL_law_753 : decode cL_law 753 = .ok (.aload_n 2, 1) := by decide +kernel
theorem dL_law_754 : decode cL_law 754 = .ok (.bipush 8, 2) := by decide +kernel
theorem dL_law_756 : decode cL_law 756 = .ok (.iaload, 1) := by decide +kernel
theorem dL_law_757 : decode cL_law 757 = .ok (.ifCond .le 78, 3) := by decide +kernel
theorem dL_law_760 : decode cL_law 760 = .ok (.aload_n 3, 1) := by decide +kernel
theorem dL_law_761 : decode cL_law 761 = .ok (.iload 12, 2) := by decide +kernel
theorem dL_law_763 : decode cL_law 763 = .ok (.iconst 1, 1) := by decide +kernel
theorem dL_law_764 : decode cL_law 764 = .ok (.aload_n 2, 1) := by decide +kernel
theorem dL_law_765 : decode cL_law 765 = .ok (.iconst 0, 1) := by decide +kernel
theorem dL_law_766 : decode cL_law 766 = .ok (.iaload, 1) := by decide +kernel
theorem dL_law_767 : decode cL_law 767 = .ok (.invokestatic 103, 3) := by decide +kernel
theorem dL_law_770 : decode cL_law 770 = .ok (.astore 17, 2) := by decide +kernel
theorem dL_law_772 : decode cL_law 772 = .ok (.aload_n 3, 1) := by decide +kernel
theorem dL_law_773 : decode cL_law 773 = .ok (.iload 12, 2) := by decide +kernel
theorem dL_law_775 : decode cL_law 775 = .ok (.iconst 0, 1) := by decide +kernel
theorem dL_law_776 : decode cL_law 776 = .ok (.aload_n 2, 1) := by decide +kernel
theorem dL_law_777 : decode cL_law 777 = .ok (.iconst 0, 1) := by decide +kernel
theorem dL_law_778 : decode cL_law 778 = .ok (.iaload, 1) := by decide +kernel
theorem dL_law_779 : decode cL_law 779 = .ok (.invokestatic 103, 3) := by decide +kernel
theorem dL_law_782 : decode cL_law 782 = .ok (.astore 18, 2) := by decide +kernel
theorem dL_law_784 : decode cL_law 784 = .ok (.aload 17, 2) := by decide +kernel
theorem dL_law_786 : decode cL_law 786 = .ok (.aload 5, 2) := by decide +kernel
theorem dL_law_788 : decode cL_law 788 = .ok (.aload_n 2, 1) := by decide +kernel
theorem dL_law_789 : decode cL_law 789 = .ok (.iconst 0, 1) := by decide +kernel
theorem dL_law_790 : decode cL_law 790 = .ok (.iaload, 1) := by decide +kernel
theorem dL_law_791 : decode cL_law 791 = .ok (.invokestatic 27, 3) := by decide +kernel
theorem dL_law_794 : decode cL_law 794 = .ok (.aload 18, 2) := by decide +kernel
theorem dL_law_796 : decode cL_law 796 = .ok (.aload_n 2, 1) := by decide +kernel
theorem dL_law_797 : decode cL_law 797 = .ok (.iconst 0, 1) := by decide +kernel
theorem dL_law_798 : decode cL_law 798 = .ok (.iaload, 1) := by decide +kernel
theorem dL_law_799 : decode cL_law 799 = .ok (.invokestatic 27, 3) := by decide +kernel
theorem dL_law_802 : decode cL_law 802 = .ok (.astore_n 3, 1) := by decide +kernel
theorem dL_law_803 : decode cL_law 803 = .ok (.iload 12, 2) := by decide +kernel
theorem dL_law_805 : decode cL_law 805 = .ok (.iconst 0, 1) := by decide +kernel
theorem dL_law_806 : decode cL_law 806 = .ok (.aload 6, 2) := by decide +kernel
theorem dL_law_808 : decode cL_law 808 = .ok (.aload_n 2, 1) := by decide +kernel
theorem dL_law_809 : decode cL_law 809 = .ok (.bipush 9, 2) := by decide +kernel
theorem dL_law_811 : decode cL_law 811 = .ok (.iaload, 1) := by decide +kernel
theorem dL_law_812 : decode cL_law 812 = .ok (.aload 4, 2) := by decide +kernel
theorem dL_law_814 : decode cL_law 814 = .ok (.aload_n 2, 1) := by decide +kernel
theorem dL_law_815 : decode cL_law 815 = .ok (.invokestatic 111, 3) := by decide +kernel
theorem dL_law_818 : decode cL_law 818 = .ok (.iload 12, 2) := by decide +kernel
theorem dL_law_820 : decode cL_law 820 = .ok (.iconst 0, 1) := by decide +kernel
theorem dL_law_821 : decode cL_law 821 = .ok (.aload_n 2, 1) := by decide +kernel
theorem dL_law_822 : decode cL_law 822 = .ok (.bipush 9, 2) := by decide +kernel
theorem dL_law_824 : decode cL_law 824 = .ok (.iaload, 1) := by decide +kernel
theorem dL_law_825 : decode cL_law 825 = .ok (.aload_n 2, 1) := by decide +kernel
theorem dL_law_826 : decode cL_law 826 = .ok (.invokestatic 115, 3) := by decide +kernel
theorem dL_law_829 : decode cL_law 829 = .ok (.aload_n 3, 1) := by decide +kernel
theorem dL_law_830 : decode cL_law 830 = .ok (.aload_n 2, 1) := by decide +kernel
theorem dL_law_831 : decode cL_law 831 = .ok (.invokestatic 119, 3) := by decide +kernel
theorem dL_law_834 : decode cL_law 834 = .ok (.astore_n 3, 1) := by decide +kernel
theorem dL_law_835 : decode cL_law 835 = .ok (.goto 409, 3) := by decide +kernel
theorem dL_law_838 : decode cL_law 838 = .ok (.iload 10, 2) := by decide +kernel
theorem dL_law_840 : decode cL_law 840 = .ok (.bipush 13, 2) := by decide +kernel
theorem dL_law_842 : decode cL_law 842 = .ok (.if_icmp .ge 256, 3) := by decide +kernel
theorem dL_law_845 : decode cL_law 845 = .ok (.iload 14, 2) := by decide +kernel
theorem dL_law_847 : decode cL_law 847 = .ok (.iload 15, 2) := by decide +kernel
theorem dL_law_849 : decode cL_law 849 = .ok (.if_icmp .ge 249, 3) := by decide +kernel
theorem dL_law_852 : decode cL_law 852 = .ok (.iload 8, 2) := by decide +kernel
theorem dL_law_854 : decode cL_law 854 = .ok (.bipush 6, 2) := by decide +kernel
theorem dL_law_856 : decode cL_law 856 = .ok (.ishr, 1) := by decide +kernel
theorem dL_law_857 : decode cL_law 857 = .ok (.iload 11, 2) := by decide +kernel
theorem dL_law_859 : decode cL_law 859 = .ok (.iload 15, 2) := by decide +kernel
theorem dL_law_861 : decode cL_law 861 = .ok (.isub, 1) := by decide +kernel
theorem dL_law_862 : decode cL_law 862 = .ok (.iload 14, 2) := by decide +kernel
theorem dL_law_864 : decode cL_law 864 = .ok (.iadd, 1) := by decide +kernel
theorem dL_law_865 : decode cL_law 865 = .ok (.iconst 1, 1) := by decide +kernel
theorem dL_law_866 : decode cL_law 866 = .ok (.iadd, 1) := by decide +kernel
theorem dL_law_867 : decode cL_law 867 = .ok (.invokestatic 59, 3) := by decide +kernel
theorem dL_law_870 : decode cL_law 870 = .ok (.istore 16, 2) := by decide +kernel
theorem dL_law_872 : decode cL_law 872 = .ok (.bipush 64, 2) := by decide +kernel
theorem dL_law_874 : decode cL_law 874 = .ok (.newarray .int, 2) := by decide +kernel
theorem dL_law_876 : decode cL_law 876 = .ok (.astore 17, 2) := by decide +kernel
theorem dL_law_878 : decode cL_law 878 = .ok (.iload 14, 2) := by decide +kernel
theorem dL_law_880 : decode cL_law 880 = .ok (.istore 18, 2) := by decide +kernel
theorem dL_law_882 : decode cL_law 882 = .ok (.iload 18, 2) := by decide +kernel
theorem dL_law_884 : decode cL_law 884 = .ok (.iload 15, 2) := by decide +kernel
theorem dL_law_886 : decode cL_law 886 = .ok (.if_icmp .ge 22, 3) := by decide +kernel
theorem dL_law_889 : decode cL_law 889 = .ok (.aload 17, 2) := by decide +kernel
theorem dL_law_891 : decode cL_law 891 = .ok (.iload 18, 2) := by decide +kernel
theorem dL_law_893 : decode cL_law 893 = .ok (.iload 14, 2) := by decide +kernel
theorem dL_law_895 : decode cL_law 895 = .ok (.isub, 1) := by decide +kernel
theorem dL_law_896 : decode cL_law 896 = .ok (.aload 4, 2) := by decide +kernel
theorem dL_law_898 : decode cL_law 898 = .ok (.iload 18, 2) := by decide +kernel
theorem dL_law_900 : decode cL_law 900 = .ok (.iaload, 1) := by decide +kernel
theorem dL_law_901 : decode cL_law 901 = .ok (.iastore, 1) := by decide +kernel
theorem dL_law_902 : decode cL_law 902 = .ok (.iinc 18 1, 3) := by decide +kernel
theorem dL_law_905 : decode cL_law 905 = .ok (.goto (-23), 3) := by decide +kernel
theorem dL_law_908 : decode cL_law 908 = .ok (.aload_n 3, 1) := by decide +kernel
theorem dL_law_909 : decode cL_law 909 = .ok (.iload 14, 2) := by decide +kernel
theorem dL_law_911 : decode cL_law 911 = .ok (.iconst 0, 1) := by decide +kernel
theorem dL_law_912 : decode cL_law 912 = .ok (.aload_n 2, 1) := by decide +kernel
theorem dL_law_913 : decode cL_law 913 = .ok (.iconst 0, 1) := by decide +kernel
theorem dL_law_914 : decode cL_law 914 = .ok (.iaload, 1) := by decide +kernel
theorem dL_law_915 : decode cL_law 915 = .ok (.invokestatic 103, 3) := by decide +kernel
theorem dL_law_918 : decode cL_law 918 = .ok (.astore 18, 2) := by decide +kernel
theorem dL_law_920 : decode cL_law 920 = .ok (.aload 18, 2) := by decide +kernel
theorem dL_law_922 : decode cL_law 922 = .ok (.iload 15, 2) := by decide +kernel
theorem dL_law_924 : decode cL_law 924 = .ok (.iload 14, 2) := by decide +kernel
theorem dL_law_926 : decode cL_law 926 = .ok (.isub, 1) := by decide +kernel
theorem dL_law_927 : decode cL_law 927 = .ok (.iconst 1, 1) := by decide +kernel
theorem dL_law_928 : decode cL_law 928 = .ok (.aload_n 2, 1) := by decide +kernel
theorem dL_law_929 : decode cL_law 929 = .ok (.iconst 0, 1) := by decide +kernel
theorem dL_law_930 : decode cL_law 930 = .ok (.iaload, 1) := by decide +kernel
theorem dL_law_931 : decode cL_law 931 = .ok (.invokestatic 103, 3) := by decide +kernel
theorem dL_law_934 : decode cL_law 934 = .ok (.astore 19, 2) := by decide +kernel
theorem dL_law_936 : decode cL_law 936 = .ok (.aload_n 3, 1) := by decide +kernel
theorem dL_law_937 : decode cL_law 937 = .ok (.iload 14, 2) := by decide +kernel
theorem dL_law_939 : decode cL_law 939 = .ok (.iconst 1, 1) := by decide +kernel
theorem dL_law_940 : decode cL_law 940 = .ok (.aload_n 2, 1) := by decide +kernel
theorem dL_law_941 : decode cL_law 941 = .ok (.iconst 0, 1) := by decide +kernel
theorem dL_law_942 : decode cL_law 942 = .ok (.iaload, 1) := by decide +kernel
theorem dL_law_943 : decode cL_law 943 = .ok (.invokestatic 103, 3) := by decide +kernel
theorem dL_law_946 : decode cL_law 946 = .ok (.aload 18, 2) := by decide +kernel
theorem dL_law_948 : decode cL_law 948 = .ok (.iload 15, 2) := by decide +kernel
theorem dL_law_950 : decode cL_law 950 = .ok (.iload 14, 2) := by decide +kernel
theorem dL_law_952 : decode cL_law 952 = .ok (.isub, 1) := by decide +kernel
theorem dL_law_953 : decode cL_law 953 = .ok (.iconst 0, 1) := by decide +kernel
theorem dL_law_954 : decode cL_law 954 = .ok (.aload_n 2, 1) := by decide +kernel
theorem dL_law_955 : decode cL_law 955 = .ok (.iconst 0, 1) := by decide +kernel
theorem dL_law_956 : decode cL_law 956 = .ok (.iaload, 1) := by decide +kernel
theorem dL_law_957 : decode cL_law 957 = .ok (.invokestatic 103, 3) := by decide +kernel
theorem dL_law_960 : decode cL_law 960 = .ok (.aload_n 2, 1) := by decide +kernel
theorem dL_law_961 : decode cL_law 961 = .ok (.iconst 0, 1) := by decide +kernel
theorem dL_law_962 : decode cL_law 962 = .ok (.iaload, 1) := by decide +kernel
theorem dL_law_963 : decode cL_law 963 = .ok (.invokestatic 27, 3) := by decide +kernel
theorem dL_law_966 : decode cL_law 966 = .ok (.astore_n 3, 1) := by decide +kernel
theorem dL_law_967 : decode cL_law 967 = .ok (.aload_n 3, 1) := by decide +kernel
theorem dL_law_968 : decode cL_law 968 = .ok (.iload 16, 2) := by decide +kernel
theorem dL_law_970 : decode cL_law 970 = .ok (.iconst 1, 1) := by decide +kernel
theorem dL_law_971 : decode cL_law 971 = .ok (.aload_n 2, 1) := by decide +kernel
theorem dL_law_972 : decode cL_law 972 = .ok (.iconst 0, 1) := by decide +kernel
theorem dL_law_973 : decode cL_law 973 = .ok (.iaload, 1) := by decide +kernel
theorem dL_law_974 : decode cL_law 974 = .ok (.invokestatic 103, 3) := by decide +kernel
theorem dL_law_977 : decode cL_law 977 = .ok (.astore 20, 2) := by decide +kernel
theorem dL_law_979 : decode cL_law 979 = .ok (.aload_n 3, 1) := by decide +kernel
theorem dL_law_980 : decode cL_law 980 = .ok (.iload 16, 2) := by decide +kernel
theorem dL_law_982 : decode cL_law 982 = .ok (.iconst 0, 1) := by decide +kernel
theorem dL_law_983 : decode cL_law 983 = .ok (.aload_n 2, 1) := by decide +kernel
theorem dL_law_984 : decode cL_law 984 = .ok (.iconst 0, 1) := by decide +kernel
theorem dL_law_985 : decode cL_law 985 = .ok (.iaload, 1) := by decide +kernel
theorem dL_law_986 : decode cL_law 986 = .ok (.invokestatic 103, 3) := by decide +kernel
theorem dL_law_989 : decode cL_law 989 = .ok (.astore 18, 2) := by decide +kernel
theorem dL_law_991 : decode cL_law 991 = .ok (.aload 20, 2) := by decide +kernel
theorem dL_law_993 : decode cL_law 993 = .ok (.aload 19, 2) := by decide +kernel
theorem dL_law_995 : decode cL_law 995 = .ok (.aload_n 2, 1) := by decide +kernel
theorem dL_law_996 : decode cL_law 996 = .ok (.iconst 0, 1) := by decide +kernel
theorem dL_law_997 : decode cL_law 997 = .ok (.iaload, 1) := by decide +kernel
theorem dL_law_998 : decode cL_law 998 = .ok (.invokestatic 27, 3) := by decide +kernel
theorem dL_law_1001 : decode cL_law 1001 = .ok (.aload 18, 2) := by decide +kernel
theorem dL_law_1003 : decode cL_law 1003 = .ok (.aload_n 2, 1) := by decide +kernel
theorem dL_law_1004 : decode cL_law 1004 = .ok (.iconst 0, 1) := by decide +kernel
theorem dL_law_1005 : decode cL_law 1005 = .ok (.iaload, 1) := by decide +kernel
theorem dL_law_1006 : decode cL_law 1006 = .ok (.invokestatic 27, 3) := by decide +kernel
theorem dL_law_1009 : decode cL_law 1009 = .ok (.astore_n 3, 1) := by decide +kernel
theorem dL_law_1010 : decode cL_law 1010 = .ok (.iload 14, 2) := by decide +kernel
theorem dL_law_1012 : decode cL_law 1012 = .ok (.iload 15, 2) := by decide +kernel
theorem dL_law_1014 : decode cL_law 1014 = .ok (.iload 14, 2) := by decide +kernel
theorem dL_law_1016 : decode cL_law 1016 = .ok (.isub, 1) := by decide +kernel
theorem dL_law_1017 : decode cL_law 1017 = .ok (.aload 17, 2) := by decide +kernel
theorem dL_law_1019 : decode cL_law 1019 = .ok (.iconst 0, 1) := by decide +kernel
theorem dL_law_1020 : decode cL_law 1020 = .ok (.aload 4, 2) := by decide +kernel
theorem dL_law_1022 : decode cL_law 1022 = .ok (.aload_n 2, 1) := by decide +kernel
theorem dL_law_1023 : decode cL_law 1023 = .ok (.invokestatic 111, 3) := by decide +kernel
theorem dL_law_1026 : decode cL_law 1026 = .ok (.iload 16, 2) := by decide +kernel
theorem dL_law_1028 : decode cL_law 1028 = .ok (.iconst 0, 1) := by decide +kernel
theorem dL_law_1029 : decode cL_law 1029 = .ok (.aload 17, 2) := by decide +kernel
theorem dL_law_1031 : decode cL_law 1031 = .ok (.iload 15, 2) := by decide +kernel
theorem dL_law_1033 : decode cL_law 1033 = .ok (.iload 14, 2) := by decide +kernel
theorem dL_law_1035 : decode cL_law 1035 = .ok (.isub, 1) := by decide +kernel
theorem dL_law_1036 : decode cL_law 1036 = .ok (.aload 4, 2) := by decide +kernel
theorem dL_law_1038 : decode cL_law 1038 = .ok (.aload_n 2, 1) := by decide +kernel
theorem dL_law_1039 : decode cL_law 1039 = .ok (.invokestatic 111, 3) := by decide +kernel
theorem dL_law_1042 : decode cL_law 1042 = .ok (.iload 14, 2) := by decide +kernel
theorem dL_law_1044 : decode cL_law 1044 = .ok (.iload 15, 2) := by decide +kernel
theorem dL_law_1046 : decode cL_law 1046 = .ok (.iload 14, 2) := by decide +kernel
theorem dL_law_1048 : decode cL_law 1048 = .ok (.isub, 1) := by decide +kernel
theorem dL_law_1049 : decode cL_law 1049 = .ok (.iconst 0, 1) := by decide +kernel
theorem dL_law_1050 : decode cL_law 1050 = .ok (.aload_n 2, 1) := by decide +kernel
theorem dL_law_1051 : decode cL_law 1051 = .ok (.invokestatic 115, 3) := by decide +kernel
theorem dL_law_1054 : decode cL_law 1054 = .ok (.iload 16, 2) := by decide +kernel
theorem dL_law_1056 : decode cL_law 1056 = .ok (.iconst 0, 1) := by decide +kernel
theorem dL_law_1057 : decode cL_law 1057 = .ok (.iload 15, 2) := by decide +kernel
theorem dL_law_1059 : decode cL_law 1059 = .ok (.iload 14, 2) := by decide +kernel
theorem dL_law_1061 : decode cL_law 1061 = .ok (.isub, 1) := by decide +kernel
theorem dL_law_1062 : decode cL_law 1062 = .ok (.aload_n 2, 1) := by decide +kernel
theorem dL_law_1063 : decode cL_law 1063 = .ok (.invokestatic 115, 3) := by decide +kernel
theorem dL_law_1066 : decode cL_law 1066 = .ok (.aload_n 3, 1) := by decide +kernel
theorem dL_law_1067 : decode cL_law 1067 = .ok (.aload_n 2, 1) := by decide +kernel
theorem dL_law_1068 : decode cL_law 1068 = .ok (.invokestatic 119, 3) := by decide +kernel
theorem dL_law_1071 : decode cL_law 1071 = .ok (.astore_n 3, 1) := by decide +kernel
theorem dL_law_1072 : decode cL_law 1072 = .ok (.aload_n 1, 1) := by decide +kernel
theorem dL_law_1073 : decode cL_law 1073 = .ok (.iload 14, 2) := by decide +kernel
theorem dL_law_1075 : decode cL_law 1075 = .ok (.iload 15, 2) := by decide +kernel
theorem dL_law_1077 : decode cL_law 1077 = .ok (.iload 16, 2) := by decide +kernel
theorem dL_law_1079 : decode cL_law 1079 = .ok (.invokevirtual 138, 3) := by decide +kernel
theorem dL_law_1082 : decode cL_law 1082 = .ok (.iload 16, 2) := by decide +kernel
theorem dL_law_1084 : decode cL_law 1084 = .ok (.iload 15, 2) := by decide +kernel
theorem dL_law_1086 : decode cL_law 1086 = .ok (.iadd, 1) := by decide +kernel
theorem dL_law_1087 : decode cL_law 1087 = .ok (.iload 14, 2) := by decide +kernel
theorem dL_law_1089 : decode cL_law 1089 = .ok (.isub, 1) := by decide +kernel
theorem dL_law_1090 : decode cL_law 1090 = .ok (.if_icmp .eq 5, 3) := by decide +kernel
theorem dL_law_1093 : decode cL_law 1093 = .ok (.iconst 0, 1) := by decide +kernel
theorem dL_law_1094 : decode cL_law 1094 = .ok (.ireturn, 1) := by decide +kernel
theorem dL_law_1095 : decode cL_law 1095 = .ok (.goto 149, 3) := by decide +kernel
theorem dL_law_1098 : decode cL_law 1098 = .ok (.iload 10, 2) := by decide +kernel
theorem dL_law_1100 : decode cL_law 1100 = .ok (.bipush 13, 2) := by decide +kernel
theorem dL_law_1102 : decode cL_law 1102 = .ok (.if_icmp .ne 57, 3) := by decide +kernel
theorem dL_law_1105 : decode cL_law 1105 = .ok (.iload 8, 2) := by decide +kernel
theorem dL_law_1107 : decode cL_law 1107 = .ok (.iconst 4, 1) := by decide +kernel
theorem dL_law_1108 : decode cL_law 1108 = .ok (.ishr, 1) := by decide +kernel
theorem dL_law_1109 : decode cL_law 1109 = .ok (.iconst 4, 1) := by decide +kernel
theorem dL_law_1110 : decode cL_law 1110 = .ok (.invokestatic 59, 3) := by decide +kernel
theorem dL_law_1113 : decode cL_law 1113 = .ok (.istore 16, 2) := by decide +kernel
theorem dL_law_1115 : decode cL_law 1115 = .ok (.aload_n 1, 1) := by decide +kernel
theorem dL_law_1116 : decode cL_law 1116 = .ok (.iload 16, 2) := by decide +kernel
theorem dL_law_1118 : decode cL_law 1118 = .ok (.iload 12, 2) := by decide +kernel
theorem dL_law_1120 : decode cL_law 1120 = .ok (.invokevirtual 142, 3) := by decide +kernel
theorem dL_law_1123 : decode cL_law 1123 = .ok (.aload_n 2, 1) := by decide +kernel
theorem dL_law_1124 : decode cL_law 1124 = .ok (.iconst 3, 1) := by decide +kernel
theorem dL_law_1125 : decode cL_law 1125 = .ok (.iload 16, 2) := by decide +kernel
theorem dL_law_1127 : decode cL_law 1127 = .ok (.iadd, 1) := by decide +kernel
theorem dL_law_1128 : decode cL_law 1128 = .ok (.iaload, 1) := by decide +kernel
theorem dL_law_1129 : decode cL_law 1129 = .ok (.ifCond .ge 8, 3) := by decide +kernel
theorem dL_law_1132 : decode cL_law 1132 = .ok (.bipush (-5), 2) := by decide +kernel
theorem dL_law_1134 : decode cL_law 1134 = .ok (.goto 9, 3) := by decide +kernel
theorem dL_law_1137 : decode cL_law 1137 = .ok (.aload_n 2, 1) := by decide +kernel
theorem dL_law_1138 : decode cL_law 1138 = .ok (.iconst 3, 1) := by decide +kernel
theorem dL_law_1139 : decode cL_law 1139 = .ok (.iload 16, 2) := by decide +kernel
theorem dL_law_1141 : decode cL_law 1141 = .ok (.iadd, 1) := by decide +kernel
theorem dL_law_1142 : decode cL_law 1142 = .ok (.iaload, 1) := by decide +kernel
theorem dL_law_1143 : decode cL_law 1143 = .ok (.if_icmp .eq 5, 3) := by decide +kernel
theorem dL_law_1146 : decode cL_law 1146 = .ok (.iconst 0, 1) := by decide +kernel
theorem dL_law_1147 : decode cL_law 1147 = .ok (.ireturn, 1) := by decide +kernel
theorem dL_law_1148 : decode cL_law 1148 = .ok (.aload_n 2, 1) := by decide +kernel
theorem dL_law_1149 : decode cL_law 1149 = .ok (.iconst 3, 1) := by decide +kernel
theorem dL_law_1150 : decode cL_law 1150 = .ok (.iload 16, 2) := by decide +kernel
theorem dL_law_1152 : decode cL_law 1152 = .ok (.iadd, 1) := by decide +kernel
theorem dL_law_1153 : decode cL_law 1153 = .ok (.iload 12, 2) := by decide +kernel
theorem dL_law_1155 : decode cL_law 1155 = .ok (.iastore, 1) := by decide +kernel
theorem dL_law_1156 : decode cL_law 1156 = .ok (.goto 88, 3) := by decide +kernel
theorem dL_law_1159 : decode cL_law 1159 = .ok (.iload 10, 2) := by decide +kernel
theorem dL_law_1161 : decode cL_law 1161 = .ok (.bipush 14, 2) := by decide +kernel
theorem dL_law_1163 : decode cL_law 1163 = .ok (.if_icmp .ne 33, 3) := by decide +kernel
theorem dL_law_1166 : decode cL_law 1166 = .ok (.iload 9, 2) := by decide +kernel
theorem dL_law_1168 : decode cL_law 1168 = .ok (.iconst 2, 1) := by decide +kernel
theorem dL_law_1169 : decode cL_law 1169 = .ok (.invokestatic 59, 3) := by decide +kernel
theorem dL_law_1172 : decode cL_law 1172 = .ok (.istore 16, 2) := by decide +kernel
theorem dL_law_1174 : decode cL_law 1174 = .ok (.aload_n 1, 1) := by decide +kernel
theorem dL_law_1175 : decode cL_law 1175 = .ok (.iload 16, 2) := by decide +kernel
theorem dL_law_1177 : decode cL_law 1177 = .ok (.invokevirtual 145, 3) := by decide +kernel
theorem dL_law_1180 : decode cL_law 1180 = .ok (.aload_n 2, 1) := by decide +kernel
theorem dL_law_1181 : decode cL_law 1181 = .ok (.iconst 1, 1) := by decide +kernel
theorem dL_law_1182 : decode cL_law 1182 = .ok (.iaload, 1) := by decide +kernel
theorem dL_law_1183 : decode cL_law 1183 = .ok (.if_icmp .eq 5, 3) := by decide +kernel
theorem dL_law_1186 : decode cL_law 1186 = .ok (.iconst 0, 1) := by decide +kernel
theorem dL_law_1187 : decode cL_law 1187 = .ok (.ireturn, 1) := by decide +kernel
theorem dL_law_1188 : decode cL_law 1188 = .ok (.aload_n 2, 1) := by decide +kernel
theorem dL_law_1189 : decode cL_law 1189 = .ok (.iconst 1, 1) := by decide +kernel
theorem dL_law_1190 : decode cL_law 1190 = .ok (.iload 16, 2) := by decide +kernel
theorem dL_law_1192 : decode cL_law 1192 = .ok (.iastore, 1) := by decide +kernel
theorem dL_law_1193 : decode cL_law 1193 = .ok (.goto 51, 3) := by decide +kernel
theorem dL_law_1196 : decode cL_law 1196 = .ok (.iload 9, 2) := by decide +kernel
theorem dL_law_1198 : decode cL_law 1198 = .ok (.iconst 2, 1) := by decide +kernel
theorem dL_law_1199 : decode cL_law 1199 = .ok (.invokestatic 59, 3) := by decide +kernel
theorem dL_law_1202 : decode cL_law 1202 = .ok (.ifCond .ne 20, 3) := by decide +kernel
theorem dL_law_1205 : decode cL_law 1205 = .ok (.aload_n 3, 1) := by decide +kernel
theorem dL_law_1206 : decode cL_law 1206 = .ok (.invokestatic 38, 3) := by decide +kernel
theorem dL_law_1209 : decode cL_law 1209 = .ok (.aload_n 1, 1) := by decide +kernel
theorem dL_law_1210 : decode cL_law 1210 = .ok (.invokevirtual 148, 3) := by decide +kernel
theorem dL_law_1213 : decode cL_law 1213 = .ok (.aload_n 3, 1) := by decide +kernel
theorem dL_law_1214 : decode cL_law 1214 = .ok (.invokestatic 34, 3) := by decide +kernel
theorem dL_law_1217 : decode cL_law 1217 = .ok (.if_icmp .eq 27, 3) := by decide +kernel
theorem dL_law_1220 : decode cL_law 1220 = .ok (.iconst 0, 1) := by decide +kernel
theorem dL_law_1221 : decode cL_law 1221 = .ok (.ireturn, 1) := by decide +kernel
theorem dL_law_1222 : decode cL_law 1222 = .ok (.iload 11, 2) := by decide +kernel
theorem dL_law_1224 : decode cL_law 1224 = .ok (.aload_n 2, 1) := by decide +kernel
theorem dL_law_1225 : decode cL_law 1225 = .ok (.iconst 0, 1) := by decide +kernel
theorem dL_law_1226 : decode cL_law 1226 = .ok (.iaload, 1) := by decide +kernel
theorem dL_law_1227 : decode cL_law 1227 = .ok (.invokestatic 107, 3) := by decide +kernel
theorem dL_law_1230 : decode cL_law 1230 = .ok (.astore_n 3, 1) := by decide +kernel
theorem dL_law_1231 : decode cL_law 1231 = .ok (.aload_n 1, 1) := by decide +kernel
theorem dL_law_1232 : decode cL_law 1232 = .ok (.invokevirtual 150, 3) := by decide +kernel
theorem dL_law_1235 : decode cL_law 1235 = .ok (.aload_n 3, 1) := by decide +kernel
theorem dL_law_1236 : decode cL_law 1236 = .ok (.bipush 63, 2) := by decide +kernel
theorem dL_law_1238 : decode cL_law 1238 = .ok (.iaload, 1) := by decide +kernel
theorem dL_law_1239 : decode cL_law 1239 = .ok (.if_icmp .eq 5, 3) := by decide +kernel
theorem dL_law_1242 : decode cL_law 1242 = .ok (.iconst 0, 1) := by decide +kernel
theorem dL_law_1243 : decode cL_law 1243 = .ok (.ireturn, 1) := by decide +kernel
theorem dL_law_1244 : decode cL_law 1244 = .ok (.aload_n 1, 1) := by decide +kernel
theorem dL_law_1245 : decode cL_law 1245 = .ok (.iload 9, 2) := by decide +kernel
theorem dL_law_1247 : decode cL_law 1247 = .ok (.iconst 3, 1) := by decide +kernel
theorem dL_law_1248 : decode cL_law 1248 = .ok (.ishr, 1) := by decide +kernel
theorem dL_law_1249 : decode cL_law 1249 = .ok (.aload_n 3, 1) := by decide +kernel
theorem dL_law_1250 : decode cL_law 1250 = .ok (.aload 4, 2) := by decide +kernel
theorem dL_law_1252 : decode cL_law 1252 = .ok (.aload 5, 2) := by decide +kernel
theorem dL_law_1254 : decode cL_law 1254 = .ok (.aload 6, 2) := by decide +kernel
theorem dL_law_1256 : decode cL_law 1256 = .ok (.aload_n 2, 1) := by decide +kernel
theorem dL_law_1257 : decode cL_law 1257 = .ok (.invokestatic 153, 3) := by decide +kernel
theorem dL_law_1260 : decode cL_law 1260 = .ok (.ifCond .ne 5, 3) := by decide +kernel
theorem dL_law_1263 : decode cL_law 1263 = .ok (.iconst 0, 1) := by decide +kernel
theorem dL_law_1264 : decode cL_law 1264 = .ok (.ireturn, 1) := by decide +kernel
theorem dL_law_1265 : decode cL_law 1265 = .ok (.iinc 7 1, 3) := by decide +kernel
theorem dL_law_1268 : decode cL_law 1268 = .ok (.goto (-1199), 3) := by decide +kernel
theorem dL_law_1271 : decode cL_law 1271 = .ok (.iconst 1, 1) := by decide +kernel
theorem dL_law_1272 : decode cL_law 1272 = .ok (.ireturn, 1) := by decide +kernel
