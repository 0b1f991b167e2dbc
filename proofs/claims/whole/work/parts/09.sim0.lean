set_option maxRecDepth 100000 in
set_option maxHeartbeats 4000000 in
theorem S_X1_init {l : Launch} : Sim l (fun _ => True) RX1 "<init>" cX1_init 1 none 1 20 [] b_X1_init 0 89 := by
  unfold b_X1_init
  refine Sim.sq (p1 := 1) (s_aload_n rfl dX1_init_0) ?_
  refine Sim.sq (p1 := 4) (s_oini (by decide) (by decide) kw81 kw68 kw69 dX1_init_1) ?_
  refine Sim.sq (p1 := 5) (s_aload_n rfl dX1_init_4) ?_
  refine Sim.sq (p1 := 8) (s_sipush (by decide +kernel) dX1_init_5) ?_
  refine Sim.sq (p1 := 10) (s_newi kw114 dX1_init_8) ?_
  refine Sim.sq (p1 := 13) (s_putr (rfl : vwCl[1]? = some (RX1, TX1, 10)) (by decide) (by decide) inG1 kw82 rfl tyX1 tyX1_ok nmX1 rfl rfl rfl (show parseFieldDescriptor "[I" = some (tyX1 0) by decide +kernel) (fun _ => rfl) (fun _ => rfl) dX1_init_10) ?_
  refine Sim.sq (p1 := 14) (s_aload_n rfl dX1_init_13) ?_
  refine Sim.sq (p1 := 17) (s_sipush (by decide +kernel) dX1_init_14) ?_
  refine Sim.sq (p1 := 19) (s_newi kw114 dX1_init_17) ?_
  refine Sim.sq (p1 := 22) (s_putr (rfl : vwCl[1]? = some (RX1, TX1, 10)) (by decide) (by decide) inG1 kw83 rfl tyX1 tyX1_ok nmX1 rfl rfl rfl (show parseFieldDescriptor "[I" = some (tyX1 1) by decide +kernel) (fun _ => rfl) (fun _ => rfl) dX1_init_19) ?_
  refine Sim.sq (p1 := 23) (s_aload_n rfl dX1_init_22) ?_
  refine Sim.sq (p1 := 26) (s_sipush (by decide +kernel) dX1_init_23) ?_
  refine Sim.sq (p1 := 28) (s_newi kw114 dX1_init_26) ?_
  refine Sim.sq (p1 := 31) (s_putr (rfl : vwCl[1]? = some (RX1, TX1, 10)) (by decide) (by decide) inG1 kw84 rfl tyX1 tyX1_ok nmX1 rfl rfl rfl (show parseFieldDescriptor "[I" = some (tyX1 2) by decide +kernel) (fun _ => rfl) (fun _ => rfl) dX1_init_28) ?_
  refine Sim.sq (p1 := 32) (s_aload_n rfl dX1_init_31) ?_
  refine Sim.sq (p1 := 35) (s_sipush (by decide +kernel) dX1_init_32) ?_
  refine Sim.sq (p1 := 37) (s_newi kw114 dX1_init_35) ?_
  refine Sim.sq (p1 := 40) (s_putr (rfl : vwCl[1]? = some (RX1, TX1, 10)) (by decide) (by decide) inG1 kw85 rfl tyX1 tyX1_ok nmX1 rfl rfl rfl (show parseFieldDescriptor "[I" = some (tyX1 3) by decide +kernel) (fun _ => rfl) (fun _ => rfl) dX1_init_37) ?_
  refine Sim.sq (p1 := 41) (s_aload_n rfl dX1_init_40) ?_
  refine Sim.sq (p1 := 44) (s_sipush (by decide +kernel) dX1_init_41) ?_
  refine Sim.sq (p1 := 46) (s_newl kw115 dX1_init_44) ?_
  refine Sim.sq (p1 := 49) (s_putr (rfl : vwCl[1]? = some (RX1, TX1, 10)) (by decide) (by decide) inG1 kw86 rfl tyX1 tyX1_ok nmX1 rfl rfl rfl (show parseFieldDescriptor "[J" = some (tyX1 4) by decide +kernel) (fun _ => rfl) (fun _ => rfl) dX1_init_46) ?_
  refine Sim.sq (p1 := 50) (s_aload_n rfl dX1_init_49) ?_
  refine Sim.sq (p1 := 53) (s_sipush (by decide +kernel) dX1_init_50) ?_
  refine Sim.sq (p1 := 55) (s_newl kw115 dX1_init_53) ?_
  refine Sim.sq (p1 := 58) (s_putr (rfl : vwCl[1]? = some (RX1, TX1, 10)) (by decide) (by decide) inG1 kw87 rfl tyX1 tyX1_ok nmX1 rfl rfl rfl (show parseFieldDescriptor "[J" = some (tyX1 5) by decide +kernel) (fun _ => rfl) (fun _ => rfl) dX1_init_55) ?_
  refine Sim.sq (p1 := 59) (s_aload_n rfl dX1_init_58) ?_
  refine Sim.sq (p1 := 62) (s_sipush (by decide +kernel) dX1_init_59) ?_
  refine Sim.sq (p1 := 64) (s_newz kw116 dX1_init_62) ?_
  refine Sim.sq (p1 := 67) (s_putr (rfl : vwCl[1]? = some (RX1, TX1, 10)) (by decide) (by decide) inG1 kw88 rfl tyX1 tyX1_ok nmX1 rfl rfl rfl (show parseFieldDescriptor "[Z" = some (tyX1 6) by decide +kernel) (fun _ => rfl) (fun _ => rfl) dX1_init_64) ?_
  refine Sim.sq (p1 := 68) (s_aload_n rfl dX1_init_67) ?_
  refine Sim.sq (p1 := 69) (s_iconst (by decide +kernel) dX1_init_68) ?_
  refine Sim.sq (p1 := 72) (s_puti (rfl : vwCl[1]? = some (RX1, TX1, 10)) (by decide) (by decide) inG1 kw89 rfl tyX1 tyX1_ok nmX1 rfl (by decide +kernel) dX1_init_69) ?_
  refine Sim.sq (p1 := 73) (s_aload_n rfl dX1_init_72) ?_
  refine Sim.sq (p1 := 76) (s_sipush (by decide +kernel) dX1_init_73) ?_
  refine Sim.sq (p1 := 79) (s_puti (rfl : vwCl[1]? = some (RX1, TX1, 10)) (by decide) (by decide) inG1 kw90 rfl tyX1 tyX1_ok nmX1 rfl (by decide +kernel) dX1_init_76) ?_
  refine Sim.sq (p1 := 80) (s_aload_n rfl dX1_init_79) ?_
  refine Sim.sq (p1 := 83) (s_sipush (by decide +kernel) dX1_init_80) ?_
  refine Sim.sq (p1 := 85) (s_newi kw114 dX1_init_83) ?_
  refine Sim.sq (p1 := 88) (s_putr (rfl : vwCl[1]? = some (RX1, TX1, 10)) (by decide) (by decide) inG1 kw92 rfl tyX1 tyX1_ok nmX1 rfl rfl rfl (show parseFieldDescriptor "[I" = some (tyX1 9) by decide +kernel) (fun _ => rfl) (fun _ => rfl) dX1_init_85) ?_
  exact (s_vret rfl dX1_init_88)
set_option maxRecDepth 100000 in
set_option maxHeartbeats 4000000 in
theorem C_X1_init (l : Launch) : Ct l yX1_init cX1_init 1 none 1 20 m_X1_init := Ct_of (y := yX1_init) (by decide +kernel) S_X1_init
set_option maxRecDepth 100000 in
set_option maxHeartbeats 4000000 in
theorem S_X4_init {l : Launch} : Sim l (fun _ => True) RX4 "<init>" cX4_init 1 none 2 40 [] b_X4_init 0 53 := by
  unfold b_X4_init
  refine Sim.sq (p1 := 1) (s_aload_n rfl dX4_init_0) ?_
  refine Sim.sq (p1 := 4) (s_oini (by decide) (by decide) kw75 kw68 kw69 dX4_init_1) ?_
  refine Sim.sq (p1 := 5) (s_aload_n rfl dX4_init_4) ?_
  refine Sim.sq (p1 := 8) (s_new (rfl : vwCl[1]? = some (RX1, TX1, 10)) (by decide) inG1 tyX1 tyX1_ok (by decide +kernel) kw76 kw77 kw54 dX4_init_5) ?_
  refine Sim.sq (p1 := 9) (s_dup dX4_init_8) ?_
  refine Sim.sq (p1 := 12) (s_callIN (y := yX1_init) (C_X1_init l) kn78 kw79 kw54 kw80 rfl ⟨by decide +kernel, by decide +kernel, by decide +kernel⟩ ⟨by decide, by decide⟩ dX4_init_9) ?_
  refine Sim.sq (p1 := 15) (s_putr (rfl : vwCl[4]? = some (RX4, TX4, 6)) (by decide) (by decide) inG4 kw117 rfl tyX4 tyX4_ok nmX4 rfl rfl rfl (show parseFieldDescriptor "LTextRopes$Nodes;" = some (tyX4 0) by decide +kernel) (fun _ => rfl) (fun _ => rfl) dX4_init_12) ?_
  refine Sim.sq (p1 := 16) (s_aload_n rfl dX4_init_15) ?_
  refine Sim.sq (p1 := 19) (s_sipush (by decide +kernel) dX4_init_16) ?_
  refine Sim.sq (p1 := 21) (s_newi kw114 dX4_init_19) ?_
  refine Sim.sq (p1 := 24) (s_putr (rfl : vwCl[4]? = some (RX4, TX4, 6)) (by decide) (by decide) inG4 kw119 rfl tyX4 tyX4_ok nmX4 rfl rfl rfl (show parseFieldDescriptor "[I" = some (tyX4 1) by decide +kernel) (fun _ => rfl) (fun _ => rfl) dX4_init_21) ?_
  refine Sim.sq (p1 := 25) (s_aload_n rfl dX4_init_24) ?_
  refine Sim.sq (p1 := 28) (s_sipush (by decide +kernel) dX4_init_25) ?_
  refine Sim.sq (p1 := 30) (s_newz kw116 dX4_init_28) ?_
  refine Sim.sq (p1 := 33) (s_putr (rfl : vwCl[4]? = some (RX4, TX4, 6)) (by decide) (by decide) inG4 kw120 rfl tyX4 tyX4_ok nmX4 rfl rfl rfl (show parseFieldDescriptor "[Z" = some (tyX4 2) by decide +kernel) (fun _ => rfl) (fun _ => rfl) dX4_init_30) ?_
  refine Sim.sq (p1 := 34) (s_aload_n rfl dX4_init_33) ?_
  refine Sim.sq (p1 := 37) (s_sipush (by decide +kernel) dX4_init_34) ?_
  refine Sim.sq (p1 := 39) (s_newi kw114 dX4_init_37) ?_
  refine Sim.sq (p1 := 42) (s_putr (rfl : vwCl[4]? = some (RX4, TX4, 6)) (by decide) (by decide) inG4 kw121 rfl tyX4 tyX4_ok nmX4 rfl rfl rfl (show parseFieldDescriptor "[I" = some (tyX4 3) by decide +kernel) (fun _ => rfl) (fun _ => rfl) dX4_init_39) ?_
  refine Sim.sq (p1 := 43) (s_aload_n rfl dX4_init_42) ?_
  refine Sim.sq (p1 := 44) (s_iconst (by decide +kernel) dX4_init_43) ?_
  refine Sim.sq (p1 := 47) (s_puti (rfl : vwCl[4]? = some (RX4, TX4, 6)) (by decide) (by decide) inG4 kw122 rfl tyX4 tyX4_ok nmX4 rfl (by decide +kernel) dX4_init_44) ?_
  refine Sim.sq (p1 := 48) (s_aload_n rfl dX4_init_47) ?_
  refine Sim.sq (p1 := 49) (s_iconst (by decide +kernel) dX4_init_48) ?_
  refine Sim.sq (p1 := 52) (s_puti (rfl : vwCl[4]? = some (RX4, TX4, 6)) (by decide) (by decide) inG4 kw124 rfl tyX4 tyX4_ok nmX4 rfl (by decide +kernel) dX4_init_49) ?_
  exact (s_vret rfl dX4_init_52)
set_option maxRecDepth 100000 in
set_option maxHeartbeats 4000000 in
theorem C_X4_init (l : Launch) : Ct l yX4_init cX4_init 1 none 2 40 m_X4_init := Ct_of (y := yX4_init) (by decide +kernel) S_X4_init
set_option maxRecDepth 100000 in
set_option maxHeartbeats 4000000 in
theorem S_X3_init {l : Launch} : Sim l (fun _ => True) RX3 "<init>" cX3_init 1 none 1 20 [] b_X3_init 0 69 := by
  unfold b_X3_init
  refine Sim.sq (p1 := 1) (s_aload_n rfl dX3_init_0) ?_
  refine Sim.sq (p1 := 4) (s_oini (by decide) (by decide) kw144 kw68 kw69 dX3_init_1) ?_
  refine Sim.sq (p1 := 5) (s_aload_n rfl dX3_init_4) ?_
  refine Sim.sq (p1 := 8) (s_sipush (by decide +kernel) dX3_init_5) ?_
  refine Sim.sq (p1 := 10) (s_newi kw114 dX3_init_8) ?_
  refine Sim.sq (p1 := 13) (s_putr (rfl : vwCl[3]? = some (RX3, TX3, 8)) (by decide) (by decide) inG3 kw145 rfl tyX3 tyX3_ok nmX3 rfl rfl rfl (show parseFieldDescriptor "[I" = some (tyX3 0) by decide +kernel) (fun _ => rfl) (fun _ => rfl) dX3_init_10) ?_
  refine Sim.sq (p1 := 14) (s_aload_n rfl dX3_init_13) ?_
  refine Sim.sq (p1 := 17) (s_sipush (by decide +kernel) dX3_init_14) ?_
  refine Sim.sq (p1 := 19) (s_newi kw114 dX3_init_17) ?_
  refine Sim.sq (p1 := 22) (s_putr (rfl : vwCl[3]? = some (RX3, TX3, 8)) (by decide) (by decide) inG3 kw147 rfl tyX3 tyX3_ok nmX3 rfl rfl rfl (show parseFieldDescriptor "[I" = some (tyX3 1) by decide +kernel) (fun _ => rfl) (fun _ => rfl) dX3_init_19) ?_
  refine Sim.sq (p1 := 23) (s_aload_n rfl dX3_init_22) ?_
  refine Sim.sq (p1 := 26) (s_sipush (by decide +kernel) dX3_init_23) ?_
  refine Sim.sq (p1 := 28) (s_newi kw114 dX3_init_26) ?_
  refine Sim.sq (p1 := 31) (s_putr (rfl : vwCl[3]? = some (RX3, TX3, 8)) (by decide) (by decide) inG3 kw149 rfl tyX3 tyX3_ok nmX3 rfl rfl rfl (show parseFieldDescriptor "[I" = some (tyX3 2) by decide +kernel) (fun _ => rfl) (fun _ => rfl) dX3_init_28) ?_
  refine Sim.sq (p1 := 32) (s_aload_n rfl dX3_init_31) ?_
  refine Sim.sq (p1 := 35) (s_sipush (by decide +kernel) dX3_init_32) ?_
  refine Sim.sq (p1 := 37) (s_newi kw114 dX3_init_35) ?_
  refine Sim.sq (p1 := 40) (s_putr (rfl : vwCl[3]? = some (RX3, TX3, 8)) (by decide) (by decide) inG3 kw150 rfl tyX3 tyX3_ok nmX3 rfl rfl rfl (show parseFieldDescriptor "[I" = some (tyX3 3) by decide +kernel) (fun _ => rfl) (fun _ => rfl) dX3_init_37) ?_
  refine Sim.sq (p1 := 41) (s_aload_n rfl dX3_init_40) ?_
  refine Sim.sq (p1 := 44) (s_sipush (by decide +kernel) dX3_init_41) ?_
  refine Sim.sq (p1 := 46) (s_newi kw114 dX3_init_44) ?_
  refine Sim.sq (p1 := 49) (s_putr (rfl : vwCl[3]? = some (RX3, TX3, 8)) (by decide) (by decide) inG3 kw151 rfl tyX3 tyX3_ok nmX3 rfl rfl rfl (show parseFieldDescriptor "[I" = some (tyX3 4) by decide +kernel) (fun _ => rfl) (fun _ => rfl) dX3_init_46) ?_
  refine Sim.sq (p1 := 50) (s_aload_n rfl dX3_init_49) ?_
  refine Sim.sq (p1 := 53) (s_sipush (by decide +kernel) dX3_init_50) ?_
  refine Sim.sq (p1 := 55) (s_newi kw114 dX3_init_53) ?_
  refine Sim.sq (p1 := 58) (s_putr (rfl : vwCl[3]? = some (RX3, TX3, 8)) (by decide) (by decide) inG3 kw152 rfl tyX3 tyX3_ok nmX3 rfl rfl rfl (show parseFieldDescriptor "[I" = some (tyX3 5) by decide +kernel) (fun _ => rfl) (fun _ => rfl) dX3_init_55) ?_
  refine Sim.sq (p1 := 59) (s_aload_n rfl dX3_init_58) ?_
  refine Sim.sq (p1 := 60) (s_iconst (by decide +kernel) dX3_init_59) ?_
  refine Sim.sq (p1 := 63) (s_puti (rfl : vwCl[3]? = some (RX3, TX3, 8)) (by decide) (by decide) inG3 kw153 rfl tyX3 tyX3_ok nmX3 rfl (by decide +kernel) dX3_init_60) ?_
  refine Sim.sq (p1 := 64) (s_aload_n rfl dX3_init_63) ?_
  refine Sim.sq (p1 := 65) (s_iconst (by decide +kernel) dX3_init_64) ?_
  refine Sim.sq (p1 := 68) (s_puti (rfl : vwCl[3]? = some (RX3, TX3, 8)) (by decide) (by decide) inG3 kw155 rfl tyX3 tyX3_ok nmX3 rfl (by decide +kernel) dX3_init_65) ?_
  exact (s_vret rfl dX3_init_68)
set_option maxRecDepth 100000 in
set_option maxHeartbeats 4000000 in
theorem C_X3_init (l : Launch) : Ct l yX3_init cX3_init 1 none 1 20 m_X3_init := Ct_of (y := yX3_init) (by decide +kernel) S_X3_init
set_option maxRecDepth 100000 in
set_option maxHeartbeats 4000000 in
theorem S_J7_fill_53178 {l : Launch} : Sim l (fun _ => True) RJ7 "fill" cJ7_fill_53178 4 none 0 0 [] b_J7_fill_53178 0 21 := by
  unfold b_J7_fill_53178
  refine Sim.sq (p1 := 1) (s_iconst (by decide +kernel) dJ7_fill_53178_0) ?_
  refine Sim.sq (p1 := 2) (s_istore_n rfl (by decide) dJ7_fill_53178_1) ?_
  refine Sim.sq (p1 := 3) (s_aload_n rfl dJ7_fill_53178_2) ?_
  refine Sim.sq (p1 := 4) (s_alen dJ7_fill_53178_3) ?_
  refine Sim.sq (p1 := 5) (s_istore_n rfl (by decide) dJ7_fill_53178_4) ?_
  refine Sim.sq (p1 := 20) (Sim.lp ?_) ?_
  · refine Sim.sq (p1 := 6) (s_iload_n rfl dJ7_fill_53178_5) ?_
    refine Sim.sq (p1 := 7) (s_iload_n rfl dJ7_fill_53178_6) ?_
    refine Sim.bk ?_
    refine Sim.sq (p1 := 10) (s_icmp_ge dJ7_fill_53178_7 (by decide) rfl) ?_
    refine Sim.sq (p1 := 11) (s_aload_n rfl dJ7_fill_53178_10) ?_
    refine Sim.sq (p1 := 12) (s_iload_n rfl dJ7_fill_53178_11) ?_
    refine Sim.sq (p1 := 13) (s_iload_n rfl dJ7_fill_53178_12) ?_
    refine Sim.sq (p1 := 14) (s_iast dJ7_fill_53178_13) ?_
    refine Sim.sq (p1 := 17) (s_iinc (by decide +kernel) (by decide) dJ7_fill_53178_14) ?_
    exact (s_goto dJ7_fill_53178_17 (by decide) rfl)
  exact (s_vret rfl dJ7_fill_53178_20)
set_option maxRecDepth 100000 in
set_option maxHeartbeats 4000000 in
theorem C_J7_fill_53178 (l : Launch) : Ct l yJ7_fill_53178 cJ7_fill_53178 4 none 0 0 m_J7_fill_53178 := Ct_of (y := yJ7_fill_53178) (by decide +kernel) S_J7_fill_53178
set_option maxRecDepth 100000 in
set_option maxHeartbeats 4000000 in
theorem S_X2_init {l : Launch} : Sim l (fun _ => True) RX2 "<init>" cX2_init 1 none 1 23 [] b_X2_init 0 54 := by
  unfold b_X2_init
  refine Sim.sq (p1 := 1) (s_aload_n rfl dX2_init_0) ?_
  refine Sim.sq (p1 := 4) (s_oini (by decide) (by decide) kw179 kw68 kw69 dX2_init_1) ?_
  refine Sim.sq (p1 := 5) (s_aload_n rfl dX2_init_4) ?_
  refine Sim.sq (p1 := 6) (s_iconst (by decide +kernel) dX2_init_5) ?_
  refine Sim.sq (p1 := 8) (s_newi kw114 dX2_init_6) ?_
  refine Sim.sq (p1 := 11) (s_putr (rfl : vwCl[2]? = some (RX2, TX2, 7)) (by decide) (by decide) inG2 kw183 rfl tyX2 tyX2_ok nmX2 rfl rfl rfl (show parseFieldDescriptor "[I" = some (tyX2 0) by decide +kernel) (fun _ => rfl) (fun _ => rfl) dX2_init_8) ?_
  refine Sim.sq (p1 := 12) (s_aload_n rfl dX2_init_11) ?_
  refine Sim.sq (p1 := 13) (s_iconst (by decide +kernel) dX2_init_12) ?_
  refine Sim.sq (p1 := 15) (s_newi kw114 dX2_init_13) ?_
  refine Sim.sq (p1 := 18) (s_putr (rfl : vwCl[2]? = some (RX2, TX2, 7)) (by decide) (by decide) inG2 kw184 rfl tyX2 tyX2_ok nmX2 rfl rfl rfl (show parseFieldDescriptor "[I" = some (tyX2 1) by decide +kernel) (fun _ => rfl) (fun _ => rfl) dX2_init_15) ?_
  refine Sim.sq (p1 := 19) (s_aload_n rfl dX2_init_18) ?_
  refine Sim.sq (p1 := 20) (s_iconst (by decide +kernel) dX2_init_19) ?_
  refine Sim.sq (p1 := 23) (s_puti (rfl : vwCl[2]? = some (RX2, TX2, 7)) (by decide) (by decide) inG2 kw185 rfl tyX2 tyX2_ok nmX2 rfl (by decide +kernel) dX2_init_20) ?_
  refine Sim.sq (p1 := 24) (s_aload_n rfl dX2_init_23) ?_
  refine Sim.sq (p1 := 26) (s_bipush (by decide +kernel) dX2_init_24) ?_
  refine Sim.sq (p1 := 29) (s_puti (rfl : vwCl[2]? = some (RX2, TX2, 7)) (by decide) (by decide) inG2 kw187 rfl tyX2 tyX2_ok nmX2 rfl (by decide +kernel) dX2_init_26) ?_
  refine Sim.sq (p1 := 30) (s_aload_n rfl dX2_init_29) ?_
  refine Sim.sq (p1 := 31) (s_iconst (by decide +kernel) dX2_init_30) ?_
  refine Sim.sq (p1 := 34) (s_puti (rfl : vwCl[2]? = some (RX2, TX2, 7)) (by decide) (by decide) inG2 kw189 rfl tyX2 tyX2_ok nmX2 rfl (by decide +kernel) dX2_init_31) ?_
  refine Sim.sq (p1 := 35) (s_aload_n rfl dX2_init_34) ?_
  refine Sim.sq (p1 := 36) (s_iconst (by decide +kernel) dX2_init_35) ?_
  refine Sim.sq (p1 := 39) (s_puti (rfl : vwCl[2]? = some (RX2, TX2, 7)) (by decide) (by decide) inG2 kw191 rfl tyX2 tyX2_ok nmX2 rfl (by decide +kernel) dX2_init_36) ?_
  refine Sim.sq (p1 := 40) (s_aload_n rfl dX2_init_39) ?_
  refine Sim.sq (p1 := 41) (s_iconst (by decide +kernel) dX2_init_40) ?_
  refine Sim.sq (p1 := 44) (s_puti (rfl : vwCl[2]? = some (RX2, TX2, 7)) (by decide) (by decide) inG2 kw193 rfl tyX2 tyX2_ok nmX2 rfl (by decide +kernel) dX2_init_41) ?_
  refine Sim.sq (p1 := 45) (s_aload_n rfl dX2_init_44) ?_
  refine Sim.sq (p1 := 48) (s_getr (rfl : vwCl[2]? = some (RX2, TX2, 7)) (by decide) (by decide) inG2 kw183 rfl dX2_init_45) ?_
  refine Sim.sq (p1 := 50) (s_bipush (by decide +kernel) dX2_init_48) ?_
  refine Sim.sq (p1 := 53) (s_callS (y := yJ7_fill_53178) (C_J7_fill_53178 l) kw180 kw181 kw57 kw182 ⟨by decide +kernel, by decide +kernel, by decide +kernel⟩ ⟨by decide, by decide⟩ dX2_init_50) ?_
  exact (s_vret rfl dX2_init_53)
set_option maxRecDepth 100000 in
set_option maxHeartbeats 4000000 in
theorem C_X2_init (l : Launch) : Ct l yX2_init cX2_init 1 none 1 23 m_X2_init := Ct_of (y := yX2_init) (by decide +kernel) S_X2_init
set_option maxRecDepth 100000 in
set_option maxHeartbeats 4000000 in
theorem S_X0_init {l : Launch} : Sim l (fun _ => True) RX0 "<init>" cX0_init 2 none 2 43 [] b_X0_init 0 54 := by
  unfold b_X0_init
  refine Sim.sq (p1 := 1) (s_aload_n rfl dX0_init_0) ?_
  refine Sim.sq (p1 := 4) (s_oini (by decide) (by decide) kw215 kw68 kw69 dX0_init_1) ?_
  refine Sim.sq (p1 := 5) (s_aload_n rfl dX0_init_4) ?_
  refine Sim.sq (p1 := 7) (s_bipush (by decide +kernel) dX0_init_5) ?_
  refine Sim.sq (p1 := 10) (s_newq kw216 dX0_init_7) ?_
  refine Sim.sq (p1 := 13) (s_putr (rfl : vwCl[0]? = some (RX0, TX0, 3)) (by decide) (by decide) inG0 kw219 rfl tyX0 tyX0_ok nmX0 rfl rfl rfl (show parseFieldDescriptor "[LTextRopes$State;" = some (tyX0 0) by decide +kernel) (fun _ => rfl) (fun _ => rfl) dX0_init_10) ?_
  refine Sim.sq (p1 := 14) (s_aload_n rfl dX0_init_13) ?_
  refine Sim.sq (p1 := 15) (s_iconst (by decide +kernel) dX0_init_14) ?_
  refine Sim.sq (p1 := 18) (s_puti (rfl : vwCl[0]? = some (RX0, TX0, 3)) (by decide) (by decide) inG0 kw220 rfl tyX0 tyX0_ok nmX0 rfl (by decide +kernel) dX0_init_15) ?_
  refine Sim.sq (p1 := 19) (s_aload_n rfl dX0_init_18) ?_
  refine Sim.sq (p1 := 20) (s_iconst (by decide +kernel) dX0_init_19) ?_
  refine Sim.sq (p1 := 23) (s_puti (rfl : vwCl[0]? = some (RX0, TX0, 3)) (by decide) (by decide) inG0 kw221 rfl tyX0 tyX0_ok nmX0 rfl (by decide +kernel) dX0_init_20) ?_
  refine Sim.sq (p1 := 24) (s_iconst (by decide +kernel) dX0_init_23) ?_
  refine Sim.sq (p1 := 25) (s_istore_n rfl (by decide) dX0_init_24) ?_
  refine Sim.sq (p1 := 53) (Sim.lp ?_) ?_
  · refine Sim.sq (p1 := 26) (s_iload_n rfl dX0_init_25) ?_
    refine Sim.sq (p1 := 27) (s_aload_n rfl dX0_init_26) ?_
    refine Sim.sq (p1 := 30) (s_getr (rfl : vwCl[0]? = some (RX0, TX0, 3)) (by decide) (by decide) inG0 kw219 rfl dX0_init_27) ?_
    refine Sim.sq (p1 := 31) (s_alen dX0_init_30) ?_
    refine Sim.bk ?_
    refine Sim.sq (p1 := 34) (s_icmp_ge dX0_init_31 (by decide) rfl) ?_
    refine Sim.sq (p1 := 35) (s_aload_n rfl dX0_init_34) ?_
    refine Sim.sq (p1 := 38) (s_getr (rfl : vwCl[0]? = some (RX0, TX0, 3)) (by decide) (by decide) inG0 kw219 rfl dX0_init_35) ?_
    refine Sim.sq (p1 := 39) (s_iload_n rfl dX0_init_38) ?_
    refine Sim.sq (p1 := 42) (s_new (rfl : vwCl[2]? = some (RX2, TX2, 7)) (by decide) inG2 tyX2 tyX2_ok (by decide +kernel) kw216 kw175 kw56 dX0_init_39) ?_
    refine Sim.sq (p1 := 43) (s_dup dX0_init_42) ?_
    refine Sim.sq (p1 := 46) (s_callI (y := yX2_init) (C_X2_init l) kw218 kw177 kw56 kw178 rfl ⟨by decide +kernel, by decide +kernel, by decide +kernel⟩ ⟨by decide, by decide⟩ dX0_init_43) ?_
    refine Sim.sq (p1 := 47) (s_qst dX0_init_46) ?_
    refine Sim.sq (p1 := 50) (s_iinc (by decide +kernel) (by decide) dX0_init_47) ?_
    exact (s_goto dX0_init_50 (by decide) rfl)
  exact (s_vret rfl dX0_init_53)
set_option maxRecDepth 100000 in
set_option maxHeartbeats 4000000 in
theorem C_X0_init (l : Launch) : Ct l yX0_init cX0_init 2 none 2 43 m_X0_init := Ct_of (y := yX0_init) (by decide +kernel) S_X0_init
set_option maxRecDepth 100000 in
set_option maxHeartbeats 4000000 in
theorem S_X5_init {l : Launch} : Sim l (fun _ => True) RX5 "<init>" cX5_init 1 none 3 64 [] b_X5_init 0 107 := by
  unfold b_X5_init
  refine Sim.sq (p1 := 1) (s_aload_n rfl dX5_init_0) ?_
  refine Sim.sq (p1 := 4) (s_oini (by decide) (by decide) kw67 kw68 kw69 dX5_init_1) ?_
  refine Sim.sq (p1 := 5) (s_aload_n rfl dX5_init_4) ?_
  refine Sim.sq (p1 := 8) (s_new (rfl : vwCl[4]? = some (RX4, TX4, 6)) (by decide) inG4 tyX4 tyX4_ok (by decide +kernel) kw70 kw71 kw53 dX5_init_5) ?_
  refine Sim.sq (p1 := 9) (s_dup dX5_init_8) ?_
  refine Sim.sq (p1 := 12) (s_callIN (y := yX4_init) (C_X4_init l) kn72 kw73 kw53 kw74 rfl ⟨by decide +kernel, by decide +kernel, by decide +kernel⟩ ⟨by decide, by decide⟩ dX5_init_9) ?_
  refine Sim.sq (p1 := 15) (s_putr (rfl : vwCl[5]? = some (RX5, TX5, 11)) (by decide) (by decide) inG5 kw230 rfl tyX5 tyX5_ok nmX5 rfl rfl rfl (show parseFieldDescriptor "LTextRopes$Weaver;" = some (tyX5 0) by decide +kernel) (fun _ => rfl) (fun _ => rfl) dX5_init_12) ?_
  refine Sim.sq (p1 := 16) (s_aload_n rfl dX5_init_15) ?_
  refine Sim.sq (p1 := 17) (s_aload_n rfl dX5_init_16) ?_
  refine Sim.sq (p1 := 20) (s_getr (rfl : vwCl[5]? = some (RX5, TX5, 11)) (by decide) (by decide) inG5 kw230 rfl dX5_init_17) ?_
  refine Sim.sq (p1 := 23) (s_getrN (rfl : vwCl[4]? = some (RX4, TX4, 6)) (by decide) (by decide) inG4 kn118 rfl dX5_init_20) ?_
  refine Sim.sq (p1 := 26) (s_putr (rfl : vwCl[5]? = some (RX5, TX5, 11)) (by decide) (by decide) inG5 kw231 rfl tyX5 tyX5_ok nmX5 rfl rfl rfl (show parseFieldDescriptor "LTextRopes$Nodes;" = some (tyX5 1) by decide +kernel) (fun _ => rfl) (fun _ => rfl) dX5_init_23) ?_
  refine Sim.sq (p1 := 27) (s_aload_n rfl dX5_init_26) ?_
  refine Sim.sq (p1 := 30) (s_new (rfl : vwCl[3]? = some (RX3, TX3, 8)) (by decide) inG3 tyX3 tyX3_ok (by decide +kernel) kw139 kw140 kw55 dX5_init_27) ?_
  refine Sim.sq (p1 := 31) (s_dup dX5_init_30) ?_
  refine Sim.sq (p1 := 34) (s_callIN (y := yX3_init) (C_X3_init l) kn141 kw142 kw55 kw143 rfl ⟨by decide +kernel, by decide +kernel, by decide +kernel⟩ ⟨by decide, by decide⟩ dX5_init_31) ?_
  refine Sim.sq (p1 := 37) (s_putr (rfl : vwCl[5]? = some (RX5, TX5, 11)) (by decide) (by decide) inG5 kw232 rfl tyX5 tyX5_ok nmX5 rfl rfl rfl (show parseFieldDescriptor "LTextRopes$View;" = some (tyX5 2) by decide +kernel) (fun _ => rfl) (fun _ => rfl) dX5_init_34) ?_
  refine Sim.sq (p1 := 38) (s_aload_n rfl dX5_init_37) ?_
  refine Sim.sq (p1 := 41) (s_new (rfl : vwCl[3]? = some (RX3, TX3, 8)) (by decide) inG3 tyX3 tyX3_ok (by decide +kernel) kw139 kw140 kw55 dX5_init_38) ?_
  refine Sim.sq (p1 := 42) (s_dup dX5_init_41) ?_
  refine Sim.sq (p1 := 45) (s_callIN (y := yX3_init) (C_X3_init l) kn141 kw142 kw55 kw143 rfl ⟨by decide +kernel, by decide +kernel, by decide +kernel⟩ ⟨by decide, by decide⟩ dX5_init_42) ?_
  refine Sim.sq (p1 := 48) (s_putr (rfl : vwCl[5]? = some (RX5, TX5, 11)) (by decide) (by decide) inG5 kw233 rfl tyX5 tyX5_ok nmX5 rfl rfl rfl (show parseFieldDescriptor "LTextRopes$View;" = some (tyX5 3) by decide +kernel) (fun _ => rfl) (fun _ => rfl) dX5_init_45) ?_
  refine Sim.sq (p1 := 49) (s_aload_n rfl dX5_init_48) ?_
  refine Sim.sq (p1 := 52) (s_new (rfl : vwCl[2]? = some (RX2, TX2, 7)) (by decide) inG2 tyX2 tyX2_ok (by decide +kernel) kw174 kw175 kw56 dX5_init_49) ?_
  refine Sim.sq (p1 := 53) (s_dup dX5_init_52) ?_
  refine Sim.sq (p1 := 56) (s_callI (y := yX2_init) (C_X2_init l) kw176 kw177 kw56 kw178 rfl ⟨by decide +kernel, by decide +kernel, by decide +kernel⟩ ⟨by decide, by decide⟩ dX5_init_53) ?_
  refine Sim.sq (p1 := 59) (s_putr (rfl : vwCl[5]? = some (RX5, TX5, 11)) (by decide) (by decide) inG5 kw234 rfl tyX5 tyX5_ok nmX5 rfl rfl rfl (show parseFieldDescriptor "LTextRopes$State;" = some (tyX5 4) by decide +kernel) (fun _ => rfl) (fun _ => rfl) dX5_init_56) ?_
  refine Sim.sq (p1 := 60) (s_aload_n rfl dX5_init_59) ?_
  refine Sim.sq (p1 := 63) (s_new (rfl : vwCl[0]? = some (RX0, TX0, 3)) (by decide) inG0 tyX0 tyX0_ok (by decide +kernel) kw210 kw211 kw58 dX5_init_60) ?_
  refine Sim.sq (p1 := 64) (s_dup dX5_init_63) ?_
  refine Sim.sq (p1 := 67) (s_callI (y := yX0_init) (C_X0_init l) kw212 kw213 kw58 kw214 rfl ⟨by decide +kernel, by decide +kernel, by decide +kernel⟩ ⟨by decide, by decide⟩ dX5_init_64) ?_
  refine Sim.sq (p1 := 70) (s_putr (rfl : vwCl[5]? = some (RX5, TX5, 11)) (by decide) (by decide) inG5 kw235 rfl tyX5 tyX5_ok nmX5 rfl rfl rfl (show parseFieldDescriptor "LTextRopes$History;" = some (tyX5 5) by decide +kernel) (fun _ => rfl) (fun _ => rfl) dX5_init_67) ?_
  refine Sim.sq (p1 := 71) (s_aload_n rfl dX5_init_70) ?_
  refine Sim.sq (p1 := 72) (s_iconst (by decide +kernel) dX5_init_71) ?_
  refine Sim.sq (p1 := 74) (s_newi kw114 dX5_init_72) ?_
  refine Sim.sq (p1 := 77) (s_putr (rfl : vwCl[5]? = some (RX5, TX5, 11)) (by decide) (by decide) inG5 kw236 rfl tyX5 tyX5_ok nmX5 rfl rfl rfl (show parseFieldDescriptor "[I" = some (tyX5 6) by decide +kernel) (fun _ => rfl) (fun _ => rfl) dX5_init_74) ?_
  refine Sim.sq (p1 := 78) (s_aload_n rfl dX5_init_77) ?_
  refine Sim.sq (p1 := 79) (s_iconst (by decide +kernel) dX5_init_78) ?_
  refine Sim.sq (p1 := 81) (s_newz kw116 dX5_init_79) ?_
  refine Sim.sq (p1 := 84) (s_putr (rfl : vwCl[5]? = some (RX5, TX5, 11)) (by decide) (by decide) inG5 kw237 rfl tyX5 tyX5_ok nmX5 rfl rfl rfl (show parseFieldDescriptor "[Z" = some (tyX5 7) by decide +kernel) (fun _ => rfl) (fun _ => rfl) dX5_init_81) ?_
  refine Sim.sq (p1 := 85) (s_aload_n rfl dX5_init_84) ?_
  refine Sim.sq (p1 := 87) (s_bipush (by decide +kernel) dX5_init_85) ?_
  refine Sim.sq (p1 := 89) (s_newi kw114 dX5_init_87) ?_
  refine Sim.sq (p1 := 92) (s_putr (rfl : vwCl[5]? = some (RX5, TX5, 11)) (by decide) (by decide) inG5 kw238 rfl tyX5 tyX5_ok nmX5 rfl rfl rfl (show parseFieldDescriptor "[I" = some (tyX5 8) by decide +kernel) (fun _ => rfl) (fun _ => rfl) dX5_init_89) ?_
  refine Sim.sq (p1 := 93) (s_aload_n rfl dX5_init_92) ?_
  refine Sim.sq (p1 := 94) (s_iconst (by decide +kernel) dX5_init_93) ?_
  refine Sim.sq (p1 := 97) (s_puti (rfl : vwCl[5]? = some (RX5, TX5, 11)) (by decide) (by decide) inG5 kw239 rfl tyX5 tyX5_ok nmX5 rfl (by decide +kernel) dX5_init_94) ?_
  refine Sim.sq (p1 := 98) (s_aload_n rfl dX5_init_97) ?_
  refine Sim.sq (p1 := 101) (s_sipush (by decide +kernel) dX5_init_98) ?_
  refine Sim.sq (p1 := 103) (s_newi kw114 dX5_init_101) ?_
  refine Sim.sq (p1 := 106) (s_putr (rfl : vwCl[5]? = some (RX5, TX5, 11)) (by decide) (by decide) inG5 kw240 rfl tyX5 tyX5_ok nmX5 rfl rfl rfl (show parseFieldDescriptor "[I" = some (tyX5 10) by decide +kernel) (fun _ => rfl) (fun _ => rfl) dX5_init_103) ?_
  exact (s_vret rfl dX5_init_106)
set_option maxRecDepth 100000 in
set_option maxHeartbeats 4000000 in
theorem C_X5_init (l : Launch) : Ct l yX5_init cX5_init 1 none 3 64 m_X5_init := Ct_of (y := yX5_init) (by decide +kernel) S_X5_init
set_option maxRecDepth 100000 in
set_option maxHeartbeats 4000000 in
theorem S_X6_init {l : Launch} : Sim l (fun _ => True) RX6 "<init>" cX6_init 2 none 1 20 [] b_X6_init 0 128 := by
  unfold b_X6_init
  refine Sim.sq (p1 := 1) (s_aload_n rfl dX6_init_0) ?_
  refine Sim.sq (p1 := 4) (s_oini (by decide) (by decide) kw698 kw68 kw69 dX6_init_1) ?_
  refine Sim.sq (p1 := 5) (s_aload_n rfl dX6_init_4) ?_
  refine Sim.sq (p1 := 8) (s_sipush (by decide +kernel) dX6_init_5) ?_
  refine Sim.sq (p1 := 10) (s_newi kw114 dX6_init_8) ?_
  refine Sim.sq (p1 := 13) (s_putr (rfl : vwCl[6]? = some (RX6, TX6, 12)) (by decide) (by decide) inG6 kw700 rfl tyX6 tyX6_ok nmX6 rfl rfl rfl (show parseFieldDescriptor "[I" = some (tyX6 0) by decide +kernel) (fun _ => rfl) (fun _ => rfl) dX6_init_10) ?_
  refine Sim.sq (p1 := 14) (s_aload_n rfl dX6_init_13) ?_
  refine Sim.sq (p1 := 16) (s_bipush (by decide +kernel) dX6_init_14) ?_
  refine Sim.sq (p1 := 18) (s_newi kw114 dX6_init_16) ?_
  refine Sim.sq (p1 := 21) (s_putr (rfl : vwCl[6]? = some (RX6, TX6, 12)) (by decide) (by decide) inG6 kw701 rfl tyX6 tyX6_ok nmX6 rfl rfl rfl (show parseFieldDescriptor "[I" = some (tyX6 1) by decide +kernel) (fun _ => rfl) (fun _ => rfl) dX6_init_18) ?_
  refine Sim.sq (p1 := 22) (s_aload_n rfl dX6_init_21) ?_
  refine Sim.sq (p1 := 24) (s_ldc kw699 dX6_init_22) ?_
  refine Sim.sq (p1 := 26) (s_newi kw114 dX6_init_24) ?_
  refine Sim.sq (p1 := 29) (s_putr (rfl : vwCl[6]? = some (RX6, TX6, 12)) (by decide) (by decide) inG6 kw702 rfl tyX6 tyX6_ok nmX6 rfl rfl rfl (show parseFieldDescriptor "[I" = some (tyX6 2) by decide +kernel) (fun _ => rfl) (fun _ => rfl) dX6_init_26) ?_
  refine Sim.sq (p1 := 30) (s_aload_n rfl dX6_init_29) ?_
  refine Sim.sq (p1 := 31) (s_iconst (by decide +kernel) dX6_init_30) ?_
  refine Sim.sq (p1 := 33) (s_newi kw114 dX6_init_31) ?_
  refine Sim.sq (p1 := 36) (s_putr (rfl : vwCl[6]? = some (RX6, TX6, 12)) (by decide) (by decide) inG6 kw704 rfl tyX6 tyX6_ok nmX6 rfl rfl rfl (show parseFieldDescriptor "[I" = some (tyX6 4) by decide +kernel) (fun _ => rfl) (fun _ => rfl) dX6_init_33) ?_
  refine Sim.sq (p1 := 37) (s_aload_n rfl dX6_init_36) ?_
  refine Sim.sq (p1 := 39) (s_bipush (by decide +kernel) dX6_init_37) ?_
  refine Sim.sq (p1 := 41) (s_newi kw114 dX6_init_39) ?_
  refine Sim.sq (p1 := 44) (s_putr (rfl : vwCl[6]? = some (RX6, TX6, 12)) (by decide) (by decide) inG6 kw705 rfl tyX6 tyX6_ok nmX6 rfl rfl rfl (show parseFieldDescriptor "[I" = some (tyX6 5) by decide +kernel) (fun _ => rfl) (fun _ => rfl) dX6_init_41) ?_
  refine Sim.sq (p1 := 45) (s_aload_n rfl dX6_init_44) ?_
  refine Sim.sq (p1 := 48) (s_sipush (by decide +kernel) dX6_init_45) ?_
  refine Sim.sq (p1 := 50) (s_newi kw114 dX6_init_48) ?_
  refine Sim.sq (p1 := 53) (s_putr (rfl : vwCl[6]? = some (RX6, TX6, 12)) (by decide) (by decide) inG6 kw707 rfl tyX6 tyX6_ok nmX6 rfl rfl rfl (show parseFieldDescriptor "[I" = some (tyX6 7) by decide +kernel) (fun _ => rfl) (fun _ => rfl) dX6_init_50) ?_
  refine Sim.sq (p1 := 54) (s_aload_n rfl dX6_init_53) ?_
  refine Sim.sq (p1 := 57) (s_sipush (by decide +kernel) dX6_init_54) ?_
  refine Sim.sq (p1 := 59) (s_newi kw114 dX6_init_57) ?_
  refine Sim.sq (p1 := 62) (s_putr (rfl : vwCl[6]? = some (RX6, TX6, 12)) (by decide) (by decide) inG6 kw708 rfl tyX6 tyX6_ok nmX6 rfl rfl rfl (show parseFieldDescriptor "[I" = some (tyX6 8) by decide +kernel) (fun _ => rfl) (fun _ => rfl) dX6_init_59) ?_
  refine Sim.sq (p1 := 63) (s_aload_n rfl dX6_init_62) ?_
  refine Sim.sq (p1 := 66) (s_sipush (by decide +kernel) dX6_init_63) ?_
  refine Sim.sq (p1 := 68) (s_newi kw114 dX6_init_66) ?_
  refine Sim.sq (p1 := 71) (s_putr (rfl : vwCl[6]? = some (RX6, TX6, 12)) (by decide) (by decide) inG6 kw709 rfl tyX6 tyX6_ok nmX6 rfl rfl rfl (show parseFieldDescriptor "[I" = some (tyX6 9) by decide +kernel) (fun _ => rfl) (fun _ => rfl) dX6_init_68) ?_
  refine Sim.sq (p1 := 72) (s_aload_n rfl dX6_init_71) ?_
  refine Sim.sq (p1 := 75) (s_sipush (by decide +kernel) dX6_init_72) ?_
  refine Sim.sq (p1 := 77) (s_newi kw114 dX6_init_75) ?_
  refine Sim.sq (p1 := 80) (s_putr (rfl : vwCl[6]? = some (RX6, TX6, 12)) (by decide) (by decide) inG6 kw710 rfl tyX6 tyX6_ok nmX6 rfl rfl rfl (show parseFieldDescriptor "[I" = some (tyX6 10) by decide +kernel) (fun _ => rfl) (fun _ => rfl) dX6_init_77) ?_
  refine Sim.sq (p1 := 81) (s_aload_n rfl dX6_init_80) ?_
  refine Sim.sq (p1 := 84) (s_sipush (by decide +kernel) dX6_init_81) ?_
  refine Sim.sq (p1 := 86) (s_newi kw114 dX6_init_84) ?_
  refine Sim.sq (p1 := 89) (s_putr (rfl : vwCl[6]? = some (RX6, TX6, 12)) (by decide) (by decide) inG6 kw711 rfl tyX6 tyX6_ok nmX6 rfl rfl rfl (show parseFieldDescriptor "[I" = some (tyX6 11) by decide +kernel) (fun _ => rfl) (fun _ => rfl) dX6_init_86) ?_
  refine Sim.sq (p1 := 90) (s_aload_n rfl dX6_init_89) ?_
  refine Sim.sq (p1 := 93) (s_getr (rfl : vwCl[6]? = some (RX6, TX6, 12)) (by decide) (by decide) inG6 kw701 rfl dX6_init_90) ?_
  refine Sim.sq (p1 := 94) (s_iconst (by decide +kernel) dX6_init_93) ?_
  refine Sim.sq (p1 := 96) (s_bipush (by decide +kernel) dX6_init_94) ?_
  refine Sim.sq (p1 := 97) (s_iast dX6_init_96) ?_
  refine Sim.sq (p1 := 98) (s_aload_n rfl dX6_init_97) ?_
  refine Sim.sq (p1 := 101) (s_getr (rfl : vwCl[6]? = some (RX6, TX6, 12)) (by decide) (by decide) inG6 kw701 rfl dX6_init_98) ?_
  refine Sim.sq (p1 := 102) (s_iconst (by decide +kernel) dX6_init_101) ?_
  refine Sim.sq (p1 := 103) (s_iconst (by decide +kernel) dX6_init_102) ?_
  refine Sim.sq (p1 := 104) (s_iast dX6_init_103) ?_
  refine Sim.sq (p1 := 105) (s_iconst (by decide +kernel) dX6_init_104) ?_
  refine Sim.sq (p1 := 106) (s_istore_n rfl (by decide) dX6_init_105) ?_
  refine Sim.sq (p1 := 127) (Sim.lp ?_) ?_
  · refine Sim.sq (p1 := 107) (s_iload_n rfl dX6_init_106) ?_
    refine Sim.sq (p1 := 108) (s_iconst (by decide +kernel) dX6_init_107) ?_
    refine Sim.bk ?_
    refine Sim.sq (p1 := 111) (s_icmp_ge dX6_init_108 (by decide) rfl) ?_
    refine Sim.sq (p1 := 112) (s_aload_n rfl dX6_init_111) ?_
    refine Sim.sq (p1 := 115) (s_getr (rfl : vwCl[6]? = some (RX6, TX6, 12)) (by decide) (by decide) inG6 kw701 rfl dX6_init_112) ?_
    refine Sim.sq (p1 := 116) (s_iconst (by decide +kernel) dX6_init_115) ?_
    refine Sim.sq (p1 := 117) (s_iload_n rfl dX6_init_116) ?_
    refine Sim.sq (p1 := 118) (s_iadd dX6_init_117) ?_
    refine Sim.sq (p1 := 120) (s_bipush (by decide +kernel) dX6_init_118) ?_
    refine Sim.sq (p1 := 121) (s_iast dX6_init_120) ?_
    refine Sim.sq (p1 := 124) (s_iinc (by decide +kernel) (by decide) dX6_init_121) ?_
    exact (s_goto dX6_init_124 (by decide) rfl)
  exact (s_vret rfl dX6_init_127)
set_option maxRecDepth 100000 in
set_option maxHeartbeats 4000000 in
theorem C_X6_init (l : Launch) : Ct l yX6_init cX6_init 2 none 1 20 m_X6_init := Ct_of (y := yX6_init) (by decide +kernel) S_X6_init
set_option maxRecDepth 100000 in
set_option maxHeartbeats 4000000 in
theorem S_J9_floorMod_7cf53 {l : Launch} : Sim l (fun _ => True) RJ9 "floorMod" cJ9_floorMod_7cf53 3 (some .int) 0 0 [] b_J9_floorMod_7cf53 0 20 := by
  unfold b_J9_floorMod_7cf53
  refine Sim.sq (p1 := 1) (s_iload_n rfl dJ9_floorMod_7cf53_0) ?_
  refine Sim.sq (p1 := 2) (s_iload_n rfl dJ9_floorMod_7cf53_1) ?_
  refine Sim.sq (p1 := 3) (s_irem dJ9_floorMod_7cf53_2) ?_
  refine Sim.sq (p1 := 4) (s_istore_n rfl (by decide) dJ9_floorMod_7cf53_3) ?_
  refine Sim.sq (p1 := 5) (s_iload_n rfl dJ9_floorMod_7cf53_4) ?_
  refine Sim.sq (p1 := 6) (s_iload_n rfl dJ9_floorMod_7cf53_5) ?_
  refine Sim.sq (p1 := 7) (s_ixor dJ9_floorMod_7cf53_6) ?_
  refine Sim.sq (p1 := 18) (Sim.bk ?_) ?_
  · refine Sim.sq (p1 := 10) (s_if_ge dJ9_floorMod_7cf53_7 (by decide) rfl) ?_
    refine Sim.sq (p1 := 11) (s_iload_n rfl dJ9_floorMod_7cf53_10) ?_
    refine Sim.sq (p1 := 14) (s_if_eq dJ9_floorMod_7cf53_11 (by decide) rfl) ?_
    refine Sim.sq (p1 := 15) (s_iload_n rfl dJ9_floorMod_7cf53_14) ?_
    refine Sim.sq (p1 := 16) (s_iload_n rfl dJ9_floorMod_7cf53_15) ?_
    refine Sim.sq (p1 := 17) (s_iadd dJ9_floorMod_7cf53_16) ?_
    exact (s_iret rfl dJ9_floorMod_7cf53_17)
  refine Sim.sq (p1 := 19) (s_iload_n rfl dJ9_floorMod_7cf53_18) ?_
  exact (s_iret rfl dJ9_floorMod_7cf53_19)
set_option maxRecDepth 100000 in
set_option maxHeartbeats 4000000 in
theorem C_J9_floorMod_7cf53 (l : Launch) : Ct l yJ9_floorMod_7cf53 cJ9_floorMod_7cf53 3 (some .int) 0 0 m_J9_floorMod_7cf53 := Ct_of (y := yJ9_floorMod_7cf53) (by decide +kernel) S_J9_floorMod_7cf53
set_option maxRecDepth 100000 in
set_option maxHeartbeats 4000000 in
theorem S_X0_savedState {l : Launch} : Sim l (fun _ => True) RX0 "savedState" cX0_savedState 3 (some (.object "TextRopes$State")) 1 22 [] b_X0_savedState 0 32 := by
  unfold b_X0_savedState
  refine Sim.sq (p1 := 1) (s_aload_n rfl dX0_savedState_0) ?_
  refine Sim.sq (p1 := 4) (s_geti (rfl : vwCl[0]? = some (RX0, TX0, 3)) (by decide) (by decide) inG0 kw220 rfl dX0_savedState_1) ?_
  refine Sim.sq (p1 := 5) (s_iload_n rfl dX0_savedState_4) ?_
  refine Sim.sq (p1 := 6) (s_iadd dX0_savedState_5) ?_
  refine Sim.sq (p1 := 8) (s_bipush (by decide +kernel) dX0_savedState_6) ?_
  refine Sim.sq (p1 := 11) (s_callS (y := yJ9_floorMod_7cf53) (C_J9_floorMod_7cf53 l) kw276 kw277 kw60 kw278 ⟨by decide +kernel, by decide +kernel, by decide +kernel⟩ ⟨by decide, by decide⟩ dX0_savedState_8) ?_
  refine Sim.sq (p1 := 12) (s_istore_n rfl (by decide) dX0_savedState_11) ?_
  refine Sim.sq (p1 := 13) (s_iload_n rfl dX0_savedState_12) ?_
  refine Sim.sq (p1 := 14) (s_aload_n rfl dX0_savedState_13) ?_
  refine Sim.sq (p1 := 17) (s_getr (rfl : vwCl[0]? = some (RX0, TX0, 3)) (by decide) (by decide) inG0 kw219 rfl dX0_savedState_14) ?_
  refine Sim.sq (p1 := 18) (s_alen dX0_savedState_17) ?_
  refine Sim.sq (p1 := 31) (Sim.bk ?_) ?_
  · refine Sim.sq (p1 := 30) (Sim.bk ?_) ?_
    · refine Sim.sq (p1 := 21) (s_icmp_ge dX0_savedState_18 (by decide) rfl) ?_
      refine Sim.sq (p1 := 22) (s_aload_n rfl dX0_savedState_21) ?_
      refine Sim.sq (p1 := 25) (s_getr (rfl : vwCl[0]? = some (RX0, TX0, 3)) (by decide) (by decide) inG0 kw219 rfl dX0_savedState_22) ?_
      refine Sim.sq (p1 := 26) (s_iload_n rfl dX0_savedState_25) ?_
      refine Sim.sq (p1 := 27) (s_qald dX0_savedState_26) ?_
      exact (s_goto dX0_savedState_27 (by decide) rfl)
    exact (s_null dX0_savedState_30)
  exact (s_aret rfl (Or.inl ⟨_, rfl⟩) dX0_savedState_31)
set_option maxRecDepth 100000 in
set_option maxHeartbeats 4000000 in
theorem C_X0_savedState (l : Launch) : Ct l yX0_savedState cX0_savedState 3 (some (.object "TextRopes$State")) 1 22 m_X0_savedState := Ct_of (y := yX0_savedState) (by decide +kernel) S_X0_savedState
set_option maxRecDepth 100000 in
set_option maxHeartbeats 4000000 in
theorem S_X2_takeFrom {l : Launch} : Sim l (fun _ => True) RX2 "takeFrom" cX2_takeFrom 2 none 1 200 [] b_X2_takeFrom 0 69 := by
  unfold b_X2_takeFrom
  refine Sim.sq (p1 := 1) (s_aload_n rfl dX2_takeFrom_0) ?_
  refine Sim.sq (p1 := 4) (s_getr (rfl : vwCl[2]? = some (RX2, TX2, 7)) (by decide) (by decide) inG2 kw183 rfl dX2_takeFrom_1) ?_
  refine Sim.sq (p1 := 5) (s_iconst (by decide +kernel) dX2_takeFrom_4) ?_
  refine Sim.sq (p1 := 6) (s_aload_n rfl dX2_takeFrom_5) ?_
  refine Sim.sq (p1 := 9) (s_getr (rfl : vwCl[2]? = some (RX2, TX2, 7)) (by decide) (by decide) inG2 kw183 rfl dX2_takeFrom_6) ?_
  refine Sim.sq (p1 := 10) (s_iconst (by decide +kernel) dX2_takeFrom_9) ?_
  refine Sim.sq (p1 := 11) (s_iconst (by decide +kernel) dX2_takeFrom_10) ?_
  refine Sim.sq (p1 := 14) (s_cpy (by decide) (by decide) kw283 kw285 kw284 kw61 dX2_takeFrom_11) ?_
  refine Sim.sq (p1 := 15) (s_aload_n rfl dX2_takeFrom_14) ?_
  refine Sim.sq (p1 := 18) (s_getr (rfl : vwCl[2]? = some (RX2, TX2, 7)) (by decide) (by decide) inG2 kw184 rfl dX2_takeFrom_15) ?_
  refine Sim.sq (p1 := 19) (s_iconst (by decide +kernel) dX2_takeFrom_18) ?_
  refine Sim.sq (p1 := 20) (s_aload_n rfl dX2_takeFrom_19) ?_
  refine Sim.sq (p1 := 23) (s_getr (rfl : vwCl[2]? = some (RX2, TX2, 7)) (by decide) (by decide) inG2 kw184 rfl dX2_takeFrom_20) ?_
  refine Sim.sq (p1 := 24) (s_iconst (by decide +kernel) dX2_takeFrom_23) ?_
  refine Sim.sq (p1 := 25) (s_iconst (by decide +kernel) dX2_takeFrom_24) ?_
  refine Sim.sq (p1 := 28) (s_cpy (by decide) (by decide) kw283 kw285 kw284 kw61 dX2_takeFrom_25) ?_
  refine Sim.sq (p1 := 29) (s_aload_n rfl dX2_takeFrom_28) ?_
  refine Sim.sq (p1 := 30) (s_aload_n rfl dX2_takeFrom_29) ?_
  refine Sim.sq (p1 := 33) (s_geti (rfl : vwCl[2]? = some (RX2, TX2, 7)) (by decide) (by decide) inG2 kw185 rfl dX2_takeFrom_30) ?_
  refine Sim.sq (p1 := 36) (s_puti (rfl : vwCl[2]? = some (RX2, TX2, 7)) (by decide) (by decide) inG2 kw185 rfl tyX2 tyX2_ok nmX2 rfl (by decide +kernel) dX2_takeFrom_33) ?_
  refine Sim.sq (p1 := 37) (s_aload_n rfl dX2_takeFrom_36) ?_
  refine Sim.sq (p1 := 38) (s_aload_n rfl dX2_takeFrom_37) ?_
  refine Sim.sq (p1 := 41) (s_geti (rfl : vwCl[2]? = some (RX2, TX2, 7)) (by decide) (by decide) inG2 kw187 rfl dX2_takeFrom_38) ?_
  refine Sim.sq (p1 := 44) (s_puti (rfl : vwCl[2]? = some (RX2, TX2, 7)) (by decide) (by decide) inG2 kw187 rfl tyX2 tyX2_ok nmX2 rfl (by decide +kernel) dX2_takeFrom_41) ?_
  refine Sim.sq (p1 := 45) (s_aload_n rfl dX2_takeFrom_44) ?_
  refine Sim.sq (p1 := 46) (s_aload_n rfl dX2_takeFrom_45) ?_
  refine Sim.sq (p1 := 49) (s_geti (rfl : vwCl[2]? = some (RX2, TX2, 7)) (by decide) (by decide) inG2 kw189 rfl dX2_takeFrom_46) ?_
  refine Sim.sq (p1 := 52) (s_puti (rfl : vwCl[2]? = some (RX2, TX2, 7)) (by decide) (by decide) inG2 kw189 rfl tyX2 tyX2_ok nmX2 rfl (by decide +kernel) dX2_takeFrom_49) ?_
  refine Sim.sq (p1 := 53) (s_aload_n rfl dX2_takeFrom_52) ?_
  refine Sim.sq (p1 := 54) (s_aload_n rfl dX2_takeFrom_53) ?_
  refine Sim.sq (p1 := 57) (s_geti (rfl : vwCl[2]? = some (RX2, TX2, 7)) (by decide) (by decide) inG2 kw191 rfl dX2_takeFrom_54) ?_
  refine Sim.sq (p1 := 60) (s_puti (rfl : vwCl[2]? = some (RX2, TX2, 7)) (by decide) (by decide) inG2 kw191 rfl tyX2 tyX2_ok nmX2 rfl (by decide +kernel) dX2_takeFrom_57) ?_
  refine Sim.sq (p1 := 61) (s_aload_n rfl dX2_takeFrom_60) ?_
  refine Sim.sq (p1 := 62) (s_aload_n rfl dX2_takeFrom_61) ?_
  refine Sim.sq (p1 := 65) (s_geti (rfl : vwCl[2]? = some (RX2, TX2, 7)) (by decide) (by decide) inG2 kw193 rfl dX2_takeFrom_62) ?_
  refine Sim.sq (p1 := 68) (s_puti (rfl : vwCl[2]? = some (RX2, TX2, 7)) (by decide) (by decide) inG2 kw193 rfl tyX2 tyX2_ok nmX2 rfl (by decide +kernel) dX2_takeFrom_65) ?_
  exact (s_vret rfl dX2_takeFrom_68)
set_option maxRecDepth 100000 in
set_option maxHeartbeats 4000000 in
theorem C_X2_takeFrom (l : Launch) : Ct l yX2_takeFrom cX2_takeFrom 2 none 1 200 m_X2_takeFrom := Ct_of (y := yX2_takeFrom) (by decide +kernel) S_X2_takeFrom
set_option maxRecDepth 100000 in
set_option maxHeartbeats 4000000 in
theorem S_X0_save {l : Launch} : Sim l (fun _ => True) RX0 "save" cX0_save 3 none 2 221 [] b_X0_save 0 61 := by
  unfold b_X0_save
  refine Sim.sq (p1 := 1) (s_aload_n rfl dX0_save_0) ?_
  refine Sim.sq (p1 := 4) (s_geti (rfl : vwCl[0]? = some (RX0, TX0, 3)) (by decide) (by decide) inG0 kw221 rfl dX0_save_1) ?_
  refine Sim.sq (p1 := 6) (s_bipush (by decide +kernel) dX0_save_4) ?_
  refine Sim.sq (p1 := 32) (Sim.bk ?_) ?_
  · refine Sim.sq (p1 := 9) (s_icmp_ne dX0_save_6 (by decide) rfl) ?_
    refine Sim.sq (p1 := 10) (s_aload_n rfl dX0_save_9) ?_
    refine Sim.sq (p1 := 11) (s_aload_n rfl dX0_save_10) ?_
    refine Sim.sq (p1 := 14) (s_geti (rfl : vwCl[0]? = some (RX0, TX0, 3)) (by decide) (by decide) inG0 kw220 rfl dX0_save_11) ?_
    refine Sim.sq (p1 := 15) (s_iconst (by decide +kernel) dX0_save_14) ?_
    refine Sim.sq (p1 := 16) (s_iadd dX0_save_15) ?_
    refine Sim.sq (p1 := 18) (s_bipush (by decide +kernel) dX0_save_16) ?_
    refine Sim.sq (p1 := 19) (s_irem dX0_save_18) ?_
    refine Sim.sq (p1 := 22) (s_puti (rfl : vwCl[0]? = some (RX0, TX0, 3)) (by decide) (by decide) inG0 kw220 rfl tyX0 tyX0_ok nmX0 rfl (by decide +kernel) dX0_save_19) ?_
    refine Sim.sq (p1 := 23) (s_aload_n rfl dX0_save_22) ?_
    refine Sim.sq (p1 := 24) (s_dup dX0_save_23) ?_
    refine Sim.sq (p1 := 27) (s_geti (rfl : vwCl[0]? = some (RX0, TX0, 3)) (by decide) (by decide) inG0 kw221 rfl dX0_save_24) ?_
    refine Sim.sq (p1 := 28) (s_iconst (by decide +kernel) dX0_save_27) ?_
    refine Sim.sq (p1 := 29) (s_isub dX0_save_28) ?_
    exact (s_puti (rfl : vwCl[0]? = some (RX0, TX0, 3)) (by decide) (by decide) inG0 kw221 rfl tyX0 tyX0_ok nmX0 rfl (by decide +kernel) dX0_save_29)
  refine Sim.sq (p1 := 33) (s_aload_n rfl dX0_save_32) ?_
  refine Sim.sq (p1 := 34) (s_aload_n rfl dX0_save_33) ?_
  refine Sim.sq (p1 := 37) (s_geti (rfl : vwCl[0]? = some (RX0, TX0, 3)) (by decide) (by decide) inG0 kw221 rfl dX0_save_34) ?_
  refine Sim.sq (p1 := 40) (s_callV (C_X0_savedState l) (rfl : vwCl[0]? = some (RX0, TX0, 3)) (by decide) kw272 kw273 kw274 kw58 kw275 ⟨rfl, by decide +kernel, by decide +kernel, by decide +kernel⟩ ⟨by decide, by decide⟩ shN0 dX0_save_37) ?_
  refine Sim.sq (p1 := 41) (s_astore_n rfl (by decide) dX0_save_40) ?_
  refine Sim.sq (p1 := 42) (s_aload_n rfl dX0_save_41) ?_
  refine Sim.sq (p1 := 60) (Sim.bk ?_) ?_
  · refine Sim.sq (p1 := 45) (s_ifnull dX0_save_42 (by decide) rfl) ?_
    refine Sim.sq (p1 := 46) (s_aload_n rfl dX0_save_45) ?_
    refine Sim.sq (p1 := 47) (s_aload_n rfl dX0_save_46) ?_
    refine Sim.sq (p1 := 50) (s_callV (C_X2_takeFrom l) (rfl : vwCl[2]? = some (RX2, TX2, 7)) (by decide) kw279 kw280 kw281 kw56 kw282 ⟨rfl, by decide +kernel, by decide +kernel, by decide +kernel⟩ ⟨by decide, by decide⟩ shN2 dX0_save_47) ?_
    refine Sim.sq (p1 := 51) (s_aload_n rfl dX0_save_50) ?_
    refine Sim.sq (p1 := 52) (s_dup dX0_save_51) ?_
    refine Sim.sq (p1 := 55) (s_geti (rfl : vwCl[0]? = some (RX0, TX0, 3)) (by decide) (by decide) inG0 kw221 rfl dX0_save_52) ?_
    refine Sim.sq (p1 := 56) (s_iconst (by decide +kernel) dX0_save_55) ?_
    refine Sim.sq (p1 := 57) (s_iadd dX0_save_56) ?_
    exact (s_puti (rfl : vwCl[0]? = some (RX0, TX0, 3)) (by decide) (by decide) inG0 kw221 rfl tyX0 tyX0_ok nmX0 rfl (by decide +kernel) dX0_save_57)
  exact (s_vret rfl dX0_save_60)
set_option maxRecDepth 100000 in
set_option maxHeartbeats 4000000 in
theorem C_X0_save (l : Launch) : Ct l yX0_save cX0_save 3 none 2 221 m_X0_save := Ct_of (y := yX0_save) (by decide +kernel) S_X0_save
set_option maxRecDepth 100000 in
set_option maxHeartbeats 4000000 in
theorem S_X5_setLeafSize {l : Launch} : Sim l (fun _ => True) RX5 "setLeafSize" cX5_setLeafSize 3 (some .int) 3 243 [] b_X5_setLeafSize 0 43 := by
  unfold b_X5_setLeafSize
  refine Sim.sq (p1 := 1) (s_iload_n rfl dX5_setLeafSize_0) ?_
  refine Sim.sq (p1 := 2) (s_iconst (by decide +kernel) dX5_setLeafSize_1) ?_
  refine Sim.sq (p1 := 14) (Sim.bk ?_) ?_
  · refine Sim.sq (p1 := 11) (Sim.bk ?_) ?_
    · refine Sim.sq (p1 := 5) (s_icmp_lt dX5_setLeafSize_2 (by decide) rfl) ?_
      refine Sim.sq (p1 := 6) (s_iload_n rfl dX5_setLeafSize_5) ?_
      refine Sim.sq (p1 := 8) (s_bipush (by decide +kernel) dX5_setLeafSize_6) ?_
      exact (s_icmp_le dX5_setLeafSize_8 (by decide) rfl)
    refine Sim.sq (p1 := 13) (s_bipush (by decide +kernel) dX5_setLeafSize_11) ?_
    exact (s_iret rfl dX5_setLeafSize_13)
  refine Sim.sq (p1 := 15) (s_aload_n rfl dX5_setLeafSize_14) ?_
  refine Sim.sq (p1 := 18) (s_getr (rfl : vwCl[5]? = some (RX5, TX5, 11)) (by decide) (by decide) inG5 kw234 rfl dX5_setLeafSize_15) ?_
  refine Sim.sq (p1 := 21) (s_getiN (rfl : vwCl[2]? = some (RX2, TX2, 7)) (by decide) (by decide) inG2 kn188 rfl dX5_setLeafSize_18) ?_
  refine Sim.sq (p1 := 22) (s_istore_n rfl (by decide) dX5_setLeafSize_21) ?_
  refine Sim.sq (p1 := 23) (s_aload_n rfl dX5_setLeafSize_22) ?_
  refine Sim.sq (p1 := 26) (s_getr (rfl : vwCl[5]? = some (RX5, TX5, 11)) (by decide) (by decide) inG5 kw235 rfl dX5_setLeafSize_23) ?_
  refine Sim.sq (p1 := 27) (s_aload_n rfl dX5_setLeafSize_26) ?_
  refine Sim.sq (p1 := 30) (s_getr (rfl : vwCl[5]? = some (RX5, TX5, 11)) (by decide) (by decide) inG5 kw234 rfl dX5_setLeafSize_27) ?_
  refine Sim.sq (p1 := 33) (s_callV (C_X0_save l) (rfl : vwCl[0]? = some (RX0, TX0, 3)) (by decide) kw268 kw269 kw270 kw58 kw271 ⟨rfl, by decide +kernel, by decide +kernel, by decide +kernel⟩ ⟨by decide, by decide⟩ shN0 dX5_setLeafSize_30) ?_
  refine Sim.sq (p1 := 34) (s_aload_n rfl dX5_setLeafSize_33) ?_
  refine Sim.sq (p1 := 37) (s_getr (rfl : vwCl[5]? = some (RX5, TX5, 11)) (by decide) (by decide) inG5 kw234 rfl dX5_setLeafSize_34) ?_
  refine Sim.sq (p1 := 38) (s_iload_n rfl dX5_setLeafSize_37) ?_
  refine Sim.sq (p1 := 41) (s_putiN (rfl : vwCl[2]? = some (RX2, TX2, 7)) (by decide) (by decide) inG2 kn188 rfl tyX2 tyX2_ok nmX2 rfl (by decide +kernel) dX5_setLeafSize_38) ?_
  refine Sim.sq (p1 := 42) (s_iload_n rfl dX5_setLeafSize_41) ?_
  exact (s_iret rfl dX5_setLeafSize_42)
set_option maxRecDepth 100000 in
set_option maxHeartbeats 4000000 in
theorem C_X5_setLeafSize (l : Launch) : Ct l yX5_setLeafSize cX5_setLeafSize 3 (some .int) 3 243 m_X5_setLeafSize := Ct_of (y := yX5_setLeafSize) (by decide +kernel) S_X5_setLeafSize
set_option maxRecDepth 100000 in
set_option maxHeartbeats 4000000 in
theorem S_X6_within {l : Launch} : Sim l (fun _ => True) RX6 "within" cX6_within 3 (some .boolean) 0 0 [] b_X6_within 0 16 := by
  unfold b_X6_within
  refine Sim.sq (p1 := 1) (s_iload_n rfl dX6_within_0) ?_
  refine Sim.sq (p1 := 2) (s_iload_n rfl dX6_within_1) ?_
  refine Sim.sq (p1 := 15) (Sim.bk ?_) ?_
  · refine Sim.sq (p1 := 14) (Sim.bk ?_) ?_
    · refine Sim.sq (p1 := 5) (s_icmp_lt dX6_within_2 (by decide) rfl) ?_
      refine Sim.sq (p1 := 6) (s_iload_n rfl dX6_within_5) ?_
      refine Sim.sq (p1 := 7) (s_iload_n rfl dX6_within_6) ?_
      refine Sim.sq (p1 := 10) (s_icmp_gt dX6_within_7 (by decide) rfl) ?_
      refine Sim.sq (p1 := 11) (s_iconst (by decide +kernel) dX6_within_10) ?_
      exact (s_goto dX6_within_11 (by decide) rfl)
    exact (s_iconst (by decide +kernel) dX6_within_14)
  exact (s_zret rfl dX6_within_15)
set_option maxRecDepth 100000 in
set_option maxHeartbeats 4000000 in
theorem C_X6_within (l : Launch) : Ct l yX6_within cX6_within 3 (some .boolean) 0 0 m_X6_within := Ct_of (y := yX6_within) (by decide +kernel) S_X6_within
set_option maxRecDepth 100000 in
set_option maxHeartbeats 4000000 in
theorem S_X6_record {l : Launch} : Sim l (fun _ => True) RX6 "record" cX6_record 2 none 0 0 [] b_X6_record 0 136 := by
  unfold b_X6_record
  refine Sim.sq (p1 := 1) (s_aload_n rfl dX6_record_0) ?_
  refine Sim.sq (p1 := 4) (s_geti (rfl : vwCl[6]? = some (RX6, TX6, 12)) (by decide) (by decide) inG6 kw703 rfl dX6_record_1) ?_
  refine Sim.sq (p1 := 6) (s_bipush (by decide +kernel) dX6_record_4) ?_
  refine Sim.sq (p1 := 50) (Sim.bk ?_) ?_
  · refine Sim.sq (p1 := 9) (s_icmp_ne dX6_record_6 (by decide) rfl) ?_
    refine Sim.sq (p1 := 10) (s_iconst (by decide +kernel) dX6_record_9) ?_
    refine Sim.sq (p1 := 11) (s_istore_n rfl (by decide) dX6_record_10) ?_
    refine Sim.sq (p1 := 40) (Sim.lp ?_) ?_
    · refine Sim.sq (p1 := 12) (s_iload_n rfl dX6_record_11) ?_
      refine Sim.sq (p1 := 15) (s_sipush (by decide +kernel) dX6_record_12) ?_
      refine Sim.bk ?_
      refine Sim.sq (p1 := 18) (s_icmp_ge dX6_record_15 (by decide) rfl) ?_
      refine Sim.sq (p1 := 19) (s_aload_n rfl dX6_record_18) ?_
      refine Sim.sq (p1 := 22) (s_getr (rfl : vwCl[6]? = some (RX6, TX6, 12)) (by decide) (by decide) inG6 kw702 rfl dX6_record_19) ?_
      refine Sim.sq (p1 := 23) (s_iload_n rfl dX6_record_22) ?_
      refine Sim.sq (p1 := 24) (s_aload_n rfl dX6_record_23) ?_
      refine Sim.sq (p1 := 27) (s_getr (rfl : vwCl[6]? = some (RX6, TX6, 12)) (by decide) (by decide) inG6 kw702 rfl dX6_record_24) ?_
      refine Sim.sq (p1 := 28) (s_iload_n rfl dX6_record_27) ?_
      refine Sim.sq (p1 := 31) (s_sipush (by decide +kernel) dX6_record_28) ?_
      refine Sim.sq (p1 := 32) (s_iadd dX6_record_31) ?_
      refine Sim.sq (p1 := 33) (s_iald dX6_record_32) ?_
      refine Sim.sq (p1 := 34) (s_iast dX6_record_33) ?_
      refine Sim.sq (p1 := 37) (s_iinc (by decide +kernel) (by decide) dX6_record_34) ?_
      exact (s_goto dX6_record_37 (by decide) rfl)
    refine Sim.sq (p1 := 41) (s_aload_n rfl dX6_record_40) ?_
    refine Sim.sq (p1 := 42) (s_dup dX6_record_41) ?_
    refine Sim.sq (p1 := 45) (s_geti (rfl : vwCl[6]? = some (RX6, TX6, 12)) (by decide) (by decide) inG6 kw703 rfl dX6_record_42) ?_
    refine Sim.sq (p1 := 46) (s_iconst (by decide +kernel) dX6_record_45) ?_
    refine Sim.sq (p1 := 47) (s_isub dX6_record_46) ?_
    exact (s_puti (rfl : vwCl[6]? = some (RX6, TX6, 12)) (by decide) (by decide) inG6 kw703 rfl tyX6 tyX6_ok nmX6 rfl (by decide +kernel) dX6_record_47)
  refine Sim.sq (p1 := 51) (s_iconst (by decide +kernel) dX6_record_50) ?_
  refine Sim.sq (p1 := 52) (s_istore_n rfl (by decide) dX6_record_51) ?_
  refine Sim.sq (p1 := 86) (Sim.lp ?_) ?_
  · refine Sim.sq (p1 := 53) (s_iload_n rfl dX6_record_52) ?_
    refine Sim.sq (p1 := 56) (s_sipush (by decide +kernel) dX6_record_53) ?_
    refine Sim.bk ?_
    refine Sim.sq (p1 := 59) (s_icmp_ge dX6_record_56 (by decide) rfl) ?_
    refine Sim.sq (p1 := 60) (s_aload_n rfl dX6_record_59) ?_
    refine Sim.sq (p1 := 63) (s_getr (rfl : vwCl[6]? = some (RX6, TX6, 12)) (by decide) (by decide) inG6 kw702 rfl dX6_record_60) ?_
    refine Sim.sq (p1 := 64) (s_aload_n rfl dX6_record_63) ?_
    refine Sim.sq (p1 := 67) (s_geti (rfl : vwCl[6]? = some (RX6, TX6, 12)) (by decide) (by decide) inG6 kw703 rfl dX6_record_64) ?_
    refine Sim.sq (p1 := 70) (s_sipush (by decide +kernel) dX6_record_67) ?_
    refine Sim.sq (p1 := 71) (s_imul dX6_record_70) ?_
    refine Sim.sq (p1 := 72) (s_iload_n rfl dX6_record_71) ?_
    refine Sim.sq (p1 := 73) (s_iadd dX6_record_72) ?_
    refine Sim.sq (p1 := 74) (s_aload_n rfl dX6_record_73) ?_
    refine Sim.sq (p1 := 77) (s_getr (rfl : vwCl[6]? = some (RX6, TX6, 12)) (by decide) (by decide) inG6 kw700 rfl dX6_record_74) ?_
    refine Sim.sq (p1 := 78) (s_iload_n rfl dX6_record_77) ?_
    refine Sim.sq (p1 := 79) (s_iald dX6_record_78) ?_
    refine Sim.sq (p1 := 80) (s_iast dX6_record_79) ?_
    refine Sim.sq (p1 := 83) (s_iinc (by decide +kernel) (by decide) dX6_record_80) ?_
    exact (s_goto dX6_record_83 (by decide) rfl)
  refine Sim.sq (p1 := 87) (s_iconst (by decide +kernel) dX6_record_86) ?_
  refine Sim.sq (p1 := 88) (s_istore_n rfl (by decide) dX6_record_87) ?_
  refine Sim.sq (p1 := 125) (Sim.lp ?_) ?_
  · refine Sim.sq (p1 := 89) (s_iload_n rfl dX6_record_88) ?_
    refine Sim.sq (p1 := 91) (s_bipush (by decide +kernel) dX6_record_89) ?_
    refine Sim.bk ?_
    refine Sim.sq (p1 := 94) (s_icmp_ge dX6_record_91 (by decide) rfl) ?_
    refine Sim.sq (p1 := 95) (s_aload_n rfl dX6_record_94) ?_
    refine Sim.sq (p1 := 98) (s_getr (rfl : vwCl[6]? = some (RX6, TX6, 12)) (by decide) (by decide) inG6 kw702 rfl dX6_record_95) ?_
    refine Sim.sq (p1 := 99) (s_aload_n rfl dX6_record_98) ?_
    refine Sim.sq (p1 := 102) (s_geti (rfl : vwCl[6]? = some (RX6, TX6, 12)) (by decide) (by decide) inG6 kw703 rfl dX6_record_99) ?_
    refine Sim.sq (p1 := 105) (s_sipush (by decide +kernel) dX6_record_102) ?_
    refine Sim.sq (p1 := 106) (s_imul dX6_record_105) ?_
    refine Sim.sq (p1 := 109) (s_sipush (by decide +kernel) dX6_record_106) ?_
    refine Sim.sq (p1 := 110) (s_iadd dX6_record_109) ?_
    refine Sim.sq (p1 := 111) (s_iload_n rfl dX6_record_110) ?_
    refine Sim.sq (p1 := 112) (s_iadd dX6_record_111) ?_
    refine Sim.sq (p1 := 113) (s_aload_n rfl dX6_record_112) ?_
    refine Sim.sq (p1 := 116) (s_getr (rfl : vwCl[6]? = some (RX6, TX6, 12)) (by decide) (by decide) inG6 kw701 rfl dX6_record_113) ?_
    refine Sim.sq (p1 := 117) (s_iload_n rfl dX6_record_116) ?_
    refine Sim.sq (p1 := 118) (s_iald dX6_record_117) ?_
    refine Sim.sq (p1 := 119) (s_iast dX6_record_118) ?_
    refine Sim.sq (p1 := 122) (s_iinc (by decide +kernel) (by decide) dX6_record_119) ?_
    exact (s_goto dX6_record_122 (by decide) rfl)
  refine Sim.sq (p1 := 126) (s_aload_n rfl dX6_record_125) ?_
  refine Sim.sq (p1 := 127) (s_dup dX6_record_126) ?_
  refine Sim.sq (p1 := 130) (s_geti (rfl : vwCl[6]? = some (RX6, TX6, 12)) (by decide) (by decide) inG6 kw703 rfl dX6_record_127) ?_
  refine Sim.sq (p1 := 131) (s_iconst (by decide +kernel) dX6_record_130) ?_
  refine Sim.sq (p1 := 132) (s_iadd dX6_record_131) ?_
  refine Sim.sq (p1 := 135) (s_puti (rfl : vwCl[6]? = some (RX6, TX6, 12)) (by decide) (by decide) inG6 kw703 rfl tyX6 tyX6_ok nmX6 rfl (by decide +kernel) dX6_record_132) ?_
  exact (s_vret rfl dX6_record_135)
set_option maxRecDepth 100000 in
set_option maxHeartbeats 4000000 in
theorem C_X6_record (l : Launch) : Ct l yX6_record cX6_record 2 none 0 0 m_X6_record := Ct_of (y := yX6_record) (by decide +kernel) S_X6_record
set_option maxRecDepth 100000 in
set_option maxHeartbeats 4000000 in
theorem S_X6_setLeafSize {l : Launch} : Sim l (fun _ => True) RX6 "setLeafSize" cX6_setLeafSize 3 (some .int) 1 22 [] b_X6_setLeafSize 0 33 := by
  unfold b_X6_setLeafSize
  refine Sim.sq (p1 := 1) (s_iload_n rfl dX6_setLeafSize_0) ?_
  refine Sim.sq (p1 := 2) (s_iconst (by decide +kernel) dX6_setLeafSize_1) ?_
  refine Sim.sq (p1 := 4) (s_bipush (by decide +kernel) dX6_setLeafSize_2) ?_
  refine Sim.sq (p1 := 7) (s_callS (y := yX6_within) (C_X6_within l) kw741 kw742 kw59 kw743 ⟨by decide +kernel, by decide +kernel, by decide +kernel⟩ ⟨by decide, by decide⟩ dX6_setLeafSize_4) ?_
  refine Sim.sq (p1 := 13) (Sim.bk ?_) ?_
  · refine Sim.sq (p1 := 10) (s_if_ne dX6_setLeafSize_7 (by decide) rfl) ?_
    refine Sim.sq (p1 := 12) (s_bipush (by decide +kernel) dX6_setLeafSize_10) ?_
    exact (s_iret rfl dX6_setLeafSize_12)
  refine Sim.sq (p1 := 14) (s_aload_n rfl dX6_setLeafSize_13) ?_
  refine Sim.sq (p1 := 17) (s_callV (C_X6_record l) (rfl : vwCl[6]? = some (RX6, TX6, 12)) (by decide) kw744 kw746 kw17 kw59 kw747 ⟨rfl, by decide +kernel, by decide +kernel, by decide +kernel⟩ ⟨by decide, by decide⟩ shN6 dX6_setLeafSize_14) ?_
  refine Sim.sq (p1 := 18) (s_aload_n rfl dX6_setLeafSize_17) ?_
  refine Sim.sq (p1 := 21) (s_getr (rfl : vwCl[6]? = some (RX6, TX6, 12)) (by decide) (by decide) inG6 kw701 rfl dX6_setLeafSize_18) ?_
  refine Sim.sq (p1 := 22) (s_iconst (by decide +kernel) dX6_setLeafSize_21) ?_
  refine Sim.sq (p1 := 23) (s_iald dX6_setLeafSize_22) ?_
  refine Sim.sq (p1 := 24) (s_istore_n rfl (by decide) dX6_setLeafSize_23) ?_
  refine Sim.sq (p1 := 25) (s_aload_n rfl dX6_setLeafSize_24) ?_
  refine Sim.sq (p1 := 28) (s_getr (rfl : vwCl[6]? = some (RX6, TX6, 12)) (by decide) (by decide) inG6 kw701 rfl dX6_setLeafSize_25) ?_
  refine Sim.sq (p1 := 29) (s_iconst (by decide +kernel) dX6_setLeafSize_28) ?_
  refine Sim.sq (p1 := 30) (s_iload_n rfl dX6_setLeafSize_29) ?_
  refine Sim.sq (p1 := 31) (s_iast dX6_setLeafSize_30) ?_
  refine Sim.sq (p1 := 32) (s_iload_n rfl dX6_setLeafSize_31) ?_
  exact (s_iret rfl dX6_setLeafSize_32)
set_option maxRecDepth 100000 in
set_option maxHeartbeats 4000000 in
theorem C_X6_setLeafSize (l : Launch) : Ct l yX6_setLeafSize cX6_setLeafSize 3 (some .int) 1 22 m_X6_setLeafSize := Ct_of (y := yX6_setLeafSize) (by decide +kernel) S_X6_setLeafSize
set_option maxRecDepth 100000 in
set_option maxHeartbeats 4000000 in
theorem S_X5_setBalancing {l : Launch} : Sim l (fun _ => True) RX5 "setBalancing" cX5_setBalancing 3 (some .int) 3 243 [] b_X5_setBalancing 0 41 := by
  unfold b_X5_setBalancing
  refine Sim.sq (p1 := 1) (s_iload_n rfl dX5_setBalancing_0) ?_
  refine Sim.sq (p1 := 12) (Sim.bk ?_) ?_
  · refine Sim.sq (p1 := 4) (s_if_eq dX5_setBalancing_1 (by decide) rfl) ?_
    refine Sim.sq (p1 := 5) (s_iload_n rfl dX5_setBalancing_4) ?_
    refine Sim.sq (p1 := 6) (s_iconst (by decide +kernel) dX5_setBalancing_5) ?_
    refine Sim.sq (p1 := 9) (s_icmp_eq dX5_setBalancing_6 (by decide) rfl) ?_
    refine Sim.sq (p1 := 11) (s_bipush (by decide +kernel) dX5_setBalancing_9) ?_
    exact (s_iret rfl dX5_setBalancing_11)
  refine Sim.sq (p1 := 13) (s_aload_n rfl dX5_setBalancing_12) ?_
  refine Sim.sq (p1 := 16) (s_getr (rfl : vwCl[5]? = some (RX5, TX5, 11)) (by decide) (by decide) inG5 kw234 rfl dX5_setBalancing_13) ?_
  refine Sim.sq (p1 := 19) (s_getiN (rfl : vwCl[2]? = some (RX2, TX2, 7)) (by decide) (by decide) inG2 kn190 rfl dX5_setBalancing_16) ?_
  refine Sim.sq (p1 := 20) (s_istore_n rfl (by decide) dX5_setBalancing_19) ?_
  refine Sim.sq (p1 := 21) (s_aload_n rfl dX5_setBalancing_20) ?_
  refine Sim.sq (p1 := 24) (s_getr (rfl : vwCl[5]? = some (RX5, TX5, 11)) (by decide) (by decide) inG5 kw235 rfl dX5_setBalancing_21) ?_
  refine Sim.sq (p1 := 25) (s_aload_n rfl dX5_setBalancing_24) ?_
  refine Sim.sq (p1 := 28) (s_getr (rfl : vwCl[5]? = some (RX5, TX5, 11)) (by decide) (by decide) inG5 kw234 rfl dX5_setBalancing_25) ?_
  refine Sim.sq (p1 := 31) (s_callV (C_X0_save l) (rfl : vwCl[0]? = some (RX0, TX0, 3)) (by decide) kw268 kw269 kw270 kw58 kw271 ⟨rfl, by decide +kernel, by decide +kernel, by decide +kernel⟩ ⟨by decide, by decide⟩ shN0 dX5_setBalancing_28) ?_
  refine Sim.sq (p1 := 32) (s_aload_n rfl dX5_setBalancing_31) ?_
  refine Sim.sq (p1 := 35) (s_getr (rfl : vwCl[5]? = some (RX5, TX5, 11)) (by decide) (by decide) inG5 kw234 rfl dX5_setBalancing_32) ?_
  refine Sim.sq (p1 := 36) (s_iload_n rfl dX5_setBalancing_35) ?_
  refine Sim.sq (p1 := 39) (s_putiN (rfl : vwCl[2]? = some (RX2, TX2, 7)) (by decide) (by decide) inG2 kn190 rfl tyX2 tyX2_ok nmX2 rfl (by decide +kernel) dX5_setBalancing_36) ?_
  refine Sim.sq (p1 := 40) (s_iload_n rfl dX5_setBalancing_39) ?_
  exact (s_iret rfl dX5_setBalancing_40)
set_option maxRecDepth 100000 in
set_option maxHeartbeats 4000000 in
theorem C_X5_setBalancing (l : Launch) : Ct l yX5_setBalancing cX5_setBalancing 3 (some .int) 3 243 m_X5_setBalancing := Ct_of (y := yX5_setBalancing) (by decide +kernel) S_X5_setBalancing
set_option maxRecDepth 100000 in
set_option maxHeartbeats 4000000 in
theorem S_X6_setBalancing {l : Launch} : Sim l (fun _ => True) RX6 "setBalancing" cX6_setBalancing 3 (some .int) 1 22 [] b_X6_setBalancing 0 32 := by
  unfold b_X6_setBalancing
  refine Sim.sq (p1 := 1) (s_iload_n rfl dX6_setBalancing_0) ?_
  refine Sim.sq (p1 := 2) (s_iconst (by decide +kernel) dX6_setBalancing_1) ?_
  refine Sim.sq (p1 := 3) (s_iconst (by decide +kernel) dX6_setBalancing_2) ?_
  refine Sim.sq (p1 := 6) (s_callS (y := yX6_within) (C_X6_within l) kw741 kw742 kw59 kw743 ⟨by decide +kernel, by decide +kernel, by decide +kernel⟩ ⟨by decide, by decide⟩ dX6_setBalancing_3) ?_
  refine Sim.sq (p1 := 12) (Sim.bk ?_) ?_
  · refine Sim.sq (p1 := 9) (s_if_ne dX6_setBalancing_6 (by decide) rfl) ?_
    refine Sim.sq (p1 := 11) (s_bipush (by decide +kernel) dX6_setBalancing_9) ?_
    exact (s_iret rfl dX6_setBalancing_11)
  refine Sim.sq (p1 := 13) (s_aload_n rfl dX6_setBalancing_12) ?_
  refine Sim.sq (p1 := 16) (s_callV (C_X6_record l) (rfl : vwCl[6]? = some (RX6, TX6, 12)) (by decide) kw744 kw746 kw17 kw59 kw747 ⟨rfl, by decide +kernel, by decide +kernel, by decide +kernel⟩ ⟨by decide, by decide⟩ shN6 dX6_setBalancing_13) ?_
  refine Sim.sq (p1 := 17) (s_aload_n rfl dX6_setBalancing_16) ?_
  refine Sim.sq (p1 := 20) (s_getr (rfl : vwCl[6]? = some (RX6, TX6, 12)) (by decide) (by decide) inG6 kw701 rfl dX6_setBalancing_17) ?_
  refine Sim.sq (p1 := 21) (s_iconst (by decide +kernel) dX6_setBalancing_20) ?_
  refine Sim.sq (p1 := 22) (s_iald dX6_setBalancing_21) ?_
  refine Sim.sq (p1 := 23) (s_istore_n rfl (by decide) dX6_setBalancing_22) ?_
  refine Sim.sq (p1 := 24) (s_aload_n rfl dX6_setBalancing_23) ?_
  refine Sim.sq (p1 := 27) (s_getr (rfl : vwCl[6]? = some (RX6, TX6, 12)) (by decide) (by decide) inG6 kw701 rfl dX6_setBalancing_24) ?_
  refine Sim.sq (p1 := 28) (s_iconst (by decide +kernel) dX6_setBalancing_27) ?_
  refine Sim.sq (p1 := 29) (s_iload_n rfl dX6_setBalancing_28) ?_
  refine Sim.sq (p1 := 30) (s_iast dX6_setBalancing_29) ?_
  refine Sim.sq (p1 := 31) (s_iload_n rfl dX6_setBalancing_30) ?_
  exact (s_iret rfl dX6_setBalancing_31)
set_option maxRecDepth 100000 in
set_option maxHeartbeats 4000000 in
theorem C_X6_setBalancing (l : Launch) : Ct l yX6_setBalancing cX6_setBalancing 3 (some .int) 1 22 m_X6_setBalancing := Ct_of (y := yX6_setBalancing) (by decide +kernel) S_X6_setBalancing
set_option maxRecDepth 100000 in
set_option maxHeartbeats 4000000 in
theorem S_X5_type {l : Launch} : Sim l (fun _ => True) RX5 "type" cX5_type 2 (some .int) 0 0 [] b_X5_type 0 68 := by
  unfold b_X5_type
  refine Sim.sq (p1 := 1) (s_iload_n rfl dX5_type_0) ?_
  refine Sim.sq (p1 := 3) (s_bipush (by decide +kernel) dX5_type_1) ?_
  refine Sim.sq (p1 := 21) (Sim.bk ?_) ?_
  · refine Sim.sq (p1 := 6) (s_icmp_eq dX5_type_3 (by decide) rfl) ?_
    refine Sim.sq (p1 := 7) (s_iload_n rfl dX5_type_6) ?_
    refine Sim.sq (p1 := 9) (s_bipush (by decide +kernel) dX5_type_7) ?_
    refine Sim.sq (p1 := 18) (Sim.bk ?_) ?_
    · refine Sim.sq (p1 := 12) (s_icmp_lt dX5_type_9 (by decide) rfl) ?_
      refine Sim.sq (p1 := 13) (s_iload_n rfl dX5_type_12) ?_
      refine Sim.sq (p1 := 15) (s_bipush (by decide +kernel) dX5_type_13) ?_
      exact (s_icmp_le dX5_type_15 (by decide) rfl)
    refine Sim.sq (p1 := 20) (s_bipush (by decide +kernel) dX5_type_18) ?_
    exact (s_iret rfl dX5_type_20)
  refine Sim.sq (p1 := 22) (s_aload_n rfl dX5_type_21) ?_
  refine Sim.sq (p1 := 25) (s_geti (rfl : vwCl[5]? = some (RX5, TX5, 11)) (by decide) (by decide) inG5 kw239 rfl dX5_type_22) ?_
  refine Sim.sq (p1 := 43) (Sim.bk ?_) ?_
  · refine Sim.sq (p1 := 40) (Sim.bk ?_) ?_
    · refine Sim.sq (p1 := 28) (s_if_lt dX5_type_25 (by decide) rfl) ?_
      refine Sim.sq (p1 := 29) (s_aload_n rfl dX5_type_28) ?_
      refine Sim.sq (p1 := 32) (s_geti (rfl : vwCl[5]? = some (RX5, TX5, 11)) (by decide) (by decide) inG5 kw239 rfl dX5_type_29) ?_
      refine Sim.sq (p1 := 33) (s_aload_n rfl dX5_type_32) ?_
      refine Sim.sq (p1 := 36) (s_getr (rfl : vwCl[5]? = some (RX5, TX5, 11)) (by decide) (by decide) inG5 kw238 rfl dX5_type_33) ?_
      refine Sim.sq (p1 := 37) (s_alen dX5_type_36) ?_
      exact (s_icmp_lt dX5_type_37 (by decide) rfl)
    refine Sim.sq (p1 := 42) (s_bipush (by decide +kernel) dX5_type_40) ?_
    exact (s_iret rfl dX5_type_42)
  refine Sim.sq (p1 := 44) (s_aload_n rfl dX5_type_43) ?_
  refine Sim.sq (p1 := 47) (s_getr (rfl : vwCl[5]? = some (RX5, TX5, 11)) (by decide) (by decide) inG5 kw238 rfl dX5_type_44) ?_
  refine Sim.sq (p1 := 48) (s_aload_n rfl dX5_type_47) ?_
  refine Sim.sq (p1 := 51) (s_geti (rfl : vwCl[5]? = some (RX5, TX5, 11)) (by decide) (by decide) inG5 kw239 rfl dX5_type_48) ?_
  refine Sim.sq (p1 := 52) (s_iload_n rfl dX5_type_51) ?_
  refine Sim.sq (p1 := 53) (s_iast dX5_type_52) ?_
  refine Sim.sq (p1 := 54) (s_aload_n rfl dX5_type_53) ?_
  refine Sim.sq (p1 := 55) (s_dup dX5_type_54) ?_
  refine Sim.sq (p1 := 58) (s_geti (rfl : vwCl[5]? = some (RX5, TX5, 11)) (by decide) (by decide) inG5 kw239 rfl dX5_type_55) ?_
  refine Sim.sq (p1 := 59) (s_iconst (by decide +kernel) dX5_type_58) ?_
  refine Sim.sq (p1 := 60) (s_iadd dX5_type_59) ?_
  refine Sim.sq (p1 := 63) (s_puti (rfl : vwCl[5]? = some (RX5, TX5, 11)) (by decide) (by decide) inG5 kw239 rfl tyX5 tyX5_ok nmX5 rfl (by decide +kernel) dX5_type_60) ?_
  refine Sim.sq (p1 := 64) (s_aload_n rfl dX5_type_63) ?_
  refine Sim.sq (p1 := 67) (s_geti (rfl : vwCl[5]? = some (RX5, TX5, 11)) (by decide) (by decide) inG5 kw239 rfl dX5_type_64) ?_
  exact (s_iret rfl dX5_type_67)
set_option maxRecDepth 100000 in
set_option maxHeartbeats 4000000 in
theorem C_X5_type (l : Launch) : Ct l yX5_type cX5_type 2 (some .int) 0 0 m_X5_type := Ct_of (y := yX5_type) (by decide +kernel) S_X5_type
set_option maxRecDepth 100000 in
set_option maxHeartbeats 4000000 in
theorem S_X6_type {l : Launch} : Sim l (fun _ => True) RX6 "type" cX6_type 2 (some .int) 1 22 [] b_X6_type 0 57 := by
  unfold b_X6_type
  refine Sim.sq (p1 := 1) (s_iload_n rfl dX6_type_0) ?_
  refine Sim.sq (p1 := 3) (s_bipush (by decide +kernel) dX6_type_1) ?_
  refine Sim.sq (p1 := 5) (s_bipush (by decide +kernel) dX6_type_3) ?_
  refine Sim.sq (p1 := 8) (s_callS (y := yX6_within) (C_X6_within l) kw741 kw742 kw59 kw743 ⟨by decide +kernel, by decide +kernel, by decide +kernel⟩ ⟨by decide, by decide⟩ dX6_type_5) ?_
  refine Sim.sq (p1 := 20) (Sim.bk ?_) ?_
  · refine Sim.sq (p1 := 11) (s_if_ne dX6_type_8 (by decide) rfl) ?_
    refine Sim.sq (p1 := 12) (s_iload_n rfl dX6_type_11) ?_
    refine Sim.sq (p1 := 14) (s_bipush (by decide +kernel) dX6_type_12) ?_
    refine Sim.sq (p1 := 17) (s_icmp_eq dX6_type_14 (by decide) rfl) ?_
    refine Sim.sq (p1 := 19) (s_bipush (by decide +kernel) dX6_type_17) ?_
    exact (s_iret rfl dX6_type_19)
  refine Sim.sq (p1 := 21) (s_aload_n rfl dX6_type_20) ?_
  refine Sim.sq (p1 := 24) (s_geti (rfl : vwCl[6]? = some (RX6, TX6, 12)) (by decide) (by decide) inG6 kw706 rfl dX6_type_21) ?_
  refine Sim.sq (p1 := 26) (s_bipush (by decide +kernel) dX6_type_24) ?_
  refine Sim.sq (p1 := 32) (Sim.bk ?_) ?_
  · refine Sim.sq (p1 := 29) (s_icmp_ne dX6_type_26 (by decide) rfl) ?_
    refine Sim.sq (p1 := 31) (s_bipush (by decide +kernel) dX6_type_29) ?_
    exact (s_iret rfl dX6_type_31)
  refine Sim.sq (p1 := 33) (s_aload_n rfl dX6_type_32) ?_
  refine Sim.sq (p1 := 36) (s_getr (rfl : vwCl[6]? = some (RX6, TX6, 12)) (by decide) (by decide) inG6 kw705 rfl dX6_type_33) ?_
  refine Sim.sq (p1 := 37) (s_aload_n rfl dX6_type_36) ?_
  refine Sim.sq (p1 := 40) (s_geti (rfl : vwCl[6]? = some (RX6, TX6, 12)) (by decide) (by decide) inG6 kw706 rfl dX6_type_37) ?_
  refine Sim.sq (p1 := 41) (s_iload_n rfl dX6_type_40) ?_
  refine Sim.sq (p1 := 42) (s_iast dX6_type_41) ?_
  refine Sim.sq (p1 := 43) (s_aload_n rfl dX6_type_42) ?_
  refine Sim.sq (p1 := 44) (s_dup dX6_type_43) ?_
  refine Sim.sq (p1 := 47) (s_geti (rfl : vwCl[6]? = some (RX6, TX6, 12)) (by decide) (by decide) inG6 kw706 rfl dX6_type_44) ?_
  refine Sim.sq (p1 := 48) (s_iconst (by decide +kernel) dX6_type_47) ?_
  refine Sim.sq (p1 := 49) (s_iadd dX6_type_48) ?_
  refine Sim.sq (p1 := 52) (s_puti (rfl : vwCl[6]? = some (RX6, TX6, 12)) (by decide) (by decide) inG6 kw706 rfl tyX6 tyX6_ok nmX6 rfl (by decide +kernel) dX6_type_49) ?_
  refine Sim.sq (p1 := 53) (s_aload_n rfl dX6_type_52) ?_
  refine Sim.sq (p1 := 56) (s_geti (rfl : vwCl[6]? = some (RX6, TX6, 12)) (by decide) (by decide) inG6 kw706 rfl dX6_type_53) ?_
  exact (s_iret rfl dX6_type_56)
set_option maxRecDepth 100000 in
set_option maxHeartbeats 4000000 in
theorem C_X6_type (l : Launch) : Ct l yX6_type cX6_type 2 (some .int) 1 22 m_X6_type := Ct_of (y := yX6_type) (by decide +kernel) S_X6_type
set_option maxRecDepth 100000 in
set_option maxHeartbeats 4000000 in
theorem S_X5_clearBuffer {l : Launch} : Sim l (fun _ => True) RX5 "clearBuffer" cX5_clearBuffer 2 (some .int) 0 0 [] b_X5_clearBuffer 0 12 := by
  unfold b_X5_clearBuffer
  refine Sim.sq (p1 := 1) (s_aload_n rfl dX5_clearBuffer_0) ?_
  refine Sim.sq (p1 := 4) (s_geti (rfl : vwCl[5]? = some (RX5, TX5, 11)) (by decide) (by decide) inG5 kw239 rfl dX5_clearBuffer_1) ?_
  refine Sim.sq (p1 := 5) (s_istore_n rfl (by decide) dX5_clearBuffer_4) ?_
  refine Sim.sq (p1 := 6) (s_aload_n rfl dX5_clearBuffer_5) ?_
  refine Sim.sq (p1 := 7) (s_iconst (by decide +kernel) dX5_clearBuffer_6) ?_
  refine Sim.sq (p1 := 10) (s_puti (rfl : vwCl[5]? = some (RX5, TX5, 11)) (by decide) (by decide) inG5 kw239 rfl tyX5 tyX5_ok nmX5 rfl (by decide +kernel) dX5_clearBuffer_7) ?_
  refine Sim.sq (p1 := 11) (s_iload_n rfl dX5_clearBuffer_10) ?_
  exact (s_iret rfl dX5_clearBuffer_11)
set_option maxRecDepth 100000 in
set_option maxHeartbeats 4000000 in
theorem C_X5_clearBuffer (l : Launch) : Ct l yX5_clearBuffer cX5_clearBuffer 2 (some .int) 0 0 m_X5_clearBuffer := Ct_of (y := yX5_clearBuffer) (by decide +kernel) S_X5_clearBuffer
set_option maxRecDepth 100000 in
set_option maxHeartbeats 4000000 in
theorem S_X6_clearBuffer {l : Launch} : Sim l (fun _ => True) RX6 "clearBuffer" cX6_clearBuffer 2 (some .int) 0 0 [] b_X6_clearBuffer 0 12 := by
  unfold b_X6_clearBuffer
  refine Sim.sq (p1 := 1) (s_aload_n rfl dX6_clearBuffer_0) ?_
  refine Sim.sq (p1 := 4) (s_geti (rfl : vwCl[6]? = some (RX6, TX6, 12)) (by decide) (by decide) inG6 kw706 rfl dX6_clearBuffer_1) ?_
  refine Sim.sq (p1 := 5) (s_istore_n rfl (by decide) dX6_clearBuffer_4) ?_
  refine Sim.sq (p1 := 6) (s_aload_n rfl dX6_clearBuffer_5) ?_
  refine Sim.sq (p1 := 7) (s_iconst (by decide +kernel) dX6_clearBuffer_6) ?_
  refine Sim.sq (p1 := 10) (s_puti (rfl : vwCl[6]? = some (RX6, TX6, 12)) (by decide) (by decide) inG6 kw706 rfl tyX6 tyX6_ok nmX6 rfl (by decide +kernel) dX6_clearBuffer_7) ?_
  refine Sim.sq (p1 := 11) (s_iload_n rfl dX6_clearBuffer_10) ?_
  exact (s_iret rfl dX6_clearBuffer_11)
set_option maxRecDepth 100000 in
set_option maxHeartbeats 4000000 in
theorem C_X6_clearBuffer (l : Launch) : Ct l yX6_clearBuffer cX6_clearBuffer 2 (some .int) 0 0 m_X6_clearBuffer := Ct_of (y := yX6_clearBuffer) (by decide +kernel) S_X6_clearBuffer
set_option maxRecDepth 100000 in
set_option maxHeartbeats 4000000 in
theorem S_X1_sizeOf {l : Launch} : Sim l (fun _ => True) RX1 "sizeOf" cX1_sizeOf 2 (some .int) 0 0 [] b_X1_sizeOf 0 22 := by
  unfold b_X1_sizeOf
  refine Sim.sq (p1 := 1) (s_iload_n rfl dX1_sizeOf_0) ?_
  refine Sim.sq (p1 := 21) (Sim.bk ?_) ?_
  · refine Sim.sq (p1 := 20) (Sim.bk ?_) ?_
    · refine Sim.sq (p1 := 4) (s_if_le dX1_sizeOf_1 (by decide) rfl) ?_
      refine Sim.sq (p1 := 5) (s_iload_n rfl dX1_sizeOf_4) ?_
      refine Sim.sq (p1 := 8) (s_sipush (by decide +kernel) dX1_sizeOf_5) ?_
      refine Sim.sq (p1 := 11) (s_icmp_ge dX1_sizeOf_8 (by decide) rfl) ?_
      refine Sim.sq (p1 := 12) (s_aload_n rfl dX1_sizeOf_11) ?_
      refine Sim.sq (p1 := 15) (s_getr (rfl : vwCl[1]? = some (RX1, TX1, 10)) (by decide) (by decide) inG1 kw84 rfl dX1_sizeOf_12) ?_
      refine Sim.sq (p1 := 16) (s_iload_n rfl dX1_sizeOf_15) ?_
      refine Sim.sq (p1 := 17) (s_iald dX1_sizeOf_16) ?_
      exact (s_goto dX1_sizeOf_17 (by decide) rfl)
    exact (s_iconst (by decide +kernel) dX1_sizeOf_20)
  exact (s_iret rfl dX1_sizeOf_21)
set_option maxRecDepth 100000 in
set_option maxHeartbeats 4000000 in
theorem C_X1_sizeOf (l : Launch) : Ct l yX1_sizeOf cX1_sizeOf 2 (some .int) 0 0 m_X1_sizeOf := Ct_of (y := yX1_sizeOf) (by decide +kernel) S_X1_sizeOf
set_option maxRecDepth 100000 in
set_option maxHeartbeats 4000000 in
theorem S_X5_length {l : Launch} : Sim l (fun _ => True) RX5 "length" cX5_length 1 (some .int) 1 21 [] b_X5_length 0 15 := by
  unfold b_X5_length
  refine Sim.sq (p1 := 1) (s_aload_n rfl dX5_length_0) ?_
  refine Sim.sq (p1 := 4) (s_getr (rfl : vwCl[5]? = some (RX5, TX5, 11)) (by decide) (by decide) inG5 kw231 rfl dX5_length_1) ?_
  refine Sim.sq (p1 := 5) (s_aload_n rfl dX5_length_4) ?_
  refine Sim.sq (p1 := 8) (s_getr (rfl : vwCl[5]? = some (RX5, TX5, 11)) (by decide) (by decide) inG5 kw234 rfl dX5_length_5) ?_
  refine Sim.sq (p1 := 11) (s_getiN (rfl : vwCl[2]? = some (RX2, TX2, 7)) (by decide) (by decide) inG2 kn192 rfl dX5_length_8) ?_
  refine Sim.sq (p1 := 14) (s_callV (C_X1_sizeOf l) (rfl : vwCl[1]? = some (RX1, TX1, 10)) (by decide) kw310 kw311 kw312 kw54 kw313 ⟨rfl, by decide +kernel, by decide +kernel, by decide +kernel⟩ ⟨by decide, by decide⟩ shN1 dX5_length_11) ?_
  exact (s_iret rfl dX5_length_14)
set_option maxRecDepth 100000 in
set_option maxHeartbeats 4000000 in
theorem C_X5_length (l : Launch) : Ct l yX5_length cX5_length 1 (some .int) 1 21 m_X5_length := Ct_of (y := yX5_length) (by decide +kernel) S_X5_length
set_option maxRecDepth 100000 in
set_option maxHeartbeats 4000000 in
theorem S_X5_isPosition {l : Launch} : Sim l (fun _ => True) RX5 "isPosition" cX5_isPosition 2 (some .boolean) 2 41 [] b_X5_isPosition 0 18 := by
  unfold b_X5_isPosition
  refine Sim.sq (p1 := 1) (s_iload_n rfl dX5_isPosition_0) ?_
  refine Sim.sq (p1 := 17) (Sim.bk ?_) ?_
  · refine Sim.sq (p1 := 16) (Sim.bk ?_) ?_
    · refine Sim.sq (p1 := 4) (s_if_lt dX5_isPosition_1 (by decide) rfl) ?_
      refine Sim.sq (p1 := 5) (s_iload_n rfl dX5_isPosition_4) ?_
      refine Sim.sq (p1 := 6) (s_aload_n rfl dX5_isPosition_5) ?_
      refine Sim.sq (p1 := 9) (s_callV (C_X5_length l) (rfl : vwCl[5]? = some (RX5, TX5, 11)) (by decide) kw306 kw307 kw308 kw52 kw309 ⟨rfl, by decide +kernel, by decide +kernel, by decide +kernel⟩ ⟨by decide, by decide⟩ shN5 dX5_isPosition_6) ?_
      refine Sim.sq (p1 := 12) (s_icmp_gt dX5_isPosition_9 (by decide) rfl) ?_
      refine Sim.sq (p1 := 13) (s_iconst (by decide +kernel) dX5_isPosition_12) ?_
      exact (s_goto dX5_isPosition_13 (by decide) rfl)
    exact (s_iconst (by decide +kernel) dX5_isPosition_16)
  exact (s_zret rfl dX5_isPosition_17)
set_option maxRecDepth 100000 in
set_option maxHeartbeats 4000000 in
theorem C_X5_isPosition (l : Launch) : Ct l yX5_isPosition cX5_isPosition 2 (some .boolean) 2 41 m_X5_isPosition := Ct_of (y := yX5_isPosition) (by decide +kernel) S_X5_isPosition
set_option maxRecDepth 100000 in
set_option maxHeartbeats 4000000 in
theorem S_X1_startCollection {l : Launch} : Sim l (fun _ => True) RX1 "startCollection" cX1_startCollection 2 none 0 0 [] b_X1_startCollection 0 23 := by
  unfold b_X1_startCollection
  refine Sim.sq (p1 := 1) (s_iconst (by decide +kernel) dX1_startCollection_0) ?_
  refine Sim.sq (p1 := 2) (s_istore_n rfl (by decide) dX1_startCollection_1) ?_
  refine Sim.sq (p1 := 22) (Sim.lp ?_) ?_
  · refine Sim.sq (p1 := 3) (s_iload_n rfl dX1_startCollection_2) ?_
    refine Sim.sq (p1 := 6) (s_sipush (by decide +kernel) dX1_startCollection_3) ?_
    refine Sim.bk ?_
    refine Sim.sq (p1 := 9) (s_icmp_ge dX1_startCollection_6 (by decide) rfl) ?_
    refine Sim.sq (p1 := 10) (s_aload_n rfl dX1_startCollection_9) ?_
    refine Sim.sq (p1 := 13) (s_getr (rfl : vwCl[1]? = some (RX1, TX1, 10)) (by decide) (by decide) inG1 kw88 rfl dX1_startCollection_10) ?_
    refine Sim.sq (p1 := 14) (s_iload_n rfl dX1_startCollection_13) ?_
    refine Sim.sq (p1 := 15) (s_iconst (by decide +kernel) dX1_startCollection_14) ?_
    refine Sim.sq (p1 := 16) (s_zast dX1_startCollection_15) ?_
    refine Sim.sq (p1 := 19) (s_iinc (by decide +kernel) (by decide) dX1_startCollection_16) ?_
    exact (s_goto dX1_startCollection_19 (by decide) rfl)
  exact (s_vret rfl dX1_startCollection_22)
set_option maxRecDepth 100000 in
set_option maxHeartbeats 4000000 in
theorem C_X1_startCollection (l : Launch) : Ct l yX1_startCollection cX1_startCollection 2 none 0 0 m_X1_startCollection := Ct_of (y := yX1_startCollection) (by decide +kernel) S_X1_startCollection
set_option maxRecDepth 100000 in
set_option maxHeartbeats 4000000 in
theorem S_X1_retain {l : Launch} : Sim l (fun _ => True) RX1 "retain" cX1_retain 5 none 0 0 [] b_X1_retain 0 100 := by
  unfold b_X1_retain b_X1_retain_t0 b_X1_retain_l0
  refine Sim.sq (p1 := 1) (s_iload_n rfl dX1_retain_0) ?_
  refine Sim.sq (p1 := 2) (s_istore_n rfl (by decide) dX1_retain_1) ?_
  refine Sim.sq (p1 := 3) (s_iconst (by decide +kernel) dX1_retain_2) ?_
  refine Sim.sq (p1 := 4) (s_istore_n rfl (by decide) dX1_retain_3) ?_
  refine Sim.sq (p1 := 5) (s_iconst (by decide +kernel) dX1_retain_4) ?_
  refine Sim.sq (p1 := 7) (s_istore (by decide) dX1_retain_5) ?_
  refine Sim.sq (p1 := 99) (Sim.lp ?_) ?_
  · refine Sim.sq (p1 := 9) (s_iload dX1_retain_7) ?_
    refine Sim.sq (p1 := 11) (s_ldc kw334 dX1_retain_9) ?_
    refine Sim.bk ?_
    refine Sim.sq (p1 := 14) (s_icmp_ge dX1_retain_11 (by decide) rfl) ?_
    refine Sim.sq (p1 := 15) (s_iload_n rfl dX1_retain_14) ?_
    refine Sim.sq (p1 := 93) (Sim.bk ?_) ?_
    · refine Sim.sq (p1 := 75) (Sim.bk ?_) ?_
      · refine Sim.sq (p1 := 18) (s_if_le dX1_retain_15 (by decide) rfl) ?_
        refine Sim.sq (p1 := 19) (s_iload_n rfl dX1_retain_18) ?_
        refine Sim.sq (p1 := 22) (s_sipush (by decide +kernel) dX1_retain_19) ?_
        refine Sim.sq (p1 := 25) (s_icmp_ge dX1_retain_22 (by decide) rfl) ?_
        refine Sim.sq (p1 := 26) (s_aload_n rfl dX1_retain_25) ?_
        refine Sim.sq (p1 := 29) (s_getr (rfl : vwCl[1]? = some (RX1, TX1, 10)) (by decide) (by decide) inG1 kw88 rfl dX1_retain_26) ?_
        refine Sim.sq (p1 := 30) (s_iload_n rfl dX1_retain_29) ?_
        refine Sim.sq (p1 := 31) (s_zald dX1_retain_30) ?_
        refine Sim.sq (p1 := 34) (s_if_ne dX1_retain_31 (by decide) rfl) ?_
        refine Sim.sq (p1 := 35) (s_aload_n rfl dX1_retain_34) ?_
        refine Sim.sq (p1 := 38) (s_getr (rfl : vwCl[1]? = some (RX1, TX1, 10)) (by decide) (by decide) inG1 kw88 rfl dX1_retain_35) ?_
        refine Sim.sq (p1 := 39) (s_iload_n rfl dX1_retain_38) ?_
        refine Sim.sq (p1 := 40) (s_iconst (by decide +kernel) dX1_retain_39) ?_
        refine Sim.sq (p1 := 41) (s_zast dX1_retain_40) ?_
        refine Sim.sq (p1 := 42) (s_iload_n rfl dX1_retain_41) ?_
        refine Sim.sq (p1 := 43) (s_aload_n rfl dX1_retain_42) ?_
        refine Sim.sq (p1 := 46) (s_getr (rfl : vwCl[1]? = some (RX1, TX1, 10)) (by decide) (by decide) inG1 kw92 rfl dX1_retain_43) ?_
        refine Sim.sq (p1 := 47) (s_alen dX1_retain_46) ?_
        refine Sim.sq (p1 := 65) (Sim.bk ?_) ?_
        · refine Sim.sq (p1 := 50) (s_icmp_ge dX1_retain_47 (by decide) rfl) ?_
          refine Sim.sq (p1 := 51) (s_aload_n rfl dX1_retain_50) ?_
          refine Sim.sq (p1 := 54) (s_getr (rfl : vwCl[1]? = some (RX1, TX1, 10)) (by decide) (by decide) inG1 kw92 rfl dX1_retain_51) ?_
          refine Sim.sq (p1 := 55) (s_iload_n rfl dX1_retain_54) ?_
          refine Sim.sq (p1 := 56) (s_aload_n rfl dX1_retain_55) ?_
          refine Sim.sq (p1 := 59) (s_getr (rfl : vwCl[1]? = some (RX1, TX1, 10)) (by decide) (by decide) inG1 kw83 rfl dX1_retain_56) ?_
          refine Sim.sq (p1 := 60) (s_iload_n rfl dX1_retain_59) ?_
          refine Sim.sq (p1 := 61) (s_iald dX1_retain_60) ?_
          refine Sim.sq (p1 := 62) (s_iast dX1_retain_61) ?_
          exact (s_iinc (by decide +kernel) (by decide) dX1_retain_62)
        refine Sim.sq (p1 := 66) (s_aload_n rfl dX1_retain_65) ?_
        refine Sim.sq (p1 := 69) (s_getr (rfl : vwCl[1]? = some (RX1, TX1, 10)) (by decide) (by decide) inG1 kw82 rfl dX1_retain_66) ?_
        refine Sim.sq (p1 := 70) (s_iload_n rfl dX1_retain_69) ?_
        refine Sim.sq (p1 := 71) (s_iald dX1_retain_70) ?_
        refine Sim.sq (p1 := 72) (s_istore_n rfl (by decide) dX1_retain_71) ?_
        exact (s_goto dX1_retain_72 (by decide) rfl)
      refine Sim.sq (p1 := 76) (s_iload_n rfl dX1_retain_75) ?_
      refine Sim.sq (p1 := 92) (Sim.bk ?_) ?_
      · refine Sim.sq (p1 := 79) (s_if_le dX1_retain_76 (by decide) rfl) ?_
        refine Sim.sq (p1 := 82) (s_iinc (by decide +kernel) (by decide) dX1_retain_79) ?_
        refine Sim.sq (p1 := 83) (s_aload_n rfl dX1_retain_82) ?_
        refine Sim.sq (p1 := 86) (s_getr (rfl : vwCl[1]? = some (RX1, TX1, 10)) (by decide) (by decide) inG1 kw92 rfl dX1_retain_83) ?_
        refine Sim.sq (p1 := 87) (s_iload_n rfl dX1_retain_86) ?_
        refine Sim.sq (p1 := 88) (s_iald dX1_retain_87) ?_
        refine Sim.sq (p1 := 89) (s_istore_n rfl (by decide) dX1_retain_88) ?_
        exact (s_goto dX1_retain_89 (by decide) rfl)
      exact (s_vret rfl dX1_retain_92)
    refine Sim.sq (p1 := 96) (s_iinc (by decide +kernel) (by decide) dX1_retain_93) ?_
    exact (s_goto dX1_retain_96 (by decide) rfl)
  exact (s_vret rfl dX1_retain_99)
set_option maxRecDepth 100000 in
set_option maxHeartbeats 4000000 in
theorem C_X1_retain (l : Launch) : Ct l yX1_retain cX1_retain 5 none 0 0 m_X1_retain := Ct_of (y := yX1_retain) (by decide +kernel) S_X1_retain
set_option maxRecDepth 100000 in
set_option maxHeartbeats 4000000 in
theorem S_X2_hasInRing {l : Launch} : Sim l (fun _ => True) RX2 "hasInRing" cX2_hasInRing 2 (some .boolean) 0 0 [] b_X2_hasInRing 0 18 := by
  unfold b_X2_hasInRing
  refine Sim.sq (p1 := 1) (s_iload_n rfl dX2_hasInRing_0) ?_
  refine Sim.sq (p1 := 17) (Sim.bk ?_) ?_
  · refine Sim.sq (p1 := 16) (Sim.bk ?_) ?_
    · refine Sim.sq (p1 := 4) (s_if_lt dX2_hasInRing_1 (by decide) rfl) ?_
      refine Sim.sq (p1 := 5) (s_iload_n rfl dX2_hasInRing_4) ?_
      refine Sim.sq (p1 := 6) (s_aload_n rfl dX2_hasInRing_5) ?_
      refine Sim.sq (p1 := 9) (s_geti (rfl : vwCl[2]? = some (RX2, TX2, 7)) (by decide) (by decide) inG2 kw185 rfl dX2_hasInRing_6) ?_
      refine Sim.sq (p1 := 12) (s_icmp_ge dX2_hasInRing_9 (by decide) rfl) ?_
      refine Sim.sq (p1 := 13) (s_iconst (by decide +kernel) dX2_hasInRing_12) ?_
      exact (s_goto dX2_hasInRing_13 (by decide) rfl)
    exact (s_iconst (by decide +kernel) dX2_hasInRing_16)
  exact (s_zret rfl dX2_hasInRing_17)
set_option maxRecDepth 100000 in
set_option maxHeartbeats 4000000 in
theorem C_X2_hasInRing (l : Launch) : Ct l yX2_hasInRing cX2_hasInRing 2 (some .boolean) 0 0 m_X2_hasInRing := Ct_of (y := yX2_hasInRing) (by decide +kernel) S_X2_hasInRing
set_option maxRecDepth 100000 in
set_option maxHeartbeats 4000000 in
theorem S_X2_ropeOfRing {l : Launch} : Sim l (fun _ => True) RX2 "ropeOfRing" cX2_ropeOfRing 2 (some .int) 1 21 [] b_X2_ropeOfRing 0 28 := by
  unfold b_X2_ropeOfRing
  refine Sim.sq (p1 := 1) (s_aload_n rfl dX2_ropeOfRing_0) ?_
  refine Sim.sq (p1 := 2) (s_iload_n rfl dX2_ropeOfRing_1) ?_
  refine Sim.sq (p1 := 5) (s_callV (C_X2_hasInRing l) (rfl : vwCl[2]? = some (RX2, TX2, 7)) (by decide) kw339 kw340 kw341 kw56 kw342 ⟨rfl, by decide +kernel, by decide +kernel, by decide +kernel⟩ ⟨by decide, by decide⟩ shN2 dX2_ropeOfRing_2) ?_
  refine Sim.sq (p1 := 27) (Sim.bk ?_) ?_
  · refine Sim.sq (p1 := 26) (Sim.bk ?_) ?_
    · refine Sim.sq (p1 := 8) (s_if_eq dX2_ropeOfRing_5 (by decide) rfl) ?_
      refine Sim.sq (p1 := 9) (s_iload_n rfl dX2_ropeOfRing_8) ?_
      refine Sim.sq (p1 := 10) (s_aload_n rfl dX2_ropeOfRing_9) ?_
      refine Sim.sq (p1 := 13) (s_getr (rfl : vwCl[2]? = some (RX2, TX2, 7)) (by decide) (by decide) inG2 kw184 rfl dX2_ropeOfRing_10) ?_
      refine Sim.sq (p1 := 14) (s_alen dX2_ropeOfRing_13) ?_
      refine Sim.sq (p1 := 17) (s_icmp_ge dX2_ropeOfRing_14 (by decide) rfl) ?_
      refine Sim.sq (p1 := 18) (s_aload_n rfl dX2_ropeOfRing_17) ?_
      refine Sim.sq (p1 := 21) (s_getr (rfl : vwCl[2]? = some (RX2, TX2, 7)) (by decide) (by decide) inG2 kw184 rfl dX2_ropeOfRing_18) ?_
      refine Sim.sq (p1 := 22) (s_iload_n rfl dX2_ropeOfRing_21) ?_
      refine Sim.sq (p1 := 23) (s_iald dX2_ropeOfRing_22) ?_
      exact (s_goto dX2_ropeOfRing_23 (by decide) rfl)
    exact (s_iconst (by decide +kernel) dX2_ropeOfRing_26)
  exact (s_iret rfl dX2_ropeOfRing_27)
set_option maxRecDepth 100000 in
set_option maxHeartbeats 4000000 in
theorem C_X2_ropeOfRing (l : Launch) : Ct l yX2_ropeOfRing cX2_ropeOfRing 2 (some .int) 1 21 m_X2_ropeOfRing := Ct_of (y := yX2_ropeOfRing) (by decide +kernel) S_X2_ropeOfRing
set_option maxRecDepth 100000 in
set_option maxHeartbeats 4000000 in
theorem S_X5_retainState {l : Launch} : Sim l (fun _ => True) RX5 "retainState" cX5_retainState 3 none 2 42 [] b_X5_retainState 0 45 := by
  unfold b_X5_retainState
  refine Sim.sq (p1 := 1) (s_aload_n rfl dX5_retainState_0) ?_
  refine Sim.sq (p1 := 4) (s_getr (rfl : vwCl[5]? = some (RX5, TX5, 11)) (by decide) (by decide) inG5 kw231 rfl dX5_retainState_1) ?_
  refine Sim.sq (p1 := 5) (s_aload_n rfl dX5_retainState_4) ?_
  refine Sim.sq (p1 := 8) (s_getiN (rfl : vwCl[2]? = some (RX2, TX2, 7)) (by decide) (by decide) inG2 kn192 rfl dX5_retainState_5) ?_
  refine Sim.sq (p1 := 11) (s_callV (C_X1_retain l) (rfl : vwCl[1]? = some (RX1, TX1, 10)) (by decide) kw330 kw331 kw332 kw54 kw333 ⟨rfl, by decide +kernel, by decide +kernel, by decide +kernel⟩ ⟨by decide, by decide⟩ shN1 dX5_retainState_8) ?_
  refine Sim.sq (p1 := 12) (s_iconst (by decide +kernel) dX5_retainState_11) ?_
  refine Sim.sq (p1 := 13) (s_istore_n rfl (by decide) dX5_retainState_12) ?_
  refine Sim.sq (p1 := 44) (Sim.lp ?_) ?_
  · refine Sim.sq (p1 := 14) (s_iload_n rfl dX5_retainState_13) ?_
    refine Sim.sq (p1 := 15) (s_aload_n rfl dX5_retainState_14) ?_
    refine Sim.sq (p1 := 18) (s_getiN (rfl : vwCl[2]? = some (RX2, TX2, 7)) (by decide) (by decide) inG2 kn186 rfl dX5_retainState_15) ?_
    refine Sim.bk ?_
    refine Sim.sq (p1 := 21) (s_icmp_ge dX5_retainState_18 (by decide) rfl) ?_
    refine Sim.sq (p1 := 22) (s_iload_n rfl dX5_retainState_21) ?_
    refine Sim.sq (p1 := 23) (s_iconst (by decide +kernel) dX5_retainState_22) ?_
    refine Sim.sq (p1 := 26) (s_icmp_ge dX5_retainState_23 (by decide) rfl) ?_
    refine Sim.sq (p1 := 27) (s_aload_n rfl dX5_retainState_26) ?_
    refine Sim.sq (p1 := 30) (s_getr (rfl : vwCl[5]? = some (RX5, TX5, 11)) (by decide) (by decide) inG5 kw231 rfl dX5_retainState_27) ?_
    refine Sim.sq (p1 := 31) (s_aload_n rfl dX5_retainState_30) ?_
    refine Sim.sq (p1 := 32) (s_iload_n rfl dX5_retainState_31) ?_
    refine Sim.sq (p1 := 35) (s_callV (C_X2_ropeOfRing l) (rfl : vwCl[2]? = some (RX2, TX2, 7)) (by decide) kw335 kw336 kw337 kw56 kw338 ⟨rfl, by decide +kernel, by decide +kernel, by decide +kernel⟩ ⟨by decide, by decide⟩ shN2 dX5_retainState_32) ?_
    refine Sim.sq (p1 := 38) (s_callV (C_X1_retain l) (rfl : vwCl[1]? = some (RX1, TX1, 10)) (by decide) kw330 kw331 kw332 kw54 kw333 ⟨rfl, by decide +kernel, by decide +kernel, by decide +kernel⟩ ⟨by decide, by decide⟩ shN1 dX5_retainState_35) ?_
    refine Sim.sq (p1 := 41) (s_iinc (by decide +kernel) (by decide) dX5_retainState_38) ?_
    exact (s_goto dX5_retainState_41 (by decide) rfl)
  exact (s_vret rfl dX5_retainState_44)
set_option maxRecDepth 100000 in
set_option maxHeartbeats 4000000 in
theorem C_X5_retainState (l : Launch) : Ct l yX5_retainState cX5_retainState 3 none 2 42 m_X5_retainState := Ct_of (y := yX5_retainState) (by decide +kernel) S_X5_retainState
set_option maxRecDepth 100000 in
set_option maxHeartbeats 4000000 in
theorem S_X1_endCollection {l : Launch} : Sim l (fun _ => True) RX1 "endCollection" cX1_endCollection 2 none 0 0 [] b_X1_endCollection 0 45 := by
  unfold b_X1_endCollection
  refine Sim.sq (p1 := 1) (s_aload_n rfl dX1_endCollection_0) ?_
  refine Sim.sq (p1 := 2) (s_iconst (by decide +kernel) dX1_endCollection_1) ?_
  refine Sim.sq (p1 := 5) (s_puti (rfl : vwCl[1]? = some (RX1, TX1, 10)) (by decide) (by decide) inG1 kw90 rfl tyX1 tyX1_ok nmX1 rfl (by decide +kernel) dX1_endCollection_2) ?_
  refine Sim.sq (p1 := 6) (s_iconst (by decide +kernel) dX1_endCollection_5) ?_
  refine Sim.sq (p1 := 7) (s_istore_n rfl (by decide) dX1_endCollection_6) ?_
  refine Sim.sq (p1 := 39) (Sim.lp ?_) ?_
  · refine Sim.sq (p1 := 8) (s_iload_n rfl dX1_endCollection_7) ?_
    refine Sim.sq (p1 := 11) (s_sipush (by decide +kernel) dX1_endCollection_8) ?_
    refine Sim.bk ?_
    refine Sim.sq (p1 := 14) (s_icmp_ge dX1_endCollection_11 (by decide) rfl) ?_
    refine Sim.sq (p1 := 15) (s_aload_n rfl dX1_endCollection_14) ?_
    refine Sim.sq (p1 := 18) (s_getr (rfl : vwCl[1]? = some (RX1, TX1, 10)) (by decide) (by decide) inG1 kw88 rfl dX1_endCollection_15) ?_
    refine Sim.sq (p1 := 19) (s_iload_n rfl dX1_endCollection_18) ?_
    refine Sim.sq (p1 := 20) (s_zald dX1_endCollection_19) ?_
    refine Sim.sq (p1 := 33) (Sim.bk ?_) ?_
    · refine Sim.sq (p1 := 23) (s_if_ne dX1_endCollection_20 (by decide) rfl) ?_
      refine Sim.sq (p1 := 24) (s_aload_n rfl dX1_endCollection_23) ?_
      refine Sim.sq (p1 := 25) (s_dup dX1_endCollection_24) ?_
      refine Sim.sq (p1 := 28) (s_geti (rfl : vwCl[1]? = some (RX1, TX1, 10)) (by decide) (by decide) inG1 kw90 rfl dX1_endCollection_25) ?_
      refine Sim.sq (p1 := 29) (s_iconst (by decide +kernel) dX1_endCollection_28) ?_
      refine Sim.sq (p1 := 30) (s_iadd dX1_endCollection_29) ?_
      exact (s_puti (rfl : vwCl[1]? = some (RX1, TX1, 10)) (by decide) (by decide) inG1 kw90 rfl tyX1 tyX1_ok nmX1 rfl (by decide +kernel) dX1_endCollection_30)
    refine Sim.sq (p1 := 36) (s_iinc (by decide +kernel) (by decide) dX1_endCollection_33) ?_
    exact (s_goto dX1_endCollection_36 (by decide) rfl)
  refine Sim.sq (p1 := 40) (s_aload_n rfl dX1_endCollection_39) ?_
  refine Sim.sq (p1 := 41) (s_iconst (by decide +kernel) dX1_endCollection_40) ?_
  refine Sim.sq (p1 := 44) (s_puti (rfl : vwCl[1]? = some (RX1, TX1, 10)) (by decide) (by decide) inG1 kw89 rfl tyX1 tyX1_ok nmX1 rfl (by decide +kernel) dX1_endCollection_41) ?_
  exact (s_vret rfl dX1_endCollection_44)
set_option maxRecDepth 100000 in
set_option maxHeartbeats 4000000 in
theorem C_X1_endCollection (l : Launch) : Ct l yX1_endCollection cX1_endCollection 2 none 0 0 m_X1_endCollection := Ct_of (y := yX1_endCollection) (by decide +kernel) S_X1_endCollection
set_option maxRecDepth 100000 in
set_option maxHeartbeats 4000000 in
theorem S_X5_makeRoom {l : Launch} : Sim l (fun _ => True) RX5 "makeRoom" cX5_makeRoom 3 none 3 64 [] b_X5_makeRoom 0 110 := by
  unfold b_X5_makeRoom
  refine Sim.sq (p1 := 1) (s_aload_n rfl dX5_makeRoom_0) ?_
  refine Sim.sq (p1 := 4) (s_getr (rfl : vwCl[5]? = some (RX5, TX5, 11)) (by decide) (by decide) inG5 kw231 rfl dX5_makeRoom_1) ?_
  refine Sim.sq (p1 := 7) (s_getiN (rfl : vwCl[1]? = some (RX1, TX1, 10)) (by decide) (by decide) inG1 kn91 rfl dX5_makeRoom_4) ?_
  refine Sim.sq (p1 := 10) (s_sipush (by decide +kernel) dX5_makeRoom_7) ?_
  refine Sim.sq (p1 := 14) (Sim.bk ?_) ?_
  · refine Sim.sq (p1 := 13) (s_icmp_lt dX5_makeRoom_10 (by decide) rfl) ?_
    exact (s_vret rfl dX5_makeRoom_13)
  refine Sim.sq (p1 := 15) (s_aload_n rfl dX5_makeRoom_14) ?_
  refine Sim.sq (p1 := 18) (s_getr (rfl : vwCl[5]? = some (RX5, TX5, 11)) (by decide) (by decide) inG5 kw231 rfl dX5_makeRoom_15) ?_
  refine Sim.sq (p1 := 21) (s_callV (C_X1_startCollection l) (rfl : vwCl[1]? = some (RX1, TX1, 10)) (by decide) kw322 kw323 kw324 kw54 kw325 ⟨rfl, by decide +kernel, by decide +kernel, by decide +kernel⟩ ⟨by decide, by decide⟩ shN1 dX5_makeRoom_18) ?_
  refine Sim.sq (p1 := 22) (s_aload_n rfl dX5_makeRoom_21) ?_
  refine Sim.sq (p1 := 23) (s_aload_n rfl dX5_makeRoom_22) ?_
  refine Sim.sq (p1 := 26) (s_getr (rfl : vwCl[5]? = some (RX5, TX5, 11)) (by decide) (by decide) inG5 kw234 rfl dX5_makeRoom_23) ?_
  refine Sim.sq (p1 := 29) (s_callV (C_X5_retainState l) (rfl : vwCl[5]? = some (RX5, TX5, 11)) (by decide) kw326 kw328 kw3 kw52 kw329 ⟨rfl, by decide +kernel, by decide +kernel, by decide +kernel⟩ ⟨by decide, by decide⟩ shN5 dX5_makeRoom_26) ?_
  refine Sim.sq (p1 := 30) (s_iconst (by decide +kernel) dX5_makeRoom_29) ?_
  refine Sim.sq (p1 := 31) (s_istore_n rfl (by decide) dX5_makeRoom_30) ?_
  refine Sim.sq (p1 := 72) (Sim.lp ?_) ?_
  · refine Sim.sq (p1 := 32) (s_iload_n rfl dX5_makeRoom_31) ?_
    refine Sim.sq (p1 := 33) (s_aload_n rfl dX5_makeRoom_32) ?_
    refine Sim.sq (p1 := 36) (s_getr (rfl : vwCl[5]? = some (RX5, TX5, 11)) (by decide) (by decide) inG5 kw235 rfl dX5_makeRoom_33) ?_
    refine Sim.sq (p1 := 39) (s_getiN (rfl : vwCl[0]? = some (RX0, TX0, 3)) (by decide) (by decide) inG0 kn222 rfl dX5_makeRoom_36) ?_
    refine Sim.bk ?_
    refine Sim.sq (p1 := 42) (s_icmp_ge dX5_makeRoom_39 (by decide) rfl) ?_
    refine Sim.sq (p1 := 43) (s_iload_n rfl dX5_makeRoom_42) ?_
    refine Sim.sq (p1 := 45) (s_bipush (by decide +kernel) dX5_makeRoom_43) ?_
    refine Sim.sq (p1 := 48) (s_icmp_ge dX5_makeRoom_45 (by decide) rfl) ?_
    refine Sim.sq (p1 := 49) (s_aload_n rfl dX5_makeRoom_48) ?_
    refine Sim.sq (p1 := 52) (s_getr (rfl : vwCl[5]? = some (RX5, TX5, 11)) (by decide) (by decide) inG5 kw235 rfl dX5_makeRoom_49) ?_
    refine Sim.sq (p1 := 53) (s_iload_n rfl dX5_makeRoom_52) ?_
    refine Sim.sq (p1 := 56) (s_callV (C_X0_savedState l) (rfl : vwCl[0]? = some (RX0, TX0, 3)) (by decide) kw343 kw273 kw274 kw58 kw275 ⟨rfl, by decide +kernel, by decide +kernel, by decide +kernel⟩ ⟨by decide, by decide⟩ shN0 dX5_makeRoom_53) ?_
    refine Sim.sq (p1 := 57) (s_astore_n rfl (by decide) dX5_makeRoom_56) ?_
    refine Sim.sq (p1 := 58) (s_aload_n rfl dX5_makeRoom_57) ?_
    refine Sim.sq (p1 := 66) (Sim.bk ?_) ?_
    · refine Sim.sq (p1 := 61) (s_ifnull dX5_makeRoom_58 (by decide) rfl) ?_
      refine Sim.sq (p1 := 62) (s_aload_n rfl dX5_makeRoom_61) ?_
      refine Sim.sq (p1 := 63) (s_aload_n rfl dX5_makeRoom_62) ?_
      exact (s_callV (C_X5_retainState l) (rfl : vwCl[5]? = some (RX5, TX5, 11)) (by decide) kw326 kw328 kw3 kw52 kw329 ⟨rfl, by decide +kernel, by decide +kernel, by decide +kernel⟩ ⟨by decide, by decide⟩ shN5 dX5_makeRoom_63)
    refine Sim.sq (p1 := 69) (s_iinc (by decide +kernel) (by decide) dX5_makeRoom_66) ?_
    exact (s_goto dX5_makeRoom_69 (by decide) rfl)
  refine Sim.sq (p1 := 73) (s_iconst (by decide +kernel) dX5_makeRoom_72) ?_
  refine Sim.sq (p1 := 74) (s_istore_n rfl (by decide) dX5_makeRoom_73) ?_
  refine Sim.sq (p1 := 102) (Sim.lp ?_) ?_
  · refine Sim.sq (p1 := 75) (s_iload_n rfl dX5_makeRoom_74) ?_
    refine Sim.sq (p1 := 76) (s_aload_n rfl dX5_makeRoom_75) ?_
    refine Sim.sq (p1 := 79) (s_getr (rfl : vwCl[5]? = some (RX5, TX5, 11)) (by decide) (by decide) inG5 kw236 rfl dX5_makeRoom_76) ?_
    refine Sim.sq (p1 := 80) (s_alen dX5_makeRoom_79) ?_
    refine Sim.bk ?_
    refine Sim.sq (p1 := 83) (s_icmp_ge dX5_makeRoom_80 (by decide) rfl) ?_
    refine Sim.sq (p1 := 84) (s_aload_n rfl dX5_makeRoom_83) ?_
    refine Sim.sq (p1 := 87) (s_getr (rfl : vwCl[5]? = some (RX5, TX5, 11)) (by decide) (by decide) inG5 kw231 rfl dX5_makeRoom_84) ?_
    refine Sim.sq (p1 := 88) (s_aload_n rfl dX5_makeRoom_87) ?_
    refine Sim.sq (p1 := 91) (s_getr (rfl : vwCl[5]? = some (RX5, TX5, 11)) (by decide) (by decide) inG5 kw236 rfl dX5_makeRoom_88) ?_
    refine Sim.sq (p1 := 92) (s_iload_n rfl dX5_makeRoom_91) ?_
    refine Sim.sq (p1 := 93) (s_iald dX5_makeRoom_92) ?_
    refine Sim.sq (p1 := 96) (s_callV (C_X1_retain l) (rfl : vwCl[1]? = some (RX1, TX1, 10)) (by decide) kw330 kw331 kw332 kw54 kw333 ⟨rfl, by decide +kernel, by decide +kernel, by decide +kernel⟩ ⟨by decide, by decide⟩ shN1 dX5_makeRoom_93) ?_
    refine Sim.sq (p1 := 99) (s_iinc (by decide +kernel) (by decide) dX5_makeRoom_96) ?_
    exact (s_goto dX5_makeRoom_99 (by decide) rfl)
  refine Sim.sq (p1 := 103) (s_aload_n rfl dX5_makeRoom_102) ?_
  refine Sim.sq (p1 := 106) (s_getr (rfl : vwCl[5]? = some (RX5, TX5, 11)) (by decide) (by decide) inG5 kw231 rfl dX5_makeRoom_103) ?_
  refine Sim.sq (p1 := 109) (s_callV (C_X1_endCollection l) (rfl : vwCl[1]? = some (RX1, TX1, 10)) (by decide) kw344 kw345 kw346 kw54 kw347 ⟨rfl, by decide +kernel, by decide +kernel, by decide +kernel⟩ ⟨by decide, by decide⟩ shN1 dX5_makeRoom_106) ?_
  exact (s_vret rfl dX5_makeRoom_109)
set_option maxRecDepth 100000 in
set_option maxHeartbeats 4000000 in
theorem C_X5_makeRoom (l : Launch) : Ct l yX5_makeRoom cX5_makeRoom 3 none 3 64 m_X5_makeRoom := Ct_of (y := yX5_makeRoom) (by decide +kernel) S_X5_makeRoom
set_option maxRecDepth 100000 in
set_option maxHeartbeats 4000000 in
theorem S_X5_startChange {l : Launch} : Sim l (fun _ => True) RX5 "startChange" cX5_startChange 1 none 4 243 [] b_X5_startChange 0 16 := by
  unfold b_X5_startChange
  refine Sim.sq (p1 := 1) (s_aload_n rfl dX5_startChange_0) ?_
  refine Sim.sq (p1 := 4) (s_getr (rfl : vwCl[5]? = some (RX5, TX5, 11)) (by decide) (by decide) inG5 kw235 rfl dX5_startChange_1) ?_
  refine Sim.sq (p1 := 5) (s_aload_n rfl dX5_startChange_4) ?_
  refine Sim.sq (p1 := 8) (s_getr (rfl : vwCl[5]? = some (RX5, TX5, 11)) (by decide) (by decide) inG5 kw234 rfl dX5_startChange_5) ?_
  refine Sim.sq (p1 := 11) (s_callV (C_X0_save l) (rfl : vwCl[0]? = some (RX0, TX0, 3)) (by decide) kw268 kw269 kw270 kw58 kw271 ⟨rfl, by decide +kernel, by decide +kernel, by decide +kernel⟩ ⟨by decide, by decide⟩ shN0 dX5_startChange_8) ?_
  refine Sim.sq (p1 := 12) (s_aload_n rfl dX5_startChange_11) ?_
  refine Sim.sq (p1 := 15) (s_callV (C_X5_makeRoom l) (rfl : vwCl[5]? = some (RX5, TX5, 11)) (by decide) kw318 kw320 kw2 kw52 kw321 ⟨rfl, by decide +kernel, by decide +kernel, by decide +kernel⟩ ⟨by decide, by decide⟩ shN5 dX5_startChange_12) ?_
  exact (s_vret rfl dX5_startChange_15)
set_option maxRecDepth 100000 in
set_option maxHeartbeats 4000000 in
theorem C_X5_startChange (l : Launch) : Ct l yX5_startChange cX5_startChange 1 none 4 243 m_X5_startChange := Ct_of (y := yX5_startChange) (by decide +kernel) S_X5_startChange
set_option maxRecDepth 100000 in
set_option maxHeartbeats 4000000 in
theorem S_X1_freshNode {l : Launch} : Sim l (fun _ => True) RX1 "freshNode" cX1_freshNode 2 (some .int) 1 21 [] b_X1_freshNode 0 52 := by
  unfold b_X1_freshNode
  refine Sim.sq (p1 := 1) (s_aload_n rfl dX1_freshNode_0) ?_
  refine Sim.sq (p1 := 4) (s_geti (rfl : vwCl[1]? = some (RX1, TX1, 10)) (by decide) (by decide) inG1 kw89 rfl dX1_freshNode_1) ?_
  refine Sim.sq (p1 := 5) (s_iconst (by decide +kernel) dX1_freshNode_4) ?_
  refine Sim.sq (p1 := 8) (s_max (by decide) (by decide) kw361 kw362 kw60 kw363 dX1_freshNode_5) ?_
  refine Sim.sq (p1 := 9) (s_istore_n rfl (by decide) dX1_freshNode_8) ?_
  refine Sim.sq (p1 := 50) (Sim.lp ?_) ?_
  · refine Sim.sq (p1 := 10) (s_iload_n rfl dX1_freshNode_9) ?_
    refine Sim.sq (p1 := 13) (s_sipush (by decide +kernel) dX1_freshNode_10) ?_
    refine Sim.bk ?_
    refine Sim.sq (p1 := 16) (s_icmp_ge dX1_freshNode_13 (by decide) rfl) ?_
    refine Sim.sq (p1 := 17) (s_aload_n rfl dX1_freshNode_16) ?_
    refine Sim.sq (p1 := 20) (s_getr (rfl : vwCl[1]? = some (RX1, TX1, 10)) (by decide) (by decide) inG1 kw88 rfl dX1_freshNode_17) ?_
    refine Sim.sq (p1 := 21) (s_iload_n rfl dX1_freshNode_20) ?_
    refine Sim.sq (p1 := 22) (s_zald dX1_freshNode_21) ?_
    refine Sim.sq (p1 := 44) (Sim.bk ?_) ?_
    · refine Sim.sq (p1 := 25) (s_if_ne dX1_freshNode_22 (by decide) rfl) ?_
      refine Sim.sq (p1 := 26) (s_aload_n rfl dX1_freshNode_25) ?_
      refine Sim.sq (p1 := 27) (s_iload_n rfl dX1_freshNode_26) ?_
      refine Sim.sq (p1 := 28) (s_iconst (by decide +kernel) dX1_freshNode_27) ?_
      refine Sim.sq (p1 := 29) (s_iadd dX1_freshNode_28) ?_
      refine Sim.sq (p1 := 32) (s_puti (rfl : vwCl[1]? = some (RX1, TX1, 10)) (by decide) (by decide) inG1 kw89 rfl tyX1 tyX1_ok nmX1 rfl (by decide +kernel) dX1_freshNode_29) ?_
      refine Sim.sq (p1 := 33) (s_aload_n rfl dX1_freshNode_32) ?_
      refine Sim.sq (p1 := 34) (s_dup dX1_freshNode_33) ?_
      refine Sim.sq (p1 := 37) (s_geti (rfl : vwCl[1]? = some (RX1, TX1, 10)) (by decide) (by decide) inG1 kw90 rfl dX1_freshNode_34) ?_
      refine Sim.sq (p1 := 38) (s_iconst (by decide +kernel) dX1_freshNode_37) ?_
      refine Sim.sq (p1 := 39) (s_isub dX1_freshNode_38) ?_
      refine Sim.sq (p1 := 42) (s_puti (rfl : vwCl[1]? = some (RX1, TX1, 10)) (by decide) (by decide) inG1 kw90 rfl tyX1 tyX1_ok nmX1 rfl (by decide +kernel) dX1_freshNode_39) ?_
      refine Sim.sq (p1 := 43) (s_iload_n rfl dX1_freshNode_42) ?_
      exact (s_iret rfl dX1_freshNode_43)
    refine Sim.sq (p1 := 47) (s_iinc (by decide +kernel) (by decide) dX1_freshNode_44) ?_
    exact (s_goto dX1_freshNode_47 (by decide) rfl)
  refine Sim.sq (p1 := 51) (s_iconst (by decide +kernel) dX1_freshNode_50) ?_
  exact (s_iret rfl dX1_freshNode_51)
set_option maxRecDepth 100000 in
set_option maxHeartbeats 4000000 in
theorem C_X1_freshNode (l : Launch) : Ct l yX1_freshNode cX1_freshNode 2 (some .int) 1 21 m_X1_freshNode := Ct_of (y := yX1_freshNode) (by decide +kernel) S_X1_freshNode
set_option maxRecDepth 100000 in
set_option maxHeartbeats 4000000 in
theorem S_X1_newLeaf {l : Launch} : Sim l (fun _ => True) RX1 "newLeaf" cX1_newLeaf 2 (some .int) 2 42 [] b_X1_newLeaf 0 60 := by
  unfold b_X1_newLeaf
  refine Sim.sq (p1 := 1) (s_aload_n rfl dX1_newLeaf_0) ?_
  refine Sim.sq (p1 := 4) (s_callV (C_X1_freshNode l) (rfl : vwCl[1]? = some (RX1, TX1, 10)) (by decide) kw357 kw359 kw4 kw54 kw360 ⟨rfl, by decide +kernel, by decide +kernel, by decide +kernel⟩ ⟨by decide, by decide⟩ shN1 dX1_newLeaf_1) ?_
  refine Sim.sq (p1 := 5) (s_istore_n rfl (by decide) dX1_newLeaf_4) ?_
  refine Sim.sq (p1 := 6) (s_iload_n rfl dX1_newLeaf_5) ?_
  refine Sim.sq (p1 := 58) (Sim.bk ?_) ?_
  · refine Sim.sq (p1 := 9) (s_if_le dX1_newLeaf_6 (by decide) rfl) ?_
    refine Sim.sq (p1 := 10) (s_iload_n rfl dX1_newLeaf_9) ?_
    refine Sim.sq (p1 := 13) (s_sipush (by decide +kernel) dX1_newLeaf_10) ?_
    refine Sim.sq (p1 := 16) (s_icmp_ge dX1_newLeaf_13 (by decide) rfl) ?_
    refine Sim.sq (p1 := 17) (s_aload_n rfl dX1_newLeaf_16) ?_
    refine Sim.sq (p1 := 20) (s_getr (rfl : vwCl[1]? = some (RX1, TX1, 10)) (by decide) (by decide) inG1 kw82 rfl dX1_newLeaf_17) ?_
    refine Sim.sq (p1 := 21) (s_iload_n rfl dX1_newLeaf_20) ?_
    refine Sim.sq (p1 := 22) (s_iconst (by decide +kernel) dX1_newLeaf_21) ?_
    refine Sim.sq (p1 := 23) (s_iast dX1_newLeaf_22) ?_
    refine Sim.sq (p1 := 24) (s_aload_n rfl dX1_newLeaf_23) ?_
    refine Sim.sq (p1 := 27) (s_getr (rfl : vwCl[1]? = some (RX1, TX1, 10)) (by decide) (by decide) inG1 kw83 rfl dX1_newLeaf_24) ?_
    refine Sim.sq (p1 := 28) (s_iload_n rfl dX1_newLeaf_27) ?_
    refine Sim.sq (p1 := 29) (s_iconst (by decide +kernel) dX1_newLeaf_28) ?_
    refine Sim.sq (p1 := 30) (s_iast dX1_newLeaf_29) ?_
    refine Sim.sq (p1 := 31) (s_aload_n rfl dX1_newLeaf_30) ?_
    refine Sim.sq (p1 := 34) (s_getr (rfl : vwCl[1]? = some (RX1, TX1, 10)) (by decide) (by decide) inG1 kw84 rfl dX1_newLeaf_31) ?_
    refine Sim.sq (p1 := 35) (s_iload_n rfl dX1_newLeaf_34) ?_
    refine Sim.sq (p1 := 36) (s_iconst (by decide +kernel) dX1_newLeaf_35) ?_
    refine Sim.sq (p1 := 37) (s_iast dX1_newLeaf_36) ?_
    refine Sim.sq (p1 := 38) (s_aload_n rfl dX1_newLeaf_37) ?_
    refine Sim.sq (p1 := 41) (s_getr (rfl : vwCl[1]? = some (RX1, TX1, 10)) (by decide) (by decide) inG1 kw85 rfl dX1_newLeaf_38) ?_
    refine Sim.sq (p1 := 42) (s_iload_n rfl dX1_newLeaf_41) ?_
    refine Sim.sq (p1 := 43) (s_iconst (by decide +kernel) dX1_newLeaf_42) ?_
    refine Sim.sq (p1 := 44) (s_iast dX1_newLeaf_43) ?_
    refine Sim.sq (p1 := 45) (s_aload_n rfl dX1_newLeaf_44) ?_
    refine Sim.sq (p1 := 48) (s_getr (rfl : vwCl[1]? = some (RX1, TX1, 10)) (by decide) (by decide) inG1 kw86 rfl dX1_newLeaf_45) ?_
    refine Sim.sq (p1 := 49) (s_iload_n rfl dX1_newLeaf_48) ?_
    refine Sim.sq (p1 := 50) (s_lconst (by decide +kernel) dX1_newLeaf_49) ?_
    refine Sim.sq (p1 := 51) (s_last dX1_newLeaf_50) ?_
    refine Sim.sq (p1 := 52) (s_aload_n rfl dX1_newLeaf_51) ?_
    refine Sim.sq (p1 := 55) (s_getr (rfl : vwCl[1]? = some (RX1, TX1, 10)) (by decide) (by decide) inG1 kw87 rfl dX1_newLeaf_52) ?_
    refine Sim.sq (p1 := 56) (s_iload_n rfl dX1_newLeaf_55) ?_
    refine Sim.sq (p1 := 57) (s_lconst (by decide +kernel) dX1_newLeaf_56) ?_
    exact (s_last dX1_newLeaf_57)
  refine Sim.sq (p1 := 59) (s_iload_n rfl dX1_newLeaf_58) ?_
  exact (s_iret rfl dX1_newLeaf_59)
set_option maxRecDepth 100000 in
set_option maxHeartbeats 4000000 in
theorem C_X1_newLeaf (l : Launch) : Ct l yX1_newLeaf cX1_newLeaf 2 (some .int) 2 42 m_X1_newLeaf := Ct_of (y := yX1_newLeaf) (by decide +kernel) S_X1_newLeaf
set_option maxRecDepth 100000 in
set_option maxHeartbeats 4000000 in
theorem S_X1_append {l : Launch} : Sim l (fun _ => True) RX1 "append" cX1_append 6 none 0 0 [] b_X1_append 0 84 := by
  unfold b_X1_append
  refine Sim.sq (p1 := 1) (s_iload_n rfl dX1_append_0) ?_
  refine Sim.sq (p1 := 23) (Sim.bk ?_) ?_
  · refine Sim.sq (p1 := 22) (Sim.bk ?_) ?_
    · refine Sim.sq (p1 := 4) (s_if_le dX1_append_1 (by decide) rfl) ?_
      refine Sim.sq (p1 := 5) (s_iload_n rfl dX1_append_4) ?_
      refine Sim.sq (p1 := 8) (s_sipush (by decide +kernel) dX1_append_5) ?_
      refine Sim.sq (p1 := 11) (s_icmp_ge dX1_append_8 (by decide) rfl) ?_
      refine Sim.sq (p1 := 12) (s_aload_n rfl dX1_append_11) ?_
      refine Sim.sq (p1 := 15) (s_getr (rfl : vwCl[1]? = some (RX1, TX1, 10)) (by decide) (by decide) inG1 kw84 rfl dX1_append_12) ?_
      refine Sim.sq (p1 := 16) (s_iload_n rfl dX1_append_15) ?_
      refine Sim.sq (p1 := 17) (s_iald dX1_append_16) ?_
      refine Sim.sq (p1 := 19) (s_bipush (by decide +kernel) dX1_append_17) ?_
      exact (s_icmp_lt dX1_append_19 (by decide) rfl)
    exact (s_vret rfl dX1_append_22)
  refine Sim.sq (p1 := 24) (s_aload_n rfl dX1_append_23) ?_
  refine Sim.sq (p1 := 27) (s_getr (rfl : vwCl[1]? = some (RX1, TX1, 10)) (by decide) (by decide) inG1 kw84 rfl dX1_append_24) ?_
  refine Sim.sq (p1 := 28) (s_iload_n rfl dX1_append_27) ?_
  refine Sim.sq (p1 := 29) (s_iald dX1_append_28) ?_
  refine Sim.sq (p1 := 30) (s_istore_n rfl (by decide) dX1_append_29) ?_
  refine Sim.sq (p1 := 31) (s_iload_n rfl dX1_append_30) ?_
  refine Sim.sq (p1 := 32) (s_i2l dX1_append_31) ?_
  refine Sim.sq (p1 := 34) (s_bipush (by decide +kernel) dX1_append_32) ?_
  refine Sim.sq (p1 := 35) (s_iload_n rfl dX1_append_34) ?_
  refine Sim.sq (p1 := 37) (s_bipush (by decide +kernel) dX1_append_35) ?_
  refine Sim.sq (p1 := 38) (s_irem dX1_append_37) ?_
  refine Sim.sq (p1 := 39) (s_imul dX1_append_38) ?_
  refine Sim.sq (p1 := 40) (s_lshl dX1_append_39) ?_
  refine Sim.sq (p1 := 42) (s_lstore (by decide) dX1_append_40) ?_
  refine Sim.sq (p1 := 43) (s_iload_n rfl dX1_append_42) ?_
  refine Sim.sq (p1 := 45) (s_bipush (by decide +kernel) dX1_append_43) ?_
  refine Sim.sq (p1 := 73) (Sim.bk ?_) ?_
  · refine Sim.sq (p1 := 62) (Sim.bk ?_) ?_
    · refine Sim.sq (p1 := 48) (s_icmp_ge dX1_append_45 (by decide) rfl) ?_
      refine Sim.sq (p1 := 49) (s_aload_n rfl dX1_append_48) ?_
      refine Sim.sq (p1 := 52) (s_getr (rfl : vwCl[1]? = some (RX1, TX1, 10)) (by decide) (by decide) inG1 kw86 rfl dX1_append_49) ?_
      refine Sim.sq (p1 := 53) (s_iload_n rfl dX1_append_52) ?_
      refine Sim.sq (p1 := 54) (s_dup2 dX1_append_53) ?_
      refine Sim.sq (p1 := 55) (s_lald dX1_append_54) ?_
      refine Sim.sq (p1 := 57) (s_lload dX1_append_55) ?_
      refine Sim.sq (p1 := 58) (s_lor dX1_append_57) ?_
      refine Sim.sq (p1 := 59) (s_last dX1_append_58) ?_
      exact (s_goto dX1_append_59 (by decide) rfl)
    refine Sim.sq (p1 := 63) (s_aload_n rfl dX1_append_62) ?_
    refine Sim.sq (p1 := 66) (s_getr (rfl : vwCl[1]? = some (RX1, TX1, 10)) (by decide) (by decide) inG1 kw87 rfl dX1_append_63) ?_
    refine Sim.sq (p1 := 67) (s_iload_n rfl dX1_append_66) ?_
    refine Sim.sq (p1 := 68) (s_dup2 dX1_append_67) ?_
    refine Sim.sq (p1 := 69) (s_lald dX1_append_68) ?_
    refine Sim.sq (p1 := 71) (s_lload dX1_append_69) ?_
    refine Sim.sq (p1 := 72) (s_lor dX1_append_71) ?_
    exact (s_last dX1_append_72)
  refine Sim.sq (p1 := 74) (s_aload_n rfl dX1_append_73) ?_
  refine Sim.sq (p1 := 77) (s_getr (rfl : vwCl[1]? = some (RX1, TX1, 10)) (by decide) (by decide) inG1 kw84 rfl dX1_append_74) ?_
  refine Sim.sq (p1 := 78) (s_iload_n rfl dX1_append_77) ?_
  refine Sim.sq (p1 := 79) (s_dup2 dX1_append_78) ?_
  refine Sim.sq (p1 := 80) (s_iald dX1_append_79) ?_
  refine Sim.sq (p1 := 81) (s_iconst (by decide +kernel) dX1_append_80) ?_
  refine Sim.sq (p1 := 82) (s_iadd dX1_append_81) ?_
  refine Sim.sq (p1 := 83) (s_iast dX1_append_82) ?_
  exact (s_vret rfl dX1_append_83)
set_option maxRecDepth 100000 in
set_option maxHeartbeats 4000000 in
theorem C_X1_append (l : Launch) : Ct l yX1_append cX1_append 6 none 0 0 m_X1_append := Ct_of (y := yX1_append) (by decide +kernel) S_X1_append
set_option maxRecDepth 100000 in
set_option maxHeartbeats 4000000 in
theorem S_X1_heightOf {l : Launch} : Sim l (fun _ => True) RX1 "heightOf" cX1_heightOf 2 (some .int) 0 0 [] b_X1_heightOf 0 22 := by
  unfold b_X1_heightOf
  refine Sim.sq (p1 := 1) (s_iload_n rfl dX1_heightOf_0) ?_
  refine Sim.sq (p1 := 21) (Sim.bk ?_) ?_
  · refine Sim.sq (p1 := 20) (Sim.bk ?_) ?_
    · refine Sim.sq (p1 := 4) (s_if_le dX1_heightOf_1 (by decide) rfl) ?_
      refine Sim.sq (p1 := 5) (s_iload_n rfl dX1_heightOf_4) ?_
      refine Sim.sq (p1 := 8) (s_sipush (by decide +kernel) dX1_heightOf_5) ?_
      refine Sim.sq (p1 := 11) (s_icmp_ge dX1_heightOf_8 (by decide) rfl) ?_
      refine Sim.sq (p1 := 12) (s_aload_n rfl dX1_heightOf_11) ?_
      refine Sim.sq (p1 := 15) (s_getr (rfl : vwCl[1]? = some (RX1, TX1, 10)) (by decide) (by decide) inG1 kw85 rfl dX1_heightOf_12) ?_
      refine Sim.sq (p1 := 16) (s_iload_n rfl dX1_heightOf_15) ?_
      refine Sim.sq (p1 := 17) (s_iald dX1_heightOf_16) ?_
      exact (s_goto dX1_heightOf_17 (by decide) rfl)
    exact (s_iconst (by decide +kernel) dX1_heightOf_20)
  exact (s_iret rfl dX1_heightOf_21)
set_option maxRecDepth 100000 in
set_option maxHeartbeats 4000000 in
theorem C_X1_heightOf (l : Launch) : Ct l yX1_heightOf cX1_heightOf 2 (some .int) 0 0 m_X1_heightOf := Ct_of (y := yX1_heightOf) (by decide +kernel) S_X1_heightOf
set_option maxRecDepth 100000 in
set_option maxHeartbeats 4000000 in
theorem S_X1_newPair {l : Launch} : Sim l (fun _ => True) RX1 "newPair" cX1_newPair 4 (some .int) 2 42 [] b_X1_newPair 0 70 := by
  unfold b_X1_newPair
  refine Sim.sq (p1 := 1) (s_aload_n rfl dX1_newPair_0) ?_
  refine Sim.sq (p1 := 4) (s_callV (C_X1_freshNode l) (rfl : vwCl[1]? = some (RX1, TX1, 10)) (by decide) kw357 kw359 kw4 kw54 kw360 ⟨rfl, by decide +kernel, by decide +kernel, by decide +kernel⟩ ⟨by decide, by decide⟩ shN1 dX1_newPair_1) ?_
  refine Sim.sq (p1 := 5) (s_istore_n rfl (by decide) dX1_newPair_4) ?_
  refine Sim.sq (p1 := 6) (s_iload_n rfl dX1_newPair_5) ?_
  refine Sim.sq (p1 := 68) (Sim.bk ?_) ?_
  · refine Sim.sq (p1 := 9) (s_if_le dX1_newPair_6 (by decide) rfl) ?_
    refine Sim.sq (p1 := 10) (s_iload_n rfl dX1_newPair_9) ?_
    refine Sim.sq (p1 := 13) (s_sipush (by decide +kernel) dX1_newPair_10) ?_
    refine Sim.sq (p1 := 16) (s_icmp_ge dX1_newPair_13 (by decide) rfl) ?_
    refine Sim.sq (p1 := 17) (s_aload_n rfl dX1_newPair_16) ?_
    refine Sim.sq (p1 := 20) (s_getr (rfl : vwCl[1]? = some (RX1, TX1, 10)) (by decide) (by decide) inG1 kw82 rfl dX1_newPair_17) ?_
    refine Sim.sq (p1 := 21) (s_iload_n rfl dX1_newPair_20) ?_
    refine Sim.sq (p1 := 22) (s_iload_n rfl dX1_newPair_21) ?_
    refine Sim.sq (p1 := 23) (s_iast dX1_newPair_22) ?_
    refine Sim.sq (p1 := 24) (s_aload_n rfl dX1_newPair_23) ?_
    refine Sim.sq (p1 := 27) (s_getr (rfl : vwCl[1]? = some (RX1, TX1, 10)) (by decide) (by decide) inG1 kw83 rfl dX1_newPair_24) ?_
    refine Sim.sq (p1 := 28) (s_iload_n rfl dX1_newPair_27) ?_
    refine Sim.sq (p1 := 29) (s_iload_n rfl dX1_newPair_28) ?_
    refine Sim.sq (p1 := 30) (s_iast dX1_newPair_29) ?_
    refine Sim.sq (p1 := 31) (s_aload_n rfl dX1_newPair_30) ?_
    refine Sim.sq (p1 := 34) (s_getr (rfl : vwCl[1]? = some (RX1, TX1, 10)) (by decide) (by decide) inG1 kw84 rfl dX1_newPair_31) ?_
    refine Sim.sq (p1 := 35) (s_iload_n rfl dX1_newPair_34) ?_
    refine Sim.sq (p1 := 36) (s_aload_n rfl dX1_newPair_35) ?_
    refine Sim.sq (p1 := 37) (s_iload_n rfl dX1_newPair_36) ?_
    refine Sim.sq (p1 := 40) (s_callV (C_X1_sizeOf l) (rfl : vwCl[1]? = some (RX1, TX1, 10)) (by decide) kw379 kw311 kw312 kw54 kw313 ⟨rfl, by decide +kernel, by decide +kernel, by decide +kernel⟩ ⟨by decide, by decide⟩ shN1 dX1_newPair_37) ?_
    refine Sim.sq (p1 := 41) (s_aload_n rfl dX1_newPair_40) ?_
    refine Sim.sq (p1 := 42) (s_iload_n rfl dX1_newPair_41) ?_
    refine Sim.sq (p1 := 45) (s_callV (C_X1_sizeOf l) (rfl : vwCl[1]? = some (RX1, TX1, 10)) (by decide) kw379 kw311 kw312 kw54 kw313 ⟨rfl, by decide +kernel, by decide +kernel, by decide +kernel⟩ ⟨by decide, by decide⟩ shN1 dX1_newPair_42) ?_
    refine Sim.sq (p1 := 46) (s_iadd dX1_newPair_45) ?_
    refine Sim.sq (p1 := 47) (s_iast dX1_newPair_46) ?_
    refine Sim.sq (p1 := 48) (s_aload_n rfl dX1_newPair_47) ?_
    refine Sim.sq (p1 := 51) (s_getr (rfl : vwCl[1]? = some (RX1, TX1, 10)) (by decide) (by decide) inG1 kw85 rfl dX1_newPair_48) ?_
    refine Sim.sq (p1 := 52) (s_iload_n rfl dX1_newPair_51) ?_
    refine Sim.sq (p1 := 53) (s_iconst (by decide +kernel) dX1_newPair_52) ?_
    refine Sim.sq (p1 := 54) (s_aload_n rfl dX1_newPair_53) ?_
    refine Sim.sq (p1 := 55) (s_iload_n rfl dX1_newPair_54) ?_
    refine Sim.sq (p1 := 58) (s_callV (C_X1_heightOf l) (rfl : vwCl[1]? = some (RX1, TX1, 10)) (by decide) kw380 kw381 kw382 kw54 kw383 ⟨rfl, by decide +kernel, by decide +kernel, by decide +kernel⟩ ⟨by decide, by decide⟩ shN1 dX1_newPair_55) ?_
    refine Sim.sq (p1 := 59) (s_aload_n rfl dX1_newPair_58) ?_
    refine Sim.sq (p1 := 60) (s_iload_n rfl dX1_newPair_59) ?_
    refine Sim.sq (p1 := 63) (s_callV (C_X1_heightOf l) (rfl : vwCl[1]? = some (RX1, TX1, 10)) (by decide) kw380 kw381 kw382 kw54 kw383 ⟨rfl, by decide +kernel, by decide +kernel, by decide +kernel⟩ ⟨by decide, by decide⟩ shN1 dX1_newPair_60) ?_
    refine Sim.sq (p1 := 66) (s_max (by decide) (by decide) kw361 kw362 kw60 kw363 dX1_newPair_63) ?_
    refine Sim.sq (p1 := 67) (s_iadd dX1_newPair_66) ?_
    exact (s_iast dX1_newPair_67)
  refine Sim.sq (p1 := 69) (s_iload_n rfl dX1_newPair_68) ?_
  exact (s_iret rfl dX1_newPair_69)
set_option maxRecDepth 100000 in
set_option maxHeartbeats 4000000 in
theorem C_X1_newPair (l : Launch) : Ct l yX1_newPair cX1_newPair 4 (some .int) 2 42 m_X1_newPair := Ct_of (y := yX1_newPair) (by decide +kernel) S_X1_newPair
set_option maxRecDepth 100000 in
set_option maxHeartbeats 4000000 in
theorem S_X4_built {l : Launch} {f : Mt} {fr lo fr' lo' : Nat} (hM : Ct l yX4_built cX4_built 8 (some .int) fr' lo' f) (h1 : 3 ≤ fr) (h2 : 65 ≤ lo) (hR : fr' + 1 ≤ fr ∧ 8 + (8 + 11) + lo' ≤ lo) : Sim l (fun _ => True) RX4 "built" cX4_built 8 (some .int) fr lo [] (b_X4_built f) 0 81 := by
  unfold b_X4_built
  refine Sim.sq (p1 := 1) (s_iload_n rfl dX4_built_0) ?_
  refine Sim.sq (p1 := 23) (Sim.bk ?_) ?_
  · refine Sim.sq (p1 := 21) (Sim.bk ?_) ?_
    · refine Sim.sq (p1 := 4) (s_if_le dX4_built_1 (by decide) rfl) ?_
      refine Sim.sq (p1 := 6) (s_iload dX4_built_4) ?_
      refine Sim.sq (p1 := 8) (s_bipush (by decide +kernel) dX4_built_6) ?_
      refine Sim.sq (p1 := 11) (s_icmp_gt dX4_built_8 (by decide) rfl) ?_
      refine Sim.sq (p1 := 12) (s_iload_n rfl dX4_built_11) ?_
      refine Sim.sq (p1 := 15) (s_if_lt dX4_built_12 (by decide) rfl) ?_
      refine Sim.sq (p1 := 16) (s_iload_n rfl dX4_built_15) ?_
      refine Sim.sq (p1 := 17) (s_aload_n rfl dX4_built_16) ?_
      refine Sim.sq (p1 := 18) (s_alen dX4_built_17) ?_
      exact (s_icmp_lt dX4_built_18 (by decide) rfl)
    refine Sim.sq (p1 := 22) (s_iconst (by decide +kernel) dX4_built_21) ?_
    exact (s_iret rfl dX4_built_22)
  refine Sim.sq (p1 := 24) (s_iload_n rfl dX4_built_23) ?_
  refine Sim.sq (p1 := 25) (s_iconst (by decide +kernel) dX4_built_24) ?_
  refine Sim.sq (p1 := 32) (Sim.bk ?_) ?_
  · refine Sim.sq (p1 := 28) (s_icmp_ne dX4_built_25 (by decide) rfl) ?_
    refine Sim.sq (p1 := 29) (s_aload_n rfl dX4_built_28) ?_
    refine Sim.sq (p1 := 30) (s_iload_n rfl dX4_built_29) ?_
    refine Sim.sq (p1 := 31) (s_iald dX4_built_30) ?_
    exact (s_iret rfl dX4_built_31)
  refine Sim.sq (p1 := 33) (s_iload_n rfl dX4_built_32) ?_
  refine Sim.sq (p1 := 34) (s_iconst (by decide +kernel) dX4_built_33) ?_
  refine Sim.sq (p1 := 35) (s_iadd dX4_built_34) ?_
  refine Sim.sq (p1 := 36) (s_iconst (by decide +kernel) dX4_built_35) ?_
  refine Sim.sq (p1 := 37) (s_idiv dX4_built_36) ?_
  refine Sim.sq (p1 := 39) (s_istore (by decide) dX4_built_37) ?_
  refine Sim.sq (p1 := 40) (s_aload_n rfl dX4_built_39) ?_
  refine Sim.sq (p1 := 41) (s_aload_n rfl dX4_built_40) ?_
  refine Sim.sq (p1 := 42) (s_iload_n rfl dX4_built_41) ?_
  refine Sim.sq (p1 := 44) (s_iload dX4_built_42) ?_
  refine Sim.sq (p1 := 46) (s_iload dX4_built_44) ?_
  refine Sim.sq (p1 := 47) (s_iconst (by decide +kernel) dX4_built_46) ?_
  refine Sim.sq (p1 := 48) (s_iadd dX4_built_47) ?_
  refine Sim.sq (p1 := 51) (s_callS (y := yX4_built) hM kw372 kw373 kw53 kw374 ⟨by decide +kernel, by decide +kernel, by decide +kernel⟩ hR dX4_built_48) ?_
  refine Sim.sq (p1 := 53) (s_istore (by decide) dX4_built_51) ?_
  refine Sim.sq (p1 := 54) (s_aload_n rfl dX4_built_53) ?_
  refine Sim.sq (p1 := 55) (s_aload_n rfl dX4_built_54) ?_
  refine Sim.sq (p1 := 56) (s_iload_n rfl dX4_built_55) ?_
  refine Sim.sq (p1 := 58) (s_iload dX4_built_56) ?_
  refine Sim.sq (p1 := 59) (s_iadd dX4_built_58) ?_
  refine Sim.sq (p1 := 60) (s_iload_n rfl dX4_built_59) ?_
  refine Sim.sq (p1 := 62) (s_iload dX4_built_60) ?_
  refine Sim.sq (p1 := 63) (s_isub dX4_built_62) ?_
  refine Sim.sq (p1 := 65) (s_iload dX4_built_63) ?_
  refine Sim.sq (p1 := 66) (s_iconst (by decide +kernel) dX4_built_65) ?_
  refine Sim.sq (p1 := 67) (s_iadd dX4_built_66) ?_
  refine Sim.sq (p1 := 70) (s_callS (y := yX4_built) hM kw372 kw373 kw53 kw374 ⟨by decide +kernel, by decide +kernel, by decide +kernel⟩ hR dX4_built_67) ?_
  refine Sim.sq (p1 := 72) (s_istore (by decide) dX4_built_70) ?_
  refine Sim.sq (p1 := 73) (s_aload_n rfl dX4_built_72) ?_
  refine Sim.sq (p1 := 75) (s_iload dX4_built_73) ?_
  refine Sim.sq (p1 := 77) (s_iload dX4_built_75) ?_
  refine Sim.sq (p1 := 80) (s_callV (C_X1_newPair l) (rfl : vwCl[1]? = some (RX1, TX1, 10)) (by decide) kw375 kw376 kw377 kw54 kw378 ⟨rfl, by decide +kernel, by decide +kernel, by decide +kernel⟩ ⟨by omega, by omega⟩ shN1 dX4_built_77) ?_
  exact (s_iret rfl dX4_built_80)
set_option maxRecDepth 100000 in
set_option maxHeartbeats 4000000 in
theorem C_X4_built (l : Launch) : ∀ n, Ct l yX4_built cX4_built 8 (some .int) (3 + n) (65 + 27 * n) (m_X4_built n)
  | 0 => fun _ _ _ _ _ _ _ _ h => by cases h
  | n + 1 => Ct_of (y := yX4_built) (by decide +kernel) (S_X4_built (C_X4_built l n) (by omega) (by omega) ⟨by omega, by omega⟩)
set_option maxRecDepth 100000 in
set_option maxHeartbeats 4000000 in
theorem S_X4_ropeOfLeaves {l : Launch} : Sim l (fun _ => True) RX4 "ropeOfLeaves" cX4_ropeOfLeaves 3 (some .int) 16 416 [] b_X4_ropeOfLeaves 0 12 := by
  unfold b_X4_ropeOfLeaves
  refine Sim.sq (p1 := 1) (s_aload_n rfl dX4_ropeOfLeaves_0) ?_
  refine Sim.sq (p1 := 4) (s_getr (rfl : vwCl[4]? = some (RX4, TX4, 6)) (by decide) (by decide) inG4 kw117 rfl dX4_ropeOfLeaves_1) ?_
  refine Sim.sq (p1 := 5) (s_aload_n rfl dX4_ropeOfLeaves_4) ?_
  refine Sim.sq (p1 := 6) (s_iconst (by decide +kernel) dX4_ropeOfLeaves_5) ?_
  refine Sim.sq (p1 := 7) (s_iload_n rfl dX4_ropeOfLeaves_6) ?_
  refine Sim.sq (p1 := 8) (s_iconst (by decide +kernel) dX4_ropeOfLeaves_7) ?_
  refine Sim.sq (p1 := 11) (s_callS (y := yX4_built) (C_X4_built l 12) kw372 kw373 kw53 kw374 ⟨by decide +kernel, by decide +kernel, by decide +kernel⟩ ⟨by decide, by decide⟩ dX4_ropeOfLeaves_8) ?_
  exact (s_iret rfl dX4_ropeOfLeaves_11)
set_option maxRecDepth 100000 in
set_option maxHeartbeats 4000000 in
theorem C_X4_ropeOfLeaves (l : Launch) : Ct l yX4_ropeOfLeaves cX4_ropeOfLeaves 3 (some .int) 16 416 m_X4_ropeOfLeaves := Ct_of (y := yX4_ropeOfLeaves) (by decide +kernel) S_X4_ropeOfLeaves
