set_option maxRecDepth 100000 in
set_option maxHeartbeats 4000000 in
theorem S_X1_init {l : Launch} : Sim l (fun _ => True) RX1 "<init>" cX1_init 1 none 1 20 [] b_X1_init 0 89 := by
  unfold b_X1_init
  refine Sim.sq (p1 := 1) (s_aload_n rfl dX1_init_0) ?_
  refine Sim.sq (p1 := 4) (s_oini (by decide) (by decide) kw43 kw30 kw31 dX1_init_1) ?_
  refine Sim.sq (p1 := 5) (s_aload_n rfl dX1_init_4) ?_
  refine Sim.sq (p1 := 8) (s_sipush (by decide +kernel) dX1_init_5) ?_
  refine Sim.sq (p1 := 10) (s_newi kw76 dX1_init_8) ?_
  refine Sim.sq (p1 := 13) (s_putr (rfl : vwCl[1]? = some (RX1, TX1, 10)) (by decide) (by decide) inG1 kw44 rfl tyX1 tyX1_ok nmX1 rfl rfl rfl (show parseFieldDescriptor "[I" = some (tyX1 0) by decide +kernel) (fun _ => rfl) (fun _ => rfl) dX1_init_10) ?_
  refine Sim.sq (p1 := 14) (s_aload_n rfl dX1_init_13) ?_
  refine Sim.sq (p1 := 17) (s_sipush (by decide +kernel) dX1_init_14) ?_
  refine Sim.sq (p1 := 19) (s_newi kw76 dX1_init_17) ?_
  refine Sim.sq (p1 := 22) (s_putr (rfl : vwCl[1]? = some (RX1, TX1, 10)) (by decide) (by decide) inG1 kw45 rfl tyX1 tyX1_ok nmX1 rfl rfl rfl (show parseFieldDescriptor "[I" = some (tyX1 1) by decide +kernel) (fun _ => rfl) (fun _ => rfl) dX1_init_19) ?_
  refine Sim.sq (p1 := 23) (s_aload_n rfl dX1_init_22) ?_
  refine Sim.sq (p1 := 26) (s_sipush (by decide +kernel) dX1_init_23) ?_
  refine Sim.sq (p1 := 28) (s_newi kw76 dX1_init_26) ?_
  refine Sim.sq (p1 := 31) (s_putr (rfl : vwCl[1]? = some (RX1, TX1, 10)) (by decide) (by decide) inG1 kw46 rfl tyX1 tyX1_ok nmX1 rfl rfl rfl (show parseFieldDescriptor "[I" = some (tyX1 2) by decide +kernel) (fun _ => rfl) (fun _ => rfl) dX1_init_28) ?_
  refine Sim.sq (p1 := 32) (s_aload_n rfl dX1_init_31) ?_
  refine Sim.sq (p1 := 35) (s_sipush (by decide +kernel) dX1_init_32) ?_
  refine Sim.sq (p1 := 37) (s_newi kw76 dX1_init_35) ?_
  refine Sim.sq (p1 := 40) (s_putr (rfl : vwCl[1]? = some (RX1, TX1, 10)) (by decide) (by decide) inG1 kw47 rfl tyX1 tyX1_ok nmX1 rfl rfl rfl (show parseFieldDescriptor "[I" = some (tyX1 3) by decide +kernel) (fun _ => rfl) (fun _ => rfl) dX1_init_37) ?_
  refine Sim.sq (p1 := 41) (s_aload_n rfl dX1_init_40) ?_
  refine Sim.sq (p1 := 44) (s_sipush (by decide +kernel) dX1_init_41) ?_
  refine Sim.sq (p1 := 46) (s_newl kw77 dX1_init_44) ?_
  refine Sim.sq (p1 := 49) (s_putr (rfl : vwCl[1]? = some (RX1, TX1, 10)) (by decide) (by decide) inG1 kw48 rfl tyX1 tyX1_ok nmX1 rfl rfl rfl (show parseFieldDescriptor "[J" = some (tyX1 4) by decide +kernel) (fun _ => rfl) (fun _ => rfl) dX1_init_46) ?_
  refine Sim.sq (p1 := 50) (s_aload_n rfl dX1_init_49) ?_
  refine Sim.sq (p1 := 53) (s_sipush (by decide +kernel) dX1_init_50) ?_
  refine Sim.sq (p1 := 55) (s_newl kw77 dX1_init_53) ?_
  refine Sim.sq (p1 := 58) (s_putr (rfl : vwCl[1]? = some (RX1, TX1, 10)) (by decide) (by decide) inG1 kw49 rfl tyX1 tyX1_ok nmX1 rfl rfl rfl (show parseFieldDescriptor "[J" = some (tyX1 5) by decide +kernel) (fun _ => rfl) (fun _ => rfl) dX1_init_55) ?_
  refine Sim.sq (p1 := 59) (s_aload_n rfl dX1_init_58) ?_
  refine Sim.sq (p1 := 62) (s_sipush (by decide +kernel) dX1_init_59) ?_
  refine Sim.sq (p1 := 64) (s_newz kw78 dX1_init_62) ?_
  refine Sim.sq (p1 := 67) (s_putr (rfl : vwCl[1]? = some (RX1, TX1, 10)) (by decide) (by decide) inG1 kw50 rfl tyX1 tyX1_ok nmX1 rfl rfl rfl (show parseFieldDescriptor "[Z" = some (tyX1 6) by decide +kernel) (fun _ => rfl) (fun _ => rfl) dX1_init_64) ?_
  refine Sim.sq (p1 := 68) (s_aload_n rfl dX1_init_67) ?_
  refine Sim.sq (p1 := 69) (s_iconst (by decide +kernel) dX1_init_68) ?_
  refine Sim.sq (p1 := 72) (s_puti (rfl : vwCl[1]? = some (RX1, TX1, 10)) (by decide) (by decide) inG1 kw51 rfl tyX1 tyX1_ok nmX1 rfl (by decide +kernel) dX1_init_69) ?_
  refine Sim.sq (p1 := 73) (s_aload_n rfl dX1_init_72) ?_
  refine Sim.sq (p1 := 76) (s_sipush (by decide +kernel) dX1_init_73) ?_
  refine Sim.sq (p1 := 79) (s_puti (rfl : vwCl[1]? = some (RX1, TX1, 10)) (by decide) (by decide) inG1 kw52 rfl tyX1 tyX1_ok nmX1 rfl (by decide +kernel) dX1_init_76) ?_
  refine Sim.sq (p1 := 80) (s_aload_n rfl dX1_init_79) ?_
  refine Sim.sq (p1 := 83) (s_sipush (by decide +kernel) dX1_init_80) ?_
  refine Sim.sq (p1 := 85) (s_newi kw76 dX1_init_83) ?_
  refine Sim.sq (p1 := 88) (s_putr (rfl : vwCl[1]? = some (RX1, TX1, 10)) (by decide) (by decide) inG1 kw54 rfl tyX1 tyX1_ok nmX1 rfl rfl rfl (show parseFieldDescriptor "[I" = some (tyX1 9) by decide +kernel) (fun _ => rfl) (fun _ => rfl) dX1_init_85) ?_
  exact (s_vret rfl dX1_init_88)
set_option maxRecDepth 100000 in
set_option maxHeartbeats 4000000 in
theorem C_X1_init (l : Launch) : Ct l yX1_init cX1_init 1 none 1 20 m_X1_init := Ct_of (y := yX1_init) (by decide +kernel) S_X1_init
set_option maxRecDepth 100000 in
set_option maxHeartbeats 4000000 in
theorem S_X4_init {l : Launch} : Sim l (fun _ => True) RX4 "<init>" cX4_init 1 none 2 40 [] b_X4_init 0 53 := by
  unfold b_X4_init
  refine Sim.sq (p1 := 1) (s_aload_n rfl dX4_init_0) ?_
  refine Sim.sq (p1 := 4) (s_oini (by decide) (by decide) kw37 kw30 kw31 dX4_init_1) ?_
  refine Sim.sq (p1 := 5) (s_aload_n rfl dX4_init_4) ?_
  refine Sim.sq (p1 := 8) (s_new (rfl : vwCl[1]? = some (RX1, TX1, 10)) (by decide) inG1 tyX1 tyX1_ok (by decide +kernel) kw38 kw39 kw17 dX4_init_5) ?_
  refine Sim.sq (p1 := 9) (s_dup dX4_init_8) ?_
  refine Sim.sq (p1 := 12) (s_callIN (y := yX1_init) (C_X1_init l) kn40 kw41 kw17 kw42 rfl ⟨by decide +kernel, by decide +kernel, by decide +kernel⟩ ⟨by decide, by decide⟩ dX4_init_9) ?_
  refine Sim.sq (p1 := 15) (s_putr (rfl : vwCl[4]? = some (RX4, TX4, 6)) (by decide) (by decide) inG4 kw79 rfl tyX4 tyX4_ok nmX4 rfl rfl rfl (show parseFieldDescriptor "LTextRopes$Nodes;" = some (tyX4 0) by decide +kernel) (fun _ => rfl) (fun _ => rfl) dX4_init_12) ?_
  refine Sim.sq (p1 := 16) (s_aload_n rfl dX4_init_15) ?_
  refine Sim.sq (p1 := 19) (s_sipush (by decide +kernel) dX4_init_16) ?_
  refine Sim.sq (p1 := 21) (s_newi kw76 dX4_init_19) ?_
  refine Sim.sq (p1 := 24) (s_putr (rfl : vwCl[4]? = some (RX4, TX4, 6)) (by decide) (by decide) inG4 kw81 rfl tyX4 tyX4_ok nmX4 rfl rfl rfl (show parseFieldDescriptor "[I" = some (tyX4 1) by decide +kernel) (fun _ => rfl) (fun _ => rfl) dX4_init_21) ?_
  refine Sim.sq (p1 := 25) (s_aload_n rfl dX4_init_24) ?_
  refine Sim.sq (p1 := 28) (s_sipush (by decide +kernel) dX4_init_25) ?_
  refine Sim.sq (p1 := 30) (s_newz kw78 dX4_init_28) ?_
  refine Sim.sq (p1 := 33) (s_putr (rfl : vwCl[4]? = some (RX4, TX4, 6)) (by decide) (by decide) inG4 kw82 rfl tyX4 tyX4_ok nmX4 rfl rfl rfl (show parseFieldDescriptor "[Z" = some (tyX4 2) by decide +kernel) (fun _ => rfl) (fun _ => rfl) dX4_init_30) ?_
  refine Sim.sq (p1 := 34) (s_aload_n rfl dX4_init_33) ?_
  refine Sim.sq (p1 := 37) (s_sipush (by decide +kernel) dX4_init_34) ?_
  refine Sim.sq (p1 := 39) (s_newi kw76 dX4_init_37) ?_
  refine Sim.sq (p1 := 42) (s_putr (rfl : vwCl[4]? = some (RX4, TX4, 6)) (by decide) (by decide) inG4 kw83 rfl tyX4 tyX4_ok nmX4 rfl rfl rfl (show parseFieldDescriptor "[I" = some (tyX4 3) by decide +kernel) (fun _ => rfl) (fun _ => rfl) dX4_init_39) ?_
  refine Sim.sq (p1 := 43) (s_aload_n rfl dX4_init_42) ?_
  refine Sim.sq (p1 := 44) (s_iconst (by decide +kernel) dX4_init_43) ?_
  refine Sim.sq (p1 := 47) (s_puti (rfl : vwCl[4]? = some (RX4, TX4, 6)) (by decide) (by decide) inG4 kw84 rfl tyX4 tyX4_ok nmX4 rfl (by decide +kernel) dX4_init_44) ?_
  refine Sim.sq (p1 := 48) (s_aload_n rfl dX4_init_47) ?_
  refine Sim.sq (p1 := 49) (s_iconst (by decide +kernel) dX4_init_48) ?_
  refine Sim.sq (p1 := 52) (s_puti (rfl : vwCl[4]? = some (RX4, TX4, 6)) (by decide) (by decide) inG4 kw86 rfl tyX4 tyX4_ok nmX4 rfl (by decide +kernel) dX4_init_49) ?_
  exact (s_vret rfl dX4_init_52)
set_option maxRecDepth 100000 in
set_option maxHeartbeats 4000000 in
theorem C_X4_init (l : Launch) : Ct l yX4_init cX4_init 1 none 2 40 m_X4_init := Ct_of (y := yX4_init) (by decide +kernel) S_X4_init
set_option maxRecDepth 100000 in
set_option maxHeartbeats 4000000 in
theorem S_X3_init {l : Launch} : Sim l (fun _ => True) RX3 "<init>" cX3_init 1 none 1 20 [] b_X3_init 0 69 := by
  unfold b_X3_init
  refine Sim.sq (p1 := 1) (s_aload_n rfl dX3_init_0) ?_
  refine Sim.sq (p1 := 4) (s_oini (by decide) (by decide) kw106 kw30 kw31 dX3_init_1) ?_
  refine Sim.sq (p1 := 5) (s_aload_n rfl dX3_init_4) ?_
  refine Sim.sq (p1 := 8) (s_sipush (by decide +kernel) dX3_init_5) ?_
  refine Sim.sq (p1 := 10) (s_newi kw76 dX3_init_8) ?_
  refine Sim.sq (p1 := 13) (s_putr (rfl : vwCl[3]? = some (RX3, TX3, 8)) (by decide) (by decide) inG3 kw107 rfl tyX3 tyX3_ok nmX3 rfl rfl rfl (show parseFieldDescriptor "[I" = some (tyX3 0) by decide +kernel) (fun _ => rfl) (fun _ => rfl) dX3_init_10) ?_
  refine Sim.sq (p1 := 14) (s_aload_n rfl dX3_init_13) ?_
  refine Sim.sq (p1 := 17) (s_sipush (by decide +kernel) dX3_init_14) ?_
  refine Sim.sq (p1 := 19) (s_newi kw76 dX3_init_17) ?_
  refine Sim.sq (p1 := 22) (s_putr (rfl : vwCl[3]? = some (RX3, TX3, 8)) (by decide) (by decide) inG3 kw109 rfl tyX3 tyX3_ok nmX3 rfl rfl rfl (show parseFieldDescriptor "[I" = some (tyX3 1) by decide +kernel) (fun _ => rfl) (fun _ => rfl) dX3_init_19) ?_
  refine Sim.sq (p1 := 23) (s_aload_n rfl dX3_init_22) ?_
  refine Sim.sq (p1 := 26) (s_sipush (by decide +kernel) dX3_init_23) ?_
  refine Sim.sq (p1 := 28) (s_newi kw76 dX3_init_26) ?_
  refine Sim.sq (p1 := 31) (s_putr (rfl : vwCl[3]? = some (RX3, TX3, 8)) (by decide) (by decide) inG3 kw111 rfl tyX3 tyX3_ok nmX3 rfl rfl rfl (show parseFieldDescriptor "[I" = some (tyX3 2) by decide +kernel) (fun _ => rfl) (fun _ => rfl) dX3_init_28) ?_
  refine Sim.sq (p1 := 32) (s_aload_n rfl dX3_init_31) ?_
  refine Sim.sq (p1 := 35) (s_sipush (by decide +kernel) dX3_init_32) ?_
  refine Sim.sq (p1 := 37) (s_newi kw76 dX3_init_35) ?_
  refine Sim.sq (p1 := 40) (s_putr (rfl : vwCl[3]? = some (RX3, TX3, 8)) (by decide) (by decide) inG3 kw112 rfl tyX3 tyX3_ok nmX3 rfl rfl rfl (show parseFieldDescriptor "[I" = some (tyX3 3) by decide +kernel) (fun _ => rfl) (fun _ => rfl) dX3_init_37) ?_
  refine Sim.sq (p1 := 41) (s_aload_n rfl dX3_init_40) ?_
  refine Sim.sq (p1 := 44) (s_sipush (by decide +kernel) dX3_init_41) ?_
  refine Sim.sq (p1 := 46) (s_newi kw76 dX3_init_44) ?_
  refine Sim.sq (p1 := 49) (s_putr (rfl : vwCl[3]? = some (RX3, TX3, 8)) (by decide) (by decide) inG3 kw113 rfl tyX3 tyX3_ok nmX3 rfl rfl rfl (show parseFieldDescriptor "[I" = some (tyX3 4) by decide +kernel) (fun _ => rfl) (fun _ => rfl) dX3_init_46) ?_
  refine Sim.sq (p1 := 50) (s_aload_n rfl dX3_init_49) ?_
  refine Sim.sq (p1 := 53) (s_sipush (by decide +kernel) dX3_init_50) ?_
  refine Sim.sq (p1 := 55) (s_newi kw76 dX3_init_53) ?_
  refine Sim.sq (p1 := 58) (s_putr (rfl : vwCl[3]? = some (RX3, TX3, 8)) (by decide) (by decide) inG3 kw114 rfl tyX3 tyX3_ok nmX3 rfl rfl rfl (show parseFieldDescriptor "[I" = some (tyX3 5) by decide +kernel) (fun _ => rfl) (fun _ => rfl) dX3_init_55) ?_
  refine Sim.sq (p1 := 59) (s_aload_n rfl dX3_init_58) ?_
  refine Sim.sq (p1 := 60) (s_iconst (by decide +kernel) dX3_init_59) ?_
  refine Sim.sq (p1 := 63) (s_puti (rfl : vwCl[3]? = some (RX3, TX3, 8)) (by decide) (by decide) inG3 kw115 rfl tyX3 tyX3_ok nmX3 rfl (by decide +kernel) dX3_init_60) ?_
  refine Sim.sq (p1 := 64) (s_aload_n rfl dX3_init_63) ?_
  refine Sim.sq (p1 := 65) (s_iconst (by decide +kernel) dX3_init_64) ?_
  refine Sim.sq (p1 := 68) (s_puti (rfl : vwCl[3]? = some (RX3, TX3, 8)) (by decide) (by decide) inG3 kw117 rfl tyX3 tyX3_ok nmX3 rfl (by decide +kernel) dX3_init_65) ?_
  exact (s_vret rfl dX3_init_68)
set_option maxRecDepth 100000 in
set_option maxHeartbeats 4000000 in
theorem C_X3_init (l : Launch) : Ct l yX3_init cX3_init 1 none 1 20 m_X3_init := Ct_of (y := yX3_init) (by decide +kernel) S_X3_init
set_option maxRecDepth 100000 in
set_option maxHeartbeats 4000000 in
theorem S_J7_fill_53178 {l : Launch} : Sim l (fun _ => True) RJ7 "fill" cJ7_fill_53178 4 none 0 0 [] b_J7_fill_53178 0 21 := by
  unfold b_J7_fill_53178
  refine Sim.sq (p1 := 1) (s_iconst (by decide +kernel) dJ7_fill_53178_0) ?_
  refine Sim.sq (p1 := 2) (s_istore_n rfl (by decide) dJ7_fill_53178_1) ?_
  refine Sim.sq (p1 := 3) (s_aload_n rfl dJ7_fill_53178_2) ?_
  refine Sim.sq (p1 := 4) (s_alen dJ7_fill_53178_3) ?_
  refine Sim.sq (p1 := 5) (s_istore_n rfl (by decide) dJ7_fill_53178_4) ?_
  refine Sim.sq (p1 := 20) (Sim.lp ?_) ?_
  · refine Sim.sq (p1 := 6) (s_iload_n rfl dJ7_fill_53178_5) ?_
    refine Sim.sq (p1 := 7) (s_iload_n rfl dJ7_fill_53178_6) ?_
    refine Sim.bk ?_
    refine Sim.sq (p1 := 10) (s_icmp_ge dJ7_fill_53178_7 (by decide) rfl) ?_
    refine Sim.sq (p1 := 11) (s_aload_n rfl dJ7_fill_53178_10) ?_
    refine Sim.sq (p1 := 12) (s_iload_n rfl dJ7_fill_53178_11) ?_
    refine Sim.sq (p1 := 13) (s_iload_n rfl dJ7_fill_53178_12) ?_
    refine Sim.sq (p1 := 14) (s_iast dJ7_fill_53178_13) ?_
    refine Sim.sq (p1 := 17) (s_iinc (by decide +kernel) (by decide) dJ7_fill_53178_14) ?_
    exact (s_goto dJ7_fill_53178_17 (by decide) rfl)
  exact (s_vret rfl dJ7_fill_53178_20)
set_option maxRecDepth 100000 in
set_option maxHeartbeats 4000000 in
theorem C_J7_fill_53178 (l : Launch) : Ct l yJ7_fill_53178 cJ7_fill_53178 4 none 0 0 m_J7_fill_53178 := Ct_of (y := yJ7_fill_53178) (by decide +kernel) S_J7_fill_53178
set_option maxRecDepth 100000 in
set_option maxHeartbeats 4000000 in
theorem S_X2_init {l : Launch} : Sim l (fun _ => True) RX2 "<init>" cX2_init 1 none 1 23 [] b_X2_init 0 54 := by
  unfold b_X2_init
  refine Sim.sq (p1 := 1) (s_aload_n rfl dX2_init_0) ?_
  refine Sim.sq (p1 := 4) (s_oini (by decide) (by decide) kw141 kw30 kw31 dX2_init_1) ?_
  refine Sim.sq (p1 := 5) (s_aload_n rfl dX2_init_4) ?_
  refine Sim.sq (p1 := 6) (s_iconst (by decide +kernel) dX2_init_5) ?_
  refine Sim.sq (p1 := 8) (s_newi kw76 dX2_init_6) ?_
  refine Sim.sq (p1 := 11) (s_putr (rfl : vwCl[2]? = some (RX2, TX2, 7)) (by decide) (by decide) inG2 kw145 rfl tyX2 tyX2_ok nmX2 rfl rfl rfl (show parseFieldDescriptor "[I" = some (tyX2 0) by decide +kernel) (fun _ => rfl) (fun _ => rfl) dX2_init_8) ?_
  refine Sim.sq (p1 := 12) (s_aload_n rfl dX2_init_11) ?_
  refine Sim.sq (p1 := 13) (s_iconst (by decide +kernel) dX2_init_12) ?_
  refine Sim.sq (p1 := 15) (s_newi kw76 dX2_init_13) ?_
  refine Sim.sq (p1 := 18) (s_putr (rfl : vwCl[2]? = some (RX2, TX2, 7)) (by decide) (by decide) inG2 kw146 rfl tyX2 tyX2_ok nmX2 rfl rfl rfl (show parseFieldDescriptor "[I" = some (tyX2 1) by decide +kernel) (fun _ => rfl) (fun _ => rfl) dX2_init_15) ?_
  refine Sim.sq (p1 := 19) (s_aload_n rfl dX2_init_18) ?_
  refine Sim.sq (p1 := 20) (s_iconst (by decide +kernel) dX2_init_19) ?_
  refine Sim.sq (p1 := 23) (s_puti (rfl : vwCl[2]? = some (RX2, TX2, 7)) (by decide) (by decide) inG2 kw147 rfl tyX2 tyX2_ok nmX2 rfl (by decide +kernel) dX2_init_20) ?_
  refine Sim.sq (p1 := 24) (s_aload_n rfl dX2_init_23) ?_
  refine Sim.sq (p1 := 26) (s_bipush (by decide +kernel) dX2_init_24) ?_
  refine Sim.sq (p1 := 29) (s_puti (rfl : vwCl[2]? = some (RX2, TX2, 7)) (by decide) (by decide) inG2 kw149 rfl tyX2 tyX2_ok nmX2 rfl (by decide +kernel) dX2_init_26) ?_
  refine Sim.sq (p1 := 30) (s_aload_n rfl dX2_init_29) ?_
  refine Sim.sq (p1 := 31) (s_iconst (by decide +kernel) dX2_init_30) ?_
  refine Sim.sq (p1 := 34) (s_puti (rfl : vwCl[2]? = some (RX2, TX2, 7)) (by decide) (by decide) inG2 kw151 rfl tyX2 tyX2_ok nmX2 rfl (by decide +kernel) dX2_init_31) ?_
  refine Sim.sq (p1 := 35) (s_aload_n rfl dX2_init_34) ?_
  refine Sim.sq (p1 := 36) (s_iconst (by decide +kernel) dX2_init_35) ?_
  refine Sim.sq (p1 := 39) (s_puti (rfl : vwCl[2]? = some (RX2, TX2, 7)) (by decide) (by decide) inG2 kw153 rfl tyX2 tyX2_ok nmX2 rfl (by decide +kernel) dX2_init_36) ?_
  refine Sim.sq (p1 := 40) (s_aload_n rfl dX2_init_39) ?_
  refine Sim.sq (p1 := 41) (s_iconst (by decide +kernel) dX2_init_40) ?_
  refine Sim.sq (p1 := 44) (s_puti (rfl : vwCl[2]? = some (RX2, TX2, 7)) (by decide) (by decide) inG2 kw155 rfl tyX2 tyX2_ok nmX2 rfl (by decide +kernel) dX2_init_41) ?_
  refine Sim.sq (p1 := 45) (s_aload_n rfl dX2_init_44) ?_
  refine Sim.sq (p1 := 48) (s_getr (rfl : vwCl[2]? = some (RX2, TX2, 7)) (by decide) (by decide) inG2 kw145 rfl dX2_init_45) ?_
  refine Sim.sq (p1 := 50) (s_bipush (by decide +kernel) dX2_init_48) ?_
  refine Sim.sq (p1 := 53) (s_callS (y := yJ7_fill_53178) (C_J7_fill_53178 l) kw142 kw143 kw20 kw144 ⟨by decide +kernel, by decide +kernel, by decide +kernel⟩ ⟨by decide, by decide⟩ dX2_init_50) ?_
  exact (s_vret rfl dX2_init_53)
set_option maxRecDepth 100000 in
set_option maxHeartbeats 4000000 in
theorem C_X2_init (l : Launch) : Ct l yX2_init cX2_init 1 none 1 23 m_X2_init := Ct_of (y := yX2_init) (by decide +kernel) S_X2_init
set_option maxRecDepth 100000 in
set_option maxHeartbeats 4000000 in
theorem S_X0_init {l : Launch} : Sim l (fun _ => True) RX0 "<init>" cX0_init 2 none 2 43 [] b_X0_init 0 54 := by
  unfold b_X0_init
  refine Sim.sq (p1 := 1) (s_aload_n rfl dX0_init_0) ?_
  refine Sim.sq (p1 := 4) (s_oini (by decide) (by decide) kw177 kw30 kw31 dX0_init_1) ?_
  refine Sim.sq (p1 := 5) (s_aload_n rfl dX0_init_4) ?_
  refine Sim.sq (p1 := 7) (s_bipush (by decide +kernel) dX0_init_5) ?_
  refine Sim.sq (p1 := 10) (s_newq kw178 dX0_init_7) ?_
  refine Sim.sq (p1 := 13) (s_putr (rfl : vwCl[0]? = some (RX0, TX0, 3)) (by decide) (by decide) inG0 kw181 rfl tyX0 tyX0_ok nmX0 rfl rfl rfl (show parseFieldDescriptor "[LTextRopes$State;" = some (tyX0 0) by decide +kernel) (fun _ => rfl) (fun _ => rfl) dX0_init_10) ?_
  refine Sim.sq (p1 := 14) (s_aload_n rfl dX0_init_13) ?_
  refine Sim.sq (p1 := 15) (s_iconst (by decide +kernel) dX0_init_14) ?_
  refine Sim.sq (p1 := 18) (s_puti (rfl : vwCl[0]? = some (RX0, TX0, 3)) (by decide) (by decide) inG0 kw182 rfl tyX0 tyX0_ok nmX0 rfl (by decide +kernel) dX0_init_15) ?_
  refine Sim.sq (p1 := 19) (s_aload_n rfl dX0_init_18) ?_
  refine Sim.sq (p1 := 20) (s_iconst (by decide +kernel) dX0_init_19) ?_
  refine Sim.sq (p1 := 23) (s_puti (rfl : vwCl[0]? = some (RX0, TX0, 3)) (by decide) (by decide) inG0 kw183 rfl tyX0 tyX0_ok nmX0 rfl (by decide +kernel) dX0_init_20) ?_
  refine Sim.sq (p1 := 24) (s_iconst (by decide +kernel) dX0_init_23) ?_
  refine Sim.sq (p1 := 25) (s_istore_n rfl (by decide) dX0_init_24) ?_
  refine Sim.sq (p1 := 53) (Sim.lp ?_) ?_
  · refine Sim.sq (p1 := 26) (s_iload_n rfl dX0_init_25) ?_
    refine Sim.sq (p1 := 27) (s_aload_n rfl dX0_init_26) ?_
    refine Sim.sq (p1 := 30) (s_getr (rfl : vwCl[0]? = some (RX0, TX0, 3)) (by decide) (by decide) inG0 kw181 rfl dX0_init_27) ?_
    refine Sim.sq (p1 := 31) (s_alen dX0_init_30) ?_
    refine Sim.bk ?_
    refine Sim.sq (p1 := 34) (s_icmp_ge dX0_init_31 (by decide) rfl) ?_
    refine Sim.sq (p1 := 35) (s_aload_n rfl dX0_init_34) ?_
    refine Sim.sq (p1 := 38) (s_getr (rfl : vwCl[0]? = some (RX0, TX0, 3)) (by decide) (by decide) inG0 kw181 rfl dX0_init_35) ?_
    refine Sim.sq (p1 := 39) (s_iload_n rfl dX0_init_38) ?_
    refine Sim.sq (p1 := 42) (s_new (rfl : vwCl[2]? = some (RX2, TX2, 7)) (by decide) inG2 tyX2 tyX2_ok (by decide +kernel) kw178 kw137 kw19 dX0_init_39) ?_
    refine Sim.sq (p1 := 43) (s_dup dX0_init_42) ?_
    refine Sim.sq (p1 := 46) (s_callI (y := yX2_init) (C_X2_init l) kw180 kw139 kw19 kw140 rfl ⟨by decide +kernel, by decide +kernel, by decide +kernel⟩ ⟨by decide, by decide⟩ dX0_init_43) ?_
    refine Sim.sq (p1 := 47) (s_qst dX0_init_46) ?_
    refine Sim.sq (p1 := 50) (s_iinc (by decide +kernel) (by decide) dX0_init_47) ?_
    exact (s_goto dX0_init_50 (by decide) rfl)
  exact (s_vret rfl dX0_init_53)
set_option maxRecDepth 100000 in
set_option maxHeartbeats 4000000 in
theorem C_X0_init (l : Launch) : Ct l yX0_init cX0_init 2 none 2 43 m_X0_init := Ct_of (y := yX0_init) (by decide +kernel) S_X0_init
set_option maxRecDepth 100000 in
set_option maxHeartbeats 4000000 in
theorem S_X5_init {l : Launch} : Sim l (fun _ => True) RX5 "<init>" cX5_init 1 none 3 64 [] b_X5_init 0 107 := by
  unfold b_X5_init
  refine Sim.sq (p1 := 1) (s_aload_n rfl dX5_init_0) ?_
  refine Sim.sq (p1 := 4) (s_oini (by decide) (by decide) kw29 kw30 kw31 dX5_init_1) ?_
  refine Sim.sq (p1 := 5) (s_aload_n rfl dX5_init_4) ?_
  refine Sim.sq (p1 := 8) (s_new (rfl : vwCl[4]? = some (RX4, TX4, 6)) (by decide) inG4 tyX4 tyX4_ok (by decide +kernel) kw32 kw33 kw16 dX5_init_5) ?_
  refine Sim.sq (p1 := 9) (s_dup dX5_init_8) ?_
  refine Sim.sq (p1 := 12) (s_callIN (y := yX4_init) (C_X4_init l) kn34 kw35 kw16 kw36 rfl ⟨by decide +kernel, by decide +kernel, by decide +kernel⟩ ⟨by decide, by decide⟩ dX5_init_9) ?_
  refine Sim.sq (p1 := 15) (s_putr (rfl : vwCl[5]? = some (RX5, TX5, 11)) (by decide) (by decide) inG5 kw192 rfl tyX5 tyX5_ok nmX5 rfl rfl rfl (show parseFieldDescriptor "LTextRopes$Weaver;" = some (tyX5 0) by decide +kernel) (fun _ => rfl) (fun _ => rfl) dX5_init_12) ?_
  refine Sim.sq (p1 := 16) (s_aload_n rfl dX5_init_15) ?_
  refine Sim.sq (p1 := 17) (s_aload_n rfl dX5_init_16) ?_
  refine Sim.sq (p1 := 20) (s_getr (rfl : vwCl[5]? = some (RX5, TX5, 11)) (by decide) (by decide) inG5 kw192 rfl dX5_init_17) ?_
  refine Sim.sq (p1 := 23) (s_getrN (rfl : vwCl[4]? = some (RX4, TX4, 6)) (by decide) (by decide) inG4 kn80 rfl dX5_init_20) ?_
  refine Sim.sq (p1 := 26) (s_putr (rfl : vwCl[5]? = some (RX5, TX5, 11)) (by decide) (by decide) inG5 kw193 rfl tyX5 tyX5_ok nmX5 rfl rfl rfl (show parseFieldDescriptor "LTextRopes$Nodes;" = some (tyX5 1) by decide +kernel) (fun _ => rfl) (fun _ => rfl) dX5_init_23) ?_
  refine Sim.sq (p1 := 27) (s_aload_n rfl dX5_init_26) ?_
  refine Sim.sq (p1 := 30) (s_new (rfl : vwCl[3]? = some (RX3, TX3, 8)) (by decide) inG3 tyX3 tyX3_ok (by decide +kernel) kw101 kw102 kw18 dX5_init_27) ?_
  refine Sim.sq (p1 := 31) (s_dup dX5_init_30) ?_
  refine Sim.sq (p1 := 34) (s_callIN (y := yX3_init) (C_X3_init l) kn103 kw104 kw18 kw105 rfl ⟨by decide +kernel, by decide +kernel, by decide +kernel⟩ ⟨by decide, by decide⟩ dX5_init_31) ?_
  refine Sim.sq (p1 := 37) (s_putr (rfl : vwCl[5]? = some (RX5, TX5, 11)) (by decide) (by decide) inG5 kw194 rfl tyX5 tyX5_ok nmX5 rfl rfl rfl (show parseFieldDescriptor "LTextRopes$View;" = some (tyX5 2) by decide +kernel) (fun _ => rfl) (fun _ => rfl) dX5_init_34) ?_
  refine Sim.sq (p1 := 38) (s_aload_n rfl dX5_init_37) ?_
  refine Sim.sq (p1 := 41) (s_new (rfl : vwCl[3]? = some (RX3, TX3, 8)) (by decide) inG3 tyX3 tyX3_ok (by decide +kernel) kw101 kw102 kw18 dX5_init_38) ?_
  refine Sim.sq (p1 := 42) (s_dup dX5_init_41) ?_
  refine Sim.sq (p1 := 45) (s_callIN (y := yX3_init) (C_X3_init l) kn103 kw104 kw18 kw105 rfl ⟨by decide +kernel, by decide +kernel, by decide +kernel⟩ ⟨by decide, by decide⟩ dX5_init_42) ?_
  refine Sim.sq (p1 := 48) (s_putr (rfl : vwCl[5]? = some (RX5, TX5, 11)) (by decide) (by decide) inG5 kw195 rfl tyX5 tyX5_ok nmX5 rfl rfl rfl (show parseFieldDescriptor "LTextRopes$View;" = some (tyX5 3) by decide +kernel) (fun _ => rfl) (fun _ => rfl) dX5_init_45) ?_
  refine Sim.sq (p1 := 49) (s_aload_n rfl dX5_init_48) ?_
  refine Sim.sq (p1 := 52) (s_new (rfl : vwCl[2]? = some (RX2, TX2, 7)) (by decide) inG2 tyX2 tyX2_ok (by decide +kernel) kw136 kw137 kw19 dX5_init_49) ?_
  refine Sim.sq (p1 := 53) (s_dup dX5_init_52) ?_
  refine Sim.sq (p1 := 56) (s_callI (y := yX2_init) (C_X2_init l) kw138 kw139 kw19 kw140 rfl ⟨by decide +kernel, by decide +kernel, by decide +kernel⟩ ⟨by decide, by decide⟩ dX5_init_53) ?_
  refine Sim.sq (p1 := 59) (s_putr (rfl : vwCl[5]? = some (RX5, TX5, 11)) (by decide) (by decide) inG5 kw196 rfl tyX5 tyX5_ok nmX5 rfl rfl rfl (show parseFieldDescriptor "LTextRopes$State;" = some (tyX5 4) by decide +kernel) (fun _ => rfl) (fun _ => rfl) dX5_init_56) ?_
  refine Sim.sq (p1 := 60) (s_aload_n rfl dX5_init_59) ?_
  refine Sim.sq (p1 := 63) (s_new (rfl : vwCl[0]? = some (RX0, TX0, 3)) (by decide) inG0 tyX0 tyX0_ok (by decide +kernel) kw172 kw173 kw21 dX5_init_60) ?_
  refine Sim.sq (p1 := 64) (s_dup dX5_init_63) ?_
  refine Sim.sq (p1 := 67) (s_callI (y := yX0_init) (C_X0_init l) kw174 kw175 kw21 kw176 rfl ⟨by decide +kernel, by decide +kernel, by decide +kernel⟩ ⟨by decide, by decide⟩ dX5_init_64) ?_
  refine Sim.sq (p1 := 70) (s_putr (rfl : vwCl[5]? = some (RX5, TX5, 11)) (by decide) (by decide) inG5 kw197 rfl tyX5 tyX5_ok nmX5 rfl rfl rfl (show parseFieldDescriptor "LTextRopes$History;" = some (tyX5 5) by decide +kernel) (fun _ => rfl) (fun _ => rfl) dX5_init_67) ?_
  refine Sim.sq (p1 := 71) (s_aload_n rfl dX5_init_70) ?_
  refine Sim.sq (p1 := 72) (s_iconst (by decide +kernel) dX5_init_71) ?_
  refine Sim.sq (p1 := 74) (s_newi kw76 dX5_init_72) ?_
  refine Sim.sq (p1 := 77) (s_putr (rfl : vwCl[5]? = some (RX5, TX5, 11)) (by decide) (by decide) inG5 kw198 rfl tyX5 tyX5_ok nmX5 rfl rfl rfl (show parseFieldDescriptor "[I" = some (tyX5 6) by decide +kernel) (fun _ => rfl) (fun _ => rfl) dX5_init_74) ?_
  refine Sim.sq (p1 := 78) (s_aload_n rfl dX5_init_77) ?_
  refine Sim.sq (p1 := 79) (s_iconst (by decide +kernel) dX5_init_78) ?_
  refine Sim.sq (p1 := 81) (s_newz kw78 dX5_init_79) ?_
  refine Sim.sq (p1 := 84) (s_putr (rfl : vwCl[5]? = some (RX5, TX5, 11)) (by decide) (by decide) inG5 kw199 rfl tyX5 tyX5_ok nmX5 rfl rfl rfl (show parseFieldDescriptor "[Z" = some (tyX5 7) by decide +kernel) (fun _ => rfl) (fun _ => rfl) dX5_init_81) ?_
  refine Sim.sq (p1 := 85) (s_aload_n rfl dX5_init_84) ?_
  refine Sim.sq (p1 := 87) (s_bipush (by decide +kernel) dX5_init_85) ?_
  refine Sim.sq (p1 := 89) (s_newi kw76 dX5_init_87) ?_
  refine Sim.sq (p1 := 92) (s_putr (rfl : vwCl[5]? = some (RX5, TX5, 11)) (by decide) (by decide) inG5 kw200 rfl tyX5 tyX5_ok nmX5 rfl rfl rfl (show parseFieldDescriptor "[I" = some (tyX5 8) by decide +kernel) (fun _ => rfl) (fun _ => rfl) dX5_init_89) ?_
  refine Sim.sq (p1 := 93) (s_aload_n rfl dX5_init_92) ?_
  refine Sim.sq (p1 := 94) (s_iconst (by decide +kernel) dX5_init_93) ?_
  refine Sim.sq (p1 := 97) (s_puti (rfl : vwCl[5]? = some (RX5, TX5, 11)) (by decide) (by decide) inG5 kw201 rfl tyX5 tyX5_ok nmX5 rfl (by decide +kernel) dX5_init_94) ?_
  refine Sim.sq (p1 := 98) (s_aload_n rfl dX5_init_97) ?_
  refine Sim.sq (p1 := 101) (s_sipush (by decide +kernel) dX5_init_98) ?_
  refine Sim.sq (p1 := 103) (s_newi kw76 dX5_init_101) ?_
  refine Sim.sq (p1 := 106) (s_putr (rfl : vwCl[5]? = some (RX5, TX5, 11)) (by decide) (by decide) inG5 kw202 rfl tyX5 tyX5_ok nmX5 rfl rfl rfl (show parseFieldDescriptor "[I" = some (tyX5 10) by decide +kernel) (fun _ => rfl) (fun _ => rfl) dX5_init_103) ?_
  exact (s_vret rfl dX5_init_106)
set_option maxRecDepth 100000 in
set_option maxHeartbeats 4000000 in
theorem C_X5_init (l : Launch) : Ct l yX5_init cX5_init 1 none 3 64 m_X5_init := Ct_of (y := yX5_init) (by decide +kernel) S_X5_init
set_option maxRecDepth 100000 in
set_option maxHeartbeats 4000000 in
theorem S_L_cell {l : Launch} {b Ln : Nat} {xs : Nat → Int32} : Sim l (Esc b Ln xs) RL "cell" cL_cell 2 (some .int) 0 0 [] (b_L_cell b Ln xs) 0 22 := by
  unfold b_L_cell
  refine Sim.sq (p1 := 1) (s_iload_n rfl dL_cell_0) ?_
  refine Sim.sq (p1 := 2) (s_aloadS rfl dL_cell_1) ?_
  refine Sim.sq (p1 := 3) (s_slen dL_cell_2) ?_
  refine Sim.sq (p1 := 21) (Sim.bk ?_) ?_
  · refine Sim.sq (p1 := 12) (Sim.bk ?_) ?_
    · refine Sim.sq (p1 := 6) (s_icmp_ge dL_cell_3 (by decide) rfl) ?_
      refine Sim.sq (p1 := 7) (s_aloadS rfl dL_cell_6) ?_
      refine Sim.sq (p1 := 8) (s_iload_n rfl dL_cell_7) ?_
      refine Sim.sq (p1 := 9) (s_sld dL_cell_8) ?_
      exact (s_goto dL_cell_9 (by decide) rfl)
    refine Sim.sq (p1 := 14) (s_ldc kw502 dL_cell_12) ?_
    refine Sim.sq (p1 := 15) (s_iload_n rfl dL_cell_14) ?_
    refine Sim.sq (p1 := 16) (s_iconst (by decide +kernel) dL_cell_15) ?_
    refine Sim.sq (p1 := 17) (s_iadd dL_cell_16) ?_
    refine Sim.sq (p1 := 18) (s_imul dL_cell_17) ?_
    refine Sim.sq (p1 := 20) (s_ldc kw503 dL_cell_18) ?_
    exact (s_iadd dL_cell_20)
  exact (s_iret rfl dL_cell_21)
set_option maxRecDepth 100000 in
set_option maxHeartbeats 4000000 in
theorem C_L_cell (l : Launch) (b Ln : Nat) (xs : Nat → Int32) : CtE l b Ln xs yL_cell cL_cell 2 (some .int) 0 0 (m_L_cell b Ln xs) := CtE_of (y := yL_cell) (by decide +kernel) S_L_cell
set_option maxRecDepth 100000 in
set_option maxHeartbeats 4000000 in
theorem S_L_low {l : Launch} : Sim l (fun _ => True) RL "low" cL_low 2 (some .int) 0 0 [] b_L_low 0 7 := by
  unfold b_L_low
  refine Sim.sq (p1 := 1) (s_iload_n rfl dL_low_0) ?_
  refine Sim.sq (p1 := 3) (s_ldc kw507 dL_low_1) ?_
  refine Sim.sq (p1 := 4) (s_iand dL_low_3) ?_
  refine Sim.sq (p1 := 5) (s_iload_n rfl dL_low_4) ?_
  refine Sim.sq (p1 := 6) (s_irem dL_low_5) ?_
  exact (s_iret rfl dL_low_6)
set_option maxRecDepth 100000 in
set_option maxHeartbeats 4000000 in
theorem C_L_low (l : Launch) : Ct l yL_low cL_low 2 (some .int) 0 0 m_L_low := Ct_of (y := yL_low) (by decide +kernel) S_L_low
set_option maxRecDepth 100000 in
set_option maxHeartbeats 4000000 in
theorem S_J9_floorMod_7cf53 {l : Launch} : Sim l (fun _ => True) RJ9 "floorMod" cJ9_floorMod_7cf53 3 (some .int) 0 0 [] b_J9_floorMod_7cf53 0 20 := by
  unfold b_J9_floorMod_7cf53
  refine Sim.sq (p1 := 1) (s_iload_n rfl dJ9_floorMod_7cf53_0) ?_
  refine Sim.sq (p1 := 2) (s_iload_n rfl dJ9_floorMod_7cf53_1) ?_
  refine Sim.sq (p1 := 3) (s_irem dJ9_floorMod_7cf53_2) ?_
  refine Sim.sq (p1 := 4) (s_istore_n rfl (by decide) dJ9_floorMod_7cf53_3) ?_
  refine Sim.sq (p1 := 5) (s_iload_n rfl dJ9_floorMod_7cf53_4) ?_
  refine Sim.sq (p1 := 6) (s_iload_n rfl dJ9_floorMod_7cf53_5) ?_
  refine Sim.sq (p1 := 7) (s_ixor dJ9_floorMod_7cf53_6) ?_
  refine Sim.sq (p1 := 18) (Sim.bk ?_) ?_
  · refine Sim.sq (p1 := 10) (s_if_ge dJ9_floorMod_7cf53_7 (by decide) rfl) ?_
    refine Sim.sq (p1 := 11) (s_iload_n rfl dJ9_floorMod_7cf53_10) ?_
    refine Sim.sq (p1 := 14) (s_if_eq dJ9_floorMod_7cf53_11 (by decide) rfl) ?_
    refine Sim.sq (p1 := 15) (s_iload_n rfl dJ9_floorMod_7cf53_14) ?_
    refine Sim.sq (p1 := 16) (s_iload_n rfl dJ9_floorMod_7cf53_15) ?_
    refine Sim.sq (p1 := 17) (s_iadd dJ9_floorMod_7cf53_16) ?_
    exact (s_iret rfl dJ9_floorMod_7cf53_17)
  refine Sim.sq (p1 := 19) (s_iload_n rfl dJ9_floorMod_7cf53_18) ?_
  exact (s_iret rfl dJ9_floorMod_7cf53_19)
set_option maxRecDepth 100000 in
set_option maxHeartbeats 4000000 in
theorem C_J9_floorMod_7cf53 (l : Launch) : Ct l yJ9_floorMod_7cf53 cJ9_floorMod_7cf53 3 (some .int) 0 0 m_J9_floorMod_7cf53 := Ct_of (y := yJ9_floorMod_7cf53) (by decide +kernel) S_J9_floorMod_7cf53
set_option maxRecDepth 100000 in
set_option maxHeartbeats 4000000 in
theorem S_X0_savedState {l : Launch} : Sim l (fun _ => True) RX0 "savedState" cX0_savedState 3 (some (.object "TextRopes$State")) 1 22 [] b_X0_savedState 0 32 := by
  unfold b_X0_savedState
  refine Sim.sq (p1 := 1) (s_aload_n rfl dX0_savedState_0) ?_
  refine Sim.sq (p1 := 4) (s_geti (rfl : vwCl[0]? = some (RX0, TX0, 3)) (by decide) (by decide) inG0 kw182 rfl dX0_savedState_1) ?_
  refine Sim.sq (p1 := 5) (s_iload_n rfl dX0_savedState_4) ?_
  refine Sim.sq (p1 := 6) (s_iadd dX0_savedState_5) ?_
  refine Sim.sq (p1 := 8) (s_bipush (by decide +kernel) dX0_savedState_6) ?_
  refine Sim.sq (p1 := 11) (s_callS (y := yJ9_floorMod_7cf53) (C_J9_floorMod_7cf53 l) kw238 kw239 kw22 kw240 ⟨by decide +kernel, by decide +kernel, by decide +kernel⟩ ⟨by decide, by decide⟩ dX0_savedState_8) ?_
  refine Sim.sq (p1 := 12) (s_istore_n rfl (by decide) dX0_savedState_11) ?_
  refine Sim.sq (p1 := 13) (s_iload_n rfl dX0_savedState_12) ?_
  refine Sim.sq (p1 := 14) (s_aload_n rfl dX0_savedState_13) ?_
  refine Sim.sq (p1 := 17) (s_getr (rfl : vwCl[0]? = some (RX0, TX0, 3)) (by decide) (by decide) inG0 kw181 rfl dX0_savedState_14) ?_
  refine Sim.sq (p1 := 18) (s_alen dX0_savedState_17) ?_
  refine Sim.sq (p1 := 31) (Sim.bk ?_) ?_
  · refine Sim.sq (p1 := 30) (Sim.bk ?_) ?_
    · refine Sim.sq (p1 := 21) (s_icmp_ge dX0_savedState_18 (by decide) rfl) ?_
      refine Sim.sq (p1 := 22) (s_aload_n rfl dX0_savedState_21) ?_
      refine Sim.sq (p1 := 25) (s_getr (rfl : vwCl[0]? = some (RX0, TX0, 3)) (by decide) (by decide) inG0 kw181 rfl dX0_savedState_22) ?_
      refine Sim.sq (p1 := 26) (s_iload_n rfl dX0_savedState_25) ?_
      refine Sim.sq (p1 := 27) (s_qald dX0_savedState_26) ?_
      exact (s_goto dX0_savedState_27 (by decide) rfl)
    exact (s_null dX0_savedState_30)
  exact (s_aret rfl (Or.inl ⟨_, rfl⟩) dX0_savedState_31)
set_option maxRecDepth 100000 in
set_option maxHeartbeats 4000000 in
theorem C_X0_savedState (l : Launch) : Ct l yX0_savedState cX0_savedState 3 (some (.object "TextRopes$State")) 1 22 m_X0_savedState := Ct_of (y := yX0_savedState) (by decide +kernel) S_X0_savedState
set_option maxRecDepth 100000 in
set_option maxHeartbeats 4000000 in
theorem S_X2_takeFrom {l : Launch} : Sim l (fun _ => True) RX2 "takeFrom" cX2_takeFrom 2 none 1 200 [] b_X2_takeFrom 0 69 := by
  unfold b_X2_takeFrom
  refine Sim.sq (p1 := 1) (s_aload_n rfl dX2_takeFrom_0) ?_
  refine Sim.sq (p1 := 4) (s_getr (rfl : vwCl[2]? = some (RX2, TX2, 7)) (by decide) (by decide) inG2 kw145 rfl dX2_takeFrom_1) ?_
  refine Sim.sq (p1 := 5) (s_iconst (by decide +kernel) dX2_takeFrom_4) ?_
  refine Sim.sq (p1 := 6) (s_aload_n rfl dX2_takeFrom_5) ?_
  refine Sim.sq (p1 := 9) (s_getr (rfl : vwCl[2]? = some (RX2, TX2, 7)) (by decide) (by decide) inG2 kw145 rfl dX2_takeFrom_6) ?_
  refine Sim.sq (p1 := 10) (s_iconst (by decide +kernel) dX2_takeFrom_9) ?_
  refine Sim.sq (p1 := 11) (s_iconst (by decide +kernel) dX2_takeFrom_10) ?_
  refine Sim.sq (p1 := 14) (s_cpy (by decide) (by decide) kw245 kw247 kw246 kw23 dX2_takeFrom_11) ?_
  refine Sim.sq (p1 := 15) (s_aload_n rfl dX2_takeFrom_14) ?_
  refine Sim.sq (p1 := 18) (s_getr (rfl : vwCl[2]? = some (RX2, TX2, 7)) (by decide) (by decide) inG2 kw146 rfl dX2_takeFrom_15) ?_
  refine Sim.sq (p1 := 19) (s_iconst (by decide +kernel) dX2_takeFrom_18) ?_
  refine Sim.sq (p1 := 20) (s_aload_n rfl dX2_takeFrom_19) ?_
  refine Sim.sq (p1 := 23) (s_getr (rfl : vwCl[2]? = some (RX2, TX2, 7)) (by decide) (by decide) inG2 kw146 rfl dX2_takeFrom_20) ?_
  refine Sim.sq (p1 := 24) (s_iconst (by decide +kernel) dX2_takeFrom_23) ?_
  refine Sim.sq (p1 := 25) (s_iconst (by decide +kernel) dX2_takeFrom_24) ?_
  refine Sim.sq (p1 := 28) (s_cpy (by decide) (by decide) kw245 kw247 kw246 kw23 dX2_takeFrom_25) ?_
  refine Sim.sq (p1 := 29) (s_aload_n rfl dX2_takeFrom_28) ?_
  refine Sim.sq (p1 := 30) (s_aload_n rfl dX2_takeFrom_29) ?_
  refine Sim.sq (p1 := 33) (s_geti (rfl : vwCl[2]? = some (RX2, TX2, 7)) (by decide) (by decide) inG2 kw147 rfl dX2_takeFrom_30) ?_
  refine Sim.sq (p1 := 36) (s_puti (rfl : vwCl[2]? = some (RX2, TX2, 7)) (by decide) (by decide) inG2 kw147 rfl tyX2 tyX2_ok nmX2 rfl (by decide +kernel) dX2_takeFrom_33) ?_
  refine Sim.sq (p1 := 37) (s_aload_n rfl dX2_takeFrom_36) ?_
  refine Sim.sq (p1 := 38) (s_aload_n rfl dX2_takeFrom_37) ?_
  refine Sim.sq (p1 := 41) (s_geti (rfl : vwCl[2]? = some (RX2, TX2, 7)) (by decide) (by decide) inG2 kw149 rfl dX2_takeFrom_38) ?_
  refine Sim.sq (p1 := 44) (s_puti (rfl : vwCl[2]? = some (RX2, TX2, 7)) (by decide) (by decide) inG2 kw149 rfl tyX2 tyX2_ok nmX2 rfl (by decide +kernel) dX2_takeFrom_41) ?_
  refine Sim.sq (p1 := 45) (s_aload_n rfl dX2_takeFrom_44) ?_
  refine Sim.sq (p1 := 46) (s_aload_n rfl dX2_takeFrom_45) ?_
  refine Sim.sq (p1 := 49) (s_geti (rfl : vwCl[2]? = some (RX2, TX2, 7)) (by decide) (by decide) inG2 kw151 rfl dX2_takeFrom_46) ?_
  refine Sim.sq (p1 := 52) (s_puti (rfl : vwCl[2]? = some (RX2, TX2, 7)) (by decide) (by decide) inG2 kw151 rfl tyX2 tyX2_ok nmX2 rfl (by decide +kernel) dX2_takeFrom_49) ?_
  refine Sim.sq (p1 := 53) (s_aload_n rfl dX2_takeFrom_52) ?_
  refine Sim.sq (p1 := 54) (s_aload_n rfl dX2_takeFrom_53) ?_
  refine Sim.sq (p1 := 57) (s_geti (rfl : vwCl[2]? = some (RX2, TX2, 7)) (by decide) (by decide) inG2 kw153 rfl dX2_takeFrom_54) ?_
  refine Sim.sq (p1 := 60) (s_puti (rfl : vwCl[2]? = some (RX2, TX2, 7)) (by decide) (by decide) inG2 kw153 rfl tyX2 tyX2_ok nmX2 rfl (by decide +kernel) dX2_takeFrom_57) ?_
  refine Sim.sq (p1 := 61) (s_aload_n rfl dX2_takeFrom_60) ?_
  refine Sim.sq (p1 := 62) (s_aload_n rfl dX2_takeFrom_61) ?_
  refine Sim.sq (p1 := 65) (s_geti (rfl : vwCl[2]? = some (RX2, TX2, 7)) (by decide) (by decide) inG2 kw155 rfl dX2_takeFrom_62) ?_
  refine Sim.sq (p1 := 68) (s_puti (rfl : vwCl[2]? = some (RX2, TX2, 7)) (by decide) (by decide) inG2 kw155 rfl tyX2 tyX2_ok nmX2 rfl (by decide +kernel) dX2_takeFrom_65) ?_
  exact (s_vret rfl dX2_takeFrom_68)
set_option maxRecDepth 100000 in
set_option maxHeartbeats 4000000 in
theorem C_X2_takeFrom (l : Launch) : Ct l yX2_takeFrom cX2_takeFrom 2 none 1 200 m_X2_takeFrom := Ct_of (y := yX2_takeFrom) (by decide +kernel) S_X2_takeFrom
set_option maxRecDepth 100000 in
set_option maxHeartbeats 4000000 in
theorem S_X0_save {l : Launch} : Sim l (fun _ => True) RX0 "save" cX0_save 3 none 2 221 [] b_X0_save 0 61 := by
  unfold b_X0_save
  refine Sim.sq (p1 := 1) (s_aload_n rfl dX0_save_0) ?_
  refine Sim.sq (p1 := 4) (s_geti (rfl : vwCl[0]? = some (RX0, TX0, 3)) (by decide) (by decide) inG0 kw183 rfl dX0_save_1) ?_
  refine Sim.sq (p1 := 6) (s_bipush (by decide +kernel) dX0_save_4) ?_
  refine Sim.sq (p1 := 32) (Sim.bk ?_) ?_
  · refine Sim.sq (p1 := 9) (s_icmp_ne dX0_save_6 (by decide) rfl) ?_
    refine Sim.sq (p1 := 10) (s_aload_n rfl dX0_save_9) ?_
    refine Sim.sq (p1 := 11) (s_aload_n rfl dX0_save_10) ?_
    refine Sim.sq (p1 := 14) (s_geti (rfl : vwCl[0]? = some (RX0, TX0, 3)) (by decide) (by decide) inG0 kw182 rfl dX0_save_11) ?_
    refine Sim.sq (p1 := 15) (s_iconst (by decide +kernel) dX0_save_14) ?_
    refine Sim.sq (p1 := 16) (s_iadd dX0_save_15) ?_
    refine Sim.sq (p1 := 18) (s_bipush (by decide +kernel) dX0_save_16) ?_
    refine Sim.sq (p1 := 19) (s_irem dX0_save_18) ?_
    refine Sim.sq (p1 := 22) (s_puti (rfl : vwCl[0]? = some (RX0, TX0, 3)) (by decide) (by decide) inG0 kw182 rfl tyX0 tyX0_ok nmX0 rfl (by decide +kernel) dX0_save_19) ?_
    refine Sim.sq (p1 := 23) (s_aload_n rfl dX0_save_22) ?_
    refine Sim.sq (p1 := 24) (s_dup dX0_save_23) ?_
    refine Sim.sq (p1 := 27) (s_geti (rfl : vwCl[0]? = some (RX0, TX0, 3)) (by decide) (by decide) inG0 kw183 rfl dX0_save_24) ?_
    refine Sim.sq (p1 := 28) (s_iconst (by decide +kernel) dX0_save_27) ?_
    refine Sim.sq (p1 := 29) (s_isub dX0_save_28) ?_
    exact (s_puti (rfl : vwCl[0]? = some (RX0, TX0, 3)) (by decide) (by decide) inG0 kw183 rfl tyX0 tyX0_ok nmX0 rfl (by decide +kernel) dX0_save_29)
  refine Sim.sq (p1 := 33) (s_aload_n rfl dX0_save_32) ?_
  refine Sim.sq (p1 := 34) (s_aload_n rfl dX0_save_33) ?_
  refine Sim.sq (p1 := 37) (s_geti (rfl : vwCl[0]? = some (RX0, TX0, 3)) (by decide) (by decide) inG0 kw183 rfl dX0_save_34) ?_
  refine Sim.sq (p1 := 40) (s_callV (C_X0_savedState l) (rfl : vwCl[0]? = some (RX0, TX0, 3)) (by decide) kw234 kw235 kw236 kw21 kw237 ⟨rfl, by decide +kernel, by decide +kernel, by decide +kernel⟩ ⟨by decide, by decide⟩ shN0 dX0_save_37) ?_
  refine Sim.sq (p1 := 41) (s_astore_n rfl (by decide) dX0_save_40) ?_
  refine Sim.sq (p1 := 42) (s_aload_n rfl dX0_save_41) ?_
  refine Sim.sq (p1 := 60) (Sim.bk ?_) ?_
  · refine Sim.sq (p1 := 45) (s_ifnull dX0_save_42 (by decide) rfl) ?_
    refine Sim.sq (p1 := 46) (s_aload_n rfl dX0_save_45) ?_
    refine Sim.sq (p1 := 47) (s_aload_n rfl dX0_save_46) ?_
    refine Sim.sq (p1 := 50) (s_callV (C_X2_takeFrom l) (rfl : vwCl[2]? = some (RX2, TX2, 7)) (by decide) kw241 kw242 kw243 kw19 kw244 ⟨rfl, by decide +kernel, by decide +kernel, by decide +kernel⟩ ⟨by decide, by decide⟩ shN2 dX0_save_47) ?_
    refine Sim.sq (p1 := 51) (s_aload_n rfl dX0_save_50) ?_
    refine Sim.sq (p1 := 52) (s_dup dX0_save_51) ?_
    refine Sim.sq (p1 := 55) (s_geti (rfl : vwCl[0]? = some (RX0, TX0, 3)) (by decide) (by decide) inG0 kw183 rfl dX0_save_52) ?_
    refine Sim.sq (p1 := 56) (s_iconst (by decide +kernel) dX0_save_55) ?_
    refine Sim.sq (p1 := 57) (s_iadd dX0_save_56) ?_
    exact (s_puti (rfl : vwCl[0]? = some (RX0, TX0, 3)) (by decide) (by decide) inG0 kw183 rfl tyX0 tyX0_ok nmX0 rfl (by decide +kernel) dX0_save_57)
  exact (s_vret rfl dX0_save_60)
set_option maxRecDepth 100000 in
set_option maxHeartbeats 4000000 in
theorem C_X0_save (l : Launch) : Ct l yX0_save cX0_save 3 none 2 221 m_X0_save := Ct_of (y := yX0_save) (by decide +kernel) S_X0_save
set_option maxRecDepth 100000 in
set_option maxHeartbeats 4000000 in
theorem S_X5_setLeafSize {l : Launch} : Sim l (fun _ => True) RX5 "setLeafSize" cX5_setLeafSize 3 (some .int) 3 243 [] b_X5_setLeafSize 0 43 := by
  unfold b_X5_setLeafSize
  refine Sim.sq (p1 := 1) (s_iload_n rfl dX5_setLeafSize_0) ?_
  refine Sim.sq (p1 := 2) (s_iconst (by decide +kernel) dX5_setLeafSize_1) ?_
  refine Sim.sq (p1 := 14) (Sim.bk ?_) ?_
  · refine Sim.sq (p1 := 11) (Sim.bk ?_) ?_
    · refine Sim.sq (p1 := 5) (s_icmp_lt dX5_setLeafSize_2 (by decide) rfl) ?_
      refine Sim.sq (p1 := 6) (s_iload_n rfl dX5_setLeafSize_5) ?_
      refine Sim.sq (p1 := 8) (s_bipush (by decide +kernel) dX5_setLeafSize_6) ?_
      exact (s_icmp_le dX5_setLeafSize_8 (by decide) rfl)
    refine Sim.sq (p1 := 13) (s_bipush (by decide +kernel) dX5_setLeafSize_11) ?_
    exact (s_iret rfl dX5_setLeafSize_13)
  refine Sim.sq (p1 := 15) (s_aload_n rfl dX5_setLeafSize_14) ?_
  refine Sim.sq (p1 := 18) (s_getr (rfl : vwCl[5]? = some (RX5, TX5, 11)) (by decide) (by decide) inG5 kw196 rfl dX5_setLeafSize_15) ?_
  refine Sim.sq (p1 := 21) (s_getiN (rfl : vwCl[2]? = some (RX2, TX2, 7)) (by decide) (by decide) inG2 kn150 rfl dX5_setLeafSize_18) ?_
  refine Sim.sq (p1 := 22) (s_istore_n rfl (by decide) dX5_setLeafSize_21) ?_
  refine Sim.sq (p1 := 23) (s_aload_n rfl dX5_setLeafSize_22) ?_
  refine Sim.sq (p1 := 26) (s_getr (rfl : vwCl[5]? = some (RX5, TX5, 11)) (by decide) (by decide) inG5 kw197 rfl dX5_setLeafSize_23) ?_
  refine Sim.sq (p1 := 27) (s_aload_n rfl dX5_setLeafSize_26) ?_
  refine Sim.sq (p1 := 30) (s_getr (rfl : vwCl[5]? = some (RX5, TX5, 11)) (by decide) (by decide) inG5 kw196 rfl dX5_setLeafSize_27) ?_
  refine Sim.sq (p1 := 33) (s_callV (C_X0_save l) (rfl : vwCl[0]? = some (RX0, TX0, 3)) (by decide) kw230 kw231 kw232 kw21 kw233 ⟨rfl, by decide +kernel, by decide +kernel, by decide +kernel⟩ ⟨by decide, by decide⟩ shN0 dX5_setLeafSize_30) ?_
  refine Sim.sq (p1 := 34) (s_aload_n rfl dX5_setLeafSize_33) ?_
  refine Sim.sq (p1 := 37) (s_getr (rfl : vwCl[5]? = some (RX5, TX5, 11)) (by decide) (by decide) inG5 kw196 rfl dX5_setLeafSize_34) ?_
  refine Sim.sq (p1 := 38) (s_iload_n rfl dX5_setLeafSize_37) ?_
  refine Sim.sq (p1 := 41) (s_putiN (rfl : vwCl[2]? = some (RX2, TX2, 7)) (by decide) (by decide) inG2 kn150 rfl tyX2 tyX2_ok nmX2 rfl (by decide +kernel) dX5_setLeafSize_38) ?_
  refine Sim.sq (p1 := 42) (s_iload_n rfl dX5_setLeafSize_41) ?_
  exact (s_iret rfl dX5_setLeafSize_42)
set_option maxRecDepth 100000 in
set_option maxHeartbeats 4000000 in
theorem C_X5_setLeafSize (l : Launch) : Ct l yX5_setLeafSize cX5_setLeafSize 3 (some .int) 3 243 m_X5_setLeafSize := Ct_of (y := yX5_setLeafSize) (by decide +kernel) S_X5_setLeafSize
set_option maxRecDepth 100000 in
set_option maxHeartbeats 4000000 in
theorem S_X5_type {l : Launch} : Sim l (fun _ => True) RX5 "type" cX5_type 2 (some .int) 0 0 [] b_X5_type 0 68 := by
  unfold b_X5_type
  refine Sim.sq (p1 := 1) (s_iload_n rfl dX5_type_0) ?_
  refine Sim.sq (p1 := 3) (s_bipush (by decide +kernel) dX5_type_1) ?_
  refine Sim.sq (p1 := 21) (Sim.bk ?_) ?_
  · refine Sim.sq (p1 := 6) (s_icmp_eq dX5_type_3 (by decide) rfl) ?_
    refine Sim.sq (p1 := 7) (s_iload_n rfl dX5_type_6) ?_
    refine Sim.sq (p1 := 9) (s_bipush (by decide +kernel) dX5_type_7) ?_
    refine Sim.sq (p1 := 18) (Sim.bk ?_) ?_
    · refine Sim.sq (p1 := 12) (s_icmp_lt dX5_type_9 (by decide) rfl) ?_
      refine Sim.sq (p1 := 13) (s_iload_n rfl dX5_type_12) ?_
      refine Sim.sq (p1 := 15) (s_bipush (by decide +kernel) dX5_type_13) ?_
      exact (s_icmp_le dX5_type_15 (by decide) rfl)
    refine Sim.sq (p1 := 20) (s_bipush (by decide +kernel) dX5_type_18) ?_
    exact (s_iret rfl dX5_type_20)
  refine Sim.sq (p1 := 22) (s_aload_n rfl dX5_type_21) ?_
  refine Sim.sq (p1 := 25) (s_geti (rfl : vwCl[5]? = some (RX5, TX5, 11)) (by decide) (by decide) inG5 kw201 rfl dX5_type_22) ?_
  refine Sim.sq (p1 := 43) (Sim.bk ?_) ?_
  · refine Sim.sq (p1 := 40) (Sim.bk ?_) ?_
    · refine Sim.sq (p1 := 28) (s_if_lt dX5_type_25 (by decide) rfl) ?_
      refine Sim.sq (p1 := 29) (s_aload_n rfl dX5_type_28) ?_
      refine Sim.sq (p1 := 32) (s_geti (rfl : vwCl[5]? = some (RX5, TX5, 11)) (by decide) (by decide) inG5 kw201 rfl dX5_type_29) ?_
      refine Sim.sq (p1 := 33) (s_aload_n rfl dX5_type_32) ?_
      refine Sim.sq (p1 := 36) (s_getr (rfl : vwCl[5]? = some (RX5, TX5, 11)) (by decide) (by decide) inG5 kw200 rfl dX5_type_33) ?_
      refine Sim.sq (p1 := 37) (s_alen dX5_type_36) ?_
      exact (s_icmp_lt dX5_type_37 (by decide) rfl)
    refine Sim.sq (p1 := 42) (s_bipush (by decide +kernel) dX5_type_40) ?_
    exact (s_iret rfl dX5_type_42)
  refine Sim.sq (p1 := 44) (s_aload_n rfl dX5_type_43) ?_
  refine Sim.sq (p1 := 47) (s_getr (rfl : vwCl[5]? = some (RX5, TX5, 11)) (by decide) (by decide) inG5 kw200 rfl dX5_type_44) ?_
  refine Sim.sq (p1 := 48) (s_aload_n rfl dX5_type_47) ?_
  refine Sim.sq (p1 := 51) (s_geti (rfl : vwCl[5]? = some (RX5, TX5, 11)) (by decide) (by decide) inG5 kw201 rfl dX5_type_48) ?_
  refine Sim.sq (p1 := 52) (s_iload_n rfl dX5_type_51) ?_
  refine Sim.sq (p1 := 53) (s_iast dX5_type_52) ?_
  refine Sim.sq (p1 := 54) (s_aload_n rfl dX5_type_53) ?_
  refine Sim.sq (p1 := 55) (s_dup dX5_type_54) ?_
  refine Sim.sq (p1 := 58) (s_geti (rfl : vwCl[5]? = some (RX5, TX5, 11)) (by decide) (by decide) inG5 kw201 rfl dX5_type_55) ?_
  refine Sim.sq (p1 := 59) (s_iconst (by decide +kernel) dX5_type_58) ?_
  refine Sim.sq (p1 := 60) (s_iadd dX5_type_59) ?_
  refine Sim.sq (p1 := 63) (s_puti (rfl : vwCl[5]? = some (RX5, TX5, 11)) (by decide) (by decide) inG5 kw201 rfl tyX5 tyX5_ok nmX5 rfl (by decide +kernel) dX5_type_60) ?_
  refine Sim.sq (p1 := 64) (s_aload_n rfl dX5_type_63) ?_
  refine Sim.sq (p1 := 67) (s_geti (rfl : vwCl[5]? = some (RX5, TX5, 11)) (by decide) (by decide) inG5 kw201 rfl dX5_type_64) ?_
  exact (s_iret rfl dX5_type_67)
set_option maxRecDepth 100000 in
set_option maxHeartbeats 4000000 in
theorem C_X5_type (l : Launch) : Ct l yX5_type cX5_type 2 (some .int) 0 0 m_X5_type := Ct_of (y := yX5_type) (by decide +kernel) S_X5_type
set_option maxRecDepth 100000 in
set_option maxHeartbeats 4000000 in
theorem S_L_size {l : Launch} : Sim l (fun _ => True) RL "size" cL_size 2 (some .int) 0 0 [] b_L_size 0 7 := by
  unfold b_L_size
  refine Sim.sq (p1 := 1) (s_aload_n rfl dL_size_0) ?_
  refine Sim.sq (p1 := 2) (s_iload_n rfl dL_size_1) ?_
  refine Sim.sq (p1 := 3) (s_iald dL_size_2) ?_
  refine Sim.sq (p1 := 5) (s_bipush (by decide +kernel) dL_size_3) ?_
  refine Sim.sq (p1 := 6) (s_iand dL_size_5) ?_
  exact (s_iret rfl dL_size_6)
set_option maxRecDepth 100000 in
set_option maxHeartbeats 4000000 in
theorem C_L_size (l : Launch) : Ct l yL_size cL_size 2 (some .int) 0 0 m_L_size := Ct_of (y := yL_size) (by decide +kernel) S_L_size
set_option maxRecDepth 100000 in
set_option maxHeartbeats 4000000 in
theorem S_L_gap {l : Launch} : Sim l (fun _ => True) RL "gap" cL_gap 2 (some .int) 0 0 [] b_L_gap 0 6 := by
  unfold b_L_gap
  refine Sim.sq (p1 := 1) (s_aload_n rfl dL_gap_0) ?_
  refine Sim.sq (p1 := 2) (s_iload_n rfl dL_gap_1) ?_
  refine Sim.sq (p1 := 3) (s_iald dL_gap_2) ?_
  refine Sim.sq (p1 := 4) (s_iconst (by decide +kernel) dL_gap_3) ?_
  refine Sim.sq (p1 := 5) (s_ishr dL_gap_4) ?_
  exact (s_iret rfl dL_gap_5)
set_option maxRecDepth 100000 in
set_option maxHeartbeats 4000000 in
theorem C_L_gap (l : Launch) : Ct l yL_gap cL_gap 2 (some .int) 0 0 m_L_gap := Ct_of (y := yL_gap) (by decide +kernel) S_L_gap
set_option maxRecDepth 100000 in
set_option maxHeartbeats 4000000 in
theorem S_L_part {l : Launch} : Sim l (fun _ => True) RL "part" cL_part 6 (some (.array .int)) 1 21 [] b_L_part 0 68 := by
  unfold b_L_part b_L_part_t0 b_L_part_l0
  refine Sim.sq (p1 := 2) (s_bipush (by decide +kernel) dL_part_0) ?_
  refine Sim.sq (p1 := 4) (s_newi kw76 dL_part_2) ?_
  refine Sim.sq (p1 := 6) (s_astore (by decide) dL_part_4) ?_
  refine Sim.sq (p1 := 8) (s_aload dL_part_6) ?_
  refine Sim.sq (p1 := 10) (s_bipush (by decide +kernel) dL_part_8) ?_
  refine Sim.sq (p1 := 11) (s_iload_n rfl dL_part_10) ?_
  refine Sim.sq (p1 := 12) (s_iload_n rfl dL_part_11) ?_
  refine Sim.sq (p1 := 13) (s_isub dL_part_12) ?_
  refine Sim.sq (p1 := 14) (s_iast dL_part_13) ?_
  refine Sim.sq (p1 := 15) (s_iload_n rfl dL_part_14) ?_
  refine Sim.sq (p1 := 17) (s_istore (by decide) dL_part_15) ?_
  refine Sim.sq (p1 := 65) (Sim.lp ?_) ?_
  · refine Sim.sq (p1 := 19) (s_iload dL_part_17) ?_
    refine Sim.sq (p1 := 20) (s_iload_n rfl dL_part_19) ?_
    refine Sim.bk ?_
    refine Sim.sq (p1 := 23) (s_icmp_ge dL_part_20 (by decide) rfl) ?_
    refine Sim.sq (p1 := 25) (s_aload dL_part_23) ?_
    refine Sim.sq (p1 := 27) (s_iload dL_part_25) ?_
    refine Sim.sq (p1 := 28) (s_iload_n rfl dL_part_27) ?_
    refine Sim.sq (p1 := 29) (s_isub dL_part_28) ?_
    refine Sim.sq (p1 := 30) (s_aload_n rfl dL_part_29) ?_
    refine Sim.sq (p1 := 32) (s_iload dL_part_30) ?_
    refine Sim.sq (p1 := 35) (s_callS (y := yL_size) (C_L_size l) kw514 kw515 kw14 kw516 ⟨by decide +kernel, by decide +kernel, by decide +kernel⟩ ⟨by decide, by decide⟩ dL_part_32) ?_
    refine Sim.sq (p1 := 37) (s_iload dL_part_35) ?_
    refine Sim.sq (p1 := 38) (s_iload_n rfl dL_part_37) ?_
    refine Sim.sq (p1 := 39) (s_iconst (by decide +kernel) dL_part_38) ?_
    refine Sim.sq (p1 := 40) (s_isub dL_part_39) ?_
    refine Sim.sq (p1 := 57) (Sim.bk ?_) ?_
    · refine Sim.sq (p1 := 47) (Sim.bk ?_) ?_
      · refine Sim.sq (p1 := 43) (s_icmp_ne dL_part_40 (by decide) rfl) ?_
        refine Sim.sq (p1 := 44) (s_iconst (by decide +kernel) dL_part_43) ?_
        exact (s_goto dL_part_44 (by decide) rfl)
      refine Sim.sq (p1 := 48) (s_aload_n rfl dL_part_47) ?_
      refine Sim.sq (p1 := 50) (s_iload dL_part_48) ?_
      refine Sim.sq (p1 := 53) (s_callS (y := yL_gap) (C_L_gap l) kw517 kw518 kw14 kw519 ⟨by decide +kernel, by decide +kernel, by decide +kernel⟩ ⟨by decide, by decide⟩ dL_part_50) ?_
      refine Sim.sq (p1 := 54) (s_iload_n rfl dL_part_53) ?_
      refine Sim.sq (p1 := 55) (s_isub dL_part_54) ?_
      refine Sim.sq (p1 := 56) (s_iconst (by decide +kernel) dL_part_55) ?_
      exact (s_ishl dL_part_56)
    refine Sim.sq (p1 := 58) (s_ior dL_part_57) ?_
    refine Sim.sq (p1 := 59) (s_iast dL_part_58) ?_
    refine Sim.sq (p1 := 62) (s_iinc (by decide +kernel) (by decide) dL_part_59) ?_
    exact (s_goto dL_part_62 (by decide) rfl)
  refine Sim.sq (p1 := 67) (s_aload dL_part_65) ?_
  exact (s_aret rfl (Or.inr ⟨_, rfl⟩) dL_part_67)
set_option maxRecDepth 100000 in
set_option maxHeartbeats 4000000 in
theorem C_L_part (l : Launch) : Ct l yL_part cL_part 6 (some (.array .int)) 1 21 m_L_part := Ct_of (y := yL_part) (by decide +kernel) S_L_part
set_option maxRecDepth 100000 in
set_option maxHeartbeats 4000000 in
theorem S_L_parted {l : Launch} : Sim l (fun _ => True) RL "parted" cL_parted 5 (some .int) 1 21 [] b_L_parted 0 30 := by
  unfold b_L_parted b_L_parted_t0 b_L_parted_l0
  refine Sim.sq (p1 := 1) (s_iload_n rfl dL_parted_0) ?_
  refine Sim.sq (p1 := 3) (s_istore (by decide) dL_parted_1) ?_
  refine Sim.sq (p1 := 27) (Sim.lp ?_) ?_
  · refine Sim.sq (p1 := 5) (s_iload dL_parted_3) ?_
    refine Sim.sq (p1 := 6) (s_iload_n rfl dL_parted_5) ?_
    refine Sim.sq (p1 := 7) (s_iconst (by decide +kernel) dL_parted_6) ?_
    refine Sim.sq (p1 := 8) (s_isub dL_parted_7) ?_
    refine Sim.bk ?_
    refine Sim.sq (p1 := 11) (s_icmp_ge dL_parted_8 (by decide) rfl) ?_
    refine Sim.sq (p1 := 12) (s_aload_n rfl dL_parted_11) ?_
    refine Sim.sq (p1 := 14) (s_iload dL_parted_12) ?_
    refine Sim.sq (p1 := 17) (s_callS (y := yL_gap) (C_L_gap l) kw517 kw518 kw14 kw519 ⟨by decide +kernel, by decide +kernel, by decide +kernel⟩ ⟨by decide, by decide⟩ dL_parted_14) ?_
    refine Sim.sq (p1 := 18) (s_iload_n rfl dL_parted_17) ?_
    refine Sim.sq (p1 := 21) (s_icmp_eq dL_parted_18 (by decide) rfl) ?_
    refine Sim.sq (p1 := 24) (s_iinc (by decide +kernel) (by decide) dL_parted_21) ?_
    exact (s_goto dL_parted_24 (by decide) rfl)
  refine Sim.sq (p1 := 29) (s_iload dL_parted_27) ?_
  exact (s_iret rfl dL_parted_29)
set_option maxRecDepth 100000 in
set_option maxHeartbeats 4000000 in
theorem C_L_parted (l : Launch) : Ct l yL_parted cL_parted 5 (some .int) 1 21 m_L_parted := Ct_of (y := yL_parted) (by decide +kernel) S_L_parted
set_option maxRecDepth 100000 in
set_option maxHeartbeats 4000000 in
theorem S_L_join {l : Launch} : Sim l (fun _ => True) RL "join" cL_join 8 (some (.array .int)) 2 46 [] b_L_join 0 278 := by
  unfold b_L_join b_L_join_t1 b_L_join_t0 b_L_join_l1 b_L_join_l0
  refine Sim.sq (p1 := 1) (s_aload_n rfl dL_join_0) ?_
  refine Sim.sq (p1 := 3) (s_bipush (by decide +kernel) dL_join_1) ?_
  refine Sim.sq (p1 := 4) (s_iald dL_join_3) ?_
  refine Sim.sq (p1 := 5) (s_istore_n rfl (by decide) dL_join_4) ?_
  refine Sim.sq (p1 := 6) (s_aload_n rfl dL_join_5) ?_
  refine Sim.sq (p1 := 8) (s_bipush (by decide +kernel) dL_join_6) ?_
  refine Sim.sq (p1 := 9) (s_iald dL_join_8) ?_
  refine Sim.sq (p1 := 11) (s_istore (by decide) dL_join_9) ?_
  refine Sim.sq (p1 := 12) (s_iload_n rfl dL_join_11) ?_
  refine Sim.sq (p1 := 39) (Sim.bk ?_) ?_
  · refine Sim.sq (p1 := 20) (Sim.bk ?_) ?_
    · refine Sim.sq (p1 := 15) (s_if_eq dL_join_12 (by decide) rfl) ?_
      refine Sim.sq (p1 := 17) (s_iload dL_join_15) ?_
      exact (s_if_ne dL_join_17 (by decide) rfl)
    refine Sim.sq (p1 := 21) (s_iload_n rfl dL_join_20) ?_
    refine Sim.sq (p1 := 29) (Sim.bk ?_) ?_
    · refine Sim.sq (p1 := 28) (Sim.bk ?_) ?_
      · refine Sim.sq (p1 := 24) (s_if_ne dL_join_21 (by decide) rfl) ?_
        refine Sim.sq (p1 := 25) (s_aload_n rfl dL_join_24) ?_
        exact (s_goto dL_join_25 (by decide) rfl)
      exact (s_aload_n rfl dL_join_28)
    refine Sim.sq (p1 := 30) (s_iconst (by decide +kernel) dL_join_29) ?_
    refine Sim.sq (p1 := 31) (s_iload_n rfl dL_join_30) ?_
    refine Sim.sq (p1 := 33) (s_iload dL_join_31) ?_
    refine Sim.sq (p1 := 34) (s_iadd dL_join_33) ?_
    refine Sim.sq (p1 := 35) (s_iconst (by decide +kernel) dL_join_34) ?_
    refine Sim.sq (p1 := 38) (s_callS (y := yL_part) (C_L_part l) kw511 kw512 kw14 kw513 ⟨by decide +kernel, by decide +kernel, by decide +kernel⟩ ⟨by decide, by decide⟩ dL_join_35) ?_
    exact (s_aret rfl (Or.inr ⟨_, rfl⟩) dL_join_38)
  refine Sim.sq (p1 := 40) (s_aload_n rfl dL_join_39) ?_
  refine Sim.sq (p1 := 41) (s_iload_n rfl dL_join_40) ?_
  refine Sim.sq (p1 := 42) (s_iconst (by decide +kernel) dL_join_41) ?_
  refine Sim.sq (p1 := 43) (s_isub dL_join_42) ?_
  refine Sim.sq (p1 := 46) (s_callS (y := yL_size) (C_L_size l) kw514 kw515 kw14 kw516 ⟨by decide +kernel, by decide +kernel, by decide +kernel⟩ ⟨by decide, by decide⟩ dL_join_43) ?_
  refine Sim.sq (p1 := 47) (s_aload_n rfl dL_join_46) ?_
  refine Sim.sq (p1 := 48) (s_iconst (by decide +kernel) dL_join_47) ?_
  refine Sim.sq (p1 := 51) (s_callS (y := yL_size) (C_L_size l) kw514 kw515 kw14 kw516 ⟨by decide +kernel, by decide +kernel, by decide +kernel⟩ ⟨by decide, by decide⟩ dL_join_48) ?_
  refine Sim.sq (p1 := 52) (s_iadd dL_join_51) ?_
  refine Sim.sq (p1 := 53) (s_iload_n rfl dL_join_52) ?_
  refine Sim.sq (p1 := 61) (Sim.bk ?_) ?_
  · refine Sim.sq (p1 := 60) (Sim.bk ?_) ?_
    · refine Sim.sq (p1 := 56) (s_icmp_gt dL_join_53 (by decide) rfl) ?_
      refine Sim.sq (p1 := 57) (s_iconst (by decide +kernel) dL_join_56) ?_
      exact (s_goto dL_join_57 (by decide) rfl)
    exact (s_iconst (by decide +kernel) dL_join_60)
  refine Sim.sq (p1 := 63) (s_istore (by decide) dL_join_61) ?_
  refine Sim.sq (p1 := 65) (s_bipush (by decide +kernel) dL_join_63) ?_
  refine Sim.sq (p1 := 67) (s_newi kw76 dL_join_65) ?_
  refine Sim.sq (p1 := 69) (s_astore (by decide) dL_join_67) ?_
  refine Sim.sq (p1 := 71) (s_iload dL_join_69) ?_
  refine Sim.sq (p1 := 121) (Sim.bk ?_) ?_
  · refine Sim.sq (p1 := 74) (s_if_eq dL_join_71 (by decide) rfl) ?_
    refine Sim.sq (p1 := 76) (s_iload dL_join_74) ?_
    refine Sim.sq (p1 := 77) (s_iconst (by decide +kernel) dL_join_76) ?_
    refine Sim.sq (p1 := 80) (s_icmp_ne dL_join_77 (by decide) rfl) ?_
    refine Sim.sq (p1 := 81) (s_iload_n rfl dL_join_80) ?_
    refine Sim.sq (p1 := 82) (s_iconst (by decide +kernel) dL_join_81) ?_
    refine Sim.sq (p1 := 95) (Sim.bk ?_) ?_
    · refine Sim.sq (p1 := 85) (s_icmp_eq dL_join_82 (by decide) rfl) ?_
      refine Sim.sq (p1 := 86) (s_aload_n rfl dL_join_85) ?_
      refine Sim.sq (p1 := 87) (s_iload_n rfl dL_join_86) ?_
      refine Sim.sq (p1 := 88) (s_iconst (by decide +kernel) dL_join_87) ?_
      refine Sim.sq (p1 := 89) (s_isub dL_join_88) ?_
      refine Sim.sq (p1 := 92) (s_callS (y := yL_gap) (C_L_gap l) kw517 kw518 kw14 kw519 ⟨by decide +kernel, by decide +kernel, by decide +kernel⟩ ⟨by decide, by decide⟩ dL_join_89) ?_
      exact (s_if_ne dL_join_92 (by decide) rfl)
    refine Sim.sq (p1 := 96) (s_aload_n rfl dL_join_95) ?_
    refine Sim.sq (p1 := 97) (s_iconst (by decide +kernel) dL_join_96) ?_
    refine Sim.sq (p1 := 98) (s_iload_n rfl dL_join_97) ?_
    refine Sim.sq (p1 := 99) (s_iconst (by decide +kernel) dL_join_98) ?_
    refine Sim.sq (p1 := 102) (s_callS (y := yL_part) (C_L_part l) kw511 kw512 kw14 kw513 ⟨by decide +kernel, by decide +kernel, by decide +kernel⟩ ⟨by decide, by decide⟩ dL_join_99) ?_
    refine Sim.sq (p1 := 104) (s_astore (by decide) dL_join_102) ?_
    refine Sim.sq (p1 := 106) (s_aload dL_join_104) ?_
    refine Sim.sq (p1 := 107) (s_iload_n rfl dL_join_106) ?_
    refine Sim.sq (p1 := 108) (s_iconst (by decide +kernel) dL_join_107) ?_
    refine Sim.sq (p1 := 109) (s_isub dL_join_108) ?_
    refine Sim.sq (p1 := 110) (s_dup2 dL_join_109) ?_
    refine Sim.sq (p1 := 111) (s_iald dL_join_110) ?_
    refine Sim.sq (p1 := 112) (s_aload_n rfl dL_join_111) ?_
    refine Sim.sq (p1 := 113) (s_iconst (by decide +kernel) dL_join_112) ?_
    refine Sim.sq (p1 := 116) (s_callS (y := yL_size) (C_L_size l) kw514 kw515 kw14 kw516 ⟨by decide +kernel, by decide +kernel, by decide +kernel⟩ ⟨by decide, by decide⟩ dL_join_113) ?_
    refine Sim.sq (p1 := 117) (s_iadd dL_join_116) ?_
    refine Sim.sq (p1 := 118) (s_iast dL_join_117) ?_
    refine Sim.sq (p1 := 120) (s_aload dL_join_118) ?_
    exact (s_aret rfl (Or.inr ⟨_, rfl⟩) dL_join_120)
  refine Sim.sq (p1 := 123) (s_iload dL_join_121) ?_
  refine Sim.sq (p1 := 164) (Sim.bk ?_) ?_
  · refine Sim.sq (p1 := 126) (s_if_eq dL_join_123 (by decide) rfl) ?_
    refine Sim.sq (p1 := 127) (s_iload_n rfl dL_join_126) ?_
    refine Sim.sq (p1 := 128) (s_iconst (by decide +kernel) dL_join_127) ?_
    refine Sim.sq (p1 := 131) (s_icmp_ne dL_join_128 (by decide) rfl) ?_
    refine Sim.sq (p1 := 132) (s_aload_n rfl dL_join_131) ?_
    refine Sim.sq (p1 := 133) (s_iconst (by decide +kernel) dL_join_132) ?_
    refine Sim.sq (p1 := 136) (s_callS (y := yL_gap) (C_L_gap l) kw517 kw518 kw14 kw519 ⟨by decide +kernel, by decide +kernel, by decide +kernel⟩ ⟨by decide, by decide⟩ dL_join_133) ?_
    refine Sim.sq (p1 := 139) (s_if_ne dL_join_136 (by decide) rfl) ?_
    refine Sim.sq (p1 := 140) (s_aload_n rfl dL_join_139) ?_
    refine Sim.sq (p1 := 141) (s_iconst (by decide +kernel) dL_join_140) ?_
    refine Sim.sq (p1 := 143) (s_iload dL_join_141) ?_
    refine Sim.sq (p1 := 144) (s_iconst (by decide +kernel) dL_join_143) ?_
    refine Sim.sq (p1 := 147) (s_callS (y := yL_part) (C_L_part l) kw511 kw512 kw14 kw513 ⟨by decide +kernel, by decide +kernel, by decide +kernel⟩ ⟨by decide, by decide⟩ dL_join_144) ?_
    refine Sim.sq (p1 := 149) (s_astore (by decide) dL_join_147) ?_
    refine Sim.sq (p1 := 151) (s_aload dL_join_149) ?_
    refine Sim.sq (p1 := 152) (s_iconst (by decide +kernel) dL_join_151) ?_
    refine Sim.sq (p1 := 153) (s_dup2 dL_join_152) ?_
    refine Sim.sq (p1 := 154) (s_iald dL_join_153) ?_
    refine Sim.sq (p1 := 155) (s_aload_n rfl dL_join_154) ?_
    refine Sim.sq (p1 := 156) (s_iconst (by decide +kernel) dL_join_155) ?_
    refine Sim.sq (p1 := 159) (s_callS (y := yL_size) (C_L_size l) kw514 kw515 kw14 kw516 ⟨by decide +kernel, by decide +kernel, by decide +kernel⟩ ⟨by decide, by decide⟩ dL_join_156) ?_
    refine Sim.sq (p1 := 160) (s_iadd dL_join_159) ?_
    refine Sim.sq (p1 := 161) (s_iast dL_join_160) ?_
    refine Sim.sq (p1 := 163) (s_aload dL_join_161) ?_
    exact (s_aret rfl (Or.inr ⟨_, rfl⟩) dL_join_163)
  refine Sim.sq (p1 := 165) (s_iconst (by decide +kernel) dL_join_164) ?_
  refine Sim.sq (p1 := 167) (s_istore (by decide) dL_join_165) ?_
  refine Sim.sq (p1 := 213) (Sim.lp ?_) ?_
  · refine Sim.sq (p1 := 169) (s_iload dL_join_167) ?_
    refine Sim.sq (p1 := 170) (s_iload_n rfl dL_join_169) ?_
    refine Sim.bk ?_
    refine Sim.sq (p1 := 173) (s_icmp_ge dL_join_170 (by decide) rfl) ?_
    refine Sim.sq (p1 := 175) (s_aload dL_join_173) ?_
    refine Sim.sq (p1 := 177) (s_iload dL_join_175) ?_
    refine Sim.sq (p1 := 178) (s_aload_n rfl dL_join_177) ?_
    refine Sim.sq (p1 := 180) (s_iload dL_join_178) ?_
    refine Sim.sq (p1 := 183) (s_callS (y := yL_size) (C_L_size l) kw514 kw515 kw14 kw516 ⟨by decide +kernel, by decide +kernel, by decide +kernel⟩ ⟨by decide, by decide⟩ dL_join_180) ?_
    refine Sim.sq (p1 := 185) (s_iload dL_join_183) ?_
    refine Sim.sq (p1 := 186) (s_iload_n rfl dL_join_185) ?_
    refine Sim.sq (p1 := 187) (s_iconst (by decide +kernel) dL_join_186) ?_
    refine Sim.sq (p1 := 188) (s_isub dL_join_187) ?_
    refine Sim.sq (p1 := 205) (Sim.bk ?_) ?_
    · refine Sim.sq (p1 := 195) (Sim.bk ?_) ?_
      · refine Sim.sq (p1 := 191) (s_icmp_ne dL_join_188 (by decide) rfl) ?_
        refine Sim.sq (p1 := 192) (s_iconst (by decide +kernel) dL_join_191) ?_
        exact (s_goto dL_join_192 (by decide) rfl)
      refine Sim.sq (p1 := 196) (s_aload_n rfl dL_join_195) ?_
      refine Sim.sq (p1 := 198) (s_iload dL_join_196) ?_
      refine Sim.sq (p1 := 201) (s_callS (y := yL_gap) (C_L_gap l) kw517 kw518 kw14 kw519 ⟨by decide +kernel, by decide +kernel, by decide +kernel⟩ ⟨by decide, by decide⟩ dL_join_198) ?_
      refine Sim.sq (p1 := 202) (s_iconst (by decide +kernel) dL_join_201) ?_
      refine Sim.sq (p1 := 203) (s_iadd dL_join_202) ?_
      refine Sim.sq (p1 := 204) (s_iconst (by decide +kernel) dL_join_203) ?_
      exact (s_ishl dL_join_204)
    refine Sim.sq (p1 := 206) (s_ior dL_join_205) ?_
    refine Sim.sq (p1 := 207) (s_iast dL_join_206) ?_
    refine Sim.sq (p1 := 210) (s_iinc (by decide +kernel) (by decide) dL_join_207) ?_
    exact (s_goto dL_join_210 (by decide) rfl)
  refine Sim.sq (p1 := 214) (s_iconst (by decide +kernel) dL_join_213) ?_
  refine Sim.sq (p1 := 216) (s_istore (by decide) dL_join_214) ?_
  refine Sim.sq (p1 := 266) (Sim.lp ?_) ?_
  · refine Sim.sq (p1 := 218) (s_iload dL_join_216) ?_
    refine Sim.sq (p1 := 220) (s_iload dL_join_218) ?_
    refine Sim.bk ?_
    refine Sim.sq (p1 := 223) (s_icmp_ge dL_join_220 (by decide) rfl) ?_
    refine Sim.sq (p1 := 225) (s_aload dL_join_223) ?_
    refine Sim.sq (p1 := 226) (s_iload_n rfl dL_join_225) ?_
    refine Sim.sq (p1 := 228) (s_iload dL_join_226) ?_
    refine Sim.sq (p1 := 229) (s_iadd dL_join_228) ?_
    refine Sim.sq (p1 := 230) (s_aload_n rfl dL_join_229) ?_
    refine Sim.sq (p1 := 232) (s_iload dL_join_230) ?_
    refine Sim.sq (p1 := 235) (s_callS (y := yL_size) (C_L_size l) kw514 kw515 kw14 kw516 ⟨by decide +kernel, by decide +kernel, by decide +kernel⟩ ⟨by decide, by decide⟩ dL_join_232) ?_
    refine Sim.sq (p1 := 237) (s_iload dL_join_235) ?_
    refine Sim.sq (p1 := 239) (s_iload dL_join_237) ?_
    refine Sim.sq (p1 := 240) (s_iconst (by decide +kernel) dL_join_239) ?_
    refine Sim.sq (p1 := 241) (s_isub dL_join_240) ?_
    refine Sim.sq (p1 := 258) (Sim.bk ?_) ?_
    · refine Sim.sq (p1 := 248) (Sim.bk ?_) ?_
      · refine Sim.sq (p1 := 244) (s_icmp_ne dL_join_241 (by decide) rfl) ?_
        refine Sim.sq (p1 := 245) (s_iconst (by decide +kernel) dL_join_244) ?_
        exact (s_goto dL_join_245 (by decide) rfl)
      refine Sim.sq (p1 := 249) (s_aload_n rfl dL_join_248) ?_
      refine Sim.sq (p1 := 251) (s_iload dL_join_249) ?_
      refine Sim.sq (p1 := 254) (s_callS (y := yL_gap) (C_L_gap l) kw517 kw518 kw14 kw519 ⟨by decide +kernel, by decide +kernel, by decide +kernel⟩ ⟨by decide, by decide⟩ dL_join_251) ?_
      refine Sim.sq (p1 := 255) (s_iconst (by decide +kernel) dL_join_254) ?_
      refine Sim.sq (p1 := 256) (s_iadd dL_join_255) ?_
      refine Sim.sq (p1 := 257) (s_iconst (by decide +kernel) dL_join_256) ?_
      exact (s_ishl dL_join_257)
    refine Sim.sq (p1 := 259) (s_ior dL_join_258) ?_
    refine Sim.sq (p1 := 260) (s_iast dL_join_259) ?_
    refine Sim.sq (p1 := 263) (s_iinc (by decide +kernel) (by decide) dL_join_260) ?_
    exact (s_goto dL_join_263 (by decide) rfl)
  refine Sim.sq (p1 := 268) (s_aload dL_join_266) ?_
  refine Sim.sq (p1 := 270) (s_bipush (by decide +kernel) dL_join_268) ?_
  refine Sim.sq (p1 := 271) (s_iload_n rfl dL_join_270) ?_
  refine Sim.sq (p1 := 273) (s_iload dL_join_271) ?_
  refine Sim.sq (p1 := 274) (s_iadd dL_join_273) ?_
  refine Sim.sq (p1 := 275) (s_iast dL_join_274) ?_
  refine Sim.sq (p1 := 277) (s_aload dL_join_275) ?_
  exact (s_aret rfl (Or.inr ⟨_, rfl⟩) dL_join_277)
set_option maxRecDepth 100000 in
set_option maxHeartbeats 4000000 in
theorem C_L_join (l : Launch) : Ct l yL_join cL_join 8 (some (.array .int)) 2 46 m_L_join := Ct_of (y := yL_join) (by decide +kernel) S_L_join
set_option maxRecDepth 100000 in
set_option maxHeartbeats 4000000 in
theorem S_L_split {l : Launch} : Sim l (fun _ => True) RL "split" cL_split 16 (some (.array .int)) 3 73 [] b_L_split 0 424 := by
  unfold b_L_split b_L_split_t3 b_L_split_t2 b_L_split_t1 b_L_split_l3 b_L_split_l2 b_L_split_t0 b_L_split_l1 b_L_split_l0
  refine Sim.sq (p1 := 1) (s_iconst (by decide +kernel) dL_split_0) ?_
  refine Sim.sq (p1 := 3) (s_istore (by decide) dL_split_1) ?_
  refine Sim.sq (p1 := 4) (s_iconst (by decide +kernel) dL_split_3) ?_
  refine Sim.sq (p1 := 6) (s_istore (by decide) dL_split_4) ?_
  refine Sim.sq (p1 := 32) (Sim.lp ?_) ?_
  · refine Sim.sq (p1 := 8) (s_iload dL_split_6) ?_
    refine Sim.sq (p1 := 9) (s_aload_n rfl dL_split_8) ?_
    refine Sim.sq (p1 := 11) (s_bipush (by decide +kernel) dL_split_9) ?_
    refine Sim.sq (p1 := 12) (s_iald dL_split_11) ?_
    refine Sim.bk ?_
    refine Sim.sq (p1 := 15) (s_icmp_ge dL_split_12 (by decide) rfl) ?_
    refine Sim.sq (p1 := 17) (s_iload dL_split_15) ?_
    refine Sim.sq (p1 := 18) (s_aload_n rfl dL_split_17) ?_
    refine Sim.sq (p1 := 20) (s_iload dL_split_18) ?_
    refine Sim.sq (p1 := 23) (s_callS (y := yL_size) (C_L_size l) kw514 kw515 kw14 kw516 ⟨by decide +kernel, by decide +kernel, by decide +kernel⟩ ⟨by decide, by decide⟩ dL_split_20) ?_
    refine Sim.sq (p1 := 24) (s_iadd dL_split_23) ?_
    refine Sim.sq (p1 := 26) (s_istore (by decide) dL_split_24) ?_
    refine Sim.sq (p1 := 29) (s_iinc (by decide +kernel) (by decide) dL_split_26) ?_
    exact (s_goto dL_split_29 (by decide) rfl)
  refine Sim.sq (p1 := 33) (s_iload_n rfl dL_split_32) ?_
  refine Sim.sq (p1 := 73) (Sim.bk ?_) ?_
  · refine Sim.sq (p1 := 42) (Sim.bk ?_) ?_
    · refine Sim.sq (p1 := 36) (s_if_eq dL_split_33 (by decide) rfl) ?_
      refine Sim.sq (p1 := 37) (s_iload_n rfl dL_split_36) ?_
      refine Sim.sq (p1 := 39) (s_iload dL_split_37) ?_
      exact (s_icmp_ne dL_split_39 (by decide) rfl)
    refine Sim.sq (p1 := 43) (s_iload_n rfl dL_split_42) ?_
    refine Sim.sq (p1 := 51) (Sim.bk ?_) ?_
    · refine Sim.sq (p1 := 50) (Sim.bk ?_) ?_
      · refine Sim.sq (p1 := 46) (s_if_ne dL_split_43 (by decide) rfl) ?_
        refine Sim.sq (p1 := 47) (s_iconst (by decide +kernel) dL_split_46) ?_
        exact (s_goto dL_split_47 (by decide) rfl)
      exact (s_iconst (by decide +kernel) dL_split_50)
    refine Sim.sq (p1 := 52) (s_iload_n rfl dL_split_51) ?_
    refine Sim.sq (p1 := 72) (Sim.bk ?_) ?_
    · refine Sim.sq (p1 := 62) (Sim.bk ?_) ?_
      · refine Sim.sq (p1 := 55) (s_icmp_ne dL_split_52 (by decide) rfl) ?_
        refine Sim.sq (p1 := 57) (s_bipush (by decide +kernel) dL_split_55) ?_
        refine Sim.sq (p1 := 59) (s_newi kw76 dL_split_57) ?_
        exact (s_goto dL_split_59 (by decide) rfl)
      refine Sim.sq (p1 := 63) (s_aload_n rfl dL_split_62) ?_
      refine Sim.sq (p1 := 64) (s_iconst (by decide +kernel) dL_split_63) ?_
      refine Sim.sq (p1 := 65) (s_aload_n rfl dL_split_64) ?_
      refine Sim.sq (p1 := 67) (s_bipush (by decide +kernel) dL_split_65) ?_
      refine Sim.sq (p1 := 68) (s_iald dL_split_67) ?_
      refine Sim.sq (p1 := 69) (s_iconst (by decide +kernel) dL_split_68) ?_
      exact (s_callS (y := yL_part) (C_L_part l) kw511 kw512 kw14 kw513 ⟨by decide +kernel, by decide +kernel, by decide +kernel⟩ ⟨by decide, by decide⟩ dL_split_69)
    exact (s_aret rfl (Or.inr ⟨_, rfl⟩) dL_split_72)
  refine Sim.sq (p1 := 74) (s_iconst (by decide +kernel) dL_split_73) ?_
  refine Sim.sq (p1 := 76) (s_istore (by decide) dL_split_74) ?_
  refine Sim.sq (p1 := 77) (s_aload_n rfl dL_split_76) ?_
  refine Sim.sq (p1 := 79) (s_bipush (by decide +kernel) dL_split_77) ?_
  refine Sim.sq (p1 := 80) (s_iald dL_split_79) ?_
  refine Sim.sq (p1 := 82) (s_istore (by decide) dL_split_80) ?_
  refine Sim.sq (p1 := 83) (s_iconst (by decide +kernel) dL_split_82) ?_
  refine Sim.sq (p1 := 85) (s_istore (by decide) dL_split_83) ?_
  refine Sim.sq (p1 := 86) (s_iload_n rfl dL_split_85) ?_
  refine Sim.sq (p1 := 88) (s_istore (by decide) dL_split_86) ?_
  refine Sim.sq (p1 := 89) (s_iconst (by decide +kernel) dL_split_88) ?_
  refine Sim.sq (p1 := 91) (s_istore (by decide) dL_split_89) ?_
  refine Sim.sq (p1 := 93) (s_bipush (by decide +kernel) dL_split_91) ?_
  refine Sim.sq (p1 := 95) (s_newi kw76 dL_split_93) ?_
  refine Sim.sq (p1 := 97) (s_astore (by decide) dL_split_95) ?_
  refine Sim.sq (p1 := 99) (s_bipush (by decide +kernel) dL_split_97) ?_
  refine Sim.sq (p1 := 101) (s_newi kw76 dL_split_99) ?_
  refine Sim.sq (p1 := 103) (s_astore (by decide) dL_split_101) ?_
  refine Sim.sq (p1 := 105) (s_bipush (by decide +kernel) dL_split_103) ?_
  refine Sim.sq (p1 := 107) (s_newi kw76 dL_split_105) ?_
  refine Sim.sq (p1 := 109) (s_astore (by decide) dL_split_107) ?_
  refine Sim.sq (p1 := 348) (Sim.lp ?_) ?_
  · refine Sim.sq (p1 := 111) (s_iload dL_split_109) ?_
    refine Sim.sq (p1 := 113) (s_iload dL_split_111) ?_
    refine Sim.sq (p1 := 114) (s_isub dL_split_113) ?_
    refine Sim.sq (p1 := 115) (s_iconst (by decide +kernel) dL_split_114) ?_
    refine Sim.bk ?_
    refine Sim.sq (p1 := 149) (Sim.bk ?_) ?_
    · refine Sim.sq (p1 := 118) (s_icmp_ne dL_split_115 (by decide) rfl) ?_
      refine Sim.sq (p1 := 120) (s_aload dL_split_118) ?_
      refine Sim.sq (p1 := 121) (s_iconst (by decide +kernel) dL_split_120) ?_
      refine Sim.sq (p1 := 122) (s_iload_n rfl dL_split_121) ?_
      refine Sim.sq (p1 := 139) (Sim.bk ?_) ?_
      · refine Sim.sq (p1 := 130) (Sim.bk ?_) ?_
        · refine Sim.sq (p1 := 125) (s_if_eq dL_split_122 (by decide) rfl) ?_
          refine Sim.sq (p1 := 127) (s_iload dL_split_125) ?_
          exact (s_goto dL_split_127 (by decide) rfl)
        refine Sim.sq (p1 := 131) (s_aload_n rfl dL_split_130) ?_
        refine Sim.sq (p1 := 133) (s_iload dL_split_131) ?_
        refine Sim.sq (p1 := 136) (s_callS (y := yL_size) (C_L_size l) kw514 kw515 kw14 kw516 ⟨by decide +kernel, by decide +kernel, by decide +kernel⟩ ⟨by decide, by decide⟩ dL_split_133) ?_
        refine Sim.sq (p1 := 138) (s_iload dL_split_136) ?_
        exact (s_isub dL_split_138)
      refine Sim.sq (p1 := 140) (s_iast dL_split_139) ?_
      refine Sim.sq (p1 := 142) (s_aload dL_split_140) ?_
      refine Sim.sq (p1 := 144) (s_bipush (by decide +kernel) dL_split_142) ?_
      refine Sim.sq (p1 := 145) (s_iconst (by decide +kernel) dL_split_144) ?_
      refine Sim.sq (p1 := 146) (s_iast dL_split_145) ?_
      exact (s_goto dL_split_146 (by decide) rfl)
    refine Sim.sq (p1 := 150) (s_aload_n rfl dL_split_149) ?_
    refine Sim.sq (p1 := 152) (s_iload dL_split_150) ?_
    refine Sim.sq (p1 := 154) (s_iload dL_split_152) ?_
    refine Sim.sq (p1 := 156) (s_iload dL_split_154) ?_
    refine Sim.sq (p1 := 159) (s_callS (y := yL_parted) (C_L_parted l) kw523 kw524 kw14 kw525 ⟨by decide +kernel, by decide +kernel, by decide +kernel⟩ ⟨by decide, by decide⟩ dL_split_156) ?_
    refine Sim.sq (p1 := 160) (s_iconst (by decide +kernel) dL_split_159) ?_
    refine Sim.sq (p1 := 161) (s_iadd dL_split_160) ?_
    refine Sim.sq (p1 := 163) (s_istore (by decide) dL_split_161) ?_
    refine Sim.sq (p1 := 164) (s_iconst (by decide +kernel) dL_split_163) ?_
    refine Sim.sq (p1 := 166) (s_istore (by decide) dL_split_164) ?_
    refine Sim.sq (p1 := 168) (s_iload dL_split_166) ?_
    refine Sim.sq (p1 := 170) (s_istore (by decide) dL_split_168) ?_
    refine Sim.sq (p1 := 194) (Sim.lp ?_) ?_
    · refine Sim.sq (p1 := 172) (s_iload dL_split_170) ?_
      refine Sim.sq (p1 := 174) (s_iload dL_split_172) ?_
      refine Sim.bk ?_
      refine Sim.sq (p1 := 177) (s_icmp_ge dL_split_174 (by decide) rfl) ?_
      refine Sim.sq (p1 := 179) (s_iload dL_split_177) ?_
      refine Sim.sq (p1 := 180) (s_aload_n rfl dL_split_179) ?_
      refine Sim.sq (p1 := 182) (s_iload dL_split_180) ?_
      refine Sim.sq (p1 := 185) (s_callS (y := yL_size) (C_L_size l) kw514 kw515 kw14 kw516 ⟨by decide +kernel, by decide +kernel, by decide +kernel⟩ ⟨by decide, by decide⟩ dL_split_182) ?_
      refine Sim.sq (p1 := 186) (s_iadd dL_split_185) ?_
      refine Sim.sq (p1 := 188) (s_istore (by decide) dL_split_186) ?_
      refine Sim.sq (p1 := 191) (s_iinc (by decide +kernel) (by decide) dL_split_188) ?_
      exact (s_goto dL_split_191 (by decide) rfl)
    refine Sim.sq (p1 := 196) (s_iload dL_split_194) ?_
    refine Sim.sq (p1 := 198) (s_iload dL_split_196) ?_
    refine Sim.sq (p1 := 237) (Sim.bk ?_) ?_
    · refine Sim.sq (p1 := 201) (s_icmp_ne dL_split_198 (by decide) rfl) ?_
      refine Sim.sq (p1 := 202) (s_iload_n rfl dL_split_201) ?_
      refine Sim.sq (p1 := 232) (Sim.bk ?_) ?_
      · refine Sim.sq (p1 := 220) (Sim.bk ?_) ?_
        · refine Sim.sq (p1 := 205) (s_if_eq dL_split_202 (by decide) rfl) ?_
          refine Sim.sq (p1 := 206) (s_aload_n rfl dL_split_205) ?_
          refine Sim.sq (p1 := 208) (s_iload dL_split_206) ?_
          refine Sim.sq (p1 := 210) (s_iload dL_split_208) ?_
          refine Sim.sq (p1 := 212) (s_iload dL_split_210) ?_
          refine Sim.sq (p1 := 213) (s_iconst (by decide +kernel) dL_split_212) ?_
          refine Sim.sq (p1 := 214) (s_iadd dL_split_213) ?_
          refine Sim.sq (p1 := 217) (s_callS (y := yL_part) (C_L_part l) kw511 kw512 kw14 kw513 ⟨by decide +kernel, by decide +kernel, by decide +kernel⟩ ⟨by decide, by decide⟩ dL_split_214) ?_
          exact (s_goto dL_split_217 (by decide) rfl)
        refine Sim.sq (p1 := 221) (s_aload_n rfl dL_split_220) ?_
        refine Sim.sq (p1 := 223) (s_iload dL_split_221) ?_
        refine Sim.sq (p1 := 225) (s_iload dL_split_223) ?_
        refine Sim.sq (p1 := 227) (s_iload dL_split_225) ?_
        refine Sim.sq (p1 := 228) (s_iconst (by decide +kernel) dL_split_227) ?_
        refine Sim.sq (p1 := 229) (s_iadd dL_split_228) ?_
        exact (s_callS (y := yL_part) (C_L_part l) kw511 kw512 kw14 kw513 ⟨by decide +kernel, by decide +kernel, by decide +kernel⟩ ⟨by decide, by decide⟩ dL_split_229)
      refine Sim.sq (p1 := 234) (s_astore (by decide) dL_split_232) ?_
      exact (s_goto dL_split_234 (by decide) rfl)
    refine Sim.sq (p1 := 239) (s_iload dL_split_237) ?_
    refine Sim.sq (p1 := 241) (s_iload dL_split_239) ?_
    refine Sim.sq (p1 := 249) (Sim.bk ?_) ?_
    · refine Sim.sq (p1 := 248) (Sim.bk ?_) ?_
      · refine Sim.sq (p1 := 244) (s_icmp_ge dL_split_241 (by decide) rfl) ?_
        refine Sim.sq (p1 := 245) (s_iconst (by decide +kernel) dL_split_244) ?_
        exact (s_goto dL_split_245 (by decide) rfl)
      exact (s_iconst (by decide +kernel) dL_split_248)
    refine Sim.sq (p1 := 251) (s_istore (by decide) dL_split_249) ?_
    refine Sim.sq (p1 := 253) (s_aload dL_split_251) ?_
    refine Sim.sq (p1 := 255) (s_iload dL_split_253) ?_
    refine Sim.sq (p1 := 257) (s_iload dL_split_255) ?_
    refine Sim.sq (p1 := 258) (s_iload_n rfl dL_split_257) ?_
    refine Sim.sq (p1 := 277) (Sim.bk ?_) ?_
    · refine Sim.sq (p1 := 276) (Sim.bk ?_) ?_
      · refine Sim.sq (p1 := 261) (s_icmp_eq dL_split_258 (by decide) rfl) ?_
        refine Sim.sq (p1 := 263) (s_iload dL_split_261) ?_
        refine Sim.sq (p1 := 271) (Sim.bk ?_) ?_
        · refine Sim.sq (p1 := 266) (s_if_eq dL_split_263 (by decide) rfl) ?_
          refine Sim.sq (p1 := 268) (s_iload dL_split_266) ?_
          exact (s_goto dL_split_268 (by decide) rfl)
        refine Sim.sq (p1 := 273) (s_iload dL_split_271) ?_
        exact (s_goto dL_split_273 (by decide) rfl)
      exact (s_iconst (by decide +kernel) dL_split_276)
    refine Sim.sq (p1 := 278) (s_iast dL_split_277) ?_
    refine Sim.sq (p1 := 280) (s_aload dL_split_278) ?_
    refine Sim.sq (p1 := 282) (s_iload dL_split_280) ?_
    refine Sim.sq (p1 := 284) (s_iload dL_split_282) ?_
    refine Sim.sq (p1 := 294) (Sim.bk ?_) ?_
    · refine Sim.sq (p1 := 292) (Sim.bk ?_) ?_
      · refine Sim.sq (p1 := 287) (s_if_eq dL_split_284 (by decide) rfl) ?_
        refine Sim.sq (p1 := 289) (s_iload dL_split_287) ?_
        exact (s_goto dL_split_289 (by decide) rfl)
      exact (s_iload dL_split_292)
    refine Sim.sq (p1 := 295) (s_iast dL_split_294) ?_
    refine Sim.sq (p1 := 298) (s_iinc (by decide +kernel) (by decide) dL_split_295) ?_
    refine Sim.sq (p1 := 300) (s_iload dL_split_298) ?_
    refine Sim.sq (p1 := 302) (s_iload dL_split_300) ?_
    refine Sim.sq (p1 := 311) (Sim.bk ?_) ?_
    · refine Sim.sq (p1 := 309) (Sim.bk ?_) ?_
      · refine Sim.sq (p1 := 305) (s_if_eq dL_split_302 (by decide) rfl) ?_
        refine Sim.sq (p1 := 306) (s_iconst (by decide +kernel) dL_split_305) ?_
        exact (s_goto dL_split_306 (by decide) rfl)
      exact (s_iload dL_split_309)
    refine Sim.sq (p1 := 312) (s_isub dL_split_311) ?_
    refine Sim.sq (p1 := 314) (s_istore (by decide) dL_split_312) ?_
    refine Sim.sq (p1 := 316) (s_iload dL_split_314) ?_
    refine Sim.sq (p1 := 326) (Sim.bk ?_) ?_
    · refine Sim.sq (p1 := 324) (Sim.bk ?_) ?_
      · refine Sim.sq (p1 := 319) (s_if_eq dL_split_316 (by decide) rfl) ?_
        refine Sim.sq (p1 := 321) (s_iload dL_split_319) ?_
        exact (s_goto dL_split_321 (by decide) rfl)
      exact (s_iload dL_split_324)
    refine Sim.sq (p1 := 328) (s_istore (by decide) dL_split_326) ?_
    refine Sim.sq (p1 := 330) (s_iload dL_split_328) ?_
    refine Sim.sq (p1 := 340) (Sim.bk ?_) ?_
    · refine Sim.sq (p1 := 338) (Sim.bk ?_) ?_
      · refine Sim.sq (p1 := 333) (s_if_eq dL_split_330 (by decide) rfl) ?_
        refine Sim.sq (p1 := 335) (s_iload dL_split_333) ?_
        exact (s_goto dL_split_335 (by decide) rfl)
      exact (s_iload dL_split_338)
    refine Sim.sq (p1 := 342) (s_istore (by decide) dL_split_340) ?_
    refine Sim.sq (p1 := 345) (s_iinc (by decide +kernel) (by decide) dL_split_342) ?_
    exact (s_goto dL_split_345 (by decide) rfl)
  refine Sim.sq (p1 := 350) (s_iload dL_split_348) ?_
  refine Sim.sq (p1 := 351) (s_iconst (by decide +kernel) dL_split_350) ?_
  refine Sim.sq (p1 := 352) (s_isub dL_split_351) ?_
  refine Sim.sq (p1 := 354) (s_istore (by decide) dL_split_352) ?_
  refine Sim.sq (p1 := 421) (Sim.lp ?_) ?_
  · refine Sim.sq (p1 := 356) (s_iload dL_split_354) ?_
    refine Sim.bk ?_
    refine Sim.sq (p1 := 359) (s_if_lt dL_split_356 (by decide) rfl) ?_
    refine Sim.sq (p1 := 361) (s_aload dL_split_359) ?_
    refine Sim.sq (p1 := 363) (s_iload dL_split_361) ?_
    refine Sim.sq (p1 := 364) (s_iald dL_split_363) ?_
    refine Sim.sq (p1 := 415) (Sim.bk ?_) ?_
    · refine Sim.sq (p1 := 370) (Sim.bk ?_) ?_
      · refine Sim.sq (p1 := 367) (s_if_ge dL_split_364 (by decide) rfl) ?_
        exact (s_goto dL_split_367 (by decide) rfl)
      refine Sim.sq (p1 := 371) (s_aload_n rfl dL_split_370) ?_
      refine Sim.sq (p1 := 373) (s_aload dL_split_371) ?_
      refine Sim.sq (p1 := 375) (s_iload dL_split_373) ?_
      refine Sim.sq (p1 := 376) (s_iald dL_split_375) ?_
      refine Sim.sq (p1 := 378) (s_aload dL_split_376) ?_
      refine Sim.sq (p1 := 380) (s_iload dL_split_378) ?_
      refine Sim.sq (p1 := 381) (s_iald dL_split_380) ?_
      refine Sim.sq (p1 := 383) (s_iload dL_split_381) ?_
      refine Sim.sq (p1 := 384) (s_iconst (by decide +kernel) dL_split_383) ?_
      refine Sim.sq (p1 := 385) (s_iadd dL_split_384) ?_
      refine Sim.sq (p1 := 388) (s_callS (y := yL_part) (C_L_part l) kw511 kw512 kw14 kw513 ⟨by decide +kernel, by decide +kernel, by decide +kernel⟩ ⟨by decide, by decide⟩ dL_split_385) ?_
      refine Sim.sq (p1 := 390) (s_astore (by decide) dL_split_388) ?_
      refine Sim.sq (p1 := 391) (s_iload_n rfl dL_split_390) ?_
      refine Sim.sq (p1 := 413) (Sim.bk ?_) ?_
      · refine Sim.sq (p1 := 405) (Sim.bk ?_) ?_
        · refine Sim.sq (p1 := 394) (s_if_eq dL_split_391 (by decide) rfl) ?_
          refine Sim.sq (p1 := 396) (s_aload dL_split_394) ?_
          refine Sim.sq (p1 := 398) (s_aload dL_split_396) ?_
          refine Sim.sq (p1 := 399) (s_iload_n rfl dL_split_398) ?_
          refine Sim.sq (p1 := 402) (s_callS (y := yL_join) (C_L_join l) kw508 kw509 kw14 kw510 ⟨by decide +kernel, by decide +kernel, by decide +kernel⟩ ⟨by decide, by decide⟩ dL_split_399) ?_
          exact (s_goto dL_split_402 (by decide) rfl)
        refine Sim.sq (p1 := 407) (s_aload dL_split_405) ?_
        refine Sim.sq (p1 := 409) (s_aload dL_split_407) ?_
        refine Sim.sq (p1 := 410) (s_iload_n rfl dL_split_409) ?_
        exact (s_callS (y := yL_join) (C_L_join l) kw508 kw509 kw14 kw510 ⟨by decide +kernel, by decide +kernel, by decide +kernel⟩ ⟨by decide, by decide⟩ dL_split_410)
      exact (s_astore (by decide) dL_split_413)
    refine Sim.sq (p1 := 418) (s_iinc (by decide +kernel) (by decide) dL_split_415) ?_
    exact (s_goto dL_split_418 (by decide) rfl)
  refine Sim.sq (p1 := 423) (s_aload dL_split_421) ?_
  exact (s_aret rfl (Or.inr ⟨_, rfl⟩) dL_split_423)
set_option maxRecDepth 100000 in
set_option maxHeartbeats 4000000 in
theorem C_L_split (l : Launch) : Ct l yL_split cL_split 16 (some (.array .int)) 3 73 m_L_split := Ct_of (y := yL_split) (by decide +kernel) S_L_split
set_option maxRecDepth 100000 in
set_option maxHeartbeats 4000000 in
theorem S_L_build {l : Launch} : Sim l (fun _ => True) RL "build" cL_build 7 none 1 21 [] b_L_build 0 125 := by
  unfold b_L_build b_L_build_t1 b_L_build_l1 b_L_build_t0 b_L_build_l0
  refine Sim.sq (p1 := 1) (s_iconst (by decide +kernel) dL_build_0) ?_
  refine Sim.sq (p1 := 2) (s_istore_n rfl (by decide) dL_build_1) ?_
  refine Sim.sq (p1 := 124) (Sim.lp ?_) ?_
  · refine Sim.sq (p1 := 3) (s_iload_n rfl dL_build_2) ?_
    refine Sim.sq (p1 := 4) (s_aload_n rfl dL_build_3) ?_
    refine Sim.sq (p1 := 6) (s_bipush (by decide +kernel) dL_build_4) ?_
    refine Sim.sq (p1 := 7) (s_iald dL_build_6) ?_
    refine Sim.bk ?_
    refine Sim.sq (p1 := 10) (s_icmp_ge dL_build_7 (by decide) rfl) ?_
    refine Sim.sq (p1 := 11) (s_aload_n rfl dL_build_10) ?_
    refine Sim.sq (p1 := 13) (s_bipush (by decide +kernel) dL_build_11) ?_
    refine Sim.sq (p1 := 14) (s_iald dL_build_13) ?_
    refine Sim.sq (p1 := 15) (s_istore_n rfl (by decide) dL_build_14) ?_
    refine Sim.sq (p1 := 16) (s_iload_n rfl dL_build_15) ?_
    refine Sim.sq (p1 := 17) (s_istore_n rfl (by decide) dL_build_16) ?_
    refine Sim.sq (p1 := 18) (s_iconst (by decide +kernel) dL_build_17) ?_
    refine Sim.sq (p1 := 20) (s_istore (by decide) dL_build_18) ?_
    refine Sim.sq (p1 := 91) (Sim.lp ?_) ?_
    · refine Sim.sq (p1 := 21) (s_iload_n rfl dL_build_20) ?_
      refine Sim.sq (p1 := 22) (s_iconst (by decide +kernel) dL_build_21) ?_
      refine Sim.bk ?_
      refine Sim.sq (p1 := 25) (s_icmp_le dL_build_22 (by decide) rfl) ?_
      refine Sim.sq (p1 := 26) (s_iload_n rfl dL_build_25) ?_
      refine Sim.sq (p1 := 27) (s_iload_n rfl dL_build_26) ?_
      refine Sim.sq (p1 := 28) (s_iconst (by decide +kernel) dL_build_27) ?_
      refine Sim.sq (p1 := 29) (s_iadd dL_build_28) ?_
      refine Sim.sq (p1 := 30) (s_iconst (by decide +kernel) dL_build_29) ?_
      refine Sim.sq (p1 := 31) (s_idiv dL_build_30) ?_
      refine Sim.sq (p1 := 32) (s_iconst (by decide +kernel) dL_build_31) ?_
      refine Sim.sq (p1 := 33) (s_isub dL_build_32) ?_
      refine Sim.sq (p1 := 36) (s_icmp_eq dL_build_33 (by decide) rfl) ?_
      refine Sim.sq (p1 := 37) (s_iload_n rfl dL_build_36) ?_
      refine Sim.sq (p1 := 38) (s_iconst (by decide +kernel) dL_build_37) ?_
      refine Sim.sq (p1 := 39) (s_iadd dL_build_38) ?_
      refine Sim.sq (p1 := 40) (s_iconst (by decide +kernel) dL_build_39) ?_
      refine Sim.sq (p1 := 41) (s_idiv dL_build_40) ?_
      refine Sim.sq (p1 := 43) (s_istore (by decide) dL_build_41) ?_
      refine Sim.sq (p1 := 44) (s_iload_n rfl dL_build_43) ?_
      refine Sim.sq (p1 := 46) (s_iload dL_build_44) ?_
      refine Sim.sq (p1 := 54) (Sim.bk ?_) ?_
      · refine Sim.sq (p1 := 53) (Sim.bk ?_) ?_
        · refine Sim.sq (p1 := 49) (s_icmp_ge dL_build_46 (by decide) rfl) ?_
          refine Sim.sq (p1 := 50) (s_iconst (by decide +kernel) dL_build_49) ?_
          exact (s_goto dL_build_50 (by decide) rfl)
        exact (s_iconst (by decide +kernel) dL_build_53)
      refine Sim.sq (p1 := 56) (s_istore (by decide) dL_build_54) ?_
      refine Sim.sq (p1 := 57) (s_iload_n rfl dL_build_56) ?_
      refine Sim.sq (p1 := 59) (s_iload dL_build_57) ?_
      refine Sim.sq (p1 := 68) (Sim.bk ?_) ?_
      · refine Sim.sq (p1 := 66) (Sim.bk ?_) ?_
        · refine Sim.sq (p1 := 62) (s_if_eq dL_build_59 (by decide) rfl) ?_
          refine Sim.sq (p1 := 63) (s_iconst (by decide +kernel) dL_build_62) ?_
          exact (s_goto dL_build_63 (by decide) rfl)
        exact (s_iload dL_build_66)
      refine Sim.sq (p1 := 69) (s_isub dL_build_68) ?_
      refine Sim.sq (p1 := 70) (s_istore_n rfl (by decide) dL_build_69) ?_
      refine Sim.sq (p1 := 72) (s_iload dL_build_70) ?_
      refine Sim.sq (p1 := 84) (Sim.bk ?_) ?_
      · refine Sim.sq (p1 := 80) (Sim.bk ?_) ?_
        · refine Sim.sq (p1 := 75) (s_if_eq dL_build_72 (by decide) rfl) ?_
          refine Sim.sq (p1 := 77) (s_iload dL_build_75) ?_
          exact (s_goto dL_build_77 (by decide) rfl)
        refine Sim.sq (p1 := 81) (s_iload_n rfl dL_build_80) ?_
        refine Sim.sq (p1 := 83) (s_iload dL_build_81) ?_
        exact (s_isub dL_build_83)
      refine Sim.sq (p1 := 85) (s_istore_n rfl (by decide) dL_build_84) ?_
      refine Sim.sq (p1 := 88) (s_iinc (by decide +kernel) (by decide) dL_build_85) ?_
      exact (s_goto dL_build_88 (by decide) rfl)
    refine Sim.sq (p1 := 92) (s_aload_n rfl dL_build_91) ?_
    refine Sim.sq (p1 := 93) (s_iload_n rfl dL_build_92) ?_
    refine Sim.sq (p1 := 94) (s_aload_n rfl dL_build_93) ?_
    refine Sim.sq (p1 := 95) (s_iload_n rfl dL_build_94) ?_
    refine Sim.sq (p1 := 98) (s_callS (y := yL_size) (C_L_size l) kw514 kw515 kw14 kw516 ⟨by decide +kernel, by decide +kernel, by decide +kernel⟩ ⟨by decide, by decide⟩ dL_build_95) ?_
    refine Sim.sq (p1 := 99) (s_iload_n rfl dL_build_98) ?_
    refine Sim.sq (p1 := 100) (s_aload_n rfl dL_build_99) ?_
    refine Sim.sq (p1 := 102) (s_bipush (by decide +kernel) dL_build_100) ?_
    refine Sim.sq (p1 := 103) (s_iald dL_build_102) ?_
    refine Sim.sq (p1 := 104) (s_iconst (by decide +kernel) dL_build_103) ?_
    refine Sim.sq (p1 := 105) (s_isub dL_build_104) ?_
    refine Sim.sq (p1 := 116) (Sim.bk ?_) ?_
    · refine Sim.sq (p1 := 112) (Sim.bk ?_) ?_
      · refine Sim.sq (p1 := 108) (s_icmp_ne dL_build_105 (by decide) rfl) ?_
        refine Sim.sq (p1 := 109) (s_iconst (by decide +kernel) dL_build_108) ?_
        exact (s_goto dL_build_109 (by decide) rfl)
      refine Sim.sq (p1 := 114) (s_iload dL_build_112) ?_
      refine Sim.sq (p1 := 115) (s_iconst (by decide +kernel) dL_build_114) ?_
      exact (s_ishl dL_build_115)
    refine Sim.sq (p1 := 117) (s_ior dL_build_116) ?_
    refine Sim.sq (p1 := 118) (s_iast dL_build_117) ?_
    refine Sim.sq (p1 := 121) (s_iinc (by decide +kernel) (by decide) dL_build_118) ?_
    exact (s_goto dL_build_121 (by decide) rfl)
  exact (s_vret rfl dL_build_124)
set_option maxRecDepth 100000 in
set_option maxHeartbeats 4000000 in
theorem C_L_build (l : Launch) : Ct l yL_build cL_build 7 none 1 21 m_L_build := Ct_of (y := yL_build) (by decide +kernel) S_L_build
set_option maxRecDepth 100000 in
set_option maxHeartbeats 4000000 in
theorem S_L_packed {l : Launch} : Sim l (fun _ => True) RL "packed" cL_packed 4 (some (.array .int)) 2 47 [] b_L_packed 0 53 := by
  unfold b_L_packed b_L_packed_t0 b_L_packed_l0
  refine Sim.sq (p1 := 2) (s_bipush (by decide +kernel) dL_packed_0) ?_
  refine Sim.sq (p1 := 4) (s_newi kw76 dL_packed_2) ?_
  refine Sim.sq (p1 := 5) (s_astore_n rfl (by decide) dL_packed_4) ?_
  refine Sim.sq (p1 := 6) (s_iconst (by decide +kernel) dL_packed_5) ?_
  refine Sim.sq (p1 := 7) (s_istore_n rfl (by decide) dL_packed_6) ?_
  refine Sim.sq (p1 := 47) (Sim.lp ?_) ?_
  · refine Sim.sq (p1 := 8) (s_iload_n rfl dL_packed_7) ?_
    refine Sim.sq (p1 := 9) (s_iload_n rfl dL_packed_8) ?_
    refine Sim.bk ?_
    refine Sim.sq (p1 := 12) (s_icmp_ge dL_packed_9 (by decide) rfl) ?_
    refine Sim.sq (p1 := 13) (s_aload_n rfl dL_packed_12) ?_
    refine Sim.sq (p1 := 14) (s_aload_n rfl dL_packed_13) ?_
    refine Sim.sq (p1 := 16) (s_bipush (by decide +kernel) dL_packed_14) ?_
    refine Sim.sq (p1 := 17) (s_iald dL_packed_16) ?_
    refine Sim.sq (p1 := 18) (s_iload_n rfl dL_packed_17) ?_
    refine Sim.sq (p1 := 19) (s_iload_n rfl dL_packed_18) ?_
    refine Sim.sq (p1 := 20) (s_isub dL_packed_19) ?_
    refine Sim.sq (p1 := 21) (s_iload_n rfl dL_packed_20) ?_
    refine Sim.sq (p1 := 31) (Sim.bk ?_) ?_
    · refine Sim.sq (p1 := 30) (Sim.bk ?_) ?_
      · refine Sim.sq (p1 := 24) (s_icmp_ge dL_packed_21 (by decide) rfl) ?_
        refine Sim.sq (p1 := 25) (s_iload_n rfl dL_packed_24) ?_
        refine Sim.sq (p1 := 26) (s_iload_n rfl dL_packed_25) ?_
        refine Sim.sq (p1 := 27) (s_isub dL_packed_26) ?_
        exact (s_goto dL_packed_27 (by decide) rfl)
      exact (s_iload_n rfl dL_packed_30)
    refine Sim.sq (p1 := 32) (s_iast dL_packed_31) ?_
    refine Sim.sq (p1 := 33) (s_aload_n rfl dL_packed_32) ?_
    refine Sim.sq (p1 := 35) (s_bipush (by decide +kernel) dL_packed_33) ?_
    refine Sim.sq (p1 := 36) (s_dup2 dL_packed_35) ?_
    refine Sim.sq (p1 := 37) (s_iald dL_packed_36) ?_
    refine Sim.sq (p1 := 38) (s_iconst (by decide +kernel) dL_packed_37) ?_
    refine Sim.sq (p1 := 39) (s_iadd dL_packed_38) ?_
    refine Sim.sq (p1 := 40) (s_iast dL_packed_39) ?_
    refine Sim.sq (p1 := 41) (s_iload_n rfl dL_packed_40) ?_
    refine Sim.sq (p1 := 42) (s_iload_n rfl dL_packed_41) ?_
    refine Sim.sq (p1 := 43) (s_iadd dL_packed_42) ?_
    refine Sim.sq (p1 := 44) (s_istore_n rfl (by decide) dL_packed_43) ?_
    exact (s_goto dL_packed_44 (by decide) rfl)
  refine Sim.sq (p1 := 48) (s_aload_n rfl dL_packed_47) ?_
  refine Sim.sq (p1 := 51) (s_callS (y := yL_build) (C_L_build l) kw532 kw533 kw14 kw534 ⟨by decide +kernel, by decide +kernel, by decide +kernel⟩ ⟨by decide, by decide⟩ dL_packed_48) ?_
  refine Sim.sq (p1 := 52) (s_aload_n rfl dL_packed_51) ?_
  exact (s_aret rfl (Or.inr ⟨_, rfl⟩) dL_packed_52)
set_option maxRecDepth 100000 in
set_option maxHeartbeats 4000000 in
theorem C_L_packed (l : Launch) : Ct l yL_packed cL_packed 4 (some (.array .int)) 2 47 m_L_packed := Ct_of (y := yL_packed) (by decide +kernel) S_L_packed
set_option maxRecDepth 100000 in
set_option maxHeartbeats 4000000 in
theorem S_L_replace {l : Launch} : Sim l (fun _ => True) RL "replace" cL_replace 8 none 0 0 [] b_L_replace 0 108 := by
  unfold b_L_replace b_L_replace_t2 b_L_replace_t1 b_L_replace_t0 b_L_replace_l2 b_L_replace_l1 b_L_replace_l0
  refine Sim.sq (p1 := 2) (s_bipush (by decide +kernel) dL_replace_0) ?_
  refine Sim.sq (p1 := 4) (s_newi kw76 dL_replace_2) ?_
  refine Sim.sq (p1 := 6) (s_astore (by decide) dL_replace_4) ?_
  refine Sim.sq (p1 := 7) (s_iconst (by decide +kernel) dL_replace_6) ?_
  refine Sim.sq (p1 := 9) (s_istore (by decide) dL_replace_7) ?_
  refine Sim.sq (p1 := 35) (Sim.lp ?_) ?_
  · refine Sim.sq (p1 := 11) (s_iload dL_replace_9) ?_
    refine Sim.sq (p1 := 13) (s_aload dL_replace_11) ?_
    refine Sim.sq (p1 := 15) (s_bipush (by decide +kernel) dL_replace_13) ?_
    refine Sim.sq (p1 := 16) (s_iald dL_replace_15) ?_
    refine Sim.bk ?_
    refine Sim.sq (p1 := 19) (s_icmp_ge dL_replace_16 (by decide) rfl) ?_
    refine Sim.sq (p1 := 21) (s_aload dL_replace_19) ?_
    refine Sim.sq (p1 := 23) (s_iload dL_replace_21) ?_
    refine Sim.sq (p1 := 25) (s_aload dL_replace_23) ?_
    refine Sim.sq (p1 := 27) (s_iload dL_replace_25) ?_
    refine Sim.sq (p1 := 28) (s_iald dL_replace_27) ?_
    refine Sim.sq (p1 := 29) (s_iast dL_replace_28) ?_
    refine Sim.sq (p1 := 32) (s_iinc (by decide +kernel) (by decide) dL_replace_29) ?_
    exact (s_goto dL_replace_32 (by decide) rfl)
  refine Sim.sq (p1 := 36) (s_iconst (by decide +kernel) dL_replace_35) ?_
  refine Sim.sq (p1 := 38) (s_istore (by decide) dL_replace_36) ?_
  refine Sim.sq (p1 := 61) (Sim.lp ?_) ?_
  · refine Sim.sq (p1 := 40) (s_iload dL_replace_38) ?_
    refine Sim.sq (p1 := 41) (s_iload_n rfl dL_replace_40) ?_
    refine Sim.bk ?_
    refine Sim.sq (p1 := 44) (s_icmp_ge dL_replace_41 (by decide) rfl) ?_
    refine Sim.sq (p1 := 46) (s_aload dL_replace_44) ?_
    refine Sim.sq (p1 := 47) (s_iload_n rfl dL_replace_46) ?_
    refine Sim.sq (p1 := 49) (s_iload dL_replace_47) ?_
    refine Sim.sq (p1 := 50) (s_iadd dL_replace_49) ?_
    refine Sim.sq (p1 := 51) (s_aload_n rfl dL_replace_50) ?_
    refine Sim.sq (p1 := 53) (s_iload dL_replace_51) ?_
    refine Sim.sq (p1 := 54) (s_iald dL_replace_53) ?_
    refine Sim.sq (p1 := 55) (s_iast dL_replace_54) ?_
    refine Sim.sq (p1 := 58) (s_iinc (by decide +kernel) (by decide) dL_replace_55) ?_
    exact (s_goto dL_replace_58 (by decide) rfl)
  refine Sim.sq (p1 := 62) (s_iload_n rfl dL_replace_61) ?_
  refine Sim.sq (p1 := 63) (s_iload_n rfl dL_replace_62) ?_
  refine Sim.sq (p1 := 64) (s_iadd dL_replace_63) ?_
  refine Sim.sq (p1 := 66) (s_istore (by decide) dL_replace_64) ?_
  refine Sim.sq (p1 := 96) (Sim.lp ?_) ?_
  · refine Sim.sq (p1 := 68) (s_iload dL_replace_66) ?_
    refine Sim.sq (p1 := 70) (s_aload dL_replace_68) ?_
    refine Sim.sq (p1 := 72) (s_bipush (by decide +kernel) dL_replace_70) ?_
    refine Sim.sq (p1 := 73) (s_iald dL_replace_72) ?_
    refine Sim.bk ?_
    refine Sim.sq (p1 := 76) (s_icmp_ge dL_replace_73 (by decide) rfl) ?_
    refine Sim.sq (p1 := 78) (s_aload dL_replace_76) ?_
    refine Sim.sq (p1 := 80) (s_iload dL_replace_78) ?_
    refine Sim.sq (p1 := 81) (s_iload_n rfl dL_replace_80) ?_
    refine Sim.sq (p1 := 82) (s_isub dL_replace_81) ?_
    refine Sim.sq (p1 := 83) (s_iload_n rfl dL_replace_82) ?_
    refine Sim.sq (p1 := 84) (s_iadd dL_replace_83) ?_
    refine Sim.sq (p1 := 86) (s_aload dL_replace_84) ?_
    refine Sim.sq (p1 := 88) (s_iload dL_replace_86) ?_
    refine Sim.sq (p1 := 89) (s_iald dL_replace_88) ?_
    refine Sim.sq (p1 := 90) (s_iast dL_replace_89) ?_
    refine Sim.sq (p1 := 93) (s_iinc (by decide +kernel) (by decide) dL_replace_90) ?_
    exact (s_goto dL_replace_93 (by decide) rfl)
  refine Sim.sq (p1 := 98) (s_aload dL_replace_96) ?_
  refine Sim.sq (p1 := 100) (s_bipush (by decide +kernel) dL_replace_98) ?_
  refine Sim.sq (p1 := 101) (s_dup2 dL_replace_100) ?_
  refine Sim.sq (p1 := 102) (s_iald dL_replace_101) ?_
  refine Sim.sq (p1 := 103) (s_iload_n rfl dL_replace_102) ?_
  refine Sim.sq (p1 := 104) (s_iload_n rfl dL_replace_103) ?_
  refine Sim.sq (p1 := 105) (s_isub dL_replace_104) ?_
  refine Sim.sq (p1 := 106) (s_iadd dL_replace_105) ?_
  refine Sim.sq (p1 := 107) (s_iast dL_replace_106) ?_
  exact (s_vret rfl dL_replace_107)
set_option maxRecDepth 100000 in
set_option maxHeartbeats 4000000 in
theorem C_L_replace (l : Launch) : Ct l yL_replace cL_replace 8 none 0 0 m_L_replace := Ct_of (y := yL_replace) (by decide +kernel) S_L_replace
set_option maxRecDepth 100000 in
set_option maxHeartbeats 4000000 in
theorem S_L_marks {l : Launch} : Sim l (fun _ => True) RL "marks" cL_marks 5 none 0 0 [] b_L_marks 0 76 := by
  unfold b_L_marks b_L_marks_t0 b_L_marks_l0
  refine Sim.sq (p1 := 1) (s_iconst (by decide +kernel) dL_marks_0) ?_
  refine Sim.sq (p1 := 3) (s_istore (by decide) dL_marks_1) ?_
  refine Sim.sq (p1 := 75) (Sim.lp ?_) ?_
  · refine Sim.sq (p1 := 5) (s_iload dL_marks_3) ?_
    refine Sim.sq (p1 := 7) (s_bipush (by decide +kernel) dL_marks_5) ?_
    refine Sim.bk ?_
    refine Sim.sq (p1 := 10) (s_icmp_ge dL_marks_7 (by decide) rfl) ?_
    refine Sim.sq (p1 := 11) (s_aload_n rfl dL_marks_10) ?_
    refine Sim.sq (p1 := 13) (s_iload dL_marks_11) ?_
    refine Sim.sq (p1 := 14) (s_aload_n rfl dL_marks_13) ?_
    refine Sim.sq (p1 := 16) (s_iload dL_marks_14) ?_
    refine Sim.sq (p1 := 17) (s_iald dL_marks_16) ?_
    refine Sim.sq (p1 := 18) (s_iload_n rfl dL_marks_17) ?_
    refine Sim.sq (p1 := 19) (s_iload_n rfl dL_marks_18) ?_
    refine Sim.sq (p1 := 20) (s_iadd dL_marks_19) ?_
    refine Sim.sq (p1 := 48) (Sim.bk ?_) ?_
    · refine Sim.sq (p1 := 32) (Sim.bk ?_) ?_
      · refine Sim.sq (p1 := 23) (s_icmp_le dL_marks_20 (by decide) rfl) ?_
        refine Sim.sq (p1 := 24) (s_aload_n rfl dL_marks_23) ?_
        refine Sim.sq (p1 := 26) (s_iload dL_marks_24) ?_
        refine Sim.sq (p1 := 27) (s_iald dL_marks_26) ?_
        refine Sim.sq (p1 := 28) (s_iload_n rfl dL_marks_27) ?_
        refine Sim.sq (p1 := 29) (s_isub dL_marks_28) ?_
        exact (s_goto dL_marks_29 (by decide) rfl)
      refine Sim.sq (p1 := 33) (s_aload_n rfl dL_marks_32) ?_
      refine Sim.sq (p1 := 35) (s_iload dL_marks_33) ?_
      refine Sim.sq (p1 := 36) (s_iald dL_marks_35) ?_
      refine Sim.sq (p1 := 37) (s_iload_n rfl dL_marks_36) ?_
      refine Sim.sq (p1 := 44) (Sim.bk ?_) ?_
      · refine Sim.sq (p1 := 40) (s_icmp_le dL_marks_37 (by decide) rfl) ?_
        refine Sim.sq (p1 := 41) (s_iload_n rfl dL_marks_40) ?_
        exact (s_goto dL_marks_41 (by decide) rfl)
      refine Sim.sq (p1 := 45) (s_aload_n rfl dL_marks_44) ?_
      refine Sim.sq (p1 := 47) (s_iload dL_marks_45) ?_
      exact (s_iald dL_marks_47)
    refine Sim.sq (p1 := 49) (s_iast dL_marks_48) ?_
    refine Sim.sq (p1 := 50) (s_aload_n rfl dL_marks_49) ?_
    refine Sim.sq (p1 := 52) (s_iload dL_marks_50) ?_
    refine Sim.sq (p1 := 53) (s_dup2 dL_marks_52) ?_
    refine Sim.sq (p1 := 54) (s_iald dL_marks_53) ?_
    refine Sim.sq (p1 := 55) (s_aload_n rfl dL_marks_54) ?_
    refine Sim.sq (p1 := 57) (s_iload dL_marks_55) ?_
    refine Sim.sq (p1 := 58) (s_iald dL_marks_57) ?_
    refine Sim.sq (p1 := 59) (s_iload_n rfl dL_marks_58) ?_
    refine Sim.sq (p1 := 67) (Sim.bk ?_) ?_
    · refine Sim.sq (p1 := 66) (Sim.bk ?_) ?_
      · refine Sim.sq (p1 := 62) (s_icmp_lt dL_marks_59 (by decide) rfl) ?_
        refine Sim.sq (p1 := 63) (s_iload_n rfl dL_marks_62) ?_
        exact (s_goto dL_marks_63 (by decide) rfl)
      exact (s_iconst (by decide +kernel) dL_marks_66)
    refine Sim.sq (p1 := 68) (s_iadd dL_marks_67) ?_
    refine Sim.sq (p1 := 69) (s_iast dL_marks_68) ?_
    refine Sim.sq (p1 := 72) (s_iinc (by decide +kernel) (by decide) dL_marks_69) ?_
    exact (s_goto dL_marks_72 (by decide) rfl)
  exact (s_vret rfl dL_marks_75)
set_option maxRecDepth 100000 in
set_option maxHeartbeats 4000000 in
theorem C_L_marks (l : Launch) : Ct l yL_marks cL_marks 5 none 0 0 m_L_marks := Ct_of (y := yL_marks) (by decide +kernel) S_L_marks
set_option maxRecDepth 100000 in
set_option maxHeartbeats 4000000 in
theorem S_L_level {l : Launch} : Sim l (fun _ => True) RL "level" cL_level 4 (some .int) 1 21 [] b_L_level 0 61 := by
  unfold b_L_level
  refine Sim.sq (p1 := 1) (s_aload_n rfl dL_level_0) ?_
  refine Sim.sq (p1 := 3) (s_bipush (by decide +kernel) dL_level_1) ?_
  refine Sim.sq (p1 := 4) (s_iald dL_level_3) ?_
  refine Sim.sq (p1 := 5) (s_iconst (by decide +kernel) dL_level_4) ?_
  refine Sim.sq (p1 := 10) (Sim.bk ?_) ?_
  · refine Sim.sq (p1 := 8) (s_icmp_ge dL_level_5 (by decide) rfl) ?_
    refine Sim.sq (p1 := 9) (s_iconst (by decide +kernel) dL_level_8) ?_
    exact (s_iret rfl dL_level_9)
  refine Sim.sq (p1 := 11) (s_iload_n rfl dL_level_10) ?_
  refine Sim.sq (p1 := 27) (Sim.bk ?_) ?_
  · refine Sim.sq (p1 := 18) (Sim.bk ?_) ?_
    · refine Sim.sq (p1 := 14) (s_if_ne dL_level_11 (by decide) rfl) ?_
      refine Sim.sq (p1 := 15) (s_iconst (by decide +kernel) dL_level_14) ?_
      exact (s_goto dL_level_15 (by decide) rfl)
    refine Sim.sq (p1 := 19) (s_aload_n rfl dL_level_18) ?_
    refine Sim.sq (p1 := 20) (s_iload_n rfl dL_level_19) ?_
    refine Sim.sq (p1 := 21) (s_iconst (by decide +kernel) dL_level_20) ?_
    refine Sim.sq (p1 := 22) (s_isub dL_level_21) ?_
    refine Sim.sq (p1 := 25) (s_callS (y := yL_gap) (C_L_gap l) kw517 kw518 kw14 kw519 ⟨by decide +kernel, by decide +kernel, by decide +kernel⟩ ⟨by decide, by decide⟩ dL_level_22) ?_
    refine Sim.sq (p1 := 26) (s_iconst (by decide +kernel) dL_level_25) ?_
    exact (s_iadd dL_level_26)
  refine Sim.sq (p1 := 28) (s_istore_n rfl (by decide) dL_level_27) ?_
  refine Sim.sq (p1 := 29) (s_iload_n rfl dL_level_28) ?_
  refine Sim.sq (p1 := 30) (s_aload_n rfl dL_level_29) ?_
  refine Sim.sq (p1 := 32) (s_bipush (by decide +kernel) dL_level_30) ?_
  refine Sim.sq (p1 := 33) (s_iald dL_level_32) ?_
  refine Sim.sq (p1 := 34) (s_iconst (by decide +kernel) dL_level_33) ?_
  refine Sim.sq (p1 := 35) (s_isub dL_level_34) ?_
  refine Sim.sq (p1 := 49) (Sim.bk ?_) ?_
  · refine Sim.sq (p1 := 42) (Sim.bk ?_) ?_
    · refine Sim.sq (p1 := 38) (s_icmp_ne dL_level_35 (by decide) rfl) ?_
      refine Sim.sq (p1 := 39) (s_iconst (by decide +kernel) dL_level_38) ?_
      exact (s_goto dL_level_39 (by decide) rfl)
    refine Sim.sq (p1 := 43) (s_aload_n rfl dL_level_42) ?_
    refine Sim.sq (p1 := 44) (s_iload_n rfl dL_level_43) ?_
    refine Sim.sq (p1 := 47) (s_callS (y := yL_gap) (C_L_gap l) kw517 kw518 kw14 kw519 ⟨by decide +kernel, by decide +kernel, by decide +kernel⟩ ⟨by decide, by decide⟩ dL_level_44) ?_
    refine Sim.sq (p1 := 48) (s_iconst (by decide +kernel) dL_level_47) ?_
    exact (s_iadd dL_level_48)
  refine Sim.sq (p1 := 50) (s_istore_n rfl (by decide) dL_level_49) ?_
  refine Sim.sq (p1 := 51) (s_iload_n rfl dL_level_50) ?_
  refine Sim.sq (p1 := 52) (s_iload_n rfl dL_level_51) ?_
  refine Sim.sq (p1 := 60) (Sim.bk ?_) ?_
  · refine Sim.sq (p1 := 59) (Sim.bk ?_) ?_
    · refine Sim.sq (p1 := 55) (s_icmp_le dL_level_52 (by decide) rfl) ?_
      refine Sim.sq (p1 := 56) (s_iload_n rfl dL_level_55) ?_
      exact (s_goto dL_level_56 (by decide) rfl)
    exact (s_iload_n rfl dL_level_59)
  exact (s_iret rfl dL_level_60)
set_option maxRecDepth 100000 in
set_option maxHeartbeats 4000000 in
theorem C_L_level (l : Launch) : Ct l yL_level cL_level 4 (some .int) 1 21 m_L_level := Ct_of (y := yL_level) (by decide +kernel) S_L_level
set_option maxRecDepth 100000 in
set_option maxHeartbeats 4000000 in
theorem S_L_depth {l : Launch} : Sim l (fun _ => True) RL "depth" cL_depth 3 (some .int) 2 44 [] b_L_depth 0 39 := by
  unfold b_L_depth b_L_depth_t0 b_L_depth_l0
  refine Sim.sq (p1 := 1) (s_iconst (by decide +kernel) dL_depth_0) ?_
  refine Sim.sq (p1 := 2) (s_istore_n rfl (by decide) dL_depth_1) ?_
  refine Sim.sq (p1 := 3) (s_iconst (by decide +kernel) dL_depth_2) ?_
  refine Sim.sq (p1 := 4) (s_istore_n rfl (by decide) dL_depth_3) ?_
  refine Sim.sq (p1 := 37) (Sim.lp ?_) ?_
  · refine Sim.sq (p1 := 5) (s_iload_n rfl dL_depth_4) ?_
    refine Sim.sq (p1 := 6) (s_aload_n rfl dL_depth_5) ?_
    refine Sim.sq (p1 := 8) (s_bipush (by decide +kernel) dL_depth_6) ?_
    refine Sim.sq (p1 := 9) (s_iald dL_depth_8) ?_
    refine Sim.bk ?_
    refine Sim.sq (p1 := 12) (s_icmp_ge dL_depth_9 (by decide) rfl) ?_
    refine Sim.sq (p1 := 13) (s_aload_n rfl dL_depth_12) ?_
    refine Sim.sq (p1 := 14) (s_iload_n rfl dL_depth_13) ?_
    refine Sim.sq (p1 := 17) (s_callS (y := yL_level) (C_L_level l) kw529 kw530 kw14 kw531 ⟨by decide +kernel, by decide +kernel, by decide +kernel⟩ ⟨by decide, by decide⟩ dL_depth_14) ?_
    refine Sim.sq (p1 := 18) (s_iload_n rfl dL_depth_17) ?_
    refine Sim.sq (p1 := 30) (Sim.bk ?_) ?_
    · refine Sim.sq (p1 := 29) (Sim.bk ?_) ?_
      · refine Sim.sq (p1 := 21) (s_icmp_le dL_depth_18 (by decide) rfl) ?_
        refine Sim.sq (p1 := 22) (s_aload_n rfl dL_depth_21) ?_
        refine Sim.sq (p1 := 23) (s_iload_n rfl dL_depth_22) ?_
        refine Sim.sq (p1 := 26) (s_callS (y := yL_level) (C_L_level l) kw529 kw530 kw14 kw531 ⟨by decide +kernel, by decide +kernel, by decide +kernel⟩ ⟨by decide, by decide⟩ dL_depth_23) ?_
        exact (s_goto dL_depth_26 (by decide) rfl)
      exact (s_iload_n rfl dL_depth_29)
    refine Sim.sq (p1 := 31) (s_istore_n rfl (by decide) dL_depth_30) ?_
    refine Sim.sq (p1 := 34) (s_iinc (by decide +kernel) (by decide) dL_depth_31) ?_
    exact (s_goto dL_depth_34 (by decide) rfl)
  refine Sim.sq (p1 := 38) (s_iload_n rfl dL_depth_37) ?_
  exact (s_iret rfl dL_depth_38)
set_option maxRecDepth 100000 in
set_option maxHeartbeats 4000000 in
theorem C_L_depth (l : Launch) : Ct l yL_depth cL_depth 3 (some .int) 2 44 m_L_depth := Ct_of (y := yL_depth) (by decide +kernel) S_L_depth
set_option maxRecDepth 100000 in
set_option maxHeartbeats 4000000 in
theorem S_L_balanced {l : Launch} : Sim l (fun _ => True) RL "balanced" cL_balanced 4 (some .boolean) 3 66 [] b_L_balanced 0 123 := by
  unfold b_L_balanced
  refine Sim.sq (p1 := 1) (s_aload_n rfl dL_balanced_0) ?_
  refine Sim.sq (p1 := 4) (s_callS (y := yL_depth) (C_L_depth l) kw526 kw527 kw14 kw528 ⟨by decide +kernel, by decide +kernel, by decide +kernel⟩ ⟨by decide, by decide⟩ dL_balanced_1) ?_
  refine Sim.sq (p1 := 5) (s_istore_n rfl (by decide) dL_balanced_4) ?_
  refine Sim.sq (p1 := 6) (s_iload_n rfl dL_balanced_5) ?_
  refine Sim.sq (p1 := 107) (Sim.bk ?_) ?_
  · refine Sim.sq (p1 := 13) (Sim.bk ?_) ?_
    · refine Sim.sq (p1 := 9) (s_if_ne dL_balanced_6 (by decide) rfl) ?_
      refine Sim.sq (p1 := 10) (s_iconst (by decide +kernel) dL_balanced_9) ?_
      exact (s_goto dL_balanced_10 (by decide) rfl)
    refine Sim.sq (p1 := 14) (s_iload_n rfl dL_balanced_13) ?_
    refine Sim.sq (p1 := 15) (s_iconst (by decide +kernel) dL_balanced_14) ?_
    refine Sim.sq (p1 := 22) (Sim.bk ?_) ?_
    · refine Sim.sq (p1 := 18) (s_icmp_ne dL_balanced_15 (by decide) rfl) ?_
      refine Sim.sq (p1 := 19) (s_iconst (by decide +kernel) dL_balanced_18) ?_
      exact (s_goto dL_balanced_19 (by decide) rfl)
    refine Sim.sq (p1 := 23) (s_iload_n rfl dL_balanced_22) ?_
    refine Sim.sq (p1 := 24) (s_iconst (by decide +kernel) dL_balanced_23) ?_
    refine Sim.sq (p1 := 31) (Sim.bk ?_) ?_
    · refine Sim.sq (p1 := 27) (s_icmp_ne dL_balanced_24 (by decide) rfl) ?_
      refine Sim.sq (p1 := 28) (s_iconst (by decide +kernel) dL_balanced_27) ?_
      exact (s_goto dL_balanced_28 (by decide) rfl)
    refine Sim.sq (p1 := 32) (s_iload_n rfl dL_balanced_31) ?_
    refine Sim.sq (p1 := 33) (s_iconst (by decide +kernel) dL_balanced_32) ?_
    refine Sim.sq (p1 := 40) (Sim.bk ?_) ?_
    · refine Sim.sq (p1 := 36) (s_icmp_ne dL_balanced_33 (by decide) rfl) ?_
      refine Sim.sq (p1 := 37) (s_iconst (by decide +kernel) dL_balanced_36) ?_
      exact (s_goto dL_balanced_37 (by decide) rfl)
    refine Sim.sq (p1 := 41) (s_iload_n rfl dL_balanced_40) ?_
    refine Sim.sq (p1 := 42) (s_iconst (by decide +kernel) dL_balanced_41) ?_
    refine Sim.sq (p1 := 50) (Sim.bk ?_) ?_
    · refine Sim.sq (p1 := 45) (s_icmp_ne dL_balanced_42 (by decide) rfl) ?_
      refine Sim.sq (p1 := 47) (s_bipush (by decide +kernel) dL_balanced_45) ?_
      exact (s_goto dL_balanced_47 (by decide) rfl)
    refine Sim.sq (p1 := 51) (s_iload_n rfl dL_balanced_50) ?_
    refine Sim.sq (p1 := 52) (s_iconst (by decide +kernel) dL_balanced_51) ?_
    refine Sim.sq (p1 := 60) (Sim.bk ?_) ?_
    · refine Sim.sq (p1 := 55) (s_icmp_ne dL_balanced_52 (by decide) rfl) ?_
      refine Sim.sq (p1 := 57) (s_bipush (by decide +kernel) dL_balanced_55) ?_
      exact (s_goto dL_balanced_57 (by decide) rfl)
    refine Sim.sq (p1 := 61) (s_iload_n rfl dL_balanced_60) ?_
    refine Sim.sq (p1 := 63) (s_bipush (by decide +kernel) dL_balanced_61) ?_
    refine Sim.sq (p1 := 71) (Sim.bk ?_) ?_
    · refine Sim.sq (p1 := 66) (s_icmp_ne dL_balanced_63 (by decide) rfl) ?_
      refine Sim.sq (p1 := 68) (s_bipush (by decide +kernel) dL_balanced_66) ?_
      exact (s_goto dL_balanced_68 (by decide) rfl)
    refine Sim.sq (p1 := 72) (s_iload_n rfl dL_balanced_71) ?_
    refine Sim.sq (p1 := 74) (s_bipush (by decide +kernel) dL_balanced_72) ?_
    refine Sim.sq (p1 := 82) (Sim.bk ?_) ?_
    · refine Sim.sq (p1 := 77) (s_icmp_ne dL_balanced_74 (by decide) rfl) ?_
      refine Sim.sq (p1 := 79) (s_bipush (by decide +kernel) dL_balanced_77) ?_
      exact (s_goto dL_balanced_79 (by decide) rfl)
    refine Sim.sq (p1 := 83) (s_iload_n rfl dL_balanced_82) ?_
    refine Sim.sq (p1 := 85) (s_bipush (by decide +kernel) dL_balanced_83) ?_
    refine Sim.sq (p1 := 93) (Sim.bk ?_) ?_
    · refine Sim.sq (p1 := 88) (s_icmp_ne dL_balanced_85 (by decide) rfl) ?_
      refine Sim.sq (p1 := 90) (s_bipush (by decide +kernel) dL_balanced_88) ?_
      exact (s_goto dL_balanced_90 (by decide) rfl)
    refine Sim.sq (p1 := 94) (s_iload_n rfl dL_balanced_93) ?_
    refine Sim.sq (p1 := 96) (s_bipush (by decide +kernel) dL_balanced_94) ?_
    refine Sim.sq (p1 := 104) (Sim.bk ?_) ?_
    · refine Sim.sq (p1 := 99) (s_icmp_ne dL_balanced_96 (by decide) rfl) ?_
      refine Sim.sq (p1 := 101) (s_bipush (by decide +kernel) dL_balanced_99) ?_
      exact (s_goto dL_balanced_101 (by decide) rfl)
    exact (s_sipush (by decide +kernel) dL_balanced_104)
  refine Sim.sq (p1 := 108) (s_istore_n rfl (by decide) dL_balanced_107) ?_
  refine Sim.sq (p1 := 109) (s_iload_n rfl dL_balanced_108) ?_
  refine Sim.sq (p1 := 122) (Sim.bk ?_) ?_
  · refine Sim.sq (p1 := 121) (Sim.bk ?_) ?_
    · refine Sim.sq (p1 := 117) (Sim.bk ?_) ?_
      · refine Sim.sq (p1 := 112) (s_if_eq dL_balanced_109 (by decide) rfl) ?_
        refine Sim.sq (p1 := 113) (s_iload_n rfl dL_balanced_112) ?_
        refine Sim.sq (p1 := 114) (s_iload_n rfl dL_balanced_113) ?_
        exact (s_icmp_lt dL_balanced_114 (by decide) rfl)
      refine Sim.sq (p1 := 118) (s_iconst (by decide +kernel) dL_balanced_117) ?_
      exact (s_goto dL_balanced_118 (by decide) rfl)
    exact (s_iconst (by decide +kernel) dL_balanced_121)
  exact (s_zret rfl dL_balanced_122)
set_option maxRecDepth 100000 in
set_option maxHeartbeats 4000000 in
theorem C_L_balanced (l : Launch) : Ct l yL_balanced cL_balanced 4 (some .boolean) 3 66 m_L_balanced := Ct_of (y := yL_balanced) (by decide +kernel) S_L_balanced
set_option maxRecDepth 100000 in
set_option maxHeartbeats 4000000 in
theorem S_L_balance {l : Launch} : Sim l (fun _ => True) RL "balance" cL_balance 2 (some (.array .int)) 4 89 [] b_L_balance 0 31 := by
  unfold b_L_balance
  refine Sim.sq (p1 := 1) (s_aload_n rfl dL_balance_0) ?_
  refine Sim.sq (p1 := 2) (s_iconst (by decide +kernel) dL_balance_1) ?_
  refine Sim.sq (p1 := 3) (s_iald dL_balance_2) ?_
  refine Sim.sq (p1 := 4) (s_iconst (by decide +kernel) dL_balance_3) ?_
  refine Sim.sq (p1 := 29) (Sim.bk ?_) ?_
  · refine Sim.sq (p1 := 7) (s_icmp_ne dL_balance_4 (by decide) rfl) ?_
    refine Sim.sq (p1 := 8) (s_aload_n rfl dL_balance_7) ?_
    refine Sim.sq (p1 := 9) (s_aload_n rfl dL_balance_8) ?_
    refine Sim.sq (p1 := 11) (s_bipush (by decide +kernel) dL_balance_9) ?_
    refine Sim.sq (p1 := 12) (s_iald dL_balance_11) ?_
    refine Sim.sq (p1 := 15) (s_callS (y := yL_balanced) (C_L_balanced l) kw547 kw548 kw14 kw549 ⟨by decide +kernel, by decide +kernel, by decide +kernel⟩ ⟨by decide, by decide⟩ dL_balance_12) ?_
    refine Sim.sq (p1 := 18) (s_if_ne dL_balance_15 (by decide) rfl) ?_
    refine Sim.sq (p1 := 19) (s_aload_n rfl dL_balance_18) ?_
    refine Sim.sq (p1 := 22) (s_callS (y := yL_build) (C_L_build l) kw532 kw533 kw14 kw534 ⟨by decide +kernel, by decide +kernel, by decide +kernel⟩ ⟨by decide, by decide⟩ dL_balance_19) ?_
    refine Sim.sq (p1 := 23) (s_aload_n rfl dL_balance_22) ?_
    refine Sim.sq (p1 := 24) (s_iconst (by decide +kernel) dL_balance_23) ?_
    refine Sim.sq (p1 := 25) (s_dup2 dL_balance_24) ?_
    refine Sim.sq (p1 := 26) (s_iald dL_balance_25) ?_
    refine Sim.sq (p1 := 27) (s_iconst (by decide +kernel) dL_balance_26) ?_
    refine Sim.sq (p1 := 28) (s_iadd dL_balance_27) ?_
    exact (s_iast dL_balance_28)
  refine Sim.sq (p1 := 30) (s_aload_n rfl dL_balance_29) ?_
  exact (s_aret rfl (Or.inr ⟨_, rfl⟩) dL_balance_30)
set_option maxRecDepth 100000 in
set_option maxHeartbeats 4000000 in
theorem C_L_balance (l : Launch) : Ct l yL_balance cL_balance 2 (some (.array .int)) 4 89 m_L_balance := Ct_of (y := yL_balance) (by decide +kernel) S_L_balance
set_option maxRecDepth 100000 in
set_option maxHeartbeats 4000000 in
theorem S_X1_sizeOf {l : Launch} : Sim l (fun _ => True) RX1 "sizeOf" cX1_sizeOf 2 (some .int) 0 0 [] b_X1_sizeOf 0 22 := by
  unfold b_X1_sizeOf
  refine Sim.sq (p1 := 1) (s_iload_n rfl dX1_sizeOf_0) ?_
  refine Sim.sq (p1 := 21) (Sim.bk ?_) ?_
  · refine Sim.sq (p1 := 20) (Sim.bk ?_) ?_
    · refine Sim.sq (p1 := 4) (s_if_le dX1_sizeOf_1 (by decide) rfl) ?_
      refine Sim.sq (p1 := 5) (s_iload_n rfl dX1_sizeOf_4) ?_
      refine Sim.sq (p1 := 8) (s_sipush (by decide +kernel) dX1_sizeOf_5) ?_
      refine Sim.sq (p1 := 11) (s_icmp_ge dX1_sizeOf_8 (by decide) rfl) ?_
      refine Sim.sq (p1 := 12) (s_aload_n rfl dX1_sizeOf_11) ?_
      refine Sim.sq (p1 := 15) (s_getr (rfl : vwCl[1]? = some (RX1, TX1, 10)) (by decide) (by decide) inG1 kw46 rfl dX1_sizeOf_12) ?_
      refine Sim.sq (p1 := 16) (s_iload_n rfl dX1_sizeOf_15) ?_
      refine Sim.sq (p1 := 17) (s_iald dX1_sizeOf_16) ?_
      exact (s_goto dX1_sizeOf_17 (by decide) rfl)
    exact (s_iconst (by decide +kernel) dX1_sizeOf_20)
  exact (s_iret rfl dX1_sizeOf_21)
set_option maxRecDepth 100000 in
set_option maxHeartbeats 4000000 in
theorem C_X1_sizeOf (l : Launch) : Ct l yX1_sizeOf cX1_sizeOf 2 (some .int) 0 0 m_X1_sizeOf := Ct_of (y := yX1_sizeOf) (by decide +kernel) S_X1_sizeOf
set_option maxRecDepth 100000 in
set_option maxHeartbeats 4000000 in
theorem S_X5_length {l : Launch} : Sim l (fun _ => True) RX5 "length" cX5_length 1 (some .int) 1 21 [] b_X5_length 0 15 := by
  unfold b_X5_length
  refine Sim.sq (p1 := 1) (s_aload_n rfl dX5_length_0) ?_
  refine Sim.sq (p1 := 4) (s_getr (rfl : vwCl[5]? = some (RX5, TX5, 11)) (by decide) (by decide) inG5 kw193 rfl dX5_length_1) ?_
  refine Sim.sq (p1 := 5) (s_aload_n rfl dX5_length_4) ?_
  refine Sim.sq (p1 := 8) (s_getr (rfl : vwCl[5]? = some (RX5, TX5, 11)) (by decide) (by decide) inG5 kw196 rfl dX5_length_5) ?_
  refine Sim.sq (p1 := 11) (s_getiN (rfl : vwCl[2]? = some (RX2, TX2, 7)) (by decide) (by decide) inG2 kn154 rfl dX5_length_8) ?_
  refine Sim.sq (p1 := 14) (s_callV (C_X1_sizeOf l) (rfl : vwCl[1]? = some (RX1, TX1, 10)) (by decide) kw268 kw269 kw270 kw17 kw271 ⟨rfl, by decide +kernel, by decide +kernel, by decide +kernel⟩ ⟨by decide, by decide⟩ shN1 dX5_length_11) ?_
  exact (s_iret rfl dX5_length_14)
set_option maxRecDepth 100000 in
set_option maxHeartbeats 4000000 in
theorem C_X5_length (l : Launch) : Ct l yX5_length cX5_length 1 (some .int) 1 21 m_X5_length := Ct_of (y := yX5_length) (by decide +kernel) S_X5_length
set_option maxRecDepth 100000 in
set_option maxHeartbeats 4000000 in
theorem S_X5_isPosition {l : Launch} : Sim l (fun _ => True) RX5 "isPosition" cX5_isPosition 2 (some .boolean) 2 41 [] b_X5_isPosition 0 18 := by
  unfold b_X5_isPosition
  refine Sim.sq (p1 := 1) (s_iload_n rfl dX5_isPosition_0) ?_
  refine Sim.sq (p1 := 17) (Sim.bk ?_) ?_
  · refine Sim.sq (p1 := 16) (Sim.bk ?_) ?_
    · refine Sim.sq (p1 := 4) (s_if_lt dX5_isPosition_1 (by decide) rfl) ?_
      refine Sim.sq (p1 := 5) (s_iload_n rfl dX5_isPosition_4) ?_
      refine Sim.sq (p1 := 6) (s_aload_n rfl dX5_isPosition_5) ?_
      refine Sim.sq (p1 := 9) (s_callV (C_X5_length l) (rfl : vwCl[5]? = some (RX5, TX5, 11)) (by decide) kw264 kw265 kw266 kw15 kw267 ⟨rfl, by decide +kernel, by decide +kernel, by decide +kernel⟩ ⟨by decide, by decide⟩ shN5 dX5_isPosition_6) ?_
      refine Sim.sq (p1 := 12) (s_icmp_gt dX5_isPosition_9 (by decide) rfl) ?_
      refine Sim.sq (p1 := 13) (s_iconst (by decide +kernel) dX5_isPosition_12) ?_
      exact (s_goto dX5_isPosition_13 (by decide) rfl)
    exact (s_iconst (by decide +kernel) dX5_isPosition_16)
  exact (s_zret rfl dX5_isPosition_17)
set_option maxRecDepth 100000 in
set_option maxHeartbeats 4000000 in
theorem C_X5_isPosition (l : Launch) : Ct l yX5_isPosition cX5_isPosition 2 (some .boolean) 2 41 m_X5_isPosition := Ct_of (y := yX5_isPosition) (by decide +kernel) S_X5_isPosition
set_option maxRecDepth 100000 in
set_option maxHeartbeats 4000000 in
theorem S_X1_startCollection {l : Launch} : Sim l (fun _ => True) RX1 "startCollection" cX1_startCollection 2 none 0 0 [] b_X1_startCollection 0 23 := by
  unfold b_X1_startCollection
  refine Sim.sq (p1 := 1) (s_iconst (by decide +kernel) dX1_startCollection_0) ?_
  refine Sim.sq (p1 := 2) (s_istore_n rfl (by decide) dX1_startCollection_1) ?_
  refine Sim.sq (p1 := 22) (Sim.lp ?_) ?_
  · refine Sim.sq (p1 := 3) (s_iload_n rfl dX1_startCollection_2) ?_
    refine Sim.sq (p1 := 6) (s_sipush (by decide +kernel) dX1_startCollection_3) ?_
    refine Sim.bk ?_
    refine Sim.sq (p1 := 9) (s_icmp_ge dX1_startCollection_6 (by decide) rfl) ?_
    refine Sim.sq (p1 := 10) (s_aload_n rfl dX1_startCollection_9) ?_
    refine Sim.sq (p1 := 13) (s_getr (rfl : vwCl[1]? = some (RX1, TX1, 10)) (by decide) (by decide) inG1 kw50 rfl dX1_startCollection_10) ?_
    refine Sim.sq (p1 := 14) (s_iload_n rfl dX1_startCollection_13) ?_
    refine Sim.sq (p1 := 15) (s_iconst (by decide +kernel) dX1_startCollection_14) ?_
    refine Sim.sq (p1 := 16) (s_zast dX1_startCollection_15) ?_
    refine Sim.sq (p1 := 19) (s_iinc (by decide +kernel) (by decide) dX1_startCollection_16) ?_
    exact (s_goto dX1_startCollection_19 (by decide) rfl)
  exact (s_vret rfl dX1_startCollection_22)
set_option maxRecDepth 100000 in
set_option maxHeartbeats 4000000 in
theorem C_X1_startCollection (l : Launch) : Ct l yX1_startCollection cX1_startCollection 2 none 0 0 m_X1_startCollection := Ct_of (y := yX1_startCollection) (by decide +kernel) S_X1_startCollection
set_option maxRecDepth 100000 in
set_option maxHeartbeats 4000000 in
theorem S_X1_retain {l : Launch} : Sim l (fun _ => True) RX1 "retain" cX1_retain 5 none 0 0 [] b_X1_retain 0 100 := by
  unfold b_X1_retain b_X1_retain_t0 b_X1_retain_l0
  refine Sim.sq (p1 := 1) (s_iload_n rfl dX1_retain_0) ?_
  refine Sim.sq (p1 := 2) (s_istore_n rfl (by decide) dX1_retain_1) ?_
  refine Sim.sq (p1 := 3) (s_iconst (by decide +kernel) dX1_retain_2) ?_
  refine Sim.sq (p1 := 4) (s_istore_n rfl (by decide) dX1_retain_3) ?_
  refine Sim.sq (p1 := 5) (s_iconst (by decide +kernel) dX1_retain_4) ?_
  refine Sim.sq (p1 := 7) (s_istore (by decide) dX1_retain_5) ?_
  refine Sim.sq (p1 := 99) (Sim.lp ?_) ?_
  · refine Sim.sq (p1 := 9) (s_iload dX1_retain_7) ?_
    refine Sim.sq (p1 := 11) (s_ldc kw292 dX1_retain_9) ?_
    refine Sim.bk ?_
    refine Sim.sq (p1 := 14) (s_icmp_ge dX1_retain_11 (by decide) rfl) ?_
    refine Sim.sq (p1 := 15) (s_iload_n rfl dX1_retain_14) ?_
    refine Sim.sq (p1 := 93) (Sim.bk ?_) ?_
    · refine Sim.sq (p1 := 75) (Sim.bk ?_) ?_
      · refine Sim.sq (p1 := 18) (s_if_le dX1_retain_15 (by decide) rfl) ?_
        refine Sim.sq (p1 := 19) (s_iload_n rfl dX1_retain_18) ?_
        refine Sim.sq (p1 := 22) (s_sipush (by decide +kernel) dX1_retain_19) ?_
        refine Sim.sq (p1 := 25) (s_icmp_ge dX1_retain_22 (by decide) rfl) ?_
        refine Sim.sq (p1 := 26) (s_aload_n rfl dX1_retain_25) ?_
        refine Sim.sq (p1 := 29) (s_getr (rfl : vwCl[1]? = some (RX1, TX1, 10)) (by decide) (by decide) inG1 kw50 rfl dX1_retain_26) ?_
        refine Sim.sq (p1 := 30) (s_iload_n rfl dX1_retain_29) ?_
        refine Sim.sq (p1 := 31) (s_zald dX1_retain_30) ?_
        refine Sim.sq (p1 := 34) (s_if_ne dX1_retain_31 (by decide) rfl) ?_
        refine Sim.sq (p1 := 35) (s_aload_n rfl dX1_retain_34) ?_
        refine Sim.sq (p1 := 38) (s_getr (rfl : vwCl[1]? = some (RX1, TX1, 10)) (by decide) (by decide) inG1 kw50 rfl dX1_retain_35) ?_
        refine Sim.sq (p1 := 39) (s_iload_n rfl dX1_retain_38) ?_
        refine Sim.sq (p1 := 40) (s_iconst (by decide +kernel) dX1_retain_39) ?_
        refine Sim.sq (p1 := 41) (s_zast dX1_retain_40) ?_
        refine Sim.sq (p1 := 42) (s_iload_n rfl dX1_retain_41) ?_
        refine Sim.sq (p1 := 43) (s_aload_n rfl dX1_retain_42) ?_
        refine Sim.sq (p1 := 46) (s_getr (rfl : vwCl[1]? = some (RX1, TX1, 10)) (by decide) (by decide) inG1 kw54 rfl dX1_retain_43) ?_
        refine Sim.sq (p1 := 47) (s_alen dX1_retain_46) ?_
        refine Sim.sq (p1 := 65) (Sim.bk ?_) ?_
        · refine Sim.sq (p1 := 50) (s_icmp_ge dX1_retain_47 (by decide) rfl) ?_
          refine Sim.sq (p1 := 51) (s_aload_n rfl dX1_retain_50) ?_
          refine Sim.sq (p1 := 54) (s_getr (rfl : vwCl[1]? = some (RX1, TX1, 10)) (by decide) (by decide) inG1 kw54 rfl dX1_retain_51) ?_
          refine Sim.sq (p1 := 55) (s_iload_n rfl dX1_retain_54) ?_
          refine Sim.sq (p1 := 56) (s_aload_n rfl dX1_retain_55) ?_
          refine Sim.sq (p1 := 59) (s_getr (rfl : vwCl[1]? = some (RX1, TX1, 10)) (by decide) (by decide) inG1 kw45 rfl dX1_retain_56) ?_
          refine Sim.sq (p1 := 60) (s_iload_n rfl dX1_retain_59) ?_
          refine Sim.sq (p1 := 61) (s_iald dX1_retain_60) ?_
          refine Sim.sq (p1 := 62) (s_iast dX1_retain_61) ?_
          exact (s_iinc (by decide +kernel) (by decide) dX1_retain_62)
        refine Sim.sq (p1 := 66) (s_aload_n rfl dX1_retain_65) ?_
        refine Sim.sq (p1 := 69) (s_getr (rfl : vwCl[1]? = some (RX1, TX1, 10)) (by decide) (by decide) inG1 kw44 rfl dX1_retain_66) ?_
        refine Sim.sq (p1 := 70) (s_iload_n rfl dX1_retain_69) ?_
        refine Sim.sq (p1 := 71) (s_iald dX1_retain_70) ?_
        refine Sim.sq (p1 := 72) (s_istore_n rfl (by decide) dX1_retain_71) ?_
        exact (s_goto dX1_retain_72 (by decide) rfl)
      refine Sim.sq (p1 := 76) (s_iload_n rfl dX1_retain_75) ?_
      refine Sim.sq (p1 := 92) (Sim.bk ?_) ?_
      · refine Sim.sq (p1 := 79) (s_if_le dX1_retain_76 (by decide) rfl) ?_
        refine Sim.sq (p1 := 82) (s_iinc (by decide +kernel) (by decide) dX1_retain_79) ?_
        refine Sim.sq (p1 := 83) (s_aload_n rfl dX1_retain_82) ?_
        refine Sim.sq (p1 := 86) (s_getr (rfl : vwCl[1]? = some (RX1, TX1, 10)) (by decide) (by decide) inG1 kw54 rfl dX1_retain_83) ?_
        refine Sim.sq (p1 := 87) (s_iload_n rfl dX1_retain_86) ?_
        refine Sim.sq (p1 := 88) (s_iald dX1_retain_87) ?_
        refine Sim.sq (p1 := 89) (s_istore_n rfl (by decide) dX1_retain_88) ?_
        exact (s_goto dX1_retain_89 (by decide) rfl)
      exact (s_vret rfl dX1_retain_92)
    refine Sim.sq (p1 := 96) (s_iinc (by decide +kernel) (by decide) dX1_retain_93) ?_
    exact (s_goto dX1_retain_96 (by decide) rfl)
  exact (s_vret rfl dX1_retain_99)
set_option maxRecDepth 100000 in
set_option maxHeartbeats 4000000 in
theorem C_X1_retain (l : Launch) : Ct l yX1_retain cX1_retain 5 none 0 0 m_X1_retain := Ct_of (y := yX1_retain) (by decide +kernel) S_X1_retain
set_option maxRecDepth 100000 in
set_option maxHeartbeats 4000000 in
theorem S_X2_hasInRing {l : Launch} : Sim l (fun _ => True) RX2 "hasInRing" cX2_hasInRing 2 (some .boolean) 0 0 [] b_X2_hasInRing 0 18 := by
  unfold b_X2_hasInRing
  refine Sim.sq (p1 := 1) (s_iload_n rfl dX2_hasInRing_0) ?_
  refine Sim.sq (p1 := 17) (Sim.bk ?_) ?_
  · refine Sim.sq (p1 := 16) (Sim.bk ?_) ?_
    · refine Sim.sq (p1 := 4) (s_if_lt dX2_hasInRing_1 (by decide) rfl) ?_
      refine Sim.sq (p1 := 5) (s_iload_n rfl dX2_hasInRing_4) ?_
      refine Sim.sq (p1 := 6) (s_aload_n rfl dX2_hasInRing_5) ?_
      refine Sim.sq (p1 := 9) (s_geti (rfl : vwCl[2]? = some (RX2, TX2, 7)) (by decide) (by decide) inG2 kw147 rfl dX2_hasInRing_6) ?_
      refine Sim.sq (p1 := 12) (s_icmp_ge dX2_hasInRing_9 (by decide) rfl) ?_
      refine Sim.sq (p1 := 13) (s_iconst (by decide +kernel) dX2_hasInRing_12) ?_
      exact (s_goto dX2_hasInRing_13 (by decide) rfl)
    exact (s_iconst (by decide +kernel) dX2_hasInRing_16)
  exact (s_zret rfl dX2_hasInRing_17)
set_option maxRecDepth 100000 in
set_option maxHeartbeats 4000000 in
theorem C_X2_hasInRing (l : Launch) : Ct l yX2_hasInRing cX2_hasInRing 2 (some .boolean) 0 0 m_X2_hasInRing := Ct_of (y := yX2_hasInRing) (by decide +kernel) S_X2_hasInRing
set_option maxRecDepth 100000 in
set_option maxHeartbeats 4000000 in
theorem S_X2_ropeOfRing {l : Launch} : Sim l (fun _ => True) RX2 "ropeOfRing" cX2_ropeOfRing 2 (some .int) 1 21 [] b_X2_ropeOfRing 0 28 := by
  unfold b_X2_ropeOfRing
  refine Sim.sq (p1 := 1) (s_aload_n rfl dX2_ropeOfRing_0) ?_
  refine Sim.sq (p1 := 2) (s_iload_n rfl dX2_ropeOfRing_1) ?_
  refine Sim.sq (p1 := 5) (s_callV (C_X2_hasInRing l) (rfl : vwCl[2]? = some (RX2, TX2, 7)) (by decide) kw297 kw298 kw299 kw19 kw300 ⟨rfl, by decide +kernel, by decide +kernel, by decide +kernel⟩ ⟨by decide, by decide⟩ shN2 dX2_ropeOfRing_2) ?_
  refine Sim.sq (p1 := 27) (Sim.bk ?_) ?_
  · refine Sim.sq (p1 := 26) (Sim.bk ?_) ?_
    · refine Sim.sq (p1 := 8) (s_if_eq dX2_ropeOfRing_5 (by decide) rfl) ?_
      refine Sim.sq (p1 := 9) (s_iload_n rfl dX2_ropeOfRing_8) ?_
      refine Sim.sq (p1 := 10) (s_aload_n rfl dX2_ropeOfRing_9) ?_
      refine Sim.sq (p1 := 13) (s_getr (rfl : vwCl[2]? = some (RX2, TX2, 7)) (by decide) (by decide) inG2 kw146 rfl dX2_ropeOfRing_10) ?_
      refine Sim.sq (p1 := 14) (s_alen dX2_ropeOfRing_13) ?_
      refine Sim.sq (p1 := 17) (s_icmp_ge dX2_ropeOfRing_14 (by decide) rfl) ?_
      refine Sim.sq (p1 := 18) (s_aload_n rfl dX2_ropeOfRing_17) ?_
      refine Sim.sq (p1 := 21) (s_getr (rfl : vwCl[2]? = some (RX2, TX2, 7)) (by decide) (by decide) inG2 kw146 rfl dX2_ropeOfRing_18) ?_
      refine Sim.sq (p1 := 22) (s_iload_n rfl dX2_ropeOfRing_21) ?_
      refine Sim.sq (p1 := 23) (s_iald dX2_ropeOfRing_22) ?_
      exact (s_goto dX2_ropeOfRing_23 (by decide) rfl)
    exact (s_iconst (by decide +kernel) dX2_ropeOfRing_26)
  exact (s_iret rfl dX2_ropeOfRing_27)
set_option maxRecDepth 100000 in
set_option maxHeartbeats 4000000 in
theorem C_X2_ropeOfRing (l : Launch) : Ct l yX2_ropeOfRing cX2_ropeOfRing 2 (some .int) 1 21 m_X2_ropeOfRing := Ct_of (y := yX2_ropeOfRing) (by decide +kernel) S_X2_ropeOfRing
set_option maxRecDepth 100000 in
set_option maxHeartbeats 4000000 in
theorem S_X5_retainState {l : Launch} : Sim l (fun _ => True) RX5 "retainState" cX5_retainState 3 none 2 42 [] b_X5_retainState 0 45 := by
  unfold b_X5_retainState
  refine Sim.sq (p1 := 1) (s_aload_n rfl dX5_retainState_0) ?_
  refine Sim.sq (p1 := 4) (s_getr (rfl : vwCl[5]? = some (RX5, TX5, 11)) (by decide) (by decide) inG5 kw193 rfl dX5_retainState_1) ?_
  refine Sim.sq (p1 := 5) (s_aload_n rfl dX5_retainState_4) ?_
  refine Sim.sq (p1 := 8) (s_getiN (rfl : vwCl[2]? = some (RX2, TX2, 7)) (by decide) (by decide) inG2 kn154 rfl dX5_retainState_5) ?_
  refine Sim.sq (p1 := 11) (s_callV (C_X1_retain l) (rfl : vwCl[1]? = some (RX1, TX1, 10)) (by decide) kw288 kw289 kw290 kw17 kw291 ⟨rfl, by decide +kernel, by decide +kernel, by decide +kernel⟩ ⟨by decide, by decide⟩ shN1 dX5_retainState_8) ?_
  refine Sim.sq (p1 := 12) (s_iconst (by decide +kernel) dX5_retainState_11) ?_
  refine Sim.sq (p1 := 13) (s_istore_n rfl (by decide) dX5_retainState_12) ?_
  refine Sim.sq (p1 := 44) (Sim.lp ?_) ?_
  · refine Sim.sq (p1 := 14) (s_iload_n rfl dX5_retainState_13) ?_
    refine Sim.sq (p1 := 15) (s_aload_n rfl dX5_retainState_14) ?_
    refine Sim.sq (p1 := 18) (s_getiN (rfl : vwCl[2]? = some (RX2, TX2, 7)) (by decide) (by decide) inG2 kn148 rfl dX5_retainState_15) ?_
    refine Sim.bk ?_
    refine Sim.sq (p1 := 21) (s_icmp_ge dX5_retainState_18 (by decide) rfl) ?_
    refine Sim.sq (p1 := 22) (s_iload_n rfl dX5_retainState_21) ?_
    refine Sim.sq (p1 := 23) (s_iconst (by decide +kernel) dX5_retainState_22) ?_
    refine Sim.sq (p1 := 26) (s_icmp_ge dX5_retainState_23 (by decide) rfl) ?_
    refine Sim.sq (p1 := 27) (s_aload_n rfl dX5_retainState_26) ?_
    refine Sim.sq (p1 := 30) (s_getr (rfl : vwCl[5]? = some (RX5, TX5, 11)) (by decide) (by decide) inG5 kw193 rfl dX5_retainState_27) ?_
    refine Sim.sq (p1 := 31) (s_aload_n rfl dX5_retainState_30) ?_
    refine Sim.sq (p1 := 32) (s_iload_n rfl dX5_retainState_31) ?_
    refine Sim.sq (p1 := 35) (s_callV (C_X2_ropeOfRing l) (rfl : vwCl[2]? = some (RX2, TX2, 7)) (by decide) kw293 kw294 kw295 kw19 kw296 ⟨rfl, by decide +kernel, by decide +kernel, by decide +kernel⟩ ⟨by decide, by decide⟩ shN2 dX5_retainState_32) ?_
    refine Sim.sq (p1 := 38) (s_callV (C_X1_retain l) (rfl : vwCl[1]? = some (RX1, TX1, 10)) (by decide) kw288 kw289 kw290 kw17 kw291 ⟨rfl, by decide +kernel, by decide +kernel, by decide +kernel⟩ ⟨by decide, by decide⟩ shN1 dX5_retainState_35) ?_
    refine Sim.sq (p1 := 41) (s_iinc (by decide +kernel) (by decide) dX5_retainState_38) ?_
    exact (s_goto dX5_retainState_41 (by decide) rfl)
  exact (s_vret rfl dX5_retainState_44)
set_option maxRecDepth 100000 in
set_option maxHeartbeats 4000000 in
theorem C_X5_retainState (l : Launch) : Ct l yX5_retainState cX5_retainState 3 none 2 42 m_X5_retainState := Ct_of (y := yX5_retainState) (by decide +kernel) S_X5_retainState
set_option maxRecDepth 100000 in
set_option maxHeartbeats 4000000 in
theorem S_X1_endCollection {l : Launch} : Sim l (fun _ => True) RX1 "endCollection" cX1_endCollection 2 none 0 0 [] b_X1_endCollection 0 45 := by
  unfold b_X1_endCollection
  refine Sim.sq (p1 := 1) (s_aload_n rfl dX1_endCollection_0) ?_
  refine Sim.sq (p1 := 2) (s_iconst (by decide +kernel) dX1_endCollection_1) ?_
  refine Sim.sq (p1 := 5) (s_puti (rfl : vwCl[1]? = some (RX1, TX1, 10)) (by decide) (by decide) inG1 kw52 rfl tyX1 tyX1_ok nmX1 rfl (by decide +kernel) dX1_endCollection_2) ?_
  refine Sim.sq (p1 := 6) (s_iconst (by decide +kernel) dX1_endCollection_5) ?_
  refine Sim.sq (p1 := 7) (s_istore_n rfl (by decide) dX1_endCollection_6) ?_
  refine Sim.sq (p1 := 39) (Sim.lp ?_) ?_
  · refine Sim.sq (p1 := 8) (s_iload_n rfl dX1_endCollection_7) ?_
    refine Sim.sq (p1 := 11) (s_sipush (by decide +kernel) dX1_endCollection_8) ?_
    refine Sim.bk ?_
    refine Sim.sq (p1 := 14) (s_icmp_ge dX1_endCollection_11 (by decide) rfl) ?_
    refine Sim.sq (p1 := 15) (s_aload_n rfl dX1_endCollection_14) ?_
    refine Sim.sq (p1 := 18) (s_getr (rfl : vwCl[1]? = some (RX1, TX1, 10)) (by decide) (by decide) inG1 kw50 rfl dX1_endCollection_15) ?_
    refine Sim.sq (p1 := 19) (s_iload_n rfl dX1_endCollection_18) ?_
    refine Sim.sq (p1 := 20) (s_zald dX1_endCollection_19) ?_
    refine Sim.sq (p1 := 33) (Sim.bk ?_) ?_
    · refine Sim.sq (p1 := 23) (s_if_ne dX1_endCollection_20 (by decide) rfl) ?_
      refine Sim.sq (p1 := 24) (s_aload_n rfl dX1_endCollection_23) ?_
      refine Sim.sq (p1 := 25) (s_dup dX1_endCollection_24) ?_
      refine Sim.sq (p1 := 28) (s_geti (rfl : vwCl[1]? = some (RX1, TX1, 10)) (by decide) (by decide) inG1 kw52 rfl dX1_endCollection_25) ?_
      refine Sim.sq (p1 := 29) (s_iconst (by decide +kernel) dX1_endCollection_28) ?_
      refine Sim.sq (p1 := 30) (s_iadd dX1_endCollection_29) ?_
      exact (s_puti (rfl : vwCl[1]? = some (RX1, TX1, 10)) (by decide) (by decide) inG1 kw52 rfl tyX1 tyX1_ok nmX1 rfl (by decide +kernel) dX1_endCollection_30)
    refine Sim.sq (p1 := 36) (s_iinc (by decide +kernel) (by decide) dX1_endCollection_33) ?_
    exact (s_goto dX1_endCollection_36 (by decide) rfl)
  refine Sim.sq (p1 := 40) (s_aload_n rfl dX1_endCollection_39) ?_
  refine Sim.sq (p1 := 41) (s_iconst (by decide +kernel) dX1_endCollection_40) ?_
  refine Sim.sq (p1 := 44) (s_puti (rfl : vwCl[1]? = some (RX1, TX1, 10)) (by decide) (by decide) inG1 kw51 rfl tyX1 tyX1_ok nmX1 rfl (by decide +kernel) dX1_endCollection_41) ?_
  exact (s_vret rfl dX1_endCollection_44)
set_option maxRecDepth 100000 in
set_option maxHeartbeats 4000000 in
theorem C_X1_endCollection (l : Launch) : Ct l yX1_endCollection cX1_endCollection 2 none 0 0 m_X1_endCollection := Ct_of (y := yX1_endCollection) (by decide +kernel) S_X1_endCollection
set_option maxRecDepth 100000 in
set_option maxHeartbeats 4000000 in
theorem S_X5_makeRoom {l : Launch} : Sim l (fun _ => True) RX5 "makeRoom" cX5_makeRoom 3 none 3 64 [] b_X5_makeRoom 0 110 := by
  unfold b_X5_makeRoom
  refine Sim.sq (p1 := 1) (s_aload_n rfl dX5_makeRoom_0) ?_
  refine Sim.sq (p1 := 4) (s_getr (rfl : vwCl[5]? = some (RX5, TX5, 11)) (by decide) (by decide) inG5 kw193 rfl dX5_makeRoom_1) ?_
  refine Sim.sq (p1 := 7) (s_getiN (rfl : vwCl[1]? = some (RX1, TX1, 10)) (by decide) (by decide) inG1 kn53 rfl dX5_makeRoom_4) ?_
  refine Sim.sq (p1 := 10) (s_sipush (by decide +kernel) dX5_makeRoom_7) ?_
  refine Sim.sq (p1 := 14) (Sim.bk ?_) ?_
  · refine Sim.sq (p1 := 13) (s_icmp_lt dX5_makeRoom_10 (by decide) rfl) ?_
    exact (s_vret rfl dX5_makeRoom_13)
  refine Sim.sq (p1 := 15) (s_aload_n rfl dX5_makeRoom_14) ?_
  refine Sim.sq (p1 := 18) (s_getr (rfl : vwCl[5]? = some (RX5, TX5, 11)) (by decide) (by decide) inG5 kw193 rfl dX5_makeRoom_15) ?_
  refine Sim.sq (p1 := 21) (s_callV (C_X1_startCollection l) (rfl : vwCl[1]? = some (RX1, TX1, 10)) (by decide) kw280 kw281 kw282 kw17 kw283 ⟨rfl, by decide +kernel, by decide +kernel, by decide +kernel⟩ ⟨by decide, by decide⟩ shN1 dX5_makeRoom_18) ?_
  refine Sim.sq (p1 := 22) (s_aload_n rfl dX5_makeRoom_21) ?_
  refine Sim.sq (p1 := 23) (s_aload_n rfl dX5_makeRoom_22) ?_
  refine Sim.sq (p1 := 26) (s_getr (rfl : vwCl[5]? = some (RX5, TX5, 11)) (by decide) (by decide) inG5 kw196 rfl dX5_makeRoom_23) ?_
  refine Sim.sq (p1 := 29) (s_callV (C_X5_retainState l) (rfl : vwCl[5]? = some (RX5, TX5, 11)) (by decide) kw284 kw286 kw3 kw15 kw287 ⟨rfl, by decide +kernel, by decide +kernel, by decide +kernel⟩ ⟨by decide, by decide⟩ shN5 dX5_makeRoom_26) ?_
  refine Sim.sq (p1 := 30) (s_iconst (by decide +kernel) dX5_makeRoom_29) ?_
  refine Sim.sq (p1 := 31) (s_istore_n rfl (by decide) dX5_makeRoom_30) ?_
  refine Sim.sq (p1 := 72) (Sim.lp ?_) ?_
  · refine Sim.sq (p1 := 32) (s_iload_n rfl dX5_makeRoom_31) ?_
    refine Sim.sq (p1 := 33) (s_aload_n rfl dX5_makeRoom_32) ?_
    refine Sim.sq (p1 := 36) (s_getr (rfl : vwCl[5]? = some (RX5, TX5, 11)) (by decide) (by decide) inG5 kw197 rfl dX5_makeRoom_33) ?_
    refine Sim.sq (p1 := 39) (s_getiN (rfl : vwCl[0]? = some (RX0, TX0, 3)) (by decide) (by decide) inG0 kn184 rfl dX5_makeRoom_36) ?_
    refine Sim.bk ?_
    refine Sim.sq (p1 := 42) (s_icmp_ge dX5_makeRoom_39 (by decide) rfl) ?_
    refine Sim.sq (p1 := 43) (s_iload_n rfl dX5_makeRoom_42) ?_
    refine Sim.sq (p1 := 45) (s_bipush (by decide +kernel) dX5_makeRoom_43) ?_
    refine Sim.sq (p1 := 48) (s_icmp_ge dX5_makeRoom_45 (by decide) rfl) ?_
    refine Sim.sq (p1 := 49) (s_aload_n rfl dX5_makeRoom_48) ?_
    refine Sim.sq (p1 := 52) (s_getr (rfl : vwCl[5]? = some (RX5, TX5, 11)) (by decide) (by decide) inG5 kw197 rfl dX5_makeRoom_49) ?_
    refine Sim.sq (p1 := 53) (s_iload_n rfl dX5_makeRoom_52) ?_
    refine Sim.sq (p1 := 56) (s_callV (C_X0_savedState l) (rfl : vwCl[0]? = some (RX0, TX0, 3)) (by decide) kw301 kw235 kw236 kw21 kw237 ⟨rfl, by decide +kernel, by decide +kernel, by decide +kernel⟩ ⟨by decide, by decide⟩ shN0 dX5_makeRoom_53) ?_
    refine Sim.sq (p1 := 57) (s_astore_n rfl (by decide) dX5_makeRoom_56) ?_
    refine Sim.sq (p1 := 58) (s_aload_n rfl dX5_makeRoom_57) ?_
    refine Sim.sq (p1 := 66) (Sim.bk ?_) ?_
    · refine Sim.sq (p1 := 61) (s_ifnull dX5_makeRoom_58 (by decide) rfl) ?_
      refine Sim.sq (p1 := 62) (s_aload_n rfl dX5_makeRoom_61) ?_
      refine Sim.sq (p1 := 63) (s_aload_n rfl dX5_makeRoom_62) ?_
      exact (s_callV (C_X5_retainState l) (rfl : vwCl[5]? = some (RX5, TX5, 11)) (by decide) kw284 kw286 kw3 kw15 kw287 ⟨rfl, by decide +kernel, by decide +kernel, by decide +kernel⟩ ⟨by decide, by decide⟩ shN5 dX5_makeRoom_63)
    refine Sim.sq (p1 := 69) (s_iinc (by decide +kernel) (by decide) dX5_makeRoom_66) ?_
    exact (s_goto dX5_makeRoom_69 (by decide) rfl)
  refine Sim.sq (p1 := 73) (s_iconst (by decide +kernel) dX5_makeRoom_72) ?_
  refine Sim.sq (p1 := 74) (s_istore_n rfl (by decide) dX5_makeRoom_73) ?_
  refine Sim.sq (p1 := 102) (Sim.lp ?_) ?_
  · refine Sim.sq (p1 := 75) (s_iload_n rfl dX5_makeRoom_74) ?_
    refine Sim.sq (p1 := 76) (s_aload_n rfl dX5_makeRoom_75) ?_
    refine Sim.sq (p1 := 79) (s_getr (rfl : vwCl[5]? = some (RX5, TX5, 11)) (by decide) (by decide) inG5 kw198 rfl dX5_makeRoom_76) ?_
    refine Sim.sq (p1 := 80) (s_alen dX5_makeRoom_79) ?_
    refine Sim.bk ?_
    refine Sim.sq (p1 := 83) (s_icmp_ge dX5_makeRoom_80 (by decide) rfl) ?_
    refine Sim.sq (p1 := 84) (s_aload_n rfl dX5_makeRoom_83) ?_
    refine Sim.sq (p1 := 87) (s_getr (rfl : vwCl[5]? = some (RX5, TX5, 11)) (by decide) (by decide) inG5 kw193 rfl dX5_makeRoom_84) ?_
    refine Sim.sq (p1 := 88) (s_aload_n rfl dX5_makeRoom_87) ?_
    refine Sim.sq (p1 := 91) (s_getr (rfl : vwCl[5]? = some (RX5, TX5, 11)) (by decide) (by decide) inG5 kw198 rfl dX5_makeRoom_88) ?_
    refine Sim.sq (p1 := 92) (s_iload_n rfl dX5_makeRoom_91) ?_
    refine Sim.sq (p1 := 93) (s_iald dX5_makeRoom_92) ?_
    refine Sim.sq (p1 := 96) (s_callV (C_X1_retain l) (rfl : vwCl[1]? = some (RX1, TX1, 10)) (by decide) kw288 kw289 kw290 kw17 kw291 ⟨rfl, by decide +kernel, by decide +kernel, by decide +kernel⟩ ⟨by decide, by decide⟩ shN1 dX5_makeRoom_93) ?_
    refine Sim.sq (p1 := 99) (s_iinc (by decide +kernel) (by decide) dX5_makeRoom_96) ?_
    exact (s_goto dX5_makeRoom_99 (by decide) rfl)
  refine Sim.sq (p1 := 103) (s_aload_n rfl dX5_makeRoom_102) ?_
  refine Sim.sq (p1 := 106) (s_getr (rfl : vwCl[5]? = some (RX5, TX5, 11)) (by decide) (by decide) inG5 kw193 rfl dX5_makeRoom_103) ?_
  refine Sim.sq (p1 := 109) (s_callV (C_X1_endCollection l) (rfl : vwCl[1]? = some (RX1, TX1, 10)) (by decide) kw302 kw303 kw304 kw17 kw305 ⟨rfl, by decide +kernel, by decide +kernel, by decide +kernel⟩ ⟨by decide, by decide⟩ shN1 dX5_makeRoom_106) ?_
  exact (s_vret rfl dX5_makeRoom_109)
set_option maxRecDepth 100000 in
set_option maxHeartbeats 4000000 in
theorem C_X5_makeRoom (l : Launch) : Ct l yX5_makeRoom cX5_makeRoom 3 none 3 64 m_X5_makeRoom := Ct_of (y := yX5_makeRoom) (by decide +kernel) S_X5_makeRoom
set_option maxRecDepth 100000 in
set_option maxHeartbeats 4000000 in
theorem S_X5_startChange {l : Launch} : Sim l (fun _ => True) RX5 "startChange" cX5_startChange 1 none 4 243 [] b_X5_startChange 0 16 := by
  unfold b_X5_startChange
  refine Sim.sq (p1 := 1) (s_aload_n rfl dX5_startChange_0) ?_
  refine Sim.sq (p1 := 4) (s_getr (rfl : vwCl[5]? = some (RX5, TX5, 11)) (by decide) (by decide) inG5 kw197 rfl dX5_startChange_1) ?_
  refine Sim.sq (p1 := 5) (s_aload_n rfl dX5_startChange_4) ?_
  refine Sim.sq (p1 := 8) (s_getr (rfl : vwCl[5]? = some (RX5, TX5, 11)) (by decide) (by decide) inG5 kw196 rfl dX5_startChange_5) ?_
  refine Sim.sq (p1 := 11) (s_callV (C_X0_save l) (rfl : vwCl[0]? = some (RX0, TX0, 3)) (by decide) kw230 kw231 kw232 kw21 kw233 ⟨rfl, by decide +kernel, by decide +kernel, by decide +kernel⟩ ⟨by decide, by decide⟩ shN0 dX5_startChange_8) ?_
  refine Sim.sq (p1 := 12) (s_aload_n rfl dX5_startChange_11) ?_
  refine Sim.sq (p1 := 15) (s_callV (C_X5_makeRoom l) (rfl : vwCl[5]? = some (RX5, TX5, 11)) (by decide) kw276 kw278 kw2 kw15 kw279 ⟨rfl, by decide +kernel, by decide +kernel, by decide +kernel⟩ ⟨by decide, by decide⟩ shN5 dX5_startChange_12) ?_
  exact (s_vret rfl dX5_startChange_15)
set_option maxRecDepth 100000 in
set_option maxHeartbeats 4000000 in
theorem C_X5_startChange (l : Launch) : Ct l yX5_startChange cX5_startChange 1 none 4 243 m_X5_startChange := Ct_of (y := yX5_startChange) (by decide +kernel) S_X5_startChange
