set_option maxRecDepth 100000 in
set_option maxHeartbeats 4000000 in
theorem S_X5_setBalancing {l : Launch} : Sim l (fun _ => True) RX5 "setBalancing" cX5_setBalancing 3 (some .int) 3 243 [] b_X5_setBalancing 0 41 := by
  unfold b_X5_setBalancing
  refine Sim.sq (p1 := 1) (s_iload_n rfl dX5_setBalancing_0) ?_
  refine Sim.sq (p1 := 12) (Sim.bk ?_) ?_
  · refine Sim.sq (p1 := 4) (s_if_eq dX5_setBalancing_1 (by decide) rfl) ?_
    refine Sim.sq (p1 := 5) (s_iload_n rfl dX5_setBalancing_4) ?_
    refine Sim.sq (p1 := 6) (s_iconst (by decide +kernel) dX5_setBalancing_5) ?_
    refine Sim.sq (p1 := 9) (s_icmp_eq dX5_setBalancing_6 (by decide) rfl) ?_
    refine Sim.sq (p1 := 11) (s_bipush (by decide +kernel) dX5_setBalancing_9) ?_
    exact (s_iret rfl dX5_setBalancing_11)
  refine Sim.sq (p1 := 13) (s_aload_n rfl dX5_setBalancing_12) ?_
  refine Sim.sq (p1 := 16) (s_getr (rfl : vwCl[5]? = some (RX5, TX5, 11)) (by decide) (by decide) inG5 kw196 rfl dX5_setBalancing_13) ?_
  refine Sim.sq (p1 := 19) (s_getiN (rfl : vwCl[2]? = some (RX2, TX2, 7)) (by decide) (by decide) inG2 kn152 rfl dX5_setBalancing_16) ?_
  refine Sim.sq (p1 := 20) (s_istore_n rfl (by decide) dX5_setBalancing_19) ?_
  refine Sim.sq (p1 := 21) (s_aload_n rfl dX5_setBalancing_20) ?_
  refine Sim.sq (p1 := 24) (s_getr (rfl : vwCl[5]? = some (RX5, TX5, 11)) (by decide) (by decide) inG5 kw197 rfl dX5_setBalancing_21) ?_
  refine Sim.sq (p1 := 25) (s_aload_n rfl dX5_setBalancing_24) ?_
  refine Sim.sq (p1 := 28) (s_getr (rfl : vwCl[5]? = some (RX5, TX5, 11)) (by decide) (by decide) inG5 kw196 rfl dX5_setBalancing_25) ?_
  refine Sim.sq (p1 := 31) (s_callV (C_X0_save l) (rfl : vwCl[0]? = some (RX0, TX0, 3)) (by decide) kw230 kw231 kw232 kw21 kw233 ⟨rfl, by decide +kernel, by decide +kernel, by decide +kernel⟩ ⟨by decide, by decide⟩ shN0 dX5_setBalancing_28) ?_
  refine Sim.sq (p1 := 32) (s_aload_n rfl dX5_setBalancing_31) ?_
  refine Sim.sq (p1 := 35) (s_getr (rfl : vwCl[5]? = some (RX5, TX5, 11)) (by decide) (by decide) inG5 kw196 rfl dX5_setBalancing_32) ?_
  refine Sim.sq (p1 := 36) (s_iload_n rfl dX5_setBalancing_35) ?_
  refine Sim.sq (p1 := 39) (s_putiN (rfl : vwCl[2]? = some (RX2, TX2, 7)) (by decide) (by decide) inG2 kn152 rfl tyX2 tyX2_ok nmX2 rfl (by decide +kernel) dX5_setBalancing_36) ?_
  refine Sim.sq (p1 := 40) (s_iload_n rfl dX5_setBalancing_39) ?_
  exact (s_iret rfl dX5_setBalancing_40)
set_option maxRecDepth 100000 in
set_option maxHeartbeats 4000000 in
theorem C_X5_setBalancing (l : Launch) : Ct l yX5_setBalancing cX5_setBalancing 3 (some .int) 3 243 m_X5_setBalancing := Ct_of (y := yX5_setBalancing) (by decide +kernel) S_X5_setBalancing
set_option maxRecDepth 100000 in
set_option maxHeartbeats 4000000 in
theorem S_X5_depth {l : Launch} : Sim l (fun _ => True) RX5 "depth" cX5_depth 1 (some .int) 1 21 [] b_X5_depth 0 15 := by
  unfold b_X5_depth
  refine Sim.sq (p1 := 1) (s_aload_n rfl dX5_depth_0) ?_
  refine Sim.sq (p1 := 4) (s_getr (rfl : vwCl[5]? = some (RX5, TX5, 11)) (by decide) (by decide) inG5 kw193 rfl dX5_depth_1) ?_
  refine Sim.sq (p1 := 5) (s_aload_n rfl dX5_depth_4) ?_
  refine Sim.sq (p1 := 8) (s_getr (rfl : vwCl[5]? = some (RX5, TX5, 11)) (by decide) (by decide) inG5 kw196 rfl dX5_depth_5) ?_
  refine Sim.sq (p1 := 11) (s_getiN (rfl : vwCl[2]? = some (RX2, TX2, 7)) (by decide) (by decide) inG2 kn154 rfl dX5_depth_8) ?_
  refine Sim.sq (p1 := 14) (s_callV (C_X1_heightOf l) (rfl : vwCl[1]? = some (RX1, TX1, 10)) (by decide) kw478 kw339 kw340 kw17 kw341 ⟨rfl, by decide +kernel, by decide +kernel, by decide +kernel⟩ ⟨by decide, by decide⟩ shN1 dX5_depth_11) ?_
  exact (s_iret rfl dX5_depth_14)
set_option maxRecDepth 100000 in
set_option maxHeartbeats 4000000 in
theorem C_X5_depth (l : Launch) : Ct l yX5_depth cX5_depth 1 (some .int) 1 21 m_X5_depth := Ct_of (y := yX5_depth) (by decide +kernel) S_X5_depth
set_option maxRecDepth 100000 in
set_option maxHeartbeats 4000000 in
theorem S_X5_build {l : Launch} : Sim l (fun _ => True) RX5 "build" cX5_build 1 (some .int) 18 458 [] b_X5_build 0 13 := by
  unfold b_X5_build
  refine Sim.sq (p1 := 1) (s_aload_n rfl dX5_build_0) ?_
  refine Sim.sq (p1 := 4) (s_callV (C_X5_startChange l) (rfl : vwCl[5]? = some (RX5, TX5, 11)) (by decide) kw272 kw274 kw1 kw15 kw275 ⟨rfl, by decide +kernel, by decide +kernel, by decide +kernel⟩ ⟨by decide, by decide⟩ shN5 dX5_build_1) ?_
  refine Sim.sq (p1 := 5) (s_aload_n rfl dX5_build_4) ?_
  refine Sim.sq (p1 := 8) (s_callV (C_X5_rebuildText l) (rfl : vwCl[5]? = some (RX5, TX5, 11)) (by decide) kw412 kw414 kw10 kw15 kw415 ⟨rfl, by decide +kernel, by decide +kernel, by decide +kernel⟩ ⟨by decide, by decide⟩ shN5 dX5_build_5) ?_
  refine Sim.sq (p1 := 9) (s_aload_n rfl dX5_build_8) ?_
  refine Sim.sq (p1 := 12) (s_callV (C_X5_depth l) (rfl : vwCl[5]? = some (RX5, TX5, 11)) (by decide) kw474 kw475 kw476 kw15 kw477 ⟨rfl, by decide +kernel, by decide +kernel, by decide +kernel⟩ ⟨by decide, by decide⟩ shN5 dX5_build_9) ?_
  exact (s_iret rfl dX5_build_12)
set_option maxRecDepth 100000 in
set_option maxHeartbeats 4000000 in
theorem C_X5_build (l : Launch) : Ct l yX5_build cX5_build 1 (some .int) 18 458 m_X5_build := Ct_of (y := yX5_build) (by decide +kernel) S_X5_build
set_option maxRecDepth 100000 in
set_option maxHeartbeats 4000000 in
theorem S_X5_leaves {l : Launch} : Sim l (fun _ => True) RX5 "leaves" cX5_leaves 1 (some .int) 3 75 [] b_X5_leaves 0 26 := by
  unfold b_X5_leaves
  refine Sim.sq (p1 := 1) (s_aload_n rfl dX5_leaves_0) ?_
  refine Sim.sq (p1 := 4) (s_getr (rfl : vwCl[5]? = some (RX5, TX5, 11)) (by decide) (by decide) inG5 kw194 rfl dX5_leaves_1) ?_
  refine Sim.sq (p1 := 5) (s_aload_n rfl dX5_leaves_4) ?_
  refine Sim.sq (p1 := 8) (s_getr (rfl : vwCl[5]? = some (RX5, TX5, 11)) (by decide) (by decide) inG5 kw193 rfl dX5_leaves_5) ?_
  refine Sim.sq (p1 := 9) (s_aload_n rfl dX5_leaves_8) ?_
  refine Sim.sq (p1 := 12) (s_getr (rfl : vwCl[5]? = some (RX5, TX5, 11)) (by decide) (by decide) inG5 kw196 rfl dX5_leaves_9) ?_
  refine Sim.sq (p1 := 15) (s_getiN (rfl : vwCl[2]? = some (RX2, TX2, 7)) (by decide) (by decide) inG2 kn154 rfl dX5_leaves_12) ?_
  refine Sim.sq (p1 := 18) (s_callV (C_X3_read l) (rfl : vwCl[3]? = some (RX3, TX3, 8)) (by decide) kw416 kw417 kw418 kw18 kw419 ⟨rfl, by decide +kernel, by decide +kernel, by decide +kernel⟩ ⟨by decide, by decide⟩ shN3 dX5_leaves_15) ?_
  refine Sim.sq (p1 := 19) (s_aload_n rfl dX5_leaves_18) ?_
  refine Sim.sq (p1 := 22) (s_getr (rfl : vwCl[5]? = some (RX5, TX5, 11)) (by decide) (by decide) inG5 kw194 rfl dX5_leaves_19) ?_
  refine Sim.sq (p1 := 25) (s_getiN (rfl : vwCl[3]? = some (RX3, TX3, 8)) (by decide) (by decide) inG3 kn118 rfl dX5_leaves_22) ?_
  exact (s_iret rfl dX5_leaves_25)
set_option maxRecDepth 100000 in
set_option maxHeartbeats 4000000 in
theorem C_X5_leaves (l : Launch) : Ct l yX5_leaves cX5_leaves 1 (some .int) 3 75 m_X5_leaves := Ct_of (y := yX5_leaves) (by decide +kernel) S_X5_leaves
set_option maxRecDepth 100000 in
set_option maxHeartbeats 4000000 in
theorem S_X5_pack {l : Launch} : Sim l (fun _ => True) RX5 "pack" cX5_pack 1 (some .int) 18 464 [] b_X5_pack 0 62 := by
  unfold b_X5_pack
  refine Sim.sq (p1 := 1) (s_aload_n rfl dX5_pack_0) ?_
  refine Sim.sq (p1 := 4) (s_callV (C_X5_startChange l) (rfl : vwCl[5]? = some (RX5, TX5, 11)) (by decide) kw272 kw274 kw1 kw15 kw275 ⟨rfl, by decide +kernel, by decide +kernel, by decide +kernel⟩ ⟨by decide, by decide⟩ shN5 dX5_pack_1) ?_
  refine Sim.sq (p1 := 5) (s_aload_n rfl dX5_pack_4) ?_
  refine Sim.sq (p1 := 8) (s_getr (rfl : vwCl[5]? = some (RX5, TX5, 11)) (by decide) (by decide) inG5 kw194 rfl dX5_pack_5) ?_
  refine Sim.sq (p1 := 9) (s_aload_n rfl dX5_pack_8) ?_
  refine Sim.sq (p1 := 12) (s_getr (rfl : vwCl[5]? = some (RX5, TX5, 11)) (by decide) (by decide) inG5 kw193 rfl dX5_pack_9) ?_
  refine Sim.sq (p1 := 13) (s_aload_n rfl dX5_pack_12) ?_
  refine Sim.sq (p1 := 16) (s_getr (rfl : vwCl[5]? = some (RX5, TX5, 11)) (by decide) (by decide) inG5 kw196 rfl dX5_pack_13) ?_
  refine Sim.sq (p1 := 19) (s_getiN (rfl : vwCl[2]? = some (RX2, TX2, 7)) (by decide) (by decide) inG2 kn154 rfl dX5_pack_16) ?_
  refine Sim.sq (p1 := 22) (s_callV (C_X3_read l) (rfl : vwCl[3]? = some (RX3, TX3, 8)) (by decide) kw416 kw417 kw418 kw18 kw419 ⟨rfl, by decide +kernel, by decide +kernel, by decide +kernel⟩ ⟨by decide, by decide⟩ shN3 dX5_pack_19) ?_
  refine Sim.sq (p1 := 23) (s_aload_n rfl dX5_pack_22) ?_
  refine Sim.sq (p1 := 26) (s_getr (rfl : vwCl[5]? = some (RX5, TX5, 11)) (by decide) (by decide) inG5 kw196 rfl dX5_pack_23) ?_
  refine Sim.sq (p1 := 27) (s_aload_n rfl dX5_pack_26) ?_
  refine Sim.sq (p1 := 30) (s_getr (rfl : vwCl[5]? = some (RX5, TX5, 11)) (by decide) (by decide) inG5 kw192 rfl dX5_pack_27) ?_
  refine Sim.sq (p1 := 31) (s_aload_n rfl dX5_pack_30) ?_
  refine Sim.sq (p1 := 34) (s_getr (rfl : vwCl[5]? = some (RX5, TX5, 11)) (by decide) (by decide) inG5 kw194 rfl dX5_pack_31) ?_
  refine Sim.sq (p1 := 37) (s_getrN (rfl : vwCl[3]? = some (RX3, TX3, 8)) (by decide) (by decide) inG3 kn108 rfl dX5_pack_34) ?_
  refine Sim.sq (p1 := 38) (s_aload_n rfl dX5_pack_37) ?_
  refine Sim.sq (p1 := 41) (s_getr (rfl : vwCl[5]? = some (RX5, TX5, 11)) (by decide) (by decide) inG5 kw194 rfl dX5_pack_38) ?_
  refine Sim.sq (p1 := 44) (s_getiN (rfl : vwCl[3]? = some (RX3, TX3, 8)) (by decide) (by decide) inG3 kn116 rfl dX5_pack_41) ?_
  refine Sim.sq (p1 := 45) (s_aload_n rfl dX5_pack_44) ?_
  refine Sim.sq (p1 := 48) (s_getr (rfl : vwCl[5]? = some (RX5, TX5, 11)) (by decide) (by decide) inG5 kw196 rfl dX5_pack_45) ?_
  refine Sim.sq (p1 := 51) (s_getiN (rfl : vwCl[2]? = some (RX2, TX2, 7)) (by decide) (by decide) inG2 kn150 rfl dX5_pack_48) ?_
  refine Sim.sq (p1 := 54) (s_callV (C_X4_ropeOfCodes l) (rfl : vwCl[4]? = some (RX4, TX4, 6)) (by decide) kw306 kw307 kw308 kw16 kw309 ⟨rfl, by decide +kernel, by decide +kernel, by decide +kernel⟩ ⟨by decide, by decide⟩ shN4 dX5_pack_51) ?_
  refine Sim.sq (p1 := 57) (s_putiN (rfl : vwCl[2]? = some (RX2, TX2, 7)) (by decide) (by decide) inG2 kn154 rfl tyX2 tyX2_ok nmX2 rfl (by decide +kernel) dX5_pack_54) ?_
  refine Sim.sq (p1 := 58) (s_aload_n rfl dX5_pack_57) ?_
  refine Sim.sq (p1 := 61) (s_callV (C_X5_leaves l) (rfl : vwCl[5]? = some (RX5, TX5, 11)) (by decide) kw483 kw484 kw485 kw15 kw486 ⟨rfl, by decide +kernel, by decide +kernel, by decide +kernel⟩ ⟨by decide, by decide⟩ shN5 dX5_pack_58) ?_
  exact (s_iret rfl dX5_pack_61)
set_option maxRecDepth 100000 in
set_option maxHeartbeats 4000000 in
theorem C_X5_pack (l : Launch) : Ct l yX5_pack cX5_pack 1 (some .int) 18 464 m_X5_pack := Ct_of (y := yX5_pack) (by decide +kernel) S_X5_pack
set_option maxRecDepth 100000 in
set_option maxHeartbeats 4000000 in
theorem S_X3_startOfLeaf {l : Launch} : Sim l (fun _ => True) RX3 "startOfLeaf" cX3_startOfLeaf 2 (some .int) 0 0 [] b_X3_startOfLeaf 0 35 := by
  unfold b_X3_startOfLeaf
  refine Sim.sq (p1 := 1) (s_iload_n rfl dX3_startOfLeaf_0) ?_
  refine Sim.sq (p1 := 34) (Sim.bk ?_) ?_
  · refine Sim.sq (p1 := 30) (Sim.bk ?_) ?_
    · refine Sim.sq (p1 := 4) (s_if_lt dX3_startOfLeaf_1 (by decide) rfl) ?_
      refine Sim.sq (p1 := 5) (s_iload_n rfl dX3_startOfLeaf_4) ?_
      refine Sim.sq (p1 := 6) (s_aload_n rfl dX3_startOfLeaf_5) ?_
      refine Sim.sq (p1 := 9) (s_geti (rfl : vwCl[3]? = some (RX3, TX3, 8)) (by decide) (by decide) inG3 kw117 rfl dX3_startOfLeaf_6) ?_
      refine Sim.sq (p1 := 12) (s_icmp_ge dX3_startOfLeaf_9 (by decide) rfl) ?_
      refine Sim.sq (p1 := 13) (s_iload_n rfl dX3_startOfLeaf_12) ?_
      refine Sim.sq (p1 := 14) (s_aload_n rfl dX3_startOfLeaf_13) ?_
      refine Sim.sq (p1 := 17) (s_getr (rfl : vwCl[3]? = some (RX3, TX3, 8)) (by decide) (by decide) inG3 kw111 rfl dX3_startOfLeaf_14) ?_
      refine Sim.sq (p1 := 18) (s_alen dX3_startOfLeaf_17) ?_
      refine Sim.sq (p1 := 21) (s_icmp_ge dX3_startOfLeaf_18 (by decide) rfl) ?_
      refine Sim.sq (p1 := 22) (s_aload_n rfl dX3_startOfLeaf_21) ?_
      refine Sim.sq (p1 := 25) (s_getr (rfl : vwCl[3]? = some (RX3, TX3, 8)) (by decide) (by decide) inG3 kw111 rfl dX3_startOfLeaf_22) ?_
      refine Sim.sq (p1 := 26) (s_iload_n rfl dX3_startOfLeaf_25) ?_
      refine Sim.sq (p1 := 27) (s_iald dX3_startOfLeaf_26) ?_
      exact (s_goto dX3_startOfLeaf_27 (by decide) rfl)
    refine Sim.sq (p1 := 31) (s_aload_n rfl dX3_startOfLeaf_30) ?_
    exact (s_geti (rfl : vwCl[3]? = some (RX3, TX3, 8)) (by decide) (by decide) inG3 kw115 rfl dX3_startOfLeaf_31)
  exact (s_iret rfl dX3_startOfLeaf_34)
set_option maxRecDepth 100000 in
set_option maxHeartbeats 4000000 in
theorem C_X3_startOfLeaf (l : Launch) : Ct l yX3_startOfLeaf cX3_startOfLeaf 2 (some .int) 0 0 m_X3_startOfLeaf := Ct_of (y := yX3_startOfLeaf) (by decide +kernel) S_X3_startOfLeaf
set_option maxRecDepth 100000 in
set_option maxHeartbeats 4000000 in
theorem S_X3_sizeOfLeaf {l : Launch} : Sim l (fun _ => True) RX3 "sizeOfLeaf" cX3_sizeOfLeaf 2 (some .int) 1 21 [] b_X3_sizeOfLeaf 0 14 := by
  unfold b_X3_sizeOfLeaf
  refine Sim.sq (p1 := 1) (s_aload_n rfl dX3_sizeOfLeaf_0) ?_
  refine Sim.sq (p1 := 2) (s_iload_n rfl dX3_sizeOfLeaf_1) ?_
  refine Sim.sq (p1 := 3) (s_iconst (by decide +kernel) dX3_sizeOfLeaf_2) ?_
  refine Sim.sq (p1 := 4) (s_iadd dX3_sizeOfLeaf_3) ?_
  refine Sim.sq (p1 := 7) (s_callV (C_X3_startOfLeaf l) (rfl : vwCl[3]? = some (RX3, TX3, 8)) (by decide) kw565 kw558 kw559 kw18 kw560 ⟨rfl, by decide +kernel, by decide +kernel, by decide +kernel⟩ ⟨by decide, by decide⟩ shN3 dX3_sizeOfLeaf_4) ?_
  refine Sim.sq (p1 := 8) (s_aload_n rfl dX3_sizeOfLeaf_7) ?_
  refine Sim.sq (p1 := 9) (s_iload_n rfl dX3_sizeOfLeaf_8) ?_
  refine Sim.sq (p1 := 12) (s_callV (C_X3_startOfLeaf l) (rfl : vwCl[3]? = some (RX3, TX3, 8)) (by decide) kw565 kw558 kw559 kw18 kw560 ⟨rfl, by decide +kernel, by decide +kernel, by decide +kernel⟩ ⟨by decide, by decide⟩ shN3 dX3_sizeOfLeaf_9) ?_
  refine Sim.sq (p1 := 13) (s_isub dX3_sizeOfLeaf_12) ?_
  exact (s_iret rfl dX3_sizeOfLeaf_13)
set_option maxRecDepth 100000 in
set_option maxHeartbeats 4000000 in
theorem C_X3_sizeOfLeaf (l : Launch) : Ct l yX3_sizeOfLeaf cX3_sizeOfLeaf 2 (some .int) 1 21 m_X3_sizeOfLeaf := Ct_of (y := yX3_sizeOfLeaf) (by decide +kernel) S_X3_sizeOfLeaf
set_option maxRecDepth 100000 in
set_option maxHeartbeats 4000000 in
theorem S_X3_levelOfLeaf {l : Launch} : Sim l (fun _ => True) RX3 "levelOfLeaf" cX3_levelOfLeaf 2 (some .int) 0 0 [] b_X3_levelOfLeaf 0 32 := by
  unfold b_X3_levelOfLeaf
  refine Sim.sq (p1 := 1) (s_iload_n rfl dX3_levelOfLeaf_0) ?_
  refine Sim.sq (p1 := 31) (Sim.bk ?_) ?_
  · refine Sim.sq (p1 := 30) (Sim.bk ?_) ?_
    · refine Sim.sq (p1 := 4) (s_if_lt dX3_levelOfLeaf_1 (by decide) rfl) ?_
      refine Sim.sq (p1 := 5) (s_iload_n rfl dX3_levelOfLeaf_4) ?_
      refine Sim.sq (p1 := 6) (s_aload_n rfl dX3_levelOfLeaf_5) ?_
      refine Sim.sq (p1 := 9) (s_geti (rfl : vwCl[3]? = some (RX3, TX3, 8)) (by decide) (by decide) inG3 kw117 rfl dX3_levelOfLeaf_6) ?_
      refine Sim.sq (p1 := 12) (s_icmp_ge dX3_levelOfLeaf_9 (by decide) rfl) ?_
      refine Sim.sq (p1 := 13) (s_iload_n rfl dX3_levelOfLeaf_12) ?_
      refine Sim.sq (p1 := 14) (s_aload_n rfl dX3_levelOfLeaf_13) ?_
      refine Sim.sq (p1 := 17) (s_getr (rfl : vwCl[3]? = some (RX3, TX3, 8)) (by decide) (by decide) inG3 kw112 rfl dX3_levelOfLeaf_14) ?_
      refine Sim.sq (p1 := 18) (s_alen dX3_levelOfLeaf_17) ?_
      refine Sim.sq (p1 := 21) (s_icmp_ge dX3_levelOfLeaf_18 (by decide) rfl) ?_
      refine Sim.sq (p1 := 22) (s_aload_n rfl dX3_levelOfLeaf_21) ?_
      refine Sim.sq (p1 := 25) (s_getr (rfl : vwCl[3]? = some (RX3, TX3, 8)) (by decide) (by decide) inG3 kw112 rfl dX3_levelOfLeaf_22) ?_
      refine Sim.sq (p1 := 26) (s_iload_n rfl dX3_levelOfLeaf_25) ?_
      refine Sim.sq (p1 := 27) (s_iald dX3_levelOfLeaf_26) ?_
      exact (s_goto dX3_levelOfLeaf_27 (by decide) rfl)
    exact (s_iconst (by decide +kernel) dX3_levelOfLeaf_30)
  exact (s_iret rfl dX3_levelOfLeaf_31)
set_option maxRecDepth 100000 in
set_option maxHeartbeats 4000000 in
theorem C_X3_levelOfLeaf (l : Launch) : Ct l yX3_levelOfLeaf cX3_levelOfLeaf 2 (some .int) 0 0 m_X3_levelOfLeaf := Ct_of (y := yX3_levelOfLeaf) (by decide +kernel) S_X3_levelOfLeaf
set_option maxRecDepth 100000 in
set_option maxHeartbeats 4000000 in
theorem S_X5_leaf {l : Launch} : Sim l (fun _ => True) RX5 "leaf" cX5_leaf 3 (some .int) 3 75 [] b_X5_leaf 0 94 := by
  unfold b_X5_leaf
  refine Sim.sq (p1 := 1) (s_aload_n rfl dX5_leaf_0) ?_
  refine Sim.sq (p1 := 4) (s_getr (rfl : vwCl[5]? = some (RX5, TX5, 11)) (by decide) (by decide) inG5 kw194 rfl dX5_leaf_1) ?_
  refine Sim.sq (p1 := 5) (s_aload_n rfl dX5_leaf_4) ?_
  refine Sim.sq (p1 := 8) (s_getr (rfl : vwCl[5]? = some (RX5, TX5, 11)) (by decide) (by decide) inG5 kw193 rfl dX5_leaf_5) ?_
  refine Sim.sq (p1 := 9) (s_aload_n rfl dX5_leaf_8) ?_
  refine Sim.sq (p1 := 12) (s_getr (rfl : vwCl[5]? = some (RX5, TX5, 11)) (by decide) (by decide) inG5 kw196 rfl dX5_leaf_9) ?_
  refine Sim.sq (p1 := 15) (s_getiN (rfl : vwCl[2]? = some (RX2, TX2, 7)) (by decide) (by decide) inG2 kn154 rfl dX5_leaf_12) ?_
  refine Sim.sq (p1 := 18) (s_callV (C_X3_read l) (rfl : vwCl[3]? = some (RX3, TX3, 8)) (by decide) kw416 kw417 kw418 kw18 kw419 ⟨rfl, by decide +kernel, by decide +kernel, by decide +kernel⟩ ⟨by decide, by decide⟩ shN3 dX5_leaf_15) ?_
  refine Sim.sq (p1 := 19) (s_iload_n rfl dX5_leaf_18) ?_
  refine Sim.sq (p1 := 35) (Sim.bk ?_) ?_
  · refine Sim.sq (p1 := 33) (Sim.bk ?_) ?_
    · refine Sim.sq (p1 := 22) (s_if_lt dX5_leaf_19 (by decide) rfl) ?_
      refine Sim.sq (p1 := 23) (s_iload_n rfl dX5_leaf_22) ?_
      refine Sim.sq (p1 := 24) (s_aload_n rfl dX5_leaf_23) ?_
      refine Sim.sq (p1 := 27) (s_getr (rfl : vwCl[5]? = some (RX5, TX5, 11)) (by decide) (by decide) inG5 kw194 rfl dX5_leaf_24) ?_
      refine Sim.sq (p1 := 30) (s_getiN (rfl : vwCl[3]? = some (RX3, TX3, 8)) (by decide) (by decide) inG3 kn118 rfl dX5_leaf_27) ?_
      exact (s_icmp_lt dX5_leaf_30 (by decide) rfl)
    refine Sim.sq (p1 := 34) (s_iconst (by decide +kernel) dX5_leaf_33) ?_
    exact (s_iret rfl dX5_leaf_34)
  refine Sim.sq (p1 := 36) (s_iload_n rfl dX5_leaf_35) ?_
  refine Sim.sq (p1 := 91) (Sim.bk ?_) ?_
  · refine Sim.sq (p1 := 82) (Sim.bk ?_) ?_
    · refine Sim.sq (p1 := 73) (Sim.bk ?_) ?_
      · refine Sim.sq (p1 := 64) (Sim.bk ?_) ?_
        · exact (s_tsw dX5_leaf_36 ⟨_, rfl, by decide⟩ (by decide +kernel))
        refine Sim.sq (p1 := 65) (s_aload_n rfl dX5_leaf_64) ?_
        refine Sim.sq (p1 := 68) (s_getr (rfl : vwCl[5]? = some (RX5, TX5, 11)) (by decide) (by decide) inG5 kw194 rfl dX5_leaf_65) ?_
        refine Sim.sq (p1 := 69) (s_iload_n rfl dX5_leaf_68) ?_
        refine Sim.sq (p1 := 72) (s_callV (C_X3_startOfLeaf l) (rfl : vwCl[3]? = some (RX3, TX3, 8)) (by decide) kw557 kw558 kw559 kw18 kw560 ⟨rfl, by decide +kernel, by decide +kernel, by decide +kernel⟩ ⟨by decide, by decide⟩ shN3 dX5_leaf_69) ?_
        exact (s_iret rfl dX5_leaf_72)
      refine Sim.sq (p1 := 74) (s_aload_n rfl dX5_leaf_73) ?_
      refine Sim.sq (p1 := 77) (s_getr (rfl : vwCl[5]? = some (RX5, TX5, 11)) (by decide) (by decide) inG5 kw194 rfl dX5_leaf_74) ?_
      refine Sim.sq (p1 := 78) (s_iload_n rfl dX5_leaf_77) ?_
      refine Sim.sq (p1 := 81) (s_callV (C_X3_sizeOfLeaf l) (rfl : vwCl[3]? = some (RX3, TX3, 8)) (by decide) kw561 kw562 kw563 kw18 kw564 ⟨rfl, by decide +kernel, by decide +kernel, by decide +kernel⟩ ⟨by decide, by decide⟩ shN3 dX5_leaf_78) ?_
      exact (s_iret rfl dX5_leaf_81)
    refine Sim.sq (p1 := 83) (s_aload_n rfl dX5_leaf_82) ?_
    refine Sim.sq (p1 := 86) (s_getr (rfl : vwCl[5]? = some (RX5, TX5, 11)) (by decide) (by decide) inG5 kw194 rfl dX5_leaf_83) ?_
    refine Sim.sq (p1 := 87) (s_iload_n rfl dX5_leaf_86) ?_
    refine Sim.sq (p1 := 90) (s_callV (C_X3_levelOfLeaf l) (rfl : vwCl[3]? = some (RX3, TX3, 8)) (by decide) kw566 kw567 kw568 kw18 kw569 ⟨rfl, by decide +kernel, by decide +kernel, by decide +kernel⟩ ⟨by decide, by decide⟩ shN3 dX5_leaf_87) ?_
    exact (s_iret rfl dX5_leaf_90)
  refine Sim.sq (p1 := 93) (s_bipush (by decide +kernel) dX5_leaf_91) ?_
  exact (s_iret rfl dX5_leaf_93)
set_option maxRecDepth 100000 in
set_option maxHeartbeats 4000000 in
theorem C_X5_leaf (l : Launch) : Ct l yX5_leaf cX5_leaf 3 (some .int) 3 75 m_X5_leaf := Ct_of (y := yX5_leaf) (by decide +kernel) S_X5_leaf
set_option maxRecDepth 100000 in
set_option maxHeartbeats 4000000 in
theorem S_X4_codeAt {l : Launch} : Sim l (fun _ => True) RX4 "codeAt" cX4_codeAt 7 (some .int) 1 24 [] b_X4_codeAt 0 107 := by
  unfold b_X4_codeAt
  refine Sim.sq (p1 := 1) (s_iload_n rfl dX4_codeAt_0) ?_
  refine Sim.sq (p1 := 2) (s_istore_n rfl (by decide) dX4_codeAt_1) ?_
  refine Sim.sq (p1 := 3) (s_iload_n rfl dX4_codeAt_2) ?_
  refine Sim.sq (p1 := 5) (s_istore (by decide) dX4_codeAt_3) ?_
  refine Sim.sq (p1 := 6) (s_iconst (by decide +kernel) dX4_codeAt_5) ?_
  refine Sim.sq (p1 := 8) (s_istore (by decide) dX4_codeAt_6) ?_
  refine Sim.sq (p1 := 96) (Sim.lp ?_) ?_
  · refine Sim.sq (p1 := 10) (s_iload dX4_codeAt_8) ?_
    refine Sim.sq (p1 := 13) (s_sipush (by decide +kernel) dX4_codeAt_10) ?_
    refine Sim.bk ?_
    refine Sim.sq (p1 := 16) (s_icmp_ge dX4_codeAt_13 (by decide) rfl) ?_
    refine Sim.sq (p1 := 17) (s_aload_n rfl dX4_codeAt_16) ?_
    refine Sim.sq (p1 := 20) (s_getr (rfl : vwCl[4]? = some (RX4, TX4, 6)) (by decide) (by decide) inG4 kw79 rfl dX4_codeAt_17) ?_
    refine Sim.sq (p1 := 21) (s_iload_n rfl dX4_codeAt_20) ?_
    refine Sim.sq (p1 := 24) (s_callV (C_X1_isPair l) (rfl : vwCl[1]? = some (RX1, TX1, 10)) (by decide) kw354 kw355 kw356 kw17 kw357 ⟨rfl, by decide +kernel, by decide +kernel, by decide +kernel⟩ ⟨by decide, by decide⟩ shN1 dX4_codeAt_21) ?_
    refine Sim.sq (p1 := 27) (s_if_eq dX4_codeAt_24 (by decide) rfl) ?_
    refine Sim.sq (p1 := 28) (s_aload_n rfl dX4_codeAt_27) ?_
    refine Sim.sq (p1 := 31) (s_getr (rfl : vwCl[4]? = some (RX4, TX4, 6)) (by decide) (by decide) inG4 kw79 rfl dX4_codeAt_28) ?_
    refine Sim.sq (p1 := 32) (s_aload_n rfl dX4_codeAt_31) ?_
    refine Sim.sq (p1 := 35) (s_getr (rfl : vwCl[4]? = some (RX4, TX4, 6)) (by decide) (by decide) inG4 kw79 rfl dX4_codeAt_32) ?_
    refine Sim.sq (p1 := 36) (s_iload_n rfl dX4_codeAt_35) ?_
    refine Sim.sq (p1 := 39) (s_callV (C_X1_leftOf l) (rfl : vwCl[1]? = some (RX1, TX1, 10)) (by decide) kw358 kw359 kw360 kw17 kw361 ⟨rfl, by decide +kernel, by decide +kernel, by decide +kernel⟩ ⟨by decide, by decide⟩ shN1 dX4_codeAt_36) ?_
    refine Sim.sq (p1 := 42) (s_callV (C_X1_sizeOf l) (rfl : vwCl[1]? = some (RX1, TX1, 10)) (by decide) kw310 kw269 kw270 kw17 kw271 ⟨rfl, by decide +kernel, by decide +kernel, by decide +kernel⟩ ⟨by decide, by decide⟩ shN1 dX4_codeAt_39) ?_
    refine Sim.sq (p1 := 44) (s_istore (by decide) dX4_codeAt_42) ?_
    refine Sim.sq (p1 := 46) (s_iload dX4_codeAt_44) ?_
    refine Sim.sq (p1 := 48) (s_iload dX4_codeAt_46) ?_
    refine Sim.sq (p1 := 70) (Sim.bk ?_) ?_
    · refine Sim.sq (p1 := 62) (Sim.bk ?_) ?_
      · refine Sim.sq (p1 := 51) (s_icmp_ge dX4_codeAt_48 (by decide) rfl) ?_
        refine Sim.sq (p1 := 52) (s_aload_n rfl dX4_codeAt_51) ?_
        refine Sim.sq (p1 := 55) (s_getr (rfl : vwCl[4]? = some (RX4, TX4, 6)) (by decide) (by decide) inG4 kw79 rfl dX4_codeAt_52) ?_
        refine Sim.sq (p1 := 56) (s_iload_n rfl dX4_codeAt_55) ?_
        refine Sim.sq (p1 := 59) (s_callV (C_X1_leftOf l) (rfl : vwCl[1]? = some (RX1, TX1, 10)) (by decide) kw358 kw359 kw360 kw17 kw361 ⟨rfl, by decide +kernel, by decide +kernel, by decide +kernel⟩ ⟨by decide, by decide⟩ shN1 dX4_codeAt_56) ?_
        exact (s_goto dX4_codeAt_59 (by decide) rfl)
      refine Sim.sq (p1 := 63) (s_aload_n rfl dX4_codeAt_62) ?_
      refine Sim.sq (p1 := 66) (s_getr (rfl : vwCl[4]? = some (RX4, TX4, 6)) (by decide) (by decide) inG4 kw79 rfl dX4_codeAt_63) ?_
      refine Sim.sq (p1 := 67) (s_iload_n rfl dX4_codeAt_66) ?_
      exact (s_callV (C_X1_rightOf l) (rfl : vwCl[1]? = some (RX1, TX1, 10)) (by decide) kw362 kw363 kw364 kw17 kw365 ⟨rfl, by decide +kernel, by decide +kernel, by decide +kernel⟩ ⟨by decide, by decide⟩ shN1 dX4_codeAt_67)
    refine Sim.sq (p1 := 71) (s_istore_n rfl (by decide) dX4_codeAt_70) ?_
    refine Sim.sq (p1 := 73) (s_iload dX4_codeAt_71) ?_
    refine Sim.sq (p1 := 75) (s_iload dX4_codeAt_73) ?_
    refine Sim.sq (p1 := 88) (Sim.bk ?_) ?_
    · refine Sim.sq (p1 := 83) (Sim.bk ?_) ?_
      · refine Sim.sq (p1 := 78) (s_icmp_ge dX4_codeAt_75 (by decide) rfl) ?_
        refine Sim.sq (p1 := 80) (s_iload dX4_codeAt_78) ?_
        exact (s_goto dX4_codeAt_80 (by decide) rfl)
      refine Sim.sq (p1 := 85) (s_iload dX4_codeAt_83) ?_
      refine Sim.sq (p1 := 87) (s_iload dX4_codeAt_85) ?_
      exact (s_isub dX4_codeAt_87)
    refine Sim.sq (p1 := 90) (s_istore (by decide) dX4_codeAt_88) ?_
    refine Sim.sq (p1 := 93) (s_iinc (by decide +kernel) (by decide) dX4_codeAt_90) ?_
    exact (s_goto dX4_codeAt_93 (by decide) rfl)
  refine Sim.sq (p1 := 97) (s_aload_n rfl dX4_codeAt_96) ?_
  refine Sim.sq (p1 := 100) (s_getr (rfl : vwCl[4]? = some (RX4, TX4, 6)) (by decide) (by decide) inG4 kw79 rfl dX4_codeAt_97) ?_
  refine Sim.sq (p1 := 101) (s_iload_n rfl dX4_codeAt_100) ?_
  refine Sim.sq (p1 := 103) (s_iload dX4_codeAt_101) ?_
  refine Sim.sq (p1 := 106) (s_callV (C_X1_codeOf l) (rfl : vwCl[1]? = some (RX1, TX1, 10)) (by decide) kw578 kw375 kw376 kw17 kw377 ⟨rfl, by decide +kernel, by decide +kernel, by decide +kernel⟩ ⟨by decide, by decide⟩ shN1 dX4_codeAt_103) ?_
  exact (s_iret rfl dX4_codeAt_106)
set_option maxRecDepth 100000 in
set_option maxHeartbeats 4000000 in
theorem C_X4_codeAt (l : Launch) : Ct l yX4_codeAt cX4_codeAt 7 (some .int) 1 24 m_X4_codeAt := Ct_of (y := yX4_codeAt) (by decide +kernel) S_X4_codeAt
set_option maxRecDepth 100000 in
set_option maxHeartbeats 4000000 in
theorem S_X5_character {l : Launch} : Sim l (fun _ => True) RX5 "character" cX5_character 2 (some .int) 2 50 [] b_X5_character 0 30 := by
  unfold b_X5_character
  refine Sim.sq (p1 := 1) (s_iload_n rfl dX5_character_0) ?_
  refine Sim.sq (p1 := 14) (Sim.bk ?_) ?_
  · refine Sim.sq (p1 := 12) (Sim.bk ?_) ?_
    · refine Sim.sq (p1 := 4) (s_if_lt dX5_character_1 (by decide) rfl) ?_
      refine Sim.sq (p1 := 5) (s_iload_n rfl dX5_character_4) ?_
      refine Sim.sq (p1 := 6) (s_aload_n rfl dX5_character_5) ?_
      refine Sim.sq (p1 := 9) (s_callV (C_X5_length l) (rfl : vwCl[5]? = some (RX5, TX5, 11)) (by decide) kw264 kw265 kw266 kw15 kw267 ⟨rfl, by decide +kernel, by decide +kernel, by decide +kernel⟩ ⟨by decide, by decide⟩ shN5 dX5_character_6) ?_
      exact (s_icmp_lt dX5_character_9 (by decide) rfl)
    refine Sim.sq (p1 := 13) (s_iconst (by decide +kernel) dX5_character_12) ?_
    exact (s_iret rfl dX5_character_13)
  refine Sim.sq (p1 := 15) (s_aload_n rfl dX5_character_14) ?_
  refine Sim.sq (p1 := 18) (s_getr (rfl : vwCl[5]? = some (RX5, TX5, 11)) (by decide) (by decide) inG5 kw192 rfl dX5_character_15) ?_
  refine Sim.sq (p1 := 19) (s_aload_n rfl dX5_character_18) ?_
  refine Sim.sq (p1 := 22) (s_getr (rfl : vwCl[5]? = some (RX5, TX5, 11)) (by decide) (by decide) inG5 kw196 rfl dX5_character_19) ?_
  refine Sim.sq (p1 := 25) (s_getiN (rfl : vwCl[2]? = some (RX2, TX2, 7)) (by decide) (by decide) inG2 kn154 rfl dX5_character_22) ?_
  refine Sim.sq (p1 := 26) (s_iload_n rfl dX5_character_25) ?_
  refine Sim.sq (p1 := 29) (s_callV (C_X4_codeAt l) (rfl : vwCl[4]? = some (RX4, TX4, 6)) (by decide) kw574 kw575 kw576 kw16 kw577 ⟨rfl, by decide +kernel, by decide +kernel, by decide +kernel⟩ ⟨by decide, by decide⟩ shN4 dX5_character_26) ?_
  exact (s_iret rfl dX5_character_29)
set_option maxRecDepth 100000 in
set_option maxHeartbeats 4000000 in
theorem C_X5_character (l : Launch) : Ct l yX5_character cX5_character 2 (some .int) 2 50 m_X5_character := Ct_of (y := yX5_character) (by decide +kernel) S_X5_character
set_option maxRecDepth 100000 in
set_option maxHeartbeats 4000000 in
theorem S_X5_mark {l : Launch} : Sim l (fun _ => True) RX5 "mark" cX5_mark 2 (some .int) 1 21 [] b_X5_mark 0 20 := by
  unfold b_X5_mark
  refine Sim.sq (p1 := 1) (s_iload_n rfl dX5_mark_0) ?_
  refine Sim.sq (p1 := 11) (Sim.bk ?_) ?_
  · refine Sim.sq (p1 := 9) (Sim.bk ?_) ?_
    · refine Sim.sq (p1 := 4) (s_if_lt dX5_mark_1 (by decide) rfl) ?_
      refine Sim.sq (p1 := 5) (s_iload_n rfl dX5_mark_4) ?_
      refine Sim.sq (p1 := 6) (s_iconst (by decide +kernel) dX5_mark_5) ?_
      exact (s_icmp_lt dX5_mark_6 (by decide) rfl)
    refine Sim.sq (p1 := 10) (s_iconst (by decide +kernel) dX5_mark_9) ?_
    exact (s_iret rfl dX5_mark_10)
  refine Sim.sq (p1 := 12) (s_aload_n rfl dX5_mark_11) ?_
  refine Sim.sq (p1 := 15) (s_getr (rfl : vwCl[5]? = some (RX5, TX5, 11)) (by decide) (by decide) inG5 kw196 rfl dX5_mark_12) ?_
  refine Sim.sq (p1 := 16) (s_iload_n rfl dX5_mark_15) ?_
  refine Sim.sq (p1 := 19) (s_callV (C_X2_markAt l) (rfl : vwCl[2]? = some (RX2, TX2, 7)) (by decide) kw491 kw492 kw493 kw19 kw494 ⟨rfl, by decide +kernel, by decide +kernel, by decide +kernel⟩ ⟨by decide, by decide⟩ shN2 dX5_mark_16) ?_
  exact (s_iret rfl dX5_mark_19)
set_option maxRecDepth 100000 in
set_option maxHeartbeats 4000000 in
theorem C_X5_mark (l : Launch) : Ct l yX5_mark cX5_mark 2 (some .int) 1 21 m_X5_mark := Ct_of (y := yX5_mark) (by decide +kernel) S_X5_mark
set_option maxRecDepth 100000 in
set_option maxHeartbeats 4000000 in
theorem S_X4_wayTo {l : Launch} : Sim l (fun _ => True) RX4 "wayTo" cX4_wayTo 9 (some .int) 1 21 [] b_X4_wayTo 0 129 := by
  unfold b_X4_wayTo
  refine Sim.sq (p1 := 1) (s_iload_n rfl dX4_wayTo_0) ?_
  refine Sim.sq (p1 := 2) (s_istore_n rfl (by decide) dX4_wayTo_1) ?_
  refine Sim.sq (p1 := 3) (s_iload_n rfl dX4_wayTo_2) ?_
  refine Sim.sq (p1 := 5) (s_istore (by decide) dX4_wayTo_3) ?_
  refine Sim.sq (p1 := 6) (s_lconst (by decide +kernel) dX4_wayTo_5) ?_
  refine Sim.sq (p1 := 8) (s_lstore (by decide) dX4_wayTo_6) ?_
  refine Sim.sq (p1 := 9) (s_iconst (by decide +kernel) dX4_wayTo_8) ?_
  refine Sim.sq (p1 := 11) (s_istore (by decide) dX4_wayTo_9) ?_
  refine Sim.sq (p1 := 125) (Sim.lp ?_) ?_
  · refine Sim.sq (p1 := 13) (s_iload dX4_wayTo_11) ?_
    refine Sim.sq (p1 := 16) (s_sipush (by decide +kernel) dX4_wayTo_13) ?_
    refine Sim.bk ?_
    refine Sim.sq (p1 := 19) (s_icmp_ge dX4_wayTo_16 (by decide) rfl) ?_
    refine Sim.sq (p1 := 20) (s_aload_n rfl dX4_wayTo_19) ?_
    refine Sim.sq (p1 := 23) (s_getr (rfl : vwCl[4]? = some (RX4, TX4, 6)) (by decide) (by decide) inG4 kw79 rfl dX4_wayTo_20) ?_
    refine Sim.sq (p1 := 24) (s_iload_n rfl dX4_wayTo_23) ?_
    refine Sim.sq (p1 := 27) (s_callV (C_X1_isPair l) (rfl : vwCl[1]? = some (RX1, TX1, 10)) (by decide) kw354 kw355 kw356 kw17 kw357 ⟨rfl, by decide +kernel, by decide +kernel, by decide +kernel⟩ ⟨by decide, by decide⟩ shN1 dX4_wayTo_24) ?_
    refine Sim.sq (p1 := 30) (s_if_eq dX4_wayTo_27 (by decide) rfl) ?_
    refine Sim.sq (p1 := 31) (s_aload_n rfl dX4_wayTo_30) ?_
    refine Sim.sq (p1 := 34) (s_getr (rfl : vwCl[4]? = some (RX4, TX4, 6)) (by decide) (by decide) inG4 kw79 rfl dX4_wayTo_31) ?_
    refine Sim.sq (p1 := 35) (s_aload_n rfl dX4_wayTo_34) ?_
    refine Sim.sq (p1 := 38) (s_getr (rfl : vwCl[4]? = some (RX4, TX4, 6)) (by decide) (by decide) inG4 kw79 rfl dX4_wayTo_35) ?_
    refine Sim.sq (p1 := 39) (s_iload_n rfl dX4_wayTo_38) ?_
    refine Sim.sq (p1 := 42) (s_callV (C_X1_leftOf l) (rfl : vwCl[1]? = some (RX1, TX1, 10)) (by decide) kw358 kw359 kw360 kw17 kw361 ⟨rfl, by decide +kernel, by decide +kernel, by decide +kernel⟩ ⟨by decide, by decide⟩ shN1 dX4_wayTo_39) ?_
    refine Sim.sq (p1 := 45) (s_callV (C_X1_sizeOf l) (rfl : vwCl[1]? = some (RX1, TX1, 10)) (by decide) kw310 kw269 kw270 kw17 kw271 ⟨rfl, by decide +kernel, by decide +kernel, by decide +kernel⟩ ⟨by decide, by decide⟩ shN1 dX4_wayTo_42) ?_
    refine Sim.sq (p1 := 47) (s_istore (by decide) dX4_wayTo_45) ?_
    refine Sim.sq (p1 := 50) (s_ldc2 kw593 dX4_wayTo_47) ?_
    refine Sim.sq (p1 := 52) (s_lload dX4_wayTo_50) ?_
    refine Sim.sq (p1 := 53) (s_lmul dX4_wayTo_52) ?_
    refine Sim.sq (p1 := 55) (s_iload dX4_wayTo_53) ?_
    refine Sim.sq (p1 := 57) (s_iload dX4_wayTo_55) ?_
    refine Sim.sq (p1 := 65) (Sim.bk ?_) ?_
    · refine Sim.sq (p1 := 64) (Sim.bk ?_) ?_
      · refine Sim.sq (p1 := 60) (s_icmp_ge dX4_wayTo_57 (by decide) rfl) ?_
        refine Sim.sq (p1 := 61) (s_iconst (by decide +kernel) dX4_wayTo_60) ?_
        exact (s_goto dX4_wayTo_61 (by decide) rfl)
      exact (s_iconst (by decide +kernel) dX4_wayTo_64)
    refine Sim.sq (p1 := 66) (s_i2l dX4_wayTo_65) ?_
    refine Sim.sq (p1 := 67) (s_ladd dX4_wayTo_66) ?_
    refine Sim.sq (p1 := 70) (s_ldc2 kw594 dX4_wayTo_67) ?_
    refine Sim.sq (p1 := 71) (s_lrem dX4_wayTo_70) ?_
    refine Sim.sq (p1 := 73) (s_lstore (by decide) dX4_wayTo_71) ?_
    refine Sim.sq (p1 := 75) (s_iload dX4_wayTo_73) ?_
    refine Sim.sq (p1 := 77) (s_iload dX4_wayTo_75) ?_
    refine Sim.sq (p1 := 99) (Sim.bk ?_) ?_
    · refine Sim.sq (p1 := 91) (Sim.bk ?_) ?_
      · refine Sim.sq (p1 := 80) (s_icmp_ge dX4_wayTo_77 (by decide) rfl) ?_
        refine Sim.sq (p1 := 81) (s_aload_n rfl dX4_wayTo_80) ?_
        refine Sim.sq (p1 := 84) (s_getr (rfl : vwCl[4]? = some (RX4, TX4, 6)) (by decide) (by decide) inG4 kw79 rfl dX4_wayTo_81) ?_
        refine Sim.sq (p1 := 85) (s_iload_n rfl dX4_wayTo_84) ?_
        refine Sim.sq (p1 := 88) (s_callV (C_X1_leftOf l) (rfl : vwCl[1]? = some (RX1, TX1, 10)) (by decide) kw358 kw359 kw360 kw17 kw361 ⟨rfl, by decide +kernel, by decide +kernel, by decide +kernel⟩ ⟨by decide, by decide⟩ shN1 dX4_wayTo_85) ?_
        exact (s_goto dX4_wayTo_88 (by decide) rfl)
      refine Sim.sq (p1 := 92) (s_aload_n rfl dX4_wayTo_91) ?_
      refine Sim.sq (p1 := 95) (s_getr (rfl : vwCl[4]? = some (RX4, TX4, 6)) (by decide) (by decide) inG4 kw79 rfl dX4_wayTo_92) ?_
      refine Sim.sq (p1 := 96) (s_iload_n rfl dX4_wayTo_95) ?_
      exact (s_callV (C_X1_rightOf l) (rfl : vwCl[1]? = some (RX1, TX1, 10)) (by decide) kw362 kw363 kw364 kw17 kw365 ⟨rfl, by decide +kernel, by decide +kernel, by decide +kernel⟩ ⟨by decide, by decide⟩ shN1 dX4_wayTo_96)
    refine Sim.sq (p1 := 100) (s_istore_n rfl (by decide) dX4_wayTo_99) ?_
    refine Sim.sq (p1 := 102) (s_iload dX4_wayTo_100) ?_
    refine Sim.sq (p1 := 104) (s_iload dX4_wayTo_102) ?_
    refine Sim.sq (p1 := 117) (Sim.bk ?_) ?_
    · refine Sim.sq (p1 := 112) (Sim.bk ?_) ?_
      · refine Sim.sq (p1 := 107) (s_icmp_ge dX4_wayTo_104 (by decide) rfl) ?_
        refine Sim.sq (p1 := 109) (s_iload dX4_wayTo_107) ?_
        exact (s_goto dX4_wayTo_109 (by decide) rfl)
      refine Sim.sq (p1 := 114) (s_iload dX4_wayTo_112) ?_
      refine Sim.sq (p1 := 116) (s_iload dX4_wayTo_114) ?_
      exact (s_isub dX4_wayTo_116)
    refine Sim.sq (p1 := 119) (s_istore (by decide) dX4_wayTo_117) ?_
    refine Sim.sq (p1 := 122) (s_iinc (by decide +kernel) (by decide) dX4_wayTo_119) ?_
    exact (s_goto dX4_wayTo_122 (by decide) rfl)
  refine Sim.sq (p1 := 127) (s_lload dX4_wayTo_125) ?_
  refine Sim.sq (p1 := 128) (s_l2i dX4_wayTo_127) ?_
  exact (s_iret rfl dX4_wayTo_128)
set_option maxRecDepth 100000 in
set_option maxHeartbeats 4000000 in
theorem C_X4_wayTo (l : Launch) : Ct l yX4_wayTo cX4_wayTo 9 (some .int) 1 21 m_X4_wayTo := Ct_of (y := yX4_wayTo) (by decide +kernel) S_X4_wayTo
set_option maxRecDepth 100000 in
set_option maxHeartbeats 4000000 in
theorem S_X5_way {l : Launch} : Sim l (fun _ => True) RX5 "way" cX5_way 2 (some .int) 2 49 [] b_X5_way 0 30 := by
  unfold b_X5_way
  refine Sim.sq (p1 := 1) (s_iload_n rfl dX5_way_0) ?_
  refine Sim.sq (p1 := 14) (Sim.bk ?_) ?_
  · refine Sim.sq (p1 := 12) (Sim.bk ?_) ?_
    · refine Sim.sq (p1 := 4) (s_if_lt dX5_way_1 (by decide) rfl) ?_
      refine Sim.sq (p1 := 5) (s_iload_n rfl dX5_way_4) ?_
      refine Sim.sq (p1 := 6) (s_aload_n rfl dX5_way_5) ?_
      refine Sim.sq (p1 := 9) (s_callV (C_X5_length l) (rfl : vwCl[5]? = some (RX5, TX5, 11)) (by decide) kw264 kw265 kw266 kw15 kw267 ⟨rfl, by decide +kernel, by decide +kernel, by decide +kernel⟩ ⟨by decide, by decide⟩ shN5 dX5_way_6) ?_
      exact (s_icmp_lt dX5_way_9 (by decide) rfl)
    refine Sim.sq (p1 := 13) (s_iconst (by decide +kernel) dX5_way_12) ?_
    exact (s_iret rfl dX5_way_13)
  refine Sim.sq (p1 := 15) (s_aload_n rfl dX5_way_14) ?_
  refine Sim.sq (p1 := 18) (s_getr (rfl : vwCl[5]? = some (RX5, TX5, 11)) (by decide) (by decide) inG5 kw192 rfl dX5_way_15) ?_
  refine Sim.sq (p1 := 19) (s_aload_n rfl dX5_way_18) ?_
  refine Sim.sq (p1 := 22) (s_getr (rfl : vwCl[5]? = some (RX5, TX5, 11)) (by decide) (by decide) inG5 kw196 rfl dX5_way_19) ?_
  refine Sim.sq (p1 := 25) (s_getiN (rfl : vwCl[2]? = some (RX2, TX2, 7)) (by decide) (by decide) inG2 kn154 rfl dX5_way_22) ?_
  refine Sim.sq (p1 := 26) (s_iload_n rfl dX5_way_25) ?_
  refine Sim.sq (p1 := 29) (s_callV (C_X4_wayTo l) (rfl : vwCl[4]? = some (RX4, TX4, 6)) (by decide) kw589 kw590 kw591 kw16 kw592 ⟨rfl, by decide +kernel, by decide +kernel, by decide +kernel⟩ ⟨by decide, by decide⟩ shN4 dX5_way_26) ?_
  exact (s_iret rfl dX5_way_29)
set_option maxRecDepth 100000 in
set_option maxHeartbeats 4000000 in
theorem C_X5_way (l : Launch) : Ct l yX5_way cX5_way 2 (some .int) 2 49 m_X5_way := Ct_of (y := yX5_way) (by decide +kernel) S_X5_way
set_option maxRecDepth 100000 in
set_option maxHeartbeats 4000000 in
theorem S_X5_ofRing {l : Launch} : Sim l (fun _ => True) RX5 "ofRing" cX5_ofRing 4 (some .int) 3 75 [] b_X5_ofRing 0 89 := by
  unfold b_X5_ofRing
  refine Sim.sq (p1 := 1) (s_aload_n rfl dX5_ofRing_0) ?_
  refine Sim.sq (p1 := 4) (s_getr (rfl : vwCl[5]? = some (RX5, TX5, 11)) (by decide) (by decide) inG5 kw196 rfl dX5_ofRing_1) ?_
  refine Sim.sq (p1 := 5) (s_iload_n rfl dX5_ofRing_4) ?_
  refine Sim.sq (p1 := 8) (s_callV (C_X2_hasInRing l) (rfl : vwCl[2]? = some (RX2, TX2, 7)) (by decide) kw465 kw298 kw299 kw19 kw300 ⟨rfl, by decide +kernel, by decide +kernel, by decide +kernel⟩ ⟨by decide, by decide⟩ shN2 dX5_ofRing_5) ?_
  refine Sim.sq (p1 := 13) (Sim.bk ?_) ?_
  · refine Sim.sq (p1 := 11) (s_if_ne dX5_ofRing_8 (by decide) rfl) ?_
    refine Sim.sq (p1 := 12) (s_iconst (by decide +kernel) dX5_ofRing_11) ?_
    exact (s_iret rfl dX5_ofRing_12)
  refine Sim.sq (p1 := 14) (s_aload_n rfl dX5_ofRing_13) ?_
  refine Sim.sq (p1 := 17) (s_getr (rfl : vwCl[5]? = some (RX5, TX5, 11)) (by decide) (by decide) inG5 kw196 rfl dX5_ofRing_14) ?_
  refine Sim.sq (p1 := 18) (s_iload_n rfl dX5_ofRing_17) ?_
  refine Sim.sq (p1 := 21) (s_callV (C_X2_ropeOfRing l) (rfl : vwCl[2]? = some (RX2, TX2, 7)) (by decide) kw293 kw294 kw295 kw19 kw296 ⟨rfl, by decide +kernel, by decide +kernel, by decide +kernel⟩ ⟨by decide, by decide⟩ shN2 dX5_ofRing_18) ?_
  refine Sim.sq (p1 := 22) (s_istore_n rfl (by decide) dX5_ofRing_21) ?_
  refine Sim.sq (p1 := 23) (s_iload_n rfl dX5_ofRing_22) ?_
  refine Sim.sq (p1 := 86) (Sim.bk ?_) ?_
  · refine Sim.sq (p1 := 66) (Sim.bk ?_) ?_
    · refine Sim.sq (p1 := 57) (Sim.bk ?_) ?_
      · refine Sim.sq (p1 := 48) (Sim.bk ?_) ?_
        · exact (s_tsw dX5_ofRing_23 ⟨_, rfl, by decide⟩ (by decide +kernel))
        refine Sim.sq (p1 := 49) (s_aload_n rfl dX5_ofRing_48) ?_
        refine Sim.sq (p1 := 52) (s_getr (rfl : vwCl[5]? = some (RX5, TX5, 11)) (by decide) (by decide) inG5 kw193 rfl dX5_ofRing_49) ?_
        refine Sim.sq (p1 := 53) (s_iload_n rfl dX5_ofRing_52) ?_
        refine Sim.sq (p1 := 56) (s_callV (C_X1_sizeOf l) (rfl : vwCl[1]? = some (RX1, TX1, 10)) (by decide) kw268 kw269 kw270 kw17 kw271 ⟨rfl, by decide +kernel, by decide +kernel, by decide +kernel⟩ ⟨by decide, by decide⟩ shN1 dX5_ofRing_53) ?_
        exact (s_iret rfl dX5_ofRing_56)
      refine Sim.sq (p1 := 58) (s_aload_n rfl dX5_ofRing_57) ?_
      refine Sim.sq (p1 := 61) (s_getr (rfl : vwCl[5]? = some (RX5, TX5, 11)) (by decide) (by decide) inG5 kw193 rfl dX5_ofRing_58) ?_
      refine Sim.sq (p1 := 62) (s_iload_n rfl dX5_ofRing_61) ?_
      refine Sim.sq (p1 := 65) (s_callV (C_X1_heightOf l) (rfl : vwCl[1]? = some (RX1, TX1, 10)) (by decide) kw478 kw339 kw340 kw17 kw341 ⟨rfl, by decide +kernel, by decide +kernel, by decide +kernel⟩ ⟨by decide, by decide⟩ shN1 dX5_ofRing_62) ?_
      exact (s_iret rfl dX5_ofRing_65)
    refine Sim.sq (p1 := 67) (s_aload_n rfl dX5_ofRing_66) ?_
    refine Sim.sq (p1 := 70) (s_getr (rfl : vwCl[5]? = some (RX5, TX5, 11)) (by decide) (by decide) inG5 kw194 rfl dX5_ofRing_67) ?_
    refine Sim.sq (p1 := 71) (s_aload_n rfl dX5_ofRing_70) ?_
    refine Sim.sq (p1 := 74) (s_getr (rfl : vwCl[5]? = some (RX5, TX5, 11)) (by decide) (by decide) inG5 kw193 rfl dX5_ofRing_71) ?_
    refine Sim.sq (p1 := 75) (s_iload_n rfl dX5_ofRing_74) ?_
    refine Sim.sq (p1 := 78) (s_callV (C_X3_read l) (rfl : vwCl[3]? = some (RX3, TX3, 8)) (by decide) kw416 kw417 kw418 kw18 kw419 ⟨rfl, by decide +kernel, by decide +kernel, by decide +kernel⟩ ⟨by decide, by decide⟩ shN3 dX5_ofRing_75) ?_
    refine Sim.sq (p1 := 79) (s_aload_n rfl dX5_ofRing_78) ?_
    refine Sim.sq (p1 := 82) (s_getr (rfl : vwCl[5]? = some (RX5, TX5, 11)) (by decide) (by decide) inG5 kw194 rfl dX5_ofRing_79) ?_
    refine Sim.sq (p1 := 85) (s_getiN (rfl : vwCl[3]? = some (RX3, TX3, 8)) (by decide) (by decide) inG3 kn118 rfl dX5_ofRing_82) ?_
    exact (s_iret rfl dX5_ofRing_85)
  refine Sim.sq (p1 := 88) (s_bipush (by decide +kernel) dX5_ofRing_86) ?_
  exact (s_iret rfl dX5_ofRing_88)
set_option maxRecDepth 100000 in
set_option maxHeartbeats 4000000 in
theorem C_X5_ofRing (l : Launch) : Ct l yX5_ofRing cX5_ofRing 4 (some .int) 3 75 m_X5_ofRing := Ct_of (y := yX5_ofRing) (by decide +kernel) S_X5_ofRing
set_option maxRecDepth 100000 in
set_option maxHeartbeats 4000000 in
theorem S_X5_ringCharacter {l : Launch} : Sim l (fun _ => True) RX5 "ringCharacter" cX5_ringCharacter 4 (some .int) 2 50 [] b_X5_ringCharacter 0 50 := by
  unfold b_X5_ringCharacter
  refine Sim.sq (p1 := 1) (s_aload_n rfl dX5_ringCharacter_0) ?_
  refine Sim.sq (p1 := 4) (s_getr (rfl : vwCl[5]? = some (RX5, TX5, 11)) (by decide) (by decide) inG5 kw196 rfl dX5_ringCharacter_1) ?_
  refine Sim.sq (p1 := 5) (s_iload_n rfl dX5_ringCharacter_4) ?_
  refine Sim.sq (p1 := 8) (s_callV (C_X2_hasInRing l) (rfl : vwCl[2]? = some (RX2, TX2, 7)) (by decide) kw465 kw298 kw299 kw19 kw300 ⟨rfl, by decide +kernel, by decide +kernel, by decide +kernel⟩ ⟨by decide, by decide⟩ shN2 dX5_ringCharacter_5) ?_
  refine Sim.sq (p1 := 13) (Sim.bk ?_) ?_
  · refine Sim.sq (p1 := 11) (s_if_ne dX5_ringCharacter_8 (by decide) rfl) ?_
    refine Sim.sq (p1 := 12) (s_iconst (by decide +kernel) dX5_ringCharacter_11) ?_
    exact (s_iret rfl dX5_ringCharacter_12)
  refine Sim.sq (p1 := 14) (s_aload_n rfl dX5_ringCharacter_13) ?_
  refine Sim.sq (p1 := 17) (s_getr (rfl : vwCl[5]? = some (RX5, TX5, 11)) (by decide) (by decide) inG5 kw196 rfl dX5_ringCharacter_14) ?_
  refine Sim.sq (p1 := 18) (s_iload_n rfl dX5_ringCharacter_17) ?_
  refine Sim.sq (p1 := 21) (s_callV (C_X2_ropeOfRing l) (rfl : vwCl[2]? = some (RX2, TX2, 7)) (by decide) kw293 kw294 kw295 kw19 kw296 ⟨rfl, by decide +kernel, by decide +kernel, by decide +kernel⟩ ⟨by decide, by decide⟩ shN2 dX5_ringCharacter_18) ?_
  refine Sim.sq (p1 := 22) (s_istore_n rfl (by decide) dX5_ringCharacter_21) ?_
  refine Sim.sq (p1 := 23) (s_iload_n rfl dX5_ringCharacter_22) ?_
  refine Sim.sq (p1 := 40) (Sim.bk ?_) ?_
  · refine Sim.sq (p1 := 38) (Sim.bk ?_) ?_
    · refine Sim.sq (p1 := 26) (s_if_lt dX5_ringCharacter_23 (by decide) rfl) ?_
      refine Sim.sq (p1 := 27) (s_iload_n rfl dX5_ringCharacter_26) ?_
      refine Sim.sq (p1 := 28) (s_aload_n rfl dX5_ringCharacter_27) ?_
      refine Sim.sq (p1 := 31) (s_getr (rfl : vwCl[5]? = some (RX5, TX5, 11)) (by decide) (by decide) inG5 kw193 rfl dX5_ringCharacter_28) ?_
      refine Sim.sq (p1 := 32) (s_iload_n rfl dX5_ringCharacter_31) ?_
      refine Sim.sq (p1 := 35) (s_callV (C_X1_sizeOf l) (rfl : vwCl[1]? = some (RX1, TX1, 10)) (by decide) kw268 kw269 kw270 kw17 kw271 ⟨rfl, by decide +kernel, by decide +kernel, by decide +kernel⟩ ⟨by decide, by decide⟩ shN1 dX5_ringCharacter_32) ?_
      exact (s_icmp_lt dX5_ringCharacter_35 (by decide) rfl)
    refine Sim.sq (p1 := 39) (s_iconst (by decide +kernel) dX5_ringCharacter_38) ?_
    exact (s_iret rfl dX5_ringCharacter_39)
  refine Sim.sq (p1 := 41) (s_aload_n rfl dX5_ringCharacter_40) ?_
  refine Sim.sq (p1 := 44) (s_getr (rfl : vwCl[5]? = some (RX5, TX5, 11)) (by decide) (by decide) inG5 kw192 rfl dX5_ringCharacter_41) ?_
  refine Sim.sq (p1 := 45) (s_iload_n rfl dX5_ringCharacter_44) ?_
  refine Sim.sq (p1 := 46) (s_iload_n rfl dX5_ringCharacter_45) ?_
  refine Sim.sq (p1 := 49) (s_callV (C_X4_codeAt l) (rfl : vwCl[4]? = some (RX4, TX4, 6)) (by decide) kw574 kw575 kw576 kw16 kw577 ⟨rfl, by decide +kernel, by decide +kernel, by decide +kernel⟩ ⟨by decide, by decide⟩ shN4 dX5_ringCharacter_46) ?_
  exact (s_iret rfl dX5_ringCharacter_49)
set_option maxRecDepth 100000 in
set_option maxHeartbeats 4000000 in
theorem C_X5_ringCharacter (l : Launch) : Ct l yX5_ringCharacter cX5_ringCharacter 4 (some .int) 2 50 m_X5_ringCharacter := Ct_of (y := yX5_ringCharacter) (by decide +kernel) S_X5_ringCharacter
set_option maxRecDepth 100000 in
set_option maxHeartbeats 4000000 in
theorem S_X5_isBalanced {l : Launch} : Sim l (fun _ => True) RX5 "isBalanced" cX5_isBalanced 1 (some .int) 2 47 [] b_X5_isBalanced 0 23 := by
  unfold b_X5_isBalanced
  refine Sim.sq (p1 := 1) (s_aload_n rfl dX5_isBalanced_0) ?_
  refine Sim.sq (p1 := 4) (s_getr (rfl : vwCl[5]? = some (RX5, TX5, 11)) (by decide) (by decide) inG5 kw192 rfl dX5_isBalanced_1) ?_
  refine Sim.sq (p1 := 5) (s_aload_n rfl dX5_isBalanced_4) ?_
  refine Sim.sq (p1 := 8) (s_getr (rfl : vwCl[5]? = some (RX5, TX5, 11)) (by decide) (by decide) inG5 kw196 rfl dX5_isBalanced_5) ?_
  refine Sim.sq (p1 := 11) (s_getiN (rfl : vwCl[2]? = some (RX2, TX2, 7)) (by decide) (by decide) inG2 kn154 rfl dX5_isBalanced_8) ?_
  refine Sim.sq (p1 := 14) (s_callV (C_X4_hasBalance l) (rfl : vwCl[4]? = some (RX4, TX4, 6)) (by decide) kw407 kw408 kw409 kw16 kw410 ⟨rfl, by decide +kernel, by decide +kernel, by decide +kernel⟩ ⟨by decide, by decide⟩ shN4 dX5_isBalanced_11) ?_
  refine Sim.sq (p1 := 22) (Sim.bk ?_) ?_
  · refine Sim.sq (p1 := 21) (Sim.bk ?_) ?_
    · refine Sim.sq (p1 := 17) (s_if_eq dX5_isBalanced_14 (by decide) rfl) ?_
      refine Sim.sq (p1 := 18) (s_iconst (by decide +kernel) dX5_isBalanced_17) ?_
      exact (s_goto dX5_isBalanced_18 (by decide) rfl)
    exact (s_iconst (by decide +kernel) dX5_isBalanced_21)
  exact (s_iret rfl dX5_isBalanced_22)
set_option maxRecDepth 100000 in
set_option maxHeartbeats 4000000 in
theorem C_X5_isBalanced (l : Launch) : Ct l yX5_isBalanced cX5_isBalanced 1 (some .int) 2 47 m_X5_isBalanced := Ct_of (y := yX5_isBalanced) (by decide +kernel) S_X5_isBalanced
set_option maxRecDepth 100000 in
set_option maxHeartbeats 4000000 in
theorem S_X5_builds {l : Launch} : Sim l (fun _ => True) RX5 "builds" cX5_builds 1 (some .int) 0 0 [] b_X5_builds 0 8 := by
  unfold b_X5_builds
  refine Sim.sq (p1 := 1) (s_aload_n rfl dX5_builds_0) ?_
  refine Sim.sq (p1 := 4) (s_getr (rfl : vwCl[5]? = some (RX5, TX5, 11)) (by decide) (by decide) inG5 kw196 rfl dX5_builds_1) ?_
  refine Sim.sq (p1 := 7) (s_getiN (rfl : vwCl[2]? = some (RX2, TX2, 7)) (by decide) (by decide) inG2 kn156 rfl dX5_builds_4) ?_
  exact (s_iret rfl dX5_builds_7)
set_option maxRecDepth 100000 in
set_option maxHeartbeats 4000000 in
theorem C_X5_builds (l : Launch) : Ct l yX5_builds cX5_builds 1 (some .int) 0 0 m_X5_builds := Ct_of (y := yX5_builds) (by decide +kernel) S_X5_builds
set_option maxRecDepth 100000 in
set_option maxHeartbeats 4000000 in
theorem S_X5_ring {l : Launch} : Sim l (fun _ => True) RX5 "ring" cX5_ring 1 (some .int) 0 0 [] b_X5_ring 0 8 := by
  unfold b_X5_ring
  refine Sim.sq (p1 := 1) (s_aload_n rfl dX5_ring_0) ?_
  refine Sim.sq (p1 := 4) (s_getr (rfl : vwCl[5]? = some (RX5, TX5, 11)) (by decide) (by decide) inG5 kw196 rfl dX5_ring_1) ?_
  refine Sim.sq (p1 := 7) (s_getiN (rfl : vwCl[2]? = some (RX2, TX2, 7)) (by decide) (by decide) inG2 kn148 rfl dX5_ring_4) ?_
  exact (s_iret rfl dX5_ring_7)
set_option maxRecDepth 100000 in
set_option maxHeartbeats 4000000 in
theorem C_X5_ring (l : Launch) : Ct l yX5_ring cX5_ring 1 (some .int) 0 0 m_X5_ring := Ct_of (y := yX5_ring) (by decide +kernel) S_X5_ring
set_option maxRecDepth 100000 in
set_option maxHeartbeats 4000000 in
theorem S_L_same {l : Launch} : Sim l (fun _ => True) RL "same" cL_same 18 (some .boolean) 4 98 [] b_L_same 0 553 := by
  unfold b_L_same b_L_same_t8 b_L_same_t7 b_L_same_t6 b_L_same_t5 b_L_same_t4 b_L_same_t3 b_L_same_l5 b_L_same_t2 b_L_same_l4 b_L_same_t1 b_L_same_t0 b_L_same_l3 b_L_same_l2 b_L_same_l1 b_L_same_l0
  refine Sim.sq (p1 := 1) (s_iconst (by decide +kernel) dL_same_0) ?_
  refine Sim.sq (p1 := 3) (s_istore (by decide) dL_same_1) ?_
  refine Sim.sq (p1 := 4) (s_iconst (by decide +kernel) dL_same_3) ?_
  refine Sim.sq (p1 := 6) (s_istore (by decide) dL_same_4) ?_
  refine Sim.sq (p1 := 78) (Sim.lp ?_) ?_
  · refine Sim.sq (p1 := 8) (s_iload dL_same_6) ?_
    refine Sim.sq (p1 := 9) (s_aload_n rfl dL_same_8) ?_
    refine Sim.sq (p1 := 11) (s_bipush (by decide +kernel) dL_same_9) ?_
    refine Sim.sq (p1 := 12) (s_iald dL_same_11) ?_
    refine Sim.bk ?_
    refine Sim.sq (p1 := 15) (s_icmp_ge dL_same_12 (by decide) rfl) ?_
    refine Sim.sq (p1 := 16) (s_aload_n rfl dL_same_15) ?_
    refine Sim.sq (p1 := 18) (s_iload dL_same_16) ?_
    refine Sim.sq (p1 := 19) (s_iconst (by decide +kernel) dL_same_18) ?_
    refine Sim.sq (p1 := 22) (s_callV (C_X5_leaf l) (rfl : vwCl[5]? = some (RX5, TX5, 11)) (by decide) kw553 kw554 kw555 kw15 kw556 ⟨rfl, by decide +kernel, by decide +kernel, by decide +kernel⟩ ⟨by decide, by decide⟩ shN5 dL_same_19) ?_
    refine Sim.sq (p1 := 24) (s_iload dL_same_22) ?_
    refine Sim.sq (p1 := 61) (Sim.bk ?_) ?_
    · refine Sim.sq (p1 := 59) (Sim.bk ?_) ?_
      · refine Sim.sq (p1 := 27) (s_icmp_ne dL_same_24 (by decide) rfl) ?_
        refine Sim.sq (p1 := 28) (s_aload_n rfl dL_same_27) ?_
        refine Sim.sq (p1 := 30) (s_iload dL_same_28) ?_
        refine Sim.sq (p1 := 31) (s_iconst (by decide +kernel) dL_same_30) ?_
        refine Sim.sq (p1 := 34) (s_callV (C_X5_leaf l) (rfl : vwCl[5]? = some (RX5, TX5, 11)) (by decide) kw553 kw554 kw555 kw15 kw556 ⟨rfl, by decide +kernel, by decide +kernel, by decide +kernel⟩ ⟨by decide, by decide⟩ shN5 dL_same_31) ?_
        refine Sim.sq (p1 := 35) (s_aload_n rfl dL_same_34) ?_
        refine Sim.sq (p1 := 37) (s_iload dL_same_35) ?_
        refine Sim.sq (p1 := 40) (s_callS (y := yL_size) (C_L_size l) kw514 kw515 kw14 kw516 ⟨by decide +kernel, by decide +kernel, by decide +kernel⟩ ⟨by decide, by decide⟩ dL_same_37) ?_
        refine Sim.sq (p1 := 43) (s_icmp_ne dL_same_40 (by decide) rfl) ?_
        refine Sim.sq (p1 := 44) (s_aload_n rfl dL_same_43) ?_
        refine Sim.sq (p1 := 46) (s_iload dL_same_44) ?_
        refine Sim.sq (p1 := 47) (s_iconst (by decide +kernel) dL_same_46) ?_
        refine Sim.sq (p1 := 50) (s_callV (C_X5_leaf l) (rfl : vwCl[5]? = some (RX5, TX5, 11)) (by decide) kw553 kw554 kw555 kw15 kw556 ⟨rfl, by decide +kernel, by decide +kernel, by decide +kernel⟩ ⟨by decide, by decide⟩ shN5 dL_same_47) ?_
        refine Sim.sq (p1 := 51) (s_aload_n rfl dL_same_50) ?_
        refine Sim.sq (p1 := 53) (s_iload dL_same_51) ?_
        refine Sim.sq (p1 := 56) (s_callS (y := yL_level) (C_L_level l) kw529 kw530 kw14 kw531 ⟨by decide +kernel, by decide +kernel, by decide +kernel⟩ ⟨by decide, by decide⟩ dL_same_53) ?_
        exact (s_icmp_eq dL_same_56 (by decide) rfl)
      refine Sim.sq (p1 := 60) (s_iconst (by decide +kernel) dL_same_59) ?_
      exact (s_zret rfl dL_same_60)
    refine Sim.sq (p1 := 63) (s_iload dL_same_61) ?_
    refine Sim.sq (p1 := 64) (s_aload_n rfl dL_same_63) ?_
    refine Sim.sq (p1 := 66) (s_iload dL_same_64) ?_
    refine Sim.sq (p1 := 69) (s_callS (y := yL_size) (C_L_size l) kw514 kw515 kw14 kw516 ⟨by decide +kernel, by decide +kernel, by decide +kernel⟩ ⟨by decide, by decide⟩ dL_same_66) ?_
    refine Sim.sq (p1 := 70) (s_iadd dL_same_69) ?_
    refine Sim.sq (p1 := 72) (s_istore (by decide) dL_same_70) ?_
    refine Sim.sq (p1 := 75) (s_iinc (by decide +kernel) (by decide) dL_same_72) ?_
    exact (s_goto dL_same_75 (by decide) rfl)
  refine Sim.sq (p1 := 79) (s_iconst (by decide +kernel) dL_same_78) ?_
  refine Sim.sq (p1 := 81) (s_istore (by decide) dL_same_79) ?_
  refine Sim.sq (p1 := 112) (Sim.lp ?_) ?_
  · refine Sim.sq (p1 := 83) (s_iload dL_same_81) ?_
    refine Sim.sq (p1 := 85) (s_aload dL_same_83) ?_
    refine Sim.sq (p1 := 87) (s_bipush (by decide +kernel) dL_same_85) ?_
    refine Sim.sq (p1 := 88) (s_iald dL_same_87) ?_
    refine Sim.bk ?_
    refine Sim.sq (p1 := 91) (s_icmp_ge dL_same_88 (by decide) rfl) ?_
    refine Sim.sq (p1 := 92) (s_aload_n rfl dL_same_91) ?_
    refine Sim.sq (p1 := 94) (s_iload dL_same_92) ?_
    refine Sim.sq (p1 := 97) (s_callV (C_X5_character l) (rfl : vwCl[5]? = some (RX5, TX5, 11)) (by decide) kw570 kw571 kw572 kw15 kw573 ⟨rfl, by decide +kernel, by decide +kernel, by decide +kernel⟩ ⟨by decide, by decide⟩ shN5 dL_same_94) ?_
    refine Sim.sq (p1 := 98) (s_aload_n rfl dL_same_97) ?_
    refine Sim.sq (p1 := 100) (s_iload dL_same_98) ?_
    refine Sim.sq (p1 := 101) (s_iald dL_same_100) ?_
    refine Sim.sq (p1 := 106) (Sim.bk ?_) ?_
    · refine Sim.sq (p1 := 104) (s_icmp_eq dL_same_101 (by decide) rfl) ?_
      refine Sim.sq (p1 := 105) (s_iconst (by decide +kernel) dL_same_104) ?_
      exact (s_zret rfl dL_same_105)
    refine Sim.sq (p1 := 109) (s_iinc (by decide +kernel) (by decide) dL_same_106) ?_
    exact (s_goto dL_same_109 (by decide) rfl)
  refine Sim.sq (p1 := 113) (s_iconst (by decide +kernel) dL_same_112) ?_
  refine Sim.sq (p1 := 115) (s_istore (by decide) dL_same_113) ?_
  refine Sim.sq (p1 := 160) (Sim.lp ?_) ?_
  · refine Sim.sq (p1 := 117) (s_iload dL_same_115) ?_
    refine Sim.sq (p1 := 118) (s_iconst (by decide +kernel) dL_same_117) ?_
    refine Sim.bk ?_
    refine Sim.sq (p1 := 121) (s_icmp_ge dL_same_118 (by decide) rfl) ?_
    refine Sim.sq (p1 := 122) (s_aload_n rfl dL_same_121) ?_
    refine Sim.sq (p1 := 124) (s_iload dL_same_122) ?_
    refine Sim.sq (p1 := 127) (s_callV (C_X5_mark l) (rfl : vwCl[5]? = some (RX5, TX5, 11)) (by decide) kw579 kw580 kw581 kw15 kw582 ⟨rfl, by decide +kernel, by decide +kernel, by decide +kernel⟩ ⟨by decide, by decide⟩ shN5 dL_same_124) ?_
    refine Sim.sq (p1 := 129) (s_aload dL_same_127) ?_
    refine Sim.sq (p1 := 130) (s_iconst (by decide +kernel) dL_same_129) ?_
    refine Sim.sq (p1 := 132) (s_iload dL_same_130) ?_
    refine Sim.sq (p1 := 133) (s_iadd dL_same_132) ?_
    refine Sim.sq (p1 := 134) (s_iald dL_same_133) ?_
    refine Sim.sq (p1 := 149) (Sim.bk ?_) ?_
    · refine Sim.sq (p1 := 142) (Sim.bk ?_) ?_
      · refine Sim.sq (p1 := 137) (s_if_ge dL_same_134 (by decide) rfl) ?_
        refine Sim.sq (p1 := 139) (s_bipush (by decide +kernel) dL_same_137) ?_
        exact (s_goto dL_same_139 (by decide) rfl)
      refine Sim.sq (p1 := 144) (s_aload dL_same_142) ?_
      refine Sim.sq (p1 := 145) (s_iconst (by decide +kernel) dL_same_144) ?_
      refine Sim.sq (p1 := 147) (s_iload dL_same_145) ?_
      refine Sim.sq (p1 := 148) (s_iadd dL_same_147) ?_
      exact (s_iald dL_same_148)
    refine Sim.sq (p1 := 154) (Sim.bk ?_) ?_
    · refine Sim.sq (p1 := 152) (s_icmp_eq dL_same_149 (by decide) rfl) ?_
      refine Sim.sq (p1 := 153) (s_iconst (by decide +kernel) dL_same_152) ?_
      exact (s_zret rfl dL_same_153)
    refine Sim.sq (p1 := 157) (s_iinc (by decide +kernel) (by decide) dL_same_154) ?_
    exact (s_goto dL_same_157 (by decide) rfl)
  refine Sim.sq (p1 := 162) (s_aload dL_same_160) ?_
  refine Sim.sq (p1 := 164) (s_bipush (by decide +kernel) dL_same_162) ?_
  refine Sim.sq (p1 := 165) (s_iald dL_same_164) ?_
  refine Sim.sq (p1 := 352) (Sim.bk ?_) ?_
  · refine Sim.sq (p1 := 168) (s_if_le dL_same_165 (by decide) rfl) ?_
    refine Sim.sq (p1 := 169) (s_iload_n rfl dL_same_168) ?_
    refine Sim.sq (p1 := 171) (s_aload dL_same_169) ?_
    refine Sim.sq (p1 := 173) (s_bipush (by decide +kernel) dL_same_171) ?_
    refine Sim.sq (p1 := 174) (s_iald dL_same_173) ?_
    refine Sim.sq (p1 := 177) (s_callS (y := yL_low) (C_L_low l) kw504 kw505 kw14 kw506 ⟨by decide +kernel, by decide +kernel, by decide +kernel⟩ ⟨by decide, by decide⟩ dL_same_174) ?_
    refine Sim.sq (p1 := 179) (s_istore (by decide) dL_same_177) ?_
    refine Sim.sq (p1 := 180) (s_iconst (by decide +kernel) dL_same_179) ?_
    refine Sim.sq (p1 := 182) (s_istore (by decide) dL_same_180) ?_
    refine Sim.sq (p1 := 183) (s_aload_n rfl dL_same_182) ?_
    refine Sim.sq (p1 := 185) (s_bipush (by decide +kernel) dL_same_183) ?_
    refine Sim.sq (p1 := 186) (s_iald dL_same_185) ?_
    refine Sim.sq (p1 := 188) (s_istore (by decide) dL_same_186) ?_
    refine Sim.sq (p1 := 189) (s_iconst (by decide +kernel) dL_same_188) ?_
    refine Sim.sq (p1 := 191) (s_istore (by decide) dL_same_189) ?_
    refine Sim.sq (p1 := 192) (s_lconst (by decide +kernel) dL_same_191) ?_
    refine Sim.sq (p1 := 194) (s_lstore (by decide) dL_same_192) ?_
    refine Sim.sq (p1 := 195) (s_iconst (by decide +kernel) dL_same_194) ?_
    refine Sim.sq (p1 := 197) (s_istore (by decide) dL_same_195) ?_
    refine Sim.sq (p1 := 337) (Sim.lp ?_) ?_
    · refine Sim.sq (p1 := 199) (s_iload dL_same_197) ?_
      refine Sim.sq (p1 := 201) (s_iload dL_same_199) ?_
      refine Sim.sq (p1 := 202) (s_isub dL_same_201) ?_
      refine Sim.sq (p1 := 203) (s_iconst (by decide +kernel) dL_same_202) ?_
      refine Sim.bk ?_
      refine Sim.sq (p1 := 206) (s_icmp_le dL_same_203 (by decide) rfl) ?_
      refine Sim.sq (p1 := 207) (s_aload_n rfl dL_same_206) ?_
      refine Sim.sq (p1 := 209) (s_iload dL_same_207) ?_
      refine Sim.sq (p1 := 211) (s_iload dL_same_209) ?_
      refine Sim.sq (p1 := 213) (s_iload dL_same_211) ?_
      refine Sim.sq (p1 := 216) (s_callS (y := yL_parted) (C_L_parted l) kw523 kw524 kw14 kw525 ⟨by decide +kernel, by decide +kernel, by decide +kernel⟩ ⟨by decide, by decide⟩ dL_same_213) ?_
      refine Sim.sq (p1 := 217) (s_iconst (by decide +kernel) dL_same_216) ?_
      refine Sim.sq (p1 := 218) (s_iadd dL_same_217) ?_
      refine Sim.sq (p1 := 220) (s_istore (by decide) dL_same_218) ?_
      refine Sim.sq (p1 := 222) (s_iload dL_same_220) ?_
      refine Sim.sq (p1 := 224) (s_istore (by decide) dL_same_222) ?_
      refine Sim.sq (p1 := 226) (s_iload dL_same_224) ?_
      refine Sim.sq (p1 := 228) (s_istore (by decide) dL_same_226) ?_
      refine Sim.sq (p1 := 252) (Sim.lp ?_) ?_
      · refine Sim.sq (p1 := 230) (s_iload dL_same_228) ?_
        refine Sim.sq (p1 := 232) (s_iload dL_same_230) ?_
        refine Sim.bk ?_
        refine Sim.sq (p1 := 235) (s_icmp_ge dL_same_232 (by decide) rfl) ?_
        refine Sim.sq (p1 := 237) (s_iload dL_same_235) ?_
        refine Sim.sq (p1 := 238) (s_aload_n rfl dL_same_237) ?_
        refine Sim.sq (p1 := 240) (s_iload dL_same_238) ?_
        refine Sim.sq (p1 := 243) (s_callS (y := yL_size) (C_L_size l) kw514 kw515 kw14 kw516 ⟨by decide +kernel, by decide +kernel, by decide +kernel⟩ ⟨by decide, by decide⟩ dL_same_240) ?_
        refine Sim.sq (p1 := 244) (s_iadd dL_same_243) ?_
        refine Sim.sq (p1 := 246) (s_istore (by decide) dL_same_244) ?_
        refine Sim.sq (p1 := 249) (s_iinc (by decide +kernel) (by decide) dL_same_246) ?_
        exact (s_goto dL_same_249 (by decide) rfl)
      refine Sim.sq (p1 := 254) (s_iload dL_same_252) ?_
      refine Sim.sq (p1 := 256) (s_iload dL_same_254) ?_
      refine Sim.sq (p1 := 264) (Sim.bk ?_) ?_
      · refine Sim.sq (p1 := 263) (Sim.bk ?_) ?_
        · refine Sim.sq (p1 := 259) (s_icmp_ge dL_same_256 (by decide) rfl) ?_
          refine Sim.sq (p1 := 260) (s_iconst (by decide +kernel) dL_same_259) ?_
          exact (s_goto dL_same_260 (by decide) rfl)
        exact (s_iconst (by decide +kernel) dL_same_263)
      refine Sim.sq (p1 := 266) (s_istore (by decide) dL_same_264) ?_
      refine Sim.sq (p1 := 269) (s_ldc2 kw583 dL_same_266) ?_
      refine Sim.sq (p1 := 271) (s_lload dL_same_269) ?_
      refine Sim.sq (p1 := 272) (s_lmul dL_same_271) ?_
      refine Sim.sq (p1 := 274) (s_iload dL_same_272) ?_
      refine Sim.sq (p1 := 282) (Sim.bk ?_) ?_
      · refine Sim.sq (p1 := 281) (Sim.bk ?_) ?_
        · refine Sim.sq (p1 := 277) (s_if_eq dL_same_274 (by decide) rfl) ?_
          refine Sim.sq (p1 := 278) (s_lconst (by decide +kernel) dL_same_277) ?_
          exact (s_goto dL_same_278 (by decide) rfl)
        exact (s_lconst (by decide +kernel) dL_same_281)
      refine Sim.sq (p1 := 283) (s_ladd dL_same_282) ?_
      refine Sim.sq (p1 := 286) (s_ldc2 kw584 dL_same_283) ?_
      refine Sim.sq (p1 := 287) (s_lrem dL_same_286) ?_
      refine Sim.sq (p1 := 289) (s_lstore (by decide) dL_same_287) ?_
      refine Sim.sq (p1 := 291) (s_iload dL_same_289) ?_
      refine Sim.sq (p1 := 301) (Sim.bk ?_) ?_
      · refine Sim.sq (p1 := 299) (Sim.bk ?_) ?_
        · refine Sim.sq (p1 := 294) (s_if_eq dL_same_291 (by decide) rfl) ?_
          refine Sim.sq (p1 := 296) (s_iload dL_same_294) ?_
          exact (s_goto dL_same_296 (by decide) rfl)
        exact (s_iload dL_same_299)
      refine Sim.sq (p1 := 303) (s_istore (by decide) dL_same_301) ?_
      refine Sim.sq (p1 := 305) (s_iload dL_same_303) ?_
      refine Sim.sq (p1 := 315) (Sim.bk ?_) ?_
      · refine Sim.sq (p1 := 313) (Sim.bk ?_) ?_
        · refine Sim.sq (p1 := 308) (s_if_eq dL_same_305 (by decide) rfl) ?_
          refine Sim.sq (p1 := 310) (s_iload dL_same_308) ?_
          exact (s_goto dL_same_310 (by decide) rfl)
        exact (s_iload dL_same_313)
      refine Sim.sq (p1 := 317) (s_istore (by decide) dL_same_315) ?_
      refine Sim.sq (p1 := 319) (s_iload dL_same_317) ?_
      refine Sim.sq (p1 := 329) (Sim.bk ?_) ?_
      · refine Sim.sq (p1 := 327) (Sim.bk ?_) ?_
        · refine Sim.sq (p1 := 322) (s_if_eq dL_same_319 (by decide) rfl) ?_
          refine Sim.sq (p1 := 324) (s_iload dL_same_322) ?_
          exact (s_goto dL_same_324 (by decide) rfl)
        exact (s_iload dL_same_327)
      refine Sim.sq (p1 := 331) (s_istore (by decide) dL_same_329) ?_
      refine Sim.sq (p1 := 334) (s_iinc (by decide +kernel) (by decide) dL_same_331) ?_
      exact (s_goto dL_same_334 (by decide) rfl)
    refine Sim.sq (p1 := 338) (s_aload_n rfl dL_same_337) ?_
    refine Sim.sq (p1 := 340) (s_iload dL_same_338) ?_
    refine Sim.sq (p1 := 343) (s_callV (C_X5_way l) (rfl : vwCl[5]? = some (RX5, TX5, 11)) (by decide) kw585 kw586 kw587 kw15 kw588 ⟨rfl, by decide +kernel, by decide +kernel, by decide +kernel⟩ ⟨by decide, by decide⟩ shN5 dL_same_340) ?_
    refine Sim.sq (p1 := 344) (s_i2l dL_same_343) ?_
    refine Sim.sq (p1 := 346) (s_lload dL_same_344) ?_
    refine Sim.sq (p1 := 347) (s_lcmp dL_same_346) ?_
    refine Sim.sq (p1 := 350) (s_if_eq dL_same_347 (by decide) rfl) ?_
    refine Sim.sq (p1 := 351) (s_iconst (by decide +kernel) dL_same_350) ?_
    exact (s_zret rfl dL_same_351)
  refine Sim.sq (p1 := 354) (s_aload dL_same_352) ?_
  refine Sim.sq (p1 := 356) (s_bipush (by decide +kernel) dL_same_354) ?_
  refine Sim.sq (p1 := 357) (s_iald dL_same_356) ?_
  refine Sim.sq (p1 := 440) (Sim.bk ?_) ?_
  · refine Sim.sq (p1 := 360) (s_if_le dL_same_357 (by decide) rfl) ?_
    refine Sim.sq (p1 := 361) (s_aload_n rfl dL_same_360) ?_
    refine Sim.sq (p1 := 362) (s_iconst (by decide +kernel) dL_same_361) ?_
    refine Sim.sq (p1 := 363) (s_iconst (by decide +kernel) dL_same_362) ?_
    refine Sim.sq (p1 := 366) (s_callV (C_X5_ofRing l) (rfl : vwCl[5]? = some (RX5, TX5, 11)) (by decide) kw595 kw596 kw597 kw15 kw598 ⟨rfl, by decide +kernel, by decide +kernel, by decide +kernel⟩ ⟨by decide, by decide⟩ shN5 dL_same_363) ?_
    refine Sim.sq (p1 := 368) (s_aload dL_same_366) ?_
    refine Sim.sq (p1 := 370) (s_bipush (by decide +kernel) dL_same_368) ?_
    refine Sim.sq (p1 := 371) (s_iald dL_same_370) ?_
    refine Sim.sq (p1 := 404) (Sim.bk ?_) ?_
    · refine Sim.sq (p1 := 402) (Sim.bk ?_) ?_
      · refine Sim.sq (p1 := 374) (s_icmp_ne dL_same_371 (by decide) rfl) ?_
        refine Sim.sq (p1 := 375) (s_aload_n rfl dL_same_374) ?_
        refine Sim.sq (p1 := 376) (s_iconst (by decide +kernel) dL_same_375) ?_
        refine Sim.sq (p1 := 377) (s_iconst (by decide +kernel) dL_same_376) ?_
        refine Sim.sq (p1 := 380) (s_callV (C_X5_ofRing l) (rfl : vwCl[5]? = some (RX5, TX5, 11)) (by decide) kw595 kw596 kw597 kw15 kw598 ⟨rfl, by decide +kernel, by decide +kernel, by decide +kernel⟩ ⟨by decide, by decide⟩ shN5 dL_same_377) ?_
        refine Sim.sq (p1 := 382) (s_aload dL_same_380) ?_
        refine Sim.sq (p1 := 385) (s_callS (y := yL_depth) (C_L_depth l) kw526 kw527 kw14 kw528 ⟨by decide +kernel, by decide +kernel, by decide +kernel⟩ ⟨by decide, by decide⟩ dL_same_382) ?_
        refine Sim.sq (p1 := 388) (s_icmp_ne dL_same_385 (by decide) rfl) ?_
        refine Sim.sq (p1 := 389) (s_aload_n rfl dL_same_388) ?_
        refine Sim.sq (p1 := 390) (s_iconst (by decide +kernel) dL_same_389) ?_
        refine Sim.sq (p1 := 391) (s_iconst (by decide +kernel) dL_same_390) ?_
        refine Sim.sq (p1 := 394) (s_callV (C_X5_ofRing l) (rfl : vwCl[5]? = some (RX5, TX5, 11)) (by decide) kw595 kw596 kw597 kw15 kw598 ⟨rfl, by decide +kernel, by decide +kernel, by decide +kernel⟩ ⟨by decide, by decide⟩ shN5 dL_same_391) ?_
        refine Sim.sq (p1 := 396) (s_aload dL_same_394) ?_
        refine Sim.sq (p1 := 398) (s_bipush (by decide +kernel) dL_same_396) ?_
        refine Sim.sq (p1 := 399) (s_iald dL_same_398) ?_
        exact (s_icmp_eq dL_same_399 (by decide) rfl)
      refine Sim.sq (p1 := 403) (s_iconst (by decide +kernel) dL_same_402) ?_
      exact (s_zret rfl dL_same_403)
    refine Sim.sq (p1 := 405) (s_iconst (by decide +kernel) dL_same_404) ?_
    refine Sim.sq (p1 := 407) (s_istore (by decide) dL_same_405) ?_
    refine Sim.lp ?_
    refine Sim.sq (p1 := 409) (s_iload dL_same_407) ?_
    refine Sim.sq (p1 := 411) (s_aload dL_same_409) ?_
    refine Sim.sq (p1 := 413) (s_bipush (by decide +kernel) dL_same_411) ?_
    refine Sim.sq (p1 := 414) (s_iald dL_same_413) ?_
    refine Sim.sq (p1 := 417) (s_icmp_ge dL_same_414 (by decide) rfl) ?_
    refine Sim.sq (p1 := 418) (s_aload_n rfl dL_same_417) ?_
    refine Sim.sq (p1 := 419) (s_iconst (by decide +kernel) dL_same_418) ?_
    refine Sim.sq (p1 := 421) (s_iload dL_same_419) ?_
    refine Sim.sq (p1 := 424) (s_callV (C_X5_ringCharacter l) (rfl : vwCl[5]? = some (RX5, TX5, 11)) (by decide) kw599 kw600 kw601 kw15 kw602 ⟨rfl, by decide +kernel, by decide +kernel, by decide +kernel⟩ ⟨by decide, by decide⟩ shN5 dL_same_421) ?_
    refine Sim.sq (p1 := 426) (s_aload dL_same_424) ?_
    refine Sim.sq (p1 := 428) (s_iload dL_same_426) ?_
    refine Sim.sq (p1 := 429) (s_iald dL_same_428) ?_
    refine Sim.sq (p1 := 434) (Sim.bk ?_) ?_
    · refine Sim.sq (p1 := 432) (s_icmp_eq dL_same_429 (by decide) rfl) ?_
      refine Sim.sq (p1 := 433) (s_iconst (by decide +kernel) dL_same_432) ?_
      exact (s_zret rfl dL_same_433)
    refine Sim.sq (p1 := 437) (s_iinc (by decide +kernel) (by decide) dL_same_434) ?_
    exact (s_goto dL_same_437 (by decide) rfl)
  refine Sim.sq (p1 := 441) (s_aload_n rfl dL_same_440) ?_
  refine Sim.sq (p1 := 444) (s_callV (C_X5_length l) (rfl : vwCl[5]? = some (RX5, TX5, 11)) (by decide) kw603 kw265 kw266 kw15 kw267 ⟨rfl, by decide +kernel, by decide +kernel, by decide +kernel⟩ ⟨by decide, by decide⟩ shN5 dL_same_441) ?_
  refine Sim.sq (p1 := 446) (s_aload dL_same_444) ?_
  refine Sim.sq (p1 := 448) (s_bipush (by decide +kernel) dL_same_446) ?_
  refine Sim.sq (p1 := 449) (s_iald dL_same_448) ?_
  refine Sim.sq (p1 := 552) (Sim.bk ?_) ?_
  · refine Sim.sq (p1 := 551) (Sim.bk ?_) ?_
    · refine Sim.sq (p1 := 452) (s_icmp_ne dL_same_449 (by decide) rfl) ?_
      refine Sim.sq (p1 := 453) (s_aload_n rfl dL_same_452) ?_
      refine Sim.sq (p1 := 456) (s_callV (C_X5_leaves l) (rfl : vwCl[5]? = some (RX5, TX5, 11)) (by decide) kw604 kw484 kw485 kw15 kw486 ⟨rfl, by decide +kernel, by decide +kernel, by decide +kernel⟩ ⟨by decide, by decide⟩ shN5 dL_same_453) ?_
      refine Sim.sq (p1 := 457) (s_aload_n rfl dL_same_456) ?_
      refine Sim.sq (p1 := 459) (s_bipush (by decide +kernel) dL_same_457) ?_
      refine Sim.sq (p1 := 460) (s_iald dL_same_459) ?_
      refine Sim.sq (p1 := 463) (s_icmp_ne dL_same_460 (by decide) rfl) ?_
      refine Sim.sq (p1 := 464) (s_aload_n rfl dL_same_463) ?_
      refine Sim.sq (p1 := 467) (s_callV (C_X5_depth l) (rfl : vwCl[5]? = some (RX5, TX5, 11)) (by decide) kw605 kw475 kw476 kw15 kw477 ⟨rfl, by decide +kernel, by decide +kernel, by decide +kernel⟩ ⟨by decide, by decide⟩ shN5 dL_same_464) ?_
      refine Sim.sq (p1 := 468) (s_aload_n rfl dL_same_467) ?_
      refine Sim.sq (p1 := 471) (s_callS (y := yL_depth) (C_L_depth l) kw526 kw527 kw14 kw528 ⟨by decide +kernel, by decide +kernel, by decide +kernel⟩ ⟨by decide, by decide⟩ dL_same_468) ?_
      refine Sim.sq (p1 := 474) (s_icmp_ne dL_same_471 (by decide) rfl) ?_
      refine Sim.sq (p1 := 475) (s_aload_n rfl dL_same_474) ?_
      refine Sim.sq (p1 := 478) (s_callV (C_X5_isBalanced l) (rfl : vwCl[5]? = some (RX5, TX5, 11)) (by decide) kw606 kw607 kw608 kw15 kw609 ⟨rfl, by decide +kernel, by decide +kernel, by decide +kernel⟩ ⟨by decide, by decide⟩ shN5 dL_same_475) ?_
      refine Sim.sq (p1 := 479) (s_aload_n rfl dL_same_478) ?_
      refine Sim.sq (p1 := 481) (s_aload dL_same_479) ?_
      refine Sim.sq (p1 := 483) (s_bipush (by decide +kernel) dL_same_481) ?_
      refine Sim.sq (p1 := 484) (s_iald dL_same_483) ?_
      refine Sim.sq (p1 := 487) (s_callS (y := yL_balanced) (C_L_balanced l) kw547 kw548 kw14 kw549 ⟨by decide +kernel, by decide +kernel, by decide +kernel⟩ ⟨by decide, by decide⟩ dL_same_484) ?_
      refine Sim.sq (p1 := 495) (Sim.bk ?_) ?_
      · refine Sim.sq (p1 := 494) (Sim.bk ?_) ?_
        · refine Sim.sq (p1 := 490) (s_if_eq dL_same_487 (by decide) rfl) ?_
          refine Sim.sq (p1 := 491) (s_iconst (by decide +kernel) dL_same_490) ?_
          exact (s_goto dL_same_491 (by decide) rfl)
        exact (s_iconst (by decide +kernel) dL_same_494)
      refine Sim.sq (p1 := 498) (s_icmp_ne dL_same_495 (by decide) rfl) ?_
      refine Sim.sq (p1 := 499) (s_aload_n rfl dL_same_498) ?_
      refine Sim.sq (p1 := 502) (s_callV (C_X5_builds l) (rfl : vwCl[5]? = some (RX5, TX5, 11)) (by decide) kw610 kw611 kw612 kw15 kw613 ⟨rfl, by decide +kernel, by decide +kernel, by decide +kernel⟩ ⟨by decide, by decide⟩ shN5 dL_same_499) ?_
      refine Sim.sq (p1 := 504) (s_aload dL_same_502) ?_
      refine Sim.sq (p1 := 505) (s_iconst (by decide +kernel) dL_same_504) ?_
      refine Sim.sq (p1 := 506) (s_iald dL_same_505) ?_
      refine Sim.sq (p1 := 509) (s_icmp_ne dL_same_506 (by decide) rfl) ?_
      refine Sim.sq (p1 := 510) (s_aload_n rfl dL_same_509) ?_
      refine Sim.sq (p1 := 513) (s_callV (C_X5_ring l) (rfl : vwCl[5]? = some (RX5, TX5, 11)) (by decide) kw614 kw615 kw616 kw15 kw617 ⟨rfl, by decide +kernel, by decide +kernel, by decide +kernel⟩ ⟨by decide, by decide⟩ shN5 dL_same_510) ?_
      refine Sim.sq (p1 := 515) (s_aload dL_same_513) ?_
      refine Sim.sq (p1 := 517) (s_bipush (by decide +kernel) dL_same_515) ?_
      refine Sim.sq (p1 := 518) (s_iald dL_same_517) ?_
      refine Sim.sq (p1 := 521) (s_icmp_ne dL_same_518 (by decide) rfl) ?_
      refine Sim.sq (p1 := 522) (s_aload_n rfl dL_same_521) ?_
      refine Sim.sq (p1 := 523) (s_aload_n rfl dL_same_522) ?_
      refine Sim.sq (p1 := 525) (s_bipush (by decide +kernel) dL_same_523) ?_
      refine Sim.sq (p1 := 526) (s_iald dL_same_525) ?_
      refine Sim.sq (p1 := 527) (s_iconst (by decide +kernel) dL_same_526) ?_
      refine Sim.sq (p1 := 530) (s_callV (C_X5_leaf l) (rfl : vwCl[5]? = some (RX5, TX5, 11)) (by decide) kw553 kw554 kw555 kw15 kw556 ⟨rfl, by decide +kernel, by decide +kernel, by decide +kernel⟩ ⟨by decide, by decide⟩ shN5 dL_same_527) ?_
      refine Sim.sq (p1 := 531) (s_iconst (by decide +kernel) dL_same_530) ?_
      refine Sim.sq (p1 := 534) (s_icmp_ne dL_same_531 (by decide) rfl) ?_
      refine Sim.sq (p1 := 535) (s_aload_n rfl dL_same_534) ?_
      refine Sim.sq (p1 := 537) (s_aload dL_same_535) ?_
      refine Sim.sq (p1 := 539) (s_bipush (by decide +kernel) dL_same_537) ?_
      refine Sim.sq (p1 := 540) (s_iald dL_same_539) ?_
      refine Sim.sq (p1 := 543) (s_callV (C_X5_character l) (rfl : vwCl[5]? = some (RX5, TX5, 11)) (by decide) kw570 kw571 kw572 kw15 kw573 ⟨rfl, by decide +kernel, by decide +kernel, by decide +kernel⟩ ⟨by decide, by decide⟩ shN5 dL_same_540) ?_
      refine Sim.sq (p1 := 544) (s_iconst (by decide +kernel) dL_same_543) ?_
      refine Sim.sq (p1 := 547) (s_icmp_ne dL_same_544 (by decide) rfl) ?_
      refine Sim.sq (p1 := 548) (s_iconst (by decide +kernel) dL_same_547) ?_
      exact (s_goto dL_same_548 (by decide) rfl)
    exact (s_iconst (by decide +kernel) dL_same_551)
  exact (s_zret rfl dL_same_552)
set_option maxRecDepth 100000 in
set_option maxHeartbeats 4000000 in
theorem C_L_same (l : Launch) : Ct l yL_same cL_same 18 (some .boolean) 4 98 m_L_same := Ct_of (y := yL_same) (by decide +kernel) S_L_same
