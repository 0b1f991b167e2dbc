set_option maxRecDepth 100000 in
set_option maxHeartbeats 4000000 in
theorem S_X6_length {l : Launch} : Sim l (fun _ => True) RX6 "length" cX6_length 1 (some .int) 1 21 [] b_X6_length 0 6 := by
  unfold b_X6_length
  refine Sim.sq (p1 := 1) (s_aload_n rfl dX6_length_0) ?_
  refine Sim.sq (p1 := 2) (s_iconst (by decide +kernel) dX6_length_1) ?_
  refine Sim.sq (p1 := 5) (s_callV (C_X6_lengthOf l) (rfl : vwCl[6]? = some (RX6, TX6, 12)) (by decide) kw768 kw770 kw19 kw59 kw771 ⟨rfl, by decide +kernel, by decide +kernel, by decide +kernel⟩ ⟨by decide, by decide⟩ shN6 dX6_length_2) ?_
  exact (s_iret rfl dX6_length_5)
set_option maxRecDepth 100000 in
set_option maxHeartbeats 4000000 in
theorem C_X6_length (l : Launch) : Ct l yX6_length cX6_length 1 (some .int) 1 21 m_X6_length := Ct_of (y := yX6_length) (by decide +kernel) S_X6_length
set_option maxRecDepth 100000 in
set_option maxHeartbeats 4000000 in
theorem S_X6_depth {l : Launch} : Sim l (fun _ => True) RX6 "depth" cX6_depth 1 (some .int) 2 45 [] b_X6_depth 0 6 := by
  unfold b_X6_depth
  refine Sim.sq (p1 := 1) (s_aload_n rfl dX6_depth_0) ?_
  refine Sim.sq (p1 := 2) (s_iconst (by decide +kernel) dX6_depth_1) ?_
  refine Sim.sq (p1 := 5) (s_callV (C_X6_depthOf l) (rfl : vwCl[6]? = some (RX6, TX6, 12)) (by decide) kw859 kw861 kw41 kw59 kw862 ⟨rfl, by decide +kernel, by decide +kernel, by decide +kernel⟩ ⟨by decide, by decide⟩ shN6 dX6_depth_2) ?_
  exact (s_iret rfl dX6_depth_5)
set_option maxRecDepth 100000 in
set_option maxHeartbeats 4000000 in
theorem C_X6_depth (l : Launch) : Ct l yX6_depth cX6_depth 1 (some .int) 2 45 m_X6_depth := Ct_of (y := yX6_depth) (by decide +kernel) S_X6_depth
set_option maxRecDepth 100000 in
set_option maxHeartbeats 4000000 in
theorem S_X6_leaves {l : Launch} : Sim l (fun _ => True) RX6 "leaves" cX6_leaves 1 (some .int) 1 21 [] b_X6_leaves 0 6 := by
  unfold b_X6_leaves
  refine Sim.sq (p1 := 1) (s_aload_n rfl dX6_leaves_0) ?_
  refine Sim.sq (p1 := 2) (s_iconst (by decide +kernel) dX6_leaves_1) ?_
  refine Sim.sq (p1 := 5) (s_callV (C_X6_many l) (rfl : vwCl[6]? = some (RX6, TX6, 12)) (by decide) kw788 kw790 kw24 kw59 kw791 ⟨rfl, by decide +kernel, by decide +kernel, by decide +kernel⟩ ⟨by decide, by decide⟩ shN6 dX6_leaves_2) ?_
  exact (s_iret rfl dX6_leaves_5)
set_option maxRecDepth 100000 in
set_option maxHeartbeats 4000000 in
theorem C_X6_leaves (l : Launch) : Ct l yX6_leaves cX6_leaves 1 (some .int) 1 21 m_X6_leaves := Ct_of (y := yX6_leaves) (by decide +kernel) S_X6_leaves
set_option maxRecDepth 100000 in
set_option maxHeartbeats 4000000 in
theorem S_X5_isBalanced {l : Launch} : Sim l (fun _ => True) RX5 "isBalanced" cX5_isBalanced 1 (some .int) 2 47 [] b_X5_isBalanced 0 23 := by
  unfold b_X5_isBalanced
  refine Sim.sq (p1 := 1) (s_aload_n rfl dX5_isBalanced_0) ?_
  refine Sim.sq (p1 := 4) (s_getr (rfl : vwCl[5]? = some (RX5, TX5, 11)) (by decide) (by decide) inG5 kw230 rfl dX5_isBalanced_1) ?_
  refine Sim.sq (p1 := 5) (s_aload_n rfl dX5_isBalanced_4) ?_
  refine Sim.sq (p1 := 8) (s_getr (rfl : vwCl[5]? = some (RX5, TX5, 11)) (by decide) (by decide) inG5 kw234 rfl dX5_isBalanced_5) ?_
  refine Sim.sq (p1 := 11) (s_getiN (rfl : vwCl[2]? = some (RX2, TX2, 7)) (by decide) (by decide) inG2 kn192 rfl dX5_isBalanced_8) ?_
  refine Sim.sq (p1 := 14) (s_callV (C_X4_hasBalance l) (rfl : vwCl[4]? = some (RX4, TX4, 6)) (by decide) kw449 kw450 kw451 kw53 kw452 ⟨rfl, by decide +kernel, by decide +kernel, by decide +kernel⟩ ⟨by decide, by decide⟩ shN4 dX5_isBalanced_11) ?_
  refine Sim.sq (p1 := 22) (Sim.bk ?_) ?_
  · refine Sim.sq (p1 := 21) (Sim.bk ?_) ?_
    · refine Sim.sq (p1 := 17) (s_if_eq dX5_isBalanced_14 (by decide) rfl) ?_
      refine Sim.sq (p1 := 18) (s_iconst (by decide +kernel) dX5_isBalanced_17) ?_
      exact (s_goto dX5_isBalanced_18 (by decide) rfl)
    exact (s_iconst (by decide +kernel) dX5_isBalanced_21)
  exact (s_iret rfl dX5_isBalanced_22)
set_option maxRecDepth 100000 in
set_option maxHeartbeats 4000000 in
theorem C_X5_isBalanced (l : Launch) : Ct l yX5_isBalanced cX5_isBalanced 1 (some .int) 2 47 m_X5_isBalanced := Ct_of (y := yX5_isBalanced) (by decide +kernel) S_X5_isBalanced
set_option maxRecDepth 100000 in
set_option maxHeartbeats 4000000 in
theorem S_X6_isBalanced {l : Launch} : Sim l (fun _ => True) RX6 "isBalanced" cX6_isBalanced 1 (some .int) 3 70 [] b_X6_isBalanced 0 14 := by
  unfold b_X6_isBalanced
  refine Sim.sq (p1 := 1) (s_aload_n rfl dX6_isBalanced_0) ?_
  refine Sim.sq (p1 := 2) (s_iconst (by decide +kernel) dX6_isBalanced_1) ?_
  refine Sim.sq (p1 := 5) (s_callV (C_X6_hasEnough l) (rfl : vwCl[6]? = some (RX6, TX6, 12)) (by decide) kw855 kw857 kw40 kw59 kw858 ⟨rfl, by decide +kernel, by decide +kernel, by decide +kernel⟩ ⟨by decide, by decide⟩ shN6 dX6_isBalanced_2) ?_
  refine Sim.sq (p1 := 13) (Sim.bk ?_) ?_
  · refine Sim.sq (p1 := 12) (Sim.bk ?_) ?_
    · refine Sim.sq (p1 := 8) (s_if_eq dX6_isBalanced_5 (by decide) rfl) ?_
      refine Sim.sq (p1 := 9) (s_iconst (by decide +kernel) dX6_isBalanced_8) ?_
      exact (s_goto dX6_isBalanced_9 (by decide) rfl)
    exact (s_iconst (by decide +kernel) dX6_isBalanced_12)
  exact (s_iret rfl dX6_isBalanced_13)
set_option maxRecDepth 100000 in
set_option maxHeartbeats 4000000 in
theorem C_X6_isBalanced (l : Launch) : Ct l yX6_isBalanced cX6_isBalanced 1 (some .int) 3 70 m_X6_isBalanced := Ct_of (y := yX6_isBalanced) (by decide +kernel) S_X6_isBalanced
set_option maxRecDepth 100000 in
set_option maxHeartbeats 4000000 in
theorem S_X5_builds {l : Launch} : Sim l (fun _ => True) RX5 "builds" cX5_builds 1 (some .int) 0 0 [] b_X5_builds 0 8 := by
  unfold b_X5_builds
  refine Sim.sq (p1 := 1) (s_aload_n rfl dX5_builds_0) ?_
  refine Sim.sq (p1 := 4) (s_getr (rfl : vwCl[5]? = some (RX5, TX5, 11)) (by decide) (by decide) inG5 kw234 rfl dX5_builds_1) ?_
  refine Sim.sq (p1 := 7) (s_getiN (rfl : vwCl[2]? = some (RX2, TX2, 7)) (by decide) (by decide) inG2 kn194 rfl dX5_builds_4) ?_
  exact (s_iret rfl dX5_builds_7)
set_option maxRecDepth 100000 in
set_option maxHeartbeats 4000000 in
theorem C_X5_builds (l : Launch) : Ct l yX5_builds cX5_builds 1 (some .int) 0 0 m_X5_builds := Ct_of (y := yX5_builds) (by decide +kernel) S_X5_builds
set_option maxRecDepth 100000 in
set_option maxHeartbeats 4000000 in
theorem S_X6_builds {l : Launch} : Sim l (fun _ => True) RX6 "builds" cX6_builds 1 (some .int) 0 0 [] b_X6_builds 0 7 := by
  unfold b_X6_builds
  refine Sim.sq (p1 := 1) (s_aload_n rfl dX6_builds_0) ?_
  refine Sim.sq (p1 := 4) (s_getr (rfl : vwCl[6]? = some (RX6, TX6, 12)) (by decide) (by decide) inG6 kw701 rfl dX6_builds_1) ?_
  refine Sim.sq (p1 := 5) (s_iconst (by decide +kernel) dX6_builds_4) ?_
  refine Sim.sq (p1 := 6) (s_iald dX6_builds_5) ?_
  exact (s_iret rfl dX6_builds_6)
set_option maxRecDepth 100000 in
set_option maxHeartbeats 4000000 in
theorem C_X6_builds (l : Launch) : Ct l yX6_builds cX6_builds 1 (some .int) 0 0 m_X6_builds := Ct_of (y := yX6_builds) (by decide +kernel) S_X6_builds
set_option maxRecDepth 100000 in
set_option maxHeartbeats 4000000 in
theorem S_X4_codeAt {l : Launch} : Sim l (fun _ => True) RX4 "codeAt" cX4_codeAt 7 (some .int) 1 24 [] b_X4_codeAt 0 107 := by
  unfold b_X4_codeAt
  refine Sim.sq (p1 := 1) (s_iload_n rfl dX4_codeAt_0) ?_
  refine Sim.sq (p1 := 2) (s_istore_n rfl (by decide) dX4_codeAt_1) ?_
  refine Sim.sq (p1 := 3) (s_iload_n rfl dX4_codeAt_2) ?_
  refine Sim.sq (p1 := 5) (s_istore (by decide) dX4_codeAt_3) ?_
  refine Sim.sq (p1 := 6) (s_iconst (by decide +kernel) dX4_codeAt_5) ?_
  refine Sim.sq (p1 := 8) (s_istore (by decide) dX4_codeAt_6) ?_
  refine Sim.sq (p1 := 96) (Sim.lp ?_) ?_
  · refine Sim.sq (p1 := 10) (s_iload dX4_codeAt_8) ?_
    refine Sim.sq (p1 := 13) (s_sipush (by decide +kernel) dX4_codeAt_10) ?_
    refine Sim.bk ?_
    refine Sim.sq (p1 := 16) (s_icmp_ge dX4_codeAt_13 (by decide) rfl) ?_
    refine Sim.sq (p1 := 17) (s_aload_n rfl dX4_codeAt_16) ?_
    refine Sim.sq (p1 := 20) (s_getr (rfl : vwCl[4]? = some (RX4, TX4, 6)) (by decide) (by decide) inG4 kw117 rfl dX4_codeAt_17) ?_
    refine Sim.sq (p1 := 21) (s_iload_n rfl dX4_codeAt_20) ?_
    refine Sim.sq (p1 := 24) (s_callV (C_X1_isPair l) (rfl : vwCl[1]? = some (RX1, TX1, 10)) (by decide) kw396 kw397 kw398 kw54 kw399 ⟨rfl, by decide +kernel, by decide +kernel, by decide +kernel⟩ ⟨by decide, by decide⟩ shN1 dX4_codeAt_21) ?_
    refine Sim.sq (p1 := 27) (s_if_eq dX4_codeAt_24 (by decide) rfl) ?_
    refine Sim.sq (p1 := 28) (s_aload_n rfl dX4_codeAt_27) ?_
    refine Sim.sq (p1 := 31) (s_getr (rfl : vwCl[4]? = some (RX4, TX4, 6)) (by decide) (by decide) inG4 kw117 rfl dX4_codeAt_28) ?_
    refine Sim.sq (p1 := 32) (s_aload_n rfl dX4_codeAt_31) ?_
    refine Sim.sq (p1 := 35) (s_getr (rfl : vwCl[4]? = some (RX4, TX4, 6)) (by decide) (by decide) inG4 kw117 rfl dX4_codeAt_32) ?_
    refine Sim.sq (p1 := 36) (s_iload_n rfl dX4_codeAt_35) ?_
    refine Sim.sq (p1 := 39) (s_callV (C_X1_leftOf l) (rfl : vwCl[1]? = some (RX1, TX1, 10)) (by decide) kw400 kw401 kw402 kw54 kw403 ⟨rfl, by decide +kernel, by decide +kernel, by decide +kernel⟩ ⟨by decide, by decide⟩ shN1 dX4_codeAt_36) ?_
    refine Sim.sq (p1 := 42) (s_callV (C_X1_sizeOf l) (rfl : vwCl[1]? = some (RX1, TX1, 10)) (by decide) kw352 kw311 kw312 kw54 kw313 ⟨rfl, by decide +kernel, by decide +kernel, by decide +kernel⟩ ⟨by decide, by decide⟩ shN1 dX4_codeAt_39) ?_
    refine Sim.sq (p1 := 44) (s_istore (by decide) dX4_codeAt_42) ?_
    refine Sim.sq (p1 := 46) (s_iload dX4_codeAt_44) ?_
    refine Sim.sq (p1 := 48) (s_iload dX4_codeAt_46) ?_
    refine Sim.sq (p1 := 70) (Sim.bk ?_) ?_
    · refine Sim.sq (p1 := 62) (Sim.bk ?_) ?_
      · refine Sim.sq (p1 := 51) (s_icmp_ge dX4_codeAt_48 (by decide) rfl) ?_
        refine Sim.sq (p1 := 52) (s_aload_n rfl dX4_codeAt_51) ?_
        refine Sim.sq (p1 := 55) (s_getr (rfl : vwCl[4]? = some (RX4, TX4, 6)) (by decide) (by decide) inG4 kw117 rfl dX4_codeAt_52) ?_
        refine Sim.sq (p1 := 56) (s_iload_n rfl dX4_codeAt_55) ?_
        refine Sim.sq (p1 := 59) (s_callV (C_X1_leftOf l) (rfl : vwCl[1]? = some (RX1, TX1, 10)) (by decide) kw400 kw401 kw402 kw54 kw403 ⟨rfl, by decide +kernel, by decide +kernel, by decide +kernel⟩ ⟨by decide, by decide⟩ shN1 dX4_codeAt_56) ?_
        exact (s_goto dX4_codeAt_59 (by decide) rfl)
      refine Sim.sq (p1 := 63) (s_aload_n rfl dX4_codeAt_62) ?_
      refine Sim.sq (p1 := 66) (s_getr (rfl : vwCl[4]? = some (RX4, TX4, 6)) (by decide) (by decide) inG4 kw117 rfl dX4_codeAt_63) ?_
      refine Sim.sq (p1 := 67) (s_iload_n rfl dX4_codeAt_66) ?_
      exact (s_callV (C_X1_rightOf l) (rfl : vwCl[1]? = some (RX1, TX1, 10)) (by decide) kw404 kw405 kw406 kw54 kw407 ⟨rfl, by decide +kernel, by decide +kernel, by decide +kernel⟩ ⟨by decide, by decide⟩ shN1 dX4_codeAt_67)
    refine Sim.sq (p1 := 71) (s_istore_n rfl (by decide) dX4_codeAt_70) ?_
    refine Sim.sq (p1 := 73) (s_iload dX4_codeAt_71) ?_
    refine Sim.sq (p1 := 75) (s_iload dX4_codeAt_73) ?_
    refine Sim.sq (p1 := 88) (Sim.bk ?_) ?_
    · refine Sim.sq (p1 := 83) (Sim.bk ?_) ?_
      · refine Sim.sq (p1 := 78) (s_icmp_ge dX4_codeAt_75 (by decide) rfl) ?_
        refine Sim.sq (p1 := 80) (s_iload dX4_codeAt_78) ?_
        exact (s_goto dX4_codeAt_80 (by decide) rfl)
      refine Sim.sq (p1 := 85) (s_iload dX4_codeAt_83) ?_
      refine Sim.sq (p1 := 87) (s_iload dX4_codeAt_85) ?_
      exact (s_isub dX4_codeAt_87)
    refine Sim.sq (p1 := 90) (s_istore (by decide) dX4_codeAt_88) ?_
    refine Sim.sq (p1 := 93) (s_iinc (by decide +kernel) (by decide) dX4_codeAt_90) ?_
    exact (s_goto dX4_codeAt_93 (by decide) rfl)
  refine Sim.sq (p1 := 97) (s_aload_n rfl dX4_codeAt_96) ?_
  refine Sim.sq (p1 := 100) (s_getr (rfl : vwCl[4]? = some (RX4, TX4, 6)) (by decide) (by decide) inG4 kw117 rfl dX4_codeAt_97) ?_
  refine Sim.sq (p1 := 101) (s_iload_n rfl dX4_codeAt_100) ?_
  refine Sim.sq (p1 := 103) (s_iload dX4_codeAt_101) ?_
  refine Sim.sq (p1 := 106) (s_callV (C_X1_codeOf l) (rfl : vwCl[1]? = some (RX1, TX1, 10)) (by decide) kw564 kw417 kw418 kw54 kw419 ⟨rfl, by decide +kernel, by decide +kernel, by decide +kernel⟩ ⟨by decide, by decide⟩ shN1 dX4_codeAt_103) ?_
  exact (s_iret rfl dX4_codeAt_106)
set_option maxRecDepth 100000 in
set_option maxHeartbeats 4000000 in
theorem C_X4_codeAt (l : Launch) : Ct l yX4_codeAt cX4_codeAt 7 (some .int) 1 24 m_X4_codeAt := Ct_of (y := yX4_codeAt) (by decide +kernel) S_X4_codeAt
set_option maxRecDepth 100000 in
set_option maxHeartbeats 4000000 in
theorem S_X5_character {l : Launch} : Sim l (fun _ => True) RX5 "character" cX5_character 2 (some .int) 2 50 [] b_X5_character 0 30 := by
  unfold b_X5_character
  refine Sim.sq (p1 := 1) (s_iload_n rfl dX5_character_0) ?_
  refine Sim.sq (p1 := 14) (Sim.bk ?_) ?_
  · refine Sim.sq (p1 := 12) (Sim.bk ?_) ?_
    · refine Sim.sq (p1 := 4) (s_if_lt dX5_character_1 (by decide) rfl) ?_
      refine Sim.sq (p1 := 5) (s_iload_n rfl dX5_character_4) ?_
      refine Sim.sq (p1 := 6) (s_aload_n rfl dX5_character_5) ?_
      refine Sim.sq (p1 := 9) (s_callV (C_X5_length l) (rfl : vwCl[5]? = some (RX5, TX5, 11)) (by decide) kw306 kw307 kw308 kw52 kw309 ⟨rfl, by decide +kernel, by decide +kernel, by decide +kernel⟩ ⟨by decide, by decide⟩ shN5 dX5_character_6) ?_
      exact (s_icmp_lt dX5_character_9 (by decide) rfl)
    refine Sim.sq (p1 := 13) (s_iconst (by decide +kernel) dX5_character_12) ?_
    exact (s_iret rfl dX5_character_13)
  refine Sim.sq (p1 := 15) (s_aload_n rfl dX5_character_14) ?_
  refine Sim.sq (p1 := 18) (s_getr (rfl : vwCl[5]? = some (RX5, TX5, 11)) (by decide) (by decide) inG5 kw230 rfl dX5_character_15) ?_
  refine Sim.sq (p1 := 19) (s_aload_n rfl dX5_character_18) ?_
  refine Sim.sq (p1 := 22) (s_getr (rfl : vwCl[5]? = some (RX5, TX5, 11)) (by decide) (by decide) inG5 kw234 rfl dX5_character_19) ?_
  refine Sim.sq (p1 := 25) (s_getiN (rfl : vwCl[2]? = some (RX2, TX2, 7)) (by decide) (by decide) inG2 kn192 rfl dX5_character_22) ?_
  refine Sim.sq (p1 := 26) (s_iload_n rfl dX5_character_25) ?_
  refine Sim.sq (p1 := 29) (s_callV (C_X4_codeAt l) (rfl : vwCl[4]? = some (RX4, TX4, 6)) (by decide) kw560 kw561 kw562 kw53 kw563 ⟨rfl, by decide +kernel, by decide +kernel, by decide +kernel⟩ ⟨by decide, by decide⟩ shN4 dX5_character_26) ?_
  exact (s_iret rfl dX5_character_29)
set_option maxRecDepth 100000 in
set_option maxHeartbeats 4000000 in
theorem C_X5_character (l : Launch) : Ct l yX5_character cX5_character 2 (some .int) 2 50 m_X5_character := Ct_of (y := yX5_character) (by decide +kernel) S_X5_character
set_option maxRecDepth 100000 in
set_option maxHeartbeats 4000000 in
theorem S_X6_character {l : Launch} : Sim l (fun _ => True) RX6 "character" cX6_character 2 (some .int) 1 22 [] b_X6_character 0 26 := by
  unfold b_X6_character
  refine Sim.sq (p1 := 1) (s_iload_n rfl dX6_character_0) ?_
  refine Sim.sq (p1 := 2) (s_iconst (by decide +kernel) dX6_character_1) ?_
  refine Sim.sq (p1 := 3) (s_aload_n rfl dX6_character_2) ?_
  refine Sim.sq (p1 := 4) (s_iconst (by decide +kernel) dX6_character_3) ?_
  refine Sim.sq (p1 := 7) (s_callV (C_X6_lengthOf l) (rfl : vwCl[6]? = some (RX6, TX6, 12)) (by decide) kw768 kw770 kw19 kw59 kw771 ⟨rfl, by decide +kernel, by decide +kernel, by decide +kernel⟩ ⟨by decide, by decide⟩ shN6 dX6_character_4) ?_
  refine Sim.sq (p1 := 8) (s_iconst (by decide +kernel) dX6_character_7) ?_
  refine Sim.sq (p1 := 9) (s_isub dX6_character_8) ?_
  refine Sim.sq (p1 := 12) (s_callS (y := yX6_within) (C_X6_within l) kw741 kw742 kw59 kw743 ⟨by decide +kernel, by decide +kernel, by decide +kernel⟩ ⟨by decide, by decide⟩ dX6_character_9) ?_
  refine Sim.sq (p1 := 25) (Sim.bk ?_) ?_
  · refine Sim.sq (p1 := 24) (Sim.bk ?_) ?_
    · refine Sim.sq (p1 := 15) (s_if_eq dX6_character_12 (by decide) rfl) ?_
      refine Sim.sq (p1 := 16) (s_aload_n rfl dX6_character_15) ?_
      refine Sim.sq (p1 := 17) (s_iconst (by decide +kernel) dX6_character_16) ?_
      refine Sim.sq (p1 := 18) (s_iload_n rfl dX6_character_17) ?_
      refine Sim.sq (p1 := 21) (s_callV (C_X6_characterOf l) (rfl : vwCl[6]? = some (RX6, TX6, 12)) (by decide) kw823 kw825 kw32 kw59 kw826 ⟨rfl, by decide +kernel, by decide +kernel, by decide +kernel⟩ ⟨by decide, by decide⟩ shN6 dX6_character_18) ?_
      exact (s_goto dX6_character_21 (by decide) rfl)
    exact (s_iconst (by decide +kernel) dX6_character_24)
  exact (s_iret rfl dX6_character_25)
set_option maxRecDepth 100000 in
set_option maxHeartbeats 4000000 in
theorem C_X6_character (l : Launch) : Ct l yX6_character cX6_character 2 (some .int) 1 22 m_X6_character := Ct_of (y := yX6_character) (by decide +kernel) S_X6_character
set_option maxRecDepth 100000 in
set_option maxHeartbeats 4000000 in
theorem S_X3_startOfLeaf {l : Launch} : Sim l (fun _ => True) RX3 "startOfLeaf" cX3_startOfLeaf 2 (some .int) 0 0 [] b_X3_startOfLeaf 0 35 := by
  unfold b_X3_startOfLeaf
  refine Sim.sq (p1 := 1) (s_iload_n rfl dX3_startOfLeaf_0) ?_
  refine Sim.sq (p1 := 34) (Sim.bk ?_) ?_
  · refine Sim.sq (p1 := 30) (Sim.bk ?_) ?_
    · refine Sim.sq (p1 := 4) (s_if_lt dX3_startOfLeaf_1 (by decide) rfl) ?_
      refine Sim.sq (p1 := 5) (s_iload_n rfl dX3_startOfLeaf_4) ?_
      refine Sim.sq (p1 := 6) (s_aload_n rfl dX3_startOfLeaf_5) ?_
      refine Sim.sq (p1 := 9) (s_geti (rfl : vwCl[3]? = some (RX3, TX3, 8)) (by decide) (by decide) inG3 kw155 rfl dX3_startOfLeaf_6) ?_
      refine Sim.sq (p1 := 12) (s_icmp_ge dX3_startOfLeaf_9 (by decide) rfl) ?_
      refine Sim.sq (p1 := 13) (s_iload_n rfl dX3_startOfLeaf_12) ?_
      refine Sim.sq (p1 := 14) (s_aload_n rfl dX3_startOfLeaf_13) ?_
      refine Sim.sq (p1 := 17) (s_getr (rfl : vwCl[3]? = some (RX3, TX3, 8)) (by decide) (by decide) inG3 kw149 rfl dX3_startOfLeaf_14) ?_
      refine Sim.sq (p1 := 18) (s_alen dX3_startOfLeaf_17) ?_
      refine Sim.sq (p1 := 21) (s_icmp_ge dX3_startOfLeaf_18 (by decide) rfl) ?_
      refine Sim.sq (p1 := 22) (s_aload_n rfl dX3_startOfLeaf_21) ?_
      refine Sim.sq (p1 := 25) (s_getr (rfl : vwCl[3]? = some (RX3, TX3, 8)) (by decide) (by decide) inG3 kw149 rfl dX3_startOfLeaf_22) ?_
      refine Sim.sq (p1 := 26) (s_iload_n rfl dX3_startOfLeaf_25) ?_
      refine Sim.sq (p1 := 27) (s_iald dX3_startOfLeaf_26) ?_
      exact (s_goto dX3_startOfLeaf_27 (by decide) rfl)
    refine Sim.sq (p1 := 31) (s_aload_n rfl dX3_startOfLeaf_30) ?_
    exact (s_geti (rfl : vwCl[3]? = some (RX3, TX3, 8)) (by decide) (by decide) inG3 kw153 rfl dX3_startOfLeaf_31)
  exact (s_iret rfl dX3_startOfLeaf_34)
set_option maxRecDepth 100000 in
set_option maxHeartbeats 4000000 in
theorem C_X3_startOfLeaf (l : Launch) : Ct l yX3_startOfLeaf cX3_startOfLeaf 2 (some .int) 0 0 m_X3_startOfLeaf := Ct_of (y := yX3_startOfLeaf) (by decide +kernel) S_X3_startOfLeaf
set_option maxRecDepth 100000 in
set_option maxHeartbeats 4000000 in
theorem S_X3_sizeOfLeaf {l : Launch} : Sim l (fun _ => True) RX3 "sizeOfLeaf" cX3_sizeOfLeaf 2 (some .int) 1 21 [] b_X3_sizeOfLeaf 0 14 := by
  unfold b_X3_sizeOfLeaf
  refine Sim.sq (p1 := 1) (s_aload_n rfl dX3_sizeOfLeaf_0) ?_
  refine Sim.sq (p1 := 2) (s_iload_n rfl dX3_sizeOfLeaf_1) ?_
  refine Sim.sq (p1 := 3) (s_iconst (by decide +kernel) dX3_sizeOfLeaf_2) ?_
  refine Sim.sq (p1 := 4) (s_iadd dX3_sizeOfLeaf_3) ?_
  refine Sim.sq (p1 := 7) (s_callV (C_X3_startOfLeaf l) (rfl : vwCl[3]? = some (RX3, TX3, 8)) (by decide) kw577 kw570 kw571 kw55 kw572 ⟨rfl, by decide +kernel, by decide +kernel, by decide +kernel⟩ ⟨by decide, by decide⟩ shN3 dX3_sizeOfLeaf_4) ?_
  refine Sim.sq (p1 := 8) (s_aload_n rfl dX3_sizeOfLeaf_7) ?_
  refine Sim.sq (p1 := 9) (s_iload_n rfl dX3_sizeOfLeaf_8) ?_
  refine Sim.sq (p1 := 12) (s_callV (C_X3_startOfLeaf l) (rfl : vwCl[3]? = some (RX3, TX3, 8)) (by decide) kw577 kw570 kw571 kw55 kw572 ⟨rfl, by decide +kernel, by decide +kernel, by decide +kernel⟩ ⟨by decide, by decide⟩ shN3 dX3_sizeOfLeaf_9) ?_
  refine Sim.sq (p1 := 13) (s_isub dX3_sizeOfLeaf_12) ?_
  exact (s_iret rfl dX3_sizeOfLeaf_13)
set_option maxRecDepth 100000 in
set_option maxHeartbeats 4000000 in
theorem C_X3_sizeOfLeaf (l : Launch) : Ct l yX3_sizeOfLeaf cX3_sizeOfLeaf 2 (some .int) 1 21 m_X3_sizeOfLeaf := Ct_of (y := yX3_sizeOfLeaf) (by decide +kernel) S_X3_sizeOfLeaf
set_option maxRecDepth 100000 in
set_option maxHeartbeats 4000000 in
theorem S_X3_levelOfLeaf {l : Launch} : Sim l (fun _ => True) RX3 "levelOfLeaf" cX3_levelOfLeaf 2 (some .int) 0 0 [] b_X3_levelOfLeaf 0 32 := by
  unfold b_X3_levelOfLeaf
  refine Sim.sq (p1 := 1) (s_iload_n rfl dX3_levelOfLeaf_0) ?_
  refine Sim.sq (p1 := 31) (Sim.bk ?_) ?_
  · refine Sim.sq (p1 := 30) (Sim.bk ?_) ?_
    · refine Sim.sq (p1 := 4) (s_if_lt dX3_levelOfLeaf_1 (by decide) rfl) ?_
      refine Sim.sq (p1 := 5) (s_iload_n rfl dX3_levelOfLeaf_4) ?_
      refine Sim.sq (p1 := 6) (s_aload_n rfl dX3_levelOfLeaf_5) ?_
      refine Sim.sq (p1 := 9) (s_geti (rfl : vwCl[3]? = some (RX3, TX3, 8)) (by decide) (by decide) inG3 kw155 rfl dX3_levelOfLeaf_6) ?_
      refine Sim.sq (p1 := 12) (s_icmp_ge dX3_levelOfLeaf_9 (by decide) rfl) ?_
      refine Sim.sq (p1 := 13) (s_iload_n rfl dX3_levelOfLeaf_12) ?_
      refine Sim.sq (p1 := 14) (s_aload_n rfl dX3_levelOfLeaf_13) ?_
      refine Sim.sq (p1 := 17) (s_getr (rfl : vwCl[3]? = some (RX3, TX3, 8)) (by decide) (by decide) inG3 kw150 rfl dX3_levelOfLeaf_14) ?_
      refine Sim.sq (p1 := 18) (s_alen dX3_levelOfLeaf_17) ?_
      refine Sim.sq (p1 := 21) (s_icmp_ge dX3_levelOfLeaf_18 (by decide) rfl) ?_
      refine Sim.sq (p1 := 22) (s_aload_n rfl dX3_levelOfLeaf_21) ?_
      refine Sim.sq (p1 := 25) (s_getr (rfl : vwCl[3]? = some (RX3, TX3, 8)) (by decide) (by decide) inG3 kw150 rfl dX3_levelOfLeaf_22) ?_
      refine Sim.sq (p1 := 26) (s_iload_n rfl dX3_levelOfLeaf_25) ?_
      refine Sim.sq (p1 := 27) (s_iald dX3_levelOfLeaf_26) ?_
      exact (s_goto dX3_levelOfLeaf_27 (by decide) rfl)
    exact (s_iconst (by decide +kernel) dX3_levelOfLeaf_30)
  exact (s_iret rfl dX3_levelOfLeaf_31)
set_option maxRecDepth 100000 in
set_option maxHeartbeats 4000000 in
theorem C_X3_levelOfLeaf (l : Launch) : Ct l yX3_levelOfLeaf cX3_levelOfLeaf 2 (some .int) 0 0 m_X3_levelOfLeaf := Ct_of (y := yX3_levelOfLeaf) (by decide +kernel) S_X3_levelOfLeaf
set_option maxRecDepth 100000 in
set_option maxHeartbeats 4000000 in
theorem S_X5_leaf {l : Launch} : Sim l (fun _ => True) RX5 "leaf" cX5_leaf 3 (some .int) 3 75 [] b_X5_leaf 0 94 := by
  unfold b_X5_leaf
  refine Sim.sq (p1 := 1) (s_aload_n rfl dX5_leaf_0) ?_
  refine Sim.sq (p1 := 4) (s_getr (rfl : vwCl[5]? = some (RX5, TX5, 11)) (by decide) (by decide) inG5 kw232 rfl dX5_leaf_1) ?_
  refine Sim.sq (p1 := 5) (s_aload_n rfl dX5_leaf_4) ?_
  refine Sim.sq (p1 := 8) (s_getr (rfl : vwCl[5]? = some (RX5, TX5, 11)) (by decide) (by decide) inG5 kw231 rfl dX5_leaf_5) ?_
  refine Sim.sq (p1 := 9) (s_aload_n rfl dX5_leaf_8) ?_
  refine Sim.sq (p1 := 12) (s_getr (rfl : vwCl[5]? = some (RX5, TX5, 11)) (by decide) (by decide) inG5 kw234 rfl dX5_leaf_9) ?_
  refine Sim.sq (p1 := 15) (s_getiN (rfl : vwCl[2]? = some (RX2, TX2, 7)) (by decide) (by decide) inG2 kn192 rfl dX5_leaf_12) ?_
  refine Sim.sq (p1 := 18) (s_callV (C_X3_read l) (rfl : vwCl[3]? = some (RX3, TX3, 8)) (by decide) kw458 kw459 kw460 kw55 kw461 ⟨rfl, by decide +kernel, by decide +kernel, by decide +kernel⟩ ⟨by decide, by decide⟩ shN3 dX5_leaf_15) ?_
  refine Sim.sq (p1 := 19) (s_iload_n rfl dX5_leaf_18) ?_
  refine Sim.sq (p1 := 35) (Sim.bk ?_) ?_
  · refine Sim.sq (p1 := 33) (Sim.bk ?_) ?_
    · refine Sim.sq (p1 := 22) (s_if_lt dX5_leaf_19 (by decide) rfl) ?_
      refine Sim.sq (p1 := 23) (s_iload_n rfl dX5_leaf_22) ?_
      refine Sim.sq (p1 := 24) (s_aload_n rfl dX5_leaf_23) ?_
      refine Sim.sq (p1 := 27) (s_getr (rfl : vwCl[5]? = some (RX5, TX5, 11)) (by decide) (by decide) inG5 kw232 rfl dX5_leaf_24) ?_
      refine Sim.sq (p1 := 30) (s_getiN (rfl : vwCl[3]? = some (RX3, TX3, 8)) (by decide) (by decide) inG3 kn156 rfl dX5_leaf_27) ?_
      exact (s_icmp_lt dX5_leaf_30 (by decide) rfl)
    refine Sim.sq (p1 := 34) (s_iconst (by decide +kernel) dX5_leaf_33) ?_
    exact (s_iret rfl dX5_leaf_34)
  refine Sim.sq (p1 := 36) (s_iload_n rfl dX5_leaf_35) ?_
  refine Sim.sq (p1 := 91) (Sim.bk ?_) ?_
  · refine Sim.sq (p1 := 82) (Sim.bk ?_) ?_
    · refine Sim.sq (p1 := 73) (Sim.bk ?_) ?_
      · refine Sim.sq (p1 := 64) (Sim.bk ?_) ?_
        · exact (s_tsw dX5_leaf_36 ⟨_, rfl, by decide⟩ (by decide +kernel))
        refine Sim.sq (p1 := 65) (s_aload_n rfl dX5_leaf_64) ?_
        refine Sim.sq (p1 := 68) (s_getr (rfl : vwCl[5]? = some (RX5, TX5, 11)) (by decide) (by decide) inG5 kw232 rfl dX5_leaf_65) ?_
        refine Sim.sq (p1 := 69) (s_iload_n rfl dX5_leaf_68) ?_
        refine Sim.sq (p1 := 72) (s_callV (C_X3_startOfLeaf l) (rfl : vwCl[3]? = some (RX3, TX3, 8)) (by decide) kw569 kw570 kw571 kw55 kw572 ⟨rfl, by decide +kernel, by decide +kernel, by decide +kernel⟩ ⟨by decide, by decide⟩ shN3 dX5_leaf_69) ?_
        exact (s_iret rfl dX5_leaf_72)
      refine Sim.sq (p1 := 74) (s_aload_n rfl dX5_leaf_73) ?_
      refine Sim.sq (p1 := 77) (s_getr (rfl : vwCl[5]? = some (RX5, TX5, 11)) (by decide) (by decide) inG5 kw232 rfl dX5_leaf_74) ?_
      refine Sim.sq (p1 := 78) (s_iload_n rfl dX5_leaf_77) ?_
      refine Sim.sq (p1 := 81) (s_callV (C_X3_sizeOfLeaf l) (rfl : vwCl[3]? = some (RX3, TX3, 8)) (by decide) kw573 kw574 kw575 kw55 kw576 ⟨rfl, by decide +kernel, by decide +kernel, by decide +kernel⟩ ⟨by decide, by decide⟩ shN3 dX5_leaf_78) ?_
      exact (s_iret rfl dX5_leaf_81)
    refine Sim.sq (p1 := 83) (s_aload_n rfl dX5_leaf_82) ?_
    refine Sim.sq (p1 := 86) (s_getr (rfl : vwCl[5]? = some (RX5, TX5, 11)) (by decide) (by decide) inG5 kw232 rfl dX5_leaf_83) ?_
    refine Sim.sq (p1 := 87) (s_iload_n rfl dX5_leaf_86) ?_
    refine Sim.sq (p1 := 90) (s_callV (C_X3_levelOfLeaf l) (rfl : vwCl[3]? = some (RX3, TX3, 8)) (by decide) kw578 kw579 kw580 kw55 kw581 ⟨rfl, by decide +kernel, by decide +kernel, by decide +kernel⟩ ⟨by decide, by decide⟩ shN3 dX5_leaf_87) ?_
    exact (s_iret rfl dX5_leaf_90)
  refine Sim.sq (p1 := 93) (s_bipush (by decide +kernel) dX5_leaf_91) ?_
  exact (s_iret rfl dX5_leaf_93)
set_option maxRecDepth 100000 in
set_option maxHeartbeats 4000000 in
theorem C_X5_leaf (l : Launch) : Ct l yX5_leaf cX5_leaf 3 (some .int) 3 75 m_X5_leaf := Ct_of (y := yX5_leaf) (by decide +kernel) S_X5_leaf
set_option maxRecDepth 100000 in
set_option maxHeartbeats 4000000 in
theorem S_X6_leaf {l : Launch} : Sim l (fun _ => True) RX6 "leaf" cX6_leaf 3 (some .int) 2 46 [] b_X6_leaf 0 61 := by
  unfold b_X6_leaf
  refine Sim.sq (p1 := 1) (s_iload_n rfl dX6_leaf_0) ?_
  refine Sim.sq (p1 := 2) (s_iconst (by decide +kernel) dX6_leaf_1) ?_
  refine Sim.sq (p1 := 3) (s_aload_n rfl dX6_leaf_2) ?_
  refine Sim.sq (p1 := 4) (s_iconst (by decide +kernel) dX6_leaf_3) ?_
  refine Sim.sq (p1 := 7) (s_callV (C_X6_many l) (rfl : vwCl[6]? = some (RX6, TX6, 12)) (by decide) kw788 kw790 kw24 kw59 kw791 ⟨rfl, by decide +kernel, by decide +kernel, by decide +kernel⟩ ⟨by decide, by decide⟩ shN6 dX6_leaf_4) ?_
  refine Sim.sq (p1 := 8) (s_iconst (by decide +kernel) dX6_leaf_7) ?_
  refine Sim.sq (p1 := 9) (s_isub dX6_leaf_8) ?_
  refine Sim.sq (p1 := 12) (s_callS (y := yX6_within) (C_X6_within l) kw741 kw742 kw59 kw743 ⟨by decide +kernel, by decide +kernel, by decide +kernel⟩ ⟨by decide, by decide⟩ dX6_leaf_9) ?_
  refine Sim.sq (p1 := 17) (Sim.bk ?_) ?_
  · refine Sim.sq (p1 := 15) (s_if_ne dX6_leaf_12 (by decide) rfl) ?_
    refine Sim.sq (p1 := 16) (s_iconst (by decide +kernel) dX6_leaf_15) ?_
    exact (s_iret rfl dX6_leaf_16)
  refine Sim.sq (p1 := 18) (s_iload_n rfl dX6_leaf_17) ?_
  refine Sim.sq (p1 := 60) (Sim.bk ?_) ?_
  · refine Sim.sq (p1 := 30) (Sim.bk ?_) ?_
    · refine Sim.sq (p1 := 21) (s_if_ne dX6_leaf_18 (by decide) rfl) ?_
      refine Sim.sq (p1 := 22) (s_aload_n rfl dX6_leaf_21) ?_
      refine Sim.sq (p1 := 23) (s_iconst (by decide +kernel) dX6_leaf_22) ?_
      refine Sim.sq (p1 := 24) (s_iload_n rfl dX6_leaf_23) ?_
      refine Sim.sq (p1 := 27) (s_callV (C_X6_startOf l) (rfl : vwCl[6]? = some (RX6, TX6, 12)) (by decide) kw811 kw813 kw29 kw59 kw814 ⟨rfl, by decide +kernel, by decide +kernel, by decide +kernel⟩ ⟨by decide, by decide⟩ shN6 dX6_leaf_24) ?_
      exact (s_goto dX6_leaf_27 (by decide) rfl)
    refine Sim.sq (p1 := 31) (s_iload_n rfl dX6_leaf_30) ?_
    refine Sim.sq (p1 := 32) (s_iconst (by decide +kernel) dX6_leaf_31) ?_
    refine Sim.sq (p1 := 44) (Sim.bk ?_) ?_
    · refine Sim.sq (p1 := 35) (s_icmp_ne dX6_leaf_32 (by decide) rfl) ?_
      refine Sim.sq (p1 := 36) (s_aload_n rfl dX6_leaf_35) ?_
      refine Sim.sq (p1 := 37) (s_iconst (by decide +kernel) dX6_leaf_36) ?_
      refine Sim.sq (p1 := 38) (s_iload_n rfl dX6_leaf_37) ?_
      refine Sim.sq (p1 := 41) (s_callV (C_X6_sizeOf l) (rfl : vwCl[6]? = some (RX6, TX6, 12)) (by decide) kw815 kw817 kw30 kw59 kw818 ⟨rfl, by decide +kernel, by decide +kernel, by decide +kernel⟩ ⟨by decide, by decide⟩ shN6 dX6_leaf_38) ?_
      exact (s_goto dX6_leaf_41 (by decide) rfl)
    refine Sim.sq (p1 := 45) (s_iload_n rfl dX6_leaf_44) ?_
    refine Sim.sq (p1 := 46) (s_iconst (by decide +kernel) dX6_leaf_45) ?_
    refine Sim.sq (p1 := 58) (Sim.bk ?_) ?_
    · refine Sim.sq (p1 := 49) (s_icmp_ne dX6_leaf_46 (by decide) rfl) ?_
      refine Sim.sq (p1 := 50) (s_aload_n rfl dX6_leaf_49) ?_
      refine Sim.sq (p1 := 51) (s_iconst (by decide +kernel) dX6_leaf_50) ?_
      refine Sim.sq (p1 := 52) (s_iload_n rfl dX6_leaf_51) ?_
      refine Sim.sq (p1 := 55) (s_callV (C_X6_levelOf l) (rfl : vwCl[6]? = some (RX6, TX6, 12)) (by decide) kw831 kw833 kw34 kw59 kw834 ⟨rfl, by decide +kernel, by decide +kernel, by decide +kernel⟩ ⟨by decide, by decide⟩ shN6 dX6_leaf_52) ?_
      exact (s_goto dX6_leaf_55 (by decide) rfl)
    exact (s_bipush (by decide +kernel) dX6_leaf_58)
  exact (s_iret rfl dX6_leaf_60)
set_option maxRecDepth 100000 in
set_option maxHeartbeats 4000000 in
theorem C_X6_leaf (l : Launch) : Ct l yX6_leaf cX6_leaf 3 (some .int) 2 46 m_X6_leaf := Ct_of (y := yX6_leaf) (by decide +kernel) S_X6_leaf
set_option maxRecDepth 100000 in
set_option maxHeartbeats 4000000 in
theorem S_X4_wayTo {l : Launch} : Sim l (fun _ => True) RX4 "wayTo" cX4_wayTo 9 (some .int) 1 21 [] b_X4_wayTo 0 129 := by
  unfold b_X4_wayTo
  refine Sim.sq (p1 := 1) (s_iload_n rfl dX4_wayTo_0) ?_
  refine Sim.sq (p1 := 2) (s_istore_n rfl (by decide) dX4_wayTo_1) ?_
  refine Sim.sq (p1 := 3) (s_iload_n rfl dX4_wayTo_2) ?_
  refine Sim.sq (p1 := 5) (s_istore (by decide) dX4_wayTo_3) ?_
  refine Sim.sq (p1 := 6) (s_lconst (by decide +kernel) dX4_wayTo_5) ?_
  refine Sim.sq (p1 := 8) (s_lstore (by decide) dX4_wayTo_6) ?_
  refine Sim.sq (p1 := 9) (s_iconst (by decide +kernel) dX4_wayTo_8) ?_
  refine Sim.sq (p1 := 11) (s_istore (by decide) dX4_wayTo_9) ?_
  refine Sim.sq (p1 := 125) (Sim.lp ?_) ?_
  · refine Sim.sq (p1 := 13) (s_iload dX4_wayTo_11) ?_
    refine Sim.sq (p1 := 16) (s_sipush (by decide +kernel) dX4_wayTo_13) ?_
    refine Sim.bk ?_
    refine Sim.sq (p1 := 19) (s_icmp_ge dX4_wayTo_16 (by decide) rfl) ?_
    refine Sim.sq (p1 := 20) (s_aload_n rfl dX4_wayTo_19) ?_
    refine Sim.sq (p1 := 23) (s_getr (rfl : vwCl[4]? = some (RX4, TX4, 6)) (by decide) (by decide) inG4 kw117 rfl dX4_wayTo_20) ?_
    refine Sim.sq (p1 := 24) (s_iload_n rfl dX4_wayTo_23) ?_
    refine Sim.sq (p1 := 27) (s_callV (C_X1_isPair l) (rfl : vwCl[1]? = some (RX1, TX1, 10)) (by decide) kw396 kw397 kw398 kw54 kw399 ⟨rfl, by decide +kernel, by decide +kernel, by decide +kernel⟩ ⟨by decide, by decide⟩ shN1 dX4_wayTo_24) ?_
    refine Sim.sq (p1 := 30) (s_if_eq dX4_wayTo_27 (by decide) rfl) ?_
    refine Sim.sq (p1 := 31) (s_aload_n rfl dX4_wayTo_30) ?_
    refine Sim.sq (p1 := 34) (s_getr (rfl : vwCl[4]? = some (RX4, TX4, 6)) (by decide) (by decide) inG4 kw117 rfl dX4_wayTo_31) ?_
    refine Sim.sq (p1 := 35) (s_aload_n rfl dX4_wayTo_34) ?_
    refine Sim.sq (p1 := 38) (s_getr (rfl : vwCl[4]? = some (RX4, TX4, 6)) (by decide) (by decide) inG4 kw117 rfl dX4_wayTo_35) ?_
    refine Sim.sq (p1 := 39) (s_iload_n rfl dX4_wayTo_38) ?_
    refine Sim.sq (p1 := 42) (s_callV (C_X1_leftOf l) (rfl : vwCl[1]? = some (RX1, TX1, 10)) (by decide) kw400 kw401 kw402 kw54 kw403 ⟨rfl, by decide +kernel, by decide +kernel, by decide +kernel⟩ ⟨by decide, by decide⟩ shN1 dX4_wayTo_39) ?_
    refine Sim.sq (p1 := 45) (s_callV (C_X1_sizeOf l) (rfl : vwCl[1]? = some (RX1, TX1, 10)) (by decide) kw352 kw311 kw312 kw54 kw313 ⟨rfl, by decide +kernel, by decide +kernel, by decide +kernel⟩ ⟨by decide, by decide⟩ shN1 dX4_wayTo_42) ?_
    refine Sim.sq (p1 := 47) (s_istore (by decide) dX4_wayTo_45) ?_
    refine Sim.sq (p1 := 50) (s_ldc2 kw590 dX4_wayTo_47) ?_
    refine Sim.sq (p1 := 52) (s_lload dX4_wayTo_50) ?_
    refine Sim.sq (p1 := 53) (s_lmul dX4_wayTo_52) ?_
    refine Sim.sq (p1 := 55) (s_iload dX4_wayTo_53) ?_
    refine Sim.sq (p1 := 57) (s_iload dX4_wayTo_55) ?_
    refine Sim.sq (p1 := 65) (Sim.bk ?_) ?_
    · refine Sim.sq (p1 := 64) (Sim.bk ?_) ?_
      · refine Sim.sq (p1 := 60) (s_icmp_ge dX4_wayTo_57 (by decide) rfl) ?_
        refine Sim.sq (p1 := 61) (s_iconst (by decide +kernel) dX4_wayTo_60) ?_
        exact (s_goto dX4_wayTo_61 (by decide) rfl)
      exact (s_iconst (by decide +kernel) dX4_wayTo_64)
    refine Sim.sq (p1 := 66) (s_i2l dX4_wayTo_65) ?_
    refine Sim.sq (p1 := 67) (s_ladd dX4_wayTo_66) ?_
    refine Sim.sq (p1 := 70) (s_ldc2 kw591 dX4_wayTo_67) ?_
    refine Sim.sq (p1 := 71) (s_lrem dX4_wayTo_70) ?_
    refine Sim.sq (p1 := 73) (s_lstore (by decide) dX4_wayTo_71) ?_
    refine Sim.sq (p1 := 75) (s_iload dX4_wayTo_73) ?_
    refine Sim.sq (p1 := 77) (s_iload dX4_wayTo_75) ?_
    refine Sim.sq (p1 := 99) (Sim.bk ?_) ?_
    · refine Sim.sq (p1 := 91) (Sim.bk ?_) ?_
      · refine Sim.sq (p1 := 80) (s_icmp_ge dX4_wayTo_77 (by decide) rfl) ?_
        refine Sim.sq (p1 := 81) (s_aload_n rfl dX4_wayTo_80) ?_
        refine Sim.sq (p1 := 84) (s_getr (rfl : vwCl[4]? = some (RX4, TX4, 6)) (by decide) (by decide) inG4 kw117 rfl dX4_wayTo_81) ?_
        refine Sim.sq (p1 := 85) (s_iload_n rfl dX4_wayTo_84) ?_
        refine Sim.sq (p1 := 88) (s_callV (C_X1_leftOf l) (rfl : vwCl[1]? = some (RX1, TX1, 10)) (by decide) kw400 kw401 kw402 kw54 kw403 ⟨rfl, by decide +kernel, by decide +kernel, by decide +kernel⟩ ⟨by decide, by decide⟩ shN1 dX4_wayTo_85) ?_
        exact (s_goto dX4_wayTo_88 (by decide) rfl)
      refine Sim.sq (p1 := 92) (s_aload_n rfl dX4_wayTo_91) ?_
      refine Sim.sq (p1 := 95) (s_getr (rfl : vwCl[4]? = some (RX4, TX4, 6)) (by decide) (by decide) inG4 kw117 rfl dX4_wayTo_92) ?_
      refine Sim.sq (p1 := 96) (s_iload_n rfl dX4_wayTo_95) ?_
      exact (s_callV (C_X1_rightOf l) (rfl : vwCl[1]? = some (RX1, TX1, 10)) (by decide) kw404 kw405 kw406 kw54 kw407 ⟨rfl, by decide +kernel, by decide +kernel, by decide +kernel⟩ ⟨by decide, by decide⟩ shN1 dX4_wayTo_96)
    refine Sim.sq (p1 := 100) (s_istore_n rfl (by decide) dX4_wayTo_99) ?_
    refine Sim.sq (p1 := 102) (s_iload dX4_wayTo_100) ?_
    refine Sim.sq (p1 := 104) (s_iload dX4_wayTo_102) ?_
    refine Sim.sq (p1 := 117) (Sim.bk ?_) ?_
    · refine Sim.sq (p1 := 112) (Sim.bk ?_) ?_
      · refine Sim.sq (p1 := 107) (s_icmp_ge dX4_wayTo_104 (by decide) rfl) ?_
        refine Sim.sq (p1 := 109) (s_iload dX4_wayTo_107) ?_
        exact (s_goto dX4_wayTo_109 (by decide) rfl)
      refine Sim.sq (p1 := 114) (s_iload dX4_wayTo_112) ?_
      refine Sim.sq (p1 := 116) (s_iload dX4_wayTo_114) ?_
      exact (s_isub dX4_wayTo_116)
    refine Sim.sq (p1 := 119) (s_istore (by decide) dX4_wayTo_117) ?_
    refine Sim.sq (p1 := 122) (s_iinc (by decide +kernel) (by decide) dX4_wayTo_119) ?_
    exact (s_goto dX4_wayTo_122 (by decide) rfl)
  refine Sim.sq (p1 := 127) (s_lload dX4_wayTo_125) ?_
  refine Sim.sq (p1 := 128) (s_l2i dX4_wayTo_127) ?_
  exact (s_iret rfl dX4_wayTo_128)
set_option maxRecDepth 100000 in
set_option maxHeartbeats 4000000 in
theorem C_X4_wayTo (l : Launch) : Ct l yX4_wayTo cX4_wayTo 9 (some .int) 1 21 m_X4_wayTo := Ct_of (y := yX4_wayTo) (by decide +kernel) S_X4_wayTo
set_option maxRecDepth 100000 in
set_option maxHeartbeats 4000000 in
theorem S_X5_way {l : Launch} : Sim l (fun _ => True) RX5 "way" cX5_way 2 (some .int) 2 49 [] b_X5_way 0 30 := by
  unfold b_X5_way
  refine Sim.sq (p1 := 1) (s_iload_n rfl dX5_way_0) ?_
  refine Sim.sq (p1 := 14) (Sim.bk ?_) ?_
  · refine Sim.sq (p1 := 12) (Sim.bk ?_) ?_
    · refine Sim.sq (p1 := 4) (s_if_lt dX5_way_1 (by decide) rfl) ?_
      refine Sim.sq (p1 := 5) (s_iload_n rfl dX5_way_4) ?_
      refine Sim.sq (p1 := 6) (s_aload_n rfl dX5_way_5) ?_
      refine Sim.sq (p1 := 9) (s_callV (C_X5_length l) (rfl : vwCl[5]? = some (RX5, TX5, 11)) (by decide) kw306 kw307 kw308 kw52 kw309 ⟨rfl, by decide +kernel, by decide +kernel, by decide +kernel⟩ ⟨by decide, by decide⟩ shN5 dX5_way_6) ?_
      exact (s_icmp_lt dX5_way_9 (by decide) rfl)
    refine Sim.sq (p1 := 13) (s_iconst (by decide +kernel) dX5_way_12) ?_
    exact (s_iret rfl dX5_way_13)
  refine Sim.sq (p1 := 15) (s_aload_n rfl dX5_way_14) ?_
  refine Sim.sq (p1 := 18) (s_getr (rfl : vwCl[5]? = some (RX5, TX5, 11)) (by decide) (by decide) inG5 kw230 rfl dX5_way_15) ?_
  refine Sim.sq (p1 := 19) (s_aload_n rfl dX5_way_18) ?_
  refine Sim.sq (p1 := 22) (s_getr (rfl : vwCl[5]? = some (RX5, TX5, 11)) (by decide) (by decide) inG5 kw234 rfl dX5_way_19) ?_
  refine Sim.sq (p1 := 25) (s_getiN (rfl : vwCl[2]? = some (RX2, TX2, 7)) (by decide) (by decide) inG2 kn192 rfl dX5_way_22) ?_
  refine Sim.sq (p1 := 26) (s_iload_n rfl dX5_way_25) ?_
  refine Sim.sq (p1 := 29) (s_callV (C_X4_wayTo l) (rfl : vwCl[4]? = some (RX4, TX4, 6)) (by decide) kw586 kw587 kw588 kw53 kw589 ⟨rfl, by decide +kernel, by decide +kernel, by decide +kernel⟩ ⟨by decide, by decide⟩ shN4 dX5_way_26) ?_
  exact (s_iret rfl dX5_way_29)
set_option maxRecDepth 100000 in
set_option maxHeartbeats 4000000 in
theorem C_X5_way (l : Launch) : Ct l yX5_way cX5_way 2 (some .int) 2 49 m_X5_way := Ct_of (y := yX5_way) (by decide +kernel) S_X5_way
set_option maxRecDepth 100000 in
set_option maxHeartbeats 4000000 in
theorem S_X6_way {l : Launch} : Sim l (fun _ => True) RX6 "way" cX6_way 9 (some .int) 2 49 [] b_X6_way 0 123 := by
  unfold b_X6_way
  refine Sim.sq (p1 := 1) (s_iload_n rfl dX6_way_0) ?_
  refine Sim.sq (p1 := 2) (s_iconst (by decide +kernel) dX6_way_1) ?_
  refine Sim.sq (p1 := 3) (s_aload_n rfl dX6_way_2) ?_
  refine Sim.sq (p1 := 4) (s_iconst (by decide +kernel) dX6_way_3) ?_
  refine Sim.sq (p1 := 7) (s_callV (C_X6_lengthOf l) (rfl : vwCl[6]? = some (RX6, TX6, 12)) (by decide) kw768 kw770 kw19 kw59 kw771 ⟨rfl, by decide +kernel, by decide +kernel, by decide +kernel⟩ ⟨by decide, by decide⟩ shN6 dX6_way_4) ?_
  refine Sim.sq (p1 := 8) (s_iconst (by decide +kernel) dX6_way_7) ?_
  refine Sim.sq (p1 := 9) (s_isub dX6_way_8) ?_
  refine Sim.sq (p1 := 12) (s_callS (y := yX6_within) (C_X6_within l) kw741 kw742 kw59 kw743 ⟨by decide +kernel, by decide +kernel, by decide +kernel⟩ ⟨by decide, by decide⟩ dX6_way_9) ?_
  refine Sim.sq (p1 := 17) (Sim.bk ?_) ?_
  · refine Sim.sq (p1 := 15) (s_if_ne dX6_way_12 (by decide) rfl) ?_
    refine Sim.sq (p1 := 16) (s_iconst (by decide +kernel) dX6_way_15) ?_
    exact (s_iret rfl dX6_way_16)
  refine Sim.sq (p1 := 18) (s_iconst (by decide +kernel) dX6_way_17) ?_
  refine Sim.sq (p1 := 19) (s_istore_n rfl (by decide) dX6_way_18) ?_
  refine Sim.sq (p1 := 20) (s_aload_n rfl dX6_way_19) ?_
  refine Sim.sq (p1 := 21) (s_iconst (by decide +kernel) dX6_way_20) ?_
  refine Sim.sq (p1 := 24) (s_callV (C_X6_many l) (rfl : vwCl[6]? = some (RX6, TX6, 12)) (by decide) kw788 kw790 kw24 kw59 kw791 ⟨rfl, by decide +kernel, by decide +kernel, by decide +kernel⟩ ⟨by decide, by decide⟩ shN6 dX6_way_21) ?_
  refine Sim.sq (p1 := 25) (s_istore_n rfl (by decide) dX6_way_24) ?_
  refine Sim.sq (p1 := 26) (s_iconst (by decide +kernel) dX6_way_25) ?_
  refine Sim.sq (p1 := 28) (s_istore (by decide) dX6_way_26) ?_
  refine Sim.sq (p1 := 29) (s_lconst (by decide +kernel) dX6_way_28) ?_
  refine Sim.sq (p1 := 31) (s_lstore (by decide) dX6_way_29) ?_
  refine Sim.sq (p1 := 119) (Sim.lp ?_) ?_
  · refine Sim.sq (p1 := 32) (s_iload_n rfl dX6_way_31) ?_
    refine Sim.sq (p1 := 33) (s_iload_n rfl dX6_way_32) ?_
    refine Sim.sq (p1 := 34) (s_isub dX6_way_33) ?_
    refine Sim.sq (p1 := 35) (s_iconst (by decide +kernel) dX6_way_34) ?_
    refine Sim.bk ?_
    refine Sim.sq (p1 := 38) (s_icmp_le dX6_way_35 (by decide) rfl) ?_
    refine Sim.sq (p1 := 41) (s_iinc (by decide +kernel) (by decide) dX6_way_38) ?_
    refine Sim.sq (p1 := 42) (s_aload_n rfl dX6_way_41) ?_
    refine Sim.sq (p1 := 43) (s_iconst (by decide +kernel) dX6_way_42) ?_
    refine Sim.sq (p1 := 44) (s_iload_n rfl dX6_way_43) ?_
    refine Sim.sq (p1 := 46) (s_iload dX6_way_44) ?_
    refine Sim.sq (p1 := 49) (s_callV (C_X6_endOf l) (rfl : vwCl[6]? = some (RX6, TX6, 12)) (by decide) kw827 kw829 kw33 kw59 kw830 ⟨rfl, by decide +kernel, by decide +kernel, by decide +kernel⟩ ⟨by decide, by decide⟩ shN6 dX6_way_46) ?_
    refine Sim.sq (p1 := 51) (s_istore (by decide) dX6_way_49) ?_
    refine Sim.sq (p1 := 52) (s_iload_n rfl dX6_way_51) ?_
    refine Sim.sq (p1 := 53) (s_aload_n rfl dX6_way_52) ?_
    refine Sim.sq (p1 := 54) (s_iconst (by decide +kernel) dX6_way_53) ?_
    refine Sim.sq (p1 := 56) (s_iload dX6_way_54) ?_
    refine Sim.sq (p1 := 59) (s_callV (C_X6_startOf l) (rfl : vwCl[6]? = some (RX6, TX6, 12)) (by decide) kw811 kw813 kw29 kw59 kw814 ⟨rfl, by decide +kernel, by decide +kernel, by decide +kernel⟩ ⟨by decide, by decide⟩ shN6 dX6_way_56) ?_
    refine Sim.sq (p1 := 67) (Sim.bk ?_) ?_
    · refine Sim.sq (p1 := 66) (Sim.bk ?_) ?_
      · refine Sim.sq (p1 := 62) (s_icmp_lt dX6_way_59 (by decide) rfl) ?_
        refine Sim.sq (p1 := 63) (s_iconst (by decide +kernel) dX6_way_62) ?_
        exact (s_goto dX6_way_63 (by decide) rfl)
      exact (s_iconst (by decide +kernel) dX6_way_66)
    refine Sim.sq (p1 := 69) (s_istore (by decide) dX6_way_67) ?_
    refine Sim.sq (p1 := 72) (s_ldc2 kw959 dX6_way_69) ?_
    refine Sim.sq (p1 := 74) (s_lload dX6_way_72) ?_
    refine Sim.sq (p1 := 75) (s_lmul dX6_way_74) ?_
    refine Sim.sq (p1 := 77) (s_iload dX6_way_75) ?_
    refine Sim.sq (p1 := 85) (Sim.bk ?_) ?_
    · refine Sim.sq (p1 := 84) (Sim.bk ?_) ?_
      · refine Sim.sq (p1 := 80) (s_if_eq dX6_way_77 (by decide) rfl) ?_
        refine Sim.sq (p1 := 81) (s_lconst (by decide +kernel) dX6_way_80) ?_
        exact (s_goto dX6_way_81 (by decide) rfl)
      exact (s_lconst (by decide +kernel) dX6_way_84)
    refine Sim.sq (p1 := 86) (s_ladd dX6_way_85) ?_
    refine Sim.sq (p1 := 89) (s_ldc2 kw960 dX6_way_86) ?_
    refine Sim.sq (p1 := 90) (s_lrem dX6_way_89) ?_
    refine Sim.sq (p1 := 92) (s_lstore (by decide) dX6_way_90) ?_
    refine Sim.sq (p1 := 94) (s_iload dX6_way_92) ?_
    refine Sim.sq (p1 := 103) (Sim.bk ?_) ?_
    · refine Sim.sq (p1 := 102) (Sim.bk ?_) ?_
      · refine Sim.sq (p1 := 97) (s_if_eq dX6_way_94 (by decide) rfl) ?_
        refine Sim.sq (p1 := 99) (s_iload dX6_way_97) ?_
        exact (s_goto dX6_way_99 (by decide) rfl)
      exact (s_iload_n rfl dX6_way_102)
    refine Sim.sq (p1 := 104) (s_istore_n rfl (by decide) dX6_way_103) ?_
    refine Sim.sq (p1 := 106) (s_iload dX6_way_104) ?_
    refine Sim.sq (p1 := 115) (Sim.bk ?_) ?_
    · refine Sim.sq (p1 := 113) (Sim.bk ?_) ?_
      · refine Sim.sq (p1 := 109) (s_if_eq dX6_way_106 (by decide) rfl) ?_
        refine Sim.sq (p1 := 110) (s_iload_n rfl dX6_way_109) ?_
        exact (s_goto dX6_way_110 (by decide) rfl)
      exact (s_iload dX6_way_113)
    refine Sim.sq (p1 := 116) (s_istore_n rfl (by decide) dX6_way_115) ?_
    exact (s_goto dX6_way_116 (by decide) rfl)
  refine Sim.sq (p1 := 121) (s_lload dX6_way_119) ?_
  refine Sim.sq (p1 := 122) (s_l2i dX6_way_121) ?_
  exact (s_iret rfl dX6_way_122)
set_option maxRecDepth 100000 in
set_option maxHeartbeats 4000000 in
theorem C_X6_way (l : Launch) : Ct l yX6_way cX6_way 9 (some .int) 2 49 m_X6_way := Ct_of (y := yX6_way) (by decide +kernel) S_X6_way
set_option maxRecDepth 100000 in
set_option maxHeartbeats 4000000 in
theorem S_X5_find {l : Launch} : Sim l (fun _ => True) RX5 "find" cX5_find 2 (some .int) 3 75 [] b_X5_find 0 55 := by
  unfold b_X5_find
  refine Sim.sq (p1 := 1) (s_aload_n rfl dX5_find_0) ?_
  refine Sim.sq (p1 := 2) (s_iload_n rfl dX5_find_1) ?_
  refine Sim.sq (p1 := 5) (s_callV (C_X5_isPosition l) (rfl : vwCl[5]? = some (RX5, TX5, 11)) (by decide) kw302 kw304 kw0 kw52 kw305 ⟨rfl, by decide +kernel, by decide +kernel, by decide +kernel⟩ ⟨by decide, by decide⟩ shN5 dX5_find_2) ?_
  refine Sim.sq (p1 := 10) (Sim.bk ?_) ?_
  · refine Sim.sq (p1 := 8) (s_if_ne dX5_find_5 (by decide) rfl) ?_
    refine Sim.sq (p1 := 9) (s_iconst (by decide +kernel) dX5_find_8) ?_
    exact (s_iret rfl dX5_find_9)
  refine Sim.sq (p1 := 11) (s_aload_n rfl dX5_find_10) ?_
  refine Sim.sq (p1 := 14) (s_geti (rfl : vwCl[5]? = some (RX5, TX5, 11)) (by decide) (by decide) inG5 kw239 rfl dX5_find_11) ?_
  refine Sim.sq (p1 := 20) (Sim.bk ?_) ?_
  · refine Sim.sq (p1 := 17) (s_if_ne dX5_find_14 (by decide) rfl) ?_
    refine Sim.sq (p1 := 19) (s_bipush (by decide +kernel) dX5_find_17) ?_
    exact (s_iret rfl dX5_find_19)
  refine Sim.sq (p1 := 21) (s_aload_n rfl dX5_find_20) ?_
  refine Sim.sq (p1 := 24) (s_getr (rfl : vwCl[5]? = some (RX5, TX5, 11)) (by decide) (by decide) inG5 kw232 rfl dX5_find_21) ?_
  refine Sim.sq (p1 := 25) (s_aload_n rfl dX5_find_24) ?_
  refine Sim.sq (p1 := 28) (s_getr (rfl : vwCl[5]? = some (RX5, TX5, 11)) (by decide) (by decide) inG5 kw231 rfl dX5_find_25) ?_
  refine Sim.sq (p1 := 29) (s_aload_n rfl dX5_find_28) ?_
  refine Sim.sq (p1 := 32) (s_getr (rfl : vwCl[5]? = some (RX5, TX5, 11)) (by decide) (by decide) inG5 kw234 rfl dX5_find_29) ?_
  refine Sim.sq (p1 := 35) (s_getiN (rfl : vwCl[2]? = some (RX2, TX2, 7)) (by decide) (by decide) inG2 kn192 rfl dX5_find_32) ?_
  refine Sim.sq (p1 := 38) (s_callV (C_X3_read l) (rfl : vwCl[3]? = some (RX3, TX3, 8)) (by decide) kw458 kw459 kw460 kw55 kw461 ⟨rfl, by decide +kernel, by decide +kernel, by decide +kernel⟩ ⟨by decide, by decide⟩ shN3 dX5_find_35) ?_
  refine Sim.sq (p1 := 39) (s_aload_n rfl dX5_find_38) ?_
  refine Sim.sq (p1 := 42) (s_getr (rfl : vwCl[5]? = some (RX5, TX5, 11)) (by decide) (by decide) inG5 kw232 rfl dX5_find_39) ?_
  refine Sim.sq (p1 := 43) (s_aload_n rfl dX5_find_42) ?_
  refine Sim.sq (p1 := 46) (s_getr (rfl : vwCl[5]? = some (RX5, TX5, 11)) (by decide) (by decide) inG5 kw238 rfl dX5_find_43) ?_
  refine Sim.sq (p1 := 47) (s_aload_n rfl dX5_find_46) ?_
  refine Sim.sq (p1 := 50) (s_geti (rfl : vwCl[5]? = some (RX5, TX5, 11)) (by decide) (by decide) inG5 kw239 rfl dX5_find_47) ?_
  refine Sim.sq (p1 := 51) (s_iload_n rfl dX5_find_50) ?_
  refine Sim.sq (p1 := 54) (s_callV (C_X3_positionOf l) (rfl : vwCl[3]? = some (RX3, TX3, 8)) (by decide) kw520 kw521 kw522 kw55 kw523 ⟨rfl, by decide +kernel, by decide +kernel, by decide +kernel⟩ ⟨by decide, by decide⟩ shN3 dX5_find_51) ?_
  exact (s_iret rfl dX5_find_54)
set_option maxRecDepth 100000 in
set_option maxHeartbeats 4000000 in
theorem C_X5_find (l : Launch) : Ct l yX5_find cX5_find 2 (some .int) 3 75 m_X5_find := Ct_of (y := yX5_find) (by decide +kernel) S_X5_find
set_option maxRecDepth 100000 in
set_option maxHeartbeats 4000000 in
theorem S_X6_find {l : Launch} : Sim l (fun _ => True) RX6 "find" cX6_find 2 (some .int) 3 67 [] b_X6_find 0 28 := by
  unfold b_X6_find
  refine Sim.sq (p1 := 1) (s_aload_n rfl dX6_find_0) ?_
  refine Sim.sq (p1 := 2) (s_iload_n rfl dX6_find_1) ?_
  refine Sim.sq (p1 := 5) (s_callV (C_X6_isPosition l) (rfl : vwCl[6]? = some (RX6, TX6, 12)) (by decide) kw764 kw766 kw18 kw59 kw767 ⟨rfl, by decide +kernel, by decide +kernel, by decide +kernel⟩ ⟨by decide, by decide⟩ shN6 dX6_find_2) ?_
  refine Sim.sq (p1 := 10) (Sim.bk ?_) ?_
  · refine Sim.sq (p1 := 8) (s_if_ne dX6_find_5 (by decide) rfl) ?_
    refine Sim.sq (p1 := 9) (s_iconst (by decide +kernel) dX6_find_8) ?_
    exact (s_iret rfl dX6_find_9)
  refine Sim.sq (p1 := 11) (s_aload_n rfl dX6_find_10) ?_
  refine Sim.sq (p1 := 14) (s_geti (rfl : vwCl[6]? = some (RX6, TX6, 12)) (by decide) (by decide) inG6 kw706 rfl dX6_find_11) ?_
  refine Sim.sq (p1 := 27) (Sim.bk ?_) ?_
  · refine Sim.sq (p1 := 22) (Sim.bk ?_) ?_
    · refine Sim.sq (p1 := 17) (s_if_ne dX6_find_14 (by decide) rfl) ?_
      refine Sim.sq (p1 := 19) (s_bipush (by decide +kernel) dX6_find_17) ?_
      exact (s_goto dX6_find_19 (by decide) rfl)
    refine Sim.sq (p1 := 23) (s_aload_n rfl dX6_find_22) ?_
    refine Sim.sq (p1 := 24) (s_iload_n rfl dX6_find_23) ?_
    exact (s_callV (C_X6_findFrom l) (rfl : vwCl[6]? = some (RX6, TX6, 12)) (by decide) kw911 kw913 kw48 kw59 kw914 ⟨rfl, by decide +kernel, by decide +kernel, by decide +kernel⟩ ⟨by decide, by decide⟩ shN6 dX6_find_24)
  exact (s_iret rfl dX6_find_27)
set_option maxRecDepth 100000 in
set_option maxHeartbeats 4000000 in
theorem C_X6_find (l : Launch) : Ct l yX6_find cX6_find 2 (some .int) 3 67 m_X6_find := Ct_of (y := yX6_find) (by decide +kernel) S_X6_find
set_option maxRecDepth 100000 in
set_option maxHeartbeats 4000000 in
theorem S_X3_lineEndsBefore {l : Launch} : Sim l (fun _ => True) RX3 "lineEndsBefore" cX3_lineEndsBefore 4 (some .int) 0 0 [] b_X3_lineEndsBefore 0 48 := by
  unfold b_X3_lineEndsBefore
  refine Sim.sq (p1 := 1) (s_iconst (by decide +kernel) dX3_lineEndsBefore_0) ?_
  refine Sim.sq (p1 := 2) (s_istore_n rfl (by decide) dX3_lineEndsBefore_1) ?_
  refine Sim.sq (p1 := 3) (s_iconst (by decide +kernel) dX3_lineEndsBefore_2) ?_
  refine Sim.sq (p1 := 4) (s_istore_n rfl (by decide) dX3_lineEndsBefore_3) ?_
  refine Sim.sq (p1 := 46) (Sim.lp ?_) ?_
  · refine Sim.sq (p1 := 5) (s_iload_n rfl dX3_lineEndsBefore_4) ?_
    refine Sim.sq (p1 := 6) (s_iload_n rfl dX3_lineEndsBefore_5) ?_
    refine Sim.bk ?_
    refine Sim.sq (p1 := 9) (s_icmp_ge dX3_lineEndsBefore_6 (by decide) rfl) ?_
    refine Sim.sq (p1 := 10) (s_iload_n rfl dX3_lineEndsBefore_9) ?_
    refine Sim.sq (p1 := 11) (s_aload_n rfl dX3_lineEndsBefore_10) ?_
    refine Sim.sq (p1 := 14) (s_geti (rfl : vwCl[3]? = some (RX3, TX3, 8)) (by decide) (by decide) inG3 kw153 rfl dX3_lineEndsBefore_11) ?_
    refine Sim.sq (p1 := 17) (s_icmp_ge dX3_lineEndsBefore_14 (by decide) rfl) ?_
    refine Sim.sq (p1 := 18) (s_iload_n rfl dX3_lineEndsBefore_17) ?_
    refine Sim.sq (p1 := 19) (s_aload_n rfl dX3_lineEndsBefore_18) ?_
    refine Sim.sq (p1 := 22) (s_getr (rfl : vwCl[3]? = some (RX3, TX3, 8)) (by decide) (by decide) inG3 kw145 rfl dX3_lineEndsBefore_19) ?_
    refine Sim.sq (p1 := 23) (s_alen dX3_lineEndsBefore_22) ?_
    refine Sim.sq (p1 := 26) (s_icmp_ge dX3_lineEndsBefore_23 (by decide) rfl) ?_
    refine Sim.sq (p1 := 27) (s_aload_n rfl dX3_lineEndsBefore_26) ?_
    refine Sim.sq (p1 := 30) (s_getr (rfl : vwCl[3]? = some (RX3, TX3, 8)) (by decide) (by decide) inG3 kw145 rfl dX3_lineEndsBefore_27) ?_
    refine Sim.sq (p1 := 31) (s_iload_n rfl dX3_lineEndsBefore_30) ?_
    refine Sim.sq (p1 := 32) (s_iald dX3_lineEndsBefore_31) ?_
    refine Sim.sq (p1 := 34) (s_bipush (by decide +kernel) dX3_lineEndsBefore_32) ?_
    refine Sim.sq (p1 := 40) (Sim.bk ?_) ?_
    · refine Sim.sq (p1 := 37) (s_icmp_ne dX3_lineEndsBefore_34 (by decide) rfl) ?_
      exact (s_iinc (by decide +kernel) (by decide) dX3_lineEndsBefore_37)
    refine Sim.sq (p1 := 43) (s_iinc (by decide +kernel) (by decide) dX3_lineEndsBefore_40) ?_
    exact (s_goto dX3_lineEndsBefore_43 (by decide) rfl)
  refine Sim.sq (p1 := 47) (s_iload_n rfl dX3_lineEndsBefore_46) ?_
  exact (s_iret rfl dX3_lineEndsBefore_47)
set_option maxRecDepth 100000 in
set_option maxHeartbeats 4000000 in
theorem C_X3_lineEndsBefore (l : Launch) : Ct l yX3_lineEndsBefore cX3_lineEndsBefore 4 (some .int) 0 0 m_X3_lineEndsBefore := Ct_of (y := yX3_lineEndsBefore) (by decide +kernel) S_X3_lineEndsBefore
set_option maxRecDepth 100000 in
set_option maxHeartbeats 4000000 in
theorem S_X5_lines {l : Launch} : Sim l (fun _ => True) RX5 "lines" cX5_lines 1 (some .int) 3 75 [] b_X5_lines 0 35 := by
  unfold b_X5_lines
  refine Sim.sq (p1 := 1) (s_aload_n rfl dX5_lines_0) ?_
  refine Sim.sq (p1 := 4) (s_getr (rfl : vwCl[5]? = some (RX5, TX5, 11)) (by decide) (by decide) inG5 kw232 rfl dX5_lines_1) ?_
  refine Sim.sq (p1 := 5) (s_aload_n rfl dX5_lines_4) ?_
  refine Sim.sq (p1 := 8) (s_getr (rfl : vwCl[5]? = some (RX5, TX5, 11)) (by decide) (by decide) inG5 kw231 rfl dX5_lines_5) ?_
  refine Sim.sq (p1 := 9) (s_aload_n rfl dX5_lines_8) ?_
  refine Sim.sq (p1 := 12) (s_getr (rfl : vwCl[5]? = some (RX5, TX5, 11)) (by decide) (by decide) inG5 kw234 rfl dX5_lines_9) ?_
  refine Sim.sq (p1 := 15) (s_getiN (rfl : vwCl[2]? = some (RX2, TX2, 7)) (by decide) (by decide) inG2 kn192 rfl dX5_lines_12) ?_
  refine Sim.sq (p1 := 18) (s_callV (C_X3_read l) (rfl : vwCl[3]? = some (RX3, TX3, 8)) (by decide) kw458 kw459 kw460 kw55 kw461 ⟨rfl, by decide +kernel, by decide +kernel, by decide +kernel⟩ ⟨by decide, by decide⟩ shN3 dX5_lines_15) ?_
  refine Sim.sq (p1 := 19) (s_iconst (by decide +kernel) dX5_lines_18) ?_
  refine Sim.sq (p1 := 20) (s_aload_n rfl dX5_lines_19) ?_
  refine Sim.sq (p1 := 23) (s_getr (rfl : vwCl[5]? = some (RX5, TX5, 11)) (by decide) (by decide) inG5 kw232 rfl dX5_lines_20) ?_
  refine Sim.sq (p1 := 24) (s_aload_n rfl dX5_lines_23) ?_
  refine Sim.sq (p1 := 27) (s_getr (rfl : vwCl[5]? = some (RX5, TX5, 11)) (by decide) (by decide) inG5 kw232 rfl dX5_lines_24) ?_
  refine Sim.sq (p1 := 30) (s_getiN (rfl : vwCl[3]? = some (RX3, TX3, 8)) (by decide) (by decide) inG3 kn154 rfl dX5_lines_27) ?_
  refine Sim.sq (p1 := 33) (s_callV (C_X3_lineEndsBefore l) (rfl : vwCl[3]? = some (RX3, TX3, 8)) (by decide) kw600 kw601 kw602 kw55 kw603 ⟨rfl, by decide +kernel, by decide +kernel, by decide +kernel⟩ ⟨by decide, by decide⟩ shN3 dX5_lines_30) ?_
  refine Sim.sq (p1 := 34) (s_iadd dX5_lines_33) ?_
  exact (s_iret rfl dX5_lines_34)
set_option maxRecDepth 100000 in
set_option maxHeartbeats 4000000 in
theorem C_X5_lines (l : Launch) : Ct l yX5_lines cX5_lines 1 (some .int) 3 75 m_X5_lines := Ct_of (y := yX5_lines) (by decide +kernel) S_X5_lines
set_option maxRecDepth 100000 in
set_option maxHeartbeats 4000000 in
theorem S_X6_linesNow {l : Launch} : Sim l (fun _ => True) RX6 "linesNow" cX6_linesNow 3 (some .int) 1 22 [] b_X6_linesNow 0 40 := by
  unfold b_X6_linesNow
  refine Sim.sq (p1 := 1) (s_iconst (by decide +kernel) dX6_linesNow_0) ?_
  refine Sim.sq (p1 := 2) (s_istore_n rfl (by decide) dX6_linesNow_1) ?_
  refine Sim.sq (p1 := 3) (s_iconst (by decide +kernel) dX6_linesNow_2) ?_
  refine Sim.sq (p1 := 4) (s_istore_n rfl (by decide) dX6_linesNow_3) ?_
  refine Sim.sq (p1 := 38) (Sim.lp ?_) ?_
  · refine Sim.sq (p1 := 5) (s_iload_n rfl dX6_linesNow_4) ?_
    refine Sim.sq (p1 := 6) (s_aload_n rfl dX6_linesNow_5) ?_
    refine Sim.sq (p1 := 7) (s_iconst (by decide +kernel) dX6_linesNow_6) ?_
    refine Sim.sq (p1 := 10) (s_callV (C_X6_lengthOf l) (rfl : vwCl[6]? = some (RX6, TX6, 12)) (by decide) kw768 kw770 kw19 kw59 kw771 ⟨rfl, by decide +kernel, by decide +kernel, by decide +kernel⟩ ⟨by decide, by decide⟩ shN6 dX6_linesNow_7) ?_
    refine Sim.bk ?_
    refine Sim.sq (p1 := 13) (s_icmp_ge dX6_linesNow_10 (by decide) rfl) ?_
    refine Sim.sq (p1 := 14) (s_iload_n rfl dX6_linesNow_13) ?_
    refine Sim.sq (p1 := 15) (s_aload_n rfl dX6_linesNow_14) ?_
    refine Sim.sq (p1 := 16) (s_iconst (by decide +kernel) dX6_linesNow_15) ?_
    refine Sim.sq (p1 := 17) (s_iload_n rfl dX6_linesNow_16) ?_
    refine Sim.sq (p1 := 20) (s_callV (C_X6_characterOf l) (rfl : vwCl[6]? = some (RX6, TX6, 12)) (by decide) kw823 kw825 kw32 kw59 kw826 ⟨rfl, by decide +kernel, by decide +kernel, by decide +kernel⟩ ⟨by decide, by decide⟩ shN6 dX6_linesNow_17) ?_
    refine Sim.sq (p1 := 22) (s_bipush (by decide +kernel) dX6_linesNow_20) ?_
    refine Sim.sq (p1 := 30) (Sim.bk ?_) ?_
    · refine Sim.sq (p1 := 29) (Sim.bk ?_) ?_
      · refine Sim.sq (p1 := 25) (s_icmp_ne dX6_linesNow_22 (by decide) rfl) ?_
        refine Sim.sq (p1 := 26) (s_iconst (by decide +kernel) dX6_linesNow_25) ?_
        exact (s_goto dX6_linesNow_26 (by decide) rfl)
      exact (s_iconst (by decide +kernel) dX6_linesNow_29)
    refine Sim.sq (p1 := 31) (s_iadd dX6_linesNow_30) ?_
    refine Sim.sq (p1 := 32) (s_istore_n rfl (by decide) dX6_linesNow_31) ?_
    refine Sim.sq (p1 := 35) (s_iinc (by decide +kernel) (by decide) dX6_linesNow_32) ?_
    exact (s_goto dX6_linesNow_35 (by decide) rfl)
  refine Sim.sq (p1 := 39) (s_iload_n rfl dX6_linesNow_38) ?_
  exact (s_iret rfl dX6_linesNow_39)
set_option maxRecDepth 100000 in
set_option maxHeartbeats 4000000 in
theorem C_X6_linesNow (l : Launch) : Ct l yX6_linesNow cX6_linesNow 3 (some .int) 1 22 m_X6_linesNow := Ct_of (y := yX6_linesNow) (by decide +kernel) S_X6_linesNow
set_option maxRecDepth 100000 in
set_option maxHeartbeats 4000000 in
theorem S_X6_lines {l : Launch} : Sim l (fun _ => True) RX6 "lines" cX6_lines 1 (some .int) 2 44 [] b_X6_lines 0 5 := by
  unfold b_X6_lines
  refine Sim.sq (p1 := 1) (s_aload_n rfl dX6_lines_0) ?_
  refine Sim.sq (p1 := 4) (s_callV (C_X6_linesNow l) (rfl : vwCl[6]? = some (RX6, TX6, 12)) (by decide) kw969 kw971 kw50 kw59 kw972 ⟨rfl, by decide +kernel, by decide +kernel, by decide +kernel⟩ ⟨by decide, by decide⟩ shN6 dX6_lines_1) ?_
  exact (s_iret rfl dX6_lines_4)
set_option maxRecDepth 100000 in
set_option maxHeartbeats 4000000 in
theorem C_X6_lines (l : Launch) : Ct l yX6_lines cX6_lines 1 (some .int) 2 44 m_X6_lines := Ct_of (y := yX6_lines) (by decide +kernel) S_X6_lines
set_option maxRecDepth 100000 in
set_option maxHeartbeats 4000000 in
theorem S_X3_startOfLine {l : Launch} : Sim l (fun _ => True) RX3 "startOfLine" cX3_startOfLine 4 (some .int) 0 0 [] b_X3_startOfLine 0 58 := by
  unfold b_X3_startOfLine
  refine Sim.sq (p1 := 1) (s_iload_n rfl dX3_startOfLine_0) ?_
  refine Sim.sq (p1 := 6) (Sim.bk ?_) ?_
  · refine Sim.sq (p1 := 4) (s_if_ne dX3_startOfLine_1 (by decide) rfl) ?_
    refine Sim.sq (p1 := 5) (s_iconst (by decide +kernel) dX3_startOfLine_4) ?_
    exact (s_iret rfl dX3_startOfLine_5)
  refine Sim.sq (p1 := 7) (s_iconst (by decide +kernel) dX3_startOfLine_6) ?_
  refine Sim.sq (p1 := 8) (s_istore_n rfl (by decide) dX3_startOfLine_7) ?_
  refine Sim.sq (p1 := 9) (s_iconst (by decide +kernel) dX3_startOfLine_8) ?_
  refine Sim.sq (p1 := 10) (s_istore_n rfl (by decide) dX3_startOfLine_9) ?_
  refine Sim.sq (p1 := 56) (Sim.lp ?_) ?_
  · refine Sim.sq (p1 := 11) (s_iload_n rfl dX3_startOfLine_10) ?_
    refine Sim.sq (p1 := 12) (s_aload_n rfl dX3_startOfLine_11) ?_
    refine Sim.sq (p1 := 15) (s_geti (rfl : vwCl[3]? = some (RX3, TX3, 8)) (by decide) (by decide) inG3 kw153 rfl dX3_startOfLine_12) ?_
    refine Sim.bk ?_
    refine Sim.sq (p1 := 18) (s_icmp_ge dX3_startOfLine_15 (by decide) rfl) ?_
    refine Sim.sq (p1 := 19) (s_iload_n rfl dX3_startOfLine_18) ?_
    refine Sim.sq (p1 := 20) (s_aload_n rfl dX3_startOfLine_19) ?_
    refine Sim.sq (p1 := 23) (s_getr (rfl : vwCl[3]? = some (RX3, TX3, 8)) (by decide) (by decide) inG3 kw145 rfl dX3_startOfLine_20) ?_
    refine Sim.sq (p1 := 24) (s_alen dX3_startOfLine_23) ?_
    refine Sim.sq (p1 := 27) (s_icmp_ge dX3_startOfLine_24 (by decide) rfl) ?_
    refine Sim.sq (p1 := 28) (s_aload_n rfl dX3_startOfLine_27) ?_
    refine Sim.sq (p1 := 31) (s_getr (rfl : vwCl[3]? = some (RX3, TX3, 8)) (by decide) (by decide) inG3 kw145 rfl dX3_startOfLine_28) ?_
    refine Sim.sq (p1 := 32) (s_iload_n rfl dX3_startOfLine_31) ?_
    refine Sim.sq (p1 := 33) (s_iald dX3_startOfLine_32) ?_
    refine Sim.sq (p1 := 35) (s_bipush (by decide +kernel) dX3_startOfLine_33) ?_
    refine Sim.sq (p1 := 50) (Sim.bk ?_) ?_
    · refine Sim.sq (p1 := 38) (s_icmp_ne dX3_startOfLine_35 (by decide) rfl) ?_
      refine Sim.sq (p1 := 41) (s_iinc (by decide +kernel) (by decide) dX3_startOfLine_38) ?_
      refine Sim.sq (p1 := 42) (s_iload_n rfl dX3_startOfLine_41) ?_
      refine Sim.sq (p1 := 43) (s_iload_n rfl dX3_startOfLine_42) ?_
      refine Sim.sq (p1 := 46) (s_icmp_ne dX3_startOfLine_43 (by decide) rfl) ?_
      refine Sim.sq (p1 := 47) (s_iload_n rfl dX3_startOfLine_46) ?_
      refine Sim.sq (p1 := 48) (s_iconst (by decide +kernel) dX3_startOfLine_47) ?_
      refine Sim.sq (p1 := 49) (s_iadd dX3_startOfLine_48) ?_
      exact (s_iret rfl dX3_startOfLine_49)
    refine Sim.sq (p1 := 53) (s_iinc (by decide +kernel) (by decide) dX3_startOfLine_50) ?_
    exact (s_goto dX3_startOfLine_53 (by decide) rfl)
  refine Sim.sq (p1 := 57) (s_iconst (by decide +kernel) dX3_startOfLine_56) ?_
  exact (s_iret rfl dX3_startOfLine_57)
set_option maxRecDepth 100000 in
set_option maxHeartbeats 4000000 in
theorem C_X3_startOfLine (l : Launch) : Ct l yX3_startOfLine cX3_startOfLine 4 (some .int) 0 0 m_X3_startOfLine := Ct_of (y := yX3_startOfLine) (by decide +kernel) S_X3_startOfLine
set_option maxRecDepth 100000 in
set_option maxHeartbeats 4000000 in
theorem S_X5_lineStart {l : Launch} : Sim l (fun _ => True) RX5 "lineStart" cX5_lineStart 2 (some .int) 3 75 [] b_X5_lineStart 0 27 := by
  unfold b_X5_lineStart
  refine Sim.sq (p1 := 1) (s_aload_n rfl dX5_lineStart_0) ?_
  refine Sim.sq (p1 := 4) (s_getr (rfl : vwCl[5]? = some (RX5, TX5, 11)) (by decide) (by decide) inG5 kw232 rfl dX5_lineStart_1) ?_
  refine Sim.sq (p1 := 5) (s_aload_n rfl dX5_lineStart_4) ?_
  refine Sim.sq (p1 := 8) (s_getr (rfl : vwCl[5]? = some (RX5, TX5, 11)) (by decide) (by decide) inG5 kw231 rfl dX5_lineStart_5) ?_
  refine Sim.sq (p1 := 9) (s_aload_n rfl dX5_lineStart_8) ?_
  refine Sim.sq (p1 := 12) (s_getr (rfl : vwCl[5]? = some (RX5, TX5, 11)) (by decide) (by decide) inG5 kw234 rfl dX5_lineStart_9) ?_
  refine Sim.sq (p1 := 15) (s_getiN (rfl : vwCl[2]? = some (RX2, TX2, 7)) (by decide) (by decide) inG2 kn192 rfl dX5_lineStart_12) ?_
  refine Sim.sq (p1 := 18) (s_callV (C_X3_read l) (rfl : vwCl[3]? = some (RX3, TX3, 8)) (by decide) kw458 kw459 kw460 kw55 kw461 ⟨rfl, by decide +kernel, by decide +kernel, by decide +kernel⟩ ⟨by decide, by decide⟩ shN3 dX5_lineStart_15) ?_
  refine Sim.sq (p1 := 19) (s_aload_n rfl dX5_lineStart_18) ?_
  refine Sim.sq (p1 := 22) (s_getr (rfl : vwCl[5]? = some (RX5, TX5, 11)) (by decide) (by decide) inG5 kw232 rfl dX5_lineStart_19) ?_
  refine Sim.sq (p1 := 23) (s_iload_n rfl dX5_lineStart_22) ?_
  refine Sim.sq (p1 := 26) (s_callV (C_X3_startOfLine l) (rfl : vwCl[3]? = some (RX3, TX3, 8)) (by decide) kw608 kw609 kw610 kw55 kw611 ⟨rfl, by decide +kernel, by decide +kernel, by decide +kernel⟩ ⟨by decide, by decide⟩ shN3 dX5_lineStart_23) ?_
  exact (s_iret rfl dX5_lineStart_26)
set_option maxRecDepth 100000 in
set_option maxHeartbeats 4000000 in
theorem C_X5_lineStart (l : Launch) : Ct l yX5_lineStart cX5_lineStart 2 (some .int) 3 75 m_X5_lineStart := Ct_of (y := yX5_lineStart) (by decide +kernel) S_X5_lineStart
set_option maxRecDepth 100000 in
set_option maxHeartbeats 4000000 in
theorem S_X6_lineStart {l : Launch} : Sim l (fun _ => True) RX6 "lineStart" cX6_lineStart 4 (some .int) 2 44 [] b_X6_lineStart 0 51 := by
  unfold b_X6_lineStart
  refine Sim.sq (p1 := 1) (s_iload_n rfl dX6_lineStart_0) ?_
  refine Sim.sq (p1 := 2) (s_iconst (by decide +kernel) dX6_lineStart_1) ?_
  refine Sim.sq (p1 := 3) (s_aload_n rfl dX6_lineStart_2) ?_
  refine Sim.sq (p1 := 6) (s_callV (C_X6_linesNow l) (rfl : vwCl[6]? = some (RX6, TX6, 12)) (by decide) kw969 kw971 kw50 kw59 kw972 ⟨rfl, by decide +kernel, by decide +kernel, by decide +kernel⟩ ⟨by decide, by decide⟩ shN6 dX6_lineStart_3) ?_
  refine Sim.sq (p1 := 7) (s_iconst (by decide +kernel) dX6_lineStart_6) ?_
  refine Sim.sq (p1 := 8) (s_isub dX6_lineStart_7) ?_
  refine Sim.sq (p1 := 11) (s_callS (y := yX6_within) (C_X6_within l) kw741 kw742 kw59 kw743 ⟨by decide +kernel, by decide +kernel, by decide +kernel⟩ ⟨by decide, by decide⟩ dX6_lineStart_8) ?_
  refine Sim.sq (p1 := 16) (Sim.bk ?_) ?_
  · refine Sim.sq (p1 := 14) (s_if_ne dX6_lineStart_11 (by decide) rfl) ?_
    refine Sim.sq (p1 := 15) (s_iconst (by decide +kernel) dX6_lineStart_14) ?_
    exact (s_iret rfl dX6_lineStart_15)
  refine Sim.sq (p1 := 17) (s_iload_n rfl dX6_lineStart_16) ?_
  refine Sim.sq (p1 := 18) (s_istore_n rfl (by decide) dX6_lineStart_17) ?_
  refine Sim.sq (p1 := 19) (s_iconst (by decide +kernel) dX6_lineStart_18) ?_
  refine Sim.sq (p1 := 20) (s_istore_n rfl (by decide) dX6_lineStart_19) ?_
  refine Sim.sq (p1 := 49) (Sim.lp ?_) ?_
  · refine Sim.sq (p1 := 21) (s_iload_n rfl dX6_lineStart_20) ?_
    refine Sim.bk ?_
    refine Sim.sq (p1 := 24) (s_if_le dX6_lineStart_21 (by decide) rfl) ?_
    refine Sim.sq (p1 := 25) (s_iload_n rfl dX6_lineStart_24) ?_
    refine Sim.sq (p1 := 26) (s_aload_n rfl dX6_lineStart_25) ?_
    refine Sim.sq (p1 := 27) (s_iconst (by decide +kernel) dX6_lineStart_26) ?_
    refine Sim.sq (p1 := 28) (s_iload_n rfl dX6_lineStart_27) ?_
    refine Sim.sq (p1 := 31) (s_callV (C_X6_characterOf l) (rfl : vwCl[6]? = some (RX6, TX6, 12)) (by decide) kw823 kw825 kw32 kw59 kw826 ⟨rfl, by decide +kernel, by decide +kernel, by decide +kernel⟩ ⟨by decide, by decide⟩ shN6 dX6_lineStart_28) ?_
    refine Sim.sq (p1 := 33) (s_bipush (by decide +kernel) dX6_lineStart_31) ?_
    refine Sim.sq (p1 := 41) (Sim.bk ?_) ?_
    · refine Sim.sq (p1 := 40) (Sim.bk ?_) ?_
      · refine Sim.sq (p1 := 36) (s_icmp_ne dX6_lineStart_33 (by decide) rfl) ?_
        refine Sim.sq (p1 := 37) (s_iconst (by decide +kernel) dX6_lineStart_36) ?_
        exact (s_goto dX6_lineStart_37 (by decide) rfl)
      exact (s_iconst (by decide +kernel) dX6_lineStart_40)
    refine Sim.sq (p1 := 42) (s_isub dX6_lineStart_41) ?_
    refine Sim.sq (p1 := 43) (s_istore_n rfl (by decide) dX6_lineStart_42) ?_
    refine Sim.sq (p1 := 46) (s_iinc (by decide +kernel) (by decide) dX6_lineStart_43) ?_
    exact (s_goto dX6_lineStart_46 (by decide) rfl)
  refine Sim.sq (p1 := 50) (s_iload_n rfl dX6_lineStart_49) ?_
  exact (s_iret rfl dX6_lineStart_50)
set_option maxRecDepth 100000 in
set_option maxHeartbeats 4000000 in
theorem C_X6_lineStart (l : Launch) : Ct l yX6_lineStart cX6_lineStart 4 (some .int) 2 44 m_X6_lineStart := Ct_of (y := yX6_lineStart) (by decide +kernel) S_X6_lineStart
set_option maxRecDepth 100000 in
set_option maxHeartbeats 4000000 in
theorem S_X5_lineOf {l : Launch} : Sim l (fun _ => True) RX5 "lineOf" cX5_lineOf 2 (some .int) 3 75 [] b_X5_lineOf 0 37 := by
  unfold b_X5_lineOf
  refine Sim.sq (p1 := 1) (s_aload_n rfl dX5_lineOf_0) ?_
  refine Sim.sq (p1 := 2) (s_iload_n rfl dX5_lineOf_1) ?_
  refine Sim.sq (p1 := 5) (s_callV (C_X5_isPosition l) (rfl : vwCl[5]? = some (RX5, TX5, 11)) (by decide) kw302 kw304 kw0 kw52 kw305 ⟨rfl, by decide +kernel, by decide +kernel, by decide +kernel⟩ ⟨by decide, by decide⟩ shN5 dX5_lineOf_2) ?_
  refine Sim.sq (p1 := 10) (Sim.bk ?_) ?_
  · refine Sim.sq (p1 := 8) (s_if_ne dX5_lineOf_5 (by decide) rfl) ?_
    refine Sim.sq (p1 := 9) (s_iconst (by decide +kernel) dX5_lineOf_8) ?_
    exact (s_iret rfl dX5_lineOf_9)
  refine Sim.sq (p1 := 11) (s_aload_n rfl dX5_lineOf_10) ?_
  refine Sim.sq (p1 := 14) (s_getr (rfl : vwCl[5]? = some (RX5, TX5, 11)) (by decide) (by decide) inG5 kw232 rfl dX5_lineOf_11) ?_
  refine Sim.sq (p1 := 15) (s_aload_n rfl dX5_lineOf_14) ?_
  refine Sim.sq (p1 := 18) (s_getr (rfl : vwCl[5]? = some (RX5, TX5, 11)) (by decide) (by decide) inG5 kw231 rfl dX5_lineOf_15) ?_
  refine Sim.sq (p1 := 19) (s_aload_n rfl dX5_lineOf_18) ?_
  refine Sim.sq (p1 := 22) (s_getr (rfl : vwCl[5]? = some (RX5, TX5, 11)) (by decide) (by decide) inG5 kw234 rfl dX5_lineOf_19) ?_
  refine Sim.sq (p1 := 25) (s_getiN (rfl : vwCl[2]? = some (RX2, TX2, 7)) (by decide) (by decide) inG2 kn192 rfl dX5_lineOf_22) ?_
  refine Sim.sq (p1 := 28) (s_callV (C_X3_read l) (rfl : vwCl[3]? = some (RX3, TX3, 8)) (by decide) kw458 kw459 kw460 kw55 kw461 ⟨rfl, by decide +kernel, by decide +kernel, by decide +kernel⟩ ⟨by decide, by decide⟩ shN3 dX5_lineOf_25) ?_
  refine Sim.sq (p1 := 29) (s_aload_n rfl dX5_lineOf_28) ?_
  refine Sim.sq (p1 := 32) (s_getr (rfl : vwCl[5]? = some (RX5, TX5, 11)) (by decide) (by decide) inG5 kw232 rfl dX5_lineOf_29) ?_
  refine Sim.sq (p1 := 33) (s_iload_n rfl dX5_lineOf_32) ?_
  refine Sim.sq (p1 := 36) (s_callV (C_X3_lineEndsBefore l) (rfl : vwCl[3]? = some (RX3, TX3, 8)) (by decide) kw600 kw601 kw602 kw55 kw603 ⟨rfl, by decide +kernel, by decide +kernel, by decide +kernel⟩ ⟨by decide, by decide⟩ shN3 dX5_lineOf_33) ?_
  exact (s_iret rfl dX5_lineOf_36)
set_option maxRecDepth 100000 in
set_option maxHeartbeats 4000000 in
theorem C_X5_lineOf (l : Launch) : Ct l yX5_lineOf cX5_lineOf 2 (some .int) 3 75 m_X5_lineOf := Ct_of (y := yX5_lineOf) (by decide +kernel) S_X5_lineOf
set_option maxRecDepth 100000 in
set_option maxHeartbeats 4000000 in
theorem S_X6_lineOf {l : Launch} : Sim l (fun _ => True) RX6 "lineOf" cX6_lineOf 4 (some .int) 2 43 [] b_X6_lineOf 0 46 := by
  unfold b_X6_lineOf
  refine Sim.sq (p1 := 1) (s_aload_n rfl dX6_lineOf_0) ?_
  refine Sim.sq (p1 := 2) (s_iload_n rfl dX6_lineOf_1) ?_
  refine Sim.sq (p1 := 5) (s_callV (C_X6_isPosition l) (rfl : vwCl[6]? = some (RX6, TX6, 12)) (by decide) kw764 kw766 kw18 kw59 kw767 ⟨rfl, by decide +kernel, by decide +kernel, by decide +kernel⟩ ⟨by decide, by decide⟩ shN6 dX6_lineOf_2) ?_
  refine Sim.sq (p1 := 10) (Sim.bk ?_) ?_
  · refine Sim.sq (p1 := 8) (s_if_ne dX6_lineOf_5 (by decide) rfl) ?_
    refine Sim.sq (p1 := 9) (s_iconst (by decide +kernel) dX6_lineOf_8) ?_
    exact (s_iret rfl dX6_lineOf_9)
  refine Sim.sq (p1 := 11) (s_iconst (by decide +kernel) dX6_lineOf_10) ?_
  refine Sim.sq (p1 := 12) (s_istore_n rfl (by decide) dX6_lineOf_11) ?_
  refine Sim.sq (p1 := 13) (s_iconst (by decide +kernel) dX6_lineOf_12) ?_
  refine Sim.sq (p1 := 14) (s_istore_n rfl (by decide) dX6_lineOf_13) ?_
  refine Sim.sq (p1 := 44) (Sim.lp ?_) ?_
  · refine Sim.sq (p1 := 15) (s_iload_n rfl dX6_lineOf_14) ?_
    refine Sim.sq (p1 := 16) (s_iload_n rfl dX6_lineOf_15) ?_
    refine Sim.bk ?_
    refine Sim.sq (p1 := 19) (s_icmp_ge dX6_lineOf_16 (by decide) rfl) ?_
    refine Sim.sq (p1 := 20) (s_iload_n rfl dX6_lineOf_19) ?_
    refine Sim.sq (p1 := 21) (s_aload_n rfl dX6_lineOf_20) ?_
    refine Sim.sq (p1 := 22) (s_iconst (by decide +kernel) dX6_lineOf_21) ?_
    refine Sim.sq (p1 := 23) (s_iload_n rfl dX6_lineOf_22) ?_
    refine Sim.sq (p1 := 26) (s_callV (C_X6_characterOf l) (rfl : vwCl[6]? = some (RX6, TX6, 12)) (by decide) kw823 kw825 kw32 kw59 kw826 ⟨rfl, by decide +kernel, by decide +kernel, by decide +kernel⟩ ⟨by decide, by decide⟩ shN6 dX6_lineOf_23) ?_
    refine Sim.sq (p1 := 28) (s_bipush (by decide +kernel) dX6_lineOf_26) ?_
    refine Sim.sq (p1 := 36) (Sim.bk ?_) ?_
    · refine Sim.sq (p1 := 35) (Sim.bk ?_) ?_
      · refine Sim.sq (p1 := 31) (s_icmp_ne dX6_lineOf_28 (by decide) rfl) ?_
        refine Sim.sq (p1 := 32) (s_iconst (by decide +kernel) dX6_lineOf_31) ?_
        exact (s_goto dX6_lineOf_32 (by decide) rfl)
      exact (s_iconst (by decide +kernel) dX6_lineOf_35)
    refine Sim.sq (p1 := 37) (s_iadd dX6_lineOf_36) ?_
    refine Sim.sq (p1 := 38) (s_istore_n rfl (by decide) dX6_lineOf_37) ?_
    refine Sim.sq (p1 := 41) (s_iinc (by decide +kernel) (by decide) dX6_lineOf_38) ?_
    exact (s_goto dX6_lineOf_41 (by decide) rfl)
  refine Sim.sq (p1 := 45) (s_iload_n rfl dX6_lineOf_44) ?_
  exact (s_iret rfl dX6_lineOf_45)
set_option maxRecDepth 100000 in
set_option maxHeartbeats 4000000 in
theorem C_X6_lineOf (l : Launch) : Ct l yX6_lineOf cX6_lineOf 4 (some .int) 2 43 m_X6_lineOf := Ct_of (y := yX6_lineOf) (by decide +kernel) S_X6_lineOf
set_option maxRecDepth 100000 in
set_option maxHeartbeats 4000000 in
theorem S_X2_markAt {l : Launch} : Sim l (fun _ => True) RX2 "markAt" cX2_markAt 2 (some .int) 0 0 [] b_X2_markAt 0 25 := by
  unfold b_X2_markAt
  refine Sim.sq (p1 := 1) (s_iload_n rfl dX2_markAt_0) ?_
  refine Sim.sq (p1 := 24) (Sim.bk ?_) ?_
  · refine Sim.sq (p1 := 22) (Sim.bk ?_) ?_
    · refine Sim.sq (p1 := 4) (s_if_lt dX2_markAt_1 (by decide) rfl) ?_
      refine Sim.sq (p1 := 5) (s_iload_n rfl dX2_markAt_4) ?_
      refine Sim.sq (p1 := 6) (s_aload_n rfl dX2_markAt_5) ?_
      refine Sim.sq (p1 := 9) (s_getr (rfl : vwCl[2]? = some (RX2, TX2, 7)) (by decide) (by decide) inG2 kw183 rfl dX2_markAt_6) ?_
      refine Sim.sq (p1 := 10) (s_alen dX2_markAt_9) ?_
      refine Sim.sq (p1 := 13) (s_icmp_ge dX2_markAt_10 (by decide) rfl) ?_
      refine Sim.sq (p1 := 14) (s_aload_n rfl dX2_markAt_13) ?_
      refine Sim.sq (p1 := 17) (s_getr (rfl : vwCl[2]? = some (RX2, TX2, 7)) (by decide) (by decide) inG2 kw183 rfl dX2_markAt_14) ?_
      refine Sim.sq (p1 := 18) (s_iload_n rfl dX2_markAt_17) ?_
      refine Sim.sq (p1 := 19) (s_iald dX2_markAt_18) ?_
      exact (s_goto dX2_markAt_19 (by decide) rfl)
    exact (s_bipush (by decide +kernel) dX2_markAt_22)
  exact (s_iret rfl dX2_markAt_24)
set_option maxRecDepth 100000 in
set_option maxHeartbeats 4000000 in
theorem C_X2_markAt (l : Launch) : Ct l yX2_markAt cX2_markAt 2 (some .int) 0 0 m_X2_markAt := Ct_of (y := yX2_markAt) (by decide +kernel) S_X2_markAt
set_option maxRecDepth 100000 in
set_option maxHeartbeats 4000000 in
theorem S_X2_putMark {l : Launch} : Sim l (fun _ => True) RX2 "putMark" cX2_putMark 3 none 0 0 [] b_X2_putMark 0 21 := by
  unfold b_X2_putMark
  refine Sim.sq (p1 := 1) (s_iload_n rfl dX2_putMark_0) ?_
  refine Sim.sq (p1 := 20) (Sim.bk ?_) ?_
  · refine Sim.sq (p1 := 4) (s_if_lt dX2_putMark_1 (by decide) rfl) ?_
    refine Sim.sq (p1 := 5) (s_iload_n rfl dX2_putMark_4) ?_
    refine Sim.sq (p1 := 6) (s_aload_n rfl dX2_putMark_5) ?_
    refine Sim.sq (p1 := 9) (s_getr (rfl : vwCl[2]? = some (RX2, TX2, 7)) (by decide) (by decide) inG2 kw183 rfl dX2_putMark_6) ?_
    refine Sim.sq (p1 := 10) (s_alen dX2_putMark_9) ?_
    refine Sim.sq (p1 := 13) (s_icmp_ge dX2_putMark_10 (by decide) rfl) ?_
    refine Sim.sq (p1 := 14) (s_aload_n rfl dX2_putMark_13) ?_
    refine Sim.sq (p1 := 17) (s_getr (rfl : vwCl[2]? = some (RX2, TX2, 7)) (by decide) (by decide) inG2 kw183 rfl dX2_putMark_14) ?_
    refine Sim.sq (p1 := 18) (s_iload_n rfl dX2_putMark_17) ?_
    refine Sim.sq (p1 := 19) (s_iload_n rfl dX2_putMark_18) ?_
    exact (s_iast dX2_putMark_19)
  exact (s_vret rfl dX2_putMark_20)
set_option maxRecDepth 100000 in
set_option maxHeartbeats 4000000 in
theorem C_X2_putMark (l : Launch) : Ct l yX2_putMark cX2_putMark 3 none 0 0 m_X2_putMark := Ct_of (y := yX2_putMark) (by decide +kernel) S_X2_putMark
set_option maxRecDepth 100000 in
set_option maxHeartbeats 4000000 in
theorem S_X5_setMark {l : Launch} : Sim l (fun _ => True) RX5 "setMark" cX5_setMark 4 (some .int) 3 243 [] b_X5_setMark 0 50 := by
  unfold b_X5_setMark
  refine Sim.sq (p1 := 1) (s_iload_n rfl dX5_setMark_0) ?_
  refine Sim.sq (p1 := 19) (Sim.bk ?_) ?_
  · refine Sim.sq (p1 := 17) (Sim.bk ?_) ?_
    · refine Sim.sq (p1 := 4) (s_if_lt dX5_setMark_1 (by decide) rfl) ?_
      refine Sim.sq (p1 := 5) (s_iload_n rfl dX5_setMark_4) ?_
      refine Sim.sq (p1 := 6) (s_iconst (by decide +kernel) dX5_setMark_5) ?_
      refine Sim.sq (p1 := 9) (s_icmp_ge dX5_setMark_6 (by decide) rfl) ?_
      refine Sim.sq (p1 := 10) (s_aload_n rfl dX5_setMark_9) ?_
      refine Sim.sq (p1 := 11) (s_iload_n rfl dX5_setMark_10) ?_
      refine Sim.sq (p1 := 14) (s_callV (C_X5_isPosition l) (rfl : vwCl[5]? = some (RX5, TX5, 11)) (by decide) kw302 kw304 kw0 kw52 kw305 ⟨rfl, by decide +kernel, by decide +kernel, by decide +kernel⟩ ⟨by decide, by decide⟩ shN5 dX5_setMark_11) ?_
      exact (s_if_ne dX5_setMark_14 (by decide) rfl)
    refine Sim.sq (p1 := 18) (s_iconst (by decide +kernel) dX5_setMark_17) ?_
    exact (s_iret rfl dX5_setMark_18)
  refine Sim.sq (p1 := 20) (s_aload_n rfl dX5_setMark_19) ?_
  refine Sim.sq (p1 := 23) (s_getr (rfl : vwCl[5]? = some (RX5, TX5, 11)) (by decide) (by decide) inG5 kw234 rfl dX5_setMark_20) ?_
  refine Sim.sq (p1 := 24) (s_iload_n rfl dX5_setMark_23) ?_
  refine Sim.sq (p1 := 27) (s_callV (C_X2_markAt l) (rfl : vwCl[2]? = some (RX2, TX2, 7)) (by decide) kw620 kw621 kw622 kw56 kw623 ⟨rfl, by decide +kernel, by decide +kernel, by decide +kernel⟩ ⟨by decide, by decide⟩ shN2 dX5_setMark_24) ?_
  refine Sim.sq (p1 := 28) (s_istore_n rfl (by decide) dX5_setMark_27) ?_
  refine Sim.sq (p1 := 29) (s_aload_n rfl dX5_setMark_28) ?_
  refine Sim.sq (p1 := 32) (s_getr (rfl : vwCl[5]? = some (RX5, TX5, 11)) (by decide) (by decide) inG5 kw235 rfl dX5_setMark_29) ?_
  refine Sim.sq (p1 := 33) (s_aload_n rfl dX5_setMark_32) ?_
  refine Sim.sq (p1 := 36) (s_getr (rfl : vwCl[5]? = some (RX5, TX5, 11)) (by decide) (by decide) inG5 kw234 rfl dX5_setMark_33) ?_
  refine Sim.sq (p1 := 39) (s_callV (C_X0_save l) (rfl : vwCl[0]? = some (RX0, TX0, 3)) (by decide) kw268 kw269 kw270 kw58 kw271 ⟨rfl, by decide +kernel, by decide +kernel, by decide +kernel⟩ ⟨by decide, by decide⟩ shN0 dX5_setMark_36) ?_
  refine Sim.sq (p1 := 40) (s_aload_n rfl dX5_setMark_39) ?_
  refine Sim.sq (p1 := 43) (s_getr (rfl : vwCl[5]? = some (RX5, TX5, 11)) (by decide) (by decide) inG5 kw234 rfl dX5_setMark_40) ?_
  refine Sim.sq (p1 := 44) (s_iload_n rfl dX5_setMark_43) ?_
  refine Sim.sq (p1 := 45) (s_iload_n rfl dX5_setMark_44) ?_
  refine Sim.sq (p1 := 48) (s_callV (C_X2_putMark l) (rfl : vwCl[2]? = some (RX2, TX2, 7)) (by decide) kw624 kw625 kw626 kw56 kw627 ⟨rfl, by decide +kernel, by decide +kernel, by decide +kernel⟩ ⟨by decide, by decide⟩ shN2 dX5_setMark_45) ?_
  refine Sim.sq (p1 := 49) (s_iload_n rfl dX5_setMark_48) ?_
  exact (s_iret rfl dX5_setMark_49)
set_option maxRecDepth 100000 in
set_option maxHeartbeats 4000000 in
theorem C_X5_setMark (l : Launch) : Ct l yX5_setMark cX5_setMark 4 (some .int) 3 243 m_X5_setMark := Ct_of (y := yX5_setMark) (by decide +kernel) S_X5_setMark
set_option maxRecDepth 100000 in
set_option maxHeartbeats 4000000 in
theorem S_X6_isMark {l : Launch} : Sim l (fun _ => True) RX6 "isMark" cX6_isMark 1 (some .boolean) 1 22 [] b_X6_isMark 0 7 := by
  unfold b_X6_isMark
  refine Sim.sq (p1 := 1) (s_iload_n rfl dX6_isMark_0) ?_
  refine Sim.sq (p1 := 2) (s_iconst (by decide +kernel) dX6_isMark_1) ?_
  refine Sim.sq (p1 := 3) (s_iconst (by decide +kernel) dX6_isMark_2) ?_
  refine Sim.sq (p1 := 6) (s_callS (y := yX6_within) (C_X6_within l) kw741 kw742 kw59 kw743 ⟨by decide +kernel, by decide +kernel, by decide +kernel⟩ ⟨by decide, by decide⟩ dX6_isMark_3) ?_
  exact (s_zret rfl dX6_isMark_6)
set_option maxRecDepth 100000 in
set_option maxHeartbeats 4000000 in
theorem C_X6_isMark (l : Launch) : Ct l yX6_isMark cX6_isMark 1 (some .boolean) 1 22 m_X6_isMark := Ct_of (y := yX6_isMark) (by decide +kernel) S_X6_isMark
set_option maxRecDepth 100000 in
set_option maxHeartbeats 4000000 in
theorem S_X6_setMark {l : Launch} : Sim l (fun _ => True) RX6 "setMark" cX6_setMark 4 (some .int) 2 43 [] b_X6_setMark 0 41 := by
  unfold b_X6_setMark
  refine Sim.sq (p1 := 1) (s_iload_n rfl dX6_setMark_0) ?_
  refine Sim.sq (p1 := 4) (s_callS (y := yX6_isMark) (C_X6_isMark l) kw985 kw986 kw59 kw987 ⟨by decide +kernel, by decide +kernel, by decide +kernel⟩ ⟨by decide, by decide⟩ dX6_setMark_1) ?_
  refine Sim.sq (p1 := 17) (Sim.bk ?_) ?_
  · refine Sim.sq (p1 := 15) (Sim.bk ?_) ?_
    · refine Sim.sq (p1 := 7) (s_if_eq dX6_setMark_4 (by decide) rfl) ?_
      refine Sim.sq (p1 := 8) (s_aload_n rfl dX6_setMark_7) ?_
      refine Sim.sq (p1 := 9) (s_iload_n rfl dX6_setMark_8) ?_
      refine Sim.sq (p1 := 12) (s_callV (C_X6_isPosition l) (rfl : vwCl[6]? = some (RX6, TX6, 12)) (by decide) kw764 kw766 kw18 kw59 kw767 ⟨rfl, by decide +kernel, by decide +kernel, by decide +kernel⟩ ⟨by decide, by decide⟩ shN6 dX6_setMark_9) ?_
      exact (s_if_ne dX6_setMark_12 (by decide) rfl)
    refine Sim.sq (p1 := 16) (s_iconst (by decide +kernel) dX6_setMark_15) ?_
    exact (s_iret rfl dX6_setMark_16)
  refine Sim.sq (p1 := 18) (s_aload_n rfl dX6_setMark_17) ?_
  refine Sim.sq (p1 := 21) (s_callV (C_X6_record l) (rfl : vwCl[6]? = some (RX6, TX6, 12)) (by decide) kw744 kw746 kw17 kw59 kw747 ⟨rfl, by decide +kernel, by decide +kernel, by decide +kernel⟩ ⟨by decide, by decide⟩ shN6 dX6_setMark_18) ?_
  refine Sim.sq (p1 := 22) (s_aload_n rfl dX6_setMark_21) ?_
  refine Sim.sq (p1 := 25) (s_getr (rfl : vwCl[6]? = some (RX6, TX6, 12)) (by decide) (by decide) inG6 kw701 rfl dX6_setMark_22) ?_
  refine Sim.sq (p1 := 26) (s_iconst (by decide +kernel) dX6_setMark_25) ?_
  refine Sim.sq (p1 := 27) (s_iload_n rfl dX6_setMark_26) ?_
  refine Sim.sq (p1 := 28) (s_iadd dX6_setMark_27) ?_
  refine Sim.sq (p1 := 29) (s_iald dX6_setMark_28) ?_
  refine Sim.sq (p1 := 30) (s_istore_n rfl (by decide) dX6_setMark_29) ?_
  refine Sim.sq (p1 := 31) (s_aload_n rfl dX6_setMark_30) ?_
  refine Sim.sq (p1 := 34) (s_getr (rfl : vwCl[6]? = some (RX6, TX6, 12)) (by decide) (by decide) inG6 kw701 rfl dX6_setMark_31) ?_
  refine Sim.sq (p1 := 35) (s_iconst (by decide +kernel) dX6_setMark_34) ?_
  refine Sim.sq (p1 := 36) (s_iload_n rfl dX6_setMark_35) ?_
  refine Sim.sq (p1 := 37) (s_iadd dX6_setMark_36) ?_
  refine Sim.sq (p1 := 38) (s_iload_n rfl dX6_setMark_37) ?_
  refine Sim.sq (p1 := 39) (s_iast dX6_setMark_38) ?_
  refine Sim.sq (p1 := 40) (s_iload_n rfl dX6_setMark_39) ?_
  exact (s_iret rfl dX6_setMark_40)
set_option maxRecDepth 100000 in
set_option maxHeartbeats 4000000 in
theorem C_X6_setMark (l : Launch) : Ct l yX6_setMark cX6_setMark 4 (some .int) 2 43 m_X6_setMark := Ct_of (y := yX6_setMark) (by decide +kernel) S_X6_setMark
set_option maxRecDepth 100000 in
set_option maxHeartbeats 4000000 in
theorem S_X5_mark {l : Launch} : Sim l (fun _ => True) RX5 "mark" cX5_mark 2 (some .int) 1 21 [] b_X5_mark 0 20 := by
  unfold b_X5_mark
  refine Sim.sq (p1 := 1) (s_iload_n rfl dX5_mark_0) ?_
  refine Sim.sq (p1 := 11) (Sim.bk ?_) ?_
  · refine Sim.sq (p1 := 9) (Sim.bk ?_) ?_
    · refine Sim.sq (p1 := 4) (s_if_lt dX5_mark_1 (by decide) rfl) ?_
      refine Sim.sq (p1 := 5) (s_iload_n rfl dX5_mark_4) ?_
      refine Sim.sq (p1 := 6) (s_iconst (by decide +kernel) dX5_mark_5) ?_
      exact (s_icmp_lt dX5_mark_6 (by decide) rfl)
    refine Sim.sq (p1 := 10) (s_iconst (by decide +kernel) dX5_mark_9) ?_
    exact (s_iret rfl dX5_mark_10)
  refine Sim.sq (p1 := 12) (s_aload_n rfl dX5_mark_11) ?_
  refine Sim.sq (p1 := 15) (s_getr (rfl : vwCl[5]? = some (RX5, TX5, 11)) (by decide) (by decide) inG5 kw234 rfl dX5_mark_12) ?_
  refine Sim.sq (p1 := 16) (s_iload_n rfl dX5_mark_15) ?_
  refine Sim.sq (p1 := 19) (s_callV (C_X2_markAt l) (rfl : vwCl[2]? = some (RX2, TX2, 7)) (by decide) kw620 kw621 kw622 kw56 kw623 ⟨rfl, by decide +kernel, by decide +kernel, by decide +kernel⟩ ⟨by decide, by decide⟩ shN2 dX5_mark_16) ?_
  exact (s_iret rfl dX5_mark_19)
set_option maxRecDepth 100000 in
set_option maxHeartbeats 4000000 in
theorem C_X5_mark (l : Launch) : Ct l yX5_mark cX5_mark 2 (some .int) 1 21 m_X5_mark := Ct_of (y := yX5_mark) (by decide +kernel) S_X5_mark
set_option maxRecDepth 100000 in
set_option maxHeartbeats 4000000 in
theorem S_X6_mark {l : Launch} : Sim l (fun _ => True) RX6 "mark" cX6_mark 2 (some .int) 2 42 [] b_X6_mark 0 20 := by
  unfold b_X6_mark
  refine Sim.sq (p1 := 1) (s_iload_n rfl dX6_mark_0) ?_
  refine Sim.sq (p1 := 4) (s_callS (y := yX6_isMark) (C_X6_isMark l) kw985 kw986 kw59 kw987 ⟨by decide +kernel, by decide +kernel, by decide +kernel⟩ ⟨by decide, by decide⟩ dX6_mark_1) ?_
  refine Sim.sq (p1 := 19) (Sim.bk ?_) ?_
  · refine Sim.sq (p1 := 18) (Sim.bk ?_) ?_
    · refine Sim.sq (p1 := 7) (s_if_eq dX6_mark_4 (by decide) rfl) ?_
      refine Sim.sq (p1 := 8) (s_aload_n rfl dX6_mark_7) ?_
      refine Sim.sq (p1 := 11) (s_getr (rfl : vwCl[6]? = some (RX6, TX6, 12)) (by decide) (by decide) inG6 kw701 rfl dX6_mark_8) ?_
      refine Sim.sq (p1 := 12) (s_iconst (by decide +kernel) dX6_mark_11) ?_
      refine Sim.sq (p1 := 13) (s_iload_n rfl dX6_mark_12) ?_
      refine Sim.sq (p1 := 14) (s_iadd dX6_mark_13) ?_
      refine Sim.sq (p1 := 15) (s_iald dX6_mark_14) ?_
      exact (s_goto dX6_mark_15 (by decide) rfl)
    exact (s_iconst (by decide +kernel) dX6_mark_18)
  exact (s_iret rfl dX6_mark_19)
set_option maxRecDepth 100000 in
set_option maxHeartbeats 4000000 in
theorem C_X6_mark (l : Launch) : Ct l yX6_mark cX6_mark 2 (some .int) 2 42 m_X6_mark := Ct_of (y := yX6_mark) (by decide +kernel) S_X6_mark
set_option maxRecDepth 100000 in
set_option maxHeartbeats 4000000 in
theorem S_X5_ring {l : Launch} : Sim l (fun _ => True) RX5 "ring" cX5_ring 1 (some .int) 0 0 [] b_X5_ring 0 8 := by
  unfold b_X5_ring
  refine Sim.sq (p1 := 1) (s_aload_n rfl dX5_ring_0) ?_
  refine Sim.sq (p1 := 4) (s_getr (rfl : vwCl[5]? = some (RX5, TX5, 11)) (by decide) (by decide) inG5 kw234 rfl dX5_ring_1) ?_
  refine Sim.sq (p1 := 7) (s_getiN (rfl : vwCl[2]? = some (RX2, TX2, 7)) (by decide) (by decide) inG2 kn186 rfl dX5_ring_4) ?_
  exact (s_iret rfl dX5_ring_7)
set_option maxRecDepth 100000 in
set_option maxHeartbeats 4000000 in
theorem C_X5_ring (l : Launch) : Ct l yX5_ring cX5_ring 1 (some .int) 0 0 m_X5_ring := Ct_of (y := yX5_ring) (by decide +kernel) S_X5_ring
set_option maxRecDepth 100000 in
set_option maxHeartbeats 4000000 in
theorem S_X6_ring {l : Launch} : Sim l (fun _ => True) RX6 "ring" cX6_ring 1 (some .int) 0 0 [] b_X6_ring 0 7 := by
  unfold b_X6_ring
  refine Sim.sq (p1 := 1) (s_aload_n rfl dX6_ring_0) ?_
  refine Sim.sq (p1 := 4) (s_getr (rfl : vwCl[6]? = some (RX6, TX6, 12)) (by decide) (by decide) inG6 kw701 rfl dX6_ring_1) ?_
  refine Sim.sq (p1 := 5) (s_iconst (by decide +kernel) dX6_ring_4) ?_
  refine Sim.sq (p1 := 6) (s_iald dX6_ring_5) ?_
  exact (s_iret rfl dX6_ring_6)
set_option maxRecDepth 100000 in
set_option maxHeartbeats 4000000 in
theorem C_X6_ring (l : Launch) : Ct l yX6_ring cX6_ring 1 (some .int) 0 0 m_X6_ring := Ct_of (y := yX6_ring) (by decide +kernel) S_X6_ring
set_option maxRecDepth 100000 in
set_option maxHeartbeats 4000000 in
theorem S_X5_ofRing {l : Launch} : Sim l (fun _ => True) RX5 "ofRing" cX5_ofRing 4 (some .int) 3 75 [] b_X5_ofRing 0 89 := by
  unfold b_X5_ofRing
  refine Sim.sq (p1 := 1) (s_aload_n rfl dX5_ofRing_0) ?_
  refine Sim.sq (p1 := 4) (s_getr (rfl : vwCl[5]? = some (RX5, TX5, 11)) (by decide) (by decide) inG5 kw234 rfl dX5_ofRing_1) ?_
  refine Sim.sq (p1 := 5) (s_iload_n rfl dX5_ofRing_4) ?_
  refine Sim.sq (p1 := 8) (s_callV (C_X2_hasInRing l) (rfl : vwCl[2]? = some (RX2, TX2, 7)) (by decide) kw507 kw340 kw341 kw56 kw342 ⟨rfl, by decide +kernel, by decide +kernel, by decide +kernel⟩ ⟨by decide, by decide⟩ shN2 dX5_ofRing_5) ?_
  refine Sim.sq (p1 := 13) (Sim.bk ?_) ?_
  · refine Sim.sq (p1 := 11) (s_if_ne dX5_ofRing_8 (by decide) rfl) ?_
    refine Sim.sq (p1 := 12) (s_iconst (by decide +kernel) dX5_ofRing_11) ?_
    exact (s_iret rfl dX5_ofRing_12)
  refine Sim.sq (p1 := 14) (s_aload_n rfl dX5_ofRing_13) ?_
  refine Sim.sq (p1 := 17) (s_getr (rfl : vwCl[5]? = some (RX5, TX5, 11)) (by decide) (by decide) inG5 kw234 rfl dX5_ofRing_14) ?_
  refine Sim.sq (p1 := 18) (s_iload_n rfl dX5_ofRing_17) ?_
  refine Sim.sq (p1 := 21) (s_callV (C_X2_ropeOfRing l) (rfl : vwCl[2]? = some (RX2, TX2, 7)) (by decide) kw335 kw336 kw337 kw56 kw338 ⟨rfl, by decide +kernel, by decide +kernel, by decide +kernel⟩ ⟨by decide, by decide⟩ shN2 dX5_ofRing_18) ?_
  refine Sim.sq (p1 := 22) (s_istore_n rfl (by decide) dX5_ofRing_21) ?_
  refine Sim.sq (p1 := 23) (s_iload_n rfl dX5_ofRing_22) ?_
  refine Sim.sq (p1 := 86) (Sim.bk ?_) ?_
  · refine Sim.sq (p1 := 66) (Sim.bk ?_) ?_
    · refine Sim.sq (p1 := 57) (Sim.bk ?_) ?_
      · refine Sim.sq (p1 := 48) (Sim.bk ?_) ?_
        · exact (s_tsw dX5_ofRing_23 ⟨_, rfl, by decide⟩ (by decide +kernel))
        refine Sim.sq (p1 := 49) (s_aload_n rfl dX5_ofRing_48) ?_
        refine Sim.sq (p1 := 52) (s_getr (rfl : vwCl[5]? = some (RX5, TX5, 11)) (by decide) (by decide) inG5 kw231 rfl dX5_ofRing_49) ?_
        refine Sim.sq (p1 := 53) (s_iload_n rfl dX5_ofRing_52) ?_
        refine Sim.sq (p1 := 56) (s_callV (C_X1_sizeOf l) (rfl : vwCl[1]? = some (RX1, TX1, 10)) (by decide) kw310 kw311 kw312 kw54 kw313 ⟨rfl, by decide +kernel, by decide +kernel, by decide +kernel⟩ ⟨by decide, by decide⟩ shN1 dX5_ofRing_53) ?_
        exact (s_iret rfl dX5_ofRing_56)
      refine Sim.sq (p1 := 58) (s_aload_n rfl dX5_ofRing_57) ?_
      refine Sim.sq (p1 := 61) (s_getr (rfl : vwCl[5]? = some (RX5, TX5, 11)) (by decide) (by decide) inG5 kw231 rfl dX5_ofRing_58) ?_
      refine Sim.sq (p1 := 62) (s_iload_n rfl dX5_ofRing_61) ?_
      refine Sim.sq (p1 := 65) (s_callV (C_X1_heightOf l) (rfl : vwCl[1]? = some (RX1, TX1, 10)) (by decide) kw536 kw381 kw382 kw54 kw383 ⟨rfl, by decide +kernel, by decide +kernel, by decide +kernel⟩ ⟨by decide, by decide⟩ shN1 dX5_ofRing_62) ?_
      exact (s_iret rfl dX5_ofRing_65)
    refine Sim.sq (p1 := 67) (s_aload_n rfl dX5_ofRing_66) ?_
    refine Sim.sq (p1 := 70) (s_getr (rfl : vwCl[5]? = some (RX5, TX5, 11)) (by decide) (by decide) inG5 kw232 rfl dX5_ofRing_67) ?_
    refine Sim.sq (p1 := 71) (s_aload_n rfl dX5_ofRing_70) ?_
    refine Sim.sq (p1 := 74) (s_getr (rfl : vwCl[5]? = some (RX5, TX5, 11)) (by decide) (by decide) inG5 kw231 rfl dX5_ofRing_71) ?_
    refine Sim.sq (p1 := 75) (s_iload_n rfl dX5_ofRing_74) ?_
    refine Sim.sq (p1 := 78) (s_callV (C_X3_read l) (rfl : vwCl[3]? = some (RX3, TX3, 8)) (by decide) kw458 kw459 kw460 kw55 kw461 ⟨rfl, by decide +kernel, by decide +kernel, by decide +kernel⟩ ⟨by decide, by decide⟩ shN3 dX5_ofRing_75) ?_
    refine Sim.sq (p1 := 79) (s_aload_n rfl dX5_ofRing_78) ?_
    refine Sim.sq (p1 := 82) (s_getr (rfl : vwCl[5]? = some (RX5, TX5, 11)) (by decide) (by decide) inG5 kw232 rfl dX5_ofRing_79) ?_
    refine Sim.sq (p1 := 85) (s_getiN (rfl : vwCl[3]? = some (RX3, TX3, 8)) (by decide) (by decide) inG3 kn156 rfl dX5_ofRing_82) ?_
    exact (s_iret rfl dX5_ofRing_85)
  refine Sim.sq (p1 := 88) (s_bipush (by decide +kernel) dX5_ofRing_86) ?_
  exact (s_iret rfl dX5_ofRing_88)
set_option maxRecDepth 100000 in
set_option maxHeartbeats 4000000 in
theorem C_X5_ofRing (l : Launch) : Ct l yX5_ofRing cX5_ofRing 4 (some .int) 3 75 m_X5_ofRing := Ct_of (y := yX5_ofRing) (by decide +kernel) S_X5_ofRing
set_option maxRecDepth 100000 in
set_option maxHeartbeats 4000000 in
theorem S_X6_ofRing {l : Launch} : Sim l (fun _ => True) RX6 "ofRing" cX6_ofRing 3 (some .int) 2 45 [] b_X6_ofRing 0 57 := by
  unfold b_X6_ofRing
  refine Sim.sq (p1 := 1) (s_aload_n rfl dX6_ofRing_0) ?_
  refine Sim.sq (p1 := 2) (s_iload_n rfl dX6_ofRing_1) ?_
  refine Sim.sq (p1 := 5) (s_callV (C_X6_isInRing l) (rfl : vwCl[6]? = some (RX6, TX6, 12)) (by decide) kw895 kw897 kw46 kw59 kw898 ⟨rfl, by decide +kernel, by decide +kernel, by decide +kernel⟩ ⟨by decide, by decide⟩ shN6 dX6_ofRing_2) ?_
  refine Sim.sq (p1 := 10) (Sim.bk ?_) ?_
  · refine Sim.sq (p1 := 8) (s_if_ne dX6_ofRing_5 (by decide) rfl) ?_
    refine Sim.sq (p1 := 9) (s_iconst (by decide +kernel) dX6_ofRing_8) ?_
    exact (s_iret rfl dX6_ofRing_9)
  refine Sim.sq (p1 := 11) (s_iload_n rfl dX6_ofRing_10) ?_
  refine Sim.sq (p1 := 56) (Sim.bk ?_) ?_
  · refine Sim.sq (p1 := 24) (Sim.bk ?_) ?_
    · refine Sim.sq (p1 := 14) (s_if_ne dX6_ofRing_11 (by decide) rfl) ?_
      refine Sim.sq (p1 := 15) (s_aload_n rfl dX6_ofRing_14) ?_
      refine Sim.sq (p1 := 16) (s_iconst (by decide +kernel) dX6_ofRing_15) ?_
      refine Sim.sq (p1 := 17) (s_iload_n rfl dX6_ofRing_16) ?_
      refine Sim.sq (p1 := 18) (s_iadd dX6_ofRing_17) ?_
      refine Sim.sq (p1 := 21) (s_callV (C_X6_lengthOf l) (rfl : vwCl[6]? = some (RX6, TX6, 12)) (by decide) kw768 kw770 kw19 kw59 kw771 ⟨rfl, by decide +kernel, by decide +kernel, by decide +kernel⟩ ⟨by decide, by decide⟩ shN6 dX6_ofRing_18) ?_
      exact (s_goto dX6_ofRing_21 (by decide) rfl)
    refine Sim.sq (p1 := 25) (s_iload_n rfl dX6_ofRing_24) ?_
    refine Sim.sq (p1 := 26) (s_iconst (by decide +kernel) dX6_ofRing_25) ?_
    refine Sim.sq (p1 := 39) (Sim.bk ?_) ?_
    · refine Sim.sq (p1 := 29) (s_icmp_ne dX6_ofRing_26 (by decide) rfl) ?_
      refine Sim.sq (p1 := 30) (s_aload_n rfl dX6_ofRing_29) ?_
      refine Sim.sq (p1 := 31) (s_iconst (by decide +kernel) dX6_ofRing_30) ?_
      refine Sim.sq (p1 := 32) (s_iload_n rfl dX6_ofRing_31) ?_
      refine Sim.sq (p1 := 33) (s_iadd dX6_ofRing_32) ?_
      refine Sim.sq (p1 := 36) (s_callV (C_X6_depthOf l) (rfl : vwCl[6]? = some (RX6, TX6, 12)) (by decide) kw859 kw861 kw41 kw59 kw862 ⟨rfl, by decide +kernel, by decide +kernel, by decide +kernel⟩ ⟨by decide, by decide⟩ shN6 dX6_ofRing_33) ?_
      exact (s_goto dX6_ofRing_36 (by decide) rfl)
    refine Sim.sq (p1 := 40) (s_iload_n rfl dX6_ofRing_39) ?_
    refine Sim.sq (p1 := 41) (s_iconst (by decide +kernel) dX6_ofRing_40) ?_
    refine Sim.sq (p1 := 54) (Sim.bk ?_) ?_
    · refine Sim.sq (p1 := 44) (s_icmp_ne dX6_ofRing_41 (by decide) rfl) ?_
      refine Sim.sq (p1 := 45) (s_aload_n rfl dX6_ofRing_44) ?_
      refine Sim.sq (p1 := 46) (s_iconst (by decide +kernel) dX6_ofRing_45) ?_
      refine Sim.sq (p1 := 47) (s_iload_n rfl dX6_ofRing_46) ?_
      refine Sim.sq (p1 := 48) (s_iadd dX6_ofRing_47) ?_
      refine Sim.sq (p1 := 51) (s_callV (C_X6_many l) (rfl : vwCl[6]? = some (RX6, TX6, 12)) (by decide) kw788 kw790 kw24 kw59 kw791 ⟨rfl, by decide +kernel, by decide +kernel, by decide +kernel⟩ ⟨by decide, by decide⟩ shN6 dX6_ofRing_48) ?_
      exact (s_goto dX6_ofRing_51 (by decide) rfl)
    exact (s_bipush (by decide +kernel) dX6_ofRing_54)
  exact (s_iret rfl dX6_ofRing_56)
set_option maxRecDepth 100000 in
set_option maxHeartbeats 4000000 in
theorem C_X6_ofRing (l : Launch) : Ct l yX6_ofRing cX6_ofRing 3 (some .int) 2 45 m_X6_ofRing := Ct_of (y := yX6_ofRing) (by decide +kernel) S_X6_ofRing
