set_option maxRecDepth 100000 in
set_option maxHeartbeats 4000000 in
theorem S_X4_ropeOfCodes {l : Launch} : Sim l (fun _ => True) RX4 "ropeOfCodes" cX4_ropeOfCodes 7 (some .int) 17 438 [] b_X4_ropeOfCodes 0 101 := by
  unfold b_X4_ropeOfCodes
  refine Sim.sq (p1 := 1) (s_iconst (by decide +kernel) dX4_ropeOfCodes_0) ?_
  refine Sim.sq (p1 := 3) (s_istore (by decide) dX4_ropeOfCodes_1) ?_
  refine Sim.sq (p1 := 4) (s_iconst (by decide +kernel) dX4_ropeOfCodes_3) ?_
  refine Sim.sq (p1 := 6) (s_istore (by decide) dX4_ropeOfCodes_4) ?_
  refine Sim.sq (p1 := 7) (s_iconst (by decide +kernel) dX4_ropeOfCodes_6) ?_
  refine Sim.sq (p1 := 9) (s_istore (by decide) dX4_ropeOfCodes_7) ?_
  refine Sim.sq (p1 := 90) (Sim.lp ?_) ?_
  · refine Sim.sq (p1 := 11) (s_iload dX4_ropeOfCodes_9) ?_
    refine Sim.sq (p1 := 12) (s_iload_n rfl dX4_ropeOfCodes_11) ?_
    refine Sim.bk ?_
    refine Sim.sq (p1 := 15) (s_icmp_ge dX4_ropeOfCodes_12 (by decide) rfl) ?_
    refine Sim.sq (p1 := 17) (s_iload dX4_ropeOfCodes_15) ?_
    refine Sim.sq (p1 := 18) (s_aload_n rfl dX4_ropeOfCodes_17) ?_
    refine Sim.sq (p1 := 19) (s_alen dX4_ropeOfCodes_18) ?_
    refine Sim.sq (p1 := 22) (s_icmp_ge dX4_ropeOfCodes_19 (by decide) rfl) ?_
    refine Sim.sq (p1 := 24) (s_iload dX4_ropeOfCodes_22) ?_
    refine Sim.sq (p1 := 25) (s_aload_n rfl dX4_ropeOfCodes_24) ?_
    refine Sim.sq (p1 := 28) (s_getr (rfl : vwCl[4]? = some (RX4, TX4, 6)) (by decide) (by decide) inG4 kw121 rfl dX4_ropeOfCodes_25) ?_
    refine Sim.sq (p1 := 29) (s_alen dX4_ropeOfCodes_28) ?_
    refine Sim.sq (p1 := 71) (Sim.bk ?_) ?_
    · refine Sim.sq (p1 := 32) (s_icmp_ge dX4_ropeOfCodes_29 (by decide) rfl) ?_
      refine Sim.sq (p1 := 34) (s_iload dX4_ropeOfCodes_32) ?_
      refine Sim.sq (p1 := 50) (Sim.bk ?_) ?_
      · refine Sim.sq (p1 := 37) (s_if_eq dX4_ropeOfCodes_34 (by decide) rfl) ?_
        refine Sim.sq (p1 := 38) (s_aload_n rfl dX4_ropeOfCodes_37) ?_
        refine Sim.sq (p1 := 41) (s_getr (rfl : vwCl[4]? = some (RX4, TX4, 6)) (by decide) (by decide) inG4 kw117 rfl dX4_ropeOfCodes_38) ?_
        refine Sim.sq (p1 := 43) (s_iload dX4_ropeOfCodes_41) ?_
        refine Sim.sq (p1 := 46) (s_callV (C_X1_sizeOf l) (rfl : vwCl[1]? = some (RX1, TX1, 10)) (by decide) kw352 kw311 kw312 kw54 kw313 ⟨rfl, by decide +kernel, by decide +kernel, by decide +kernel⟩ ⟨by decide, by decide⟩ shN1 dX4_ropeOfCodes_43) ?_
        refine Sim.sq (p1 := 47) (s_iload_n rfl dX4_ropeOfCodes_46) ?_
        exact (s_icmp_lt dX4_ropeOfCodes_47 (by decide) rfl)
      refine Sim.sq (p1 := 51) (s_aload_n rfl dX4_ropeOfCodes_50) ?_
      refine Sim.sq (p1 := 54) (s_getr (rfl : vwCl[4]? = some (RX4, TX4, 6)) (by decide) (by decide) inG4 kw117 rfl dX4_ropeOfCodes_51) ?_
      refine Sim.sq (p1 := 57) (s_callV (C_X1_newLeaf l) (rfl : vwCl[1]? = some (RX1, TX1, 10)) (by decide) kw353 kw354 kw355 kw54 kw356 ⟨rfl, by decide +kernel, by decide +kernel, by decide +kernel⟩ ⟨by decide, by decide⟩ shN1 dX4_ropeOfCodes_54) ?_
      refine Sim.sq (p1 := 59) (s_istore (by decide) dX4_ropeOfCodes_57) ?_
      refine Sim.sq (p1 := 60) (s_aload_n rfl dX4_ropeOfCodes_59) ?_
      refine Sim.sq (p1 := 63) (s_getr (rfl : vwCl[4]? = some (RX4, TX4, 6)) (by decide) (by decide) inG4 kw121 rfl dX4_ropeOfCodes_60) ?_
      refine Sim.sq (p1 := 65) (s_iload dX4_ropeOfCodes_63) ?_
      refine Sim.sq (p1 := 67) (s_iload dX4_ropeOfCodes_65) ?_
      refine Sim.sq (p1 := 68) (s_iast dX4_ropeOfCodes_67) ?_
      exact (s_iinc (by decide +kernel) (by decide) dX4_ropeOfCodes_68)
    refine Sim.sq (p1 := 72) (s_aload_n rfl dX4_ropeOfCodes_71) ?_
    refine Sim.sq (p1 := 75) (s_getr (rfl : vwCl[4]? = some (RX4, TX4, 6)) (by decide) (by decide) inG4 kw117 rfl dX4_ropeOfCodes_72) ?_
    refine Sim.sq (p1 := 77) (s_iload dX4_ropeOfCodes_75) ?_
    refine Sim.sq (p1 := 78) (s_aload_n rfl dX4_ropeOfCodes_77) ?_
    refine Sim.sq (p1 := 80) (s_iload dX4_ropeOfCodes_78) ?_
    refine Sim.sq (p1 := 81) (s_iald dX4_ropeOfCodes_80) ?_
    refine Sim.sq (p1 := 84) (s_callV (C_X1_append l) (rfl : vwCl[1]? = some (RX1, TX1, 10)) (by decide) kw364 kw365 kw366 kw54 kw367 ⟨rfl, by decide +kernel, by decide +kernel, by decide +kernel⟩ ⟨by decide, by decide⟩ shN1 dX4_ropeOfCodes_81) ?_
    refine Sim.sq (p1 := 87) (s_iinc (by decide +kernel) (by decide) dX4_ropeOfCodes_84) ?_
    exact (s_goto dX4_ropeOfCodes_87 (by decide) rfl)
  refine Sim.sq (p1 := 91) (s_aload_n rfl dX4_ropeOfCodes_90) ?_
  refine Sim.sq (p1 := 92) (s_aload_n rfl dX4_ropeOfCodes_91) ?_
  refine Sim.sq (p1 := 95) (s_getr (rfl : vwCl[4]? = some (RX4, TX4, 6)) (by decide) (by decide) inG4 kw121 rfl dX4_ropeOfCodes_92) ?_
  refine Sim.sq (p1 := 97) (s_iload dX4_ropeOfCodes_95) ?_
  refine Sim.sq (p1 := 100) (s_callV (C_X4_ropeOfLeaves l) (rfl : vwCl[4]? = some (RX4, TX4, 6)) (by decide) kw368 kw369 kw370 kw53 kw371 ⟨rfl, by decide +kernel, by decide +kernel, by decide +kernel⟩ ⟨by decide, by decide⟩ shN4 dX4_ropeOfCodes_97) ?_
  exact (s_iret rfl dX4_ropeOfCodes_100)
set_option maxRecDepth 100000 in
set_option maxHeartbeats 4000000 in
theorem C_X4_ropeOfCodes (l : Launch) : Ct l yX4_ropeOfCodes cX4_ropeOfCodes 7 (some .int) 17 438 m_X4_ropeOfCodes := Ct_of (y := yX4_ropeOfCodes) (by decide +kernel) S_X4_ropeOfCodes
set_option maxRecDepth 100000 in
set_option maxHeartbeats 4000000 in
theorem S_X1_isPair {l : Launch} : Sim l (fun _ => True) RX1 "isPair" cX1_isPair 2 (some .boolean) 0 0 [] b_X1_isPair 0 26 := by
  unfold b_X1_isPair
  refine Sim.sq (p1 := 1) (s_iload_n rfl dX1_isPair_0) ?_
  refine Sim.sq (p1 := 25) (Sim.bk ?_) ?_
  · refine Sim.sq (p1 := 24) (Sim.bk ?_) ?_
    · refine Sim.sq (p1 := 4) (s_if_le dX1_isPair_1 (by decide) rfl) ?_
      refine Sim.sq (p1 := 5) (s_iload_n rfl dX1_isPair_4) ?_
      refine Sim.sq (p1 := 8) (s_sipush (by decide +kernel) dX1_isPair_5) ?_
      refine Sim.sq (p1 := 11) (s_icmp_ge dX1_isPair_8 (by decide) rfl) ?_
      refine Sim.sq (p1 := 12) (s_aload_n rfl dX1_isPair_11) ?_
      refine Sim.sq (p1 := 15) (s_getr (rfl : vwCl[1]? = some (RX1, TX1, 10)) (by decide) (by decide) inG1 kw82 rfl dX1_isPair_12) ?_
      refine Sim.sq (p1 := 16) (s_iload_n rfl dX1_isPair_15) ?_
      refine Sim.sq (p1 := 17) (s_iald dX1_isPair_16) ?_
      refine Sim.sq (p1 := 20) (s_if_eq dX1_isPair_17 (by decide) rfl) ?_
      refine Sim.sq (p1 := 21) (s_iconst (by decide +kernel) dX1_isPair_20) ?_
      exact (s_goto dX1_isPair_21 (by decide) rfl)
    exact (s_iconst (by decide +kernel) dX1_isPair_24)
  exact (s_zret rfl dX1_isPair_25)
set_option maxRecDepth 100000 in
set_option maxHeartbeats 4000000 in
theorem C_X1_isPair (l : Launch) : Ct l yX1_isPair cX1_isPair 2 (some .boolean) 0 0 m_X1_isPair := Ct_of (y := yX1_isPair) (by decide +kernel) S_X1_isPair
set_option maxRecDepth 100000 in
set_option maxHeartbeats 4000000 in
theorem S_X1_leftOf {l : Launch} : Sim l (fun _ => True) RX1 "leftOf" cX1_leftOf 2 (some .int) 0 0 [] b_X1_leftOf 0 22 := by
  unfold b_X1_leftOf
  refine Sim.sq (p1 := 1) (s_iload_n rfl dX1_leftOf_0) ?_
  refine Sim.sq (p1 := 21) (Sim.bk ?_) ?_
  · refine Sim.sq (p1 := 20) (Sim.bk ?_) ?_
    · refine Sim.sq (p1 := 4) (s_if_le dX1_leftOf_1 (by decide) rfl) ?_
      refine Sim.sq (p1 := 5) (s_iload_n rfl dX1_leftOf_4) ?_
      refine Sim.sq (p1 := 8) (s_sipush (by decide +kernel) dX1_leftOf_5) ?_
      refine Sim.sq (p1 := 11) (s_icmp_ge dX1_leftOf_8 (by decide) rfl) ?_
      refine Sim.sq (p1 := 12) (s_aload_n rfl dX1_leftOf_11) ?_
      refine Sim.sq (p1 := 15) (s_getr (rfl : vwCl[1]? = some (RX1, TX1, 10)) (by decide) (by decide) inG1 kw82 rfl dX1_leftOf_12) ?_
      refine Sim.sq (p1 := 16) (s_iload_n rfl dX1_leftOf_15) ?_
      refine Sim.sq (p1 := 17) (s_iald dX1_leftOf_16) ?_
      exact (s_goto dX1_leftOf_17 (by decide) rfl)
    exact (s_iconst (by decide +kernel) dX1_leftOf_20)
  exact (s_iret rfl dX1_leftOf_21)
set_option maxRecDepth 100000 in
set_option maxHeartbeats 4000000 in
theorem C_X1_leftOf (l : Launch) : Ct l yX1_leftOf cX1_leftOf 2 (some .int) 0 0 m_X1_leftOf := Ct_of (y := yX1_leftOf) (by decide +kernel) S_X1_leftOf
set_option maxRecDepth 100000 in
set_option maxHeartbeats 4000000 in
theorem S_X4_liesInsideAPart {l : Launch} : Sim l (fun _ => True) RX4 "liesInsideAPart" cX4_liesInsideAPart 3 (some .boolean) 1 21 [] b_X4_liesInsideAPart 0 52 := by
  unfold b_X4_liesInsideAPart
  refine Sim.sq (p1 := 1) (s_aload_n rfl dX4_liesInsideAPart_0) ?_
  refine Sim.sq (p1 := 4) (s_getr (rfl : vwCl[4]? = some (RX4, TX4, 6)) (by decide) (by decide) inG4 kw117 rfl dX4_liesInsideAPart_1) ?_
  refine Sim.sq (p1 := 5) (s_iload_n rfl dX4_liesInsideAPart_4) ?_
  refine Sim.sq (p1 := 8) (s_callV (C_X1_isPair l) (rfl : vwCl[1]? = some (RX1, TX1, 10)) (by decide) kw396 kw397 kw398 kw54 kw399 ⟨rfl, by decide +kernel, by decide +kernel, by decide +kernel⟩ ⟨by decide, by decide⟩ shN1 dX4_liesInsideAPart_5) ?_
  refine Sim.sq (p1 := 51) (Sim.bk ?_) ?_
  · refine Sim.sq (p1 := 50) (Sim.bk ?_) ?_
    · refine Sim.sq (p1 := 11) (s_if_eq dX4_liesInsideAPart_8 (by decide) rfl) ?_
      refine Sim.sq (p1 := 12) (s_iload_n rfl dX4_liesInsideAPart_11) ?_
      refine Sim.sq (p1 := 15) (s_if_le dX4_liesInsideAPart_12 (by decide) rfl) ?_
      refine Sim.sq (p1 := 16) (s_iload_n rfl dX4_liesInsideAPart_15) ?_
      refine Sim.sq (p1 := 17) (s_aload_n rfl dX4_liesInsideAPart_16) ?_
      refine Sim.sq (p1 := 20) (s_getr (rfl : vwCl[4]? = some (RX4, TX4, 6)) (by decide) (by decide) inG4 kw117 rfl dX4_liesInsideAPart_17) ?_
      refine Sim.sq (p1 := 21) (s_iload_n rfl dX4_liesInsideAPart_20) ?_
      refine Sim.sq (p1 := 24) (s_callV (C_X1_sizeOf l) (rfl : vwCl[1]? = some (RX1, TX1, 10)) (by decide) kw352 kw311 kw312 kw54 kw313 ⟨rfl, by decide +kernel, by decide +kernel, by decide +kernel⟩ ⟨by decide, by decide⟩ shN1 dX4_liesInsideAPart_21) ?_
      refine Sim.sq (p1 := 27) (s_icmp_ge dX4_liesInsideAPart_24 (by decide) rfl) ?_
      refine Sim.sq (p1 := 28) (s_iload_n rfl dX4_liesInsideAPart_27) ?_
      refine Sim.sq (p1 := 29) (s_aload_n rfl dX4_liesInsideAPart_28) ?_
      refine Sim.sq (p1 := 32) (s_getr (rfl : vwCl[4]? = some (RX4, TX4, 6)) (by decide) (by decide) inG4 kw117 rfl dX4_liesInsideAPart_29) ?_
      refine Sim.sq (p1 := 33) (s_aload_n rfl dX4_liesInsideAPart_32) ?_
      refine Sim.sq (p1 := 36) (s_getr (rfl : vwCl[4]? = some (RX4, TX4, 6)) (by decide) (by decide) inG4 kw117 rfl dX4_liesInsideAPart_33) ?_
      refine Sim.sq (p1 := 37) (s_iload_n rfl dX4_liesInsideAPart_36) ?_
      refine Sim.sq (p1 := 40) (s_callV (C_X1_leftOf l) (rfl : vwCl[1]? = some (RX1, TX1, 10)) (by decide) kw400 kw401 kw402 kw54 kw403 ⟨rfl, by decide +kernel, by decide +kernel, by decide +kernel⟩ ⟨by decide, by decide⟩ shN1 dX4_liesInsideAPart_37) ?_
      refine Sim.sq (p1 := 43) (s_callV (C_X1_sizeOf l) (rfl : vwCl[1]? = some (RX1, TX1, 10)) (by decide) kw352 kw311 kw312 kw54 kw313 ⟨rfl, by decide +kernel, by decide +kernel, by decide +kernel⟩ ⟨by decide, by decide⟩ shN1 dX4_liesInsideAPart_40) ?_
      refine Sim.sq (p1 := 46) (s_icmp_eq dX4_liesInsideAPart_43 (by decide) rfl) ?_
      refine Sim.sq (p1 := 47) (s_iconst (by decide +kernel) dX4_liesInsideAPart_46) ?_
      exact (s_goto dX4_liesInsideAPart_47 (by decide) rfl)
    exact (s_iconst (by decide +kernel) dX4_liesInsideAPart_50)
  exact (s_zret rfl dX4_liesInsideAPart_51)
set_option maxRecDepth 100000 in
set_option maxHeartbeats 4000000 in
theorem C_X4_liesInsideAPart (l : Launch) : Ct l yX4_liesInsideAPart cX4_liesInsideAPart 3 (some .boolean) 1 21 m_X4_liesInsideAPart := Ct_of (y := yX4_liesInsideAPart) (by decide +kernel) S_X4_liesInsideAPart
set_option maxRecDepth 100000 in
set_option maxHeartbeats 4000000 in
theorem S_X1_rightOf {l : Launch} : Sim l (fun _ => True) RX1 "rightOf" cX1_rightOf 2 (some .int) 0 0 [] b_X1_rightOf 0 22 := by
  unfold b_X1_rightOf
  refine Sim.sq (p1 := 1) (s_iload_n rfl dX1_rightOf_0) ?_
  refine Sim.sq (p1 := 21) (Sim.bk ?_) ?_
  · refine Sim.sq (p1 := 20) (Sim.bk ?_) ?_
    · refine Sim.sq (p1 := 4) (s_if_le dX1_rightOf_1 (by decide) rfl) ?_
      refine Sim.sq (p1 := 5) (s_iload_n rfl dX1_rightOf_4) ?_
      refine Sim.sq (p1 := 8) (s_sipush (by decide +kernel) dX1_rightOf_5) ?_
      refine Sim.sq (p1 := 11) (s_icmp_ge dX1_rightOf_8 (by decide) rfl) ?_
      refine Sim.sq (p1 := 12) (s_aload_n rfl dX1_rightOf_11) ?_
      refine Sim.sq (p1 := 15) (s_getr (rfl : vwCl[1]? = some (RX1, TX1, 10)) (by decide) (by decide) inG1 kw83 rfl dX1_rightOf_12) ?_
      refine Sim.sq (p1 := 16) (s_iload_n rfl dX1_rightOf_15) ?_
      refine Sim.sq (p1 := 17) (s_iald dX1_rightOf_16) ?_
      exact (s_goto dX1_rightOf_17 (by decide) rfl)
    exact (s_iconst (by decide +kernel) dX1_rightOf_20)
  exact (s_iret rfl dX1_rightOf_21)
set_option maxRecDepth 100000 in
set_option maxHeartbeats 4000000 in
theorem C_X1_rightOf (l : Launch) : Ct l yX1_rightOf cX1_rightOf 2 (some .int) 0 0 m_X1_rightOf := Ct_of (y := yX1_rightOf) (by decide +kernel) S_X1_rightOf
set_option maxRecDepth 100000 in
set_option maxHeartbeats 4000000 in
theorem S_X1_codeOf {l : Launch} : Sim l (fun _ => True) RX1 "codeOf" cX1_codeOf 5 (some .int) 0 0 [] b_X1_codeOf 0 60 := by
  unfold b_X1_codeOf
  refine Sim.sq (p1 := 1) (s_iload_n rfl dX1_codeOf_0) ?_
  refine Sim.sq (p1 := 23) (Sim.bk ?_) ?_
  · refine Sim.sq (p1 := 21) (Sim.bk ?_) ?_
    · refine Sim.sq (p1 := 4) (s_if_le dX1_codeOf_1 (by decide) rfl) ?_
      refine Sim.sq (p1 := 5) (s_iload_n rfl dX1_codeOf_4) ?_
      refine Sim.sq (p1 := 8) (s_sipush (by decide +kernel) dX1_codeOf_5) ?_
      refine Sim.sq (p1 := 11) (s_icmp_ge dX1_codeOf_8 (by decide) rfl) ?_
      refine Sim.sq (p1 := 12) (s_iload_n rfl dX1_codeOf_11) ?_
      refine Sim.sq (p1 := 15) (s_if_lt dX1_codeOf_12 (by decide) rfl) ?_
      refine Sim.sq (p1 := 16) (s_iload_n rfl dX1_codeOf_15) ?_
      refine Sim.sq (p1 := 18) (s_bipush (by decide +kernel) dX1_codeOf_16) ?_
      exact (s_icmp_lt dX1_codeOf_18 (by decide) rfl)
    refine Sim.sq (p1 := 22) (s_iconst (by decide +kernel) dX1_codeOf_21) ?_
    exact (s_iret rfl dX1_codeOf_22)
  refine Sim.sq (p1 := 24) (s_iload_n rfl dX1_codeOf_23) ?_
  refine Sim.sq (p1 := 26) (s_bipush (by decide +kernel) dX1_codeOf_24) ?_
  refine Sim.sq (p1 := 44) (Sim.bk ?_) ?_
  · refine Sim.sq (p1 := 38) (Sim.bk ?_) ?_
    · refine Sim.sq (p1 := 29) (s_icmp_ge dX1_codeOf_26 (by decide) rfl) ?_
      refine Sim.sq (p1 := 30) (s_aload_n rfl dX1_codeOf_29) ?_
      refine Sim.sq (p1 := 33) (s_getr (rfl : vwCl[1]? = some (RX1, TX1, 10)) (by decide) (by decide) inG1 kw86 rfl dX1_codeOf_30) ?_
      refine Sim.sq (p1 := 34) (s_iload_n rfl dX1_codeOf_33) ?_
      refine Sim.sq (p1 := 35) (s_lald dX1_codeOf_34) ?_
      exact (s_goto dX1_codeOf_35 (by decide) rfl)
    refine Sim.sq (p1 := 39) (s_aload_n rfl dX1_codeOf_38) ?_
    refine Sim.sq (p1 := 42) (s_getr (rfl : vwCl[1]? = some (RX1, TX1, 10)) (by decide) (by decide) inG1 kw87 rfl dX1_codeOf_39) ?_
    refine Sim.sq (p1 := 43) (s_iload_n rfl dX1_codeOf_42) ?_
    exact (s_lald dX1_codeOf_43)
  refine Sim.sq (p1 := 45) (s_lstore_n rfl (by decide) dX1_codeOf_44) ?_
  refine Sim.sq (p1 := 46) (s_lload_n rfl dX1_codeOf_45) ?_
  refine Sim.sq (p1 := 48) (s_bipush (by decide +kernel) dX1_codeOf_46) ?_
  refine Sim.sq (p1 := 49) (s_iload_n rfl dX1_codeOf_48) ?_
  refine Sim.sq (p1 := 51) (s_bipush (by decide +kernel) dX1_codeOf_49) ?_
  refine Sim.sq (p1 := 52) (s_irem dX1_codeOf_51) ?_
  refine Sim.sq (p1 := 53) (s_imul dX1_codeOf_52) ?_
  refine Sim.sq (p1 := 54) (s_lushr dX1_codeOf_53) ?_
  refine Sim.sq (p1 := 57) (s_ldc2 kw420 dX1_codeOf_54) ?_
  refine Sim.sq (p1 := 58) (s_land dX1_codeOf_57) ?_
  refine Sim.sq (p1 := 59) (s_l2i dX1_codeOf_58) ?_
  exact (s_iret rfl dX1_codeOf_59)
set_option maxRecDepth 100000 in
set_option maxHeartbeats 4000000 in
theorem C_X1_codeOf (l : Launch) : Ct l yX1_codeOf cX1_codeOf 5 (some .int) 0 0 m_X1_codeOf := Ct_of (y := yX1_codeOf) (by decide +kernel) S_X1_codeOf
set_option maxRecDepth 100000 in
set_option maxHeartbeats 4000000 in
theorem S_X1_appendCodes {l : Launch} : Sim l (fun _ => True) RX1 "appendCodes" cX1_appendCodes 6 none 1 25 [] b_X1_appendCodes 0 29 := by
  unfold b_X1_appendCodes
  refine Sim.sq (p1 := 1) (s_iload_n rfl dX1_appendCodes_0) ?_
  refine Sim.sq (p1 := 3) (s_istore (by decide) dX1_appendCodes_1) ?_
  refine Sim.sq (p1 := 28) (Sim.lp ?_) ?_
  · refine Sim.sq (p1 := 5) (s_iload dX1_appendCodes_3) ?_
    refine Sim.sq (p1 := 7) (s_iload dX1_appendCodes_5) ?_
    refine Sim.bk ?_
    refine Sim.sq (p1 := 10) (s_icmp_ge dX1_appendCodes_7 (by decide) rfl) ?_
    refine Sim.sq (p1 := 11) (s_aload_n rfl dX1_appendCodes_10) ?_
    refine Sim.sq (p1 := 12) (s_iload_n rfl dX1_appendCodes_11) ?_
    refine Sim.sq (p1 := 13) (s_aload_n rfl dX1_appendCodes_12) ?_
    refine Sim.sq (p1 := 14) (s_iload_n rfl dX1_appendCodes_13) ?_
    refine Sim.sq (p1 := 16) (s_iload dX1_appendCodes_14) ?_
    refine Sim.sq (p1 := 19) (s_callV (C_X1_codeOf l) (rfl : vwCl[1]? = some (RX1, TX1, 10)) (by decide) kw416 kw417 kw418 kw54 kw419 ⟨rfl, by decide +kernel, by decide +kernel, by decide +kernel⟩ ⟨by decide, by decide⟩ shN1 dX1_appendCodes_16) ?_
    refine Sim.sq (p1 := 22) (s_callV (C_X1_append l) (rfl : vwCl[1]? = some (RX1, TX1, 10)) (by decide) kw421 kw365 kw366 kw54 kw367 ⟨rfl, by decide +kernel, by decide +kernel, by decide +kernel⟩ ⟨by decide, by decide⟩ shN1 dX1_appendCodes_19) ?_
    refine Sim.sq (p1 := 25) (s_iinc (by decide +kernel) (by decide) dX1_appendCodes_22) ?_
    exact (s_goto dX1_appendCodes_25 (by decide) rfl)
  exact (s_vret rfl dX1_appendCodes_28)
set_option maxRecDepth 100000 in
set_option maxHeartbeats 4000000 in
theorem C_X1_appendCodes (l : Launch) : Ct l yX1_appendCodes cX1_appendCodes 6 none 1 25 m_X1_appendCodes := Ct_of (y := yX1_appendCodes) (by decide +kernel) S_X1_appendCodes
set_option maxRecDepth 100000 in
set_option maxHeartbeats 4000000 in
theorem S_X4_splitHere {l : Launch} : Sim l (fun _ => True) RX4 "splitHere" cX4_splitHere 4 none 3 63 [] b_X4_splitHere 0 133 := by
  unfold b_X4_splitHere
  refine Sim.sq (p1 := 1) (s_aload_n rfl dX4_splitHere_0) ?_
  refine Sim.sq (p1 := 4) (s_getr (rfl : vwCl[4]? = some (RX4, TX4, 6)) (by decide) (by decide) inG4 kw117 rfl dX4_splitHere_1) ?_
  refine Sim.sq (p1 := 5) (s_iload_n rfl dX4_splitHere_4) ?_
  refine Sim.sq (p1 := 8) (s_callV (C_X1_sizeOf l) (rfl : vwCl[1]? = some (RX1, TX1, 10)) (by decide) kw352 kw311 kw312 kw54 kw313 ⟨rfl, by decide +kernel, by decide +kernel, by decide +kernel⟩ ⟨by decide, by decide⟩ shN1 dX4_splitHere_5) ?_
  refine Sim.sq (p1 := 9) (s_istore_n rfl (by decide) dX4_splitHere_8) ?_
  refine Sim.sq (p1 := 10) (s_iload_n rfl dX4_splitHere_9) ?_
  refine Sim.sq (p1 := 132) (Sim.bk ?_) ?_
  · refine Sim.sq (p1 := 26) (Sim.bk ?_) ?_
    · refine Sim.sq (p1 := 13) (s_if_gt dX4_splitHere_10 (by decide) rfl) ?_
      refine Sim.sq (p1 := 14) (s_aload_n rfl dX4_splitHere_13) ?_
      refine Sim.sq (p1 := 15) (s_iconst (by decide +kernel) dX4_splitHere_14) ?_
      refine Sim.sq (p1 := 18) (s_puti (rfl : vwCl[4]? = some (RX4, TX4, 6)) (by decide) (by decide) inG4 kw122 rfl tyX4 tyX4_ok nmX4 rfl (by decide +kernel) dX4_splitHere_15) ?_
      refine Sim.sq (p1 := 19) (s_aload_n rfl dX4_splitHere_18) ?_
      refine Sim.sq (p1 := 20) (s_iload_n rfl dX4_splitHere_19) ?_
      refine Sim.sq (p1 := 23) (s_puti (rfl : vwCl[4]? = some (RX4, TX4, 6)) (by decide) (by decide) inG4 kw124 rfl tyX4 tyX4_ok nmX4 rfl (by decide +kernel) dX4_splitHere_20) ?_
      exact (s_goto dX4_splitHere_23 (by decide) rfl)
    refine Sim.sq (p1 := 27) (s_iload_n rfl dX4_splitHere_26) ?_
    refine Sim.sq (p1 := 28) (s_iload_n rfl dX4_splitHere_27) ?_
    refine Sim.sq (p1 := 44) (Sim.bk ?_) ?_
    · refine Sim.sq (p1 := 31) (s_icmp_lt dX4_splitHere_28 (by decide) rfl) ?_
      refine Sim.sq (p1 := 32) (s_aload_n rfl dX4_splitHere_31) ?_
      refine Sim.sq (p1 := 33) (s_iload_n rfl dX4_splitHere_32) ?_
      refine Sim.sq (p1 := 36) (s_puti (rfl : vwCl[4]? = some (RX4, TX4, 6)) (by decide) (by decide) inG4 kw122 rfl tyX4 tyX4_ok nmX4 rfl (by decide +kernel) dX4_splitHere_33) ?_
      refine Sim.sq (p1 := 37) (s_aload_n rfl dX4_splitHere_36) ?_
      refine Sim.sq (p1 := 38) (s_iconst (by decide +kernel) dX4_splitHere_37) ?_
      refine Sim.sq (p1 := 41) (s_puti (rfl : vwCl[4]? = some (RX4, TX4, 6)) (by decide) (by decide) inG4 kw124 rfl tyX4 tyX4_ok nmX4 rfl (by decide +kernel) dX4_splitHere_38) ?_
      exact (s_goto dX4_splitHere_41 (by decide) rfl)
    refine Sim.sq (p1 := 45) (s_aload_n rfl dX4_splitHere_44) ?_
    refine Sim.sq (p1 := 48) (s_getr (rfl : vwCl[4]? = some (RX4, TX4, 6)) (by decide) (by decide) inG4 kw117 rfl dX4_splitHere_45) ?_
    refine Sim.sq (p1 := 49) (s_iload_n rfl dX4_splitHere_48) ?_
    refine Sim.sq (p1 := 52) (s_callV (C_X1_isPair l) (rfl : vwCl[1]? = some (RX1, TX1, 10)) (by decide) kw396 kw397 kw398 kw54 kw399 ⟨rfl, by decide +kernel, by decide +kernel, by decide +kernel⟩ ⟨by decide, by decide⟩ shN1 dX4_splitHere_49) ?_
    refine Sim.sq (p1 := 82) (Sim.bk ?_) ?_
    · refine Sim.sq (p1 := 55) (s_if_eq dX4_splitHere_52 (by decide) rfl) ?_
      refine Sim.sq (p1 := 56) (s_aload_n rfl dX4_splitHere_55) ?_
      refine Sim.sq (p1 := 57) (s_aload_n rfl dX4_splitHere_56) ?_
      refine Sim.sq (p1 := 60) (s_getr (rfl : vwCl[4]? = some (RX4, TX4, 6)) (by decide) (by decide) inG4 kw117 rfl dX4_splitHere_57) ?_
      refine Sim.sq (p1 := 61) (s_iload_n rfl dX4_splitHere_60) ?_
      refine Sim.sq (p1 := 64) (s_callV (C_X1_leftOf l) (rfl : vwCl[1]? = some (RX1, TX1, 10)) (by decide) kw400 kw401 kw402 kw54 kw403 ⟨rfl, by decide +kernel, by decide +kernel, by decide +kernel⟩ ⟨by decide, by decide⟩ shN1 dX4_splitHere_61) ?_
      refine Sim.sq (p1 := 67) (s_puti (rfl : vwCl[4]? = some (RX4, TX4, 6)) (by decide) (by decide) inG4 kw122 rfl tyX4 tyX4_ok nmX4 rfl (by decide +kernel) dX4_splitHere_64) ?_
      refine Sim.sq (p1 := 68) (s_aload_n rfl dX4_splitHere_67) ?_
      refine Sim.sq (p1 := 69) (s_aload_n rfl dX4_splitHere_68) ?_
      refine Sim.sq (p1 := 72) (s_getr (rfl : vwCl[4]? = some (RX4, TX4, 6)) (by decide) (by decide) inG4 kw117 rfl dX4_splitHere_69) ?_
      refine Sim.sq (p1 := 73) (s_iload_n rfl dX4_splitHere_72) ?_
      refine Sim.sq (p1 := 76) (s_callV (C_X1_rightOf l) (rfl : vwCl[1]? = some (RX1, TX1, 10)) (by decide) kw404 kw405 kw406 kw54 kw407 ⟨rfl, by decide +kernel, by decide +kernel, by decide +kernel⟩ ⟨by decide, by decide⟩ shN1 dX4_splitHere_73) ?_
      refine Sim.sq (p1 := 79) (s_puti (rfl : vwCl[4]? = some (RX4, TX4, 6)) (by decide) (by decide) inG4 kw124 rfl tyX4 tyX4_ok nmX4 rfl (by decide +kernel) dX4_splitHere_76) ?_
      exact (s_goto dX4_splitHere_79 (by decide) rfl)
    refine Sim.sq (p1 := 83) (s_aload_n rfl dX4_splitHere_82) ?_
    refine Sim.sq (p1 := 84) (s_aload_n rfl dX4_splitHere_83) ?_
    refine Sim.sq (p1 := 87) (s_getr (rfl : vwCl[4]? = some (RX4, TX4, 6)) (by decide) (by decide) inG4 kw117 rfl dX4_splitHere_84) ?_
    refine Sim.sq (p1 := 90) (s_callV (C_X1_newLeaf l) (rfl : vwCl[1]? = some (RX1, TX1, 10)) (by decide) kw353 kw354 kw355 kw54 kw356 ⟨rfl, by decide +kernel, by decide +kernel, by decide +kernel⟩ ⟨by decide, by decide⟩ shN1 dX4_splitHere_87) ?_
    refine Sim.sq (p1 := 93) (s_puti (rfl : vwCl[4]? = some (RX4, TX4, 6)) (by decide) (by decide) inG4 kw122 rfl tyX4 tyX4_ok nmX4 rfl (by decide +kernel) dX4_splitHere_90) ?_
    refine Sim.sq (p1 := 94) (s_aload_n rfl dX4_splitHere_93) ?_
    refine Sim.sq (p1 := 97) (s_getr (rfl : vwCl[4]? = some (RX4, TX4, 6)) (by decide) (by decide) inG4 kw117 rfl dX4_splitHere_94) ?_
    refine Sim.sq (p1 := 98) (s_aload_n rfl dX4_splitHere_97) ?_
    refine Sim.sq (p1 := 101) (s_geti (rfl : vwCl[4]? = some (RX4, TX4, 6)) (by decide) (by decide) inG4 kw122 rfl dX4_splitHere_98) ?_
    refine Sim.sq (p1 := 102) (s_iload_n rfl dX4_splitHere_101) ?_
    refine Sim.sq (p1 := 103) (s_iconst (by decide +kernel) dX4_splitHere_102) ?_
    refine Sim.sq (p1 := 104) (s_iload_n rfl dX4_splitHere_103) ?_
    refine Sim.sq (p1 := 107) (s_callV (C_X1_appendCodes l) (rfl : vwCl[1]? = some (RX1, TX1, 10)) (by decide) kw412 kw413 kw414 kw54 kw415 ⟨rfl, by decide +kernel, by decide +kernel, by decide +kernel⟩ ⟨by decide, by decide⟩ shN1 dX4_splitHere_104) ?_
    refine Sim.sq (p1 := 108) (s_aload_n rfl dX4_splitHere_107) ?_
    refine Sim.sq (p1 := 109) (s_aload_n rfl dX4_splitHere_108) ?_
    refine Sim.sq (p1 := 112) (s_getr (rfl : vwCl[4]? = some (RX4, TX4, 6)) (by decide) (by decide) inG4 kw117 rfl dX4_splitHere_109) ?_
    refine Sim.sq (p1 := 115) (s_callV (C_X1_newLeaf l) (rfl : vwCl[1]? = some (RX1, TX1, 10)) (by decide) kw353 kw354 kw355 kw54 kw356 ⟨rfl, by decide +kernel, by decide +kernel, by decide +kernel⟩ ⟨by decide, by decide⟩ shN1 dX4_splitHere_112) ?_
    refine Sim.sq (p1 := 118) (s_puti (rfl : vwCl[4]? = some (RX4, TX4, 6)) (by decide) (by decide) inG4 kw124 rfl tyX4 tyX4_ok nmX4 rfl (by decide +kernel) dX4_splitHere_115) ?_
    refine Sim.sq (p1 := 119) (s_aload_n rfl dX4_splitHere_118) ?_
    refine Sim.sq (p1 := 122) (s_getr (rfl : vwCl[4]? = some (RX4, TX4, 6)) (by decide) (by decide) inG4 kw117 rfl dX4_splitHere_119) ?_
    refine Sim.sq (p1 := 123) (s_aload_n rfl dX4_splitHere_122) ?_
    refine Sim.sq (p1 := 126) (s_geti (rfl : vwCl[4]? = some (RX4, TX4, 6)) (by decide) (by decide) inG4 kw124 rfl dX4_splitHere_123) ?_
    refine Sim.sq (p1 := 127) (s_iload_n rfl dX4_splitHere_126) ?_
    refine Sim.sq (p1 := 128) (s_iload_n rfl dX4_splitHere_127) ?_
    refine Sim.sq (p1 := 129) (s_iload_n rfl dX4_splitHere_128) ?_
    exact (s_callV (C_X1_appendCodes l) (rfl : vwCl[1]? = some (RX1, TX1, 10)) (by decide) kw412 kw413 kw414 kw54 kw415 ⟨rfl, by decide +kernel, by decide +kernel, by decide +kernel⟩ ⟨by decide, by decide⟩ shN1 dX4_splitHere_129)
  exact (s_vret rfl dX4_splitHere_132)
set_option maxRecDepth 100000 in
set_option maxHeartbeats 4000000 in
theorem C_X4_splitHere (l : Launch) : Ct l yX4_splitHere cX4_splitHere 4 none 3 63 m_X4_splitHere := Ct_of (y := yX4_splitHere) (by decide +kernel) S_X4_splitHere
set_option maxRecDepth 100000 in
set_option maxHeartbeats 4000000 in
theorem S_X1_isLeaf {l : Launch} : Sim l (fun _ => True) RX1 "isLeaf" cX1_isLeaf 2 (some .boolean) 0 0 [] b_X1_isLeaf 0 26 := by
  unfold b_X1_isLeaf
  refine Sim.sq (p1 := 1) (s_iload_n rfl dX1_isLeaf_0) ?_
  refine Sim.sq (p1 := 25) (Sim.bk ?_) ?_
  · refine Sim.sq (p1 := 24) (Sim.bk ?_) ?_
    · refine Sim.sq (p1 := 4) (s_if_le dX1_isLeaf_1 (by decide) rfl) ?_
      refine Sim.sq (p1 := 5) (s_iload_n rfl dX1_isLeaf_4) ?_
      refine Sim.sq (p1 := 8) (s_sipush (by decide +kernel) dX1_isLeaf_5) ?_
      refine Sim.sq (p1 := 11) (s_icmp_ge dX1_isLeaf_8 (by decide) rfl) ?_
      refine Sim.sq (p1 := 12) (s_aload_n rfl dX1_isLeaf_11) ?_
      refine Sim.sq (p1 := 15) (s_getr (rfl : vwCl[1]? = some (RX1, TX1, 10)) (by decide) (by decide) inG1 kw82 rfl dX1_isLeaf_12) ?_
      refine Sim.sq (p1 := 16) (s_iload_n rfl dX1_isLeaf_15) ?_
      refine Sim.sq (p1 := 17) (s_iald dX1_isLeaf_16) ?_
      refine Sim.sq (p1 := 20) (s_if_ne dX1_isLeaf_17 (by decide) rfl) ?_
      refine Sim.sq (p1 := 21) (s_iconst (by decide +kernel) dX1_isLeaf_20) ?_
      exact (s_goto dX1_isLeaf_21 (by decide) rfl)
    exact (s_iconst (by decide +kernel) dX1_isLeaf_24)
  exact (s_zret rfl dX1_isLeaf_25)
set_option maxRecDepth 100000 in
set_option maxHeartbeats 4000000 in
theorem C_X1_isLeaf (l : Launch) : Ct l yX1_isLeaf cX1_isLeaf 2 (some .boolean) 0 0 m_X1_isLeaf := Ct_of (y := yX1_isLeaf) (by decide +kernel) S_X1_isLeaf
set_option maxRecDepth 100000 in
set_option maxHeartbeats 4000000 in
theorem S_X4_fitInOneLeaf {l : Launch} : Sim l (fun _ => True) RX4 "fitInOneLeaf" cX4_fitInOneLeaf 4 (some .boolean) 1 21 [] b_X4_fitInOneLeaf 0 49 := by
  unfold b_X4_fitInOneLeaf
  refine Sim.sq (p1 := 1) (s_aload_n rfl dX4_fitInOneLeaf_0) ?_
  refine Sim.sq (p1 := 4) (s_getr (rfl : vwCl[4]? = some (RX4, TX4, 6)) (by decide) (by decide) inG4 kw117 rfl dX4_fitInOneLeaf_1) ?_
  refine Sim.sq (p1 := 5) (s_iload_n rfl dX4_fitInOneLeaf_4) ?_
  refine Sim.sq (p1 := 8) (s_callV (C_X1_isLeaf l) (rfl : vwCl[1]? = some (RX1, TX1, 10)) (by decide) kw430 kw431 kw432 kw54 kw433 ⟨rfl, by decide +kernel, by decide +kernel, by decide +kernel⟩ ⟨by decide, by decide⟩ shN1 dX4_fitInOneLeaf_5) ?_
  refine Sim.sq (p1 := 48) (Sim.bk ?_) ?_
  · refine Sim.sq (p1 := 47) (Sim.bk ?_) ?_
    · refine Sim.sq (p1 := 11) (s_if_eq dX4_fitInOneLeaf_8 (by decide) rfl) ?_
      refine Sim.sq (p1 := 12) (s_aload_n rfl dX4_fitInOneLeaf_11) ?_
      refine Sim.sq (p1 := 15) (s_getr (rfl : vwCl[4]? = some (RX4, TX4, 6)) (by decide) (by decide) inG4 kw117 rfl dX4_fitInOneLeaf_12) ?_
      refine Sim.sq (p1 := 16) (s_iload_n rfl dX4_fitInOneLeaf_15) ?_
      refine Sim.sq (p1 := 19) (s_callV (C_X1_isLeaf l) (rfl : vwCl[1]? = some (RX1, TX1, 10)) (by decide) kw430 kw431 kw432 kw54 kw433 ⟨rfl, by decide +kernel, by decide +kernel, by decide +kernel⟩ ⟨by decide, by decide⟩ shN1 dX4_fitInOneLeaf_16) ?_
      refine Sim.sq (p1 := 22) (s_if_eq dX4_fitInOneLeaf_19 (by decide) rfl) ?_
      refine Sim.sq (p1 := 23) (s_aload_n rfl dX4_fitInOneLeaf_22) ?_
      refine Sim.sq (p1 := 26) (s_getr (rfl : vwCl[4]? = some (RX4, TX4, 6)) (by decide) (by decide) inG4 kw117 rfl dX4_fitInOneLeaf_23) ?_
      refine Sim.sq (p1 := 27) (s_iload_n rfl dX4_fitInOneLeaf_26) ?_
      refine Sim.sq (p1 := 30) (s_callV (C_X1_sizeOf l) (rfl : vwCl[1]? = some (RX1, TX1, 10)) (by decide) kw352 kw311 kw312 kw54 kw313 ⟨rfl, by decide +kernel, by decide +kernel, by decide +kernel⟩ ⟨by decide, by decide⟩ shN1 dX4_fitInOneLeaf_27) ?_
      refine Sim.sq (p1 := 31) (s_aload_n rfl dX4_fitInOneLeaf_30) ?_
      refine Sim.sq (p1 := 34) (s_getr (rfl : vwCl[4]? = some (RX4, TX4, 6)) (by decide) (by decide) inG4 kw117 rfl dX4_fitInOneLeaf_31) ?_
      refine Sim.sq (p1 := 35) (s_iload_n rfl dX4_fitInOneLeaf_34) ?_
      refine Sim.sq (p1 := 38) (s_callV (C_X1_sizeOf l) (rfl : vwCl[1]? = some (RX1, TX1, 10)) (by decide) kw352 kw311 kw312 kw54 kw313 ⟨rfl, by decide +kernel, by decide +kernel, by decide +kernel⟩ ⟨by decide, by decide⟩ shN1 dX4_fitInOneLeaf_35) ?_
      refine Sim.sq (p1 := 39) (s_iadd dX4_fitInOneLeaf_38) ?_
      refine Sim.sq (p1 := 40) (s_iload_n rfl dX4_fitInOneLeaf_39) ?_
      refine Sim.sq (p1 := 43) (s_icmp_gt dX4_fitInOneLeaf_40 (by decide) rfl) ?_
      refine Sim.sq (p1 := 44) (s_iconst (by decide +kernel) dX4_fitInOneLeaf_43) ?_
      exact (s_goto dX4_fitInOneLeaf_44 (by decide) rfl)
    exact (s_iconst (by decide +kernel) dX4_fitInOneLeaf_47)
  exact (s_zret rfl dX4_fitInOneLeaf_48)
set_option maxRecDepth 100000 in
set_option maxHeartbeats 4000000 in
theorem C_X4_fitInOneLeaf (l : Launch) : Ct l yX4_fitInOneLeaf cX4_fitInOneLeaf 4 (some .boolean) 1 21 m_X4_fitInOneLeaf := Ct_of (y := yX4_fitInOneLeaf) (by decide +kernel) S_X4_fitInOneLeaf
set_option maxRecDepth 100000 in
set_option maxHeartbeats 4000000 in
theorem S_X1_newLeafOfBoth {l : Launch} : Sim l (fun _ => True) RX1 "newLeafOfBoth" cX1_newLeafOfBoth 4 (some .int) 3 63 [] b_X1_newLeafOfBoth 0 31 := by
  unfold b_X1_newLeafOfBoth
  refine Sim.sq (p1 := 1) (s_aload_n rfl dX1_newLeafOfBoth_0) ?_
  refine Sim.sq (p1 := 4) (s_callV (C_X1_newLeaf l) (rfl : vwCl[1]? = some (RX1, TX1, 10)) (by decide) kw438 kw354 kw355 kw54 kw356 ⟨rfl, by decide +kernel, by decide +kernel, by decide +kernel⟩ ⟨by decide, by decide⟩ shN1 dX1_newLeafOfBoth_1) ?_
  refine Sim.sq (p1 := 5) (s_istore_n rfl (by decide) dX1_newLeafOfBoth_4) ?_
  refine Sim.sq (p1 := 6) (s_aload_n rfl dX1_newLeafOfBoth_5) ?_
  refine Sim.sq (p1 := 7) (s_iload_n rfl dX1_newLeafOfBoth_6) ?_
  refine Sim.sq (p1 := 8) (s_iload_n rfl dX1_newLeafOfBoth_7) ?_
  refine Sim.sq (p1 := 9) (s_iconst (by decide +kernel) dX1_newLeafOfBoth_8) ?_
  refine Sim.sq (p1 := 10) (s_aload_n rfl dX1_newLeafOfBoth_9) ?_
  refine Sim.sq (p1 := 11) (s_iload_n rfl dX1_newLeafOfBoth_10) ?_
  refine Sim.sq (p1 := 14) (s_callV (C_X1_sizeOf l) (rfl : vwCl[1]? = some (RX1, TX1, 10)) (by decide) kw379 kw311 kw312 kw54 kw313 ⟨rfl, by decide +kernel, by decide +kernel, by decide +kernel⟩ ⟨by decide, by decide⟩ shN1 dX1_newLeafOfBoth_11) ?_
  refine Sim.sq (p1 := 17) (s_callV (C_X1_appendCodes l) (rfl : vwCl[1]? = some (RX1, TX1, 10)) (by decide) kw439 kw413 kw414 kw54 kw415 ⟨rfl, by decide +kernel, by decide +kernel, by decide +kernel⟩ ⟨by decide, by decide⟩ shN1 dX1_newLeafOfBoth_14) ?_
  refine Sim.sq (p1 := 18) (s_aload_n rfl dX1_newLeafOfBoth_17) ?_
  refine Sim.sq (p1 := 19) (s_iload_n rfl dX1_newLeafOfBoth_18) ?_
  refine Sim.sq (p1 := 20) (s_iload_n rfl dX1_newLeafOfBoth_19) ?_
  refine Sim.sq (p1 := 21) (s_iconst (by decide +kernel) dX1_newLeafOfBoth_20) ?_
  refine Sim.sq (p1 := 22) (s_aload_n rfl dX1_newLeafOfBoth_21) ?_
  refine Sim.sq (p1 := 23) (s_iload_n rfl dX1_newLeafOfBoth_22) ?_
  refine Sim.sq (p1 := 26) (s_callV (C_X1_sizeOf l) (rfl : vwCl[1]? = some (RX1, TX1, 10)) (by decide) kw379 kw311 kw312 kw54 kw313 ⟨rfl, by decide +kernel, by decide +kernel, by decide +kernel⟩ ⟨by decide, by decide⟩ shN1 dX1_newLeafOfBoth_23) ?_
  refine Sim.sq (p1 := 29) (s_callV (C_X1_appendCodes l) (rfl : vwCl[1]? = some (RX1, TX1, 10)) (by decide) kw439 kw413 kw414 kw54 kw415 ⟨rfl, by decide +kernel, by decide +kernel, by decide +kernel⟩ ⟨by decide, by decide⟩ shN1 dX1_newLeafOfBoth_26) ?_
  refine Sim.sq (p1 := 30) (s_iload_n rfl dX1_newLeafOfBoth_29) ?_
  exact (s_iret rfl dX1_newLeafOfBoth_30)
set_option maxRecDepth 100000 in
set_option maxHeartbeats 4000000 in
theorem C_X1_newLeafOfBoth (l : Launch) : Ct l yX1_newLeafOfBoth cX1_newLeafOfBoth 4 (some .int) 3 63 m_X1_newLeafOfBoth := Ct_of (y := yX1_newLeafOfBoth) (by decide +kernel) S_X1_newLeafOfBoth
set_option maxRecDepth 100000 in
set_option maxHeartbeats 4000000 in
theorem S_X4_join {l : Launch} : Sim l (fun _ => True) RX4 "join" cX4_join 6 (some .int) 4 86 [] b_X4_join 0 136 := by
  unfold b_X4_join
  refine Sim.sq (p1 := 1) (s_iload_n rfl dX4_join_0) ?_
  refine Sim.sq (p1 := 6) (Sim.bk ?_) ?_
  · refine Sim.sq (p1 := 4) (s_if_ne dX4_join_1 (by decide) rfl) ?_
    refine Sim.sq (p1 := 5) (s_iload_n rfl dX4_join_4) ?_
    exact (s_iret rfl dX4_join_5)
  refine Sim.sq (p1 := 7) (s_iload_n rfl dX4_join_6) ?_
  refine Sim.sq (p1 := 12) (Sim.bk ?_) ?_
  · refine Sim.sq (p1 := 10) (s_if_ne dX4_join_7 (by decide) rfl) ?_
    refine Sim.sq (p1 := 11) (s_iload_n rfl dX4_join_10) ?_
    exact (s_iret rfl dX4_join_11)
  refine Sim.sq (p1 := 13) (s_aload_n rfl dX4_join_12) ?_
  refine Sim.sq (p1 := 14) (s_iload_n rfl dX4_join_13) ?_
  refine Sim.sq (p1 := 15) (s_iload_n rfl dX4_join_14) ?_
  refine Sim.sq (p1 := 16) (s_iload_n rfl dX4_join_15) ?_
  refine Sim.sq (p1 := 19) (s_callV (C_X4_fitInOneLeaf l) (rfl : vwCl[4]? = some (RX4, TX4, 6)) (by decide) kw426 kw428 kw8 kw53 kw429 ⟨rfl, by decide +kernel, by decide +kernel, by decide +kernel⟩ ⟨by decide, by decide⟩ shN4 dX4_join_16) ?_
  refine Sim.sq (p1 := 32) (Sim.bk ?_) ?_
  · refine Sim.sq (p1 := 22) (s_if_eq dX4_join_19 (by decide) rfl) ?_
    refine Sim.sq (p1 := 23) (s_aload_n rfl dX4_join_22) ?_
    refine Sim.sq (p1 := 26) (s_getr (rfl : vwCl[4]? = some (RX4, TX4, 6)) (by decide) (by decide) inG4 kw117 rfl dX4_join_23) ?_
    refine Sim.sq (p1 := 27) (s_iload_n rfl dX4_join_26) ?_
    refine Sim.sq (p1 := 28) (s_iload_n rfl dX4_join_27) ?_
    refine Sim.sq (p1 := 31) (s_callV (C_X1_newLeafOfBoth l) (rfl : vwCl[1]? = some (RX1, TX1, 10)) (by decide) kw434 kw435 kw436 kw54 kw437 ⟨rfl, by decide +kernel, by decide +kernel, by decide +kernel⟩ ⟨by decide, by decide⟩ shN1 dX4_join_28) ?_
    exact (s_iret rfl dX4_join_31)
  refine Sim.sq (p1 := 33) (s_aload_n rfl dX4_join_32) ?_
  refine Sim.sq (p1 := 36) (s_getr (rfl : vwCl[4]? = some (RX4, TX4, 6)) (by decide) (by decide) inG4 kw117 rfl dX4_join_33) ?_
  refine Sim.sq (p1 := 37) (s_iload_n rfl dX4_join_36) ?_
  refine Sim.sq (p1 := 40) (s_callV (C_X1_rightOf l) (rfl : vwCl[1]? = some (RX1, TX1, 10)) (by decide) kw404 kw405 kw406 kw54 kw407 ⟨rfl, by decide +kernel, by decide +kernel, by decide +kernel⟩ ⟨by decide, by decide⟩ shN1 dX4_join_37) ?_
  refine Sim.sq (p1 := 42) (s_istore (by decide) dX4_join_40) ?_
  refine Sim.sq (p1 := 43) (s_aload_n rfl dX4_join_42) ?_
  refine Sim.sq (p1 := 45) (s_iload dX4_join_43) ?_
  refine Sim.sq (p1 := 46) (s_iload_n rfl dX4_join_45) ?_
  refine Sim.sq (p1 := 47) (s_iload_n rfl dX4_join_46) ?_
  refine Sim.sq (p1 := 50) (s_callV (C_X4_fitInOneLeaf l) (rfl : vwCl[4]? = some (RX4, TX4, 6)) (by decide) kw426 kw428 kw8 kw53 kw429 ⟨rfl, by decide +kernel, by decide +kernel, by decide +kernel⟩ ⟨by decide, by decide⟩ shN4 dX4_join_47) ?_
  refine Sim.sq (p1 := 79) (Sim.bk ?_) ?_
  · refine Sim.sq (p1 := 53) (s_if_eq dX4_join_50 (by decide) rfl) ?_
    refine Sim.sq (p1 := 54) (s_aload_n rfl dX4_join_53) ?_
    refine Sim.sq (p1 := 57) (s_getr (rfl : vwCl[4]? = some (RX4, TX4, 6)) (by decide) (by decide) inG4 kw117 rfl dX4_join_54) ?_
    refine Sim.sq (p1 := 58) (s_aload_n rfl dX4_join_57) ?_
    refine Sim.sq (p1 := 61) (s_getr (rfl : vwCl[4]? = some (RX4, TX4, 6)) (by decide) (by decide) inG4 kw117 rfl dX4_join_58) ?_
    refine Sim.sq (p1 := 62) (s_iload_n rfl dX4_join_61) ?_
    refine Sim.sq (p1 := 65) (s_callV (C_X1_leftOf l) (rfl : vwCl[1]? = some (RX1, TX1, 10)) (by decide) kw400 kw401 kw402 kw54 kw403 ⟨rfl, by decide +kernel, by decide +kernel, by decide +kernel⟩ ⟨by decide, by decide⟩ shN1 dX4_join_62) ?_
    refine Sim.sq (p1 := 66) (s_aload_n rfl dX4_join_65) ?_
    refine Sim.sq (p1 := 69) (s_getr (rfl : vwCl[4]? = some (RX4, TX4, 6)) (by decide) (by decide) inG4 kw117 rfl dX4_join_66) ?_
    refine Sim.sq (p1 := 71) (s_iload dX4_join_69) ?_
    refine Sim.sq (p1 := 72) (s_iload_n rfl dX4_join_71) ?_
    refine Sim.sq (p1 := 75) (s_callV (C_X1_newLeafOfBoth l) (rfl : vwCl[1]? = some (RX1, TX1, 10)) (by decide) kw434 kw435 kw436 kw54 kw437 ⟨rfl, by decide +kernel, by decide +kernel, by decide +kernel⟩ ⟨by decide, by decide⟩ shN1 dX4_join_72) ?_
    refine Sim.sq (p1 := 78) (s_callV (C_X1_newPair l) (rfl : vwCl[1]? = some (RX1, TX1, 10)) (by decide) kw375 kw376 kw377 kw54 kw378 ⟨rfl, by decide +kernel, by decide +kernel, by decide +kernel⟩ ⟨by decide, by decide⟩ shN1 dX4_join_75) ?_
    exact (s_iret rfl dX4_join_78)
  refine Sim.sq (p1 := 80) (s_aload_n rfl dX4_join_79) ?_
  refine Sim.sq (p1 := 83) (s_getr (rfl : vwCl[4]? = some (RX4, TX4, 6)) (by decide) (by decide) inG4 kw117 rfl dX4_join_80) ?_
  refine Sim.sq (p1 := 84) (s_iload_n rfl dX4_join_83) ?_
  refine Sim.sq (p1 := 87) (s_callV (C_X1_leftOf l) (rfl : vwCl[1]? = some (RX1, TX1, 10)) (by decide) kw400 kw401 kw402 kw54 kw403 ⟨rfl, by decide +kernel, by decide +kernel, by decide +kernel⟩ ⟨by decide, by decide⟩ shN1 dX4_join_84) ?_
  refine Sim.sq (p1 := 89) (s_istore (by decide) dX4_join_87) ?_
  refine Sim.sq (p1 := 90) (s_aload_n rfl dX4_join_89) ?_
  refine Sim.sq (p1 := 91) (s_iload_n rfl dX4_join_90) ?_
  refine Sim.sq (p1 := 93) (s_iload dX4_join_91) ?_
  refine Sim.sq (p1 := 94) (s_iload_n rfl dX4_join_93) ?_
  refine Sim.sq (p1 := 97) (s_callV (C_X4_fitInOneLeaf l) (rfl : vwCl[4]? = some (RX4, TX4, 6)) (by decide) kw426 kw428 kw8 kw53 kw429 ⟨rfl, by decide +kernel, by decide +kernel, by decide +kernel⟩ ⟨by decide, by decide⟩ shN4 dX4_join_94) ?_
  refine Sim.sq (p1 := 126) (Sim.bk ?_) ?_
  · refine Sim.sq (p1 := 100) (s_if_eq dX4_join_97 (by decide) rfl) ?_
    refine Sim.sq (p1 := 101) (s_aload_n rfl dX4_join_100) ?_
    refine Sim.sq (p1 := 104) (s_getr (rfl : vwCl[4]? = some (RX4, TX4, 6)) (by decide) (by decide) inG4 kw117 rfl dX4_join_101) ?_
    refine Sim.sq (p1 := 105) (s_aload_n rfl dX4_join_104) ?_
    refine Sim.sq (p1 := 108) (s_getr (rfl : vwCl[4]? = some (RX4, TX4, 6)) (by decide) (by decide) inG4 kw117 rfl dX4_join_105) ?_
    refine Sim.sq (p1 := 109) (s_iload_n rfl dX4_join_108) ?_
    refine Sim.sq (p1 := 111) (s_iload dX4_join_109) ?_
    refine Sim.sq (p1 := 114) (s_callV (C_X1_newLeafOfBoth l) (rfl : vwCl[1]? = some (RX1, TX1, 10)) (by decide) kw434 kw435 kw436 kw54 kw437 ⟨rfl, by decide +kernel, by decide +kernel, by decide +kernel⟩ ⟨by decide, by decide⟩ shN1 dX4_join_111) ?_
    refine Sim.sq (p1 := 115) (s_aload_n rfl dX4_join_114) ?_
    refine Sim.sq (p1 := 118) (s_getr (rfl : vwCl[4]? = some (RX4, TX4, 6)) (by decide) (by decide) inG4 kw117 rfl dX4_join_115) ?_
    refine Sim.sq (p1 := 119) (s_iload_n rfl dX4_join_118) ?_
    refine Sim.sq (p1 := 122) (s_callV (C_X1_rightOf l) (rfl : vwCl[1]? = some (RX1, TX1, 10)) (by decide) kw404 kw405 kw406 kw54 kw407 ⟨rfl, by decide +kernel, by decide +kernel, by decide +kernel⟩ ⟨by decide, by decide⟩ shN1 dX4_join_119) ?_
    refine Sim.sq (p1 := 125) (s_callV (C_X1_newPair l) (rfl : vwCl[1]? = some (RX1, TX1, 10)) (by decide) kw375 kw376 kw377 kw54 kw378 ⟨rfl, by decide +kernel, by decide +kernel, by decide +kernel⟩ ⟨by decide, by decide⟩ shN1 dX4_join_122) ?_
    exact (s_iret rfl dX4_join_125)
  refine Sim.sq (p1 := 127) (s_aload_n rfl dX4_join_126) ?_
  refine Sim.sq (p1 := 130) (s_getr (rfl : vwCl[4]? = some (RX4, TX4, 6)) (by decide) (by decide) inG4 kw117 rfl dX4_join_127) ?_
  refine Sim.sq (p1 := 131) (s_iload_n rfl dX4_join_130) ?_
  refine Sim.sq (p1 := 132) (s_iload_n rfl dX4_join_131) ?_
  refine Sim.sq (p1 := 135) (s_callV (C_X1_newPair l) (rfl : vwCl[1]? = some (RX1, TX1, 10)) (by decide) kw375 kw376 kw377 kw54 kw378 ⟨rfl, by decide +kernel, by decide +kernel, by decide +kernel⟩ ⟨by decide, by decide⟩ shN1 dX4_join_132) ?_
  exact (s_iret rfl dX4_join_135)
set_option maxRecDepth 100000 in
set_option maxHeartbeats 4000000 in
theorem C_X4_join (l : Launch) : Ct l yX4_join cX4_join 6 (some .int) 4 86 m_X4_join := Ct_of (y := yX4_join) (by decide +kernel) S_X4_join
set_option maxRecDepth 100000 in
set_option maxHeartbeats 4000000 in
theorem S_X4_split {l : Launch} : Sim l (fun _ => True) RX4 "split" cX4_split 8 none 5 111 [] b_X4_split 0 234 := by
  unfold b_X4_split b_X4_split_t1 b_X4_split_t0 b_X4_split_l1 b_X4_split_l0
  refine Sim.sq (p1 := 1) (s_iload_n rfl dX4_split_0) ?_
  refine Sim.sq (p1 := 3) (s_istore (by decide) dX4_split_1) ?_
  refine Sim.sq (p1 := 4) (s_iload_n rfl dX4_split_3) ?_
  refine Sim.sq (p1 := 6) (s_istore (by decide) dX4_split_4) ?_
  refine Sim.sq (p1 := 7) (s_iconst (by decide +kernel) dX4_split_6) ?_
  refine Sim.sq (p1 := 9) (s_istore (by decide) dX4_split_7) ?_
  refine Sim.sq (p1 := 141) (Sim.lp ?_) ?_
  · refine Sim.sq (p1 := 11) (s_iload dX4_split_9) ?_
    refine Sim.sq (p1 := 12) (s_aload_n rfl dX4_split_11) ?_
    refine Sim.sq (p1 := 15) (s_getr (rfl : vwCl[4]? = some (RX4, TX4, 6)) (by decide) (by decide) inG4 kw119 rfl dX4_split_12) ?_
    refine Sim.sq (p1 := 16) (s_alen dX4_split_15) ?_
    refine Sim.bk ?_
    refine Sim.sq (p1 := 19) (s_icmp_ge dX4_split_16 (by decide) rfl) ?_
    refine Sim.sq (p1 := 21) (s_iload dX4_split_19) ?_
    refine Sim.sq (p1 := 22) (s_aload_n rfl dX4_split_21) ?_
    refine Sim.sq (p1 := 25) (s_getr (rfl : vwCl[4]? = some (RX4, TX4, 6)) (by decide) (by decide) inG4 kw120 rfl dX4_split_22) ?_
    refine Sim.sq (p1 := 26) (s_alen dX4_split_25) ?_
    refine Sim.sq (p1 := 29) (s_icmp_ge dX4_split_26 (by decide) rfl) ?_
    refine Sim.sq (p1 := 30) (s_aload_n rfl dX4_split_29) ?_
    refine Sim.sq (p1 := 32) (s_iload dX4_split_30) ?_
    refine Sim.sq (p1 := 34) (s_iload dX4_split_32) ?_
    refine Sim.sq (p1 := 37) (s_callV (C_X4_liesInsideAPart l) (rfl : vwCl[4]? = some (RX4, TX4, 6)) (by decide) kw392 kw394 kw6 kw53 kw395 ⟨rfl, by decide +kernel, by decide +kernel, by decide +kernel⟩ ⟨by decide, by decide⟩ shN4 dX4_split_34) ?_
    refine Sim.sq (p1 := 40) (s_if_eq dX4_split_37 (by decide) rfl) ?_
    refine Sim.sq (p1 := 41) (s_aload_n rfl dX4_split_40) ?_
    refine Sim.sq (p1 := 44) (s_getr (rfl : vwCl[4]? = some (RX4, TX4, 6)) (by decide) (by decide) inG4 kw117 rfl dX4_split_41) ?_
    refine Sim.sq (p1 := 45) (s_aload_n rfl dX4_split_44) ?_
    refine Sim.sq (p1 := 48) (s_getr (rfl : vwCl[4]? = some (RX4, TX4, 6)) (by decide) (by decide) inG4 kw117 rfl dX4_split_45) ?_
    refine Sim.sq (p1 := 50) (s_iload dX4_split_48) ?_
    refine Sim.sq (p1 := 53) (s_callV (C_X1_leftOf l) (rfl : vwCl[1]? = some (RX1, TX1, 10)) (by decide) kw400 kw401 kw402 kw54 kw403 ⟨rfl, by decide +kernel, by decide +kernel, by decide +kernel⟩ ⟨by decide, by decide⟩ shN1 dX4_split_50) ?_
    refine Sim.sq (p1 := 56) (s_callV (C_X1_sizeOf l) (rfl : vwCl[1]? = some (RX1, TX1, 10)) (by decide) kw352 kw311 kw312 kw54 kw313 ⟨rfl, by decide +kernel, by decide +kernel, by decide +kernel⟩ ⟨by decide, by decide⟩ shN1 dX4_split_53) ?_
    refine Sim.sq (p1 := 58) (s_istore (by decide) dX4_split_56) ?_
    refine Sim.sq (p1 := 59) (s_aload_n rfl dX4_split_58) ?_
    refine Sim.sq (p1 := 62) (s_getr (rfl : vwCl[4]? = some (RX4, TX4, 6)) (by decide) (by decide) inG4 kw119 rfl dX4_split_59) ?_
    refine Sim.sq (p1 := 64) (s_iload dX4_split_62) ?_
    refine Sim.sq (p1 := 66) (s_iload dX4_split_64) ?_
    refine Sim.sq (p1 := 67) (s_iast dX4_split_66) ?_
    refine Sim.sq (p1 := 68) (s_aload_n rfl dX4_split_67) ?_
    refine Sim.sq (p1 := 71) (s_getr (rfl : vwCl[4]? = some (RX4, TX4, 6)) (by decide) (by decide) inG4 kw120 rfl dX4_split_68) ?_
    refine Sim.sq (p1 := 73) (s_iload dX4_split_71) ?_
    refine Sim.sq (p1 := 75) (s_iload dX4_split_73) ?_
    refine Sim.sq (p1 := 77) (s_iload dX4_split_75) ?_
    refine Sim.sq (p1 := 85) (Sim.bk ?_) ?_
    · refine Sim.sq (p1 := 84) (Sim.bk ?_) ?_
      · refine Sim.sq (p1 := 80) (s_icmp_le dX4_split_77 (by decide) rfl) ?_
        refine Sim.sq (p1 := 81) (s_iconst (by decide +kernel) dX4_split_80) ?_
        exact (s_goto dX4_split_81 (by decide) rfl)
      exact (s_iconst (by decide +kernel) dX4_split_84)
    refine Sim.sq (p1 := 86) (s_zast dX4_split_85) ?_
    refine Sim.sq (p1 := 88) (s_iload dX4_split_86) ?_
    refine Sim.sq (p1 := 90) (s_iload dX4_split_88) ?_
    refine Sim.sq (p1 := 114) (Sim.bk ?_) ?_
    · refine Sim.sq (p1 := 105) (Sim.bk ?_) ?_
      · refine Sim.sq (p1 := 93) (s_icmp_le dX4_split_90 (by decide) rfl) ?_
        refine Sim.sq (p1 := 94) (s_aload_n rfl dX4_split_93) ?_
        refine Sim.sq (p1 := 97) (s_getr (rfl : vwCl[4]? = some (RX4, TX4, 6)) (by decide) (by decide) inG4 kw117 rfl dX4_split_94) ?_
        refine Sim.sq (p1 := 99) (s_iload dX4_split_97) ?_
        refine Sim.sq (p1 := 102) (s_callV (C_X1_rightOf l) (rfl : vwCl[1]? = some (RX1, TX1, 10)) (by decide) kw404 kw405 kw406 kw54 kw407 ⟨rfl, by decide +kernel, by decide +kernel, by decide +kernel⟩ ⟨by decide, by decide⟩ shN1 dX4_split_99) ?_
        exact (s_goto dX4_split_102 (by decide) rfl)
      refine Sim.sq (p1 := 106) (s_aload_n rfl dX4_split_105) ?_
      refine Sim.sq (p1 := 109) (s_getr (rfl : vwCl[4]? = some (RX4, TX4, 6)) (by decide) (by decide) inG4 kw117 rfl dX4_split_106) ?_
      refine Sim.sq (p1 := 111) (s_iload dX4_split_109) ?_
      exact (s_callV (C_X1_leftOf l) (rfl : vwCl[1]? = some (RX1, TX1, 10)) (by decide) kw400 kw401 kw402 kw54 kw403 ⟨rfl, by decide +kernel, by decide +kernel, by decide +kernel⟩ ⟨by decide, by decide⟩ shN1 dX4_split_111)
    refine Sim.sq (p1 := 116) (s_istore (by decide) dX4_split_114) ?_
    refine Sim.sq (p1 := 118) (s_iload dX4_split_116) ?_
    refine Sim.sq (p1 := 120) (s_iload dX4_split_118) ?_
    refine Sim.sq (p1 := 133) (Sim.bk ?_) ?_
    · refine Sim.sq (p1 := 131) (Sim.bk ?_) ?_
      · refine Sim.sq (p1 := 123) (s_icmp_le dX4_split_120 (by decide) rfl) ?_
        refine Sim.sq (p1 := 125) (s_iload dX4_split_123) ?_
        refine Sim.sq (p1 := 127) (s_iload dX4_split_125) ?_
        refine Sim.sq (p1 := 128) (s_isub dX4_split_127) ?_
        exact (s_goto dX4_split_128 (by decide) rfl)
      exact (s_iload dX4_split_131)
    refine Sim.sq (p1 := 135) (s_istore (by decide) dX4_split_133) ?_
    refine Sim.sq (p1 := 138) (s_iinc (by decide +kernel) (by decide) dX4_split_135) ?_
    exact (s_goto dX4_split_138 (by decide) rfl)
  refine Sim.sq (p1 := 142) (s_aload_n rfl dX4_split_141) ?_
  refine Sim.sq (p1 := 144) (s_iload dX4_split_142) ?_
  refine Sim.sq (p1 := 146) (s_iload dX4_split_144) ?_
  refine Sim.sq (p1 := 149) (s_callV (C_X4_splitHere l) (rfl : vwCl[4]? = some (RX4, TX4, 6)) (by decide) kw408 kw410 kw7 kw53 kw411 ⟨rfl, by decide +kernel, by decide +kernel, by decide +kernel⟩ ⟨by decide, by decide⟩ shN4 dX4_split_146) ?_
  refine Sim.sq (p1 := 151) (s_iload dX4_split_149) ?_
  refine Sim.sq (p1 := 152) (s_iconst (by decide +kernel) dX4_split_151) ?_
  refine Sim.sq (p1 := 153) (s_isub dX4_split_152) ?_
  refine Sim.sq (p1 := 155) (s_istore (by decide) dX4_split_153) ?_
  refine Sim.sq (p1 := 233) (Sim.lp ?_) ?_
  · refine Sim.sq (p1 := 157) (s_iload dX4_split_155) ?_
    refine Sim.bk ?_
    refine Sim.sq (p1 := 160) (s_if_lt dX4_split_157 (by decide) rfl) ?_
    refine Sim.sq (p1 := 161) (s_aload_n rfl dX4_split_160) ?_
    refine Sim.sq (p1 := 164) (s_getr (rfl : vwCl[4]? = some (RX4, TX4, 6)) (by decide) (by decide) inG4 kw120 rfl dX4_split_161) ?_
    refine Sim.sq (p1 := 166) (s_iload dX4_split_164) ?_
    refine Sim.sq (p1 := 167) (s_zald dX4_split_166) ?_
    refine Sim.sq (p1 := 227) (Sim.bk ?_) ?_
    · refine Sim.sq (p1 := 200) (Sim.bk ?_) ?_
      · refine Sim.sq (p1 := 170) (s_if_eq dX4_split_167 (by decide) rfl) ?_
        refine Sim.sq (p1 := 171) (s_aload_n rfl dX4_split_170) ?_
        refine Sim.sq (p1 := 172) (s_aload_n rfl dX4_split_171) ?_
        refine Sim.sq (p1 := 173) (s_aload_n rfl dX4_split_172) ?_
        refine Sim.sq (p1 := 176) (s_getr (rfl : vwCl[4]? = some (RX4, TX4, 6)) (by decide) (by decide) inG4 kw117 rfl dX4_split_173) ?_
        refine Sim.sq (p1 := 177) (s_aload_n rfl dX4_split_176) ?_
        refine Sim.sq (p1 := 180) (s_getr (rfl : vwCl[4]? = some (RX4, TX4, 6)) (by decide) (by decide) inG4 kw119 rfl dX4_split_177) ?_
        refine Sim.sq (p1 := 182) (s_iload dX4_split_180) ?_
        refine Sim.sq (p1 := 183) (s_iald dX4_split_182) ?_
        refine Sim.sq (p1 := 186) (s_callV (C_X1_leftOf l) (rfl : vwCl[1]? = some (RX1, TX1, 10)) (by decide) kw400 kw401 kw402 kw54 kw403 ⟨rfl, by decide +kernel, by decide +kernel, by decide +kernel⟩ ⟨by decide, by decide⟩ shN1 dX4_split_183) ?_
        refine Sim.sq (p1 := 187) (s_aload_n rfl dX4_split_186) ?_
        refine Sim.sq (p1 := 190) (s_geti (rfl : vwCl[4]? = some (RX4, TX4, 6)) (by decide) (by decide) inG4 kw122 rfl dX4_split_187) ?_
        refine Sim.sq (p1 := 191) (s_iload_n rfl dX4_split_190) ?_
        refine Sim.sq (p1 := 194) (s_callV (C_X4_join l) (rfl : vwCl[4]? = some (RX4, TX4, 6)) (by decide) kw422 kw423 kw424 kw53 kw425 ⟨rfl, by decide +kernel, by decide +kernel, by decide +kernel⟩ ⟨by decide, by decide⟩ shN4 dX4_split_191) ?_
        refine Sim.sq (p1 := 197) (s_puti (rfl : vwCl[4]? = some (RX4, TX4, 6)) (by decide) (by decide) inG4 kw122 rfl tyX4 tyX4_ok nmX4 rfl (by decide +kernel) dX4_split_194) ?_
        exact (s_goto dX4_split_197 (by decide) rfl)
      refine Sim.sq (p1 := 201) (s_aload_n rfl dX4_split_200) ?_
      refine Sim.sq (p1 := 202) (s_aload_n rfl dX4_split_201) ?_
      refine Sim.sq (p1 := 203) (s_aload_n rfl dX4_split_202) ?_
      refine Sim.sq (p1 := 206) (s_geti (rfl : vwCl[4]? = some (RX4, TX4, 6)) (by decide) (by decide) inG4 kw124 rfl dX4_split_203) ?_
      refine Sim.sq (p1 := 207) (s_aload_n rfl dX4_split_206) ?_
      refine Sim.sq (p1 := 210) (s_getr (rfl : vwCl[4]? = some (RX4, TX4, 6)) (by decide) (by decide) inG4 kw117 rfl dX4_split_207) ?_
      refine Sim.sq (p1 := 211) (s_aload_n rfl dX4_split_210) ?_
      refine Sim.sq (p1 := 214) (s_getr (rfl : vwCl[4]? = some (RX4, TX4, 6)) (by decide) (by decide) inG4 kw119 rfl dX4_split_211) ?_
      refine Sim.sq (p1 := 216) (s_iload dX4_split_214) ?_
      refine Sim.sq (p1 := 217) (s_iald dX4_split_216) ?_
      refine Sim.sq (p1 := 220) (s_callV (C_X1_rightOf l) (rfl : vwCl[1]? = some (RX1, TX1, 10)) (by decide) kw404 kw405 kw406 kw54 kw407 ⟨rfl, by decide +kernel, by decide +kernel, by decide +kernel⟩ ⟨by decide, by decide⟩ shN1 dX4_split_217) ?_
      refine Sim.sq (p1 := 221) (s_iload_n rfl dX4_split_220) ?_
      refine Sim.sq (p1 := 224) (s_callV (C_X4_join l) (rfl : vwCl[4]? = some (RX4, TX4, 6)) (by decide) kw422 kw423 kw424 kw53 kw425 ⟨rfl, by decide +kernel, by decide +kernel, by decide +kernel⟩ ⟨by decide, by decide⟩ shN4 dX4_split_221) ?_
      exact (s_puti (rfl : vwCl[4]? = some (RX4, TX4, 6)) (by decide) (by decide) inG4 kw124 rfl tyX4 tyX4_ok nmX4 rfl (by decide +kernel) dX4_split_224)
    refine Sim.sq (p1 := 230) (s_iinc (by decide +kernel) (by decide) dX4_split_227) ?_
    exact (s_goto dX4_split_230 (by decide) rfl)
  exact (s_vret rfl dX4_split_233)
set_option maxRecDepth 100000 in
set_option maxHeartbeats 4000000 in
theorem C_X4_split (l : Launch) : Ct l yX4_split cX4_split 8 none 5 111 m_X4_split := Ct_of (y := yX4_split) (by decide +kernel) S_X4_split
set_option maxRecDepth 100000 in
set_option maxHeartbeats 4000000 in
theorem S_X2_moveMarksOn {l : Launch} : Sim l (fun _ => True) RX2 "moveMarksOn" cX2_moveMarksOn 4 none 0 0 [] b_X2_moveMarksOn 0 38 := by
  unfold b_X2_moveMarksOn
  refine Sim.sq (p1 := 1) (s_iconst (by decide +kernel) dX2_moveMarksOn_0) ?_
  refine Sim.sq (p1 := 2) (s_istore_n rfl (by decide) dX2_moveMarksOn_1) ?_
  refine Sim.sq (p1 := 37) (Sim.lp ?_) ?_
  · refine Sim.sq (p1 := 3) (s_iload_n rfl dX2_moveMarksOn_2) ?_
    refine Sim.sq (p1 := 4) (s_aload_n rfl dX2_moveMarksOn_3) ?_
    refine Sim.sq (p1 := 7) (s_getr (rfl : vwCl[2]? = some (RX2, TX2, 7)) (by decide) (by decide) inG2 kw183 rfl dX2_moveMarksOn_4) ?_
    refine Sim.sq (p1 := 8) (s_alen dX2_moveMarksOn_7) ?_
    refine Sim.bk ?_
    refine Sim.sq (p1 := 11) (s_icmp_ge dX2_moveMarksOn_8 (by decide) rfl) ?_
    refine Sim.sq (p1 := 12) (s_aload_n rfl dX2_moveMarksOn_11) ?_
    refine Sim.sq (p1 := 15) (s_getr (rfl : vwCl[2]? = some (RX2, TX2, 7)) (by decide) (by decide) inG2 kw183 rfl dX2_moveMarksOn_12) ?_
    refine Sim.sq (p1 := 16) (s_iload_n rfl dX2_moveMarksOn_15) ?_
    refine Sim.sq (p1 := 17) (s_iald dX2_moveMarksOn_16) ?_
    refine Sim.sq (p1 := 18) (s_iload_n rfl dX2_moveMarksOn_17) ?_
    refine Sim.sq (p1 := 31) (Sim.bk ?_) ?_
    · refine Sim.sq (p1 := 21) (s_icmp_lt dX2_moveMarksOn_18 (by decide) rfl) ?_
      refine Sim.sq (p1 := 22) (s_aload_n rfl dX2_moveMarksOn_21) ?_
      refine Sim.sq (p1 := 25) (s_getr (rfl : vwCl[2]? = some (RX2, TX2, 7)) (by decide) (by decide) inG2 kw183 rfl dX2_moveMarksOn_22) ?_
      refine Sim.sq (p1 := 26) (s_iload_n rfl dX2_moveMarksOn_25) ?_
      refine Sim.sq (p1 := 27) (s_dup2 dX2_moveMarksOn_26) ?_
      refine Sim.sq (p1 := 28) (s_iald dX2_moveMarksOn_27) ?_
      refine Sim.sq (p1 := 29) (s_iload_n rfl dX2_moveMarksOn_28) ?_
      refine Sim.sq (p1 := 30) (s_iadd dX2_moveMarksOn_29) ?_
      exact (s_iast dX2_moveMarksOn_30)
    refine Sim.sq (p1 := 34) (s_iinc (by decide +kernel) (by decide) dX2_moveMarksOn_31) ?_
    exact (s_goto dX2_moveMarksOn_34 (by decide) rfl)
  exact (s_vret rfl dX2_moveMarksOn_37)
set_option maxRecDepth 100000 in
set_option maxHeartbeats 4000000 in
theorem C_X2_moveMarksOn (l : Launch) : Ct l yX2_moveMarksOn cX2_moveMarksOn 4 none 0 0 m_X2_moveMarksOn := Ct_of (y := yX2_moveMarksOn) (by decide +kernel) S_X2_moveMarksOn
set_option maxRecDepth 100000 in
set_option maxHeartbeats 4000000 in
theorem S_X5_putIn {l : Launch} : Sim l (fun _ => True) RX5 "putIn" cX5_putIn 6 none 6 138 [] b_X5_putIn 0 87 := by
  unfold b_X5_putIn
  refine Sim.sq (p1 := 1) (s_aload_n rfl dX5_putIn_0) ?_
  refine Sim.sq (p1 := 4) (s_getr (rfl : vwCl[5]? = some (RX5, TX5, 11)) (by decide) (by decide) inG5 kw234 rfl dX5_putIn_1) ?_
  refine Sim.sq (p1 := 7) (s_getiN (rfl : vwCl[2]? = some (RX2, TX2, 7)) (by decide) (by decide) inG2 kn188 rfl dX5_putIn_4) ?_
  refine Sim.sq (p1 := 8) (s_istore_n rfl (by decide) dX5_putIn_7) ?_
  refine Sim.sq (p1 := 9) (s_aload_n rfl dX5_putIn_8) ?_
  refine Sim.sq (p1 := 12) (s_getr (rfl : vwCl[5]? = some (RX5, TX5, 11)) (by decide) (by decide) inG5 kw230 rfl dX5_putIn_9) ?_
  refine Sim.sq (p1 := 13) (s_aload_n rfl dX5_putIn_12) ?_
  refine Sim.sq (p1 := 16) (s_getr (rfl : vwCl[5]? = some (RX5, TX5, 11)) (by decide) (by decide) inG5 kw234 rfl dX5_putIn_13) ?_
  refine Sim.sq (p1 := 19) (s_getiN (rfl : vwCl[2]? = some (RX2, TX2, 7)) (by decide) (by decide) inG2 kn192 rfl dX5_putIn_16) ?_
  refine Sim.sq (p1 := 20) (s_iload_n rfl dX5_putIn_19) ?_
  refine Sim.sq (p1 := 21) (s_iload_n rfl dX5_putIn_20) ?_
  refine Sim.sq (p1 := 24) (s_callV (C_X4_split l) (rfl : vwCl[4]? = some (RX4, TX4, 6)) (by decide) kw388 kw389 kw390 kw53 kw391 ⟨rfl, by decide +kernel, by decide +kernel, by decide +kernel⟩ ⟨by decide, by decide⟩ shN4 dX5_putIn_21) ?_
  refine Sim.sq (p1 := 25) (s_aload_n rfl dX5_putIn_24) ?_
  refine Sim.sq (p1 := 28) (s_getr (rfl : vwCl[5]? = some (RX5, TX5, 11)) (by decide) (by decide) inG5 kw230 rfl dX5_putIn_25) ?_
  refine Sim.sq (p1 := 31) (s_getiN (rfl : vwCl[4]? = some (RX4, TX4, 6)) (by decide) (by decide) inG4 kn123 rfl dX5_putIn_28) ?_
  refine Sim.sq (p1 := 33) (s_istore (by decide) dX5_putIn_31) ?_
  refine Sim.sq (p1 := 34) (s_aload_n rfl dX5_putIn_33) ?_
  refine Sim.sq (p1 := 37) (s_getr (rfl : vwCl[5]? = some (RX5, TX5, 11)) (by decide) (by decide) inG5 kw230 rfl dX5_putIn_34) ?_
  refine Sim.sq (p1 := 40) (s_getiN (rfl : vwCl[4]? = some (RX4, TX4, 6)) (by decide) (by decide) inG4 kn125 rfl dX5_putIn_37) ?_
  refine Sim.sq (p1 := 42) (s_istore (by decide) dX5_putIn_40) ?_
  refine Sim.sq (p1 := 43) (s_aload_n rfl dX5_putIn_42) ?_
  refine Sim.sq (p1 := 46) (s_getr (rfl : vwCl[5]? = some (RX5, TX5, 11)) (by decide) (by decide) inG5 kw234 rfl dX5_putIn_43) ?_
  refine Sim.sq (p1 := 47) (s_aload_n rfl dX5_putIn_46) ?_
  refine Sim.sq (p1 := 50) (s_getr (rfl : vwCl[5]? = some (RX5, TX5, 11)) (by decide) (by decide) inG5 kw230 rfl dX5_putIn_47) ?_
  refine Sim.sq (p1 := 51) (s_aload_n rfl dX5_putIn_50) ?_
  refine Sim.sq (p1 := 54) (s_getr (rfl : vwCl[5]? = some (RX5, TX5, 11)) (by decide) (by decide) inG5 kw230 rfl dX5_putIn_51) ?_
  refine Sim.sq (p1 := 56) (s_iload dX5_putIn_54) ?_
  refine Sim.sq (p1 := 57) (s_iload_n rfl dX5_putIn_56) ?_
  refine Sim.sq (p1 := 58) (s_iload_n rfl dX5_putIn_57) ?_
  refine Sim.sq (p1 := 61) (s_callV (C_X4_join l) (rfl : vwCl[4]? = some (RX4, TX4, 6)) (by decide) kw440 kw423 kw424 kw53 kw425 ⟨rfl, by decide +kernel, by decide +kernel, by decide +kernel⟩ ⟨by decide, by decide⟩ shN4 dX5_putIn_58) ?_
  refine Sim.sq (p1 := 63) (s_iload dX5_putIn_61) ?_
  refine Sim.sq (p1 := 64) (s_iload_n rfl dX5_putIn_63) ?_
  refine Sim.sq (p1 := 67) (s_callV (C_X4_join l) (rfl : vwCl[4]? = some (RX4, TX4, 6)) (by decide) kw440 kw423 kw424 kw53 kw425 ⟨rfl, by decide +kernel, by decide +kernel, by decide +kernel⟩ ⟨by decide, by decide⟩ shN4 dX5_putIn_64) ?_
  refine Sim.sq (p1 := 70) (s_putiN (rfl : vwCl[2]? = some (RX2, TX2, 7)) (by decide) (by decide) inG2 kn192 rfl tyX2 tyX2_ok nmX2 rfl (by decide +kernel) dX5_putIn_67) ?_
  refine Sim.sq (p1 := 71) (s_aload_n rfl dX5_putIn_70) ?_
  refine Sim.sq (p1 := 74) (s_getr (rfl : vwCl[5]? = some (RX5, TX5, 11)) (by decide) (by decide) inG5 kw234 rfl dX5_putIn_71) ?_
  refine Sim.sq (p1 := 75) (s_iload_n rfl dX5_putIn_74) ?_
  refine Sim.sq (p1 := 76) (s_aload_n rfl dX5_putIn_75) ?_
  refine Sim.sq (p1 := 79) (s_getr (rfl : vwCl[5]? = some (RX5, TX5, 11)) (by decide) (by decide) inG5 kw231 rfl dX5_putIn_76) ?_
  refine Sim.sq (p1 := 80) (s_iload_n rfl dX5_putIn_79) ?_
  refine Sim.sq (p1 := 83) (s_callV (C_X1_sizeOf l) (rfl : vwCl[1]? = some (RX1, TX1, 10)) (by decide) kw310 kw311 kw312 kw54 kw313 ⟨rfl, by decide +kernel, by decide +kernel, by decide +kernel⟩ ⟨by decide, by decide⟩ shN1 dX5_putIn_80) ?_
  refine Sim.sq (p1 := 86) (s_callV (C_X2_moveMarksOn l) (rfl : vwCl[2]? = some (RX2, TX2, 7)) (by decide) kw441 kw442 kw443 kw56 kw444 ⟨rfl, by decide +kernel, by decide +kernel, by decide +kernel⟩ ⟨by decide, by decide⟩ shN2 dX5_putIn_83) ?_
  exact (s_vret rfl dX5_putIn_86)
set_option maxRecDepth 100000 in
set_option maxHeartbeats 4000000 in
theorem C_X5_putIn (l : Launch) : Ct l yX5_putIn cX5_putIn 6 none 6 138 m_X5_putIn := Ct_of (y := yX5_putIn) (by decide +kernel) S_X5_putIn
set_option maxRecDepth 100000 in
set_option maxHeartbeats 4000000 in
theorem S_X4_hasBalance {l : Launch} : Sim l (fun _ => True) RX4 "hasBalance" cX4_hasBalance 7 (some .boolean) 1 21 [] b_X4_hasBalance 0 71 := by
  unfold b_X4_hasBalance
  refine Sim.sq (p1 := 1) (s_aload_n rfl dX4_hasBalance_0) ?_
  refine Sim.sq (p1 := 4) (s_getr (rfl : vwCl[4]? = some (RX4, TX4, 6)) (by decide) (by decide) inG4 kw117 rfl dX4_hasBalance_1) ?_
  refine Sim.sq (p1 := 5) (s_iload_n rfl dX4_hasBalance_4) ?_
  refine Sim.sq (p1 := 8) (s_callV (C_X1_sizeOf l) (rfl : vwCl[1]? = some (RX1, TX1, 10)) (by decide) kw352 kw311 kw312 kw54 kw313 ⟨rfl, by decide +kernel, by decide +kernel, by decide +kernel⟩ ⟨by decide, by decide⟩ shN1 dX4_hasBalance_5) ?_
  refine Sim.sq (p1 := 9) (s_istore_n rfl (by decide) dX4_hasBalance_8) ?_
  refine Sim.sq (p1 := 10) (s_iconst (by decide +kernel) dX4_hasBalance_9) ?_
  refine Sim.sq (p1 := 11) (s_istore_n rfl (by decide) dX4_hasBalance_10) ?_
  refine Sim.sq (p1 := 12) (s_iconst (by decide +kernel) dX4_hasBalance_11) ?_
  refine Sim.sq (p1 := 14) (s_istore (by decide) dX4_hasBalance_12) ?_
  refine Sim.sq (p1 := 15) (s_iconst (by decide +kernel) dX4_hasBalance_14) ?_
  refine Sim.sq (p1 := 17) (s_istore (by decide) dX4_hasBalance_15) ?_
  refine Sim.sq (p1 := 56) (Sim.lp ?_) ?_
  · refine Sim.sq (p1 := 19) (s_iload dX4_hasBalance_17) ?_
    refine Sim.sq (p1 := 20) (s_aload_n rfl dX4_hasBalance_19) ?_
    refine Sim.sq (p1 := 23) (s_getr (rfl : vwCl[4]? = some (RX4, TX4, 6)) (by decide) (by decide) inG4 kw117 rfl dX4_hasBalance_20) ?_
    refine Sim.sq (p1 := 24) (s_iload_n rfl dX4_hasBalance_23) ?_
    refine Sim.sq (p1 := 27) (s_callV (C_X1_heightOf l) (rfl : vwCl[1]? = some (RX1, TX1, 10)) (by decide) kw453 kw381 kw382 kw54 kw383 ⟨rfl, by decide +kernel, by decide +kernel, by decide +kernel⟩ ⟨by decide, by decide⟩ shN1 dX4_hasBalance_24) ?_
    refine Sim.bk ?_
    refine Sim.sq (p1 := 30) (s_icmp_ge dX4_hasBalance_27 (by decide) rfl) ?_
    refine Sim.sq (p1 := 31) (s_iload_n rfl dX4_hasBalance_30) ?_
    refine Sim.sq (p1 := 34) (s_sipush (by decide +kernel) dX4_hasBalance_31) ?_
    refine Sim.sq (p1 := 37) (s_icmp_gt dX4_hasBalance_34 (by decide) rfl) ?_
    refine Sim.sq (p1 := 38) (s_iload_n rfl dX4_hasBalance_37) ?_
    refine Sim.sq (p1 := 40) (s_iload dX4_hasBalance_38) ?_
    refine Sim.sq (p1 := 41) (s_iadd dX4_hasBalance_40) ?_
    refine Sim.sq (p1 := 43) (s_istore (by decide) dX4_hasBalance_41) ?_
    refine Sim.sq (p1 := 45) (s_iload dX4_hasBalance_43) ?_
    refine Sim.sq (p1 := 46) (s_istore_n rfl (by decide) dX4_hasBalance_45) ?_
    refine Sim.sq (p1 := 48) (s_iload dX4_hasBalance_46) ?_
    refine Sim.sq (p1 := 50) (s_istore (by decide) dX4_hasBalance_48) ?_
    refine Sim.sq (p1 := 53) (s_iinc (by decide +kernel) (by decide) dX4_hasBalance_50) ?_
    exact (s_goto dX4_hasBalance_53 (by decide) rfl)
  refine Sim.sq (p1 := 57) (s_iload_n rfl dX4_hasBalance_56) ?_
  refine Sim.sq (p1 := 70) (Sim.bk ?_) ?_
  · refine Sim.sq (p1 := 69) (Sim.bk ?_) ?_
    · refine Sim.sq (p1 := 65) (Sim.bk ?_) ?_
      · refine Sim.sq (p1 := 60) (s_if_eq dX4_hasBalance_57 (by decide) rfl) ?_
        refine Sim.sq (p1 := 61) (s_iload_n rfl dX4_hasBalance_60) ?_
        refine Sim.sq (p1 := 62) (s_iload_n rfl dX4_hasBalance_61) ?_
        exact (s_icmp_lt dX4_hasBalance_62 (by decide) rfl)
      refine Sim.sq (p1 := 66) (s_iconst (by decide +kernel) dX4_hasBalance_65) ?_
      exact (s_goto dX4_hasBalance_66 (by decide) rfl)
    exact (s_iconst (by decide +kernel) dX4_hasBalance_69)
  exact (s_zret rfl dX4_hasBalance_70)
set_option maxRecDepth 100000 in
set_option maxHeartbeats 4000000 in
theorem C_X4_hasBalance (l : Launch) : Ct l yX4_hasBalance cX4_hasBalance 7 (some .boolean) 1 21 m_X4_hasBalance := Ct_of (y := yX4_hasBalance) (by decide +kernel) S_X4_hasBalance
set_option maxRecDepth 100000 in
set_option maxHeartbeats 4000000 in
theorem S_X3_addLeaf {l : Launch} : Sim l (fun _ => True) RX3 "addLeaf" cX3_addLeaf 6 none 1 24 [] b_X3_addLeaf 0 116 := by
  unfold b_X3_addLeaf
  refine Sim.sq (p1 := 1) (s_aload_n rfl dX3_addLeaf_0) ?_
  refine Sim.sq (p1 := 4) (s_geti (rfl : vwCl[3]? = some (RX3, TX3, 8)) (by decide) (by decide) inG3 kw155 rfl dX3_addLeaf_1) ?_
  refine Sim.sq (p1 := 7) (s_sipush (by decide +kernel) dX3_addLeaf_4) ?_
  refine Sim.sq (p1 := 11) (Sim.bk ?_) ?_
  · refine Sim.sq (p1 := 10) (s_icmp_lt dX3_addLeaf_7 (by decide) rfl) ?_
    exact (s_vret rfl dX3_addLeaf_10)
  refine Sim.sq (p1 := 12) (s_aload_n rfl dX3_addLeaf_11) ?_
  refine Sim.sq (p1 := 15) (s_getr (rfl : vwCl[3]? = some (RX3, TX3, 8)) (by decide) (by decide) inG3 kw147 rfl dX3_addLeaf_12) ?_
  refine Sim.sq (p1 := 16) (s_aload_n rfl dX3_addLeaf_15) ?_
  refine Sim.sq (p1 := 19) (s_geti (rfl : vwCl[3]? = some (RX3, TX3, 8)) (by decide) (by decide) inG3 kw155 rfl dX3_addLeaf_16) ?_
  refine Sim.sq (p1 := 20) (s_iload_n rfl dX3_addLeaf_19) ?_
  refine Sim.sq (p1 := 21) (s_iast dX3_addLeaf_20) ?_
  refine Sim.sq (p1 := 22) (s_aload_n rfl dX3_addLeaf_21) ?_
  refine Sim.sq (p1 := 25) (s_getr (rfl : vwCl[3]? = some (RX3, TX3, 8)) (by decide) (by decide) inG3 kw149 rfl dX3_addLeaf_22) ?_
  refine Sim.sq (p1 := 26) (s_aload_n rfl dX3_addLeaf_25) ?_
  refine Sim.sq (p1 := 29) (s_geti (rfl : vwCl[3]? = some (RX3, TX3, 8)) (by decide) (by decide) inG3 kw155 rfl dX3_addLeaf_26) ?_
  refine Sim.sq (p1 := 30) (s_aload_n rfl dX3_addLeaf_29) ?_
  refine Sim.sq (p1 := 33) (s_geti (rfl : vwCl[3]? = some (RX3, TX3, 8)) (by decide) (by decide) inG3 kw153 rfl dX3_addLeaf_30) ?_
  refine Sim.sq (p1 := 34) (s_iast dX3_addLeaf_33) ?_
  refine Sim.sq (p1 := 35) (s_aload_n rfl dX3_addLeaf_34) ?_
  refine Sim.sq (p1 := 38) (s_getr (rfl : vwCl[3]? = some (RX3, TX3, 8)) (by decide) (by decide) inG3 kw150 rfl dX3_addLeaf_35) ?_
  refine Sim.sq (p1 := 39) (s_aload_n rfl dX3_addLeaf_38) ?_
  refine Sim.sq (p1 := 42) (s_geti (rfl : vwCl[3]? = some (RX3, TX3, 8)) (by decide) (by decide) inG3 kw155 rfl dX3_addLeaf_39) ?_
  refine Sim.sq (p1 := 43) (s_iload_n rfl dX3_addLeaf_42) ?_
  refine Sim.sq (p1 := 44) (s_iast dX3_addLeaf_43) ?_
  refine Sim.sq (p1 := 45) (s_aload_n rfl dX3_addLeaf_44) ?_
  refine Sim.sq (p1 := 46) (s_dup dX3_addLeaf_45) ?_
  refine Sim.sq (p1 := 49) (s_geti (rfl : vwCl[3]? = some (RX3, TX3, 8)) (by decide) (by decide) inG3 kw155 rfl dX3_addLeaf_46) ?_
  refine Sim.sq (p1 := 50) (s_iconst (by decide +kernel) dX3_addLeaf_49) ?_
  refine Sim.sq (p1 := 51) (s_iadd dX3_addLeaf_50) ?_
  refine Sim.sq (p1 := 54) (s_puti (rfl : vwCl[3]? = some (RX3, TX3, 8)) (by decide) (by decide) inG3 kw155 rfl tyX3 tyX3_ok nmX3 rfl (by decide +kernel) dX3_addLeaf_51) ?_
  refine Sim.sq (p1 := 55) (s_aload_n rfl dX3_addLeaf_54) ?_
  refine Sim.sq (p1 := 56) (s_iload_n rfl dX3_addLeaf_55) ?_
  refine Sim.sq (p1 := 59) (s_callV (C_X1_sizeOf l) (rfl : vwCl[1]? = some (RX1, TX1, 10)) (by decide) kw469 kw311 kw312 kw54 kw313 ⟨rfl, by decide +kernel, by decide +kernel, by decide +kernel⟩ ⟨by decide, by decide⟩ shN1 dX3_addLeaf_56) ?_
  refine Sim.sq (p1 := 61) (s_istore (by decide) dX3_addLeaf_59) ?_
  refine Sim.sq (p1 := 62) (s_iconst (by decide +kernel) dX3_addLeaf_61) ?_
  refine Sim.sq (p1 := 64) (s_istore (by decide) dX3_addLeaf_62) ?_
  refine Sim.sq (p1 := 115) (Sim.lp ?_) ?_
  · refine Sim.sq (p1 := 66) (s_iload dX3_addLeaf_64) ?_
    refine Sim.sq (p1 := 68) (s_iload dX3_addLeaf_66) ?_
    refine Sim.bk ?_
    refine Sim.sq (p1 := 71) (s_icmp_ge dX3_addLeaf_68 (by decide) rfl) ?_
    refine Sim.sq (p1 := 72) (s_aload_n rfl dX3_addLeaf_71) ?_
    refine Sim.sq (p1 := 75) (s_geti (rfl : vwCl[3]? = some (RX3, TX3, 8)) (by decide) (by decide) inG3 kw153 rfl dX3_addLeaf_72) ?_
    refine Sim.sq (p1 := 76) (s_aload_n rfl dX3_addLeaf_75) ?_
    refine Sim.sq (p1 := 79) (s_getr (rfl : vwCl[3]? = some (RX3, TX3, 8)) (by decide) (by decide) inG3 kw145 rfl dX3_addLeaf_76) ?_
    refine Sim.sq (p1 := 80) (s_alen dX3_addLeaf_79) ?_
    refine Sim.sq (p1 := 83) (s_icmp_ge dX3_addLeaf_80 (by decide) rfl) ?_
    refine Sim.sq (p1 := 84) (s_aload_n rfl dX3_addLeaf_83) ?_
    refine Sim.sq (p1 := 87) (s_getr (rfl : vwCl[3]? = some (RX3, TX3, 8)) (by decide) (by decide) inG3 kw145 rfl dX3_addLeaf_84) ?_
    refine Sim.sq (p1 := 88) (s_aload_n rfl dX3_addLeaf_87) ?_
    refine Sim.sq (p1 := 91) (s_geti (rfl : vwCl[3]? = some (RX3, TX3, 8)) (by decide) (by decide) inG3 kw153 rfl dX3_addLeaf_88) ?_
    refine Sim.sq (p1 := 92) (s_aload_n rfl dX3_addLeaf_91) ?_
    refine Sim.sq (p1 := 93) (s_iload_n rfl dX3_addLeaf_92) ?_
    refine Sim.sq (p1 := 95) (s_iload dX3_addLeaf_93) ?_
    refine Sim.sq (p1 := 98) (s_callV (C_X1_codeOf l) (rfl : vwCl[1]? = some (RX1, TX1, 10)) (by decide) kw470 kw417 kw418 kw54 kw419 ⟨rfl, by decide +kernel, by decide +kernel, by decide +kernel⟩ ⟨by decide, by decide⟩ shN1 dX3_addLeaf_95) ?_
    refine Sim.sq (p1 := 99) (s_iast dX3_addLeaf_98) ?_
    refine Sim.sq (p1 := 100) (s_aload_n rfl dX3_addLeaf_99) ?_
    refine Sim.sq (p1 := 101) (s_dup dX3_addLeaf_100) ?_
    refine Sim.sq (p1 := 104) (s_geti (rfl : vwCl[3]? = some (RX3, TX3, 8)) (by decide) (by decide) inG3 kw153 rfl dX3_addLeaf_101) ?_
    refine Sim.sq (p1 := 105) (s_iconst (by decide +kernel) dX3_addLeaf_104) ?_
    refine Sim.sq (p1 := 106) (s_iadd dX3_addLeaf_105) ?_
    refine Sim.sq (p1 := 109) (s_puti (rfl : vwCl[3]? = some (RX3, TX3, 8)) (by decide) (by decide) inG3 kw153 rfl tyX3 tyX3_ok nmX3 rfl (by decide +kernel) dX3_addLeaf_106) ?_
    refine Sim.sq (p1 := 112) (s_iinc (by decide +kernel) (by decide) dX3_addLeaf_109) ?_
    exact (s_goto dX3_addLeaf_112 (by decide) rfl)
  exact (s_vret rfl dX3_addLeaf_115)
set_option maxRecDepth 100000 in
set_option maxHeartbeats 4000000 in
theorem C_X3_addLeaf (l : Launch) : Ct l yX3_addLeaf cX3_addLeaf 6 none 1 24 m_X3_addLeaf := Ct_of (y := yX3_addLeaf) (by decide +kernel) S_X3_addLeaf
set_option maxRecDepth 100000 in
set_option maxHeartbeats 4000000 in
theorem S_X3_read {l : Launch} : Sim l (fun _ => True) RX3 "read" cX3_read 7 none 2 49 [] b_X3_read 0 149 := by
  unfold b_X3_read b_X3_read_t0 b_X3_read_l0
  refine Sim.sq (p1 := 1) (s_aload_n rfl dX3_read_0) ?_
  refine Sim.sq (p1 := 2) (s_iconst (by decide +kernel) dX3_read_1) ?_
  refine Sim.sq (p1 := 5) (s_puti (rfl : vwCl[3]? = some (RX3, TX3, 8)) (by decide) (by decide) inG3 kw153 rfl tyX3 tyX3_ok nmX3 rfl (by decide +kernel) dX3_read_2) ?_
  refine Sim.sq (p1 := 6) (s_aload_n rfl dX3_read_5) ?_
  refine Sim.sq (p1 := 7) (s_iconst (by decide +kernel) dX3_read_6) ?_
  refine Sim.sq (p1 := 10) (s_puti (rfl : vwCl[3]? = some (RX3, TX3, 8)) (by decide) (by decide) inG3 kw155 rfl tyX3 tyX3_ok nmX3 rfl (by decide +kernel) dX3_read_7) ?_
  refine Sim.sq (p1 := 11) (s_iconst (by decide +kernel) dX3_read_10) ?_
  refine Sim.sq (p1 := 12) (s_istore_n rfl (by decide) dX3_read_11) ?_
  refine Sim.sq (p1 := 13) (s_iload_n rfl dX3_read_12) ?_
  refine Sim.sq (p1 := 15) (s_istore (by decide) dX3_read_13) ?_
  refine Sim.sq (p1 := 16) (s_iconst (by decide +kernel) dX3_read_15) ?_
  refine Sim.sq (p1 := 18) (s_istore (by decide) dX3_read_16) ?_
  refine Sim.sq (p1 := 19) (s_iconst (by decide +kernel) dX3_read_18) ?_
  refine Sim.sq (p1 := 21) (s_istore (by decide) dX3_read_19) ?_
  refine Sim.sq (p1 := 148) (Sim.lp ?_) ?_
  · refine Sim.sq (p1 := 23) (s_iload dX3_read_21) ?_
    refine Sim.sq (p1 := 26) (s_sipush (by decide +kernel) dX3_read_23) ?_
    refine Sim.bk ?_
    refine Sim.sq (p1 := 29) (s_icmp_ge dX3_read_26 (by decide) rfl) ?_
    refine Sim.sq (p1 := 31) (s_iload dX3_read_29) ?_
    refine Sim.sq (p1 := 34) (s_if_eq dX3_read_31 (by decide) rfl) ?_
    refine Sim.sq (p1 := 35) (s_aload_n rfl dX3_read_34) ?_
    refine Sim.sq (p1 := 37) (s_iload dX3_read_35) ?_
    refine Sim.sq (p1 := 40) (s_callV (C_X1_isPair l) (rfl : vwCl[1]? = some (RX1, TX1, 10)) (by decide) kw462 kw397 kw398 kw54 kw399 ⟨rfl, by decide +kernel, by decide +kernel, by decide +kernel⟩ ⟨by decide, by decide⟩ shN1 dX3_read_37) ?_
    refine Sim.sq (p1 := 142) (Sim.bk ?_) ?_
    · refine Sim.sq (p1 := 98) (Sim.bk ?_) ?_
      · refine Sim.sq (p1 := 43) (s_if_eq dX3_read_40 (by decide) rfl) ?_
        refine Sim.sq (p1 := 44) (s_iload_n rfl dX3_read_43) ?_
        refine Sim.sq (p1 := 45) (s_aload_n rfl dX3_read_44) ?_
        refine Sim.sq (p1 := 48) (s_getr (rfl : vwCl[3]? = some (RX3, TX3, 8)) (by decide) (by decide) inG3 kw151 rfl dX3_read_45) ?_
        refine Sim.sq (p1 := 49) (s_alen dX3_read_48) ?_
        refine Sim.sq (p1 := 52) (s_icmp_ge dX3_read_49 (by decide) rfl) ?_
        refine Sim.sq (p1 := 53) (s_iload_n rfl dX3_read_52) ?_
        refine Sim.sq (p1 := 54) (s_aload_n rfl dX3_read_53) ?_
        refine Sim.sq (p1 := 57) (s_getr (rfl : vwCl[3]? = some (RX3, TX3, 8)) (by decide) (by decide) inG3 kw152 rfl dX3_read_54) ?_
        refine Sim.sq (p1 := 58) (s_alen dX3_read_57) ?_
        refine Sim.sq (p1 := 61) (s_icmp_ge dX3_read_58 (by decide) rfl) ?_
        refine Sim.sq (p1 := 64) (s_iinc (by decide +kernel) (by decide) dX3_read_61) ?_
        refine Sim.sq (p1 := 65) (s_aload_n rfl dX3_read_64) ?_
        refine Sim.sq (p1 := 68) (s_getr (rfl : vwCl[3]? = some (RX3, TX3, 8)) (by decide) (by decide) inG3 kw151 rfl dX3_read_65) ?_
        refine Sim.sq (p1 := 69) (s_iload_n rfl dX3_read_68) ?_
        refine Sim.sq (p1 := 70) (s_aload_n rfl dX3_read_69) ?_
        refine Sim.sq (p1 := 72) (s_iload dX3_read_70) ?_
        refine Sim.sq (p1 := 75) (s_callV (C_X1_rightOf l) (rfl : vwCl[1]? = some (RX1, TX1, 10)) (by decide) kw463 kw405 kw406 kw54 kw407 ⟨rfl, by decide +kernel, by decide +kernel, by decide +kernel⟩ ⟨by decide, by decide⟩ shN1 dX3_read_72) ?_
        refine Sim.sq (p1 := 76) (s_iast dX3_read_75) ?_
        refine Sim.sq (p1 := 77) (s_aload_n rfl dX3_read_76) ?_
        refine Sim.sq (p1 := 80) (s_getr (rfl : vwCl[3]? = some (RX3, TX3, 8)) (by decide) (by decide) inG3 kw152 rfl dX3_read_77) ?_
        refine Sim.sq (p1 := 81) (s_iload_n rfl dX3_read_80) ?_
        refine Sim.sq (p1 := 83) (s_iload dX3_read_81) ?_
        refine Sim.sq (p1 := 84) (s_iast dX3_read_83) ?_
        refine Sim.sq (p1 := 87) (s_iinc (by decide +kernel) (by decide) dX3_read_84) ?_
        refine Sim.sq (p1 := 88) (s_aload_n rfl dX3_read_87) ?_
        refine Sim.sq (p1 := 90) (s_iload dX3_read_88) ?_
        refine Sim.sq (p1 := 93) (s_callV (C_X1_leftOf l) (rfl : vwCl[1]? = some (RX1, TX1, 10)) (by decide) kw464 kw401 kw402 kw54 kw403 ⟨rfl, by decide +kernel, by decide +kernel, by decide +kernel⟩ ⟨by decide, by decide⟩ shN1 dX3_read_90) ?_
        refine Sim.sq (p1 := 95) (s_istore (by decide) dX3_read_93) ?_
        exact (s_goto dX3_read_95 (by decide) rfl)
      refine Sim.sq (p1 := 99) (s_aload_n rfl dX3_read_98) ?_
      refine Sim.sq (p1 := 100) (s_aload_n rfl dX3_read_99) ?_
      refine Sim.sq (p1 := 102) (s_iload dX3_read_100) ?_
      refine Sim.sq (p1 := 104) (s_iload dX3_read_102) ?_
      refine Sim.sq (p1 := 107) (s_callV (C_X3_addLeaf l) (rfl : vwCl[3]? = some (RX3, TX3, 8)) (by decide) kw465 kw467 kw11 kw55 kw468 ⟨rfl, by decide +kernel, by decide +kernel, by decide +kernel⟩ ⟨by decide, by decide⟩ shN3 dX3_read_104) ?_
      refine Sim.sq (p1 := 110) (s_iinc (by decide +kernel) (by decide) dX3_read_107) ?_
      refine Sim.sq (p1 := 111) (s_iload_n rfl dX3_read_110) ?_
      refine Sim.sq (p1 := 124) (Sim.bk ?_) ?_
      · refine Sim.sq (p1 := 123) (Sim.bk ?_) ?_
        · refine Sim.sq (p1 := 114) (s_if_lt dX3_read_111 (by decide) rfl) ?_
          refine Sim.sq (p1 := 115) (s_aload_n rfl dX3_read_114) ?_
          refine Sim.sq (p1 := 118) (s_getr (rfl : vwCl[3]? = some (RX3, TX3, 8)) (by decide) (by decide) inG3 kw151 rfl dX3_read_115) ?_
          refine Sim.sq (p1 := 119) (s_iload_n rfl dX3_read_118) ?_
          refine Sim.sq (p1 := 120) (s_iald dX3_read_119) ?_
          exact (s_goto dX3_read_120 (by decide) rfl)
        exact (s_iconst (by decide +kernel) dX3_read_123)
      refine Sim.sq (p1 := 126) (s_istore (by decide) dX3_read_124) ?_
      refine Sim.sq (p1 := 127) (s_iload_n rfl dX3_read_126) ?_
      refine Sim.sq (p1 := 140) (Sim.bk ?_) ?_
      · refine Sim.sq (p1 := 139) (Sim.bk ?_) ?_
        · refine Sim.sq (p1 := 130) (s_if_lt dX3_read_127 (by decide) rfl) ?_
          refine Sim.sq (p1 := 131) (s_aload_n rfl dX3_read_130) ?_
          refine Sim.sq (p1 := 134) (s_getr (rfl : vwCl[3]? = some (RX3, TX3, 8)) (by decide) (by decide) inG3 kw152 rfl dX3_read_131) ?_
          refine Sim.sq (p1 := 135) (s_iload_n rfl dX3_read_134) ?_
          refine Sim.sq (p1 := 136) (s_iald dX3_read_135) ?_
          exact (s_goto dX3_read_136 (by decide) rfl)
        exact (s_iconst (by decide +kernel) dX3_read_139)
      exact (s_istore (by decide) dX3_read_140)
    refine Sim.sq (p1 := 145) (s_iinc (by decide +kernel) (by decide) dX3_read_142) ?_
    exact (s_goto dX3_read_145 (by decide) rfl)
  exact (s_vret rfl dX3_read_148)
set_option maxRecDepth 100000 in
set_option maxHeartbeats 4000000 in
theorem C_X3_read (l : Launch) : Ct l yX3_read cX3_read 7 none 2 49 m_X3_read := Ct_of (y := yX3_read) (by decide +kernel) S_X3_read
set_option maxRecDepth 100000 in
set_option maxHeartbeats 4000000 in
theorem S_X5_rebuildText {l : Launch} : Sim l (fun _ => True) RX5 "rebuildText" cX5_rebuildText 1 none 17 438 [] b_X5_rebuildText 0 47 := by
  unfold b_X5_rebuildText
  refine Sim.sq (p1 := 1) (s_aload_n rfl dX5_rebuildText_0) ?_
  refine Sim.sq (p1 := 4) (s_getr (rfl : vwCl[5]? = some (RX5, TX5, 11)) (by decide) (by decide) inG5 kw232 rfl dX5_rebuildText_1) ?_
  refine Sim.sq (p1 := 5) (s_aload_n rfl dX5_rebuildText_4) ?_
  refine Sim.sq (p1 := 8) (s_getr (rfl : vwCl[5]? = some (RX5, TX5, 11)) (by decide) (by decide) inG5 kw231 rfl dX5_rebuildText_5) ?_
  refine Sim.sq (p1 := 9) (s_aload_n rfl dX5_rebuildText_8) ?_
  refine Sim.sq (p1 := 12) (s_getr (rfl : vwCl[5]? = some (RX5, TX5, 11)) (by decide) (by decide) inG5 kw234 rfl dX5_rebuildText_9) ?_
  refine Sim.sq (p1 := 15) (s_getiN (rfl : vwCl[2]? = some (RX2, TX2, 7)) (by decide) (by decide) inG2 kn192 rfl dX5_rebuildText_12) ?_
  refine Sim.sq (p1 := 18) (s_callV (C_X3_read l) (rfl : vwCl[3]? = some (RX3, TX3, 8)) (by decide) kw458 kw459 kw460 kw55 kw461 ⟨rfl, by decide +kernel, by decide +kernel, by decide +kernel⟩ ⟨by decide, by decide⟩ shN3 dX5_rebuildText_15) ?_
  refine Sim.sq (p1 := 19) (s_aload_n rfl dX5_rebuildText_18) ?_
  refine Sim.sq (p1 := 22) (s_getr (rfl : vwCl[5]? = some (RX5, TX5, 11)) (by decide) (by decide) inG5 kw234 rfl dX5_rebuildText_19) ?_
  refine Sim.sq (p1 := 23) (s_aload_n rfl dX5_rebuildText_22) ?_
  refine Sim.sq (p1 := 26) (s_getr (rfl : vwCl[5]? = some (RX5, TX5, 11)) (by decide) (by decide) inG5 kw230 rfl dX5_rebuildText_23) ?_
  refine Sim.sq (p1 := 27) (s_aload_n rfl dX5_rebuildText_26) ?_
  refine Sim.sq (p1 := 30) (s_getr (rfl : vwCl[5]? = some (RX5, TX5, 11)) (by decide) (by decide) inG5 kw232 rfl dX5_rebuildText_27) ?_
  refine Sim.sq (p1 := 33) (s_getrN (rfl : vwCl[3]? = some (RX3, TX3, 8)) (by decide) (by decide) inG3 kn148 rfl dX5_rebuildText_30) ?_
  refine Sim.sq (p1 := 34) (s_aload_n rfl dX5_rebuildText_33) ?_
  refine Sim.sq (p1 := 37) (s_getr (rfl : vwCl[5]? = some (RX5, TX5, 11)) (by decide) (by decide) inG5 kw232 rfl dX5_rebuildText_34) ?_
  refine Sim.sq (p1 := 40) (s_getiN (rfl : vwCl[3]? = some (RX3, TX3, 8)) (by decide) (by decide) inG3 kn156 rfl dX5_rebuildText_37) ?_
  refine Sim.sq (p1 := 43) (s_callV (C_X4_ropeOfLeaves l) (rfl : vwCl[4]? = some (RX4, TX4, 6)) (by decide) kw471 kw369 kw370 kw53 kw371 ⟨rfl, by decide +kernel, by decide +kernel, by decide +kernel⟩ ⟨by decide, by decide⟩ shN4 dX5_rebuildText_40) ?_
  refine Sim.sq (p1 := 46) (s_putiN (rfl : vwCl[2]? = some (RX2, TX2, 7)) (by decide) (by decide) inG2 kn192 rfl tyX2 tyX2_ok nmX2 rfl (by decide +kernel) dX5_rebuildText_43) ?_
  exact (s_vret rfl dX5_rebuildText_46)
set_option maxRecDepth 100000 in
set_option maxHeartbeats 4000000 in
theorem C_X5_rebuildText (l : Launch) : Ct l yX5_rebuildText cX5_rebuildText 1 none 17 438 m_X5_rebuildText := Ct_of (y := yX5_rebuildText) (by decide +kernel) S_X5_rebuildText
set_option maxRecDepth 100000 in
set_option maxHeartbeats 4000000 in
theorem S_X5_balance {l : Launch} : Sim l (fun _ => True) RX5 "balance" cX5_balance 1 none 18 458 [] b_X5_balance 0 46 := by
  unfold b_X5_balance
  refine Sim.sq (p1 := 1) (s_aload_n rfl dX5_balance_0) ?_
  refine Sim.sq (p1 := 4) (s_getr (rfl : vwCl[5]? = some (RX5, TX5, 11)) (by decide) (by decide) inG5 kw234 rfl dX5_balance_1) ?_
  refine Sim.sq (p1 := 7) (s_getiN (rfl : vwCl[2]? = some (RX2, TX2, 7)) (by decide) (by decide) inG2 kn190 rfl dX5_balance_4) ?_
  refine Sim.sq (p1 := 8) (s_iconst (by decide +kernel) dX5_balance_7) ?_
  refine Sim.sq (p1 := 45) (Sim.bk ?_) ?_
  · refine Sim.sq (p1 := 11) (s_icmp_ne dX5_balance_8 (by decide) rfl) ?_
    refine Sim.sq (p1 := 12) (s_aload_n rfl dX5_balance_11) ?_
    refine Sim.sq (p1 := 15) (s_getr (rfl : vwCl[5]? = some (RX5, TX5, 11)) (by decide) (by decide) inG5 kw230 rfl dX5_balance_12) ?_
    refine Sim.sq (p1 := 16) (s_aload_n rfl dX5_balance_15) ?_
    refine Sim.sq (p1 := 19) (s_getr (rfl : vwCl[5]? = some (RX5, TX5, 11)) (by decide) (by decide) inG5 kw234 rfl dX5_balance_16) ?_
    refine Sim.sq (p1 := 22) (s_getiN (rfl : vwCl[2]? = some (RX2, TX2, 7)) (by decide) (by decide) inG2 kn192 rfl dX5_balance_19) ?_
    refine Sim.sq (p1 := 25) (s_callV (C_X4_hasBalance l) (rfl : vwCl[4]? = some (RX4, TX4, 6)) (by decide) kw449 kw450 kw451 kw53 kw452 ⟨rfl, by decide +kernel, by decide +kernel, by decide +kernel⟩ ⟨by decide, by decide⟩ shN4 dX5_balance_22) ?_
    refine Sim.sq (p1 := 28) (s_if_ne dX5_balance_25 (by decide) rfl) ?_
    refine Sim.sq (p1 := 29) (s_aload_n rfl dX5_balance_28) ?_
    refine Sim.sq (p1 := 32) (s_callV (C_X5_rebuildText l) (rfl : vwCl[5]? = some (RX5, TX5, 11)) (by decide) kw454 kw456 kw10 kw52 kw457 ⟨rfl, by decide +kernel, by decide +kernel, by decide +kernel⟩ ⟨by decide, by decide⟩ shN5 dX5_balance_29) ?_
    refine Sim.sq (p1 := 33) (s_aload_n rfl dX5_balance_32) ?_
    refine Sim.sq (p1 := 36) (s_getr (rfl : vwCl[5]? = some (RX5, TX5, 11)) (by decide) (by decide) inG5 kw234 rfl dX5_balance_33) ?_
    refine Sim.sq (p1 := 37) (s_dup dX5_balance_36) ?_
    refine Sim.sq (p1 := 40) (s_getiN (rfl : vwCl[2]? = some (RX2, TX2, 7)) (by decide) (by decide) inG2 kn194 rfl dX5_balance_37) ?_
    refine Sim.sq (p1 := 41) (s_iconst (by decide +kernel) dX5_balance_40) ?_
    refine Sim.sq (p1 := 42) (s_iadd dX5_balance_41) ?_
    exact (s_putiN (rfl : vwCl[2]? = some (RX2, TX2, 7)) (by decide) (by decide) inG2 kn194 rfl tyX2 tyX2_ok nmX2 rfl (by decide +kernel) dX5_balance_42)
  exact (s_vret rfl dX5_balance_45)
set_option maxRecDepth 100000 in
set_option maxHeartbeats 4000000 in
theorem C_X5_balance (l : Launch) : Ct l yX5_balance cX5_balance 1 none 18 458 m_X5_balance := Ct_of (y := yX5_balance) (by decide +kernel) S_X5_balance
set_option maxRecDepth 100000 in
set_option maxHeartbeats 4000000 in
theorem S_X5_insert {l : Launch} : Sim l (fun _ => True) RX5 "insert" cX5_insert 3 (some .int) 19 478 [] b_X5_insert 0 85 := by
  unfold b_X5_insert
  refine Sim.sq (p1 := 1) (s_aload_n rfl dX5_insert_0) ?_
  refine Sim.sq (p1 := 2) (s_iload_n rfl dX5_insert_1) ?_
  refine Sim.sq (p1 := 5) (s_callV (C_X5_isPosition l) (rfl : vwCl[5]? = some (RX5, TX5, 11)) (by decide) kw302 kw304 kw0 kw52 kw305 ⟨rfl, by decide +kernel, by decide +kernel, by decide +kernel⟩ ⟨by decide, by decide⟩ shN5 dX5_insert_2) ?_
  refine Sim.sq (p1 := 10) (Sim.bk ?_) ?_
  · refine Sim.sq (p1 := 8) (s_if_ne dX5_insert_5 (by decide) rfl) ?_
    refine Sim.sq (p1 := 9) (s_iconst (by decide +kernel) dX5_insert_8) ?_
    exact (s_iret rfl dX5_insert_9)
  refine Sim.sq (p1 := 11) (s_aload_n rfl dX5_insert_10) ?_
  refine Sim.sq (p1 := 14) (s_geti (rfl : vwCl[5]? = some (RX5, TX5, 11)) (by decide) (by decide) inG5 kw239 rfl dX5_insert_11) ?_
  refine Sim.sq (p1 := 20) (Sim.bk ?_) ?_
  · refine Sim.sq (p1 := 17) (s_if_ne dX5_insert_14 (by decide) rfl) ?_
    refine Sim.sq (p1 := 19) (s_bipush (by decide +kernel) dX5_insert_17) ?_
    exact (s_iret rfl dX5_insert_19)
  refine Sim.sq (p1 := 21) (s_aload_n rfl dX5_insert_20) ?_
  refine Sim.sq (p1 := 24) (s_callV (C_X5_length l) (rfl : vwCl[5]? = some (RX5, TX5, 11)) (by decide) kw306 kw307 kw308 kw52 kw309 ⟨rfl, by decide +kernel, by decide +kernel, by decide +kernel⟩ ⟨by decide, by decide⟩ shN5 dX5_insert_21) ?_
  refine Sim.sq (p1 := 25) (s_aload_n rfl dX5_insert_24) ?_
  refine Sim.sq (p1 := 28) (s_geti (rfl : vwCl[5]? = some (RX5, TX5, 11)) (by decide) (by decide) inG5 kw239 rfl dX5_insert_25) ?_
  refine Sim.sq (p1 := 29) (s_iadd dX5_insert_28) ?_
  refine Sim.sq (p1 := 32) (s_sipush (by decide +kernel) dX5_insert_29) ?_
  refine Sim.sq (p1 := 38) (Sim.bk ?_) ?_
  · refine Sim.sq (p1 := 35) (s_icmp_le dX5_insert_32 (by decide) rfl) ?_
    refine Sim.sq (p1 := 37) (s_bipush (by decide +kernel) dX5_insert_35) ?_
    exact (s_iret rfl dX5_insert_37)
  refine Sim.sq (p1 := 39) (s_aload_n rfl dX5_insert_38) ?_
  refine Sim.sq (p1 := 42) (s_callV (C_X5_startChange l) (rfl : vwCl[5]? = some (RX5, TX5, 11)) (by decide) kw314 kw316 kw1 kw52 kw317 ⟨rfl, by decide +kernel, by decide +kernel, by decide +kernel⟩ ⟨by decide, by decide⟩ shN5 dX5_insert_39) ?_
  refine Sim.sq (p1 := 43) (s_aload_n rfl dX5_insert_42) ?_
  refine Sim.sq (p1 := 46) (s_getr (rfl : vwCl[5]? = some (RX5, TX5, 11)) (by decide) (by decide) inG5 kw230 rfl dX5_insert_43) ?_
  refine Sim.sq (p1 := 47) (s_aload_n rfl dX5_insert_46) ?_
  refine Sim.sq (p1 := 50) (s_getr (rfl : vwCl[5]? = some (RX5, TX5, 11)) (by decide) (by decide) inG5 kw238 rfl dX5_insert_47) ?_
  refine Sim.sq (p1 := 51) (s_aload_n rfl dX5_insert_50) ?_
  refine Sim.sq (p1 := 54) (s_geti (rfl : vwCl[5]? = some (RX5, TX5, 11)) (by decide) (by decide) inG5 kw239 rfl dX5_insert_51) ?_
  refine Sim.sq (p1 := 55) (s_aload_n rfl dX5_insert_54) ?_
  refine Sim.sq (p1 := 58) (s_getr (rfl : vwCl[5]? = some (RX5, TX5, 11)) (by decide) (by decide) inG5 kw234 rfl dX5_insert_55) ?_
  refine Sim.sq (p1 := 61) (s_getiN (rfl : vwCl[2]? = some (RX2, TX2, 7)) (by decide) (by decide) inG2 kn188 rfl dX5_insert_58) ?_
  refine Sim.sq (p1 := 64) (s_callV (C_X4_ropeOfCodes l) (rfl : vwCl[4]? = some (RX4, TX4, 6)) (by decide) kw348 kw349 kw350 kw53 kw351 ⟨rfl, by decide +kernel, by decide +kernel, by decide +kernel⟩ ⟨by decide, by decide⟩ shN4 dX5_insert_61) ?_
  refine Sim.sq (p1 := 65) (s_istore_n rfl (by decide) dX5_insert_64) ?_
  refine Sim.sq (p1 := 66) (s_aload_n rfl dX5_insert_65) ?_
  refine Sim.sq (p1 := 67) (s_iconst (by decide +kernel) dX5_insert_66) ?_
  refine Sim.sq (p1 := 70) (s_puti (rfl : vwCl[5]? = some (RX5, TX5, 11)) (by decide) (by decide) inG5 kw239 rfl tyX5 tyX5_ok nmX5 rfl (by decide +kernel) dX5_insert_67) ?_
  refine Sim.sq (p1 := 71) (s_aload_n rfl dX5_insert_70) ?_
  refine Sim.sq (p1 := 72) (s_iload_n rfl dX5_insert_71) ?_
  refine Sim.sq (p1 := 73) (s_iload_n rfl dX5_insert_72) ?_
  refine Sim.sq (p1 := 76) (s_callV (C_X5_putIn l) (rfl : vwCl[5]? = some (RX5, TX5, 11)) (by decide) kw384 kw386 kw5 kw52 kw387 ⟨rfl, by decide +kernel, by decide +kernel, by decide +kernel⟩ ⟨by decide, by decide⟩ shN5 dX5_insert_73) ?_
  refine Sim.sq (p1 := 77) (s_aload_n rfl dX5_insert_76) ?_
  refine Sim.sq (p1 := 80) (s_callV (C_X5_balance l) (rfl : vwCl[5]? = some (RX5, TX5, 11)) (by decide) kw445 kw447 kw9 kw52 kw448 ⟨rfl, by decide +kernel, by decide +kernel, by decide +kernel⟩ ⟨by decide, by decide⟩ shN5 dX5_insert_77) ?_
  refine Sim.sq (p1 := 81) (s_aload_n rfl dX5_insert_80) ?_
  refine Sim.sq (p1 := 84) (s_callV (C_X5_length l) (rfl : vwCl[5]? = some (RX5, TX5, 11)) (by decide) kw306 kw307 kw308 kw52 kw309 ⟨rfl, by decide +kernel, by decide +kernel, by decide +kernel⟩ ⟨by decide, by decide⟩ shN5 dX5_insert_81) ?_
  exact (s_iret rfl dX5_insert_84)
set_option maxRecDepth 100000 in
set_option maxHeartbeats 4000000 in
theorem C_X5_insert (l : Launch) : Ct l yX5_insert cX5_insert 3 (some .int) 19 478 m_X5_insert := Ct_of (y := yX5_insert) (by decide +kernel) S_X5_insert
set_option maxRecDepth 100000 in
set_option maxHeartbeats 4000000 in
theorem S_X6_lengthOf {l : Launch} : Sim l (fun _ => True) RX6 "lengthOf" cX6_lengthOf 2 (some .int) 0 0 [] b_X6_lengthOf 0 13 := by
  unfold b_X6_lengthOf
  refine Sim.sq (p1 := 1) (s_aload_n rfl dX6_lengthOf_0) ?_
  refine Sim.sq (p1 := 4) (s_getr (rfl : vwCl[6]? = some (RX6, TX6, 12)) (by decide) (by decide) inG6 kw700 rfl dX6_lengthOf_1) ?_
  refine Sim.sq (p1 := 7) (s_sipush (by decide +kernel) dX6_lengthOf_4) ?_
  refine Sim.sq (p1 := 8) (s_iload_n rfl dX6_lengthOf_7) ?_
  refine Sim.sq (p1 := 9) (s_imul dX6_lengthOf_8) ?_
  refine Sim.sq (p1 := 10) (s_iconst (by decide +kernel) dX6_lengthOf_9) ?_
  refine Sim.sq (p1 := 11) (s_iadd dX6_lengthOf_10) ?_
  refine Sim.sq (p1 := 12) (s_iald dX6_lengthOf_11) ?_
  exact (s_iret rfl dX6_lengthOf_12)
set_option maxRecDepth 100000 in
set_option maxHeartbeats 4000000 in
theorem C_X6_lengthOf (l : Launch) : Ct l yX6_lengthOf cX6_lengthOf 2 (some .int) 0 0 m_X6_lengthOf := Ct_of (y := yX6_lengthOf) (by decide +kernel) S_X6_lengthOf
set_option maxRecDepth 100000 in
set_option maxHeartbeats 4000000 in
theorem S_X6_isPosition {l : Launch} : Sim l (fun _ => True) RX6 "isPosition" cX6_isPosition 2 (some .boolean) 1 22 [] b_X6_isPosition 0 11 := by
  unfold b_X6_isPosition
  refine Sim.sq (p1 := 1) (s_iload_n rfl dX6_isPosition_0) ?_
  refine Sim.sq (p1 := 2) (s_iconst (by decide +kernel) dX6_isPosition_1) ?_
  refine Sim.sq (p1 := 3) (s_aload_n rfl dX6_isPosition_2) ?_
  refine Sim.sq (p1 := 4) (s_iconst (by decide +kernel) dX6_isPosition_3) ?_
  refine Sim.sq (p1 := 7) (s_callV (C_X6_lengthOf l) (rfl : vwCl[6]? = some (RX6, TX6, 12)) (by decide) kw768 kw770 kw19 kw59 kw771 ⟨rfl, by decide +kernel, by decide +kernel, by decide +kernel⟩ ⟨by decide, by decide⟩ shN6 dX6_isPosition_4) ?_
  refine Sim.sq (p1 := 10) (s_callS (y := yX6_within) (C_X6_within l) kw741 kw742 kw59 kw743 ⟨by decide +kernel, by decide +kernel, by decide +kernel⟩ ⟨by decide, by decide⟩ dX6_isPosition_7) ?_
  exact (s_zret rfl dX6_isPosition_10)
set_option maxRecDepth 100000 in
set_option maxHeartbeats 4000000 in
theorem C_X6_isPosition (l : Launch) : Ct l yX6_isPosition cX6_isPosition 2 (some .boolean) 1 22 m_X6_isPosition := Ct_of (y := yX6_isPosition) (by decide +kernel) S_X6_isPosition
set_option maxRecDepth 100000 in
set_option maxHeartbeats 4000000 in
theorem S_X6_empties {l : Launch} : Sim l (fun _ => True) RX6 "empties" cX6_empties 2 none 0 0 [] b_X6_empties 0 27 := by
  unfold b_X6_empties
  refine Sim.sq (p1 := 1) (s_aload_n rfl dX6_empties_0) ?_
  refine Sim.sq (p1 := 4) (s_getr (rfl : vwCl[6]? = some (RX6, TX6, 12)) (by decide) (by decide) inG6 kw700 rfl dX6_empties_1) ?_
  refine Sim.sq (p1 := 7) (s_sipush (by decide +kernel) dX6_empties_4) ?_
  refine Sim.sq (p1 := 8) (s_iload_n rfl dX6_empties_7) ?_
  refine Sim.sq (p1 := 9) (s_imul dX6_empties_8) ?_
  refine Sim.sq (p1 := 10) (s_iconst (by decide +kernel) dX6_empties_9) ?_
  refine Sim.sq (p1 := 11) (s_iadd dX6_empties_10) ?_
  refine Sim.sq (p1 := 12) (s_iconst (by decide +kernel) dX6_empties_11) ?_
  refine Sim.sq (p1 := 13) (s_iast dX6_empties_12) ?_
  refine Sim.sq (p1 := 14) (s_aload_n rfl dX6_empties_13) ?_
  refine Sim.sq (p1 := 17) (s_getr (rfl : vwCl[6]? = some (RX6, TX6, 12)) (by decide) (by decide) inG6 kw700 rfl dX6_empties_14) ?_
  refine Sim.sq (p1 := 20) (s_sipush (by decide +kernel) dX6_empties_17) ?_
  refine Sim.sq (p1 := 21) (s_iload_n rfl dX6_empties_20) ?_
  refine Sim.sq (p1 := 22) (s_imul dX6_empties_21) ?_
  refine Sim.sq (p1 := 23) (s_iconst (by decide +kernel) dX6_empties_22) ?_
  refine Sim.sq (p1 := 24) (s_iadd dX6_empties_23) ?_
  refine Sim.sq (p1 := 25) (s_iconst (by decide +kernel) dX6_empties_24) ?_
  refine Sim.sq (p1 := 26) (s_iast dX6_empties_25) ?_
  exact (s_vret rfl dX6_empties_26)
set_option maxRecDepth 100000 in
set_option maxHeartbeats 4000000 in
theorem C_X6_empties (l : Launch) : Ct l yX6_empties cX6_empties 2 none 0 0 m_X6_empties := Ct_of (y := yX6_empties) (by decide +kernel) S_X6_empties
set_option maxRecDepth 100000 in
set_option maxHeartbeats 4000000 in
theorem S_X6_addsCharacter {l : Launch} : Sim l (fun _ => True) RX6 "addsCharacter" cX6_addsCharacter 3 none 1 21 [] b_X6_addsCharacter 0 38 := by
  unfold b_X6_addsCharacter
  refine Sim.sq (p1 := 1) (s_aload_n rfl dX6_addsCharacter_0) ?_
  refine Sim.sq (p1 := 4) (s_getr (rfl : vwCl[6]? = some (RX6, TX6, 12)) (by decide) (by decide) inG6 kw700 rfl dX6_addsCharacter_1) ?_
  refine Sim.sq (p1 := 7) (s_sipush (by decide +kernel) dX6_addsCharacter_4) ?_
  refine Sim.sq (p1 := 8) (s_iload_n rfl dX6_addsCharacter_7) ?_
  refine Sim.sq (p1 := 9) (s_imul dX6_addsCharacter_8) ?_
  refine Sim.sq (p1 := 12) (s_sipush (by decide +kernel) dX6_addsCharacter_9) ?_
  refine Sim.sq (p1 := 13) (s_iadd dX6_addsCharacter_12) ?_
  refine Sim.sq (p1 := 14) (s_aload_n rfl dX6_addsCharacter_13) ?_
  refine Sim.sq (p1 := 15) (s_iload_n rfl dX6_addsCharacter_14) ?_
  refine Sim.sq (p1 := 18) (s_callV (C_X6_lengthOf l) (rfl : vwCl[6]? = some (RX6, TX6, 12)) (by decide) kw768 kw770 kw19 kw59 kw771 ⟨rfl, by decide +kernel, by decide +kernel, by decide +kernel⟩ ⟨by decide, by decide⟩ shN6 dX6_addsCharacter_15) ?_
  refine Sim.sq (p1 := 19) (s_iadd dX6_addsCharacter_18) ?_
  refine Sim.sq (p1 := 20) (s_iload_n rfl dX6_addsCharacter_19) ?_
  refine Sim.sq (p1 := 21) (s_iast dX6_addsCharacter_20) ?_
  refine Sim.sq (p1 := 22) (s_aload_n rfl dX6_addsCharacter_21) ?_
  refine Sim.sq (p1 := 25) (s_getr (rfl : vwCl[6]? = some (RX6, TX6, 12)) (by decide) (by decide) inG6 kw700 rfl dX6_addsCharacter_22) ?_
  refine Sim.sq (p1 := 28) (s_sipush (by decide +kernel) dX6_addsCharacter_25) ?_
  refine Sim.sq (p1 := 29) (s_iload_n rfl dX6_addsCharacter_28) ?_
  refine Sim.sq (p1 := 30) (s_imul dX6_addsCharacter_29) ?_
  refine Sim.sq (p1 := 31) (s_iconst (by decide +kernel) dX6_addsCharacter_30) ?_
  refine Sim.sq (p1 := 32) (s_iadd dX6_addsCharacter_31) ?_
  refine Sim.sq (p1 := 33) (s_dup2 dX6_addsCharacter_32) ?_
  refine Sim.sq (p1 := 34) (s_iald dX6_addsCharacter_33) ?_
  refine Sim.sq (p1 := 35) (s_iconst (by decide +kernel) dX6_addsCharacter_34) ?_
  refine Sim.sq (p1 := 36) (s_iadd dX6_addsCharacter_35) ?_
  refine Sim.sq (p1 := 37) (s_iast dX6_addsCharacter_36) ?_
  exact (s_vret rfl dX6_addsCharacter_37)
set_option maxRecDepth 100000 in
set_option maxHeartbeats 4000000 in
theorem C_X6_addsCharacter (l : Launch) : Ct l yX6_addsCharacter cX6_addsCharacter 3 none 1 21 m_X6_addsCharacter := Ct_of (y := yX6_addsCharacter) (by decide +kernel) S_X6_addsCharacter
set_option maxRecDepth 100000 in
set_option maxHeartbeats 4000000 in
theorem S_X6_many {l : Launch} : Sim l (fun _ => True) RX6 "many" cX6_many 2 (some .int) 0 0 [] b_X6_many 0 13 := by
  unfold b_X6_many
  refine Sim.sq (p1 := 1) (s_aload_n rfl dX6_many_0) ?_
  refine Sim.sq (p1 := 4) (s_getr (rfl : vwCl[6]? = some (RX6, TX6, 12)) (by decide) (by decide) inG6 kw700 rfl dX6_many_1) ?_
  refine Sim.sq (p1 := 7) (s_sipush (by decide +kernel) dX6_many_4) ?_
  refine Sim.sq (p1 := 8) (s_iload_n rfl dX6_many_7) ?_
  refine Sim.sq (p1 := 9) (s_imul dX6_many_8) ?_
  refine Sim.sq (p1 := 10) (s_iconst (by decide +kernel) dX6_many_9) ?_
  refine Sim.sq (p1 := 11) (s_iadd dX6_many_10) ?_
  refine Sim.sq (p1 := 12) (s_iald dX6_many_11) ?_
  exact (s_iret rfl dX6_many_12)
set_option maxRecDepth 100000 in
set_option maxHeartbeats 4000000 in
theorem C_X6_many (l : Launch) : Ct l yX6_many cX6_many 2 (some .int) 0 0 m_X6_many := Ct_of (y := yX6_many) (by decide +kernel) S_X6_many
set_option maxRecDepth 100000 in
set_option maxHeartbeats 4000000 in
theorem S_X6_addsLeaf {l : Launch} : Sim l (fun _ => True) RX6 "addsLeaf" cX6_addsLeaf 5 none 1 21 [] b_X6_addsLeaf 0 58 := by
  unfold b_X6_addsLeaf
  refine Sim.sq (p1 := 1) (s_aload_n rfl dX6_addsLeaf_0) ?_
  refine Sim.sq (p1 := 2) (s_iload_n rfl dX6_addsLeaf_1) ?_
  refine Sim.sq (p1 := 5) (s_callV (C_X6_many l) (rfl : vwCl[6]? = some (RX6, TX6, 12)) (by decide) kw788 kw790 kw24 kw59 kw791 ⟨rfl, by decide +kernel, by decide +kernel, by decide +kernel⟩ ⟨by decide, by decide⟩ shN6 dX6_addsLeaf_2) ?_
  refine Sim.sq (p1 := 7) (s_istore (by decide) dX6_addsLeaf_5) ?_
  refine Sim.sq (p1 := 8) (s_aload_n rfl dX6_addsLeaf_7) ?_
  refine Sim.sq (p1 := 11) (s_getr (rfl : vwCl[6]? = some (RX6, TX6, 12)) (by decide) (by decide) inG6 kw700 rfl dX6_addsLeaf_8) ?_
  refine Sim.sq (p1 := 14) (s_sipush (by decide +kernel) dX6_addsLeaf_11) ?_
  refine Sim.sq (p1 := 15) (s_iload_n rfl dX6_addsLeaf_14) ?_
  refine Sim.sq (p1 := 16) (s_imul dX6_addsLeaf_15) ?_
  refine Sim.sq (p1 := 17) (s_iconst (by decide +kernel) dX6_addsLeaf_16) ?_
  refine Sim.sq (p1 := 18) (s_iadd dX6_addsLeaf_17) ?_
  refine Sim.sq (p1 := 20) (s_iload dX6_addsLeaf_18) ?_
  refine Sim.sq (p1 := 21) (s_iadd dX6_addsLeaf_20) ?_
  refine Sim.sq (p1 := 22) (s_iload_n rfl dX6_addsLeaf_21) ?_
  refine Sim.sq (p1 := 23) (s_iast dX6_addsLeaf_22) ?_
  refine Sim.sq (p1 := 24) (s_aload_n rfl dX6_addsLeaf_23) ?_
  refine Sim.sq (p1 := 27) (s_getr (rfl : vwCl[6]? = some (RX6, TX6, 12)) (by decide) (by decide) inG6 kw700 rfl dX6_addsLeaf_24) ?_
  refine Sim.sq (p1 := 30) (s_sipush (by decide +kernel) dX6_addsLeaf_27) ?_
  refine Sim.sq (p1 := 31) (s_iload_n rfl dX6_addsLeaf_30) ?_
  refine Sim.sq (p1 := 32) (s_imul dX6_addsLeaf_31) ?_
  refine Sim.sq (p1 := 35) (s_sipush (by decide +kernel) dX6_addsLeaf_32) ?_
  refine Sim.sq (p1 := 36) (s_iadd dX6_addsLeaf_35) ?_
  refine Sim.sq (p1 := 38) (s_iload dX6_addsLeaf_36) ?_
  refine Sim.sq (p1 := 39) (s_iadd dX6_addsLeaf_38) ?_
  refine Sim.sq (p1 := 40) (s_iload_n rfl dX6_addsLeaf_39) ?_
  refine Sim.sq (p1 := 41) (s_iast dX6_addsLeaf_40) ?_
  refine Sim.sq (p1 := 42) (s_aload_n rfl dX6_addsLeaf_41) ?_
  refine Sim.sq (p1 := 45) (s_getr (rfl : vwCl[6]? = some (RX6, TX6, 12)) (by decide) (by decide) inG6 kw700 rfl dX6_addsLeaf_42) ?_
  refine Sim.sq (p1 := 48) (s_sipush (by decide +kernel) dX6_addsLeaf_45) ?_
  refine Sim.sq (p1 := 49) (s_iload_n rfl dX6_addsLeaf_48) ?_
  refine Sim.sq (p1 := 50) (s_imul dX6_addsLeaf_49) ?_
  refine Sim.sq (p1 := 51) (s_iconst (by decide +kernel) dX6_addsLeaf_50) ?_
  refine Sim.sq (p1 := 52) (s_iadd dX6_addsLeaf_51) ?_
  refine Sim.sq (p1 := 53) (s_dup2 dX6_addsLeaf_52) ?_
  refine Sim.sq (p1 := 54) (s_iald dX6_addsLeaf_53) ?_
  refine Sim.sq (p1 := 55) (s_iconst (by decide +kernel) dX6_addsLeaf_54) ?_
  refine Sim.sq (p1 := 56) (s_iadd dX6_addsLeaf_55) ?_
  refine Sim.sq (p1 := 57) (s_iast dX6_addsLeaf_56) ?_
  exact (s_vret rfl dX6_addsLeaf_57)
set_option maxRecDepth 100000 in
set_option maxHeartbeats 4000000 in
theorem C_X6_addsLeaf (l : Launch) : Ct l yX6_addsLeaf cX6_addsLeaf 5 none 1 21 m_X6_addsLeaf := Ct_of (y := yX6_addsLeaf) (by decide +kernel) S_X6_addsLeaf
set_option maxRecDepth 100000 in
set_option maxHeartbeats 4000000 in
theorem S_X6_builtLevel {l : Launch} : Sim l (fun _ => True) RX6 "builtLevel" cX6_builtLevel 7 (some .int) 0 0 [] b_X6_builtLevel 0 70 := by
  unfold b_X6_builtLevel
  refine Sim.sq (p1 := 1) (s_iload_n rfl dX6_builtLevel_0) ?_
  refine Sim.sq (p1 := 2) (s_istore_n rfl (by decide) dX6_builtLevel_1) ?_
  refine Sim.sq (p1 := 3) (s_iload_n rfl dX6_builtLevel_2) ?_
  refine Sim.sq (p1 := 4) (s_istore_n rfl (by decide) dX6_builtLevel_3) ?_
  refine Sim.sq (p1 := 5) (s_iconst (by decide +kernel) dX6_builtLevel_4) ?_
  refine Sim.sq (p1 := 7) (s_istore (by decide) dX6_builtLevel_5) ?_
  refine Sim.sq (p1 := 67) (Sim.lp ?_) ?_
  · refine Sim.sq (p1 := 8) (s_iload_n rfl dX6_builtLevel_7) ?_
    refine Sim.sq (p1 := 9) (s_iconst (by decide +kernel) dX6_builtLevel_8) ?_
    refine Sim.bk ?_
    refine Sim.sq (p1 := 12) (s_icmp_le dX6_builtLevel_9 (by decide) rfl) ?_
    refine Sim.sq (p1 := 13) (s_iload_n rfl dX6_builtLevel_12) ?_
    refine Sim.sq (p1 := 14) (s_iconst (by decide +kernel) dX6_builtLevel_13) ?_
    refine Sim.sq (p1 := 15) (s_iadd dX6_builtLevel_14) ?_
    refine Sim.sq (p1 := 16) (s_iconst (by decide +kernel) dX6_builtLevel_15) ?_
    refine Sim.sq (p1 := 17) (s_idiv dX6_builtLevel_16) ?_
    refine Sim.sq (p1 := 19) (s_istore (by decide) dX6_builtLevel_17) ?_
    refine Sim.sq (p1 := 20) (s_iload_n rfl dX6_builtLevel_19) ?_
    refine Sim.sq (p1 := 22) (s_iload dX6_builtLevel_20) ?_
    refine Sim.sq (p1 := 30) (Sim.bk ?_) ?_
    · refine Sim.sq (p1 := 29) (Sim.bk ?_) ?_
      · refine Sim.sq (p1 := 25) (s_icmp_ge dX6_builtLevel_22 (by decide) rfl) ?_
        refine Sim.sq (p1 := 26) (s_iconst (by decide +kernel) dX6_builtLevel_25) ?_
        exact (s_goto dX6_builtLevel_26 (by decide) rfl)
      exact (s_iconst (by decide +kernel) dX6_builtLevel_29)
    refine Sim.sq (p1 := 32) (s_istore (by decide) dX6_builtLevel_30) ?_
    refine Sim.sq (p1 := 33) (s_iload_n rfl dX6_builtLevel_32) ?_
    refine Sim.sq (p1 := 35) (s_iload dX6_builtLevel_33) ?_
    refine Sim.sq (p1 := 44) (Sim.bk ?_) ?_
    · refine Sim.sq (p1 := 42) (Sim.bk ?_) ?_
      · refine Sim.sq (p1 := 38) (s_if_eq dX6_builtLevel_35 (by decide) rfl) ?_
        refine Sim.sq (p1 := 39) (s_iconst (by decide +kernel) dX6_builtLevel_38) ?_
        exact (s_goto dX6_builtLevel_39 (by decide) rfl)
      exact (s_iload dX6_builtLevel_42)
    refine Sim.sq (p1 := 45) (s_isub dX6_builtLevel_44) ?_
    refine Sim.sq (p1 := 46) (s_istore_n rfl (by decide) dX6_builtLevel_45) ?_
    refine Sim.sq (p1 := 48) (s_iload dX6_builtLevel_46) ?_
    refine Sim.sq (p1 := 60) (Sim.bk ?_) ?_
    · refine Sim.sq (p1 := 56) (Sim.bk ?_) ?_
      · refine Sim.sq (p1 := 51) (s_if_eq dX6_builtLevel_48 (by decide) rfl) ?_
        refine Sim.sq (p1 := 53) (s_iload dX6_builtLevel_51) ?_
        exact (s_goto dX6_builtLevel_53 (by decide) rfl)
      refine Sim.sq (p1 := 57) (s_iload_n rfl dX6_builtLevel_56) ?_
      refine Sim.sq (p1 := 59) (s_iload dX6_builtLevel_57) ?_
      exact (s_isub dX6_builtLevel_59)
    refine Sim.sq (p1 := 61) (s_istore_n rfl (by decide) dX6_builtLevel_60) ?_
    refine Sim.sq (p1 := 64) (s_iinc (by decide +kernel) (by decide) dX6_builtLevel_61) ?_
    exact (s_goto dX6_builtLevel_64 (by decide) rfl)
  refine Sim.sq (p1 := 69) (s_iload dX6_builtLevel_67) ?_
  exact (s_iret rfl dX6_builtLevel_69)
set_option maxRecDepth 100000 in
set_option maxHeartbeats 4000000 in
theorem C_X6_builtLevel (l : Launch) : Ct l yX6_builtLevel cX6_builtLevel 7 (some .int) 0 0 m_X6_builtLevel := Ct_of (y := yX6_builtLevel) (by decide +kernel) S_X6_builtLevel
set_option maxRecDepth 100000 in
set_option maxHeartbeats 4000000 in
theorem S_X6_buildsAnew {l : Launch} : Sim l (fun _ => True) RX6 "buildsAnew" cX6_buildsAnew 3 none 1 26 [] b_X6_buildsAnew 0 43 := by
  unfold b_X6_buildsAnew
  refine Sim.sq (p1 := 1) (s_iconst (by decide +kernel) dX6_buildsAnew_0) ?_
  refine Sim.sq (p1 := 2) (s_istore_n rfl (by decide) dX6_buildsAnew_1) ?_
  refine Sim.sq (p1 := 42) (Sim.lp ?_) ?_
  · refine Sim.sq (p1 := 3) (s_iload_n rfl dX6_buildsAnew_2) ?_
    refine Sim.sq (p1 := 4) (s_aload_n rfl dX6_buildsAnew_3) ?_
    refine Sim.sq (p1 := 5) (s_iload_n rfl dX6_buildsAnew_4) ?_
    refine Sim.sq (p1 := 8) (s_callV (C_X6_many l) (rfl : vwCl[6]? = some (RX6, TX6, 12)) (by decide) kw788 kw790 kw24 kw59 kw791 ⟨rfl, by decide +kernel, by decide +kernel, by decide +kernel⟩ ⟨by decide, by decide⟩ shN6 dX6_buildsAnew_5) ?_
    refine Sim.bk ?_
    refine Sim.sq (p1 := 11) (s_icmp_ge dX6_buildsAnew_8 (by decide) rfl) ?_
    refine Sim.sq (p1 := 12) (s_aload_n rfl dX6_buildsAnew_11) ?_
    refine Sim.sq (p1 := 15) (s_getr (rfl : vwCl[6]? = some (RX6, TX6, 12)) (by decide) (by decide) inG6 kw700 rfl dX6_buildsAnew_12) ?_
    refine Sim.sq (p1 := 18) (s_sipush (by decide +kernel) dX6_buildsAnew_15) ?_
    refine Sim.sq (p1 := 19) (s_iload_n rfl dX6_buildsAnew_18) ?_
    refine Sim.sq (p1 := 20) (s_imul dX6_buildsAnew_19) ?_
    refine Sim.sq (p1 := 23) (s_sipush (by decide +kernel) dX6_buildsAnew_20) ?_
    refine Sim.sq (p1 := 24) (s_iadd dX6_buildsAnew_23) ?_
    refine Sim.sq (p1 := 25) (s_iload_n rfl dX6_buildsAnew_24) ?_
    refine Sim.sq (p1 := 26) (s_iadd dX6_buildsAnew_25) ?_
    refine Sim.sq (p1 := 27) (s_iload_n rfl dX6_buildsAnew_26) ?_
    refine Sim.sq (p1 := 28) (s_aload_n rfl dX6_buildsAnew_27) ?_
    refine Sim.sq (p1 := 29) (s_iload_n rfl dX6_buildsAnew_28) ?_
    refine Sim.sq (p1 := 32) (s_callV (C_X6_many l) (rfl : vwCl[6]? = some (RX6, TX6, 12)) (by decide) kw788 kw790 kw24 kw59 kw791 ⟨rfl, by decide +kernel, by decide +kernel, by decide +kernel⟩ ⟨by decide, by decide⟩ shN6 dX6_buildsAnew_29) ?_
    refine Sim.sq (p1 := 35) (s_callS (y := yX6_builtLevel) (C_X6_builtLevel l) kw796 kw797 kw59 kw798 ⟨by decide +kernel, by decide +kernel, by decide +kernel⟩ ⟨by decide, by decide⟩ dX6_buildsAnew_32) ?_
    refine Sim.sq (p1 := 36) (s_iast dX6_buildsAnew_35) ?_
    refine Sim.sq (p1 := 39) (s_iinc (by decide +kernel) (by decide) dX6_buildsAnew_36) ?_
    exact (s_goto dX6_buildsAnew_39 (by decide) rfl)
  exact (s_vret rfl dX6_buildsAnew_42)
set_option maxRecDepth 100000 in
set_option maxHeartbeats 4000000 in
theorem C_X6_buildsAnew (l : Launch) : Ct l yX6_buildsAnew cX6_buildsAnew 3 none 1 26 m_X6_buildsAnew := Ct_of (y := yX6_buildsAnew) (by decide +kernel) S_X6_buildsAnew
set_option maxRecDepth 100000 in
set_option maxHeartbeats 4000000 in
theorem S_X6_packs {l : Launch} : Sim l (fun _ => True) RX6 "packs" cX6_packs 4 none 2 48 [] b_X6_packs 0 76 := by
  unfold b_X6_packs
  refine Sim.sq (p1 := 1) (s_aload_n rfl dX6_packs_0) ?_
  refine Sim.sq (p1 := 4) (s_getr (rfl : vwCl[6]? = some (RX6, TX6, 12)) (by decide) (by decide) inG6 kw700 rfl dX6_packs_1) ?_
  refine Sim.sq (p1 := 7) (s_sipush (by decide +kernel) dX6_packs_4) ?_
  refine Sim.sq (p1 := 8) (s_iload_n rfl dX6_packs_7) ?_
  refine Sim.sq (p1 := 9) (s_imul dX6_packs_8) ?_
  refine Sim.sq (p1 := 10) (s_iconst (by decide +kernel) dX6_packs_9) ?_
  refine Sim.sq (p1 := 11) (s_iadd dX6_packs_10) ?_
  refine Sim.sq (p1 := 12) (s_iconst (by decide +kernel) dX6_packs_11) ?_
  refine Sim.sq (p1 := 13) (s_iast dX6_packs_12) ?_
  refine Sim.sq (p1 := 14) (s_iconst (by decide +kernel) dX6_packs_13) ?_
  refine Sim.sq (p1 := 15) (s_istore_n rfl (by decide) dX6_packs_14) ?_
  refine Sim.sq (p1 := 70) (Sim.lp ?_) ?_
  · refine Sim.sq (p1 := 16) (s_iload_n rfl dX6_packs_15) ?_
    refine Sim.sq (p1 := 17) (s_aload_n rfl dX6_packs_16) ?_
    refine Sim.sq (p1 := 18) (s_iload_n rfl dX6_packs_17) ?_
    refine Sim.sq (p1 := 21) (s_callV (C_X6_lengthOf l) (rfl : vwCl[6]? = some (RX6, TX6, 12)) (by decide) kw768 kw770 kw19 kw59 kw771 ⟨rfl, by decide +kernel, by decide +kernel, by decide +kernel⟩ ⟨by decide, by decide⟩ shN6 dX6_packs_18) ?_
    refine Sim.bk ?_
    refine Sim.sq (p1 := 24) (s_icmp_ge dX6_packs_21 (by decide) rfl) ?_
    refine Sim.sq (p1 := 25) (s_aload_n rfl dX6_packs_24) ?_
    refine Sim.sq (p1 := 26) (s_iload_n rfl dX6_packs_25) ?_
    refine Sim.sq (p1 := 29) (s_callV (C_X6_lengthOf l) (rfl : vwCl[6]? = some (RX6, TX6, 12)) (by decide) kw768 kw770 kw19 kw59 kw771 ⟨rfl, by decide +kernel, by decide +kernel, by decide +kernel⟩ ⟨by decide, by decide⟩ shN6 dX6_packs_26) ?_
    refine Sim.sq (p1 := 30) (s_iload_n rfl dX6_packs_29) ?_
    refine Sim.sq (p1 := 31) (s_isub dX6_packs_30) ?_
    refine Sim.sq (p1 := 32) (s_istore_n rfl (by decide) dX6_packs_31) ?_
    refine Sim.sq (p1 := 33) (s_aload_n rfl dX6_packs_32) ?_
    refine Sim.sq (p1 := 34) (s_iload_n rfl dX6_packs_33) ?_
    refine Sim.sq (p1 := 35) (s_iload_n rfl dX6_packs_34) ?_
    refine Sim.sq (p1 := 36) (s_aload_n rfl dX6_packs_35) ?_
    refine Sim.sq (p1 := 39) (s_getr (rfl : vwCl[6]? = some (RX6, TX6, 12)) (by decide) (by decide) inG6 kw701 rfl dX6_packs_36) ?_
    refine Sim.sq (p1 := 40) (s_iconst (by decide +kernel) dX6_packs_39) ?_
    refine Sim.sq (p1 := 41) (s_iald dX6_packs_40) ?_
    refine Sim.sq (p1 := 54) (Sim.bk ?_) ?_
    · refine Sim.sq (p1 := 48) (Sim.bk ?_) ?_
      · refine Sim.sq (p1 := 44) (s_icmp_ge dX6_packs_41 (by decide) rfl) ?_
        refine Sim.sq (p1 := 45) (s_iload_n rfl dX6_packs_44) ?_
        exact (s_goto dX6_packs_45 (by decide) rfl)
      refine Sim.sq (p1 := 49) (s_aload_n rfl dX6_packs_48) ?_
      refine Sim.sq (p1 := 52) (s_getr (rfl : vwCl[6]? = some (RX6, TX6, 12)) (by decide) (by decide) inG6 kw701 rfl dX6_packs_49) ?_
      refine Sim.sq (p1 := 53) (s_iconst (by decide +kernel) dX6_packs_52) ?_
      exact (s_iald dX6_packs_53)
    refine Sim.sq (p1 := 55) (s_iconst (by decide +kernel) dX6_packs_54) ?_
    refine Sim.sq (p1 := 58) (s_callV (C_X6_addsLeaf l) (rfl : vwCl[6]? = some (RX6, TX6, 12)) (by decide) kw784 kw786 kw23 kw59 kw787 ⟨rfl, by decide +kernel, by decide +kernel, by decide +kernel⟩ ⟨by decide, by decide⟩ shN6 dX6_packs_55) ?_
    refine Sim.sq (p1 := 59) (s_iload_n rfl dX6_packs_58) ?_
    refine Sim.sq (p1 := 60) (s_aload_n rfl dX6_packs_59) ?_
    refine Sim.sq (p1 := 63) (s_getr (rfl : vwCl[6]? = some (RX6, TX6, 12)) (by decide) (by decide) inG6 kw701 rfl dX6_packs_60) ?_
    refine Sim.sq (p1 := 64) (s_iconst (by decide +kernel) dX6_packs_63) ?_
    refine Sim.sq (p1 := 65) (s_iald dX6_packs_64) ?_
    refine Sim.sq (p1 := 66) (s_iadd dX6_packs_65) ?_
    refine Sim.sq (p1 := 67) (s_istore_n rfl (by decide) dX6_packs_66) ?_
    exact (s_goto dX6_packs_67 (by decide) rfl)
  refine Sim.sq (p1 := 71) (s_aload_n rfl dX6_packs_70) ?_
  refine Sim.sq (p1 := 72) (s_iload_n rfl dX6_packs_71) ?_
  refine Sim.sq (p1 := 75) (s_callV (C_X6_buildsAnew l) (rfl : vwCl[6]? = some (RX6, TX6, 12)) (by decide) kw792 kw794 kw25 kw59 kw795 ⟨rfl, by decide +kernel, by decide +kernel, by decide +kernel⟩ ⟨by decide, by decide⟩ shN6 dX6_packs_72) ?_
  exact (s_vret rfl dX6_packs_75)
set_option maxRecDepth 100000 in
set_option maxHeartbeats 4000000 in
theorem C_X6_packs (l : Launch) : Ct l yX6_packs cX6_packs 4 none 2 48 m_X6_packs := Ct_of (y := yX6_packs) (by decide +kernel) S_X6_packs
set_option maxRecDepth 100000 in
set_option maxHeartbeats 4000000 in
theorem S_X6_copies {l : Launch} : Sim l (fun _ => True) RX6 "copies" cX6_copies 4 none 0 0 [] b_X6_copies 0 40 := by
  unfold b_X6_copies
  refine Sim.sq (p1 := 1) (s_iconst (by decide +kernel) dX6_copies_0) ?_
  refine Sim.sq (p1 := 2) (s_istore_n rfl (by decide) dX6_copies_1) ?_
  refine Sim.sq (p1 := 39) (Sim.lp ?_) ?_
  · refine Sim.sq (p1 := 3) (s_iload_n rfl dX6_copies_2) ?_
    refine Sim.sq (p1 := 6) (s_sipush (by decide +kernel) dX6_copies_3) ?_
    refine Sim.bk ?_
    refine Sim.sq (p1 := 9) (s_icmp_ge dX6_copies_6 (by decide) rfl) ?_
    refine Sim.sq (p1 := 10) (s_aload_n rfl dX6_copies_9) ?_
    refine Sim.sq (p1 := 13) (s_getr (rfl : vwCl[6]? = some (RX6, TX6, 12)) (by decide) (by decide) inG6 kw700 rfl dX6_copies_10) ?_
    refine Sim.sq (p1 := 16) (s_sipush (by decide +kernel) dX6_copies_13) ?_
    refine Sim.sq (p1 := 17) (s_iload_n rfl dX6_copies_16) ?_
    refine Sim.sq (p1 := 18) (s_imul dX6_copies_17) ?_
    refine Sim.sq (p1 := 19) (s_iload_n rfl dX6_copies_18) ?_
    refine Sim.sq (p1 := 20) (s_iadd dX6_copies_19) ?_
    refine Sim.sq (p1 := 21) (s_aload_n rfl dX6_copies_20) ?_
    refine Sim.sq (p1 := 24) (s_getr (rfl : vwCl[6]? = some (RX6, TX6, 12)) (by decide) (by decide) inG6 kw700 rfl dX6_copies_21) ?_
    refine Sim.sq (p1 := 27) (s_sipush (by decide +kernel) dX6_copies_24) ?_
    refine Sim.sq (p1 := 28) (s_iload_n rfl dX6_copies_27) ?_
    refine Sim.sq (p1 := 29) (s_imul dX6_copies_28) ?_
    refine Sim.sq (p1 := 30) (s_iload_n rfl dX6_copies_29) ?_
    refine Sim.sq (p1 := 31) (s_iadd dX6_copies_30) ?_
    refine Sim.sq (p1 := 32) (s_iald dX6_copies_31) ?_
    refine Sim.sq (p1 := 33) (s_iast dX6_copies_32) ?_
    refine Sim.sq (p1 := 36) (s_iinc (by decide +kernel) (by decide) dX6_copies_33) ?_
    exact (s_goto dX6_copies_36 (by decide) rfl)
  exact (s_vret rfl dX6_copies_39)
set_option maxRecDepth 100000 in
set_option maxHeartbeats 4000000 in
theorem C_X6_copies (l : Launch) : Ct l yX6_copies cX6_copies 4 none 0 0 m_X6_copies := Ct_of (y := yX6_copies) (by decide +kernel) S_X6_copies
set_option maxRecDepth 100000 in
set_option maxHeartbeats 4000000 in
theorem S_X6_sizeOf {l : Launch} : Sim l (fun _ => True) RX6 "sizeOf" cX6_sizeOf 3 (some .int) 0 0 [] b_X6_sizeOf 0 15 := by
  unfold b_X6_sizeOf
  refine Sim.sq (p1 := 1) (s_aload_n rfl dX6_sizeOf_0) ?_
  refine Sim.sq (p1 := 4) (s_getr (rfl : vwCl[6]? = some (RX6, TX6, 12)) (by decide) (by decide) inG6 kw700 rfl dX6_sizeOf_1) ?_
  refine Sim.sq (p1 := 7) (s_sipush (by decide +kernel) dX6_sizeOf_4) ?_
  refine Sim.sq (p1 := 8) (s_iload_n rfl dX6_sizeOf_7) ?_
  refine Sim.sq (p1 := 9) (s_imul dX6_sizeOf_8) ?_
  refine Sim.sq (p1 := 10) (s_iconst (by decide +kernel) dX6_sizeOf_9) ?_
  refine Sim.sq (p1 := 11) (s_iadd dX6_sizeOf_10) ?_
  refine Sim.sq (p1 := 12) (s_iload_n rfl dX6_sizeOf_11) ?_
  refine Sim.sq (p1 := 13) (s_iadd dX6_sizeOf_12) ?_
  refine Sim.sq (p1 := 14) (s_iald dX6_sizeOf_13) ?_
  exact (s_iret rfl dX6_sizeOf_14)
set_option maxRecDepth 100000 in
set_option maxHeartbeats 4000000 in
theorem C_X6_sizeOf (l : Launch) : Ct l yX6_sizeOf cX6_sizeOf 3 (some .int) 0 0 m_X6_sizeOf := Ct_of (y := yX6_sizeOf) (by decide +kernel) S_X6_sizeOf
set_option maxRecDepth 100000 in
set_option maxHeartbeats 4000000 in
theorem S_X6_startOf {l : Launch} : Sim l (fun _ => True) RX6 "startOf" cX6_startOf 5 (some .int) 1 22 [] b_X6_startOf 0 29 := by
  unfold b_X6_startOf
  refine Sim.sq (p1 := 1) (s_iconst (by decide +kernel) dX6_startOf_0) ?_
  refine Sim.sq (p1 := 2) (s_istore_n rfl (by decide) dX6_startOf_1) ?_
  refine Sim.sq (p1 := 3) (s_iconst (by decide +kernel) dX6_startOf_2) ?_
  refine Sim.sq (p1 := 5) (s_istore (by decide) dX6_startOf_3) ?_
  refine Sim.sq (p1 := 27) (Sim.lp ?_) ?_
  · refine Sim.sq (p1 := 7) (s_iload dX6_startOf_5) ?_
    refine Sim.sq (p1 := 8) (s_iload_n rfl dX6_startOf_7) ?_
    refine Sim.bk ?_
    refine Sim.sq (p1 := 11) (s_icmp_ge dX6_startOf_8 (by decide) rfl) ?_
    refine Sim.sq (p1 := 12) (s_iload_n rfl dX6_startOf_11) ?_
    refine Sim.sq (p1 := 13) (s_aload_n rfl dX6_startOf_12) ?_
    refine Sim.sq (p1 := 14) (s_iload_n rfl dX6_startOf_13) ?_
    refine Sim.sq (p1 := 16) (s_iload dX6_startOf_14) ?_
    refine Sim.sq (p1 := 19) (s_callV (C_X6_sizeOf l) (rfl : vwCl[6]? = some (RX6, TX6, 12)) (by decide) kw815 kw817 kw30 kw59 kw818 ⟨rfl, by decide +kernel, by decide +kernel, by decide +kernel⟩ ⟨by decide, by decide⟩ shN6 dX6_startOf_16) ?_
    refine Sim.sq (p1 := 20) (s_iadd dX6_startOf_19) ?_
    refine Sim.sq (p1 := 21) (s_istore_n rfl (by decide) dX6_startOf_20) ?_
    refine Sim.sq (p1 := 24) (s_iinc (by decide +kernel) (by decide) dX6_startOf_21) ?_
    exact (s_goto dX6_startOf_24 (by decide) rfl)
  refine Sim.sq (p1 := 28) (s_iload_n rfl dX6_startOf_27) ?_
  exact (s_iret rfl dX6_startOf_28)
set_option maxRecDepth 100000 in
set_option maxHeartbeats 4000000 in
theorem C_X6_startOf (l : Launch) : Ct l yX6_startOf cX6_startOf 5 (some .int) 1 22 m_X6_startOf := Ct_of (y := yX6_startOf) (by decide +kernel) S_X6_startOf
set_option maxRecDepth 100000 in
set_option maxHeartbeats 4000000 in
theorem S_X6_characterOf {l : Launch} : Sim l (fun _ => True) RX6 "characterOf" cX6_characterOf 3 (some .int) 0 0 [] b_X6_characterOf 0 17 := by
  unfold b_X6_characterOf
  refine Sim.sq (p1 := 1) (s_aload_n rfl dX6_characterOf_0) ?_
  refine Sim.sq (p1 := 4) (s_getr (rfl : vwCl[6]? = some (RX6, TX6, 12)) (by decide) (by decide) inG6 kw700 rfl dX6_characterOf_1) ?_
  refine Sim.sq (p1 := 7) (s_sipush (by decide +kernel) dX6_characterOf_4) ?_
  refine Sim.sq (p1 := 8) (s_iload_n rfl dX6_characterOf_7) ?_
  refine Sim.sq (p1 := 9) (s_imul dX6_characterOf_8) ?_
  refine Sim.sq (p1 := 12) (s_sipush (by decide +kernel) dX6_characterOf_9) ?_
  refine Sim.sq (p1 := 13) (s_iadd dX6_characterOf_12) ?_
  refine Sim.sq (p1 := 14) (s_iload_n rfl dX6_characterOf_13) ?_
  refine Sim.sq (p1 := 15) (s_iadd dX6_characterOf_14) ?_
  refine Sim.sq (p1 := 16) (s_iald dX6_characterOf_15) ?_
  exact (s_iret rfl dX6_characterOf_16)
set_option maxRecDepth 100000 in
set_option maxHeartbeats 4000000 in
theorem C_X6_characterOf (l : Launch) : Ct l yX6_characterOf cX6_characterOf 3 (some .int) 0 0 m_X6_characterOf := Ct_of (y := yX6_characterOf) (by decide +kernel) S_X6_characterOf
set_option maxRecDepth 100000 in
set_option maxHeartbeats 4000000 in
theorem S_X6_addsCharacters {l : Launch} : Sim l (fun _ => True) RX6 "addsCharacters" cX6_addsCharacters 6 none 2 43 [] b_X6_addsCharacters 0 29 := by
  unfold b_X6_addsCharacters
  refine Sim.sq (p1 := 1) (s_iload_n rfl dX6_addsCharacters_0) ?_
  refine Sim.sq (p1 := 3) (s_istore (by decide) dX6_addsCharacters_1) ?_
  refine Sim.sq (p1 := 28) (Sim.lp ?_) ?_
  · refine Sim.sq (p1 := 5) (s_iload dX6_addsCharacters_3) ?_
    refine Sim.sq (p1 := 7) (s_iload dX6_addsCharacters_5) ?_
    refine Sim.bk ?_
    refine Sim.sq (p1 := 10) (s_icmp_ge dX6_addsCharacters_7 (by decide) rfl) ?_
    refine Sim.sq (p1 := 11) (s_aload_n rfl dX6_addsCharacters_10) ?_
    refine Sim.sq (p1 := 12) (s_iload_n rfl dX6_addsCharacters_11) ?_
    refine Sim.sq (p1 := 13) (s_aload_n rfl dX6_addsCharacters_12) ?_
    refine Sim.sq (p1 := 14) (s_iload_n rfl dX6_addsCharacters_13) ?_
    refine Sim.sq (p1 := 16) (s_iload dX6_addsCharacters_14) ?_
    refine Sim.sq (p1 := 19) (s_callV (C_X6_characterOf l) (rfl : vwCl[6]? = some (RX6, TX6, 12)) (by decide) kw823 kw825 kw32 kw59 kw826 ⟨rfl, by decide +kernel, by decide +kernel, by decide +kernel⟩ ⟨by decide, by decide⟩ shN6 dX6_addsCharacters_16) ?_
    refine Sim.sq (p1 := 22) (s_callV (C_X6_addsCharacter l) (rfl : vwCl[6]? = some (RX6, TX6, 12)) (by decide) kw776 kw778 kw21 kw59 kw779 ⟨rfl, by decide +kernel, by decide +kernel, by decide +kernel⟩ ⟨by decide, by decide⟩ shN6 dX6_addsCharacters_19) ?_
    refine Sim.sq (p1 := 25) (s_iinc (by decide +kernel) (by decide) dX6_addsCharacters_22) ?_
    exact (s_goto dX6_addsCharacters_25 (by decide) rfl)
  exact (s_vret rfl dX6_addsCharacters_28)
set_option maxRecDepth 100000 in
set_option maxHeartbeats 4000000 in
theorem C_X6_addsCharacters (l : Launch) : Ct l yX6_addsCharacters cX6_addsCharacters 6 none 2 43 m_X6_addsCharacters := Ct_of (y := yX6_addsCharacters) (by decide +kernel) S_X6_addsCharacters
set_option maxRecDepth 100000 in
set_option maxHeartbeats 4000000 in
theorem S_X6_levelOf {l : Launch} : Sim l (fun _ => True) RX6 "levelOf" cX6_levelOf 3 (some .int) 0 0 [] b_X6_levelOf 0 17 := by
  unfold b_X6_levelOf
  refine Sim.sq (p1 := 1) (s_aload_n rfl dX6_levelOf_0) ?_
  refine Sim.sq (p1 := 4) (s_getr (rfl : vwCl[6]? = some (RX6, TX6, 12)) (by decide) (by decide) inG6 kw700 rfl dX6_levelOf_1) ?_
  refine Sim.sq (p1 := 7) (s_sipush (by decide +kernel) dX6_levelOf_4) ?_
  refine Sim.sq (p1 := 8) (s_iload_n rfl dX6_levelOf_7) ?_
  refine Sim.sq (p1 := 9) (s_imul dX6_levelOf_8) ?_
  refine Sim.sq (p1 := 12) (s_sipush (by decide +kernel) dX6_levelOf_9) ?_
  refine Sim.sq (p1 := 13) (s_iadd dX6_levelOf_12) ?_
  refine Sim.sq (p1 := 14) (s_iload_n rfl dX6_levelOf_13) ?_
  refine Sim.sq (p1 := 15) (s_iadd dX6_levelOf_14) ?_
  refine Sim.sq (p1 := 16) (s_iald dX6_levelOf_15) ?_
  exact (s_iret rfl dX6_levelOf_16)
set_option maxRecDepth 100000 in
set_option maxHeartbeats 4000000 in
theorem C_X6_levelOf (l : Launch) : Ct l yX6_levelOf cX6_levelOf 3 (some .int) 0 0 m_X6_levelOf := Ct_of (y := yX6_levelOf) (by decide +kernel) S_X6_levelOf
set_option maxRecDepth 100000 in
set_option maxHeartbeats 4000000 in
theorem S_X6_endOf {l : Launch} : Sim l (fun _ => True) RX6 "endOf" cX6_endOf 8 (some .int) 1 22 [] b_X6_endOf 0 69 := by
  unfold b_X6_endOf b_X6_endOf_l1 b_X6_endOf_t0 b_X6_endOf_l0
  refine Sim.sq (p1 := 1) (s_iload_n rfl dX6_endOf_0) ?_
  refine Sim.sq (p1 := 3) (s_istore (by decide) dX6_endOf_1) ?_
  refine Sim.sq (p1 := 4) (s_iconst (by decide +kernel) dX6_endOf_3) ?_
  refine Sim.sq (p1 := 6) (s_istore (by decide) dX6_endOf_4) ?_
  refine Sim.sq (p1 := 7) (s_iload_n rfl dX6_endOf_6) ?_
  refine Sim.sq (p1 := 9) (s_istore (by decide) dX6_endOf_7) ?_
  refine Sim.lp ?_
  refine Sim.sq (p1 := 11) (s_iload dX6_endOf_9) ?_
  refine Sim.sq (p1 := 12) (s_iconst (by decide +kernel) dX6_endOf_11) ?_
  refine Sim.sq (p1 := 13) (s_iadd dX6_endOf_12) ?_
  refine Sim.sq (p1 := 15) (s_istore (by decide) dX6_endOf_13) ?_
  refine Sim.sq (p1 := 45) (Sim.lp ?_) ?_
  · refine Sim.sq (p1 := 17) (s_iload dX6_endOf_15) ?_
    refine Sim.sq (p1 := 18) (s_aload_n rfl dX6_endOf_17) ?_
    refine Sim.sq (p1 := 19) (s_iload_n rfl dX6_endOf_18) ?_
    refine Sim.sq (p1 := 21) (s_iload dX6_endOf_19) ?_
    refine Sim.sq (p1 := 24) (s_callV (C_X6_levelOf l) (rfl : vwCl[6]? = some (RX6, TX6, 12)) (by decide) kw831 kw833 kw34 kw59 kw834 ⟨rfl, by decide +kernel, by decide +kernel, by decide +kernel⟩ ⟨by decide, by decide⟩ shN6 dX6_endOf_21) ?_
    refine Sim.bk ?_
    refine Sim.sq (p1 := 27) (s_icmp_gt dX6_endOf_24 (by decide) rfl) ?_
    refine Sim.sq (p1 := 28) (s_aload_n rfl dX6_endOf_27) ?_
    refine Sim.sq (p1 := 31) (s_getr (rfl : vwCl[6]? = some (RX6, TX6, 12)) (by decide) (by decide) inG6 kw707 rfl dX6_endOf_28) ?_
    refine Sim.sq (p1 := 33) (s_iload dX6_endOf_31) ?_
    refine Sim.sq (p1 := 35) (s_iload dX6_endOf_33) ?_
    refine Sim.sq (p1 := 36) (s_iast dX6_endOf_35) ?_
    refine Sim.sq (p1 := 39) (s_iinc (by decide +kernel) (by decide) dX6_endOf_36) ?_
    refine Sim.sq (p1 := 42) (s_iinc (by decide +kernel) (by decide) dX6_endOf_39) ?_
    exact (s_goto dX6_endOf_42 (by decide) rfl)
  refine Sim.sq (p1 := 48) (s_iinc (by decide +kernel) (by decide) dX6_endOf_45) ?_
  refine Sim.sq (p1 := 50) (s_iload dX6_endOf_48) ?_
  refine Sim.sq (p1 := 56) (Sim.bk ?_) ?_
  · refine Sim.sq (p1 := 53) (s_if_ne dX6_endOf_50 (by decide) rfl) ?_
    refine Sim.sq (p1 := 55) (s_iload dX6_endOf_53) ?_
    exact (s_iret rfl dX6_endOf_55)
  refine Sim.sq (p1 := 59) (s_iinc (by decide +kernel) (by decide) dX6_endOf_56) ?_
  refine Sim.sq (p1 := 60) (s_aload_n rfl dX6_endOf_59) ?_
  refine Sim.sq (p1 := 63) (s_getr (rfl : vwCl[6]? = some (RX6, TX6, 12)) (by decide) (by decide) inG6 kw707 rfl dX6_endOf_60) ?_
  refine Sim.sq (p1 := 65) (s_iload dX6_endOf_63) ?_
  refine Sim.sq (p1 := 66) (s_iald dX6_endOf_65) ?_
  refine Sim.sq (p1 := 68) (s_istore (by decide) dX6_endOf_66) ?_
  exact (s_goto dX6_endOf_68 (by decide) rfl)
set_option maxRecDepth 100000 in
set_option maxHeartbeats 4000000 in
theorem C_X6_endOf (l : Launch) : Ct l yX6_endOf cX6_endOf 8 (some .int) 1 22 m_X6_endOf := Ct_of (y := yX6_endOf) (by decide +kernel) S_X6_endOf
set_option maxRecDepth 100000 in
set_option maxHeartbeats 4000000 in
theorem S_X6_takes {l : Launch} : Sim l (fun _ => True) RX6 "takes" cX6_takes 7 none 3 68 [] b_X6_takes 0 64 := by
  unfold b_X6_takes
  refine Sim.sq (p1 := 1) (s_aload_n rfl dX6_takes_0) ?_
  refine Sim.sq (p1 := 3) (s_iload dX6_takes_1) ?_
  refine Sim.sq (p1 := 6) (s_callV (C_X6_empties l) (rfl : vwCl[6]? = some (RX6, TX6, 12)) (by decide) kw772 kw774 kw20 kw59 kw775 ⟨rfl, by decide +kernel, by decide +kernel, by decide +kernel⟩ ⟨by decide, by decide⟩ shN6 dX6_takes_3) ?_
  refine Sim.sq (p1 := 7) (s_iload_n rfl dX6_takes_6) ?_
  refine Sim.sq (p1 := 9) (s_istore (by decide) dX6_takes_7) ?_
  refine Sim.sq (p1 := 44) (Sim.lp ?_) ?_
  · refine Sim.sq (p1 := 11) (s_iload dX6_takes_9) ?_
    refine Sim.sq (p1 := 12) (s_iload_n rfl dX6_takes_11) ?_
    refine Sim.bk ?_
    refine Sim.sq (p1 := 15) (s_icmp_ge dX6_takes_12 (by decide) rfl) ?_
    refine Sim.sq (p1 := 16) (s_aload_n rfl dX6_takes_15) ?_
    refine Sim.sq (p1 := 18) (s_iload dX6_takes_16) ?_
    refine Sim.sq (p1 := 19) (s_aload_n rfl dX6_takes_18) ?_
    refine Sim.sq (p1 := 20) (s_iload_n rfl dX6_takes_19) ?_
    refine Sim.sq (p1 := 22) (s_iload dX6_takes_20) ?_
    refine Sim.sq (p1 := 25) (s_callV (C_X6_sizeOf l) (rfl : vwCl[6]? = some (RX6, TX6, 12)) (by decide) kw815 kw817 kw30 kw59 kw818 ⟨rfl, by decide +kernel, by decide +kernel, by decide +kernel⟩ ⟨by decide, by decide⟩ shN6 dX6_takes_22) ?_
    refine Sim.sq (p1 := 26) (s_aload_n rfl dX6_takes_25) ?_
    refine Sim.sq (p1 := 27) (s_iload_n rfl dX6_takes_26) ?_
    refine Sim.sq (p1 := 29) (s_iload dX6_takes_27) ?_
    refine Sim.sq (p1 := 32) (s_callV (C_X6_levelOf l) (rfl : vwCl[6]? = some (RX6, TX6, 12)) (by decide) kw831 kw833 kw34 kw59 kw834 ⟨rfl, by decide +kernel, by decide +kernel, by decide +kernel⟩ ⟨by decide, by decide⟩ shN6 dX6_takes_29) ?_
    refine Sim.sq (p1 := 34) (s_iload dX6_takes_32) ?_
    refine Sim.sq (p1 := 35) (s_isub dX6_takes_34) ?_
    refine Sim.sq (p1 := 38) (s_callV (C_X6_addsLeaf l) (rfl : vwCl[6]? = some (RX6, TX6, 12)) (by decide) kw784 kw786 kw23 kw59 kw787 ⟨rfl, by decide +kernel, by decide +kernel, by decide +kernel⟩ ⟨by decide, by decide⟩ shN6 dX6_takes_35) ?_
    refine Sim.sq (p1 := 41) (s_iinc (by decide +kernel) (by decide) dX6_takes_38) ?_
    exact (s_goto dX6_takes_41 (by decide) rfl)
  refine Sim.sq (p1 := 45) (s_aload_n rfl dX6_takes_44) ?_
  refine Sim.sq (p1 := 47) (s_iload dX6_takes_45) ?_
  refine Sim.sq (p1 := 48) (s_iload_n rfl dX6_takes_47) ?_
  refine Sim.sq (p1 := 49) (s_aload_n rfl dX6_takes_48) ?_
  refine Sim.sq (p1 := 50) (s_iload_n rfl dX6_takes_49) ?_
  refine Sim.sq (p1 := 51) (s_iload_n rfl dX6_takes_50) ?_
  refine Sim.sq (p1 := 54) (s_callV (C_X6_startOf l) (rfl : vwCl[6]? = some (RX6, TX6, 12)) (by decide) kw811 kw813 kw29 kw59 kw814 ⟨rfl, by decide +kernel, by decide +kernel, by decide +kernel⟩ ⟨by decide, by decide⟩ shN6 dX6_takes_51) ?_
  refine Sim.sq (p1 := 55) (s_aload_n rfl dX6_takes_54) ?_
  refine Sim.sq (p1 := 56) (s_iload_n rfl dX6_takes_55) ?_
  refine Sim.sq (p1 := 57) (s_iload_n rfl dX6_takes_56) ?_
  refine Sim.sq (p1 := 60) (s_callV (C_X6_startOf l) (rfl : vwCl[6]? = some (RX6, TX6, 12)) (by decide) kw811 kw813 kw29 kw59 kw814 ⟨rfl, by decide +kernel, by decide +kernel, by decide +kernel⟩ ⟨by decide, by decide⟩ shN6 dX6_takes_57) ?_
  refine Sim.sq (p1 := 63) (s_callV (C_X6_addsCharacters l) (rfl : vwCl[6]? = some (RX6, TX6, 12)) (by decide) kw819 kw821 kw31 kw59 kw822 ⟨rfl, by decide +kernel, by decide +kernel, by decide +kernel⟩ ⟨by decide, by decide⟩ shN6 dX6_takes_60) ?_
  exact (s_vret rfl dX6_takes_63)
set_option maxRecDepth 100000 in
set_option maxHeartbeats 4000000 in
theorem C_X6_takes (l : Launch) : Ct l yX6_takes cX6_takes 7 none 3 68 m_X6_takes := Ct_of (y := yX6_takes) (by decide +kernel) S_X6_takes
set_option maxRecDepth 100000 in
set_option maxHeartbeats 4000000 in
theorem S_X6_isLeaf {l : Launch} : Sim l (fun _ => True) RX6 "isLeaf" cX6_isLeaf 2 (some .boolean) 1 21 [] b_X6_isLeaf 0 15 := by
  unfold b_X6_isLeaf
  refine Sim.sq (p1 := 1) (s_aload_n rfl dX6_isLeaf_0) ?_
  refine Sim.sq (p1 := 2) (s_iload_n rfl dX6_isLeaf_1) ?_
  refine Sim.sq (p1 := 5) (s_callV (C_X6_many l) (rfl : vwCl[6]? = some (RX6, TX6, 12)) (by decide) kw788 kw790 kw24 kw59 kw791 ⟨rfl, by decide +kernel, by decide +kernel, by decide +kernel⟩ ⟨by decide, by decide⟩ shN6 dX6_isLeaf_2) ?_
  refine Sim.sq (p1 := 6) (s_iconst (by decide +kernel) dX6_isLeaf_5) ?_
  refine Sim.sq (p1 := 14) (Sim.bk ?_) ?_
  · refine Sim.sq (p1 := 13) (Sim.bk ?_) ?_
    · refine Sim.sq (p1 := 9) (s_icmp_ne dX6_isLeaf_6 (by decide) rfl) ?_
      refine Sim.sq (p1 := 10) (s_iconst (by decide +kernel) dX6_isLeaf_9) ?_
      exact (s_goto dX6_isLeaf_10 (by decide) rfl)
    exact (s_iconst (by decide +kernel) dX6_isLeaf_13)
  exact (s_zret rfl dX6_isLeaf_14)
set_option maxRecDepth 100000 in
set_option maxHeartbeats 4000000 in
theorem C_X6_isLeaf (l : Launch) : Ct l yX6_isLeaf cX6_isLeaf 2 (some .boolean) 1 21 m_X6_isLeaf := Ct_of (y := yX6_isLeaf) (by decide +kernel) S_X6_isLeaf
set_option maxRecDepth 100000 in
set_option maxHeartbeats 4000000 in
theorem S_X6_addsDeeper {l : Launch} : Sim l (fun _ => True) RX6 "addsDeeper" cX6_addsDeeper 4 none 3 68 [] b_X6_addsDeeper 0 49 := by
  unfold b_X6_addsDeeper
  refine Sim.sq (p1 := 1) (s_iconst (by decide +kernel) dX6_addsDeeper_0) ?_
  refine Sim.sq (p1 := 2) (s_istore_n rfl (by decide) dX6_addsDeeper_1) ?_
  refine Sim.sq (p1 := 36) (Sim.lp ?_) ?_
  · refine Sim.sq (p1 := 3) (s_iload_n rfl dX6_addsDeeper_2) ?_
    refine Sim.sq (p1 := 4) (s_aload_n rfl dX6_addsDeeper_3) ?_
    refine Sim.sq (p1 := 5) (s_iload_n rfl dX6_addsDeeper_4) ?_
    refine Sim.sq (p1 := 8) (s_callV (C_X6_many l) (rfl : vwCl[6]? = some (RX6, TX6, 12)) (by decide) kw788 kw790 kw24 kw59 kw791 ⟨rfl, by decide +kernel, by decide +kernel, by decide +kernel⟩ ⟨by decide, by decide⟩ shN6 dX6_addsDeeper_5) ?_
    refine Sim.bk ?_
    refine Sim.sq (p1 := 11) (s_icmp_ge dX6_addsDeeper_8 (by decide) rfl) ?_
    refine Sim.sq (p1 := 12) (s_aload_n rfl dX6_addsDeeper_11) ?_
    refine Sim.sq (p1 := 13) (s_iload_n rfl dX6_addsDeeper_12) ?_
    refine Sim.sq (p1 := 14) (s_aload_n rfl dX6_addsDeeper_13) ?_
    refine Sim.sq (p1 := 15) (s_iload_n rfl dX6_addsDeeper_14) ?_
    refine Sim.sq (p1 := 16) (s_iload_n rfl dX6_addsDeeper_15) ?_
    refine Sim.sq (p1 := 19) (s_callV (C_X6_sizeOf l) (rfl : vwCl[6]? = some (RX6, TX6, 12)) (by decide) kw815 kw817 kw30 kw59 kw818 ⟨rfl, by decide +kernel, by decide +kernel, by decide +kernel⟩ ⟨by decide, by decide⟩ shN6 dX6_addsDeeper_16) ?_
    refine Sim.sq (p1 := 20) (s_aload_n rfl dX6_addsDeeper_19) ?_
    refine Sim.sq (p1 := 21) (s_iload_n rfl dX6_addsDeeper_20) ?_
    refine Sim.sq (p1 := 22) (s_iload_n rfl dX6_addsDeeper_21) ?_
    refine Sim.sq (p1 := 25) (s_callV (C_X6_levelOf l) (rfl : vwCl[6]? = some (RX6, TX6, 12)) (by decide) kw831 kw833 kw34 kw59 kw834 ⟨rfl, by decide +kernel, by decide +kernel, by decide +kernel⟩ ⟨by decide, by decide⟩ shN6 dX6_addsDeeper_22) ?_
    refine Sim.sq (p1 := 26) (s_iconst (by decide +kernel) dX6_addsDeeper_25) ?_
    refine Sim.sq (p1 := 27) (s_iadd dX6_addsDeeper_26) ?_
    refine Sim.sq (p1 := 30) (s_callV (C_X6_addsLeaf l) (rfl : vwCl[6]? = some (RX6, TX6, 12)) (by decide) kw784 kw786 kw23 kw59 kw787 ⟨rfl, by decide +kernel, by decide +kernel, by decide +kernel⟩ ⟨by decide, by decide⟩ shN6 dX6_addsDeeper_27) ?_
    refine Sim.sq (p1 := 33) (s_iinc (by decide +kernel) (by decide) dX6_addsDeeper_30) ?_
    exact (s_goto dX6_addsDeeper_33 (by decide) rfl)
  refine Sim.sq (p1 := 37) (s_aload_n rfl dX6_addsDeeper_36) ?_
  refine Sim.sq (p1 := 38) (s_iload_n rfl dX6_addsDeeper_37) ?_
  refine Sim.sq (p1 := 39) (s_iload_n rfl dX6_addsDeeper_38) ?_
  refine Sim.sq (p1 := 40) (s_iconst (by decide +kernel) dX6_addsDeeper_39) ?_
  refine Sim.sq (p1 := 41) (s_aload_n rfl dX6_addsDeeper_40) ?_
  refine Sim.sq (p1 := 42) (s_iload_n rfl dX6_addsDeeper_41) ?_
  refine Sim.sq (p1 := 45) (s_callV (C_X6_lengthOf l) (rfl : vwCl[6]? = some (RX6, TX6, 12)) (by decide) kw768 kw770 kw19 kw59 kw771 ⟨rfl, by decide +kernel, by decide +kernel, by decide +kernel⟩ ⟨by decide, by decide⟩ shN6 dX6_addsDeeper_42) ?_
  refine Sim.sq (p1 := 48) (s_callV (C_X6_addsCharacters l) (rfl : vwCl[6]? = some (RX6, TX6, 12)) (by decide) kw819 kw821 kw31 kw59 kw822 ⟨rfl, by decide +kernel, by decide +kernel, by decide +kernel⟩ ⟨by decide, by decide⟩ shN6 dX6_addsDeeper_45) ?_
  exact (s_vret rfl dX6_addsDeeper_48)
set_option maxRecDepth 100000 in
set_option maxHeartbeats 4000000 in
theorem C_X6_addsDeeper (l : Launch) : Ct l yX6_addsDeeper cX6_addsDeeper 4 none 3 68 m_X6_addsDeeper := Ct_of (y := yX6_addsDeeper) (by decide +kernel) S_X6_addsDeeper
