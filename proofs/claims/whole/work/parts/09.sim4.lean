set_option maxRecDepth 100000 in
set_option maxHeartbeats 4000000 in
theorem S_X5_ringCharacter {l : Launch} : Sim l (fun _ => True) RX5 "ringCharacter" cX5_ringCharacter 4 (some .int) 2 50 [] b_X5_ringCharacter 0 50 := by
  unfold b_X5_ringCharacter
  refine Sim.sq (p1 := 1) (s_aload_n rfl dX5_ringCharacter_0) ?_
  refine Sim.sq (p1 := 4) (s_getr (rfl : vwCl[5]? = some (RX5, TX5, 11)) (by decide) (by decide) inG5 kw234 rfl dX5_ringCharacter_1) ?_
  refine Sim.sq (p1 := 5) (s_iload_n rfl dX5_ringCharacter_4) ?_
  refine Sim.sq (p1 := 8) (s_callV (C_X2_hasInRing l) (rfl : vwCl[2]? = some (RX2, TX2, 7)) (by decide) kw507 kw340 kw341 kw56 kw342 ⟨rfl, by decide +kernel, by decide +kernel, by decide +kernel⟩ ⟨by decide, by decide⟩ shN2 dX5_ringCharacter_5) ?_
  refine Sim.sq (p1 := 13) (Sim.bk ?_) ?_
  · refine Sim.sq (p1 := 11) (s_if_ne dX5_ringCharacter_8 (by decide) rfl) ?_
    refine Sim.sq (p1 := 12) (s_iconst (by decide +kernel) dX5_ringCharacter_11) ?_
    exact (s_iret rfl dX5_ringCharacter_12)
  refine Sim.sq (p1 := 14) (s_aload_n rfl dX5_ringCharacter_13) ?_
  refine Sim.sq (p1 := 17) (s_getr (rfl : vwCl[5]? = some (RX5, TX5, 11)) (by decide) (by decide) inG5 kw234 rfl dX5_ringCharacter_14) ?_
  refine Sim.sq (p1 := 18) (s_iload_n rfl dX5_ringCharacter_17) ?_
  refine Sim.sq (p1 := 21) (s_callV (C_X2_ropeOfRing l) (rfl : vwCl[2]? = some (RX2, TX2, 7)) (by decide) kw335 kw336 kw337 kw56 kw338 ⟨rfl, by decide +kernel, by decide +kernel, by decide +kernel⟩ ⟨by decide, by decide⟩ shN2 dX5_ringCharacter_18) ?_
  refine Sim.sq (p1 := 22) (s_istore_n rfl (by decide) dX5_ringCharacter_21) ?_
  refine Sim.sq (p1 := 23) (s_iload_n rfl dX5_ringCharacter_22) ?_
  refine Sim.sq (p1 := 40) (Sim.bk ?_) ?_
  · refine Sim.sq (p1 := 38) (Sim.bk ?_) ?_
    · refine Sim.sq (p1 := 26) (s_if_lt dX5_ringCharacter_23 (by decide) rfl) ?_
      refine Sim.sq (p1 := 27) (s_iload_n rfl dX5_ringCharacter_26) ?_
      refine Sim.sq (p1 := 28) (s_aload_n rfl dX5_ringCharacter_27) ?_
      refine Sim.sq (p1 := 31) (s_getr (rfl : vwCl[5]? = some (RX5, TX5, 11)) (by decide) (by decide) inG5 kw231 rfl dX5_ringCharacter_28) ?_
      refine Sim.sq (p1 := 32) (s_iload_n rfl dX5_ringCharacter_31) ?_
      refine Sim.sq (p1 := 35) (s_callV (C_X1_sizeOf l) (rfl : vwCl[1]? = some (RX1, TX1, 10)) (by decide) kw310 kw311 kw312 kw54 kw313 ⟨rfl, by decide +kernel, by decide +kernel, by decide +kernel⟩ ⟨by decide, by decide⟩ shN1 dX5_ringCharacter_32) ?_
      exact (s_icmp_lt dX5_ringCharacter_35 (by decide) rfl)
    refine Sim.sq (p1 := 39) (s_iconst (by decide +kernel) dX5_ringCharacter_38) ?_
    exact (s_iret rfl dX5_ringCharacter_39)
  refine Sim.sq (p1 := 41) (s_aload_n rfl dX5_ringCharacter_40) ?_
  refine Sim.sq (p1 := 44) (s_getr (rfl : vwCl[5]? = some (RX5, TX5, 11)) (by decide) (by decide) inG5 kw230 rfl dX5_ringCharacter_41) ?_
  refine Sim.sq (p1 := 45) (s_iload_n rfl dX5_ringCharacter_44) ?_
  refine Sim.sq (p1 := 46) (s_iload_n rfl dX5_ringCharacter_45) ?_
  refine Sim.sq (p1 := 49) (s_callV (C_X4_codeAt l) (rfl : vwCl[4]? = some (RX4, TX4, 6)) (by decide) kw560 kw561 kw562 kw53 kw563 ⟨rfl, by decide +kernel, by decide +kernel, by decide +kernel⟩ ⟨by decide, by decide⟩ shN4 dX5_ringCharacter_46) ?_
  exact (s_iret rfl dX5_ringCharacter_49)
set_option maxRecDepth 100000 in
set_option maxHeartbeats 4000000 in
theorem C_X5_ringCharacter (l : Launch) : Ct l yX5_ringCharacter cX5_ringCharacter 4 (some .int) 2 50 m_X5_ringCharacter := Ct_of (y := yX5_ringCharacter) (by decide +kernel) S_X5_ringCharacter
set_option maxRecDepth 100000 in
set_option maxHeartbeats 4000000 in
theorem S_X6_ringCharacter {l : Launch} : Sim l (fun _ => True) RX6 "ringCharacter" cX6_ringCharacter 3 (some .int) 2 43 [] b_X6_ringCharacter 0 38 := by
  unfold b_X6_ringCharacter
  refine Sim.sq (p1 := 1) (s_aload_n rfl dX6_ringCharacter_0) ?_
  refine Sim.sq (p1 := 2) (s_iload_n rfl dX6_ringCharacter_1) ?_
  refine Sim.sq (p1 := 5) (s_callV (C_X6_isInRing l) (rfl : vwCl[6]? = some (RX6, TX6, 12)) (by decide) kw895 kw897 kw46 kw59 kw898 ⟨rfl, by decide +kernel, by decide +kernel, by decide +kernel⟩ ⟨by decide, by decide⟩ shN6 dX6_ringCharacter_2) ?_
  refine Sim.sq (p1 := 37) (Sim.bk ?_) ?_
  · refine Sim.sq (p1 := 36) (Sim.bk ?_) ?_
    · refine Sim.sq (p1 := 8) (s_if_eq dX6_ringCharacter_5 (by decide) rfl) ?_
      refine Sim.sq (p1 := 9) (s_iload_n rfl dX6_ringCharacter_8) ?_
      refine Sim.sq (p1 := 10) (s_iconst (by decide +kernel) dX6_ringCharacter_9) ?_
      refine Sim.sq (p1 := 11) (s_aload_n rfl dX6_ringCharacter_10) ?_
      refine Sim.sq (p1 := 12) (s_iconst (by decide +kernel) dX6_ringCharacter_11) ?_
      refine Sim.sq (p1 := 13) (s_iload_n rfl dX6_ringCharacter_12) ?_
      refine Sim.sq (p1 := 14) (s_iadd dX6_ringCharacter_13) ?_
      refine Sim.sq (p1 := 17) (s_callV (C_X6_lengthOf l) (rfl : vwCl[6]? = some (RX6, TX6, 12)) (by decide) kw768 kw770 kw19 kw59 kw771 ⟨rfl, by decide +kernel, by decide +kernel, by decide +kernel⟩ ⟨by decide, by decide⟩ shN6 dX6_ringCharacter_14) ?_
      refine Sim.sq (p1 := 18) (s_iconst (by decide +kernel) dX6_ringCharacter_17) ?_
      refine Sim.sq (p1 := 19) (s_isub dX6_ringCharacter_18) ?_
      refine Sim.sq (p1 := 22) (s_callS (y := yX6_within) (C_X6_within l) kw741 kw742 kw59 kw743 ⟨by decide +kernel, by decide +kernel, by decide +kernel⟩ ⟨by decide, by decide⟩ dX6_ringCharacter_19) ?_
      refine Sim.sq (p1 := 25) (s_if_eq dX6_ringCharacter_22 (by decide) rfl) ?_
      refine Sim.sq (p1 := 26) (s_aload_n rfl dX6_ringCharacter_25) ?_
      refine Sim.sq (p1 := 27) (s_iconst (by decide +kernel) dX6_ringCharacter_26) ?_
      refine Sim.sq (p1 := 28) (s_iload_n rfl dX6_ringCharacter_27) ?_
      refine Sim.sq (p1 := 29) (s_iadd dX6_ringCharacter_28) ?_
      refine Sim.sq (p1 := 30) (s_iload_n rfl dX6_ringCharacter_29) ?_
      refine Sim.sq (p1 := 33) (s_callV (C_X6_characterOf l) (rfl : vwCl[6]? = some (RX6, TX6, 12)) (by decide) kw823 kw825 kw32 kw59 kw826 ⟨rfl, by decide +kernel, by decide +kernel, by decide +kernel⟩ ⟨by decide, by decide⟩ shN6 dX6_ringCharacter_30) ?_
      exact (s_goto dX6_ringCharacter_33 (by decide) rfl)
    exact (s_iconst (by decide +kernel) dX6_ringCharacter_36)
  exact (s_iret rfl dX6_ringCharacter_37)
set_option maxRecDepth 100000 in
set_option maxHeartbeats 4000000 in
theorem C_X6_ringCharacter (l : Launch) : Ct l yX6_ringCharacter cX6_ringCharacter 3 (some .int) 2 43 m_X6_ringCharacter := Ct_of (y := yX6_ringCharacter) (by decide +kernel) S_X6_ringCharacter
set_option maxRecDepth 100000 in
set_option maxHeartbeats 4000000 in
theorem S_X5_keep {l : Launch} : Sim l (fun _ => True) RX5 "keep" cX5_keep 2 (some .int) 2 41 [] b_X5_keep 0 49 := by
  unfold b_X5_keep
  refine Sim.sq (p1 := 1) (s_iload_n rfl dX5_keep_0) ?_
  refine Sim.sq (p1 := 24) (Sim.bk ?_) ?_
  · refine Sim.sq (p1 := 22) (Sim.bk ?_) ?_
    · refine Sim.sq (p1 := 4) (s_if_lt dX5_keep_1 (by decide) rfl) ?_
      refine Sim.sq (p1 := 5) (s_iload_n rfl dX5_keep_4) ?_
      refine Sim.sq (p1 := 6) (s_aload_n rfl dX5_keep_5) ?_
      refine Sim.sq (p1 := 9) (s_getr (rfl : vwCl[5]? = some (RX5, TX5, 11)) (by decide) (by decide) inG5 kw236 rfl dX5_keep_6) ?_
      refine Sim.sq (p1 := 10) (s_alen dX5_keep_9) ?_
      refine Sim.sq (p1 := 13) (s_icmp_ge dX5_keep_10 (by decide) rfl) ?_
      refine Sim.sq (p1 := 14) (s_iload_n rfl dX5_keep_13) ?_
      refine Sim.sq (p1 := 15) (s_aload_n rfl dX5_keep_14) ?_
      refine Sim.sq (p1 := 18) (s_getr (rfl : vwCl[5]? = some (RX5, TX5, 11)) (by decide) (by decide) inG5 kw237 rfl dX5_keep_15) ?_
      refine Sim.sq (p1 := 19) (s_alen dX5_keep_18) ?_
      exact (s_icmp_lt dX5_keep_19 (by decide) rfl)
    refine Sim.sq (p1 := 23) (s_iconst (by decide +kernel) dX5_keep_22) ?_
    exact (s_iret rfl dX5_keep_23)
  refine Sim.sq (p1 := 25) (s_aload_n rfl dX5_keep_24) ?_
  refine Sim.sq (p1 := 28) (s_getr (rfl : vwCl[5]? = some (RX5, TX5, 11)) (by decide) (by decide) inG5 kw236 rfl dX5_keep_25) ?_
  refine Sim.sq (p1 := 29) (s_iload_n rfl dX5_keep_28) ?_
  refine Sim.sq (p1 := 30) (s_aload_n rfl dX5_keep_29) ?_
  refine Sim.sq (p1 := 33) (s_getr (rfl : vwCl[5]? = some (RX5, TX5, 11)) (by decide) (by decide) inG5 kw234 rfl dX5_keep_30) ?_
  refine Sim.sq (p1 := 36) (s_getiN (rfl : vwCl[2]? = some (RX2, TX2, 7)) (by decide) (by decide) inG2 kn192 rfl dX5_keep_33) ?_
  refine Sim.sq (p1 := 37) (s_iast dX5_keep_36) ?_
  refine Sim.sq (p1 := 38) (s_aload_n rfl dX5_keep_37) ?_
  refine Sim.sq (p1 := 41) (s_getr (rfl : vwCl[5]? = some (RX5, TX5, 11)) (by decide) (by decide) inG5 kw237 rfl dX5_keep_38) ?_
  refine Sim.sq (p1 := 42) (s_iload_n rfl dX5_keep_41) ?_
  refine Sim.sq (p1 := 43) (s_iconst (by decide +kernel) dX5_keep_42) ?_
  refine Sim.sq (p1 := 44) (s_zast dX5_keep_43) ?_
  refine Sim.sq (p1 := 45) (s_aload_n rfl dX5_keep_44) ?_
  refine Sim.sq (p1 := 48) (s_callV (C_X5_length l) (rfl : vwCl[5]? = some (RX5, TX5, 11)) (by decide) kw306 kw307 kw308 kw52 kw309 ⟨rfl, by decide +kernel, by decide +kernel, by decide +kernel⟩ ⟨by decide, by decide⟩ shN5 dX5_keep_45) ?_
  exact (s_iret rfl dX5_keep_48)
set_option maxRecDepth 100000 in
set_option maxHeartbeats 4000000 in
theorem C_X5_keep (l : Launch) : Ct l yX5_keep cX5_keep 2 (some .int) 2 41 m_X5_keep := Ct_of (y := yX5_keep) (by decide +kernel) S_X5_keep
set_option maxRecDepth 100000 in
set_option maxHeartbeats 4000000 in
theorem S_X6_isVersion {l : Launch} : Sim l (fun _ => True) RX6 "isVersion" cX6_isVersion 1 (some .boolean) 1 22 [] b_X6_isVersion 0 7 := by
  unfold b_X6_isVersion
  refine Sim.sq (p1 := 1) (s_iload_n rfl dX6_isVersion_0) ?_
  refine Sim.sq (p1 := 2) (s_iconst (by decide +kernel) dX6_isVersion_1) ?_
  refine Sim.sq (p1 := 3) (s_iconst (by decide +kernel) dX6_isVersion_2) ?_
  refine Sim.sq (p1 := 6) (s_callS (y := yX6_within) (C_X6_within l) kw741 kw742 kw59 kw743 ⟨by decide +kernel, by decide +kernel, by decide +kernel⟩ ⟨by decide, by decide⟩ dX6_isVersion_3) ?_
  exact (s_zret rfl dX6_isVersion_6)
set_option maxRecDepth 100000 in
set_option maxHeartbeats 4000000 in
theorem C_X6_isVersion (l : Launch) : Ct l yX6_isVersion cX6_isVersion 1 (some .boolean) 1 22 m_X6_isVersion := Ct_of (y := yX6_isVersion) (by decide +kernel) S_X6_isVersion
set_option maxRecDepth 100000 in
set_option maxHeartbeats 4000000 in
theorem S_X6_keep {l : Launch} : Sim l (fun _ => True) RX6 "keep" cX6_keep 2 (some .int) 2 42 [] b_X6_keep 0 30 := by
  unfold b_X6_keep
  refine Sim.sq (p1 := 1) (s_iload_n rfl dX6_keep_0) ?_
  refine Sim.sq (p1 := 4) (s_callS (y := yX6_isVersion) (C_X6_isVersion l) kw1008 kw1009 kw59 kw1010 ⟨by decide +kernel, by decide +kernel, by decide +kernel⟩ ⟨by decide, by decide⟩ dX6_keep_1) ?_
  refine Sim.sq (p1 := 9) (Sim.bk ?_) ?_
  · refine Sim.sq (p1 := 7) (s_if_ne dX6_keep_4 (by decide) rfl) ?_
    refine Sim.sq (p1 := 8) (s_iconst (by decide +kernel) dX6_keep_7) ?_
    exact (s_iret rfl dX6_keep_8)
  refine Sim.sq (p1 := 10) (s_aload_n rfl dX6_keep_9) ?_
  refine Sim.sq (p1 := 11) (s_iconst (by decide +kernel) dX6_keep_10) ?_
  refine Sim.sq (p1 := 12) (s_iconst (by decide +kernel) dX6_keep_11) ?_
  refine Sim.sq (p1 := 13) (s_iload_n rfl dX6_keep_12) ?_
  refine Sim.sq (p1 := 14) (s_iadd dX6_keep_13) ?_
  refine Sim.sq (p1 := 17) (s_callV (C_X6_copies l) (rfl : vwCl[6]? = some (RX6, TX6, 12)) (by decide) kw807 kw809 kw28 kw59 kw810 ⟨rfl, by decide +kernel, by decide +kernel, by decide +kernel⟩ ⟨by decide, by decide⟩ shN6 dX6_keep_14) ?_
  refine Sim.sq (p1 := 18) (s_aload_n rfl dX6_keep_17) ?_
  refine Sim.sq (p1 := 21) (s_getr (rfl : vwCl[6]? = some (RX6, TX6, 12)) (by decide) (by decide) inG6 kw704 rfl dX6_keep_18) ?_
  refine Sim.sq (p1 := 22) (s_iload_n rfl dX6_keep_21) ?_
  refine Sim.sq (p1 := 23) (s_iconst (by decide +kernel) dX6_keep_22) ?_
  refine Sim.sq (p1 := 24) (s_iast dX6_keep_23) ?_
  refine Sim.sq (p1 := 25) (s_aload_n rfl dX6_keep_24) ?_
  refine Sim.sq (p1 := 26) (s_iconst (by decide +kernel) dX6_keep_25) ?_
  refine Sim.sq (p1 := 29) (s_callV (C_X6_lengthOf l) (rfl : vwCl[6]? = some (RX6, TX6, 12)) (by decide) kw768 kw770 kw19 kw59 kw771 ⟨rfl, by decide +kernel, by decide +kernel, by decide +kernel⟩ ⟨by decide, by decide⟩ shN6 dX6_keep_26) ?_
  exact (s_iret rfl dX6_keep_29)
set_option maxRecDepth 100000 in
set_option maxHeartbeats 4000000 in
theorem C_X6_keep (l : Launch) : Ct l yX6_keep cX6_keep 2 (some .int) 2 42 m_X6_keep := Ct_of (y := yX6_keep) (by decide +kernel) S_X6_keep
set_option maxRecDepth 100000 in
set_option maxHeartbeats 4000000 in
theorem S_X2_lowerMarks {l : Launch} : Sim l (fun _ => True) RX2 "lowerMarks" cX2_lowerMarks 3 none 1 21 [] b_X2_lowerMarks 0 34 := by
  unfold b_X2_lowerMarks
  refine Sim.sq (p1 := 1) (s_iconst (by decide +kernel) dX2_lowerMarks_0) ?_
  refine Sim.sq (p1 := 2) (s_istore_n rfl (by decide) dX2_lowerMarks_1) ?_
  refine Sim.sq (p1 := 33) (Sim.lp ?_) ?_
  · refine Sim.sq (p1 := 3) (s_iload_n rfl dX2_lowerMarks_2) ?_
    refine Sim.sq (p1 := 4) (s_aload_n rfl dX2_lowerMarks_3) ?_
    refine Sim.sq (p1 := 7) (s_getr (rfl : vwCl[2]? = some (RX2, TX2, 7)) (by decide) (by decide) inG2 kw183 rfl dX2_lowerMarks_4) ?_
    refine Sim.sq (p1 := 8) (s_alen dX2_lowerMarks_7) ?_
    refine Sim.bk ?_
    refine Sim.sq (p1 := 11) (s_icmp_ge dX2_lowerMarks_8 (by decide) rfl) ?_
    refine Sim.sq (p1 := 12) (s_aload_n rfl dX2_lowerMarks_11) ?_
    refine Sim.sq (p1 := 15) (s_getr (rfl : vwCl[2]? = some (RX2, TX2, 7)) (by decide) (by decide) inG2 kw183 rfl dX2_lowerMarks_12) ?_
    refine Sim.sq (p1 := 16) (s_iload_n rfl dX2_lowerMarks_15) ?_
    refine Sim.sq (p1 := 17) (s_aload_n rfl dX2_lowerMarks_16) ?_
    refine Sim.sq (p1 := 20) (s_getr (rfl : vwCl[2]? = some (RX2, TX2, 7)) (by decide) (by decide) inG2 kw183 rfl dX2_lowerMarks_17) ?_
    refine Sim.sq (p1 := 21) (s_iload_n rfl dX2_lowerMarks_20) ?_
    refine Sim.sq (p1 := 22) (s_iald dX2_lowerMarks_21) ?_
    refine Sim.sq (p1 := 23) (s_iload_n rfl dX2_lowerMarks_22) ?_
    refine Sim.sq (p1 := 26) (s_min (by decide) (by decide) kw496 kw497 kw60 kw498 dX2_lowerMarks_23) ?_
    refine Sim.sq (p1 := 27) (s_iast dX2_lowerMarks_26) ?_
    refine Sim.sq (p1 := 30) (s_iinc (by decide +kernel) (by decide) dX2_lowerMarks_27) ?_
    exact (s_goto dX2_lowerMarks_30 (by decide) rfl)
  exact (s_vret rfl dX2_lowerMarks_33)
set_option maxRecDepth 100000 in
set_option maxHeartbeats 4000000 in
theorem C_X2_lowerMarks (l : Launch) : Ct l yX2_lowerMarks cX2_lowerMarks 3 none 1 21 m_X2_lowerMarks := Ct_of (y := yX2_lowerMarks) (by decide +kernel) S_X2_lowerMarks
set_option maxRecDepth 100000 in
set_option maxHeartbeats 4000000 in
theorem S_X5_goBack {l : Launch} : Sim l (fun _ => True) RX5 "goBack" cX5_goBack 2 (some .int) 3 243 [] b_X5_goBack 0 76 := by
  unfold b_X5_goBack
  refine Sim.sq (p1 := 1) (s_iload_n rfl dX5_goBack_0) ?_
  refine Sim.sq (p1 := 24) (Sim.bk ?_) ?_
  · refine Sim.sq (p1 := 22) (Sim.bk ?_) ?_
    · refine Sim.sq (p1 := 4) (s_if_lt dX5_goBack_1 (by decide) rfl) ?_
      refine Sim.sq (p1 := 5) (s_iload_n rfl dX5_goBack_4) ?_
      refine Sim.sq (p1 := 6) (s_aload_n rfl dX5_goBack_5) ?_
      refine Sim.sq (p1 := 9) (s_getr (rfl : vwCl[5]? = some (RX5, TX5, 11)) (by decide) (by decide) inG5 kw236 rfl dX5_goBack_6) ?_
      refine Sim.sq (p1 := 10) (s_alen dX5_goBack_9) ?_
      refine Sim.sq (p1 := 13) (s_icmp_ge dX5_goBack_10 (by decide) rfl) ?_
      refine Sim.sq (p1 := 14) (s_iload_n rfl dX5_goBack_13) ?_
      refine Sim.sq (p1 := 15) (s_aload_n rfl dX5_goBack_14) ?_
      refine Sim.sq (p1 := 18) (s_getr (rfl : vwCl[5]? = some (RX5, TX5, 11)) (by decide) (by decide) inG5 kw237 rfl dX5_goBack_15) ?_
      refine Sim.sq (p1 := 19) (s_alen dX5_goBack_18) ?_
      exact (s_icmp_lt dX5_goBack_19 (by decide) rfl)
    refine Sim.sq (p1 := 23) (s_iconst (by decide +kernel) dX5_goBack_22) ?_
    exact (s_iret rfl dX5_goBack_23)
  refine Sim.sq (p1 := 25) (s_aload_n rfl dX5_goBack_24) ?_
  refine Sim.sq (p1 := 28) (s_getr (rfl : vwCl[5]? = some (RX5, TX5, 11)) (by decide) (by decide) inG5 kw237 rfl dX5_goBack_25) ?_
  refine Sim.sq (p1 := 29) (s_iload_n rfl dX5_goBack_28) ?_
  refine Sim.sq (p1 := 30) (s_zald dX5_goBack_29) ?_
  refine Sim.sq (p1 := 36) (Sim.bk ?_) ?_
  · refine Sim.sq (p1 := 33) (s_if_ne dX5_goBack_30 (by decide) rfl) ?_
    refine Sim.sq (p1 := 35) (s_bipush (by decide +kernel) dX5_goBack_33) ?_
    exact (s_iret rfl dX5_goBack_35)
  refine Sim.sq (p1 := 37) (s_aload_n rfl dX5_goBack_36) ?_
  refine Sim.sq (p1 := 40) (s_getr (rfl : vwCl[5]? = some (RX5, TX5, 11)) (by decide) (by decide) inG5 kw235 rfl dX5_goBack_37) ?_
  refine Sim.sq (p1 := 41) (s_aload_n rfl dX5_goBack_40) ?_
  refine Sim.sq (p1 := 44) (s_getr (rfl : vwCl[5]? = some (RX5, TX5, 11)) (by decide) (by decide) inG5 kw234 rfl dX5_goBack_41) ?_
  refine Sim.sq (p1 := 47) (s_callV (C_X0_save l) (rfl : vwCl[0]? = some (RX0, TX0, 3)) (by decide) kw268 kw269 kw270 kw58 kw271 ⟨rfl, by decide +kernel, by decide +kernel, by decide +kernel⟩ ⟨by decide, by decide⟩ shN0 dX5_goBack_44) ?_
  refine Sim.sq (p1 := 48) (s_aload_n rfl dX5_goBack_47) ?_
  refine Sim.sq (p1 := 51) (s_getr (rfl : vwCl[5]? = some (RX5, TX5, 11)) (by decide) (by decide) inG5 kw234 rfl dX5_goBack_48) ?_
  refine Sim.sq (p1 := 52) (s_aload_n rfl dX5_goBack_51) ?_
  refine Sim.sq (p1 := 55) (s_getr (rfl : vwCl[5]? = some (RX5, TX5, 11)) (by decide) (by decide) inG5 kw236 rfl dX5_goBack_52) ?_
  refine Sim.sq (p1 := 56) (s_iload_n rfl dX5_goBack_55) ?_
  refine Sim.sq (p1 := 57) (s_iald dX5_goBack_56) ?_
  refine Sim.sq (p1 := 60) (s_putiN (rfl : vwCl[2]? = some (RX2, TX2, 7)) (by decide) (by decide) inG2 kn192 rfl tyX2 tyX2_ok nmX2 rfl (by decide +kernel) dX5_goBack_57) ?_
  refine Sim.sq (p1 := 61) (s_aload_n rfl dX5_goBack_60) ?_
  refine Sim.sq (p1 := 64) (s_getr (rfl : vwCl[5]? = some (RX5, TX5, 11)) (by decide) (by decide) inG5 kw234 rfl dX5_goBack_61) ?_
  refine Sim.sq (p1 := 65) (s_aload_n rfl dX5_goBack_64) ?_
  refine Sim.sq (p1 := 68) (s_callV (C_X5_length l) (rfl : vwCl[5]? = some (RX5, TX5, 11)) (by decide) kw306 kw307 kw308 kw52 kw309 ⟨rfl, by decide +kernel, by decide +kernel, by decide +kernel⟩ ⟨by decide, by decide⟩ shN5 dX5_goBack_65) ?_
  refine Sim.sq (p1 := 71) (s_callV (C_X2_lowerMarks l) (rfl : vwCl[2]? = some (RX2, TX2, 7)) (by decide) kw652 kw653 kw654 kw56 kw655 ⟨rfl, by decide +kernel, by decide +kernel, by decide +kernel⟩ ⟨by decide, by decide⟩ shN2 dX5_goBack_68) ?_
  refine Sim.sq (p1 := 72) (s_aload_n rfl dX5_goBack_71) ?_
  refine Sim.sq (p1 := 75) (s_callV (C_X5_length l) (rfl : vwCl[5]? = some (RX5, TX5, 11)) (by decide) kw306 kw307 kw308 kw52 kw309 ⟨rfl, by decide +kernel, by decide +kernel, by decide +kernel⟩ ⟨by decide, by decide⟩ shN5 dX5_goBack_72) ?_
  exact (s_iret rfl dX5_goBack_75)
set_option maxRecDepth 100000 in
set_option maxHeartbeats 4000000 in
theorem C_X5_goBack (l : Launch) : Ct l yX5_goBack cX5_goBack 2 (some .int) 3 243 m_X5_goBack := Ct_of (y := yX5_goBack) (by decide +kernel) S_X5_goBack
set_option maxRecDepth 100000 in
set_option maxHeartbeats 4000000 in
theorem S_X6_goBack {l : Launch} : Sim l (fun _ => True) RX6 "goBack" cX6_goBack 3 (some .int) 2 42 [] b_X6_goBack 0 92 := by
  unfold b_X6_goBack
  refine Sim.sq (p1 := 1) (s_iload_n rfl dX6_goBack_0) ?_
  refine Sim.sq (p1 := 4) (s_callS (y := yX6_isVersion) (C_X6_isVersion l) kw1008 kw1009 kw59 kw1010 ⟨by decide +kernel, by decide +kernel, by decide +kernel⟩ ⟨by decide, by decide⟩ dX6_goBack_1) ?_
  refine Sim.sq (p1 := 9) (Sim.bk ?_) ?_
  · refine Sim.sq (p1 := 7) (s_if_ne dX6_goBack_4 (by decide) rfl) ?_
    refine Sim.sq (p1 := 8) (s_iconst (by decide +kernel) dX6_goBack_7) ?_
    exact (s_iret rfl dX6_goBack_8)
  refine Sim.sq (p1 := 10) (s_aload_n rfl dX6_goBack_9) ?_
  refine Sim.sq (p1 := 13) (s_getr (rfl : vwCl[6]? = some (RX6, TX6, 12)) (by decide) (by decide) inG6 kw704 rfl dX6_goBack_10) ?_
  refine Sim.sq (p1 := 14) (s_iload_n rfl dX6_goBack_13) ?_
  refine Sim.sq (p1 := 15) (s_iald dX6_goBack_14) ?_
  refine Sim.sq (p1 := 21) (Sim.bk ?_) ?_
  · refine Sim.sq (p1 := 18) (s_if_ne dX6_goBack_15 (by decide) rfl) ?_
    refine Sim.sq (p1 := 20) (s_bipush (by decide +kernel) dX6_goBack_18) ?_
    exact (s_iret rfl dX6_goBack_20)
  refine Sim.sq (p1 := 22) (s_aload_n rfl dX6_goBack_21) ?_
  refine Sim.sq (p1 := 25) (s_callV (C_X6_record l) (rfl : vwCl[6]? = some (RX6, TX6, 12)) (by decide) kw744 kw746 kw17 kw59 kw747 ⟨rfl, by decide +kernel, by decide +kernel, by decide +kernel⟩ ⟨by decide, by decide⟩ shN6 dX6_goBack_22) ?_
  refine Sim.sq (p1 := 26) (s_aload_n rfl dX6_goBack_25) ?_
  refine Sim.sq (p1 := 27) (s_iconst (by decide +kernel) dX6_goBack_26) ?_
  refine Sim.sq (p1 := 28) (s_iload_n rfl dX6_goBack_27) ?_
  refine Sim.sq (p1 := 29) (s_iadd dX6_goBack_28) ?_
  refine Sim.sq (p1 := 30) (s_iconst (by decide +kernel) dX6_goBack_29) ?_
  refine Sim.sq (p1 := 33) (s_callV (C_X6_copies l) (rfl : vwCl[6]? = some (RX6, TX6, 12)) (by decide) kw807 kw809 kw28 kw59 kw810 ⟨rfl, by decide +kernel, by decide +kernel, by decide +kernel⟩ ⟨by decide, by decide⟩ shN6 dX6_goBack_30) ?_
  refine Sim.sq (p1 := 34) (s_iconst (by decide +kernel) dX6_goBack_33) ?_
  refine Sim.sq (p1 := 35) (s_istore_n rfl (by decide) dX6_goBack_34) ?_
  refine Sim.sq (p1 := 86) (Sim.lp ?_) ?_
  · refine Sim.sq (p1 := 36) (s_iload_n rfl dX6_goBack_35) ?_
    refine Sim.sq (p1 := 37) (s_iconst (by decide +kernel) dX6_goBack_36) ?_
    refine Sim.bk ?_
    refine Sim.sq (p1 := 40) (s_icmp_ge dX6_goBack_37 (by decide) rfl) ?_
    refine Sim.sq (p1 := 41) (s_aload_n rfl dX6_goBack_40) ?_
    refine Sim.sq (p1 := 44) (s_getr (rfl : vwCl[6]? = some (RX6, TX6, 12)) (by decide) (by decide) inG6 kw701 rfl dX6_goBack_41) ?_
    refine Sim.sq (p1 := 45) (s_iconst (by decide +kernel) dX6_goBack_44) ?_
    refine Sim.sq (p1 := 46) (s_iload_n rfl dX6_goBack_45) ?_
    refine Sim.sq (p1 := 47) (s_iadd dX6_goBack_46) ?_
    refine Sim.sq (p1 := 48) (s_aload_n rfl dX6_goBack_47) ?_
    refine Sim.sq (p1 := 51) (s_getr (rfl : vwCl[6]? = some (RX6, TX6, 12)) (by decide) (by decide) inG6 kw701 rfl dX6_goBack_48) ?_
    refine Sim.sq (p1 := 52) (s_iconst (by decide +kernel) dX6_goBack_51) ?_
    refine Sim.sq (p1 := 53) (s_iload_n rfl dX6_goBack_52) ?_
    refine Sim.sq (p1 := 54) (s_iadd dX6_goBack_53) ?_
    refine Sim.sq (p1 := 55) (s_iald dX6_goBack_54) ?_
    refine Sim.sq (p1 := 56) (s_aload_n rfl dX6_goBack_55) ?_
    refine Sim.sq (p1 := 57) (s_iconst (by decide +kernel) dX6_goBack_56) ?_
    refine Sim.sq (p1 := 60) (s_callV (C_X6_lengthOf l) (rfl : vwCl[6]? = some (RX6, TX6, 12)) (by decide) kw768 kw770 kw19 kw59 kw771 ⟨rfl, by decide +kernel, by decide +kernel, by decide +kernel⟩ ⟨by decide, by decide⟩ shN6 dX6_goBack_57) ?_
    refine Sim.sq (p1 := 79) (Sim.bk ?_) ?_
    · refine Sim.sq (p1 := 71) (Sim.bk ?_) ?_
      · refine Sim.sq (p1 := 63) (s_icmp_le dX6_goBack_60 (by decide) rfl) ?_
        refine Sim.sq (p1 := 64) (s_aload_n rfl dX6_goBack_63) ?_
        refine Sim.sq (p1 := 65) (s_iconst (by decide +kernel) dX6_goBack_64) ?_
        refine Sim.sq (p1 := 68) (s_callV (C_X6_lengthOf l) (rfl : vwCl[6]? = some (RX6, TX6, 12)) (by decide) kw768 kw770 kw19 kw59 kw771 ⟨rfl, by decide +kernel, by decide +kernel, by decide +kernel⟩ ⟨by decide, by decide⟩ shN6 dX6_goBack_65) ?_
        exact (s_goto dX6_goBack_68 (by decide) rfl)
      refine Sim.sq (p1 := 72) (s_aload_n rfl dX6_goBack_71) ?_
      refine Sim.sq (p1 := 75) (s_getr (rfl : vwCl[6]? = some (RX6, TX6, 12)) (by decide) (by decide) inG6 kw701 rfl dX6_goBack_72) ?_
      refine Sim.sq (p1 := 76) (s_iconst (by decide +kernel) dX6_goBack_75) ?_
      refine Sim.sq (p1 := 77) (s_iload_n rfl dX6_goBack_76) ?_
      refine Sim.sq (p1 := 78) (s_iadd dX6_goBack_77) ?_
      exact (s_iald dX6_goBack_78)
    refine Sim.sq (p1 := 80) (s_iast dX6_goBack_79) ?_
    refine Sim.sq (p1 := 83) (s_iinc (by decide +kernel) (by decide) dX6_goBack_80) ?_
    exact (s_goto dX6_goBack_83 (by decide) rfl)
  refine Sim.sq (p1 := 87) (s_aload_n rfl dX6_goBack_86) ?_
  refine Sim.sq (p1 := 88) (s_iconst (by decide +kernel) dX6_goBack_87) ?_
  refine Sim.sq (p1 := 91) (s_callV (C_X6_lengthOf l) (rfl : vwCl[6]? = some (RX6, TX6, 12)) (by decide) kw768 kw770 kw19 kw59 kw771 ⟨rfl, by decide +kernel, by decide +kernel, by decide +kernel⟩ ⟨by decide, by decide⟩ shN6 dX6_goBack_88) ?_
  exact (s_iret rfl dX6_goBack_91)
set_option maxRecDepth 100000 in
set_option maxHeartbeats 4000000 in
theorem C_X6_goBack (l : Launch) : Ct l yX6_goBack cX6_goBack 3 (some .int) 2 42 m_X6_goBack := Ct_of (y := yX6_goBack) (by decide +kernel) S_X6_goBack
set_option maxRecDepth 100000 in
set_option maxHeartbeats 4000000 in
theorem S_X3_firstDifference {l : Launch} : Sim l (fun _ => True) RX3 "firstDifference" cX3_firstDifference 4 (some .int) 1 21 [] b_X3_firstDifference 0 78 := by
  unfold b_X3_firstDifference
  refine Sim.sq (p1 := 1) (s_aload_n rfl dX3_firstDifference_0) ?_
  refine Sim.sq (p1 := 4) (s_geti (rfl : vwCl[3]? = some (RX3, TX3, 8)) (by decide) (by decide) inG3 kw153 rfl dX3_firstDifference_1) ?_
  refine Sim.sq (p1 := 5) (s_aload_n rfl dX3_firstDifference_4) ?_
  refine Sim.sq (p1 := 8) (s_geti (rfl : vwCl[3]? = some (RX3, TX3, 8)) (by decide) (by decide) inG3 kw153 rfl dX3_firstDifference_5) ?_
  refine Sim.sq (p1 := 11) (s_min (by decide) (by decide) kw664 kw497 kw60 kw498 dX3_firstDifference_8) ?_
  refine Sim.sq (p1 := 12) (s_istore_n rfl (by decide) dX3_firstDifference_11) ?_
  refine Sim.sq (p1 := 13) (s_iconst (by decide +kernel) dX3_firstDifference_12) ?_
  refine Sim.sq (p1 := 14) (s_istore_n rfl (by decide) dX3_firstDifference_13) ?_
  refine Sim.sq (p1 := 60) (Sim.lp ?_) ?_
  · refine Sim.sq (p1 := 15) (s_iload_n rfl dX3_firstDifference_14) ?_
    refine Sim.sq (p1 := 16) (s_iload_n rfl dX3_firstDifference_15) ?_
    refine Sim.bk ?_
    refine Sim.sq (p1 := 19) (s_icmp_ge dX3_firstDifference_16 (by decide) rfl) ?_
    refine Sim.sq (p1 := 20) (s_iload_n rfl dX3_firstDifference_19) ?_
    refine Sim.sq (p1 := 21) (s_aload_n rfl dX3_firstDifference_20) ?_
    refine Sim.sq (p1 := 24) (s_getr (rfl : vwCl[3]? = some (RX3, TX3, 8)) (by decide) (by decide) inG3 kw145 rfl dX3_firstDifference_21) ?_
    refine Sim.sq (p1 := 25) (s_alen dX3_firstDifference_24) ?_
    refine Sim.sq (p1 := 28) (s_icmp_ge dX3_firstDifference_25 (by decide) rfl) ?_
    refine Sim.sq (p1 := 29) (s_iload_n rfl dX3_firstDifference_28) ?_
    refine Sim.sq (p1 := 30) (s_aload_n rfl dX3_firstDifference_29) ?_
    refine Sim.sq (p1 := 33) (s_getr (rfl : vwCl[3]? = some (RX3, TX3, 8)) (by decide) (by decide) inG3 kw145 rfl dX3_firstDifference_30) ?_
    refine Sim.sq (p1 := 34) (s_alen dX3_firstDifference_33) ?_
    refine Sim.sq (p1 := 37) (s_icmp_ge dX3_firstDifference_34 (by decide) rfl) ?_
    refine Sim.sq (p1 := 38) (s_aload_n rfl dX3_firstDifference_37) ?_
    refine Sim.sq (p1 := 41) (s_getr (rfl : vwCl[3]? = some (RX3, TX3, 8)) (by decide) (by decide) inG3 kw145 rfl dX3_firstDifference_38) ?_
    refine Sim.sq (p1 := 42) (s_iload_n rfl dX3_firstDifference_41) ?_
    refine Sim.sq (p1 := 43) (s_iald dX3_firstDifference_42) ?_
    refine Sim.sq (p1 := 44) (s_aload_n rfl dX3_firstDifference_43) ?_
    refine Sim.sq (p1 := 47) (s_getr (rfl : vwCl[3]? = some (RX3, TX3, 8)) (by decide) (by decide) inG3 kw145 rfl dX3_firstDifference_44) ?_
    refine Sim.sq (p1 := 48) (s_iload_n rfl dX3_firstDifference_47) ?_
    refine Sim.sq (p1 := 49) (s_iald dX3_firstDifference_48) ?_
    refine Sim.sq (p1 := 54) (Sim.bk ?_) ?_
    · refine Sim.sq (p1 := 52) (s_icmp_eq dX3_firstDifference_49 (by decide) rfl) ?_
      refine Sim.sq (p1 := 53) (s_iload_n rfl dX3_firstDifference_52) ?_
      exact (s_iret rfl dX3_firstDifference_53)
    refine Sim.sq (p1 := 57) (s_iinc (by decide +kernel) (by decide) dX3_firstDifference_54) ?_
    exact (s_goto dX3_firstDifference_57 (by decide) rfl)
  refine Sim.sq (p1 := 61) (s_aload_n rfl dX3_firstDifference_60) ?_
  refine Sim.sq (p1 := 64) (s_geti (rfl : vwCl[3]? = some (RX3, TX3, 8)) (by decide) (by decide) inG3 kw153 rfl dX3_firstDifference_61) ?_
  refine Sim.sq (p1 := 65) (s_aload_n rfl dX3_firstDifference_64) ?_
  refine Sim.sq (p1 := 68) (s_geti (rfl : vwCl[3]? = some (RX3, TX3, 8)) (by decide) (by decide) inG3 kw153 rfl dX3_firstDifference_65) ?_
  refine Sim.sq (p1 := 77) (Sim.bk ?_) ?_
  · refine Sim.sq (p1 := 76) (Sim.bk ?_) ?_
    · refine Sim.sq (p1 := 71) (s_icmp_ne dX3_firstDifference_68 (by decide) rfl) ?_
      refine Sim.sq (p1 := 73) (s_bipush (by decide +kernel) dX3_firstDifference_71) ?_
      exact (s_goto dX3_firstDifference_73 (by decide) rfl)
    exact (s_iload_n rfl dX3_firstDifference_76)
  exact (s_iret rfl dX3_firstDifference_77)
set_option maxRecDepth 100000 in
set_option maxHeartbeats 4000000 in
theorem C_X3_firstDifference (l : Launch) : Ct l yX3_firstDifference cX3_firstDifference 4 (some .int) 1 21 m_X3_firstDifference := Ct_of (y := yX3_firstDifference) (by decide +kernel) S_X3_firstDifference
set_option maxRecDepth 100000 in
set_option maxHeartbeats 4000000 in
theorem S_X5_difference {l : Launch} : Sim l (fun _ => True) RX5 "difference" cX5_difference 2 (some .int) 3 75 [] b_X5_difference 0 83 := by
  unfold b_X5_difference
  refine Sim.sq (p1 := 1) (s_iload_n rfl dX5_difference_0) ?_
  refine Sim.sq (p1 := 24) (Sim.bk ?_) ?_
  · refine Sim.sq (p1 := 22) (Sim.bk ?_) ?_
    · refine Sim.sq (p1 := 4) (s_if_lt dX5_difference_1 (by decide) rfl) ?_
      refine Sim.sq (p1 := 5) (s_iload_n rfl dX5_difference_4) ?_
      refine Sim.sq (p1 := 6) (s_aload_n rfl dX5_difference_5) ?_
      refine Sim.sq (p1 := 9) (s_getr (rfl : vwCl[5]? = some (RX5, TX5, 11)) (by decide) (by decide) inG5 kw236 rfl dX5_difference_6) ?_
      refine Sim.sq (p1 := 10) (s_alen dX5_difference_9) ?_
      refine Sim.sq (p1 := 13) (s_icmp_ge dX5_difference_10 (by decide) rfl) ?_
      refine Sim.sq (p1 := 14) (s_iload_n rfl dX5_difference_13) ?_
      refine Sim.sq (p1 := 15) (s_aload_n rfl dX5_difference_14) ?_
      refine Sim.sq (p1 := 18) (s_getr (rfl : vwCl[5]? = some (RX5, TX5, 11)) (by decide) (by decide) inG5 kw237 rfl dX5_difference_15) ?_
      refine Sim.sq (p1 := 19) (s_alen dX5_difference_18) ?_
      exact (s_icmp_lt dX5_difference_19 (by decide) rfl)
    refine Sim.sq (p1 := 23) (s_iconst (by decide +kernel) dX5_difference_22) ?_
    exact (s_iret rfl dX5_difference_23)
  refine Sim.sq (p1 := 25) (s_aload_n rfl dX5_difference_24) ?_
  refine Sim.sq (p1 := 28) (s_getr (rfl : vwCl[5]? = some (RX5, TX5, 11)) (by decide) (by decide) inG5 kw237 rfl dX5_difference_25) ?_
  refine Sim.sq (p1 := 29) (s_iload_n rfl dX5_difference_28) ?_
  refine Sim.sq (p1 := 30) (s_zald dX5_difference_29) ?_
  refine Sim.sq (p1 := 36) (Sim.bk ?_) ?_
  · refine Sim.sq (p1 := 33) (s_if_ne dX5_difference_30 (by decide) rfl) ?_
    refine Sim.sq (p1 := 35) (s_bipush (by decide +kernel) dX5_difference_33) ?_
    exact (s_iret rfl dX5_difference_35)
  refine Sim.sq (p1 := 37) (s_aload_n rfl dX5_difference_36) ?_
  refine Sim.sq (p1 := 40) (s_getr (rfl : vwCl[5]? = some (RX5, TX5, 11)) (by decide) (by decide) inG5 kw232 rfl dX5_difference_37) ?_
  refine Sim.sq (p1 := 41) (s_aload_n rfl dX5_difference_40) ?_
  refine Sim.sq (p1 := 44) (s_getr (rfl : vwCl[5]? = some (RX5, TX5, 11)) (by decide) (by decide) inG5 kw231 rfl dX5_difference_41) ?_
  refine Sim.sq (p1 := 45) (s_aload_n rfl dX5_difference_44) ?_
  refine Sim.sq (p1 := 48) (s_getr (rfl : vwCl[5]? = some (RX5, TX5, 11)) (by decide) (by decide) inG5 kw234 rfl dX5_difference_45) ?_
  refine Sim.sq (p1 := 51) (s_getiN (rfl : vwCl[2]? = some (RX2, TX2, 7)) (by decide) (by decide) inG2 kn192 rfl dX5_difference_48) ?_
  refine Sim.sq (p1 := 54) (s_callV (C_X3_read l) (rfl : vwCl[3]? = some (RX3, TX3, 8)) (by decide) kw458 kw459 kw460 kw55 kw461 ⟨rfl, by decide +kernel, by decide +kernel, by decide +kernel⟩ ⟨by decide, by decide⟩ shN3 dX5_difference_51) ?_
  refine Sim.sq (p1 := 55) (s_aload_n rfl dX5_difference_54) ?_
  refine Sim.sq (p1 := 58) (s_getr (rfl : vwCl[5]? = some (RX5, TX5, 11)) (by decide) (by decide) inG5 kw233 rfl dX5_difference_55) ?_
  refine Sim.sq (p1 := 59) (s_aload_n rfl dX5_difference_58) ?_
  refine Sim.sq (p1 := 62) (s_getr (rfl : vwCl[5]? = some (RX5, TX5, 11)) (by decide) (by decide) inG5 kw231 rfl dX5_difference_59) ?_
  refine Sim.sq (p1 := 63) (s_aload_n rfl dX5_difference_62) ?_
  refine Sim.sq (p1 := 66) (s_getr (rfl : vwCl[5]? = some (RX5, TX5, 11)) (by decide) (by decide) inG5 kw236 rfl dX5_difference_63) ?_
  refine Sim.sq (p1 := 67) (s_iload_n rfl dX5_difference_66) ?_
  refine Sim.sq (p1 := 68) (s_iald dX5_difference_67) ?_
  refine Sim.sq (p1 := 71) (s_callV (C_X3_read l) (rfl : vwCl[3]? = some (RX3, TX3, 8)) (by decide) kw458 kw459 kw460 kw55 kw461 ⟨rfl, by decide +kernel, by decide +kernel, by decide +kernel⟩ ⟨by decide, by decide⟩ shN3 dX5_difference_68) ?_
  refine Sim.sq (p1 := 72) (s_aload_n rfl dX5_difference_71) ?_
  refine Sim.sq (p1 := 75) (s_getr (rfl : vwCl[5]? = some (RX5, TX5, 11)) (by decide) (by decide) inG5 kw232 rfl dX5_difference_72) ?_
  refine Sim.sq (p1 := 76) (s_aload_n rfl dX5_difference_75) ?_
  refine Sim.sq (p1 := 79) (s_getr (rfl : vwCl[5]? = some (RX5, TX5, 11)) (by decide) (by decide) inG5 kw233 rfl dX5_difference_76) ?_
  refine Sim.sq (p1 := 82) (s_callV (C_X3_firstDifference l) (rfl : vwCl[3]? = some (RX3, TX3, 8)) (by decide) kw660 kw661 kw662 kw55 kw663 ⟨rfl, by decide +kernel, by decide +kernel, by decide +kernel⟩ ⟨by decide, by decide⟩ shN3 dX5_difference_79) ?_
  exact (s_iret rfl dX5_difference_82)
set_option maxRecDepth 100000 in
set_option maxHeartbeats 4000000 in
theorem C_X5_difference (l : Launch) : Ct l yX5_difference cX5_difference 2 (some .int) 3 75 m_X5_difference := Ct_of (y := yX5_difference) (by decide +kernel) S_X5_difference
set_option maxRecDepth 100000 in
set_option maxHeartbeats 4000000 in
theorem S_X6_difference {l : Launch} : Sim l (fun _ => True) RX6 "difference" cX6_difference 5 (some .int) 2 42 [] b_X6_difference 0 107 := by
  unfold b_X6_difference
  refine Sim.sq (p1 := 1) (s_iload_n rfl dX6_difference_0) ?_
  refine Sim.sq (p1 := 4) (s_callS (y := yX6_isVersion) (C_X6_isVersion l) kw1008 kw1009 kw59 kw1010 ⟨by decide +kernel, by decide +kernel, by decide +kernel⟩ ⟨by decide, by decide⟩ dX6_difference_1) ?_
  refine Sim.sq (p1 := 9) (Sim.bk ?_) ?_
  · refine Sim.sq (p1 := 7) (s_if_ne dX6_difference_4 (by decide) rfl) ?_
    refine Sim.sq (p1 := 8) (s_iconst (by decide +kernel) dX6_difference_7) ?_
    exact (s_iret rfl dX6_difference_8)
  refine Sim.sq (p1 := 10) (s_aload_n rfl dX6_difference_9) ?_
  refine Sim.sq (p1 := 13) (s_getr (rfl : vwCl[6]? = some (RX6, TX6, 12)) (by decide) (by decide) inG6 kw704 rfl dX6_difference_10) ?_
  refine Sim.sq (p1 := 14) (s_iload_n rfl dX6_difference_13) ?_
  refine Sim.sq (p1 := 15) (s_iald dX6_difference_14) ?_
  refine Sim.sq (p1 := 21) (Sim.bk ?_) ?_
  · refine Sim.sq (p1 := 18) (s_if_ne dX6_difference_15 (by decide) rfl) ?_
    refine Sim.sq (p1 := 20) (s_bipush (by decide +kernel) dX6_difference_18) ?_
    exact (s_iret rfl dX6_difference_20)
  refine Sim.sq (p1 := 22) (s_iconst (by decide +kernel) dX6_difference_21) ?_
  refine Sim.sq (p1 := 23) (s_iload_n rfl dX6_difference_22) ?_
  refine Sim.sq (p1 := 24) (s_iadd dX6_difference_23) ?_
  refine Sim.sq (p1 := 25) (s_istore_n rfl (by decide) dX6_difference_24) ?_
  refine Sim.sq (p1 := 26) (s_aload_n rfl dX6_difference_25) ?_
  refine Sim.sq (p1 := 27) (s_iconst (by decide +kernel) dX6_difference_26) ?_
  refine Sim.sq (p1 := 30) (s_callV (C_X6_lengthOf l) (rfl : vwCl[6]? = some (RX6, TX6, 12)) (by decide) kw768 kw770 kw19 kw59 kw771 ⟨rfl, by decide +kernel, by decide +kernel, by decide +kernel⟩ ⟨by decide, by decide⟩ shN6 dX6_difference_27) ?_
  refine Sim.sq (p1 := 31) (s_aload_n rfl dX6_difference_30) ?_
  refine Sim.sq (p1 := 32) (s_iload_n rfl dX6_difference_31) ?_
  refine Sim.sq (p1 := 35) (s_callV (C_X6_lengthOf l) (rfl : vwCl[6]? = some (RX6, TX6, 12)) (by decide) kw768 kw770 kw19 kw59 kw771 ⟨rfl, by decide +kernel, by decide +kernel, by decide +kernel⟩ ⟨by decide, by decide⟩ shN6 dX6_difference_32) ?_
  refine Sim.sq (p1 := 51) (Sim.bk ?_) ?_
  · refine Sim.sq (p1 := 46) (Sim.bk ?_) ?_
    · refine Sim.sq (p1 := 38) (s_icmp_ge dX6_difference_35 (by decide) rfl) ?_
      refine Sim.sq (p1 := 39) (s_aload_n rfl dX6_difference_38) ?_
      refine Sim.sq (p1 := 40) (s_iconst (by decide +kernel) dX6_difference_39) ?_
      refine Sim.sq (p1 := 43) (s_callV (C_X6_lengthOf l) (rfl : vwCl[6]? = some (RX6, TX6, 12)) (by decide) kw768 kw770 kw19 kw59 kw771 ⟨rfl, by decide +kernel, by decide +kernel, by decide +kernel⟩ ⟨by decide, by decide⟩ shN6 dX6_difference_40) ?_
      exact (s_goto dX6_difference_43 (by decide) rfl)
    refine Sim.sq (p1 := 47) (s_aload_n rfl dX6_difference_46) ?_
    refine Sim.sq (p1 := 48) (s_iload_n rfl dX6_difference_47) ?_
    exact (s_callV (C_X6_lengthOf l) (rfl : vwCl[6]? = some (RX6, TX6, 12)) (by decide) kw768 kw770 kw19 kw59 kw771 ⟨rfl, by decide +kernel, by decide +kernel, by decide +kernel⟩ ⟨by decide, by decide⟩ shN6 dX6_difference_48)
  refine Sim.sq (p1 := 52) (s_istore_n rfl (by decide) dX6_difference_51) ?_
  refine Sim.sq (p1 := 53) (s_iconst (by decide +kernel) dX6_difference_52) ?_
  refine Sim.sq (p1 := 55) (s_istore (by decide) dX6_difference_53) ?_
  refine Sim.sq (p1 := 87) (Sim.lp ?_) ?_
  · refine Sim.sq (p1 := 57) (s_iload dX6_difference_55) ?_
    refine Sim.sq (p1 := 58) (s_iload_n rfl dX6_difference_57) ?_
    refine Sim.bk ?_
    refine Sim.sq (p1 := 61) (s_icmp_ge dX6_difference_58 (by decide) rfl) ?_
    refine Sim.sq (p1 := 62) (s_aload_n rfl dX6_difference_61) ?_
    refine Sim.sq (p1 := 63) (s_iconst (by decide +kernel) dX6_difference_62) ?_
    refine Sim.sq (p1 := 65) (s_iload dX6_difference_63) ?_
    refine Sim.sq (p1 := 68) (s_callV (C_X6_characterOf l) (rfl : vwCl[6]? = some (RX6, TX6, 12)) (by decide) kw823 kw825 kw32 kw59 kw826 ⟨rfl, by decide +kernel, by decide +kernel, by decide +kernel⟩ ⟨by decide, by decide⟩ shN6 dX6_difference_65) ?_
    refine Sim.sq (p1 := 69) (s_aload_n rfl dX6_difference_68) ?_
    refine Sim.sq (p1 := 70) (s_iload_n rfl dX6_difference_69) ?_
    refine Sim.sq (p1 := 72) (s_iload dX6_difference_70) ?_
    refine Sim.sq (p1 := 75) (s_callV (C_X6_characterOf l) (rfl : vwCl[6]? = some (RX6, TX6, 12)) (by decide) kw823 kw825 kw32 kw59 kw826 ⟨rfl, by decide +kernel, by decide +kernel, by decide +kernel⟩ ⟨by decide, by decide⟩ shN6 dX6_difference_72) ?_
    refine Sim.sq (p1 := 81) (Sim.bk ?_) ?_
    · refine Sim.sq (p1 := 78) (s_icmp_eq dX6_difference_75 (by decide) rfl) ?_
      refine Sim.sq (p1 := 80) (s_iload dX6_difference_78) ?_
      exact (s_iret rfl dX6_difference_80)
    refine Sim.sq (p1 := 84) (s_iinc (by decide +kernel) (by decide) dX6_difference_81) ?_
    exact (s_goto dX6_difference_84 (by decide) rfl)
  refine Sim.sq (p1 := 88) (s_aload_n rfl dX6_difference_87) ?_
  refine Sim.sq (p1 := 89) (s_iconst (by decide +kernel) dX6_difference_88) ?_
  refine Sim.sq (p1 := 92) (s_callV (C_X6_lengthOf l) (rfl : vwCl[6]? = some (RX6, TX6, 12)) (by decide) kw768 kw770 kw19 kw59 kw771 ⟨rfl, by decide +kernel, by decide +kernel, by decide +kernel⟩ ⟨by decide, by decide⟩ shN6 dX6_difference_89) ?_
  refine Sim.sq (p1 := 93) (s_aload_n rfl dX6_difference_92) ?_
  refine Sim.sq (p1 := 94) (s_iload_n rfl dX6_difference_93) ?_
  refine Sim.sq (p1 := 97) (s_callV (C_X6_lengthOf l) (rfl : vwCl[6]? = some (RX6, TX6, 12)) (by decide) kw768 kw770 kw19 kw59 kw771 ⟨rfl, by decide +kernel, by decide +kernel, by decide +kernel⟩ ⟨by decide, by decide⟩ shN6 dX6_difference_94) ?_
  refine Sim.sq (p1 := 106) (Sim.bk ?_) ?_
  · refine Sim.sq (p1 := 105) (Sim.bk ?_) ?_
    · refine Sim.sq (p1 := 100) (s_icmp_ne dX6_difference_97 (by decide) rfl) ?_
      refine Sim.sq (p1 := 102) (s_bipush (by decide +kernel) dX6_difference_100) ?_
      exact (s_goto dX6_difference_102 (by decide) rfl)
    exact (s_iload_n rfl dX6_difference_105)
  exact (s_iret rfl dX6_difference_106)
set_option maxRecDepth 100000 in
set_option maxHeartbeats 4000000 in
theorem C_X6_difference (l : Launch) : Ct l yX6_difference cX6_difference 5 (some .int) 2 42 m_X6_difference := Ct_of (y := yX6_difference) (by decide +kernel) S_X6_difference
set_option maxRecDepth 100000 in
set_option maxHeartbeats 4000000 in
theorem S_X0_restore {l : Launch} : Sim l (fun _ => True) RX0 "restore" cX0_restore 3 (some .boolean) 2 221 [] b_X0_restore 0 41 := by
  unfold b_X0_restore
  refine Sim.sq (p1 := 1) (s_aload_n rfl dX0_restore_0) ?_
  refine Sim.sq (p1 := 2) (s_aload_n rfl dX0_restore_1) ?_
  refine Sim.sq (p1 := 5) (s_geti (rfl : vwCl[0]? = some (RX0, TX0, 3)) (by decide) (by decide) inG0 kw221 rfl dX0_restore_2) ?_
  refine Sim.sq (p1 := 6) (s_iconst (by decide +kernel) dX0_restore_5) ?_
  refine Sim.sq (p1 := 7) (s_isub dX0_restore_6) ?_
  refine Sim.sq (p1 := 10) (s_callV (C_X0_savedState l) (rfl : vwCl[0]? = some (RX0, TX0, 3)) (by decide) kw272 kw273 kw274 kw58 kw275 ⟨rfl, by decide +kernel, by decide +kernel, by decide +kernel⟩ ⟨by decide, by decide⟩ shN0 dX0_restore_7) ?_
  refine Sim.sq (p1 := 11) (s_astore_n rfl (by decide) dX0_restore_10) ?_
  refine Sim.sq (p1 := 12) (s_aload_n rfl dX0_restore_11) ?_
  refine Sim.sq (p1 := 15) (s_geti (rfl : vwCl[0]? = some (RX0, TX0, 3)) (by decide) (by decide) inG0 kw221 rfl dX0_restore_12) ?_
  refine Sim.sq (p1 := 24) (Sim.bk ?_) ?_
  · refine Sim.sq (p1 := 22) (Sim.bk ?_) ?_
    · refine Sim.sq (p1 := 18) (s_if_eq dX0_restore_15 (by decide) rfl) ?_
      refine Sim.sq (p1 := 19) (s_aload_n rfl dX0_restore_18) ?_
      exact (s_ifnonnull dX0_restore_19 (by decide) rfl)
    refine Sim.sq (p1 := 23) (s_iconst (by decide +kernel) dX0_restore_22) ?_
    exact (s_zret rfl dX0_restore_23)
  refine Sim.sq (p1 := 25) (s_aload_n rfl dX0_restore_24) ?_
  refine Sim.sq (p1 := 26) (s_aload_n rfl dX0_restore_25) ?_
  refine Sim.sq (p1 := 29) (s_callV (C_X2_takeFrom l) (rfl : vwCl[2]? = some (RX2, TX2, 7)) (by decide) kw279 kw280 kw281 kw56 kw282 ⟨rfl, by decide +kernel, by decide +kernel, by decide +kernel⟩ ⟨by decide, by decide⟩ shN2 dX0_restore_26) ?_
  refine Sim.sq (p1 := 30) (s_aload_n rfl dX0_restore_29) ?_
  refine Sim.sq (p1 := 31) (s_dup dX0_restore_30) ?_
  refine Sim.sq (p1 := 34) (s_geti (rfl : vwCl[0]? = some (RX0, TX0, 3)) (by decide) (by decide) inG0 kw221 rfl dX0_restore_31) ?_
  refine Sim.sq (p1 := 35) (s_iconst (by decide +kernel) dX0_restore_34) ?_
  refine Sim.sq (p1 := 36) (s_isub dX0_restore_35) ?_
  refine Sim.sq (p1 := 39) (s_puti (rfl : vwCl[0]? = some (RX0, TX0, 3)) (by decide) (by decide) inG0 kw221 rfl tyX0 tyX0_ok nmX0 rfl (by decide +kernel) dX0_restore_36) ?_
  refine Sim.sq (p1 := 40) (s_iconst (by decide +kernel) dX0_restore_39) ?_
  exact (s_zret rfl dX0_restore_40)
set_option maxRecDepth 100000 in
set_option maxHeartbeats 4000000 in
theorem C_X0_restore (l : Launch) : Ct l yX0_restore cX0_restore 3 (some .boolean) 2 221 m_X0_restore := Ct_of (y := yX0_restore) (by decide +kernel) S_X0_restore
set_option maxRecDepth 100000 in
set_option maxHeartbeats 4000000 in
theorem S_X5_undo {l : Launch} : Sim l (fun _ => True) RX5 "undo" cX5_undo 1 (some .int) 3 243 [] b_X5_undo 0 27 := by
  unfold b_X5_undo
  refine Sim.sq (p1 := 1) (s_aload_n rfl dX5_undo_0) ?_
  refine Sim.sq (p1 := 4) (s_getr (rfl : vwCl[5]? = some (RX5, TX5, 11)) (by decide) (by decide) inG5 kw235 rfl dX5_undo_1) ?_
  refine Sim.sq (p1 := 5) (s_aload_n rfl dX5_undo_4) ?_
  refine Sim.sq (p1 := 8) (s_getr (rfl : vwCl[5]? = some (RX5, TX5, 11)) (by decide) (by decide) inG5 kw234 rfl dX5_undo_5) ?_
  refine Sim.sq (p1 := 11) (s_callV (C_X0_restore l) (rfl : vwCl[0]? = some (RX0, TX0, 3)) (by decide) kw669 kw670 kw671 kw58 kw672 ⟨rfl, by decide +kernel, by decide +kernel, by decide +kernel⟩ ⟨by decide, by decide⟩ shN0 dX5_undo_8) ?_
  refine Sim.sq (p1 := 26) (Sim.bk ?_) ?_
  · refine Sim.sq (p1 := 24) (Sim.bk ?_) ?_
    · refine Sim.sq (p1 := 14) (s_if_eq dX5_undo_11 (by decide) rfl) ?_
      refine Sim.sq (p1 := 15) (s_aload_n rfl dX5_undo_14) ?_
      refine Sim.sq (p1 := 18) (s_getr (rfl : vwCl[5]? = some (RX5, TX5, 11)) (by decide) (by decide) inG5 kw235 rfl dX5_undo_15) ?_
      refine Sim.sq (p1 := 21) (s_getiN (rfl : vwCl[0]? = some (RX0, TX0, 3)) (by decide) (by decide) inG0 kn222 rfl dX5_undo_18) ?_
      exact (s_goto dX5_undo_21 (by decide) rfl)
    exact (s_bipush (by decide +kernel) dX5_undo_24)
  exact (s_iret rfl dX5_undo_26)
set_option maxRecDepth 100000 in
set_option maxHeartbeats 4000000 in
theorem C_X5_undo (l : Launch) : Ct l yX5_undo cX5_undo 1 (some .int) 3 243 m_X5_undo := Ct_of (y := yX5_undo) (by decide +kernel) S_X5_undo
set_option maxRecDepth 100000 in
set_option maxHeartbeats 4000000 in
theorem S_X6_undo {l : Launch} : Sim l (fun _ => True) RX6 "undo" cX6_undo 2 (some .int) 0 0 [] b_X6_undo 0 100 := by
  unfold b_X6_undo
  refine Sim.sq (p1 := 1) (s_aload_n rfl dX6_undo_0) ?_
  refine Sim.sq (p1 := 4) (s_geti (rfl : vwCl[6]? = some (RX6, TX6, 12)) (by decide) (by decide) inG6 kw703 rfl dX6_undo_1) ?_
  refine Sim.sq (p1 := 10) (Sim.bk ?_) ?_
  · refine Sim.sq (p1 := 7) (s_if_ne dX6_undo_4 (by decide) rfl) ?_
    refine Sim.sq (p1 := 9) (s_bipush (by decide +kernel) dX6_undo_7) ?_
    exact (s_iret rfl dX6_undo_9)
  refine Sim.sq (p1 := 11) (s_aload_n rfl dX6_undo_10) ?_
  refine Sim.sq (p1 := 12) (s_dup dX6_undo_11) ?_
  refine Sim.sq (p1 := 15) (s_geti (rfl : vwCl[6]? = some (RX6, TX6, 12)) (by decide) (by decide) inG6 kw703 rfl dX6_undo_12) ?_
  refine Sim.sq (p1 := 16) (s_iconst (by decide +kernel) dX6_undo_15) ?_
  refine Sim.sq (p1 := 17) (s_isub dX6_undo_16) ?_
  refine Sim.sq (p1 := 20) (s_puti (rfl : vwCl[6]? = some (RX6, TX6, 12)) (by decide) (by decide) inG6 kw703 rfl tyX6 tyX6_ok nmX6 rfl (by decide +kernel) dX6_undo_17) ?_
  refine Sim.sq (p1 := 21) (s_iconst (by decide +kernel) dX6_undo_20) ?_
  refine Sim.sq (p1 := 22) (s_istore_n rfl (by decide) dX6_undo_21) ?_
  refine Sim.sq (p1 := 56) (Sim.lp ?_) ?_
  · refine Sim.sq (p1 := 23) (s_iload_n rfl dX6_undo_22) ?_
    refine Sim.sq (p1 := 26) (s_sipush (by decide +kernel) dX6_undo_23) ?_
    refine Sim.bk ?_
    refine Sim.sq (p1 := 29) (s_icmp_ge dX6_undo_26 (by decide) rfl) ?_
    refine Sim.sq (p1 := 30) (s_aload_n rfl dX6_undo_29) ?_
    refine Sim.sq (p1 := 33) (s_getr (rfl : vwCl[6]? = some (RX6, TX6, 12)) (by decide) (by decide) inG6 kw700 rfl dX6_undo_30) ?_
    refine Sim.sq (p1 := 34) (s_iload_n rfl dX6_undo_33) ?_
    refine Sim.sq (p1 := 35) (s_aload_n rfl dX6_undo_34) ?_
    refine Sim.sq (p1 := 38) (s_getr (rfl : vwCl[6]? = some (RX6, TX6, 12)) (by decide) (by decide) inG6 kw702 rfl dX6_undo_35) ?_
    refine Sim.sq (p1 := 39) (s_aload_n rfl dX6_undo_38) ?_
    refine Sim.sq (p1 := 42) (s_geti (rfl : vwCl[6]? = some (RX6, TX6, 12)) (by decide) (by decide) inG6 kw703 rfl dX6_undo_39) ?_
    refine Sim.sq (p1 := 45) (s_sipush (by decide +kernel) dX6_undo_42) ?_
    refine Sim.sq (p1 := 46) (s_imul dX6_undo_45) ?_
    refine Sim.sq (p1 := 47) (s_iload_n rfl dX6_undo_46) ?_
    refine Sim.sq (p1 := 48) (s_iadd dX6_undo_47) ?_
    refine Sim.sq (p1 := 49) (s_iald dX6_undo_48) ?_
    refine Sim.sq (p1 := 50) (s_iast dX6_undo_49) ?_
    refine Sim.sq (p1 := 53) (s_iinc (by decide +kernel) (by decide) dX6_undo_50) ?_
    exact (s_goto dX6_undo_53 (by decide) rfl)
  refine Sim.sq (p1 := 57) (s_iconst (by decide +kernel) dX6_undo_56) ?_
  refine Sim.sq (p1 := 58) (s_istore_n rfl (by decide) dX6_undo_57) ?_
  refine Sim.sq (p1 := 95) (Sim.lp ?_) ?_
  · refine Sim.sq (p1 := 59) (s_iload_n rfl dX6_undo_58) ?_
    refine Sim.sq (p1 := 61) (s_bipush (by decide +kernel) dX6_undo_59) ?_
    refine Sim.bk ?_
    refine Sim.sq (p1 := 64) (s_icmp_ge dX6_undo_61 (by decide) rfl) ?_
    refine Sim.sq (p1 := 65) (s_aload_n rfl dX6_undo_64) ?_
    refine Sim.sq (p1 := 68) (s_getr (rfl : vwCl[6]? = some (RX6, TX6, 12)) (by decide) (by decide) inG6 kw701 rfl dX6_undo_65) ?_
    refine Sim.sq (p1 := 69) (s_iload_n rfl dX6_undo_68) ?_
    refine Sim.sq (p1 := 70) (s_aload_n rfl dX6_undo_69) ?_
    refine Sim.sq (p1 := 73) (s_getr (rfl : vwCl[6]? = some (RX6, TX6, 12)) (by decide) (by decide) inG6 kw702 rfl dX6_undo_70) ?_
    refine Sim.sq (p1 := 74) (s_aload_n rfl dX6_undo_73) ?_
    refine Sim.sq (p1 := 77) (s_geti (rfl : vwCl[6]? = some (RX6, TX6, 12)) (by decide) (by decide) inG6 kw703 rfl dX6_undo_74) ?_
    refine Sim.sq (p1 := 80) (s_sipush (by decide +kernel) dX6_undo_77) ?_
    refine Sim.sq (p1 := 81) (s_imul dX6_undo_80) ?_
    refine Sim.sq (p1 := 84) (s_sipush (by decide +kernel) dX6_undo_81) ?_
    refine Sim.sq (p1 := 85) (s_iadd dX6_undo_84) ?_
    refine Sim.sq (p1 := 86) (s_iload_n rfl dX6_undo_85) ?_
    refine Sim.sq (p1 := 87) (s_iadd dX6_undo_86) ?_
    refine Sim.sq (p1 := 88) (s_iald dX6_undo_87) ?_
    refine Sim.sq (p1 := 89) (s_iast dX6_undo_88) ?_
    refine Sim.sq (p1 := 92) (s_iinc (by decide +kernel) (by decide) dX6_undo_89) ?_
    exact (s_goto dX6_undo_92 (by decide) rfl)
  refine Sim.sq (p1 := 96) (s_aload_n rfl dX6_undo_95) ?_
  refine Sim.sq (p1 := 99) (s_geti (rfl : vwCl[6]? = some (RX6, TX6, 12)) (by decide) (by decide) inG6 kw703 rfl dX6_undo_96) ?_
  exact (s_iret rfl dX6_undo_99)
set_option maxRecDepth 100000 in
set_option maxHeartbeats 4000000 in
theorem C_X6_undo (l : Launch) : Ct l yX6_undo cX6_undo 2 (some .int) 0 0 m_X6_undo := Ct_of (y := yX6_undo) (by decide +kernel) S_X6_undo
set_option maxRecDepth 100000 in
set_option maxHeartbeats 4000000 in
theorem S_X3_hashOfCodes {l : Launch} : Sim l (fun _ => True) RX3 "hashOfCodes" cX3_hashOfCodes 6 (some .long) 0 0 [] b_X3_hashOfCodes 0 47 := by
  unfold b_X3_hashOfCodes
  refine Sim.sq (p1 := 1) (s_lload_n rfl dX3_hashOfCodes_0) ?_
  refine Sim.sq (p1 := 2) (s_lstore_n rfl (by decide) dX3_hashOfCodes_1) ?_
  refine Sim.sq (p1 := 3) (s_iconst (by decide +kernel) dX3_hashOfCodes_2) ?_
  refine Sim.sq (p1 := 5) (s_istore (by decide) dX3_hashOfCodes_3) ?_
  refine Sim.sq (p1 := 45) (Sim.lp ?_) ?_
  · refine Sim.sq (p1 := 7) (s_iload dX3_hashOfCodes_5) ?_
    refine Sim.sq (p1 := 8) (s_aload_n rfl dX3_hashOfCodes_7) ?_
    refine Sim.sq (p1 := 11) (s_geti (rfl : vwCl[3]? = some (RX3, TX3, 8)) (by decide) (by decide) inG3 kw153 rfl dX3_hashOfCodes_8) ?_
    refine Sim.bk ?_
    refine Sim.sq (p1 := 14) (s_icmp_ge dX3_hashOfCodes_11 (by decide) rfl) ?_
    refine Sim.sq (p1 := 16) (s_iload dX3_hashOfCodes_14) ?_
    refine Sim.sq (p1 := 17) (s_aload_n rfl dX3_hashOfCodes_16) ?_
    refine Sim.sq (p1 := 20) (s_getr (rfl : vwCl[3]? = some (RX3, TX3, 8)) (by decide) (by decide) inG3 kw145 rfl dX3_hashOfCodes_17) ?_
    refine Sim.sq (p1 := 21) (s_alen dX3_hashOfCodes_20) ?_
    refine Sim.sq (p1 := 24) (s_icmp_ge dX3_hashOfCodes_21 (by decide) rfl) ?_
    refine Sim.sq (p1 := 27) (s_ldc2 kw685 dX3_hashOfCodes_24) ?_
    refine Sim.sq (p1 := 28) (s_lload_n rfl dX3_hashOfCodes_27) ?_
    refine Sim.sq (p1 := 29) (s_lmul dX3_hashOfCodes_28) ?_
    refine Sim.sq (p1 := 30) (s_aload_n rfl dX3_hashOfCodes_29) ?_
    refine Sim.sq (p1 := 33) (s_getr (rfl : vwCl[3]? = some (RX3, TX3, 8)) (by decide) (by decide) inG3 kw145 rfl dX3_hashOfCodes_30) ?_
    refine Sim.sq (p1 := 35) (s_iload dX3_hashOfCodes_33) ?_
    refine Sim.sq (p1 := 36) (s_iald dX3_hashOfCodes_35) ?_
    refine Sim.sq (p1 := 37) (s_i2l dX3_hashOfCodes_36) ?_
    refine Sim.sq (p1 := 38) (s_ladd dX3_hashOfCodes_37) ?_
    refine Sim.sq (p1 := 39) (s_lstore_n rfl (by decide) dX3_hashOfCodes_38) ?_
    refine Sim.sq (p1 := 42) (s_iinc (by decide +kernel) (by decide) dX3_hashOfCodes_39) ?_
    exact (s_goto dX3_hashOfCodes_42 (by decide) rfl)
  refine Sim.sq (p1 := 46) (s_lload_n rfl dX3_hashOfCodes_45) ?_
  exact (s_lret rfl dX3_hashOfCodes_46)
set_option maxRecDepth 100000 in
set_option maxHeartbeats 4000000 in
theorem C_X3_hashOfCodes (l : Launch) : Ct l yX3_hashOfCodes cX3_hashOfCodes 6 (some .long) 0 0 m_X3_hashOfCodes := Ct_of (y := yX3_hashOfCodes) (by decide +kernel) S_X3_hashOfCodes
set_option maxRecDepth 100000 in
set_option maxHeartbeats 4000000 in
theorem S_X5_hashOfRingRope {l : Launch} : Sim l (fun _ => True) RX5 "hashOfRingRope" cX5_hashOfRingRope 6 (some .long) 3 75 [] b_X5_hashOfRingRope 0 74 := by
  unfold b_X5_hashOfRingRope
  refine Sim.sq (p1 := 1) (s_aload_n rfl dX5_hashOfRingRope_0) ?_
  refine Sim.sq (p1 := 4) (s_getr (rfl : vwCl[5]? = some (RX5, TX5, 11)) (by decide) (by decide) inG5 kw232 rfl dX5_hashOfRingRope_1) ?_
  refine Sim.sq (p1 := 5) (s_aload_n rfl dX5_hashOfRingRope_4) ?_
  refine Sim.sq (p1 := 8) (s_getr (rfl : vwCl[5]? = some (RX5, TX5, 11)) (by decide) (by decide) inG5 kw231 rfl dX5_hashOfRingRope_5) ?_
  refine Sim.sq (p1 := 9) (s_iload_n rfl dX5_hashOfRingRope_8) ?_
  refine Sim.sq (p1 := 12) (s_callV (C_X3_read l) (rfl : vwCl[3]? = some (RX3, TX3, 8)) (by decide) kw458 kw459 kw460 kw55 kw461 ⟨rfl, by decide +kernel, by decide +kernel, by decide +kernel⟩ ⟨by decide, by decide⟩ shN3 dX5_hashOfRingRope_9) ?_
  refine Sim.sq (p1 := 15) (s_ldc2 kw678 dX5_hashOfRingRope_12) ?_
  refine Sim.sq (p1 := 16) (s_lload_n rfl dX5_hashOfRingRope_15) ?_
  refine Sim.sq (p1 := 17) (s_lmul dX5_hashOfRingRope_16) ?_
  refine Sim.sq (p1 := 18) (s_aload_n rfl dX5_hashOfRingRope_17) ?_
  refine Sim.sq (p1 := 21) (s_getr (rfl : vwCl[5]? = some (RX5, TX5, 11)) (by decide) (by decide) inG5 kw231 rfl dX5_hashOfRingRope_18) ?_
  refine Sim.sq (p1 := 22) (s_iload_n rfl dX5_hashOfRingRope_21) ?_
  refine Sim.sq (p1 := 25) (s_callV (C_X1_sizeOf l) (rfl : vwCl[1]? = some (RX1, TX1, 10)) (by decide) kw310 kw311 kw312 kw54 kw313 ⟨rfl, by decide +kernel, by decide +kernel, by decide +kernel⟩ ⟨by decide, by decide⟩ shN1 dX5_hashOfRingRope_22) ?_
  refine Sim.sq (p1 := 26) (s_i2l dX5_hashOfRingRope_25) ?_
  refine Sim.sq (p1 := 27) (s_ladd dX5_hashOfRingRope_26) ?_
  refine Sim.sq (p1 := 29) (s_lstore (by decide) dX5_hashOfRingRope_27) ?_
  refine Sim.sq (p1 := 32) (s_ldc2 kw678 dX5_hashOfRingRope_29) ?_
  refine Sim.sq (p1 := 34) (s_lload dX5_hashOfRingRope_32) ?_
  refine Sim.sq (p1 := 35) (s_lmul dX5_hashOfRingRope_34) ?_
  refine Sim.sq (p1 := 36) (s_aload_n rfl dX5_hashOfRingRope_35) ?_
  refine Sim.sq (p1 := 39) (s_getr (rfl : vwCl[5]? = some (RX5, TX5, 11)) (by decide) (by decide) inG5 kw231 rfl dX5_hashOfRingRope_36) ?_
  refine Sim.sq (p1 := 40) (s_iload_n rfl dX5_hashOfRingRope_39) ?_
  refine Sim.sq (p1 := 43) (s_callV (C_X1_heightOf l) (rfl : vwCl[1]? = some (RX1, TX1, 10)) (by decide) kw536 kw381 kw382 kw54 kw383 ⟨rfl, by decide +kernel, by decide +kernel, by decide +kernel⟩ ⟨by decide, by decide⟩ shN1 dX5_hashOfRingRope_40) ?_
  refine Sim.sq (p1 := 44) (s_i2l dX5_hashOfRingRope_43) ?_
  refine Sim.sq (p1 := 45) (s_ladd dX5_hashOfRingRope_44) ?_
  refine Sim.sq (p1 := 47) (s_lstore (by decide) dX5_hashOfRingRope_45) ?_
  refine Sim.sq (p1 := 50) (s_ldc2 kw678 dX5_hashOfRingRope_47) ?_
  refine Sim.sq (p1 := 52) (s_lload dX5_hashOfRingRope_50) ?_
  refine Sim.sq (p1 := 53) (s_lmul dX5_hashOfRingRope_52) ?_
  refine Sim.sq (p1 := 54) (s_aload_n rfl dX5_hashOfRingRope_53) ?_
  refine Sim.sq (p1 := 57) (s_getr (rfl : vwCl[5]? = some (RX5, TX5, 11)) (by decide) (by decide) inG5 kw232 rfl dX5_hashOfRingRope_54) ?_
  refine Sim.sq (p1 := 60) (s_getiN (rfl : vwCl[3]? = some (RX3, TX3, 8)) (by decide) (by decide) inG3 kn156 rfl dX5_hashOfRingRope_57) ?_
  refine Sim.sq (p1 := 61) (s_i2l dX5_hashOfRingRope_60) ?_
  refine Sim.sq (p1 := 62) (s_ladd dX5_hashOfRingRope_61) ?_
  refine Sim.sq (p1 := 64) (s_lstore (by decide) dX5_hashOfRingRope_62) ?_
  refine Sim.sq (p1 := 65) (s_aload_n rfl dX5_hashOfRingRope_64) ?_
  refine Sim.sq (p1 := 68) (s_getr (rfl : vwCl[5]? = some (RX5, TX5, 11)) (by decide) (by decide) inG5 kw232 rfl dX5_hashOfRingRope_65) ?_
  refine Sim.sq (p1 := 70) (s_lload dX5_hashOfRingRope_68) ?_
  refine Sim.sq (p1 := 73) (s_callV (C_X3_hashOfCodes l) (rfl : vwCl[3]? = some (RX3, TX3, 8)) (by decide) kw681 kw682 kw683 kw55 kw684 ⟨rfl, by decide +kernel, by decide +kernel, by decide +kernel⟩ ⟨by decide, by decide⟩ shN3 dX5_hashOfRingRope_70) ?_
  exact (s_lret rfl dX5_hashOfRingRope_73)
set_option maxRecDepth 100000 in
set_option maxHeartbeats 4000000 in
theorem C_X5_hashOfRingRope (l : Launch) : Ct l yX5_hashOfRingRope cX5_hashOfRingRope 6 (some .long) 3 75 m_X5_hashOfRingRope := Ct_of (y := yX5_hashOfRingRope) (by decide +kernel) S_X5_hashOfRingRope
set_option maxRecDepth 100000 in
set_option maxHeartbeats 4000000 in
theorem S_X5_digest {l : Launch} : Sim l (fun _ => True) RX5 "digest" cX5_digest 4 (some .long) 4 100 [] b_X5_digest 0 232 := by
  unfold b_X5_digest
  refine Sim.sq (p1 := 3) (s_ldc2 kw677 dX5_digest_0) ?_
  refine Sim.sq (p1 := 4) (s_lstore_n rfl (by decide) dX5_digest_3) ?_
  refine Sim.sq (p1 := 7) (s_ldc2 kw678 dX5_digest_4) ?_
  refine Sim.sq (p1 := 8) (s_lload_n rfl dX5_digest_7) ?_
  refine Sim.sq (p1 := 9) (s_lmul dX5_digest_8) ?_
  refine Sim.sq (p1 := 10) (s_aload_n rfl dX5_digest_9) ?_
  refine Sim.sq (p1 := 13) (s_callV (C_X5_length l) (rfl : vwCl[5]? = some (RX5, TX5, 11)) (by decide) kw306 kw307 kw308 kw52 kw309 ⟨rfl, by decide +kernel, by decide +kernel, by decide +kernel⟩ ⟨by decide, by decide⟩ shN5 dX5_digest_10) ?_
  refine Sim.sq (p1 := 14) (s_i2l dX5_digest_13) ?_
  refine Sim.sq (p1 := 15) (s_ladd dX5_digest_14) ?_
  refine Sim.sq (p1 := 16) (s_lstore_n rfl (by decide) dX5_digest_15) ?_
  refine Sim.sq (p1 := 19) (s_ldc2 kw678 dX5_digest_16) ?_
  refine Sim.sq (p1 := 20) (s_lload_n rfl dX5_digest_19) ?_
  refine Sim.sq (p1 := 21) (s_lmul dX5_digest_20) ?_
  refine Sim.sq (p1 := 22) (s_aload_n rfl dX5_digest_21) ?_
  refine Sim.sq (p1 := 25) (s_callV (C_X5_depth l) (rfl : vwCl[5]? = some (RX5, TX5, 11)) (by decide) kw532 kw533 kw534 kw52 kw535 ⟨rfl, by decide +kernel, by decide +kernel, by decide +kernel⟩ ⟨by decide, by decide⟩ shN5 dX5_digest_22) ?_
  refine Sim.sq (p1 := 26) (s_i2l dX5_digest_25) ?_
  refine Sim.sq (p1 := 27) (s_ladd dX5_digest_26) ?_
  refine Sim.sq (p1 := 28) (s_lstore_n rfl (by decide) dX5_digest_27) ?_
  refine Sim.sq (p1 := 31) (s_ldc2 kw678 dX5_digest_28) ?_
  refine Sim.sq (p1 := 32) (s_lload_n rfl dX5_digest_31) ?_
  refine Sim.sq (p1 := 33) (s_lmul dX5_digest_32) ?_
  refine Sim.sq (p1 := 34) (s_aload_n rfl dX5_digest_33) ?_
  refine Sim.sq (p1 := 37) (s_callV (C_X5_leaves l) (rfl : vwCl[5]? = some (RX5, TX5, 11)) (by decide) kw541 kw542 kw543 kw52 kw544 ⟨rfl, by decide +kernel, by decide +kernel, by decide +kernel⟩ ⟨by decide, by decide⟩ shN5 dX5_digest_34) ?_
  refine Sim.sq (p1 := 38) (s_i2l dX5_digest_37) ?_
  refine Sim.sq (p1 := 39) (s_ladd dX5_digest_38) ?_
  refine Sim.sq (p1 := 40) (s_lstore_n rfl (by decide) dX5_digest_39) ?_
  refine Sim.sq (p1 := 43) (s_ldc2 kw678 dX5_digest_40) ?_
  refine Sim.sq (p1 := 44) (s_lload_n rfl dX5_digest_43) ?_
  refine Sim.sq (p1 := 45) (s_lmul dX5_digest_44) ?_
  refine Sim.sq (p1 := 46) (s_aload_n rfl dX5_digest_45) ?_
  refine Sim.sq (p1 := 49) (s_callV (C_X5_isBalanced l) (rfl : vwCl[5]? = some (RX5, TX5, 11)) (by decide) kw679 kw549 kw550 kw52 kw551 ⟨rfl, by decide +kernel, by decide +kernel, by decide +kernel⟩ ⟨by decide, by decide⟩ shN5 dX5_digest_46) ?_
  refine Sim.sq (p1 := 50) (s_i2l dX5_digest_49) ?_
  refine Sim.sq (p1 := 51) (s_ladd dX5_digest_50) ?_
  refine Sim.sq (p1 := 52) (s_lstore_n rfl (by decide) dX5_digest_51) ?_
  refine Sim.sq (p1 := 55) (s_ldc2 kw678 dX5_digest_52) ?_
  refine Sim.sq (p1 := 56) (s_lload_n rfl dX5_digest_55) ?_
  refine Sim.sq (p1 := 57) (s_lmul dX5_digest_56) ?_
  refine Sim.sq (p1 := 58) (s_aload_n rfl dX5_digest_57) ?_
  refine Sim.sq (p1 := 61) (s_callV (C_X5_builds l) (rfl : vwCl[5]? = some (RX5, TX5, 11)) (by decide) kw680 kw553 kw554 kw52 kw555 ⟨rfl, by decide +kernel, by decide +kernel, by decide +kernel⟩ ⟨by decide, by decide⟩ shN5 dX5_digest_58) ?_
  refine Sim.sq (p1 := 62) (s_i2l dX5_digest_61) ?_
  refine Sim.sq (p1 := 63) (s_ladd dX5_digest_62) ?_
  refine Sim.sq (p1 := 64) (s_lstore_n rfl (by decide) dX5_digest_63) ?_
  refine Sim.sq (p1 := 65) (s_aload_n rfl dX5_digest_64) ?_
  refine Sim.sq (p1 := 68) (s_getr (rfl : vwCl[5]? = some (RX5, TX5, 11)) (by decide) (by decide) inG5 kw232 rfl dX5_digest_65) ?_
  refine Sim.sq (p1 := 69) (s_aload_n rfl dX5_digest_68) ?_
  refine Sim.sq (p1 := 72) (s_getr (rfl : vwCl[5]? = some (RX5, TX5, 11)) (by decide) (by decide) inG5 kw231 rfl dX5_digest_69) ?_
  refine Sim.sq (p1 := 73) (s_aload_n rfl dX5_digest_72) ?_
  refine Sim.sq (p1 := 76) (s_getr (rfl : vwCl[5]? = some (RX5, TX5, 11)) (by decide) (by decide) inG5 kw234 rfl dX5_digest_73) ?_
  refine Sim.sq (p1 := 79) (s_getiN (rfl : vwCl[2]? = some (RX2, TX2, 7)) (by decide) (by decide) inG2 kn192 rfl dX5_digest_76) ?_
  refine Sim.sq (p1 := 82) (s_callV (C_X3_read l) (rfl : vwCl[3]? = some (RX3, TX3, 8)) (by decide) kw458 kw459 kw460 kw55 kw461 ⟨rfl, by decide +kernel, by decide +kernel, by decide +kernel⟩ ⟨by decide, by decide⟩ shN3 dX5_digest_79) ?_
  refine Sim.sq (p1 := 83) (s_iconst (by decide +kernel) dX5_digest_82) ?_
  refine Sim.sq (p1 := 84) (s_istore_n rfl (by decide) dX5_digest_83) ?_
  refine Sim.sq (p1 := 133) (Sim.lp ?_) ?_
  · refine Sim.sq (p1 := 85) (s_iload_n rfl dX5_digest_84) ?_
    refine Sim.sq (p1 := 86) (s_aload_n rfl dX5_digest_85) ?_
    refine Sim.sq (p1 := 89) (s_getr (rfl : vwCl[5]? = some (RX5, TX5, 11)) (by decide) (by decide) inG5 kw232 rfl dX5_digest_86) ?_
    refine Sim.sq (p1 := 92) (s_getiN (rfl : vwCl[3]? = some (RX3, TX3, 8)) (by decide) (by decide) inG3 kn156 rfl dX5_digest_89) ?_
    refine Sim.bk ?_
    refine Sim.sq (p1 := 95) (s_icmp_ge dX5_digest_92 (by decide) rfl) ?_
    refine Sim.sq (p1 := 98) (s_ldc2 kw678 dX5_digest_95) ?_
    refine Sim.sq (p1 := 99) (s_lload_n rfl dX5_digest_98) ?_
    refine Sim.sq (p1 := 100) (s_lmul dX5_digest_99) ?_
    refine Sim.sq (p1 := 101) (s_aload_n rfl dX5_digest_100) ?_
    refine Sim.sq (p1 := 104) (s_getr (rfl : vwCl[5]? = some (RX5, TX5, 11)) (by decide) (by decide) inG5 kw232 rfl dX5_digest_101) ?_
    refine Sim.sq (p1 := 105) (s_iload_n rfl dX5_digest_104) ?_
    refine Sim.sq (p1 := 108) (s_callV (C_X3_sizeOfLeaf l) (rfl : vwCl[3]? = some (RX3, TX3, 8)) (by decide) kw573 kw574 kw575 kw55 kw576 ⟨rfl, by decide +kernel, by decide +kernel, by decide +kernel⟩ ⟨by decide, by decide⟩ shN3 dX5_digest_105) ?_
    refine Sim.sq (p1 := 109) (s_i2l dX5_digest_108) ?_
    refine Sim.sq (p1 := 110) (s_ladd dX5_digest_109) ?_
    refine Sim.sq (p1 := 111) (s_lstore_n rfl (by decide) dX5_digest_110) ?_
    refine Sim.sq (p1 := 114) (s_ldc2 kw678 dX5_digest_111) ?_
    refine Sim.sq (p1 := 115) (s_lload_n rfl dX5_digest_114) ?_
    refine Sim.sq (p1 := 116) (s_lmul dX5_digest_115) ?_
    refine Sim.sq (p1 := 117) (s_aload_n rfl dX5_digest_116) ?_
    refine Sim.sq (p1 := 120) (s_getr (rfl : vwCl[5]? = some (RX5, TX5, 11)) (by decide) (by decide) inG5 kw232 rfl dX5_digest_117) ?_
    refine Sim.sq (p1 := 121) (s_iload_n rfl dX5_digest_120) ?_
    refine Sim.sq (p1 := 124) (s_callV (C_X3_levelOfLeaf l) (rfl : vwCl[3]? = some (RX3, TX3, 8)) (by decide) kw578 kw579 kw580 kw55 kw581 ⟨rfl, by decide +kernel, by decide +kernel, by decide +kernel⟩ ⟨by decide, by decide⟩ shN3 dX5_digest_121) ?_
    refine Sim.sq (p1 := 125) (s_i2l dX5_digest_124) ?_
    refine Sim.sq (p1 := 126) (s_ladd dX5_digest_125) ?_
    refine Sim.sq (p1 := 127) (s_lstore_n rfl (by decide) dX5_digest_126) ?_
    refine Sim.sq (p1 := 130) (s_iinc (by decide +kernel) (by decide) dX5_digest_127) ?_
    exact (s_goto dX5_digest_130 (by decide) rfl)
  refine Sim.sq (p1 := 134) (s_aload_n rfl dX5_digest_133) ?_
  refine Sim.sq (p1 := 137) (s_getr (rfl : vwCl[5]? = some (RX5, TX5, 11)) (by decide) (by decide) inG5 kw232 rfl dX5_digest_134) ?_
  refine Sim.sq (p1 := 138) (s_lload_n rfl dX5_digest_137) ?_
  refine Sim.sq (p1 := 141) (s_callV (C_X3_hashOfCodes l) (rfl : vwCl[3]? = some (RX3, TX3, 8)) (by decide) kw681 kw682 kw683 kw55 kw684 ⟨rfl, by decide +kernel, by decide +kernel, by decide +kernel⟩ ⟨by decide, by decide⟩ shN3 dX5_digest_138) ?_
  refine Sim.sq (p1 := 142) (s_lstore_n rfl (by decide) dX5_digest_141) ?_
  refine Sim.sq (p1 := 145) (s_ldc2 kw678 dX5_digest_142) ?_
  refine Sim.sq (p1 := 146) (s_lload_n rfl dX5_digest_145) ?_
  refine Sim.sq (p1 := 147) (s_lmul dX5_digest_146) ?_
  refine Sim.sq (p1 := 148) (s_aload_n rfl dX5_digest_147) ?_
  refine Sim.sq (p1 := 151) (s_callV (C_X5_lines l) (rfl : vwCl[5]? = some (RX5, TX5, 11)) (by decide) kw686 kw597 kw598 kw52 kw599 ⟨rfl, by decide +kernel, by decide +kernel, by decide +kernel⟩ ⟨by decide, by decide⟩ shN5 dX5_digest_148) ?_
  refine Sim.sq (p1 := 152) (s_i2l dX5_digest_151) ?_
  refine Sim.sq (p1 := 153) (s_ladd dX5_digest_152) ?_
  refine Sim.sq (p1 := 154) (s_lstore_n rfl (by decide) dX5_digest_153) ?_
  refine Sim.sq (p1 := 155) (s_iconst (by decide +kernel) dX5_digest_154) ?_
  refine Sim.sq (p1 := 156) (s_istore_n rfl (by decide) dX5_digest_155) ?_
  refine Sim.sq (p1 := 180) (Sim.lp ?_) ?_
  · refine Sim.sq (p1 := 157) (s_iload_n rfl dX5_digest_156) ?_
    refine Sim.sq (p1 := 158) (s_iconst (by decide +kernel) dX5_digest_157) ?_
    refine Sim.bk ?_
    refine Sim.sq (p1 := 161) (s_icmp_ge dX5_digest_158 (by decide) rfl) ?_
    refine Sim.sq (p1 := 164) (s_ldc2 kw678 dX5_digest_161) ?_
    refine Sim.sq (p1 := 165) (s_lload_n rfl dX5_digest_164) ?_
    refine Sim.sq (p1 := 166) (s_lmul dX5_digest_165) ?_
    refine Sim.sq (p1 := 167) (s_aload_n rfl dX5_digest_166) ?_
    refine Sim.sq (p1 := 168) (s_iload_n rfl dX5_digest_167) ?_
    refine Sim.sq (p1 := 171) (s_callV (C_X5_mark l) (rfl : vwCl[5]? = some (RX5, TX5, 11)) (by decide) kw687 kw629 kw630 kw52 kw631 ⟨rfl, by decide +kernel, by decide +kernel, by decide +kernel⟩ ⟨by decide, by decide⟩ shN5 dX5_digest_168) ?_
    refine Sim.sq (p1 := 172) (s_i2l dX5_digest_171) ?_
    refine Sim.sq (p1 := 173) (s_ladd dX5_digest_172) ?_
    refine Sim.sq (p1 := 174) (s_lstore_n rfl (by decide) dX5_digest_173) ?_
    refine Sim.sq (p1 := 177) (s_iinc (by decide +kernel) (by decide) dX5_digest_174) ?_
    exact (s_goto dX5_digest_177 (by decide) rfl)
  refine Sim.sq (p1 := 183) (s_ldc2 kw678 dX5_digest_180) ?_
  refine Sim.sq (p1 := 184) (s_lload_n rfl dX5_digest_183) ?_
  refine Sim.sq (p1 := 185) (s_lmul dX5_digest_184) ?_
  refine Sim.sq (p1 := 186) (s_aload_n rfl dX5_digest_185) ?_
  refine Sim.sq (p1 := 189) (s_callV (C_X5_ring l) (rfl : vwCl[5]? = some (RX5, TX5, 11)) (by decide) kw688 kw633 kw634 kw52 kw635 ⟨rfl, by decide +kernel, by decide +kernel, by decide +kernel⟩ ⟨by decide, by decide⟩ shN5 dX5_digest_186) ?_
  refine Sim.sq (p1 := 190) (s_i2l dX5_digest_189) ?_
  refine Sim.sq (p1 := 191) (s_ladd dX5_digest_190) ?_
  refine Sim.sq (p1 := 192) (s_lstore_n rfl (by decide) dX5_digest_191) ?_
  refine Sim.sq (p1 := 193) (s_iconst (by decide +kernel) dX5_digest_192) ?_
  refine Sim.sq (p1 := 194) (s_istore_n rfl (by decide) dX5_digest_193) ?_
  refine Sim.sq (p1 := 230) (Sim.lp ?_) ?_
  · refine Sim.sq (p1 := 195) (s_iload_n rfl dX5_digest_194) ?_
    refine Sim.sq (p1 := 196) (s_aload_n rfl dX5_digest_195) ?_
    refine Sim.sq (p1 := 199) (s_getr (rfl : vwCl[5]? = some (RX5, TX5, 11)) (by decide) (by decide) inG5 kw234 rfl dX5_digest_196) ?_
    refine Sim.sq (p1 := 202) (s_getiN (rfl : vwCl[2]? = some (RX2, TX2, 7)) (by decide) (by decide) inG2 kn186 rfl dX5_digest_199) ?_
    refine Sim.bk ?_
    refine Sim.sq (p1 := 205) (s_icmp_ge dX5_digest_202 (by decide) rfl) ?_
    refine Sim.sq (p1 := 206) (s_iload_n rfl dX5_digest_205) ?_
    refine Sim.sq (p1 := 207) (s_iconst (by decide +kernel) dX5_digest_206) ?_
    refine Sim.sq (p1 := 210) (s_icmp_ge dX5_digest_207 (by decide) rfl) ?_
    refine Sim.sq (p1 := 211) (s_aload_n rfl dX5_digest_210) ?_
    refine Sim.sq (p1 := 212) (s_lload_n rfl dX5_digest_211) ?_
    refine Sim.sq (p1 := 213) (s_aload_n rfl dX5_digest_212) ?_
    refine Sim.sq (p1 := 216) (s_getr (rfl : vwCl[5]? = some (RX5, TX5, 11)) (by decide) (by decide) inG5 kw234 rfl dX5_digest_213) ?_
    refine Sim.sq (p1 := 217) (s_iload_n rfl dX5_digest_216) ?_
    refine Sim.sq (p1 := 220) (s_callV (C_X2_ropeOfRing l) (rfl : vwCl[2]? = some (RX2, TX2, 7)) (by decide) kw335 kw336 kw337 kw56 kw338 ⟨rfl, by decide +kernel, by decide +kernel, by decide +kernel⟩ ⟨by decide, by decide⟩ shN2 dX5_digest_217) ?_
    refine Sim.sq (p1 := 223) (s_callV (C_X5_hashOfRingRope l) (rfl : vwCl[5]? = some (RX5, TX5, 11)) (by decide) kw689 kw691 kw16 kw52 kw692 ⟨rfl, by decide +kernel, by decide +kernel, by decide +kernel⟩ ⟨by decide, by decide⟩ shN5 dX5_digest_220) ?_
    refine Sim.sq (p1 := 224) (s_lstore_n rfl (by decide) dX5_digest_223) ?_
    refine Sim.sq (p1 := 227) (s_iinc (by decide +kernel) (by decide) dX5_digest_224) ?_
    exact (s_goto dX5_digest_227 (by decide) rfl)
  refine Sim.sq (p1 := 231) (s_lload_n rfl dX5_digest_230) ?_
  exact (s_lret rfl dX5_digest_231)
set_option maxRecDepth 100000 in
set_option maxHeartbeats 4000000 in
theorem C_X5_digest (l : Launch) : Ct l yX5_digest cX5_digest 4 (some .long) 4 100 m_X5_digest := Ct_of (y := yX5_digest) (by decide +kernel) S_X5_digest
set_option maxRecDepth 100000 in
set_option maxHeartbeats 4000000 in
theorem S_X6_digest {l : Launch} : Sim l (fun _ => True) RX6 "digest" cX6_digest 5 (some .long) 3 70 [] b_X6_digest 0 310 := by
  unfold b_X6_digest
  refine Sim.sq (p1 := 3) (s_ldc2 kw1027 dX6_digest_0) ?_
  refine Sim.sq (p1 := 4) (s_lstore_n rfl (by decide) dX6_digest_3) ?_
  refine Sim.sq (p1 := 7) (s_ldc2 kw1028 dX6_digest_4) ?_
  refine Sim.sq (p1 := 8) (s_lload_n rfl dX6_digest_7) ?_
  refine Sim.sq (p1 := 9) (s_lmul dX6_digest_8) ?_
  refine Sim.sq (p1 := 10) (s_aload_n rfl dX6_digest_9) ?_
  refine Sim.sq (p1 := 11) (s_iconst (by decide +kernel) dX6_digest_10) ?_
  refine Sim.sq (p1 := 14) (s_callV (C_X6_lengthOf l) (rfl : vwCl[6]? = some (RX6, TX6, 12)) (by decide) kw768 kw770 kw19 kw59 kw771 ⟨rfl, by decide +kernel, by decide +kernel, by decide +kernel⟩ ⟨by decide, by decide⟩ shN6 dX6_digest_11) ?_
  refine Sim.sq (p1 := 15) (s_i2l dX6_digest_14) ?_
  refine Sim.sq (p1 := 16) (s_ladd dX6_digest_15) ?_
  refine Sim.sq (p1 := 17) (s_lstore_n rfl (by decide) dX6_digest_16) ?_
  refine Sim.sq (p1 := 20) (s_ldc2 kw1028 dX6_digest_17) ?_
  refine Sim.sq (p1 := 21) (s_lload_n rfl dX6_digest_20) ?_
  refine Sim.sq (p1 := 22) (s_lmul dX6_digest_21) ?_
  refine Sim.sq (p1 := 23) (s_aload_n rfl dX6_digest_22) ?_
  refine Sim.sq (p1 := 24) (s_iconst (by decide +kernel) dX6_digest_23) ?_
  refine Sim.sq (p1 := 27) (s_callV (C_X6_depthOf l) (rfl : vwCl[6]? = some (RX6, TX6, 12)) (by decide) kw859 kw861 kw41 kw59 kw862 ⟨rfl, by decide +kernel, by decide +kernel, by decide +kernel⟩ ⟨by decide, by decide⟩ shN6 dX6_digest_24) ?_
  refine Sim.sq (p1 := 28) (s_i2l dX6_digest_27) ?_
  refine Sim.sq (p1 := 29) (s_ladd dX6_digest_28) ?_
  refine Sim.sq (p1 := 30) (s_lstore_n rfl (by decide) dX6_digest_29) ?_
  refine Sim.sq (p1 := 33) (s_ldc2 kw1028 dX6_digest_30) ?_
  refine Sim.sq (p1 := 34) (s_lload_n rfl dX6_digest_33) ?_
  refine Sim.sq (p1 := 35) (s_lmul dX6_digest_34) ?_
  refine Sim.sq (p1 := 36) (s_aload_n rfl dX6_digest_35) ?_
  refine Sim.sq (p1 := 37) (s_iconst (by decide +kernel) dX6_digest_36) ?_
  refine Sim.sq (p1 := 40) (s_callV (C_X6_many l) (rfl : vwCl[6]? = some (RX6, TX6, 12)) (by decide) kw788 kw790 kw24 kw59 kw791 ⟨rfl, by decide +kernel, by decide +kernel, by decide +kernel⟩ ⟨by decide, by decide⟩ shN6 dX6_digest_37) ?_
  refine Sim.sq (p1 := 41) (s_i2l dX6_digest_40) ?_
  refine Sim.sq (p1 := 42) (s_ladd dX6_digest_41) ?_
  refine Sim.sq (p1 := 43) (s_lstore_n rfl (by decide) dX6_digest_42) ?_
  refine Sim.sq (p1 := 46) (s_ldc2 kw1028 dX6_digest_43) ?_
  refine Sim.sq (p1 := 47) (s_lload_n rfl dX6_digest_46) ?_
  refine Sim.sq (p1 := 48) (s_lmul dX6_digest_47) ?_
  refine Sim.sq (p1 := 49) (s_aload_n rfl dX6_digest_48) ?_
  refine Sim.sq (p1 := 50) (s_iconst (by decide +kernel) dX6_digest_49) ?_
  refine Sim.sq (p1 := 53) (s_callV (C_X6_hasEnough l) (rfl : vwCl[6]? = some (RX6, TX6, 12)) (by decide) kw855 kw857 kw40 kw59 kw858 ⟨rfl, by decide +kernel, by decide +kernel, by decide +kernel⟩ ⟨by decide, by decide⟩ shN6 dX6_digest_50) ?_
  refine Sim.sq (p1 := 61) (Sim.bk ?_) ?_
  · refine Sim.sq (p1 := 60) (Sim.bk ?_) ?_
    · refine Sim.sq (p1 := 56) (s_if_eq dX6_digest_53 (by decide) rfl) ?_
      refine Sim.sq (p1 := 57) (s_iconst (by decide +kernel) dX6_digest_56) ?_
      exact (s_goto dX6_digest_57 (by decide) rfl)
    exact (s_iconst (by decide +kernel) dX6_digest_60)
  refine Sim.sq (p1 := 62) (s_i2l dX6_digest_61) ?_
  refine Sim.sq (p1 := 63) (s_ladd dX6_digest_62) ?_
  refine Sim.sq (p1 := 64) (s_lstore_n rfl (by decide) dX6_digest_63) ?_
  refine Sim.sq (p1 := 67) (s_ldc2 kw1028 dX6_digest_64) ?_
  refine Sim.sq (p1 := 68) (s_lload_n rfl dX6_digest_67) ?_
  refine Sim.sq (p1 := 69) (s_lmul dX6_digest_68) ?_
  refine Sim.sq (p1 := 70) (s_aload_n rfl dX6_digest_69) ?_
  refine Sim.sq (p1 := 73) (s_getr (rfl : vwCl[6]? = some (RX6, TX6, 12)) (by decide) (by decide) inG6 kw701 rfl dX6_digest_70) ?_
  refine Sim.sq (p1 := 74) (s_iconst (by decide +kernel) dX6_digest_73) ?_
  refine Sim.sq (p1 := 75) (s_iald dX6_digest_74) ?_
  refine Sim.sq (p1 := 76) (s_i2l dX6_digest_75) ?_
  refine Sim.sq (p1 := 77) (s_ladd dX6_digest_76) ?_
  refine Sim.sq (p1 := 78) (s_lstore_n rfl (by decide) dX6_digest_77) ?_
  refine Sim.sq (p1 := 79) (s_iconst (by decide +kernel) dX6_digest_78) ?_
  refine Sim.sq (p1 := 80) (s_istore_n rfl (by decide) dX6_digest_79) ?_
  refine Sim.sq (p1 := 121) (Sim.lp ?_) ?_
  · refine Sim.sq (p1 := 81) (s_iload_n rfl dX6_digest_80) ?_
    refine Sim.sq (p1 := 82) (s_aload_n rfl dX6_digest_81) ?_
    refine Sim.sq (p1 := 83) (s_iconst (by decide +kernel) dX6_digest_82) ?_
    refine Sim.sq (p1 := 86) (s_callV (C_X6_many l) (rfl : vwCl[6]? = some (RX6, TX6, 12)) (by decide) kw788 kw790 kw24 kw59 kw791 ⟨rfl, by decide +kernel, by decide +kernel, by decide +kernel⟩ ⟨by decide, by decide⟩ shN6 dX6_digest_83) ?_
    refine Sim.bk ?_
    refine Sim.sq (p1 := 89) (s_icmp_ge dX6_digest_86 (by decide) rfl) ?_
    refine Sim.sq (p1 := 92) (s_ldc2 kw1028 dX6_digest_89) ?_
    refine Sim.sq (p1 := 95) (s_ldc2 kw1028 dX6_digest_92) ?_
    refine Sim.sq (p1 := 96) (s_lload_n rfl dX6_digest_95) ?_
    refine Sim.sq (p1 := 97) (s_lmul dX6_digest_96) ?_
    refine Sim.sq (p1 := 98) (s_aload_n rfl dX6_digest_97) ?_
    refine Sim.sq (p1 := 99) (s_iconst (by decide +kernel) dX6_digest_98) ?_
    refine Sim.sq (p1 := 100) (s_iload_n rfl dX6_digest_99) ?_
    refine Sim.sq (p1 := 103) (s_callV (C_X6_sizeOf l) (rfl : vwCl[6]? = some (RX6, TX6, 12)) (by decide) kw815 kw817 kw30 kw59 kw818 ⟨rfl, by decide +kernel, by decide +kernel, by decide +kernel⟩ ⟨by decide, by decide⟩ shN6 dX6_digest_100) ?_
    refine Sim.sq (p1 := 104) (s_i2l dX6_digest_103) ?_
    refine Sim.sq (p1 := 105) (s_ladd dX6_digest_104) ?_
    refine Sim.sq (p1 := 106) (s_lmul dX6_digest_105) ?_
    refine Sim.sq (p1 := 107) (s_aload_n rfl dX6_digest_106) ?_
    refine Sim.sq (p1 := 108) (s_iconst (by decide +kernel) dX6_digest_107) ?_
    refine Sim.sq (p1 := 109) (s_iload_n rfl dX6_digest_108) ?_
    refine Sim.sq (p1 := 112) (s_callV (C_X6_levelOf l) (rfl : vwCl[6]? = some (RX6, TX6, 12)) (by decide) kw831 kw833 kw34 kw59 kw834 ⟨rfl, by decide +kernel, by decide +kernel, by decide +kernel⟩ ⟨by decide, by decide⟩ shN6 dX6_digest_109) ?_
    refine Sim.sq (p1 := 113) (s_i2l dX6_digest_112) ?_
    refine Sim.sq (p1 := 114) (s_ladd dX6_digest_113) ?_
    refine Sim.sq (p1 := 115) (s_lstore_n rfl (by decide) dX6_digest_114) ?_
    refine Sim.sq (p1 := 118) (s_iinc (by decide +kernel) (by decide) dX6_digest_115) ?_
    exact (s_goto dX6_digest_118 (by decide) rfl)
  refine Sim.sq (p1 := 122) (s_iconst (by decide +kernel) dX6_digest_121) ?_
  refine Sim.sq (p1 := 123) (s_istore_n rfl (by decide) dX6_digest_122) ?_
  refine Sim.sq (p1 := 152) (Sim.lp ?_) ?_
  · refine Sim.sq (p1 := 124) (s_iload_n rfl dX6_digest_123) ?_
    refine Sim.sq (p1 := 125) (s_aload_n rfl dX6_digest_124) ?_
    refine Sim.sq (p1 := 126) (s_iconst (by decide +kernel) dX6_digest_125) ?_
    refine Sim.sq (p1 := 129) (s_callV (C_X6_lengthOf l) (rfl : vwCl[6]? = some (RX6, TX6, 12)) (by decide) kw768 kw770 kw19 kw59 kw771 ⟨rfl, by decide +kernel, by decide +kernel, by decide +kernel⟩ ⟨by decide, by decide⟩ shN6 dX6_digest_126) ?_
    refine Sim.bk ?_
    refine Sim.sq (p1 := 132) (s_icmp_ge dX6_digest_129 (by decide) rfl) ?_
    refine Sim.sq (p1 := 135) (s_ldc2 kw1028 dX6_digest_132) ?_
    refine Sim.sq (p1 := 136) (s_lload_n rfl dX6_digest_135) ?_
    refine Sim.sq (p1 := 137) (s_lmul dX6_digest_136) ?_
    refine Sim.sq (p1 := 138) (s_aload_n rfl dX6_digest_137) ?_
    refine Sim.sq (p1 := 139) (s_iconst (by decide +kernel) dX6_digest_138) ?_
    refine Sim.sq (p1 := 140) (s_iload_n rfl dX6_digest_139) ?_
    refine Sim.sq (p1 := 143) (s_callV (C_X6_characterOf l) (rfl : vwCl[6]? = some (RX6, TX6, 12)) (by decide) kw823 kw825 kw32 kw59 kw826 ⟨rfl, by decide +kernel, by decide +kernel, by decide +kernel⟩ ⟨by decide, by decide⟩ shN6 dX6_digest_140) ?_
    refine Sim.sq (p1 := 144) (s_i2l dX6_digest_143) ?_
    refine Sim.sq (p1 := 145) (s_ladd dX6_digest_144) ?_
    refine Sim.sq (p1 := 146) (s_lstore_n rfl (by decide) dX6_digest_145) ?_
    refine Sim.sq (p1 := 149) (s_iinc (by decide +kernel) (by decide) dX6_digest_146) ?_
    exact (s_goto dX6_digest_149 (by decide) rfl)
  refine Sim.sq (p1 := 155) (s_ldc2 kw1028 dX6_digest_152) ?_
  refine Sim.sq (p1 := 156) (s_lload_n rfl dX6_digest_155) ?_
  refine Sim.sq (p1 := 157) (s_lmul dX6_digest_156) ?_
  refine Sim.sq (p1 := 158) (s_aload_n rfl dX6_digest_157) ?_
  refine Sim.sq (p1 := 161) (s_callV (C_X6_linesNow l) (rfl : vwCl[6]? = some (RX6, TX6, 12)) (by decide) kw969 kw971 kw50 kw59 kw972 ⟨rfl, by decide +kernel, by decide +kernel, by decide +kernel⟩ ⟨by decide, by decide⟩ shN6 dX6_digest_158) ?_
  refine Sim.sq (p1 := 162) (s_i2l dX6_digest_161) ?_
  refine Sim.sq (p1 := 163) (s_ladd dX6_digest_162) ?_
  refine Sim.sq (p1 := 164) (s_lstore_n rfl (by decide) dX6_digest_163) ?_
  refine Sim.sq (p1 := 165) (s_iconst (by decide +kernel) dX6_digest_164) ?_
  refine Sim.sq (p1 := 166) (s_istore_n rfl (by decide) dX6_digest_165) ?_
  refine Sim.sq (p1 := 193) (Sim.lp ?_) ?_
  · refine Sim.sq (p1 := 167) (s_iload_n rfl dX6_digest_166) ?_
    refine Sim.sq (p1 := 168) (s_iconst (by decide +kernel) dX6_digest_167) ?_
    refine Sim.bk ?_
    refine Sim.sq (p1 := 171) (s_icmp_ge dX6_digest_168 (by decide) rfl) ?_
    refine Sim.sq (p1 := 174) (s_ldc2 kw1028 dX6_digest_171) ?_
    refine Sim.sq (p1 := 175) (s_lload_n rfl dX6_digest_174) ?_
    refine Sim.sq (p1 := 176) (s_lmul dX6_digest_175) ?_
    refine Sim.sq (p1 := 177) (s_aload_n rfl dX6_digest_176) ?_
    refine Sim.sq (p1 := 180) (s_getr (rfl : vwCl[6]? = some (RX6, TX6, 12)) (by decide) (by decide) inG6 kw701 rfl dX6_digest_177) ?_
    refine Sim.sq (p1 := 181) (s_iconst (by decide +kernel) dX6_digest_180) ?_
    refine Sim.sq (p1 := 182) (s_iload_n rfl dX6_digest_181) ?_
    refine Sim.sq (p1 := 183) (s_iadd dX6_digest_182) ?_
    refine Sim.sq (p1 := 184) (s_iald dX6_digest_183) ?_
    refine Sim.sq (p1 := 185) (s_i2l dX6_digest_184) ?_
    refine Sim.sq (p1 := 186) (s_ladd dX6_digest_185) ?_
    refine Sim.sq (p1 := 187) (s_lstore_n rfl (by decide) dX6_digest_186) ?_
    refine Sim.sq (p1 := 190) (s_iinc (by decide +kernel) (by decide) dX6_digest_187) ?_
    exact (s_goto dX6_digest_190 (by decide) rfl)
  refine Sim.sq (p1 := 196) (s_ldc2 kw1028 dX6_digest_193) ?_
  refine Sim.sq (p1 := 197) (s_lload_n rfl dX6_digest_196) ?_
  refine Sim.sq (p1 := 198) (s_lmul dX6_digest_197) ?_
  refine Sim.sq (p1 := 199) (s_aload_n rfl dX6_digest_198) ?_
  refine Sim.sq (p1 := 202) (s_getr (rfl : vwCl[6]? = some (RX6, TX6, 12)) (by decide) (by decide) inG6 kw701 rfl dX6_digest_199) ?_
  refine Sim.sq (p1 := 203) (s_iconst (by decide +kernel) dX6_digest_202) ?_
  refine Sim.sq (p1 := 204) (s_iald dX6_digest_203) ?_
  refine Sim.sq (p1 := 205) (s_i2l dX6_digest_204) ?_
  refine Sim.sq (p1 := 206) (s_ladd dX6_digest_205) ?_
  refine Sim.sq (p1 := 207) (s_lstore_n rfl (by decide) dX6_digest_206) ?_
  refine Sim.sq (p1 := 208) (s_iconst (by decide +kernel) dX6_digest_207) ?_
  refine Sim.sq (p1 := 209) (s_istore_n rfl (by decide) dX6_digest_208) ?_
  refine Sim.sq (p1 := 308) (Sim.lp ?_) ?_
  · refine Sim.sq (p1 := 210) (s_iload_n rfl dX6_digest_209) ?_
    refine Sim.sq (p1 := 211) (s_aload_n rfl dX6_digest_210) ?_
    refine Sim.sq (p1 := 214) (s_getr (rfl : vwCl[6]? = some (RX6, TX6, 12)) (by decide) (by decide) inG6 kw701 rfl dX6_digest_211) ?_
    refine Sim.sq (p1 := 215) (s_iconst (by decide +kernel) dX6_digest_214) ?_
    refine Sim.sq (p1 := 216) (s_iald dX6_digest_215) ?_
    refine Sim.bk ?_
    refine Sim.sq (p1 := 219) (s_icmp_ge dX6_digest_216 (by decide) rfl) ?_
    refine Sim.sq (p1 := 222) (s_ldc2 kw1028 dX6_digest_219) ?_
    refine Sim.sq (p1 := 223) (s_lload_n rfl dX6_digest_222) ?_
    refine Sim.sq (p1 := 224) (s_lmul dX6_digest_223) ?_
    refine Sim.sq (p1 := 225) (s_aload_n rfl dX6_digest_224) ?_
    refine Sim.sq (p1 := 226) (s_iconst (by decide +kernel) dX6_digest_225) ?_
    refine Sim.sq (p1 := 227) (s_iload_n rfl dX6_digest_226) ?_
    refine Sim.sq (p1 := 228) (s_iadd dX6_digest_227) ?_
    refine Sim.sq (p1 := 231) (s_callV (C_X6_lengthOf l) (rfl : vwCl[6]? = some (RX6, TX6, 12)) (by decide) kw768 kw770 kw19 kw59 kw771 ⟨rfl, by decide +kernel, by decide +kernel, by decide +kernel⟩ ⟨by decide, by decide⟩ shN6 dX6_digest_228) ?_
    refine Sim.sq (p1 := 232) (s_i2l dX6_digest_231) ?_
    refine Sim.sq (p1 := 233) (s_ladd dX6_digest_232) ?_
    refine Sim.sq (p1 := 234) (s_lstore_n rfl (by decide) dX6_digest_233) ?_
    refine Sim.sq (p1 := 237) (s_ldc2 kw1028 dX6_digest_234) ?_
    refine Sim.sq (p1 := 238) (s_lload_n rfl dX6_digest_237) ?_
    refine Sim.sq (p1 := 239) (s_lmul dX6_digest_238) ?_
    refine Sim.sq (p1 := 240) (s_aload_n rfl dX6_digest_239) ?_
    refine Sim.sq (p1 := 241) (s_iconst (by decide +kernel) dX6_digest_240) ?_
    refine Sim.sq (p1 := 242) (s_iload_n rfl dX6_digest_241) ?_
    refine Sim.sq (p1 := 243) (s_iadd dX6_digest_242) ?_
    refine Sim.sq (p1 := 246) (s_callV (C_X6_depthOf l) (rfl : vwCl[6]? = some (RX6, TX6, 12)) (by decide) kw859 kw861 kw41 kw59 kw862 ⟨rfl, by decide +kernel, by decide +kernel, by decide +kernel⟩ ⟨by decide, by decide⟩ shN6 dX6_digest_243) ?_
    refine Sim.sq (p1 := 247) (s_i2l dX6_digest_246) ?_
    refine Sim.sq (p1 := 248) (s_ladd dX6_digest_247) ?_
    refine Sim.sq (p1 := 249) (s_lstore_n rfl (by decide) dX6_digest_248) ?_
    refine Sim.sq (p1 := 252) (s_ldc2 kw1028 dX6_digest_249) ?_
    refine Sim.sq (p1 := 253) (s_lload_n rfl dX6_digest_252) ?_
    refine Sim.sq (p1 := 254) (s_lmul dX6_digest_253) ?_
    refine Sim.sq (p1 := 255) (s_aload_n rfl dX6_digest_254) ?_
    refine Sim.sq (p1 := 256) (s_iconst (by decide +kernel) dX6_digest_255) ?_
    refine Sim.sq (p1 := 257) (s_iload_n rfl dX6_digest_256) ?_
    refine Sim.sq (p1 := 258) (s_iadd dX6_digest_257) ?_
    refine Sim.sq (p1 := 261) (s_callV (C_X6_many l) (rfl : vwCl[6]? = some (RX6, TX6, 12)) (by decide) kw788 kw790 kw24 kw59 kw791 ⟨rfl, by decide +kernel, by decide +kernel, by decide +kernel⟩ ⟨by decide, by decide⟩ shN6 dX6_digest_258) ?_
    refine Sim.sq (p1 := 262) (s_i2l dX6_digest_261) ?_
    refine Sim.sq (p1 := 263) (s_ladd dX6_digest_262) ?_
    refine Sim.sq (p1 := 264) (s_lstore_n rfl (by decide) dX6_digest_263) ?_
    refine Sim.sq (p1 := 265) (s_iconst (by decide +kernel) dX6_digest_264) ?_
    refine Sim.sq (p1 := 267) (s_istore (by decide) dX6_digest_265) ?_
    refine Sim.sq (p1 := 302) (Sim.lp ?_) ?_
    · refine Sim.sq (p1 := 269) (s_iload dX6_digest_267) ?_
      refine Sim.sq (p1 := 270) (s_aload_n rfl dX6_digest_269) ?_
      refine Sim.sq (p1 := 271) (s_iconst (by decide +kernel) dX6_digest_270) ?_
      refine Sim.sq (p1 := 272) (s_iload_n rfl dX6_digest_271) ?_
      refine Sim.sq (p1 := 273) (s_iadd dX6_digest_272) ?_
      refine Sim.sq (p1 := 276) (s_callV (C_X6_lengthOf l) (rfl : vwCl[6]? = some (RX6, TX6, 12)) (by decide) kw768 kw770 kw19 kw59 kw771 ⟨rfl, by decide +kernel, by decide +kernel, by decide +kernel⟩ ⟨by decide, by decide⟩ shN6 dX6_digest_273) ?_
      refine Sim.bk ?_
      refine Sim.sq (p1 := 279) (s_icmp_ge dX6_digest_276 (by decide) rfl) ?_
      refine Sim.sq (p1 := 282) (s_ldc2 kw1028 dX6_digest_279) ?_
      refine Sim.sq (p1 := 283) (s_lload_n rfl dX6_digest_282) ?_
      refine Sim.sq (p1 := 284) (s_lmul dX6_digest_283) ?_
      refine Sim.sq (p1 := 285) (s_aload_n rfl dX6_digest_284) ?_
      refine Sim.sq (p1 := 286) (s_iconst (by decide +kernel) dX6_digest_285) ?_
      refine Sim.sq (p1 := 287) (s_iload_n rfl dX6_digest_286) ?_
      refine Sim.sq (p1 := 288) (s_iadd dX6_digest_287) ?_
      refine Sim.sq (p1 := 290) (s_iload dX6_digest_288) ?_
      refine Sim.sq (p1 := 293) (s_callV (C_X6_characterOf l) (rfl : vwCl[6]? = some (RX6, TX6, 12)) (by decide) kw823 kw825 kw32 kw59 kw826 ⟨rfl, by decide +kernel, by decide +kernel, by decide +kernel⟩ ⟨by decide, by decide⟩ shN6 dX6_digest_290) ?_
      refine Sim.sq (p1 := 294) (s_i2l dX6_digest_293) ?_
      refine Sim.sq (p1 := 295) (s_ladd dX6_digest_294) ?_
      refine Sim.sq (p1 := 296) (s_lstore_n rfl (by decide) dX6_digest_295) ?_
      refine Sim.sq (p1 := 299) (s_iinc (by decide +kernel) (by decide) dX6_digest_296) ?_
      exact (s_goto dX6_digest_299 (by decide) rfl)
    refine Sim.sq (p1 := 305) (s_iinc (by decide +kernel) (by decide) dX6_digest_302) ?_
    exact (s_goto dX6_digest_305 (by decide) rfl)
  refine Sim.sq (p1 := 309) (s_lload_n rfl dX6_digest_308) ?_
  exact (s_lret rfl dX6_digest_309)
set_option maxRecDepth 100000 in
set_option maxHeartbeats 4000000 in
theorem C_X6_digest (l : Launch) : Ct l yX6_digest cX6_digest 5 (some .long) 3 70 m_X6_digest := Ct_of (y := yX6_digest) (by decide +kernel) S_X6_digest
