set_option maxRecDepth 100000 in
set_option maxHeartbeats 4000000 in
theorem S_X1_freshNode {l : Launch} : Sim l (fun _ => True) RX1 "freshNode" cX1_freshNode 2 (some .int) 1 21 [] b_X1_freshNode 0 52 := by
  unfold b_X1_freshNode
  refine Sim.sq (p1 := 1) (s_aload_n rfl dX1_freshNode_0) ?_
  refine Sim.sq (p1 := 4) (s_geti (rfl : vwCl[1]? = some (RX1, TX1, 10)) (by decide) (by decide) inG1 kw51 rfl dX1_freshNode_1) ?_
  refine Sim.sq (p1 := 5) (s_iconst (by decide +kernel) dX1_freshNode_4) ?_
  refine Sim.sq (p1 := 8) (s_max (by decide) (by decide) kw319 kw320 kw22 kw321 dX1_freshNode_5) ?_
  refine Sim.sq (p1 := 9) (s_istore_n rfl (by decide) dX1_freshNode_8) ?_
  refine Sim.sq (p1 := 50) (Sim.lp ?_) ?_
  · refine Sim.sq (p1 := 10) (s_iload_n rfl dX1_freshNode_9) ?_
    refine Sim.sq (p1 := 13) (s_sipush (by decide +kernel) dX1_freshNode_10) ?_
    refine Sim.bk ?_
    refine Sim.sq (p1 := 16) (s_icmp_ge dX1_freshNode_13 (by decide) rfl) ?_
    refine Sim.sq (p1 := 17) (s_aload_n rfl dX1_freshNode_16) ?_
    refine Sim.sq (p1 := 20) (s_getr (rfl : vwCl[1]? = some (RX1, TX1, 10)) (by decide) (by decide) inG1 kw50 rfl dX1_freshNode_17) ?_
    refine Sim.sq (p1 := 21) (s_iload_n rfl dX1_freshNode_20) ?_
    refine Sim.sq (p1 := 22) (s_zald dX1_freshNode_21) ?_
    refine Sim.sq (p1 := 44) (Sim.bk ?_) ?_
    · refine Sim.sq (p1 := 25) (s_if_ne dX1_freshNode_22 (by decide) rfl) ?_
      refine Sim.sq (p1 := 26) (s_aload_n rfl dX1_freshNode_25) ?_
      refine Sim.sq (p1 := 27) (s_iload_n rfl dX1_freshNode_26) ?_
      refine Sim.sq (p1 := 28) (s_iconst (by decide +kernel) dX1_freshNode_27) ?_
      refine Sim.sq (p1 := 29) (s_iadd dX1_freshNode_28) ?_
      refine Sim.sq (p1 := 32) (s_puti (rfl : vwCl[1]? = some (RX1, TX1, 10)) (by decide) (by decide) inG1 kw51 rfl tyX1 tyX1_ok nmX1 rfl (by decide +kernel) dX1_freshNode_29) ?_
      refine Sim.sq (p1 := 33) (s_aload_n rfl dX1_freshNode_32) ?_
      refine Sim.sq (p1 := 34) (s_dup dX1_freshNode_33) ?_
      refine Sim.sq (p1 := 37) (s_geti (rfl : vwCl[1]? = some (RX1, TX1, 10)) (by decide) (by decide) inG1 kw52 rfl dX1_freshNode_34) ?_
      refine Sim.sq (p1 := 38) (s_iconst (by decide +kernel) dX1_freshNode_37) ?_
      refine Sim.sq (p1 := 39) (s_isub dX1_freshNode_38) ?_
      refine Sim.sq (p1 := 42) (s_puti (rfl : vwCl[1]? = some (RX1, TX1, 10)) (by decide) (by decide) inG1 kw52 rfl tyX1 tyX1_ok nmX1 rfl (by decide +kernel) dX1_freshNode_39) ?_
      refine Sim.sq (p1 := 43) (s_iload_n rfl dX1_freshNode_42) ?_
      exact (s_iret rfl dX1_freshNode_43)
    refine Sim.sq (p1 := 47) (s_iinc (by decide +kernel) (by decide) dX1_freshNode_44) ?_
    exact (s_goto dX1_freshNode_47 (by decide) rfl)
  refine Sim.sq (p1 := 51) (s_iconst (by decide +kernel) dX1_freshNode_50) ?_
  exact (s_iret rfl dX1_freshNode_51)
set_option maxRecDepth 100000 in
set_option maxHeartbeats 4000000 in
theorem C_X1_freshNode (l : Launch) : Ct l yX1_freshNode cX1_freshNode 2 (some .int) 1 21 m_X1_freshNode := Ct_of (y := yX1_freshNode) (by decide +kernel) S_X1_freshNode
set_option maxRecDepth 100000 in
set_option maxHeartbeats 4000000 in
theorem S_X1_newLeaf {l : Launch} : Sim l (fun _ => True) RX1 "newLeaf" cX1_newLeaf 2 (some .int) 2 42 [] b_X1_newLeaf 0 60 := by
  unfold b_X1_newLeaf
  refine Sim.sq (p1 := 1) (s_aload_n rfl dX1_newLeaf_0) ?_
  refine Sim.sq (p1 := 4) (s_callV (C_X1_freshNode l) (rfl : vwCl[1]? = some (RX1, TX1, 10)) (by decide) kw315 kw317 kw4 kw17 kw318 ⟨rfl, by decide +kernel, by decide +kernel, by decide +kernel⟩ ⟨by decide, by decide⟩ shN1 dX1_newLeaf_1) ?_
  refine Sim.sq (p1 := 5) (s_istore_n rfl (by decide) dX1_newLeaf_4) ?_
  refine Sim.sq (p1 := 6) (s_iload_n rfl dX1_newLeaf_5) ?_
  refine Sim.sq (p1 := 58) (Sim.bk ?_) ?_
  · refine Sim.sq (p1 := 9) (s_if_le dX1_newLeaf_6 (by decide) rfl) ?_
    refine Sim.sq (p1 := 10) (s_iload_n rfl dX1_newLeaf_9) ?_
    refine Sim.sq (p1 := 13) (s_sipush (by decide +kernel) dX1_newLeaf_10) ?_
    refine Sim.sq (p1 := 16) (s_icmp_ge dX1_newLeaf_13 (by decide) rfl) ?_
    refine Sim.sq (p1 := 17) (s_aload_n rfl dX1_newLeaf_16) ?_
    refine Sim.sq (p1 := 20) (s_getr (rfl : vwCl[1]? = some (RX1, TX1, 10)) (by decide) (by decide) inG1 kw44 rfl dX1_newLeaf_17) ?_
    refine Sim.sq (p1 := 21) (s_iload_n rfl dX1_newLeaf_20) ?_
    refine Sim.sq (p1 := 22) (s_iconst (by decide +kernel) dX1_newLeaf_21) ?_
    refine Sim.sq (p1 := 23) (s_iast dX1_newLeaf_22) ?_
    refine Sim.sq (p1 := 24) (s_aload_n rfl dX1_newLeaf_23) ?_
    refine Sim.sq (p1 := 27) (s_getr (rfl : vwCl[1]? = some (RX1, TX1, 10)) (by decide) (by decide) inG1 kw45 rfl dX1_newLeaf_24) ?_
    refine Sim.sq (p1 := 28) (s_iload_n rfl dX1_newLeaf_27) ?_
    refine Sim.sq (p1 := 29) (s_iconst (by decide +kernel) dX1_newLeaf_28) ?_
    refine Sim.sq (p1 := 30) (s_iast dX1_newLeaf_29) ?_
    refine Sim.sq (p1 := 31) (s_aload_n rfl dX1_newLeaf_30) ?_
    refine Sim.sq (p1 := 34) (s_getr (rfl : vwCl[1]? = some (RX1, TX1, 10)) (by decide) (by decide) inG1 kw46 rfl dX1_newLeaf_31) ?_
    refine Sim.sq (p1 := 35) (s_iload_n rfl dX1_newLeaf_34) ?_
    refine Sim.sq (p1 := 36) (s_iconst (by decide +kernel) dX1_newLeaf_35) ?_
    refine Sim.sq (p1 := 37) (s_iast dX1_newLeaf_36) ?_
    refine Sim.sq (p1 := 38) (s_aload_n rfl dX1_newLeaf_37) ?_
    refine Sim.sq (p1 := 41) (s_getr (rfl : vwCl[1]? = some (RX1, TX1, 10)) (by decide) (by decide) inG1 kw47 rfl dX1_newLeaf_38) ?_
    refine Sim.sq (p1 := 42) (s_iload_n rfl dX1_newLeaf_41) ?_
    refine Sim.sq (p1 := 43) (s_iconst (by decide +kernel) dX1_newLeaf_42) ?_
    refine Sim.sq (p1 := 44) (s_iast dX1_newLeaf_43) ?_
    refine Sim.sq (p1 := 45) (s_aload_n rfl dX1_newLeaf_44) ?_
    refine Sim.sq (p1 := 48) (s_getr (rfl : vwCl[1]? = some (RX1, TX1, 10)) (by decide) (by decide) inG1 kw48 rfl dX1_newLeaf_45) ?_
    refine Sim.sq (p1 := 49) (s_iload_n rfl dX1_newLeaf_48) ?_
    refine Sim.sq (p1 := 50) (s_lconst (by decide +kernel) dX1_newLeaf_49) ?_
    refine Sim.sq (p1 := 51) (s_last dX1_newLeaf_50) ?_
    refine Sim.sq (p1 := 52) (s_aload_n rfl dX1_newLeaf_51) ?_
    refine Sim.sq (p1 := 55) (s_getr (rfl : vwCl[1]? = some (RX1, TX1, 10)) (by decide) (by decide) inG1 kw49 rfl dX1_newLeaf_52) ?_
    refine Sim.sq (p1 := 56) (s_iload_n rfl dX1_newLeaf_55) ?_
    refine Sim.sq (p1 := 57) (s_lconst (by decide +kernel) dX1_newLeaf_56) ?_
    exact (s_last dX1_newLeaf_57)
  refine Sim.sq (p1 := 59) (s_iload_n rfl dX1_newLeaf_58) ?_
  exact (s_iret rfl dX1_newLeaf_59)
set_option maxRecDepth 100000 in
set_option maxHeartbeats 4000000 in
theorem C_X1_newLeaf (l : Launch) : Ct l yX1_newLeaf cX1_newLeaf 2 (some .int) 2 42 m_X1_newLeaf := Ct_of (y := yX1_newLeaf) (by decide +kernel) S_X1_newLeaf
set_option maxRecDepth 100000 in
set_option maxHeartbeats 4000000 in
theorem S_X1_append {l : Launch} : Sim l (fun _ => True) RX1 "append" cX1_append 6 none 0 0 [] b_X1_append 0 84 := by
  unfold b_X1_append
  refine Sim.sq (p1 := 1) (s_iload_n rfl dX1_append_0) ?_
  refine Sim.sq (p1 := 23) (Sim.bk ?_) ?_
  · refine Sim.sq (p1 := 22) (Sim.bk ?_) ?_
    · refine Sim.sq (p1 := 4) (s_if_le dX1_append_1 (by decide) rfl) ?_
      refine Sim.sq (p1 := 5) (s_iload_n rfl dX1_append_4) ?_
      refine Sim.sq (p1 := 8) (s_sipush (by decide +kernel) dX1_append_5) ?_
      refine Sim.sq (p1 := 11) (s_icmp_ge dX1_append_8 (by decide) rfl) ?_
      refine Sim.sq (p1 := 12) (s_aload_n rfl dX1_append_11) ?_
      refine Sim.sq (p1 := 15) (s_getr (rfl : vwCl[1]? = some (RX1, TX1, 10)) (by decide) (by decide) inG1 kw46 rfl dX1_append_12) ?_
      refine Sim.sq (p1 := 16) (s_iload_n rfl dX1_append_15) ?_
      refine Sim.sq (p1 := 17) (s_iald dX1_append_16) ?_
      refine Sim.sq (p1 := 19) (s_bipush (by decide +kernel) dX1_append_17) ?_
      exact (s_icmp_lt dX1_append_19 (by decide) rfl)
    exact (s_vret rfl dX1_append_22)
  refine Sim.sq (p1 := 24) (s_aload_n rfl dX1_append_23) ?_
  refine Sim.sq (p1 := 27) (s_getr (rfl : vwCl[1]? = some (RX1, TX1, 10)) (by decide) (by decide) inG1 kw46 rfl dX1_append_24) ?_
  refine Sim.sq (p1 := 28) (s_iload_n rfl dX1_append_27) ?_
  refine Sim.sq (p1 := 29) (s_iald dX1_append_28) ?_
  refine Sim.sq (p1 := 30) (s_istore_n rfl (by decide) dX1_append_29) ?_
  refine Sim.sq (p1 := 31) (s_iload_n rfl dX1_append_30) ?_
  refine Sim.sq (p1 := 32) (s_i2l dX1_append_31) ?_
  refine Sim.sq (p1 := 34) (s_bipush (by decide +kernel) dX1_append_32) ?_
  refine Sim.sq (p1 := 35) (s_iload_n rfl dX1_append_34) ?_
  refine Sim.sq (p1 := 37) (s_bipush (by decide +kernel) dX1_append_35) ?_
  refine Sim.sq (p1 := 38) (s_irem dX1_append_37) ?_
  refine Sim.sq (p1 := 39) (s_imul dX1_append_38) ?_
  refine Sim.sq (p1 := 40) (s_lshl dX1_append_39) ?_
  refine Sim.sq (p1 := 42) (s_lstore (by decide) dX1_append_40) ?_
  refine Sim.sq (p1 := 43) (s_iload_n rfl dX1_append_42) ?_
  refine Sim.sq (p1 := 45) (s_bipush (by decide +kernel) dX1_append_43) ?_
  refine Sim.sq (p1 := 73) (Sim.bk ?_) ?_
  · refine Sim.sq (p1 := 62) (Sim.bk ?_) ?_
    · refine Sim.sq (p1 := 48) (s_icmp_ge dX1_append_45 (by decide) rfl) ?_
      refine Sim.sq (p1 := 49) (s_aload_n rfl dX1_append_48) ?_
      refine Sim.sq (p1 := 52) (s_getr (rfl : vwCl[1]? = some (RX1, TX1, 10)) (by decide) (by decide) inG1 kw48 rfl dX1_append_49) ?_
      refine Sim.sq (p1 := 53) (s_iload_n rfl dX1_append_52) ?_
      refine Sim.sq (p1 := 54) (s_dup2 dX1_append_53) ?_
      refine Sim.sq (p1 := 55) (s_lald dX1_append_54) ?_
      refine Sim.sq (p1 := 57) (s_lload dX1_append_55) ?_
      refine Sim.sq (p1 := 58) (s_lor dX1_append_57) ?_
      refine Sim.sq (p1 := 59) (s_last dX1_append_58) ?_
      exact (s_goto dX1_append_59 (by decide) rfl)
    refine Sim.sq (p1 := 63) (s_aload_n rfl dX1_append_62) ?_
    refine Sim.sq (p1 := 66) (s_getr (rfl : vwCl[1]? = some (RX1, TX1, 10)) (by decide) (by decide) inG1 kw49 rfl dX1_append_63) ?_
    refine Sim.sq (p1 := 67) (s_iload_n rfl dX1_append_66) ?_
    refine Sim.sq (p1 := 68) (s_dup2 dX1_append_67) ?_
    refine Sim.sq (p1 := 69) (s_lald dX1_append_68) ?_
    refine Sim.sq (p1 := 71) (s_lload dX1_append_69) ?_
    refine Sim.sq (p1 := 72) (s_lor dX1_append_71) ?_
    exact (s_last dX1_append_72)
  refine Sim.sq (p1 := 74) (s_aload_n rfl dX1_append_73) ?_
  refine Sim.sq (p1 := 77) (s_getr (rfl : vwCl[1]? = some (RX1, TX1, 10)) (by decide) (by decide) inG1 kw46 rfl dX1_append_74) ?_
  refine Sim.sq (p1 := 78) (s_iload_n rfl dX1_append_77) ?_
  refine Sim.sq (p1 := 79) (s_dup2 dX1_append_78) ?_
  refine Sim.sq (p1 := 80) (s_iald dX1_append_79) ?_
  refine Sim.sq (p1 := 81) (s_iconst (by decide +kernel) dX1_append_80) ?_
  refine Sim.sq (p1 := 82) (s_iadd dX1_append_81) ?_
  refine Sim.sq (p1 := 83) (s_iast dX1_append_82) ?_
  exact (s_vret rfl dX1_append_83)
set_option maxRecDepth 100000 in
set_option maxHeartbeats 4000000 in
theorem C_X1_append (l : Launch) : Ct l yX1_append cX1_append 6 none 0 0 m_X1_append := Ct_of (y := yX1_append) (by decide +kernel) S_X1_append
set_option maxRecDepth 100000 in
set_option maxHeartbeats 4000000 in
theorem S_X1_heightOf {l : Launch} : Sim l (fun _ => True) RX1 "heightOf" cX1_heightOf 2 (some .int) 0 0 [] b_X1_heightOf 0 22 := by
  unfold b_X1_heightOf
  refine Sim.sq (p1 := 1) (s_iload_n rfl dX1_heightOf_0) ?_
  refine Sim.sq (p1 := 21) (Sim.bk ?_) ?_
  · refine Sim.sq (p1 := 20) (Sim.bk ?_) ?_
    · refine Sim.sq (p1 := 4) (s_if_le dX1_heightOf_1 (by decide) rfl) ?_
      refine Sim.sq (p1 := 5) (s_iload_n rfl dX1_heightOf_4) ?_
      refine Sim.sq (p1 := 8) (s_sipush (by decide +kernel) dX1_heightOf_5) ?_
      refine Sim.sq (p1 := 11) (s_icmp_ge dX1_heightOf_8 (by decide) rfl) ?_
      refine Sim.sq (p1 := 12) (s_aload_n rfl dX1_heightOf_11) ?_
      refine Sim.sq (p1 := 15) (s_getr (rfl : vwCl[1]? = some (RX1, TX1, 10)) (by decide) (by decide) inG1 kw47 rfl dX1_heightOf_12) ?_
      refine Sim.sq (p1 := 16) (s_iload_n rfl dX1_heightOf_15) ?_
      refine Sim.sq (p1 := 17) (s_iald dX1_heightOf_16) ?_
      exact (s_goto dX1_heightOf_17 (by decide) rfl)
    exact (s_iconst (by decide +kernel) dX1_heightOf_20)
  exact (s_iret rfl dX1_heightOf_21)
set_option maxRecDepth 100000 in
set_option maxHeartbeats 4000000 in
theorem C_X1_heightOf (l : Launch) : Ct l yX1_heightOf cX1_heightOf 2 (some .int) 0 0 m_X1_heightOf := Ct_of (y := yX1_heightOf) (by decide +kernel) S_X1_heightOf
set_option maxRecDepth 100000 in
set_option maxHeartbeats 4000000 in
theorem S_X1_newPair {l : Launch} : Sim l (fun _ => True) RX1 "newPair" cX1_newPair 4 (some .int) 2 42 [] b_X1_newPair 0 70 := by
  unfold b_X1_newPair
  refine Sim.sq (p1 := 1) (s_aload_n rfl dX1_newPair_0) ?_
  refine Sim.sq (p1 := 4) (s_callV (C_X1_freshNode l) (rfl : vwCl[1]? = some (RX1, TX1, 10)) (by decide) kw315 kw317 kw4 kw17 kw318 ⟨rfl, by decide +kernel, by decide +kernel, by decide +kernel⟩ ⟨by decide, by decide⟩ shN1 dX1_newPair_1) ?_
  refine Sim.sq (p1 := 5) (s_istore_n rfl (by decide) dX1_newPair_4) ?_
  refine Sim.sq (p1 := 6) (s_iload_n rfl dX1_newPair_5) ?_
  refine Sim.sq (p1 := 68) (Sim.bk ?_) ?_
  · refine Sim.sq (p1 := 9) (s_if_le dX1_newPair_6 (by decide) rfl) ?_
    refine Sim.sq (p1 := 10) (s_iload_n rfl dX1_newPair_9) ?_
    refine Sim.sq (p1 := 13) (s_sipush (by decide +kernel) dX1_newPair_10) ?_
    refine Sim.sq (p1 := 16) (s_icmp_ge dX1_newPair_13 (by decide) rfl) ?_
    refine Sim.sq (p1 := 17) (s_aload_n rfl dX1_newPair_16) ?_
    refine Sim.sq (p1 := 20) (s_getr (rfl : vwCl[1]? = some (RX1, TX1, 10)) (by decide) (by decide) inG1 kw44 rfl dX1_newPair_17) ?_
    refine Sim.sq (p1 := 21) (s_iload_n rfl dX1_newPair_20) ?_
    refine Sim.sq (p1 := 22) (s_iload_n rfl dX1_newPair_21) ?_
    refine Sim.sq (p1 := 23) (s_iast dX1_newPair_22) ?_
    refine Sim.sq (p1 := 24) (s_aload_n rfl dX1_newPair_23) ?_
    refine Sim.sq (p1 := 27) (s_getr (rfl : vwCl[1]? = some (RX1, TX1, 10)) (by decide) (by decide) inG1 kw45 rfl dX1_newPair_24) ?_
    refine Sim.sq (p1 := 28) (s_iload_n rfl dX1_newPair_27) ?_
    refine Sim.sq (p1 := 29) (s_iload_n rfl dX1_newPair_28) ?_
    refine Sim.sq (p1 := 30) (s_iast dX1_newPair_29) ?_
    refine Sim.sq (p1 := 31) (s_aload_n rfl dX1_newPair_30) ?_
    refine Sim.sq (p1 := 34) (s_getr (rfl : vwCl[1]? = some (RX1, TX1, 10)) (by decide) (by decide) inG1 kw46 rfl dX1_newPair_31) ?_
    refine Sim.sq (p1 := 35) (s_iload_n rfl dX1_newPair_34) ?_
    refine Sim.sq (p1 := 36) (s_aload_n rfl dX1_newPair_35) ?_
    refine Sim.sq (p1 := 37) (s_iload_n rfl dX1_newPair_36) ?_
    refine Sim.sq (p1 := 40) (s_callV (C_X1_sizeOf l) (rfl : vwCl[1]? = some (RX1, TX1, 10)) (by decide) kw337 kw269 kw270 kw17 kw271 ⟨rfl, by decide +kernel, by decide +kernel, by decide +kernel⟩ ⟨by decide, by decide⟩ shN1 dX1_newPair_37) ?_
    refine Sim.sq (p1 := 41) (s_aload_n rfl dX1_newPair_40) ?_
    refine Sim.sq (p1 := 42) (s_iload_n rfl dX1_newPair_41) ?_
    refine Sim.sq (p1 := 45) (s_callV (C_X1_sizeOf l) (rfl : vwCl[1]? = some (RX1, TX1, 10)) (by decide) kw337 kw269 kw270 kw17 kw271 ⟨rfl, by decide +kernel, by decide +kernel, by decide +kernel⟩ ⟨by decide, by decide⟩ shN1 dX1_newPair_42) ?_
    refine Sim.sq (p1 := 46) (s_iadd dX1_newPair_45) ?_
    refine Sim.sq (p1 := 47) (s_iast dX1_newPair_46) ?_
    refine Sim.sq (p1 := 48) (s_aload_n rfl dX1_newPair_47) ?_
    refine Sim.sq (p1 := 51) (s_getr (rfl : vwCl[1]? = some (RX1, TX1, 10)) (by decide) (by decide) inG1 kw47 rfl dX1_newPair_48) ?_
    refine Sim.sq (p1 := 52) (s_iload_n rfl dX1_newPair_51) ?_
    refine Sim.sq (p1 := 53) (s_iconst (by decide +kernel) dX1_newPair_52) ?_
    refine Sim.sq (p1 := 54) (s_aload_n rfl dX1_newPair_53) ?_
    refine Sim.sq (p1 := 55) (s_iload_n rfl dX1_newPair_54) ?_
    refine Sim.sq (p1 := 58) (s_callV (C_X1_heightOf l) (rfl : vwCl[1]? = some (RX1, TX1, 10)) (by decide) kw338 kw339 kw340 kw17 kw341 ⟨rfl, by decide +kernel, by decide +kernel, by decide +kernel⟩ ⟨by decide, by decide⟩ shN1 dX1_newPair_55) ?_
    refine Sim.sq (p1 := 59) (s_aload_n rfl dX1_newPair_58) ?_
    refine Sim.sq (p1 := 60) (s_iload_n rfl dX1_newPair_59) ?_
    refine Sim.sq (p1 := 63) (s_callV (C_X1_heightOf l) (rfl : vwCl[1]? = some (RX1, TX1, 10)) (by decide) kw338 kw339 kw340 kw17 kw341 ⟨rfl, by decide +kernel, by decide +kernel, by decide +kernel⟩ ⟨by decide, by decide⟩ shN1 dX1_newPair_60) ?_
    refine Sim.sq (p1 := 66) (s_max (by decide) (by decide) kw319 kw320 kw22 kw321 dX1_newPair_63) ?_
    refine Sim.sq (p1 := 67) (s_iadd dX1_newPair_66) ?_
    exact (s_iast dX1_newPair_67)
  refine Sim.sq (p1 := 69) (s_iload_n rfl dX1_newPair_68) ?_
  exact (s_iret rfl dX1_newPair_69)
set_option maxRecDepth 100000 in
set_option maxHeartbeats 4000000 in
theorem C_X1_newPair (l : Launch) : Ct l yX1_newPair cX1_newPair 4 (some .int) 2 42 m_X1_newPair := Ct_of (y := yX1_newPair) (by decide +kernel) S_X1_newPair
set_option maxRecDepth 100000 in
set_option maxHeartbeats 4000000 in
theorem S_X4_built {l : Launch} {f : Mt} {fr lo fr' lo' : Nat} (hM : Ct l yX4_built cX4_built 8 (some .int) fr' lo' f) (h1 : 3 ≤ fr) (h2 : 65 ≤ lo) (hR : fr' + 1 ≤ fr ∧ 8 + (8 + 11) + lo' ≤ lo) : Sim l (fun _ => True) RX4 "built" cX4_built 8 (some .int) fr lo [] (b_X4_built f) 0 81 := by
  unfold b_X4_built
  refine Sim.sq (p1 := 1) (s_iload_n rfl dX4_built_0) ?_
  refine Sim.sq (p1 := 23) (Sim.bk ?_) ?_
  · refine Sim.sq (p1 := 21) (Sim.bk ?_) ?_
    · refine Sim.sq (p1 := 4) (s_if_le dX4_built_1 (by decide) rfl) ?_
      refine Sim.sq (p1 := 6) (s_iload dX4_built_4) ?_
      refine Sim.sq (p1 := 8) (s_bipush (by decide +kernel) dX4_built_6) ?_
      refine Sim.sq (p1 := 11) (s_icmp_gt dX4_built_8 (by decide) rfl) ?_
      refine Sim.sq (p1 := 12) (s_iload_n rfl dX4_built_11) ?_
      refine Sim.sq (p1 := 15) (s_if_lt dX4_built_12 (by decide) rfl) ?_
      refine Sim.sq (p1 := 16) (s_iload_n rfl dX4_built_15) ?_
      refine Sim.sq (p1 := 17) (s_aload_n rfl dX4_built_16) ?_
      refine Sim.sq (p1 := 18) (s_alen dX4_built_17) ?_
      exact (s_icmp_lt dX4_built_18 (by decide) rfl)
    refine Sim.sq (p1 := 22) (s_iconst (by decide +kernel) dX4_built_21) ?_
    exact (s_iret rfl dX4_built_22)
  refine Sim.sq (p1 := 24) (s_iload_n rfl dX4_built_23) ?_
  refine Sim.sq (p1 := 25) (s_iconst (by decide +kernel) dX4_built_24) ?_
  refine Sim.sq (p1 := 32) (Sim.bk ?_) ?_
  · refine Sim.sq (p1 := 28) (s_icmp_ne dX4_built_25 (by decide) rfl) ?_
    refine Sim.sq (p1 := 29) (s_aload_n rfl dX4_built_28) ?_
    refine Sim.sq (p1 := 30) (s_iload_n rfl dX4_built_29) ?_
    refine Sim.sq (p1 := 31) (s_iald dX4_built_30) ?_
    exact (s_iret rfl dX4_built_31)
  refine Sim.sq (p1 := 33) (s_iload_n rfl dX4_built_32) ?_
  refine Sim.sq (p1 := 34) (s_iconst (by decide +kernel) dX4_built_33) ?_
  refine Sim.sq (p1 := 35) (s_iadd dX4_built_34) ?_
  refine Sim.sq (p1 := 36) (s_iconst (by decide +kernel) dX4_built_35) ?_
  refine Sim.sq (p1 := 37) (s_idiv dX4_built_36) ?_
  refine Sim.sq (p1 := 39) (s_istore (by decide) dX4_built_37) ?_
  refine Sim.sq (p1 := 40) (s_aload_n rfl dX4_built_39) ?_
  refine Sim.sq (p1 := 41) (s_aload_n rfl dX4_built_40) ?_
  refine Sim.sq (p1 := 42) (s_iload_n rfl dX4_built_41) ?_
  refine Sim.sq (p1 := 44) (s_iload dX4_built_42) ?_
  refine Sim.sq (p1 := 46) (s_iload dX4_built_44) ?_
  refine Sim.sq (p1 := 47) (s_iconst (by decide +kernel) dX4_built_46) ?_
  refine Sim.sq (p1 := 48) (s_iadd dX4_built_47) ?_
  refine Sim.sq (p1 := 51) (s_callS (y := yX4_built) hM kw330 kw331 kw16 kw332 ⟨by decide +kernel, by decide +kernel, by decide +kernel⟩ hR dX4_built_48) ?_
  refine Sim.sq (p1 := 53) (s_istore (by decide) dX4_built_51) ?_
  refine Sim.sq (p1 := 54) (s_aload_n rfl dX4_built_53) ?_
  refine Sim.sq (p1 := 55) (s_aload_n rfl dX4_built_54) ?_
  refine Sim.sq (p1 := 56) (s_iload_n rfl dX4_built_55) ?_
  refine Sim.sq (p1 := 58) (s_iload dX4_built_56) ?_
  refine Sim.sq (p1 := 59) (s_iadd dX4_built_58) ?_
  refine Sim.sq (p1 := 60) (s_iload_n rfl dX4_built_59) ?_
  refine Sim.sq (p1 := 62) (s_iload dX4_built_60) ?_
  refine Sim.sq (p1 := 63) (s_isub dX4_built_62) ?_
  refine Sim.sq (p1 := 65) (s_iload dX4_built_63) ?_
  refine Sim.sq (p1 := 66) (s_iconst (by decide +kernel) dX4_built_65) ?_
  refine Sim.sq (p1 := 67) (s_iadd dX4_built_66) ?_
  refine Sim.sq (p1 := 70) (s_callS (y := yX4_built) hM kw330 kw331 kw16 kw332 ⟨by decide +kernel, by decide +kernel, by decide +kernel⟩ hR dX4_built_67) ?_
  refine Sim.sq (p1 := 72) (s_istore (by decide) dX4_built_70) ?_
  refine Sim.sq (p1 := 73) (s_aload_n rfl dX4_built_72) ?_
  refine Sim.sq (p1 := 75) (s_iload dX4_built_73) ?_
  refine Sim.sq (p1 := 77) (s_iload dX4_built_75) ?_
  refine Sim.sq (p1 := 80) (s_callV (C_X1_newPair l) (rfl : vwCl[1]? = some (RX1, TX1, 10)) (by decide) kw333 kw334 kw335 kw17 kw336 ⟨rfl, by decide +kernel, by decide +kernel, by decide +kernel⟩ ⟨by omega, by omega⟩ shN1 dX4_built_77) ?_
  exact (s_iret rfl dX4_built_80)
set_option maxRecDepth 100000 in
set_option maxHeartbeats 4000000 in
theorem C_X4_built (l : Launch) : ∀ n, Ct l yX4_built cX4_built 8 (some .int) (3 + n) (65 + 27 * n) (m_X4_built n)
  | 0 => fun _ _ _ _ _ _ _ _ h => by cases h
  | n + 1 => Ct_of (y := yX4_built) (by decide +kernel) (S_X4_built (C_X4_built l n) (by omega) (by omega) ⟨by omega, by omega⟩)
set_option maxRecDepth 100000 in
set_option maxHeartbeats 4000000 in
theorem S_X4_ropeOfLeaves {l : Launch} : Sim l (fun _ => True) RX4 "ropeOfLeaves" cX4_ropeOfLeaves 3 (some .int) 16 416 [] b_X4_ropeOfLeaves 0 12 := by
  unfold b_X4_ropeOfLeaves
  refine Sim.sq (p1 := 1) (s_aload_n rfl dX4_ropeOfLeaves_0) ?_
  refine Sim.sq (p1 := 4) (s_getr (rfl : vwCl[4]? = some (RX4, TX4, 6)) (by decide) (by decide) inG4 kw79 rfl dX4_ropeOfLeaves_1) ?_
  refine Sim.sq (p1 := 5) (s_aload_n rfl dX4_ropeOfLeaves_4) ?_
  refine Sim.sq (p1 := 6) (s_iconst (by decide +kernel) dX4_ropeOfLeaves_5) ?_
  refine Sim.sq (p1 := 7) (s_iload_n rfl dX4_ropeOfLeaves_6) ?_
  refine Sim.sq (p1 := 8) (s_iconst (by decide +kernel) dX4_ropeOfLeaves_7) ?_
  refine Sim.sq (p1 := 11) (s_callS (y := yX4_built) (C_X4_built l 12) kw330 kw331 kw16 kw332 ⟨by decide +kernel, by decide +kernel, by decide +kernel⟩ ⟨by decide, by decide⟩ dX4_ropeOfLeaves_8) ?_
  exact (s_iret rfl dX4_ropeOfLeaves_11)
set_option maxRecDepth 100000 in
set_option maxHeartbeats 4000000 in
theorem C_X4_ropeOfLeaves (l : Launch) : Ct l yX4_ropeOfLeaves cX4_ropeOfLeaves 3 (some .int) 16 416 m_X4_ropeOfLeaves := Ct_of (y := yX4_ropeOfLeaves) (by decide +kernel) S_X4_ropeOfLeaves
set_option maxRecDepth 100000 in
set_option maxHeartbeats 4000000 in
theorem S_X4_ropeOfCodes {l : Launch} : Sim l (fun _ => True) RX4 "ropeOfCodes" cX4_ropeOfCodes 7 (some .int) 17 438 [] b_X4_ropeOfCodes 0 101 := by
  unfold b_X4_ropeOfCodes
  refine Sim.sq (p1 := 1) (s_iconst (by decide +kernel) dX4_ropeOfCodes_0) ?_
  refine Sim.sq (p1 := 3) (s_istore (by decide) dX4_ropeOfCodes_1) ?_
  refine Sim.sq (p1 := 4) (s_iconst (by decide +kernel) dX4_ropeOfCodes_3) ?_
  refine Sim.sq (p1 := 6) (s_istore (by decide) dX4_ropeOfCodes_4) ?_
  refine Sim.sq (p1 := 7) (s_iconst (by decide +kernel) dX4_ropeOfCodes_6) ?_
  refine Sim.sq (p1 := 9) (s_istore (by decide) dX4_ropeOfCodes_7) ?_
  refine Sim.sq (p1 := 90) (Sim.lp ?_) ?_
  · refine Sim.sq (p1 := 11) (s_iload dX4_ropeOfCodes_9) ?_
    refine Sim.sq (p1 := 12) (s_iload_n rfl dX4_ropeOfCodes_11) ?_
    refine Sim.bk ?_
    refine Sim.sq (p1 := 15) (s_icmp_ge dX4_ropeOfCodes_12 (by decide) rfl) ?_
    refine Sim.sq (p1 := 17) (s_iload dX4_ropeOfCodes_15) ?_
    refine Sim.sq (p1 := 18) (s_aload_n rfl dX4_ropeOfCodes_17) ?_
    refine Sim.sq (p1 := 19) (s_alen dX4_ropeOfCodes_18) ?_
    refine Sim.sq (p1 := 22) (s_icmp_ge dX4_ropeOfCodes_19 (by decide) rfl) ?_
    refine Sim.sq (p1 := 24) (s_iload dX4_ropeOfCodes_22) ?_
    refine Sim.sq (p1 := 25) (s_aload_n rfl dX4_ropeOfCodes_24) ?_
    refine Sim.sq (p1 := 28) (s_getr (rfl : vwCl[4]? = some (RX4, TX4, 6)) (by decide) (by decide) inG4 kw83 rfl dX4_ropeOfCodes_25) ?_
    refine Sim.sq (p1 := 29) (s_alen dX4_ropeOfCodes_28) ?_
    refine Sim.sq (p1 := 71) (Sim.bk ?_) ?_
    · refine Sim.sq (p1 := 32) (s_icmp_ge dX4_ropeOfCodes_29 (by decide) rfl) ?_
      refine Sim.sq (p1 := 34) (s_iload dX4_ropeOfCodes_32) ?_
      refine Sim.sq (p1 := 50) (Sim.bk ?_) ?_
      · refine Sim.sq (p1 := 37) (s_if_eq dX4_ropeOfCodes_34 (by decide) rfl) ?_
        refine Sim.sq (p1 := 38) (s_aload_n rfl dX4_ropeOfCodes_37) ?_
        refine Sim.sq (p1 := 41) (s_getr (rfl : vwCl[4]? = some (RX4, TX4, 6)) (by decide) (by decide) inG4 kw79 rfl dX4_ropeOfCodes_38) ?_
        refine Sim.sq (p1 := 43) (s_iload dX4_ropeOfCodes_41) ?_
        refine Sim.sq (p1 := 46) (s_callV (C_X1_sizeOf l) (rfl : vwCl[1]? = some (RX1, TX1, 10)) (by decide) kw310 kw269 kw270 kw17 kw271 ⟨rfl, by decide +kernel, by decide +kernel, by decide +kernel⟩ ⟨by decide, by decide⟩ shN1 dX4_ropeOfCodes_43) ?_
        refine Sim.sq (p1 := 47) (s_iload_n rfl dX4_ropeOfCodes_46) ?_
        exact (s_icmp_lt dX4_ropeOfCodes_47 (by decide) rfl)
      refine Sim.sq (p1 := 51) (s_aload_n rfl dX4_ropeOfCodes_50) ?_
      refine Sim.sq (p1 := 54) (s_getr (rfl : vwCl[4]? = some (RX4, TX4, 6)) (by decide) (by decide) inG4 kw79 rfl dX4_ropeOfCodes_51) ?_
      refine Sim.sq (p1 := 57) (s_callV (C_X1_newLeaf l) (rfl : vwCl[1]? = some (RX1, TX1, 10)) (by decide) kw311 kw312 kw313 kw17 kw314 ⟨rfl, by decide +kernel, by decide +kernel, by decide +kernel⟩ ⟨by decide, by decide⟩ shN1 dX4_ropeOfCodes_54) ?_
      refine Sim.sq (p1 := 59) (s_istore (by decide) dX4_ropeOfCodes_57) ?_
      refine Sim.sq (p1 := 60) (s_aload_n rfl dX4_ropeOfCodes_59) ?_
      refine Sim.sq (p1 := 63) (s_getr (rfl : vwCl[4]? = some (RX4, TX4, 6)) (by decide) (by decide) inG4 kw83 rfl dX4_ropeOfCodes_60) ?_
      refine Sim.sq (p1 := 65) (s_iload dX4_ropeOfCodes_63) ?_
      refine Sim.sq (p1 := 67) (s_iload dX4_ropeOfCodes_65) ?_
      refine Sim.sq (p1 := 68) (s_iast dX4_ropeOfCodes_67) ?_
      exact (s_iinc (by decide +kernel) (by decide) dX4_ropeOfCodes_68)
    refine Sim.sq (p1 := 72) (s_aload_n rfl dX4_ropeOfCodes_71) ?_
    refine Sim.sq (p1 := 75) (s_getr (rfl : vwCl[4]? = some (RX4, TX4, 6)) (by decide) (by decide) inG4 kw79 rfl dX4_ropeOfCodes_72) ?_
    refine Sim.sq (p1 := 77) (s_iload dX4_ropeOfCodes_75) ?_
    refine Sim.sq (p1 := 78) (s_aload_n rfl dX4_ropeOfCodes_77) ?_
    refine Sim.sq (p1 := 80) (s_iload dX4_ropeOfCodes_78) ?_
    refine Sim.sq (p1 := 81) (s_iald dX4_ropeOfCodes_80) ?_
    refine Sim.sq (p1 := 84) (s_callV (C_X1_append l) (rfl : vwCl[1]? = some (RX1, TX1, 10)) (by decide) kw322 kw323 kw324 kw17 kw325 ⟨rfl, by decide +kernel, by decide +kernel, by decide +kernel⟩ ⟨by decide, by decide⟩ shN1 dX4_ropeOfCodes_81) ?_
    refine Sim.sq (p1 := 87) (s_iinc (by decide +kernel) (by decide) dX4_ropeOfCodes_84) ?_
    exact (s_goto dX4_ropeOfCodes_87 (by decide) rfl)
  refine Sim.sq (p1 := 91) (s_aload_n rfl dX4_ropeOfCodes_90) ?_
  refine Sim.sq (p1 := 92) (s_aload_n rfl dX4_ropeOfCodes_91) ?_
  refine Sim.sq (p1 := 95) (s_getr (rfl : vwCl[4]? = some (RX4, TX4, 6)) (by decide) (by decide) inG4 kw83 rfl dX4_ropeOfCodes_92) ?_
  refine Sim.sq (p1 := 97) (s_iload dX4_ropeOfCodes_95) ?_
  refine Sim.sq (p1 := 100) (s_callV (C_X4_ropeOfLeaves l) (rfl : vwCl[4]? = some (RX4, TX4, 6)) (by decide) kw326 kw327 kw328 kw16 kw329 ⟨rfl, by decide +kernel, by decide +kernel, by decide +kernel⟩ ⟨by decide, by decide⟩ shN4 dX4_ropeOfCodes_97) ?_
  exact (s_iret rfl dX4_ropeOfCodes_100)
set_option maxRecDepth 100000 in
set_option maxHeartbeats 4000000 in
theorem C_X4_ropeOfCodes (l : Launch) : Ct l yX4_ropeOfCodes cX4_ropeOfCodes 7 (some .int) 17 438 m_X4_ropeOfCodes := Ct_of (y := yX4_ropeOfCodes) (by decide +kernel) S_X4_ropeOfCodes
set_option maxRecDepth 100000 in
set_option maxHeartbeats 4000000 in
theorem S_X1_isPair {l : Launch} : Sim l (fun _ => True) RX1 "isPair" cX1_isPair 2 (some .boolean) 0 0 [] b_X1_isPair 0 26 := by
  unfold b_X1_isPair
  refine Sim.sq (p1 := 1) (s_iload_n rfl dX1_isPair_0) ?_
  refine Sim.sq (p1 := 25) (Sim.bk ?_) ?_
  · refine Sim.sq (p1 := 24) (Sim.bk ?_) ?_
    · refine Sim.sq (p1 := 4) (s_if_le dX1_isPair_1 (by decide) rfl) ?_
      refine Sim.sq (p1 := 5) (s_iload_n rfl dX1_isPair_4) ?_
      refine Sim.sq (p1 := 8) (s_sipush (by decide +kernel) dX1_isPair_5) ?_
      refine Sim.sq (p1 := 11) (s_icmp_ge dX1_isPair_8 (by decide) rfl) ?_
      refine Sim.sq (p1 := 12) (s_aload_n rfl dX1_isPair_11) ?_
      refine Sim.sq (p1 := 15) (s_getr (rfl : vwCl[1]? = some (RX1, TX1, 10)) (by decide) (by decide) inG1 kw44 rfl dX1_isPair_12) ?_
      refine Sim.sq (p1 := 16) (s_iload_n rfl dX1_isPair_15) ?_
      refine Sim.sq (p1 := 17) (s_iald dX1_isPair_16) ?_
      refine Sim.sq (p1 := 20) (s_if_eq dX1_isPair_17 (by decide) rfl) ?_
      refine Sim.sq (p1 := 21) (s_iconst (by decide +kernel) dX1_isPair_20) ?_
      exact (s_goto dX1_isPair_21 (by decide) rfl)
    exact (s_iconst (by decide +kernel) dX1_isPair_24)
  exact (s_zret rfl dX1_isPair_25)
set_option maxRecDepth 100000 in
set_option maxHeartbeats 4000000 in
theorem C_X1_isPair (l : Launch) : Ct l yX1_isPair cX1_isPair 2 (some .boolean) 0 0 m_X1_isPair := Ct_of (y := yX1_isPair) (by decide +kernel) S_X1_isPair
set_option maxRecDepth 100000 in
set_option maxHeartbeats 4000000 in
theorem S_X1_leftOf {l : Launch} : Sim l (fun _ => True) RX1 "leftOf" cX1_leftOf 2 (some .int) 0 0 [] b_X1_leftOf 0 22 := by
  unfold b_X1_leftOf
  refine Sim.sq (p1 := 1) (s_iload_n rfl dX1_leftOf_0) ?_
  refine Sim.sq (p1 := 21) (Sim.bk ?_) ?_
  · refine Sim.sq (p1 := 20) (Sim.bk ?_) ?_
    · refine Sim.sq (p1 := 4) (s_if_le dX1_leftOf_1 (by decide) rfl) ?_
      refine Sim.sq (p1 := 5) (s_iload_n rfl dX1_leftOf_4) ?_
      refine Sim.sq (p1 := 8) (s_sipush (by decide +kernel) dX1_leftOf_5) ?_
      refine Sim.sq (p1 := 11) (s_icmp_ge dX1_leftOf_8 (by decide) rfl) ?_
      refine Sim.sq (p1 := 12) (s_aload_n rfl dX1_leftOf_11) ?_
      refine Sim.sq (p1 := 15) (s_getr (rfl : vwCl[1]? = some (RX1, TX1, 10)) (by decide) (by decide) inG1 kw44 rfl dX1_leftOf_12) ?_
      refine Sim.sq (p1 := 16) (s_iload_n rfl dX1_leftOf_15) ?_
      refine Sim.sq (p1 := 17) (s_iald dX1_leftOf_16) ?_
      exact (s_goto dX1_leftOf_17 (by decide) rfl)
    exact (s_iconst (by decide +kernel) dX1_leftOf_20)
  exact (s_iret rfl dX1_leftOf_21)
set_option maxRecDepth 100000 in
set_option maxHeartbeats 4000000 in
theorem C_X1_leftOf (l : Launch) : Ct l yX1_leftOf cX1_leftOf 2 (some .int) 0 0 m_X1_leftOf := Ct_of (y := yX1_leftOf) (by decide +kernel) S_X1_leftOf
set_option maxRecDepth 100000 in
set_option maxHeartbeats 4000000 in
theorem S_X4_liesInsideAPart {l : Launch} : Sim l (fun _ => True) RX4 "liesInsideAPart" cX4_liesInsideAPart 3 (some .boolean) 1 21 [] b_X4_liesInsideAPart 0 52 := by
  unfold b_X4_liesInsideAPart
  refine Sim.sq (p1 := 1) (s_aload_n rfl dX4_liesInsideAPart_0) ?_
  refine Sim.sq (p1 := 4) (s_getr (rfl : vwCl[4]? = some (RX4, TX4, 6)) (by decide) (by decide) inG4 kw79 rfl dX4_liesInsideAPart_1) ?_
  refine Sim.sq (p1 := 5) (s_iload_n rfl dX4_liesInsideAPart_4) ?_
  refine Sim.sq (p1 := 8) (s_callV (C_X1_isPair l) (rfl : vwCl[1]? = some (RX1, TX1, 10)) (by decide) kw354 kw355 kw356 kw17 kw357 ⟨rfl, by decide +kernel, by decide +kernel, by decide +kernel⟩ ⟨by decide, by decide⟩ shN1 dX4_liesInsideAPart_5) ?_
  refine Sim.sq (p1 := 51) (Sim.bk ?_) ?_
  · refine Sim.sq (p1 := 50) (Sim.bk ?_) ?_
    · refine Sim.sq (p1 := 11) (s_if_eq dX4_liesInsideAPart_8 (by decide) rfl) ?_
      refine Sim.sq (p1 := 12) (s_iload_n rfl dX4_liesInsideAPart_11) ?_
      refine Sim.sq (p1 := 15) (s_if_le dX4_liesInsideAPart_12 (by decide) rfl) ?_
      refine Sim.sq (p1 := 16) (s_iload_n rfl dX4_liesInsideAPart_15) ?_
      refine Sim.sq (p1 := 17) (s_aload_n rfl dX4_liesInsideAPart_16) ?_
      refine Sim.sq (p1 := 20) (s_getr (rfl : vwCl[4]? = some (RX4, TX4, 6)) (by decide) (by decide) inG4 kw79 rfl dX4_liesInsideAPart_17) ?_
      refine Sim.sq (p1 := 21) (s_iload_n rfl dX4_liesInsideAPart_20) ?_
      refine Sim.sq (p1 := 24) (s_callV (C_X1_sizeOf l) (rfl : vwCl[1]? = some (RX1, TX1, 10)) (by decide) kw310 kw269 kw270 kw17 kw271 ⟨rfl, by decide +kernel, by decide +kernel, by decide +kernel⟩ ⟨by decide, by decide⟩ shN1 dX4_liesInsideAPart_21) ?_
      refine Sim.sq (p1 := 27) (s_icmp_ge dX4_liesInsideAPart_24 (by decide) rfl) ?_
      refine Sim.sq (p1 := 28) (s_iload_n rfl dX4_liesInsideAPart_27) ?_
      refine Sim.sq (p1 := 29) (s_aload_n rfl dX4_liesInsideAPart_28) ?_
      refine Sim.sq (p1 := 32) (s_getr (rfl : vwCl[4]? = some (RX4, TX4, 6)) (by decide) (by decide) inG4 kw79 rfl dX4_liesInsideAPart_29) ?_
      refine Sim.sq (p1 := 33) (s_aload_n rfl dX4_liesInsideAPart_32) ?_
      refine Sim.sq (p1 := 36) (s_getr (rfl : vwCl[4]? = some (RX4, TX4, 6)) (by decide) (by decide) inG4 kw79 rfl dX4_liesInsideAPart_33) ?_
      refine Sim.sq (p1 := 37) (s_iload_n rfl dX4_liesInsideAPart_36) ?_
      refine Sim.sq (p1 := 40) (s_callV (C_X1_leftOf l) (rfl : vwCl[1]? = some (RX1, TX1, 10)) (by decide) kw358 kw359 kw360 kw17 kw361 ⟨rfl, by decide +kernel, by decide +kernel, by decide +kernel⟩ ⟨by decide, by decide⟩ shN1 dX4_liesInsideAPart_37) ?_
      refine Sim.sq (p1 := 43) (s_callV (C_X1_sizeOf l) (rfl : vwCl[1]? = some (RX1, TX1, 10)) (by decide) kw310 kw269 kw270 kw17 kw271 ⟨rfl, by decide +kernel, by decide +kernel, by decide +kernel⟩ ⟨by decide, by decide⟩ shN1 dX4_liesInsideAPart_40) ?_
      refine Sim.sq (p1 := 46) (s_icmp_eq dX4_liesInsideAPart_43 (by decide) rfl) ?_
      refine Sim.sq (p1 := 47) (s_iconst (by decide +kernel) dX4_liesInsideAPart_46) ?_
      exact (s_goto dX4_liesInsideAPart_47 (by decide) rfl)
    exact (s_iconst (by decide +kernel) dX4_liesInsideAPart_50)
  exact (s_zret rfl dX4_liesInsideAPart_51)
set_option maxRecDepth 100000 in
set_option maxHeartbeats 4000000 in
theorem C_X4_liesInsideAPart (l : Launch) : Ct l yX4_liesInsideAPart cX4_liesInsideAPart 3 (some .boolean) 1 21 m_X4_liesInsideAPart := Ct_of (y := yX4_liesInsideAPart) (by decide +kernel) S_X4_liesInsideAPart
set_option maxRecDepth 100000 in
set_option maxHeartbeats 4000000 in
theorem S_X1_rightOf {l : Launch} : Sim l (fun _ => True) RX1 "rightOf" cX1_rightOf 2 (some .int) 0 0 [] b_X1_rightOf 0 22 := by
  unfold b_X1_rightOf
  refine Sim.sq (p1 := 1) (s_iload_n rfl dX1_rightOf_0) ?_
  refine Sim.sq (p1 := 21) (Sim.bk ?_) ?_
  · refine Sim.sq (p1 := 20) (Sim.bk ?_) ?_
    · refine Sim.sq (p1 := 4) (s_if_le dX1_rightOf_1 (by decide) rfl) ?_
      refine Sim.sq (p1 := 5) (s_iload_n rfl dX1_rightOf_4) ?_
      refine Sim.sq (p1 := 8) (s_sipush (by decide +kernel) dX1_rightOf_5) ?_
      refine Sim.sq (p1 := 11) (s_icmp_ge dX1_rightOf_8 (by decide) rfl) ?_
      refine Sim.sq (p1 := 12) (s_aload_n rfl dX1_rightOf_11) ?_
      refine Sim.sq (p1 := 15) (s_getr (rfl : vwCl[1]? = some (RX1, TX1, 10)) (by decide) (by decide) inG1 kw45 rfl dX1_rightOf_12) ?_
      refine Sim.sq (p1 := 16) (s_iload_n rfl dX1_rightOf_15) ?_
      refine Sim.sq (p1 := 17) (s_iald dX1_rightOf_16) ?_
      exact (s_goto dX1_rightOf_17 (by decide) rfl)
    exact (s_iconst (by decide +kernel) dX1_rightOf_20)
  exact (s_iret rfl dX1_rightOf_21)
set_option maxRecDepth 100000 in
set_option maxHeartbeats 4000000 in
theorem C_X1_rightOf (l : Launch) : Ct l yX1_rightOf cX1_rightOf 2 (some .int) 0 0 m_X1_rightOf := Ct_of (y := yX1_rightOf) (by decide +kernel) S_X1_rightOf
set_option maxRecDepth 100000 in
set_option maxHeartbeats 4000000 in
theorem S_X1_codeOf {l : Launch} : Sim l (fun _ => True) RX1 "codeOf" cX1_codeOf 5 (some .int) 0 0 [] b_X1_codeOf 0 60 := by
  unfold b_X1_codeOf
  refine Sim.sq (p1 := 1) (s_iload_n rfl dX1_codeOf_0) ?_
  refine Sim.sq (p1 := 23) (Sim.bk ?_) ?_
  · refine Sim.sq (p1 := 21) (Sim.bk ?_) ?_
    · refine Sim.sq (p1 := 4) (s_if_le dX1_codeOf_1 (by decide) rfl) ?_
      refine Sim.sq (p1 := 5) (s_iload_n rfl dX1_codeOf_4) ?_
      refine Sim.sq (p1 := 8) (s_sipush (by decide +kernel) dX1_codeOf_5) ?_
      refine Sim.sq (p1 := 11) (s_icmp_ge dX1_codeOf_8 (by decide) rfl) ?_
      refine Sim.sq (p1 := 12) (s_iload_n rfl dX1_codeOf_11) ?_
      refine Sim.sq (p1 := 15) (s_if_lt dX1_codeOf_12 (by decide) rfl) ?_
      refine Sim.sq (p1 := 16) (s_iload_n rfl dX1_codeOf_15) ?_
      refine Sim.sq (p1 := 18) (s_bipush (by decide +kernel) dX1_codeOf_16) ?_
      exact (s_icmp_lt dX1_codeOf_18 (by decide) rfl)
    refine Sim.sq (p1 := 22) (s_iconst (by decide +kernel) dX1_codeOf_21) ?_
    exact (s_iret rfl dX1_codeOf_22)
  refine Sim.sq (p1 := 24) (s_iload_n rfl dX1_codeOf_23) ?_
  refine Sim.sq (p1 := 26) (s_bipush (by decide +kernel) dX1_codeOf_24) ?_
  refine Sim.sq (p1 := 44) (Sim.bk ?_) ?_
  · refine Sim.sq (p1 := 38) (Sim.bk ?_) ?_
    · refine Sim.sq (p1 := 29) (s_icmp_ge dX1_codeOf_26 (by decide) rfl) ?_
      refine Sim.sq (p1 := 30) (s_aload_n rfl dX1_codeOf_29) ?_
      refine Sim.sq (p1 := 33) (s_getr (rfl : vwCl[1]? = some (RX1, TX1, 10)) (by decide) (by decide) inG1 kw48 rfl dX1_codeOf_30) ?_
      refine Sim.sq (p1 := 34) (s_iload_n rfl dX1_codeOf_33) ?_
      refine Sim.sq (p1 := 35) (s_lald dX1_codeOf_34) ?_
      exact (s_goto dX1_codeOf_35 (by decide) rfl)
    refine Sim.sq (p1 := 39) (s_aload_n rfl dX1_codeOf_38) ?_
    refine Sim.sq (p1 := 42) (s_getr (rfl : vwCl[1]? = some (RX1, TX1, 10)) (by decide) (by decide) inG1 kw49 rfl dX1_codeOf_39) ?_
    refine Sim.sq (p1 := 43) (s_iload_n rfl dX1_codeOf_42) ?_
    exact (s_lald dX1_codeOf_43)
  refine Sim.sq (p1 := 45) (s_lstore_n rfl (by decide) dX1_codeOf_44) ?_
  refine Sim.sq (p1 := 46) (s_lload_n rfl dX1_codeOf_45) ?_
  refine Sim.sq (p1 := 48) (s_bipush (by decide +kernel) dX1_codeOf_46) ?_
  refine Sim.sq (p1 := 49) (s_iload_n rfl dX1_codeOf_48) ?_
  refine Sim.sq (p1 := 51) (s_bipush (by decide +kernel) dX1_codeOf_49) ?_
  refine Sim.sq (p1 := 52) (s_irem dX1_codeOf_51) ?_
  refine Sim.sq (p1 := 53) (s_imul dX1_codeOf_52) ?_
  refine Sim.sq (p1 := 54) (s_lushr dX1_codeOf_53) ?_
  refine Sim.sq (p1 := 57) (s_ldc2 kw378 dX1_codeOf_54) ?_
  refine Sim.sq (p1 := 58) (s_land dX1_codeOf_57) ?_
  refine Sim.sq (p1 := 59) (s_l2i dX1_codeOf_58) ?_
  exact (s_iret rfl dX1_codeOf_59)
set_option maxRecDepth 100000 in
set_option maxHeartbeats 4000000 in
theorem C_X1_codeOf (l : Launch) : Ct l yX1_codeOf cX1_codeOf 5 (some .int) 0 0 m_X1_codeOf := Ct_of (y := yX1_codeOf) (by decide +kernel) S_X1_codeOf
set_option maxRecDepth 100000 in
set_option maxHeartbeats 4000000 in
theorem S_X1_appendCodes {l : Launch} : Sim l (fun _ => True) RX1 "appendCodes" cX1_appendCodes 6 none 1 25 [] b_X1_appendCodes 0 29 := by
  unfold b_X1_appendCodes
  refine Sim.sq (p1 := 1) (s_iload_n rfl dX1_appendCodes_0) ?_
  refine Sim.sq (p1 := 3) (s_istore (by decide) dX1_appendCodes_1) ?_
  refine Sim.sq (p1 := 28) (Sim.lp ?_) ?_
  · refine Sim.sq (p1 := 5) (s_iload dX1_appendCodes_3) ?_
    refine Sim.sq (p1 := 7) (s_iload dX1_appendCodes_5) ?_
    refine Sim.bk ?_
    refine Sim.sq (p1 := 10) (s_icmp_ge dX1_appendCodes_7 (by decide) rfl) ?_
    refine Sim.sq (p1 := 11) (s_aload_n rfl dX1_appendCodes_10) ?_
    refine Sim.sq (p1 := 12) (s_iload_n rfl dX1_appendCodes_11) ?_
    refine Sim.sq (p1 := 13) (s_aload_n rfl dX1_appendCodes_12) ?_
    refine Sim.sq (p1 := 14) (s_iload_n rfl dX1_appendCodes_13) ?_
    refine Sim.sq (p1 := 16) (s_iload dX1_appendCodes_14) ?_
    refine Sim.sq (p1 := 19) (s_callV (C_X1_codeOf l) (rfl : vwCl[1]? = some (RX1, TX1, 10)) (by decide) kw374 kw375 kw376 kw17 kw377 ⟨rfl, by decide +kernel, by decide +kernel, by decide +kernel⟩ ⟨by decide, by decide⟩ shN1 dX1_appendCodes_16) ?_
    refine Sim.sq (p1 := 22) (s_callV (C_X1_append l) (rfl : vwCl[1]? = some (RX1, TX1, 10)) (by decide) kw379 kw323 kw324 kw17 kw325 ⟨rfl, by decide +kernel, by decide +kernel, by decide +kernel⟩ ⟨by decide, by decide⟩ shN1 dX1_appendCodes_19) ?_
    refine Sim.sq (p1 := 25) (s_iinc (by decide +kernel) (by decide) dX1_appendCodes_22) ?_
    exact (s_goto dX1_appendCodes_25 (by decide) rfl)
  exact (s_vret rfl dX1_appendCodes_28)
set_option maxRecDepth 100000 in
set_option maxHeartbeats 4000000 in
theorem C_X1_appendCodes (l : Launch) : Ct l yX1_appendCodes cX1_appendCodes 6 none 1 25 m_X1_appendCodes := Ct_of (y := yX1_appendCodes) (by decide +kernel) S_X1_appendCodes
set_option maxRecDepth 100000 in
set_option maxHeartbeats 4000000 in
theorem S_X4_splitHere {l : Launch} : Sim l (fun _ => True) RX4 "splitHere" cX4_splitHere 4 none 3 63 [] b_X4_splitHere 0 133 := by
  unfold b_X4_splitHere
  refine Sim.sq (p1 := 1) (s_aload_n rfl dX4_splitHere_0) ?_
  refine Sim.sq (p1 := 4) (s_getr (rfl : vwCl[4]? = some (RX4, TX4, 6)) (by decide) (by decide) inG4 kw79 rfl dX4_splitHere_1) ?_
  refine Sim.sq (p1 := 5) (s_iload_n rfl dX4_splitHere_4) ?_
  refine Sim.sq (p1 := 8) (s_callV (C_X1_sizeOf l) (rfl : vwCl[1]? = some (RX1, TX1, 10)) (by decide) kw310 kw269 kw270 kw17 kw271 ⟨rfl, by decide +kernel, by decide +kernel, by decide +kernel⟩ ⟨by decide, by decide⟩ shN1 dX4_splitHere_5) ?_
  refine Sim.sq (p1 := 9) (s_istore_n rfl (by decide) dX4_splitHere_8) ?_
  refine Sim.sq (p1 := 10) (s_iload_n rfl dX4_splitHere_9) ?_
  refine Sim.sq (p1 := 132) (Sim.bk ?_) ?_
  · refine Sim.sq (p1 := 26) (Sim.bk ?_) ?_
    · refine Sim.sq (p1 := 13) (s_if_gt dX4_splitHere_10 (by decide) rfl) ?_
      refine Sim.sq (p1 := 14) (s_aload_n rfl dX4_splitHere_13) ?_
      refine Sim.sq (p1 := 15) (s_iconst (by decide +kernel) dX4_splitHere_14) ?_
      refine Sim.sq (p1 := 18) (s_puti (rfl : vwCl[4]? = some (RX4, TX4, 6)) (by decide) (by decide) inG4 kw84 rfl tyX4 tyX4_ok nmX4 rfl (by decide +kernel) dX4_splitHere_15) ?_
      refine Sim.sq (p1 := 19) (s_aload_n rfl dX4_splitHere_18) ?_
      refine Sim.sq (p1 := 20) (s_iload_n rfl dX4_splitHere_19) ?_
      refine Sim.sq (p1 := 23) (s_puti (rfl : vwCl[4]? = some (RX4, TX4, 6)) (by decide) (by decide) inG4 kw86 rfl tyX4 tyX4_ok nmX4 rfl (by decide +kernel) dX4_splitHere_20) ?_
      exact (s_goto dX4_splitHere_23 (by decide) rfl)
    refine Sim.sq (p1 := 27) (s_iload_n rfl dX4_splitHere_26) ?_
    refine Sim.sq (p1 := 28) (s_iload_n rfl dX4_splitHere_27) ?_
    refine Sim.sq (p1 := 44) (Sim.bk ?_) ?_
    · refine Sim.sq (p1 := 31) (s_icmp_lt dX4_splitHere_28 (by decide) rfl) ?_
      refine Sim.sq (p1 := 32) (s_aload_n rfl dX4_splitHere_31) ?_
      refine Sim.sq (p1 := 33) (s_iload_n rfl dX4_splitHere_32) ?_
      refine Sim.sq (p1 := 36) (s_puti (rfl : vwCl[4]? = some (RX4, TX4, 6)) (by decide) (by decide) inG4 kw84 rfl tyX4 tyX4_ok nmX4 rfl (by decide +kernel) dX4_splitHere_33) ?_
      refine Sim.sq (p1 := 37) (s_aload_n rfl dX4_splitHere_36) ?_
      refine Sim.sq (p1 := 38) (s_iconst (by decide +kernel) dX4_splitHere_37) ?_
      refine Sim.sq (p1 := 41) (s_puti (rfl : vwCl[4]? = some (RX4, TX4, 6)) (by decide) (by decide) inG4 kw86 rfl tyX4 tyX4_ok nmX4 rfl (by decide +kernel) dX4_splitHere_38) ?_
      exact (s_goto dX4_splitHere_41 (by decide) rfl)
    refine Sim.sq (p1 := 45) (s_aload_n rfl dX4_splitHere_44) ?_
    refine Sim.sq (p1 := 48) (s_getr (rfl : vwCl[4]? = some (RX4, TX4, 6)) (by decide) (by decide) inG4 kw79 rfl dX4_splitHere_45) ?_
    refine Sim.sq (p1 := 49) (s_iload_n rfl dX4_splitHere_48) ?_
    refine Sim.sq (p1 := 52) (s_callV (C_X1_isPair l) (rfl : vwCl[1]? = some (RX1, TX1, 10)) (by decide) kw354 kw355 kw356 kw17 kw357 ⟨rfl, by decide +kernel, by decide +kernel, by decide +kernel⟩ ⟨by decide, by decide⟩ shN1 dX4_splitHere_49) ?_
    refine Sim.sq (p1 := 82) (Sim.bk ?_) ?_
    · refine Sim.sq (p1 := 55) (s_if_eq dX4_splitHere_52 (by decide) rfl) ?_
      refine Sim.sq (p1 := 56) (s_aload_n rfl dX4_splitHere_55) ?_
      refine Sim.sq (p1 := 57) (s_aload_n rfl dX4_splitHere_56) ?_
      refine Sim.sq (p1 := 60) (s_getr (rfl : vwCl[4]? = some (RX4, TX4, 6)) (by decide) (by decide) inG4 kw79 rfl dX4_splitHere_57) ?_
      refine Sim.sq (p1 := 61) (s_iload_n rfl dX4_splitHere_60) ?_
      refine Sim.sq (p1 := 64) (s_callV (C_X1_leftOf l) (rfl : vwCl[1]? = some (RX1, TX1, 10)) (by decide) kw358 kw359 kw360 kw17 kw361 ⟨rfl, by decide +kernel, by decide +kernel, by decide +kernel⟩ ⟨by decide, by decide⟩ shN1 dX4_splitHere_61) ?_
      refine Sim.sq (p1 := 67) (s_puti (rfl : vwCl[4]? = some (RX4, TX4, 6)) (by decide) (by decide) inG4 kw84 rfl tyX4 tyX4_ok nmX4 rfl (by decide +kernel) dX4_splitHere_64) ?_
      refine Sim.sq (p1 := 68) (s_aload_n rfl dX4_splitHere_67) ?_
      refine Sim.sq (p1 := 69) (s_aload_n rfl dX4_splitHere_68) ?_
      refine Sim.sq (p1 := 72) (s_getr (rfl : vwCl[4]? = some (RX4, TX4, 6)) (by decide) (by decide) inG4 kw79 rfl dX4_splitHere_69) ?_
      refine Sim.sq (p1 := 73) (s_iload_n rfl dX4_splitHere_72) ?_
      refine Sim.sq (p1 := 76) (s_callV (C_X1_rightOf l) (rfl : vwCl[1]? = some (RX1, TX1, 10)) (by decide) kw362 kw363 kw364 kw17 kw365 ⟨rfl, by decide +kernel, by decide +kernel, by decide +kernel⟩ ⟨by decide, by decide⟩ shN1 dX4_splitHere_73) ?_
      refine Sim.sq (p1 := 79) (s_puti (rfl : vwCl[4]? = some (RX4, TX4, 6)) (by decide) (by decide) inG4 kw86 rfl tyX4 tyX4_ok nmX4 rfl (by decide +kernel) dX4_splitHere_76) ?_
      exact (s_goto dX4_splitHere_79 (by decide) rfl)
    refine Sim.sq (p1 := 83) (s_aload_n rfl dX4_splitHere_82) ?_
    refine Sim.sq (p1 := 84) (s_aload_n rfl dX4_splitHere_83) ?_
    refine Sim.sq (p1 := 87) (s_getr (rfl : vwCl[4]? = some (RX4, TX4, 6)) (by decide) (by decide) inG4 kw79 rfl dX4_splitHere_84) ?_
    refine Sim.sq (p1 := 90) (s_callV (C_X1_newLeaf l) (rfl : vwCl[1]? = some (RX1, TX1, 10)) (by decide) kw311 kw312 kw313 kw17 kw314 ⟨rfl, by decide +kernel, by decide +kernel, by decide +kernel⟩ ⟨by decide, by decide⟩ shN1 dX4_splitHere_87) ?_
    refine Sim.sq (p1 := 93) (s_puti (rfl : vwCl[4]? = some (RX4, TX4, 6)) (by decide) (by decide) inG4 kw84 rfl tyX4 tyX4_ok nmX4 rfl (by decide +kernel) dX4_splitHere_90) ?_
    refine Sim.sq (p1 := 94) (s_aload_n rfl dX4_splitHere_93) ?_
    refine Sim.sq (p1 := 97) (s_getr (rfl : vwCl[4]? = some (RX4, TX4, 6)) (by decide) (by decide) inG4 kw79 rfl dX4_splitHere_94) ?_
    refine Sim.sq (p1 := 98) (s_aload_n rfl dX4_splitHere_97) ?_
    refine Sim.sq (p1 := 101) (s_geti (rfl : vwCl[4]? = some (RX4, TX4, 6)) (by decide) (by decide) inG4 kw84 rfl dX4_splitHere_98) ?_
    refine Sim.sq (p1 := 102) (s_iload_n rfl dX4_splitHere_101) ?_
    refine Sim.sq (p1 := 103) (s_iconst (by decide +kernel) dX4_splitHere_102) ?_
    refine Sim.sq (p1 := 104) (s_iload_n rfl dX4_splitHere_103) ?_
    refine Sim.sq (p1 := 107) (s_callV (C_X1_appendCodes l) (rfl : vwCl[1]? = some (RX1, TX1, 10)) (by decide) kw370 kw371 kw372 kw17 kw373 ⟨rfl, by decide +kernel, by decide +kernel, by decide +kernel⟩ ⟨by decide, by decide⟩ shN1 dX4_splitHere_104) ?_
    refine Sim.sq (p1 := 108) (s_aload_n rfl dX4_splitHere_107) ?_
    refine Sim.sq (p1 := 109) (s_aload_n rfl dX4_splitHere_108) ?_
    refine Sim.sq (p1 := 112) (s_getr (rfl : vwCl[4]? = some (RX4, TX4, 6)) (by decide) (by decide) inG4 kw79 rfl dX4_splitHere_109) ?_
    refine Sim.sq (p1 := 115) (s_callV (C_X1_newLeaf l) (rfl : vwCl[1]? = some (RX1, TX1, 10)) (by decide) kw311 kw312 kw313 kw17 kw314 ⟨rfl, by decide +kernel, by decide +kernel, by decide +kernel⟩ ⟨by decide, by decide⟩ shN1 dX4_splitHere_112) ?_
    refine Sim.sq (p1 := 118) (s_puti (rfl : vwCl[4]? = some (RX4, TX4, 6)) (by decide) (by decide) inG4 kw86 rfl tyX4 tyX4_ok nmX4 rfl (by decide +kernel) dX4_splitHere_115) ?_
    refine Sim.sq (p1 := 119) (s_aload_n rfl dX4_splitHere_118) ?_
    refine Sim.sq (p1 := 122) (s_getr (rfl : vwCl[4]? = some (RX4, TX4, 6)) (by decide) (by decide) inG4 kw79 rfl dX4_splitHere_119) ?_
    refine Sim.sq (p1 := 123) (s_aload_n rfl dX4_splitHere_122) ?_
    refine Sim.sq (p1 := 126) (s_geti (rfl : vwCl[4]? = some (RX4, TX4, 6)) (by decide) (by decide) inG4 kw86 rfl dX4_splitHere_123) ?_
    refine Sim.sq (p1 := 127) (s_iload_n rfl dX4_splitHere_126) ?_
    refine Sim.sq (p1 := 128) (s_iload_n rfl dX4_splitHere_127) ?_
    refine Sim.sq (p1 := 129) (s_iload_n rfl dX4_splitHere_128) ?_
    exact (s_callV (C_X1_appendCodes l) (rfl : vwCl[1]? = some (RX1, TX1, 10)) (by decide) kw370 kw371 kw372 kw17 kw373 ⟨rfl, by decide +kernel, by decide +kernel, by decide +kernel⟩ ⟨by decide, by decide⟩ shN1 dX4_splitHere_129)
  exact (s_vret rfl dX4_splitHere_132)
set_option maxRecDepth 100000 in
set_option maxHeartbeats 4000000 in
theorem C_X4_splitHere (l : Launch) : Ct l yX4_splitHere cX4_splitHere 4 none 3 63 m_X4_splitHere := Ct_of (y := yX4_splitHere) (by decide +kernel) S_X4_splitHere
set_option maxRecDepth 100000 in
set_option maxHeartbeats 4000000 in
theorem S_X1_isLeaf {l : Launch} : Sim l (fun _ => True) RX1 "isLeaf" cX1_isLeaf 2 (some .boolean) 0 0 [] b_X1_isLeaf 0 26 := by
  unfold b_X1_isLeaf
  refine Sim.sq (p1 := 1) (s_iload_n rfl dX1_isLeaf_0) ?_
  refine Sim.sq (p1 := 25) (Sim.bk ?_) ?_
  · refine Sim.sq (p1 := 24) (Sim.bk ?_) ?_
    · refine Sim.sq (p1 := 4) (s_if_le dX1_isLeaf_1 (by decide) rfl) ?_
      refine Sim.sq (p1 := 5) (s_iload_n rfl dX1_isLeaf_4) ?_
      refine Sim.sq (p1 := 8) (s_sipush (by decide +kernel) dX1_isLeaf_5) ?_
      refine Sim.sq (p1 := 11) (s_icmp_ge dX1_isLeaf_8 (by decide) rfl) ?_
      refine Sim.sq (p1 := 12) (s_aload_n rfl dX1_isLeaf_11) ?_
      refine Sim.sq (p1 := 15) (s_getr (rfl : vwCl[1]? = some (RX1, TX1, 10)) (by decide) (by decide) inG1 kw44 rfl dX1_isLeaf_12) ?_
      refine Sim.sq (p1 := 16) (s_iload_n rfl dX1_isLeaf_15) ?_
      refine Sim.sq (p1 := 17) (s_iald dX1_isLeaf_16) ?_
      refine Sim.sq (p1 := 20) (s_if_ne dX1_isLeaf_17 (by decide) rfl) ?_
      refine Sim.sq (p1 := 21) (s_iconst (by decide +kernel) dX1_isLeaf_20) ?_
      exact (s_goto dX1_isLeaf_21 (by decide) rfl)
    exact (s_iconst (by decide +kernel) dX1_isLeaf_24)
  exact (s_zret rfl dX1_isLeaf_25)
set_option maxRecDepth 100000 in
set_option maxHeartbeats 4000000 in
theorem C_X1_isLeaf (l : Launch) : Ct l yX1_isLeaf cX1_isLeaf 2 (some .boolean) 0 0 m_X1_isLeaf := Ct_of (y := yX1_isLeaf) (by decide +kernel) S_X1_isLeaf
set_option maxRecDepth 100000 in
set_option maxHeartbeats 4000000 in
theorem S_X4_fitInOneLeaf {l : Launch} : Sim l (fun _ => True) RX4 "fitInOneLeaf" cX4_fitInOneLeaf 4 (some .boolean) 1 21 [] b_X4_fitInOneLeaf 0 49 := by
  unfold b_X4_fitInOneLeaf
  refine Sim.sq (p1 := 1) (s_aload_n rfl dX4_fitInOneLeaf_0) ?_
  refine Sim.sq (p1 := 4) (s_getr (rfl : vwCl[4]? = some (RX4, TX4, 6)) (by decide) (by decide) inG4 kw79 rfl dX4_fitInOneLeaf_1) ?_
  refine Sim.sq (p1 := 5) (s_iload_n rfl dX4_fitInOneLeaf_4) ?_
  refine Sim.sq (p1 := 8) (s_callV (C_X1_isLeaf l) (rfl : vwCl[1]? = some (RX1, TX1, 10)) (by decide) kw388 kw389 kw390 kw17 kw391 ⟨rfl, by decide +kernel, by decide +kernel, by decide +kernel⟩ ⟨by decide, by decide⟩ shN1 dX4_fitInOneLeaf_5) ?_
  refine Sim.sq (p1 := 48) (Sim.bk ?_) ?_
  · refine Sim.sq (p1 := 47) (Sim.bk ?_) ?_
    · refine Sim.sq (p1 := 11) (s_if_eq dX4_fitInOneLeaf_8 (by decide) rfl) ?_
      refine Sim.sq (p1 := 12) (s_aload_n rfl dX4_fitInOneLeaf_11) ?_
      refine Sim.sq (p1 := 15) (s_getr (rfl : vwCl[4]? = some (RX4, TX4, 6)) (by decide) (by decide) inG4 kw79 rfl dX4_fitInOneLeaf_12) ?_
      refine Sim.sq (p1 := 16) (s_iload_n rfl dX4_fitInOneLeaf_15) ?_
      refine Sim.sq (p1 := 19) (s_callV (C_X1_isLeaf l) (rfl : vwCl[1]? = some (RX1, TX1, 10)) (by decide) kw388 kw389 kw390 kw17 kw391 ⟨rfl, by decide +kernel, by decide +kernel, by decide +kernel⟩ ⟨by decide, by decide⟩ shN1 dX4_fitInOneLeaf_16) ?_
      refine Sim.sq (p1 := 22) (s_if_eq dX4_fitInOneLeaf_19 (by decide) rfl) ?_
      refine Sim.sq (p1 := 23) (s_aload_n rfl dX4_fitInOneLeaf_22) ?_
      refine Sim.sq (p1 := 26) (s_getr (rfl : vwCl[4]? = some (RX4, TX4, 6)) (by decide) (by decide) inG4 kw79 rfl dX4_fitInOneLeaf_23) ?_
      refine Sim.sq (p1 := 27) (s_iload_n rfl dX4_fitInOneLeaf_26) ?_
      refine Sim.sq (p1 := 30) (s_callV (C_X1_sizeOf l) (rfl : vwCl[1]? = some (RX1, TX1, 10)) (by decide) kw310 kw269 kw270 kw17 kw271 ⟨rfl, by decide +kernel, by decide +kernel, by decide +kernel⟩ ⟨by decide, by decide⟩ shN1 dX4_fitInOneLeaf_27) ?_
      refine Sim.sq (p1 := 31) (s_aload_n rfl dX4_fitInOneLeaf_30) ?_
      refine Sim.sq (p1 := 34) (s_getr (rfl : vwCl[4]? = some (RX4, TX4, 6)) (by decide) (by decide) inG4 kw79 rfl dX4_fitInOneLeaf_31) ?_
      refine Sim.sq (p1 := 35) (s_iload_n rfl dX4_fitInOneLeaf_34) ?_
      refine Sim.sq (p1 := 38) (s_callV (C_X1_sizeOf l) (rfl : vwCl[1]? = some (RX1, TX1, 10)) (by decide) kw310 kw269 kw270 kw17 kw271 ⟨rfl, by decide +kernel, by decide +kernel, by decide +kernel⟩ ⟨by decide, by decide⟩ shN1 dX4_fitInOneLeaf_35) ?_
      refine Sim.sq (p1 := 39) (s_iadd dX4_fitInOneLeaf_38) ?_
      refine Sim.sq (p1 := 40) (s_iload_n rfl dX4_fitInOneLeaf_39) ?_
      refine Sim.sq (p1 := 43) (s_icmp_gt dX4_fitInOneLeaf_40 (by decide) rfl) ?_
      refine Sim.sq (p1 := 44) (s_iconst (by decide +kernel) dX4_fitInOneLeaf_43) ?_
      exact (s_goto dX4_fitInOneLeaf_44 (by decide) rfl)
    exact (s_iconst (by decide +kernel) dX4_fitInOneLeaf_47)
  exact (s_zret rfl dX4_fitInOneLeaf_48)
set_option maxRecDepth 100000 in
set_option maxHeartbeats 4000000 in
theorem C_X4_fitInOneLeaf (l : Launch) : Ct l yX4_fitInOneLeaf cX4_fitInOneLeaf 4 (some .boolean) 1 21 m_X4_fitInOneLeaf := Ct_of (y := yX4_fitInOneLeaf) (by decide +kernel) S_X4_fitInOneLeaf
set_option maxRecDepth 100000 in
set_option maxHeartbeats 4000000 in
theorem S_X1_newLeafOfBoth {l : Launch} : Sim l (fun _ => True) RX1 "newLeafOfBoth" cX1_newLeafOfBoth 4 (some .int) 3 63 [] b_X1_newLeafOfBoth 0 31 := by
  unfold b_X1_newLeafOfBoth
  refine Sim.sq (p1 := 1) (s_aload_n rfl dX1_newLeafOfBoth_0) ?_
  refine Sim.sq (p1 := 4) (s_callV (C_X1_newLeaf l) (rfl : vwCl[1]? = some (RX1, TX1, 10)) (by decide) kw396 kw312 kw313 kw17 kw314 ⟨rfl, by decide +kernel, by decide +kernel, by decide +kernel⟩ ⟨by decide, by decide⟩ shN1 dX1_newLeafOfBoth_1) ?_
  refine Sim.sq (p1 := 5) (s_istore_n rfl (by decide) dX1_newLeafOfBoth_4) ?_
  refine Sim.sq (p1 := 6) (s_aload_n rfl dX1_newLeafOfBoth_5) ?_
  refine Sim.sq (p1 := 7) (s_iload_n rfl dX1_newLeafOfBoth_6) ?_
  refine Sim.sq (p1 := 8) (s_iload_n rfl dX1_newLeafOfBoth_7) ?_
  refine Sim.sq (p1 := 9) (s_iconst (by decide +kernel) dX1_newLeafOfBoth_8) ?_
  refine Sim.sq (p1 := 10) (s_aload_n rfl dX1_newLeafOfBoth_9) ?_
  refine Sim.sq (p1 := 11) (s_iload_n rfl dX1_newLeafOfBoth_10) ?_
  refine Sim.sq (p1 := 14) (s_callV (C_X1_sizeOf l) (rfl : vwCl[1]? = some (RX1, TX1, 10)) (by decide) kw337 kw269 kw270 kw17 kw271 ⟨rfl, by decide +kernel, by decide +kernel, by decide +kernel⟩ ⟨by decide, by decide⟩ shN1 dX1_newLeafOfBoth_11) ?_
  refine Sim.sq (p1 := 17) (s_callV (C_X1_appendCodes l) (rfl : vwCl[1]? = some (RX1, TX1, 10)) (by decide) kw397 kw371 kw372 kw17 kw373 ⟨rfl, by decide +kernel, by decide +kernel, by decide +kernel⟩ ⟨by decide, by decide⟩ shN1 dX1_newLeafOfBoth_14) ?_
  refine Sim.sq (p1 := 18) (s_aload_n rfl dX1_newLeafOfBoth_17) ?_
  refine Sim.sq (p1 := 19) (s_iload_n rfl dX1_newLeafOfBoth_18) ?_
  refine Sim.sq (p1 := 20) (s_iload_n rfl dX1_newLeafOfBoth_19) ?_
  refine Sim.sq (p1 := 21) (s_iconst (by decide +kernel) dX1_newLeafOfBoth_20) ?_
  refine Sim.sq (p1 := 22) (s_aload_n rfl dX1_newLeafOfBoth_21) ?_
  refine Sim.sq (p1 := 23) (s_iload_n rfl dX1_newLeafOfBoth_22) ?_
  refine Sim.sq (p1 := 26) (s_callV (C_X1_sizeOf l) (rfl : vwCl[1]? = some (RX1, TX1, 10)) (by decide) kw337 kw269 kw270 kw17 kw271 ⟨rfl, by decide +kernel, by decide +kernel, by decide +kernel⟩ ⟨by decide, by decide⟩ shN1 dX1_newLeafOfBoth_23) ?_
  refine Sim.sq (p1 := 29) (s_callV (C_X1_appendCodes l) (rfl : vwCl[1]? = some (RX1, TX1, 10)) (by decide) kw397 kw371 kw372 kw17 kw373 ⟨rfl, by decide +kernel, by decide +kernel, by decide +kernel⟩ ⟨by decide, by decide⟩ shN1 dX1_newLeafOfBoth_26) ?_
  refine Sim.sq (p1 := 30) (s_iload_n rfl dX1_newLeafOfBoth_29) ?_
  exact (s_iret rfl dX1_newLeafOfBoth_30)
set_option maxRecDepth 100000 in
set_option maxHeartbeats 4000000 in
theorem C_X1_newLeafOfBoth (l : Launch) : Ct l yX1_newLeafOfBoth cX1_newLeafOfBoth 4 (some .int) 3 63 m_X1_newLeafOfBoth := Ct_of (y := yX1_newLeafOfBoth) (by decide +kernel) S_X1_newLeafOfBoth
set_option maxRecDepth 100000 in
set_option maxHeartbeats 4000000 in
theorem S_X4_join {l : Launch} : Sim l (fun _ => True) RX4 "join" cX4_join 6 (some .int) 4 86 [] b_X4_join 0 136 := by
  unfold b_X4_join
  refine Sim.sq (p1 := 1) (s_iload_n rfl dX4_join_0) ?_
  refine Sim.sq (p1 := 6) (Sim.bk ?_) ?_
  · refine Sim.sq (p1 := 4) (s_if_ne dX4_join_1 (by decide) rfl) ?_
    refine Sim.sq (p1 := 5) (s_iload_n rfl dX4_join_4) ?_
    exact (s_iret rfl dX4_join_5)
  refine Sim.sq (p1 := 7) (s_iload_n rfl dX4_join_6) ?_
  refine Sim.sq (p1 := 12) (Sim.bk ?_) ?_
  · refine Sim.sq (p1 := 10) (s_if_ne dX4_join_7 (by decide) rfl) ?_
    refine Sim.sq (p1 := 11) (s_iload_n rfl dX4_join_10) ?_
    exact (s_iret rfl dX4_join_11)
  refine Sim.sq (p1 := 13) (s_aload_n rfl dX4_join_12) ?_
  refine Sim.sq (p1 := 14) (s_iload_n rfl dX4_join_13) ?_
  refine Sim.sq (p1 := 15) (s_iload_n rfl dX4_join_14) ?_
  refine Sim.sq (p1 := 16) (s_iload_n rfl dX4_join_15) ?_
  refine Sim.sq (p1 := 19) (s_callV (C_X4_fitInOneLeaf l) (rfl : vwCl[4]? = some (RX4, TX4, 6)) (by decide) kw384 kw386 kw8 kw16 kw387 ⟨rfl, by decide +kernel, by decide +kernel, by decide +kernel⟩ ⟨by decide, by decide⟩ shN4 dX4_join_16) ?_
  refine Sim.sq (p1 := 32) (Sim.bk ?_) ?_
  · refine Sim.sq (p1 := 22) (s_if_eq dX4_join_19 (by decide) rfl) ?_
    refine Sim.sq (p1 := 23) (s_aload_n rfl dX4_join_22) ?_
    refine Sim.sq (p1 := 26) (s_getr (rfl : vwCl[4]? = some (RX4, TX4, 6)) (by decide) (by decide) inG4 kw79 rfl dX4_join_23) ?_
    refine Sim.sq (p1 := 27) (s_iload_n rfl dX4_join_26) ?_
    refine Sim.sq (p1 := 28) (s_iload_n rfl dX4_join_27) ?_
    refine Sim.sq (p1 := 31) (s_callV (C_X1_newLeafOfBoth l) (rfl : vwCl[1]? = some (RX1, TX1, 10)) (by decide) kw392 kw393 kw394 kw17 kw395 ⟨rfl, by decide +kernel, by decide +kernel, by decide +kernel⟩ ⟨by decide, by decide⟩ shN1 dX4_join_28) ?_
    exact (s_iret rfl dX4_join_31)
  refine Sim.sq (p1 := 33) (s_aload_n rfl dX4_join_32) ?_
  refine Sim.sq (p1 := 36) (s_getr (rfl : vwCl[4]? = some (RX4, TX4, 6)) (by decide) (by decide) inG4 kw79 rfl dX4_join_33) ?_
  refine Sim.sq (p1 := 37) (s_iload_n rfl dX4_join_36) ?_
  refine Sim.sq (p1 := 40) (s_callV (C_X1_rightOf l) (rfl : vwCl[1]? = some (RX1, TX1, 10)) (by decide) kw362 kw363 kw364 kw17 kw365 ⟨rfl, by decide +kernel, by decide +kernel, by decide +kernel⟩ ⟨by decide, by decide⟩ shN1 dX4_join_37) ?_
  refine Sim.sq (p1 := 42) (s_istore (by decide) dX4_join_40) ?_
  refine Sim.sq (p1 := 43) (s_aload_n rfl dX4_join_42) ?_
  refine Sim.sq (p1 := 45) (s_iload dX4_join_43) ?_
  refine Sim.sq (p1 := 46) (s_iload_n rfl dX4_join_45) ?_
  refine Sim.sq (p1 := 47) (s_iload_n rfl dX4_join_46) ?_
  refine Sim.sq (p1 := 50) (s_callV (C_X4_fitInOneLeaf l) (rfl : vwCl[4]? = some (RX4, TX4, 6)) (by decide) kw384 kw386 kw8 kw16 kw387 ⟨rfl, by decide +kernel, by decide +kernel, by decide +kernel⟩ ⟨by decide, by decide⟩ shN4 dX4_join_47) ?_
  refine Sim.sq (p1 := 79) (Sim.bk ?_) ?_
  · refine Sim.sq (p1 := 53) (s_if_eq dX4_join_50 (by decide) rfl) ?_
    refine Sim.sq (p1 := 54) (s_aload_n rfl dX4_join_53) ?_
    refine Sim.sq (p1 := 57) (s_getr (rfl : vwCl[4]? = some (RX4, TX4, 6)) (by decide) (by decide) inG4 kw79 rfl dX4_join_54) ?_
    refine Sim.sq (p1 := 58) (s_aload_n rfl dX4_join_57) ?_
    refine Sim.sq (p1 := 61) (s_getr (rfl : vwCl[4]? = some (RX4, TX4, 6)) (by decide) (by decide) inG4 kw79 rfl dX4_join_58) ?_
    refine Sim.sq (p1 := 62) (s_iload_n rfl dX4_join_61) ?_
    refine Sim.sq (p1 := 65) (s_callV (C_X1_leftOf l) (rfl : vwCl[1]? = some (RX1, TX1, 10)) (by decide) kw358 kw359 kw360 kw17 kw361 ⟨rfl, by decide +kernel, by decide +kernel, by decide +kernel⟩ ⟨by decide, by decide⟩ shN1 dX4_join_62) ?_
    refine Sim.sq (p1 := 66) (s_aload_n rfl dX4_join_65) ?_
    refine Sim.sq (p1 := 69) (s_getr (rfl : vwCl[4]? = some (RX4, TX4, 6)) (by decide) (by decide) inG4 kw79 rfl dX4_join_66) ?_
    refine Sim.sq (p1 := 71) (s_iload dX4_join_69) ?_
    refine Sim.sq (p1 := 72) (s_iload_n rfl dX4_join_71) ?_
    refine Sim.sq (p1 := 75) (s_callV (C_X1_newLeafOfBoth l) (rfl : vwCl[1]? = some (RX1, TX1, 10)) (by decide) kw392 kw393 kw394 kw17 kw395 ⟨rfl, by decide +kernel, by decide +kernel, by decide +kernel⟩ ⟨by decide, by decide⟩ shN1 dX4_join_72) ?_
    refine Sim.sq (p1 := 78) (s_callV (C_X1_newPair l) (rfl : vwCl[1]? = some (RX1, TX1, 10)) (by decide) kw333 kw334 kw335 kw17 kw336 ⟨rfl, by decide +kernel, by decide +kernel, by decide +kernel⟩ ⟨by decide, by decide⟩ shN1 dX4_join_75) ?_
    exact (s_iret rfl dX4_join_78)
  refine Sim.sq (p1 := 80) (s_aload_n rfl dX4_join_79) ?_
  refine Sim.sq (p1 := 83) (s_getr (rfl : vwCl[4]? = some (RX4, TX4, 6)) (by decide) (by decide) inG4 kw79 rfl dX4_join_80) ?_
  refine Sim.sq (p1 := 84) (s_iload_n rfl dX4_join_83) ?_
  refine Sim.sq (p1 := 87) (s_callV (C_X1_leftOf l) (rfl : vwCl[1]? = some (RX1, TX1, 10)) (by decide) kw358 kw359 kw360 kw17 kw361 ⟨rfl, by decide +kernel, by decide +kernel, by decide +kernel⟩ ⟨by decide, by decide⟩ shN1 dX4_join_84) ?_
  refine Sim.sq (p1 := 89) (s_istore (by decide) dX4_join_87) ?_
  refine Sim.sq (p1 := 90) (s_aload_n rfl dX4_join_89) ?_
  refine Sim.sq (p1 := 91) (s_iload_n rfl dX4_join_90) ?_
  refine Sim.sq (p1 := 93) (s_iload dX4_join_91) ?_
  refine Sim.sq (p1 := 94) (s_iload_n rfl dX4_join_93) ?_
  refine Sim.sq (p1 := 97) (s_callV (C_X4_fitInOneLeaf l) (rfl : vwCl[4]? = some (RX4, TX4, 6)) (by decide) kw384 kw386 kw8 kw16 kw387 ⟨rfl, by decide +kernel, by decide +kernel, by decide +kernel⟩ ⟨by decide, by decide⟩ shN4 dX4_join_94) ?_
  refine Sim.sq (p1 := 126) (Sim.bk ?_) ?_
  · refine Sim.sq (p1 := 100) (s_if_eq dX4_join_97 (by decide) rfl) ?_
    refine Sim.sq (p1 := 101) (s_aload_n rfl dX4_join_100) ?_
    refine Sim.sq (p1 := 104) (s_getr (rfl : vwCl[4]? = some (RX4, TX4, 6)) (by decide) (by decide) inG4 kw79 rfl dX4_join_101) ?_
    refine Sim.sq (p1 := 105) (s_aload_n rfl dX4_join_104) ?_
    refine Sim.sq (p1 := 108) (s_getr (rfl : vwCl[4]? = some (RX4, TX4, 6)) (by decide) (by decide) inG4 kw79 rfl dX4_join_105) ?_
    refine Sim.sq (p1 := 109) (s_iload_n rfl dX4_join_108) ?_
    refine Sim.sq (p1 := 111) (s_iload dX4_join_109) ?_
    refine Sim.sq (p1 := 114) (s_callV (C_X1_newLeafOfBoth l) (rfl : vwCl[1]? = some (RX1, TX1, 10)) (by decide) kw392 kw393 kw394 kw17 kw395 ⟨rfl, by decide +kernel, by decide +kernel, by decide +kernel⟩ ⟨by decide, by decide⟩ shN1 dX4_join_111) ?_
    refine Sim.sq (p1 := 115) (s_aload_n rfl dX4_join_114) ?_
    refine Sim.sq (p1 := 118) (s_getr (rfl : vwCl[4]? = some (RX4, TX4, 6)) (by decide) (by decide) inG4 kw79 rfl dX4_join_115) ?_
    refine Sim.sq (p1 := 119) (s_iload_n rfl dX4_join_118) ?_
    refine Sim.sq (p1 := 122) (s_callV (C_X1_rightOf l) (rfl : vwCl[1]? = some (RX1, TX1, 10)) (by decide) kw362 kw363 kw364 kw17 kw365 ⟨rfl, by decide +kernel, by decide +kernel, by decide +kernel⟩ ⟨by decide, by decide⟩ shN1 dX4_join_119) ?_
    refine Sim.sq (p1 := 125) (s_callV (C_X1_newPair l) (rfl : vwCl[1]? = some (RX1, TX1, 10)) (by decide) kw333 kw334 kw335 kw17 kw336 ⟨rfl, by decide +kernel, by decide +kernel, by decide +kernel⟩ ⟨by decide, by decide⟩ shN1 dX4_join_122) ?_
    exact (s_iret rfl dX4_join_125)
  refine Sim.sq (p1 := 127) (s_aload_n rfl dX4_join_126) ?_
  refine Sim.sq (p1 := 130) (s_getr (rfl : vwCl[4]? = some (RX4, TX4, 6)) (by decide) (by decide) inG4 kw79 rfl dX4_join_127) ?_
  refine Sim.sq (p1 := 131) (s_iload_n rfl dX4_join_130) ?_
  refine Sim.sq (p1 := 132) (s_iload_n rfl dX4_join_131) ?_
  refine Sim.sq (p1 := 135) (s_callV (C_X1_newPair l) (rfl : vwCl[1]? = some (RX1, TX1, 10)) (by decide) kw333 kw334 kw335 kw17 kw336 ⟨rfl, by decide +kernel, by decide +kernel, by decide +kernel⟩ ⟨by decide, by decide⟩ shN1 dX4_join_132) ?_
  exact (s_iret rfl dX4_join_135)
set_option maxRecDepth 100000 in
set_option maxHeartbeats 4000000 in
theorem C_X4_join (l : Launch) : Ct l yX4_join cX4_join 6 (some .int) 4 86 m_X4_join := Ct_of (y := yX4_join) (by decide +kernel) S_X4_join
set_option maxRecDepth 100000 in
set_option maxHeartbeats 4000000 in
theorem S_X4_split {l : Launch} : Sim l (fun _ => True) RX4 "split" cX4_split 8 none 5 111 [] b_X4_split 0 234 := by
  unfold b_X4_split b_X4_split_t1 b_X4_split_t0 b_X4_split_l1 b_X4_split_l0
  refine Sim.sq (p1 := 1) (s_iload_n rfl dX4_split_0) ?_
  refine Sim.sq (p1 := 3) (s_istore (by decide) dX4_split_1) ?_
  refine Sim.sq (p1 := 4) (s_iload_n rfl dX4_split_3) ?_
  refine Sim.sq (p1 := 6) (s_istore (by decide) dX4_split_4) ?_
  refine Sim.sq (p1 := 7) (s_iconst (by decide +kernel) dX4_split_6) ?_
  refine Sim.sq (p1 := 9) (s_istore (by decide) dX4_split_7) ?_
  refine Sim.sq (p1 := 141) (Sim.lp ?_) ?_
  · refine Sim.sq (p1 := 11) (s_iload dX4_split_9) ?_
    refine Sim.sq (p1 := 12) (s_aload_n rfl dX4_split_11) ?_
    refine Sim.sq (p1 := 15) (s_getr (rfl : vwCl[4]? = some (RX4, TX4, 6)) (by decide) (by decide) inG4 kw81 rfl dX4_split_12) ?_
    refine Sim.sq (p1 := 16) (s_alen dX4_split_15) ?_
    refine Sim.bk ?_
    refine Sim.sq (p1 := 19) (s_icmp_ge dX4_split_16 (by decide) rfl) ?_
    refine Sim.sq (p1 := 21) (s_iload dX4_split_19) ?_
    refine Sim.sq (p1 := 22) (s_aload_n rfl dX4_split_21) ?_
    refine Sim.sq (p1 := 25) (s_getr (rfl : vwCl[4]? = some (RX4, TX4, 6)) (by decide) (by decide) inG4 kw82 rfl dX4_split_22) ?_
    refine Sim.sq (p1 := 26) (s_alen dX4_split_25) ?_
    refine Sim.sq (p1 := 29) (s_icmp_ge dX4_split_26 (by decide) rfl) ?_
    refine Sim.sq (p1 := 30) (s_aload_n rfl dX4_split_29) ?_
    refine Sim.sq (p1 := 32) (s_iload dX4_split_30) ?_
    refine Sim.sq (p1 := 34) (s_iload dX4_split_32) ?_
    refine Sim.sq (p1 := 37) (s_callV (C_X4_liesInsideAPart l) (rfl : vwCl[4]? = some (RX4, TX4, 6)) (by decide) kw350 kw352 kw6 kw16 kw353 ⟨rfl, by decide +kernel, by decide +kernel, by decide +kernel⟩ ⟨by decide, by decide⟩ shN4 dX4_split_34) ?_
    refine Sim.sq (p1 := 40) (s_if_eq dX4_split_37 (by decide) rfl) ?_
    refine Sim.sq (p1 := 41) (s_aload_n rfl dX4_split_40) ?_
    refine Sim.sq (p1 := 44) (s_getr (rfl : vwCl[4]? = some (RX4, TX4, 6)) (by decide) (by decide) inG4 kw79 rfl dX4_split_41) ?_
    refine Sim.sq (p1 := 45) (s_aload_n rfl dX4_split_44) ?_
    refine Sim.sq (p1 := 48) (s_getr (rfl : vwCl[4]? = some (RX4, TX4, 6)) (by decide) (by decide) inG4 kw79 rfl dX4_split_45) ?_
    refine Sim.sq (p1 := 50) (s_iload dX4_split_48) ?_
    refine Sim.sq (p1 := 53) (s_callV (C_X1_leftOf l) (rfl : vwCl[1]? = some (RX1, TX1, 10)) (by decide) kw358 kw359 kw360 kw17 kw361 ⟨rfl, by decide +kernel, by decide +kernel, by decide +kernel⟩ ⟨by decide, by decide⟩ shN1 dX4_split_50) ?_
    refine Sim.sq (p1 := 56) (s_callV (C_X1_sizeOf l) (rfl : vwCl[1]? = some (RX1, TX1, 10)) (by decide) kw310 kw269 kw270 kw17 kw271 ⟨rfl, by decide +kernel, by decide +kernel, by decide +kernel⟩ ⟨by decide, by decide⟩ shN1 dX4_split_53) ?_
    refine Sim.sq (p1 := 58) (s_istore (by decide) dX4_split_56) ?_
    refine Sim.sq (p1 := 59) (s_aload_n rfl dX4_split_58) ?_
    refine Sim.sq (p1 := 62) (s_getr (rfl : vwCl[4]? = some (RX4, TX4, 6)) (by decide) (by decide) inG4 kw81 rfl dX4_split_59) ?_
    refine Sim.sq (p1 := 64) (s_iload dX4_split_62) ?_
    refine Sim.sq (p1 := 66) (s_iload dX4_split_64) ?_
    refine Sim.sq (p1 := 67) (s_iast dX4_split_66) ?_
    refine Sim.sq (p1 := 68) (s_aload_n rfl dX4_split_67) ?_
    refine Sim.sq (p1 := 71) (s_getr (rfl : vwCl[4]? = some (RX4, TX4, 6)) (by decide) (by decide) inG4 kw82 rfl dX4_split_68) ?_
    refine Sim.sq (p1 := 73) (s_iload dX4_split_71) ?_
    refine Sim.sq (p1 := 75) (s_iload dX4_split_73) ?_
    refine Sim.sq (p1 := 77) (s_iload dX4_split_75) ?_
    refine Sim.sq (p1 := 85) (Sim.bk ?_) ?_
    · refine Sim.sq (p1 := 84) (Sim.bk ?_) ?_
      · refine Sim.sq (p1 := 80) (s_icmp_le dX4_split_77 (by decide) rfl) ?_
        refine Sim.sq (p1 := 81) (s_iconst (by decide +kernel) dX4_split_80) ?_
        exact (s_goto dX4_split_81 (by decide) rfl)
      exact (s_iconst (by decide +kernel) dX4_split_84)
    refine Sim.sq (p1 := 86) (s_zast dX4_split_85) ?_
    refine Sim.sq (p1 := 88) (s_iload dX4_split_86) ?_
    refine Sim.sq (p1 := 90) (s_iload dX4_split_88) ?_
    refine Sim.sq (p1 := 114) (Sim.bk ?_) ?_
    · refine Sim.sq (p1 := 105) (Sim.bk ?_) ?_
      · refine Sim.sq (p1 := 93) (s_icmp_le dX4_split_90 (by decide) rfl) ?_
        refine Sim.sq (p1 := 94) (s_aload_n rfl dX4_split_93) ?_
        refine Sim.sq (p1 := 97) (s_getr (rfl : vwCl[4]? = some (RX4, TX4, 6)) (by decide) (by decide) inG4 kw79 rfl dX4_split_94) ?_
        refine Sim.sq (p1 := 99) (s_iload dX4_split_97) ?_
        refine Sim.sq (p1 := 102) (s_callV (C_X1_rightOf l) (rfl : vwCl[1]? = some (RX1, TX1, 10)) (by decide) kw362 kw363 kw364 kw17 kw365 ⟨rfl, by decide +kernel, by decide +kernel, by decide +kernel⟩ ⟨by decide, by decide⟩ shN1 dX4_split_99) ?_
        exact (s_goto dX4_split_102 (by decide) rfl)
      refine Sim.sq (p1 := 106) (s_aload_n rfl dX4_split_105) ?_
      refine Sim.sq (p1 := 109) (s_getr (rfl : vwCl[4]? = some (RX4, TX4, 6)) (by decide) (by decide) inG4 kw79 rfl dX4_split_106) ?_
      refine Sim.sq (p1 := 111) (s_iload dX4_split_109) ?_
      exact (s_callV (C_X1_leftOf l) (rfl : vwCl[1]? = some (RX1, TX1, 10)) (by decide) kw358 kw359 kw360 kw17 kw361 ⟨rfl, by decide +kernel, by decide +kernel, by decide +kernel⟩ ⟨by decide, by decide⟩ shN1 dX4_split_111)
    refine Sim.sq (p1 := 116) (s_istore (by decide) dX4_split_114) ?_
    refine Sim.sq (p1 := 118) (s_iload dX4_split_116) ?_
    refine Sim.sq (p1 := 120) (s_iload dX4_split_118) ?_
    refine Sim.sq (p1 := 133) (Sim.bk ?_) ?_
    · refine Sim.sq (p1 := 131) (Sim.bk ?_) ?_
      · refine Sim.sq (p1 := 123) (s_icmp_le dX4_split_120 (by decide) rfl) ?_
        refine Sim.sq (p1 := 125) (s_iload dX4_split_123) ?_
        refine Sim.sq (p1 := 127) (s_iload dX4_split_125) ?_
        refine Sim.sq (p1 := 128) (s_isub dX4_split_127) ?_
        exact (s_goto dX4_split_128 (by decide) rfl)
      exact (s_iload dX4_split_131)
    refine Sim.sq (p1 := 135) (s_istore (by decide) dX4_split_133) ?_
    refine Sim.sq (p1 := 138) (s_iinc (by decide +kernel) (by decide) dX4_split_135) ?_
    exact (s_goto dX4_split_138 (by decide) rfl)
  refine Sim.sq (p1 := 142) (s_aload_n rfl dX4_split_141) ?_
  refine Sim.sq (p1 := 144) (s_iload dX4_split_142) ?_
  refine Sim.sq (p1 := 146) (s_iload dX4_split_144) ?_
  refine Sim.sq (p1 := 149) (s_callV (C_X4_splitHere l) (rfl : vwCl[4]? = some (RX4, TX4, 6)) (by decide) kw366 kw368 kw7 kw16 kw369 ⟨rfl, by decide +kernel, by decide +kernel, by decide +kernel⟩ ⟨by decide, by decide⟩ shN4 dX4_split_146) ?_
  refine Sim.sq (p1 := 151) (s_iload dX4_split_149) ?_
  refine Sim.sq (p1 := 152) (s_iconst (by decide +kernel) dX4_split_151) ?_
  refine Sim.sq (p1 := 153) (s_isub dX4_split_152) ?_
  refine Sim.sq (p1 := 155) (s_istore (by decide) dX4_split_153) ?_
  refine Sim.sq (p1 := 233) (Sim.lp ?_) ?_
  · refine Sim.sq (p1 := 157) (s_iload dX4_split_155) ?_
    refine Sim.bk ?_
    refine Sim.sq (p1 := 160) (s_if_lt dX4_split_157 (by decide) rfl) ?_
    refine Sim.sq (p1 := 161) (s_aload_n rfl dX4_split_160) ?_
    refine Sim.sq (p1 := 164) (s_getr (rfl : vwCl[4]? = some (RX4, TX4, 6)) (by decide) (by decide) inG4 kw82 rfl dX4_split_161) ?_
    refine Sim.sq (p1 := 166) (s_iload dX4_split_164) ?_
    refine Sim.sq (p1 := 167) (s_zald dX4_split_166) ?_
    refine Sim.sq (p1 := 227) (Sim.bk ?_) ?_
    · refine Sim.sq (p1 := 200) (Sim.bk ?_) ?_
      · refine Sim.sq (p1 := 170) (s_if_eq dX4_split_167 (by decide) rfl) ?_
        refine Sim.sq (p1 := 171) (s_aload_n rfl dX4_split_170) ?_
        refine Sim.sq (p1 := 172) (s_aload_n rfl dX4_split_171) ?_
        refine Sim.sq (p1 := 173) (s_aload_n rfl dX4_split_172) ?_
        refine Sim.sq (p1 := 176) (s_getr (rfl : vwCl[4]? = some (RX4, TX4, 6)) (by decide) (by decide) inG4 kw79 rfl dX4_split_173) ?_
        refine Sim.sq (p1 := 177) (s_aload_n rfl dX4_split_176) ?_
        refine Sim.sq (p1 := 180) (s_getr (rfl : vwCl[4]? = some (RX4, TX4, 6)) (by decide) (by decide) inG4 kw81 rfl dX4_split_177) ?_
        refine Sim.sq (p1 := 182) (s_iload dX4_split_180) ?_
        refine Sim.sq (p1 := 183) (s_iald dX4_split_182) ?_
        refine Sim.sq (p1 := 186) (s_callV (C_X1_leftOf l) (rfl : vwCl[1]? = some (RX1, TX1, 10)) (by decide) kw358 kw359 kw360 kw17 kw361 ⟨rfl, by decide +kernel, by decide +kernel, by decide +kernel⟩ ⟨by decide, by decide⟩ shN1 dX4_split_183) ?_
        refine Sim.sq (p1 := 187) (s_aload_n rfl dX4_split_186) ?_
        refine Sim.sq (p1 := 190) (s_geti (rfl : vwCl[4]? = some (RX4, TX4, 6)) (by decide) (by decide) inG4 kw84 rfl dX4_split_187) ?_
        refine Sim.sq (p1 := 191) (s_iload_n rfl dX4_split_190) ?_
        refine Sim.sq (p1 := 194) (s_callV (C_X4_join l) (rfl : vwCl[4]? = some (RX4, TX4, 6)) (by decide) kw380 kw381 kw382 kw16 kw383 ⟨rfl, by decide +kernel, by decide +kernel, by decide +kernel⟩ ⟨by decide, by decide⟩ shN4 dX4_split_191) ?_
        refine Sim.sq (p1 := 197) (s_puti (rfl : vwCl[4]? = some (RX4, TX4, 6)) (by decide) (by decide) inG4 kw84 rfl tyX4 tyX4_ok nmX4 rfl (by decide +kernel) dX4_split_194) ?_
        exact (s_goto dX4_split_197 (by decide) rfl)
      refine Sim.sq (p1 := 201) (s_aload_n rfl dX4_split_200) ?_
      refine Sim.sq (p1 := 202) (s_aload_n rfl dX4_split_201) ?_
      refine Sim.sq (p1 := 203) (s_aload_n rfl dX4_split_202) ?_
      refine Sim.sq (p1 := 206) (s_geti (rfl : vwCl[4]? = some (RX4, TX4, 6)) (by decide) (by decide) inG4 kw86 rfl dX4_split_203) ?_
      refine Sim.sq (p1 := 207) (s_aload_n rfl dX4_split_206) ?_
      refine Sim.sq (p1 := 210) (s_getr (rfl : vwCl[4]? = some (RX4, TX4, 6)) (by decide) (by decide) inG4 kw79 rfl dX4_split_207) ?_
      refine Sim.sq (p1 := 211) (s_aload_n rfl dX4_split_210) ?_
      refine Sim.sq (p1 := 214) (s_getr (rfl : vwCl[4]? = some (RX4, TX4, 6)) (by decide) (by decide) inG4 kw81 rfl dX4_split_211) ?_
      refine Sim.sq (p1 := 216) (s_iload dX4_split_214) ?_
      refine Sim.sq (p1 := 217) (s_iald dX4_split_216) ?_
      refine Sim.sq (p1 := 220) (s_callV (C_X1_rightOf l) (rfl : vwCl[1]? = some (RX1, TX1, 10)) (by decide) kw362 kw363 kw364 kw17 kw365 ⟨rfl, by decide +kernel, by decide +kernel, by decide +kernel⟩ ⟨by decide, by decide⟩ shN1 dX4_split_217) ?_
      refine Sim.sq (p1 := 221) (s_iload_n rfl dX4_split_220) ?_
      refine Sim.sq (p1 := 224) (s_callV (C_X4_join l) (rfl : vwCl[4]? = some (RX4, TX4, 6)) (by decide) kw380 kw381 kw382 kw16 kw383 ⟨rfl, by decide +kernel, by decide +kernel, by decide +kernel⟩ ⟨by decide, by decide⟩ shN4 dX4_split_221) ?_
      exact (s_puti (rfl : vwCl[4]? = some (RX4, TX4, 6)) (by decide) (by decide) inG4 kw86 rfl tyX4 tyX4_ok nmX4 rfl (by decide +kernel) dX4_split_224)
    refine Sim.sq (p1 := 230) (s_iinc (by decide +kernel) (by decide) dX4_split_227) ?_
    exact (s_goto dX4_split_230 (by decide) rfl)
  exact (s_vret rfl dX4_split_233)
set_option maxRecDepth 100000 in
set_option maxHeartbeats 4000000 in
theorem C_X4_split (l : Launch) : Ct l yX4_split cX4_split 8 none 5 111 m_X4_split := Ct_of (y := yX4_split) (by decide +kernel) S_X4_split
set_option maxRecDepth 100000 in
set_option maxHeartbeats 4000000 in
theorem S_X2_moveMarksOn {l : Launch} : Sim l (fun _ => True) RX2 "moveMarksOn" cX2_moveMarksOn 4 none 0 0 [] b_X2_moveMarksOn 0 38 := by
  unfold b_X2_moveMarksOn
  refine Sim.sq (p1 := 1) (s_iconst (by decide +kernel) dX2_moveMarksOn_0) ?_
  refine Sim.sq (p1 := 2) (s_istore_n rfl (by decide) dX2_moveMarksOn_1) ?_
  refine Sim.sq (p1 := 37) (Sim.lp ?_) ?_
  · refine Sim.sq (p1 := 3) (s_iload_n rfl dX2_moveMarksOn_2) ?_
    refine Sim.sq (p1 := 4) (s_aload_n rfl dX2_moveMarksOn_3) ?_
    refine Sim.sq (p1 := 7) (s_getr (rfl : vwCl[2]? = some (RX2, TX2, 7)) (by decide) (by decide) inG2 kw145 rfl dX2_moveMarksOn_4) ?_
    refine Sim.sq (p1 := 8) (s_alen dX2_moveMarksOn_7) ?_
    refine Sim.bk ?_
    refine Sim.sq (p1 := 11) (s_icmp_ge dX2_moveMarksOn_8 (by decide) rfl) ?_
    refine Sim.sq (p1 := 12) (s_aload_n rfl dX2_moveMarksOn_11) ?_
    refine Sim.sq (p1 := 15) (s_getr (rfl : vwCl[2]? = some (RX2, TX2, 7)) (by decide) (by decide) inG2 kw145 rfl dX2_moveMarksOn_12) ?_
    refine Sim.sq (p1 := 16) (s_iload_n rfl dX2_moveMarksOn_15) ?_
    refine Sim.sq (p1 := 17) (s_iald dX2_moveMarksOn_16) ?_
    refine Sim.sq (p1 := 18) (s_iload_n rfl dX2_moveMarksOn_17) ?_
    refine Sim.sq (p1 := 31) (Sim.bk ?_) ?_
    · refine Sim.sq (p1 := 21) (s_icmp_lt dX2_moveMarksOn_18 (by decide) rfl) ?_
      refine Sim.sq (p1 := 22) (s_aload_n rfl dX2_moveMarksOn_21) ?_
      refine Sim.sq (p1 := 25) (s_getr (rfl : vwCl[2]? = some (RX2, TX2, 7)) (by decide) (by decide) inG2 kw145 rfl dX2_moveMarksOn_22) ?_
      refine Sim.sq (p1 := 26) (s_iload_n rfl dX2_moveMarksOn_25) ?_
      refine Sim.sq (p1 := 27) (s_dup2 dX2_moveMarksOn_26) ?_
      refine Sim.sq (p1 := 28) (s_iald dX2_moveMarksOn_27) ?_
      refine Sim.sq (p1 := 29) (s_iload_n rfl dX2_moveMarksOn_28) ?_
      refine Sim.sq (p1 := 30) (s_iadd dX2_moveMarksOn_29) ?_
      exact (s_iast dX2_moveMarksOn_30)
    refine Sim.sq (p1 := 34) (s_iinc (by decide +kernel) (by decide) dX2_moveMarksOn_31) ?_
    exact (s_goto dX2_moveMarksOn_34 (by decide) rfl)
  exact (s_vret rfl dX2_moveMarksOn_37)
set_option maxRecDepth 100000 in
set_option maxHeartbeats 4000000 in
theorem C_X2_moveMarksOn (l : Launch) : Ct l yX2_moveMarksOn cX2_moveMarksOn 4 none 0 0 m_X2_moveMarksOn := Ct_of (y := yX2_moveMarksOn) (by decide +kernel) S_X2_moveMarksOn
set_option maxRecDepth 100000 in
set_option maxHeartbeats 4000000 in
theorem S_X5_putIn {l : Launch} : Sim l (fun _ => True) RX5 "putIn" cX5_putIn 6 none 6 138 [] b_X5_putIn 0 87 := by
  unfold b_X5_putIn
  refine Sim.sq (p1 := 1) (s_aload_n rfl dX5_putIn_0) ?_
  refine Sim.sq (p1 := 4) (s_getr (rfl : vwCl[5]? = some (RX5, TX5, 11)) (by decide) (by decide) inG5 kw196 rfl dX5_putIn_1) ?_
  refine Sim.sq (p1 := 7) (s_getiN (rfl : vwCl[2]? = some (RX2, TX2, 7)) (by decide) (by decide) inG2 kn150 rfl dX5_putIn_4) ?_
  refine Sim.sq (p1 := 8) (s_istore_n rfl (by decide) dX5_putIn_7) ?_
  refine Sim.sq (p1 := 9) (s_aload_n rfl dX5_putIn_8) ?_
  refine Sim.sq (p1 := 12) (s_getr (rfl : vwCl[5]? = some (RX5, TX5, 11)) (by decide) (by decide) inG5 kw192 rfl dX5_putIn_9) ?_
  refine Sim.sq (p1 := 13) (s_aload_n rfl dX5_putIn_12) ?_
  refine Sim.sq (p1 := 16) (s_getr (rfl : vwCl[5]? = some (RX5, TX5, 11)) (by decide) (by decide) inG5 kw196 rfl dX5_putIn_13) ?_
  refine Sim.sq (p1 := 19) (s_getiN (rfl : vwCl[2]? = some (RX2, TX2, 7)) (by decide) (by decide) inG2 kn154 rfl dX5_putIn_16) ?_
  refine Sim.sq (p1 := 20) (s_iload_n rfl dX5_putIn_19) ?_
  refine Sim.sq (p1 := 21) (s_iload_n rfl dX5_putIn_20) ?_
  refine Sim.sq (p1 := 24) (s_callV (C_X4_split l) (rfl : vwCl[4]? = some (RX4, TX4, 6)) (by decide) kw346 kw347 kw348 kw16 kw349 ⟨rfl, by decide +kernel, by decide +kernel, by decide +kernel⟩ ⟨by decide, by decide⟩ shN4 dX5_putIn_21) ?_
  refine Sim.sq (p1 := 25) (s_aload_n rfl dX5_putIn_24) ?_
  refine Sim.sq (p1 := 28) (s_getr (rfl : vwCl[5]? = some (RX5, TX5, 11)) (by decide) (by decide) inG5 kw192 rfl dX5_putIn_25) ?_
  refine Sim.sq (p1 := 31) (s_getiN (rfl : vwCl[4]? = some (RX4, TX4, 6)) (by decide) (by decide) inG4 kn85 rfl dX5_putIn_28) ?_
  refine Sim.sq (p1 := 33) (s_istore (by decide) dX5_putIn_31) ?_
  refine Sim.sq (p1 := 34) (s_aload_n rfl dX5_putIn_33) ?_
  refine Sim.sq (p1 := 37) (s_getr (rfl : vwCl[5]? = some (RX5, TX5, 11)) (by decide) (by decide) inG5 kw192 rfl dX5_putIn_34) ?_
  refine Sim.sq (p1 := 40) (s_getiN (rfl : vwCl[4]? = some (RX4, TX4, 6)) (by decide) (by decide) inG4 kn87 rfl dX5_putIn_37) ?_
  refine Sim.sq (p1 := 42) (s_istore (by decide) dX5_putIn_40) ?_
  refine Sim.sq (p1 := 43) (s_aload_n rfl dX5_putIn_42) ?_
  refine Sim.sq (p1 := 46) (s_getr (rfl : vwCl[5]? = some (RX5, TX5, 11)) (by decide) (by decide) inG5 kw196 rfl dX5_putIn_43) ?_
  refine Sim.sq (p1 := 47) (s_aload_n rfl dX5_putIn_46) ?_
  refine Sim.sq (p1 := 50) (s_getr (rfl : vwCl[5]? = some (RX5, TX5, 11)) (by decide) (by decide) inG5 kw192 rfl dX5_putIn_47) ?_
  refine Sim.sq (p1 := 51) (s_aload_n rfl dX5_putIn_50) ?_
  refine Sim.sq (p1 := 54) (s_getr (rfl : vwCl[5]? = some (RX5, TX5, 11)) (by decide) (by decide) inG5 kw192 rfl dX5_putIn_51) ?_
  refine Sim.sq (p1 := 56) (s_iload dX5_putIn_54) ?_
  refine Sim.sq (p1 := 57) (s_iload_n rfl dX5_putIn_56) ?_
  refine Sim.sq (p1 := 58) (s_iload_n rfl dX5_putIn_57) ?_
  refine Sim.sq (p1 := 61) (s_callV (C_X4_join l) (rfl : vwCl[4]? = some (RX4, TX4, 6)) (by decide) kw398 kw381 kw382 kw16 kw383 ⟨rfl, by decide +kernel, by decide +kernel, by decide +kernel⟩ ⟨by decide, by decide⟩ shN4 dX5_putIn_58) ?_
  refine Sim.sq (p1 := 63) (s_iload dX5_putIn_61) ?_
  refine Sim.sq (p1 := 64) (s_iload_n rfl dX5_putIn_63) ?_
  refine Sim.sq (p1 := 67) (s_callV (C_X4_join l) (rfl : vwCl[4]? = some (RX4, TX4, 6)) (by decide) kw398 kw381 kw382 kw16 kw383 ⟨rfl, by decide +kernel, by decide +kernel, by decide +kernel⟩ ⟨by decide, by decide⟩ shN4 dX5_putIn_64) ?_
  refine Sim.sq (p1 := 70) (s_putiN (rfl : vwCl[2]? = some (RX2, TX2, 7)) (by decide) (by decide) inG2 kn154 rfl tyX2 tyX2_ok nmX2 rfl (by decide +kernel) dX5_putIn_67) ?_
  refine Sim.sq (p1 := 71) (s_aload_n rfl dX5_putIn_70) ?_
  refine Sim.sq (p1 := 74) (s_getr (rfl : vwCl[5]? = some (RX5, TX5, 11)) (by decide) (by decide) inG5 kw196 rfl dX5_putIn_71) ?_
  refine Sim.sq (p1 := 75) (s_iload_n rfl dX5_putIn_74) ?_
  refine Sim.sq (p1 := 76) (s_aload_n rfl dX5_putIn_75) ?_
  refine Sim.sq (p1 := 79) (s_getr (rfl : vwCl[5]? = some (RX5, TX5, 11)) (by decide) (by decide) inG5 kw193 rfl dX5_putIn_76) ?_
  refine Sim.sq (p1 := 80) (s_iload_n rfl dX5_putIn_79) ?_
  refine Sim.sq (p1 := 83) (s_callV (C_X1_sizeOf l) (rfl : vwCl[1]? = some (RX1, TX1, 10)) (by decide) kw268 kw269 kw270 kw17 kw271 ⟨rfl, by decide +kernel, by decide +kernel, by decide +kernel⟩ ⟨by decide, by decide⟩ shN1 dX5_putIn_80) ?_
  refine Sim.sq (p1 := 86) (s_callV (C_X2_moveMarksOn l) (rfl : vwCl[2]? = some (RX2, TX2, 7)) (by decide) kw399 kw400 kw401 kw19 kw402 ⟨rfl, by decide +kernel, by decide +kernel, by decide +kernel⟩ ⟨by decide, by decide⟩ shN2 dX5_putIn_83) ?_
  exact (s_vret rfl dX5_putIn_86)
set_option maxRecDepth 100000 in
set_option maxHeartbeats 4000000 in
theorem C_X5_putIn (l : Launch) : Ct l yX5_putIn cX5_putIn 6 none 6 138 m_X5_putIn := Ct_of (y := yX5_putIn) (by decide +kernel) S_X5_putIn
set_option maxRecDepth 100000 in
set_option maxHeartbeats 4000000 in
theorem S_X4_hasBalance {l : Launch} : Sim l (fun _ => True) RX4 "hasBalance" cX4_hasBalance 7 (some .boolean) 1 21 [] b_X4_hasBalance 0 71 := by
  unfold b_X4_hasBalance
  refine Sim.sq (p1 := 1) (s_aload_n rfl dX4_hasBalance_0) ?_
  refine Sim.sq (p1 := 4) (s_getr (rfl : vwCl[4]? = some (RX4, TX4, 6)) (by decide) (by decide) inG4 kw79 rfl dX4_hasBalance_1) ?_
  refine Sim.sq (p1 := 5) (s_iload_n rfl dX4_hasBalance_4) ?_
  refine Sim.sq (p1 := 8) (s_callV (C_X1_sizeOf l) (rfl : vwCl[1]? = some (RX1, TX1, 10)) (by decide) kw310 kw269 kw270 kw17 kw271 ⟨rfl, by decide +kernel, by decide +kernel, by decide +kernel⟩ ⟨by decide, by decide⟩ shN1 dX4_hasBalance_5) ?_
  refine Sim.sq (p1 := 9) (s_istore_n rfl (by decide) dX4_hasBalance_8) ?_
  refine Sim.sq (p1 := 10) (s_iconst (by decide +kernel) dX4_hasBalance_9) ?_
  refine Sim.sq (p1 := 11) (s_istore_n rfl (by decide) dX4_hasBalance_10) ?_
  refine Sim.sq (p1 := 12) (s_iconst (by decide +kernel) dX4_hasBalance_11) ?_
  refine Sim.sq (p1 := 14) (s_istore (by decide) dX4_hasBalance_12) ?_
  refine Sim.sq (p1 := 15) (s_iconst (by decide +kernel) dX4_hasBalance_14) ?_
  refine Sim.sq (p1 := 17) (s_istore (by decide) dX4_hasBalance_15) ?_
  refine Sim.sq (p1 := 56) (Sim.lp ?_) ?_
  · refine Sim.sq (p1 := 19) (s_iload dX4_hasBalance_17) ?_
    refine Sim.sq (p1 := 20) (s_aload_n rfl dX4_hasBalance_19) ?_
    refine Sim.sq (p1 := 23) (s_getr (rfl : vwCl[4]? = some (RX4, TX4, 6)) (by decide) (by decide) inG4 kw79 rfl dX4_hasBalance_20) ?_
    refine Sim.sq (p1 := 24) (s_iload_n rfl dX4_hasBalance_23) ?_
    refine Sim.sq (p1 := 27) (s_callV (C_X1_heightOf l) (rfl : vwCl[1]? = some (RX1, TX1, 10)) (by decide) kw411 kw339 kw340 kw17 kw341 ⟨rfl, by decide +kernel, by decide +kernel, by decide +kernel⟩ ⟨by decide, by decide⟩ shN1 dX4_hasBalance_24) ?_
    refine Sim.bk ?_
    refine Sim.sq (p1 := 30) (s_icmp_ge dX4_hasBalance_27 (by decide) rfl) ?_
    refine Sim.sq (p1 := 31) (s_iload_n rfl dX4_hasBalance_30) ?_
    refine Sim.sq (p1 := 34) (s_sipush (by decide +kernel) dX4_hasBalance_31) ?_
    refine Sim.sq (p1 := 37) (s_icmp_gt dX4_hasBalance_34 (by decide) rfl) ?_
    refine Sim.sq (p1 := 38) (s_iload_n rfl dX4_hasBalance_37) ?_
    refine Sim.sq (p1 := 40) (s_iload dX4_hasBalance_38) ?_
    refine Sim.sq (p1 := 41) (s_iadd dX4_hasBalance_40) ?_
    refine Sim.sq (p1 := 43) (s_istore (by decide) dX4_hasBalance_41) ?_
    refine Sim.sq (p1 := 45) (s_iload dX4_hasBalance_43) ?_
    refine Sim.sq (p1 := 46) (s_istore_n rfl (by decide) dX4_hasBalance_45) ?_
    refine Sim.sq (p1 := 48) (s_iload dX4_hasBalance_46) ?_
    refine Sim.sq (p1 := 50) (s_istore (by decide) dX4_hasBalance_48) ?_
    refine Sim.sq (p1 := 53) (s_iinc (by decide +kernel) (by decide) dX4_hasBalance_50) ?_
    exact (s_goto dX4_hasBalance_53 (by decide) rfl)
  refine Sim.sq (p1 := 57) (s_iload_n rfl dX4_hasBalance_56) ?_
  refine Sim.sq (p1 := 70) (Sim.bk ?_) ?_
  · refine Sim.sq (p1 := 69) (Sim.bk ?_) ?_
    · refine Sim.sq (p1 := 65) (Sim.bk ?_) ?_
      · refine Sim.sq (p1 := 60) (s_if_eq dX4_hasBalance_57 (by decide) rfl) ?_
        refine Sim.sq (p1 := 61) (s_iload_n rfl dX4_hasBalance_60) ?_
        refine Sim.sq (p1 := 62) (s_iload_n rfl dX4_hasBalance_61) ?_
        exact (s_icmp_lt dX4_hasBalance_62 (by decide) rfl)
      refine Sim.sq (p1 := 66) (s_iconst (by decide +kernel) dX4_hasBalance_65) ?_
      exact (s_goto dX4_hasBalance_66 (by decide) rfl)
    exact (s_iconst (by decide +kernel) dX4_hasBalance_69)
  exact (s_zret rfl dX4_hasBalance_70)
set_option maxRecDepth 100000 in
set_option maxHeartbeats 4000000 in
theorem C_X4_hasBalance (l : Launch) : Ct l yX4_hasBalance cX4_hasBalance 7 (some .boolean) 1 21 m_X4_hasBalance := Ct_of (y := yX4_hasBalance) (by decide +kernel) S_X4_hasBalance
set_option maxRecDepth 100000 in
set_option maxHeartbeats 4000000 in
theorem S_X3_addLeaf {l : Launch} : Sim l (fun _ => True) RX3 "addLeaf" cX3_addLeaf 6 none 1 24 [] b_X3_addLeaf 0 116 := by
  unfold b_X3_addLeaf
  refine Sim.sq (p1 := 1) (s_aload_n rfl dX3_addLeaf_0) ?_
  refine Sim.sq (p1 := 4) (s_geti (rfl : vwCl[3]? = some (RX3, TX3, 8)) (by decide) (by decide) inG3 kw117 rfl dX3_addLeaf_1) ?_
  refine Sim.sq (p1 := 7) (s_sipush (by decide +kernel) dX3_addLeaf_4) ?_
  refine Sim.sq (p1 := 11) (Sim.bk ?_) ?_
  · refine Sim.sq (p1 := 10) (s_icmp_lt dX3_addLeaf_7 (by decide) rfl) ?_
    exact (s_vret rfl dX3_addLeaf_10)
  refine Sim.sq (p1 := 12) (s_aload_n rfl dX3_addLeaf_11) ?_
  refine Sim.sq (p1 := 15) (s_getr (rfl : vwCl[3]? = some (RX3, TX3, 8)) (by decide) (by decide) inG3 kw109 rfl dX3_addLeaf_12) ?_
  refine Sim.sq (p1 := 16) (s_aload_n rfl dX3_addLeaf_15) ?_
  refine Sim.sq (p1 := 19) (s_geti (rfl : vwCl[3]? = some (RX3, TX3, 8)) (by decide) (by decide) inG3 kw117 rfl dX3_addLeaf_16) ?_
  refine Sim.sq (p1 := 20) (s_iload_n rfl dX3_addLeaf_19) ?_
  refine Sim.sq (p1 := 21) (s_iast dX3_addLeaf_20) ?_
  refine Sim.sq (p1 := 22) (s_aload_n rfl dX3_addLeaf_21) ?_
  refine Sim.sq (p1 := 25) (s_getr (rfl : vwCl[3]? = some (RX3, TX3, 8)) (by decide) (by decide) inG3 kw111 rfl dX3_addLeaf_22) ?_
  refine Sim.sq (p1 := 26) (s_aload_n rfl dX3_addLeaf_25) ?_
  refine Sim.sq (p1 := 29) (s_geti (rfl : vwCl[3]? = some (RX3, TX3, 8)) (by decide) (by decide) inG3 kw117 rfl dX3_addLeaf_26) ?_
  refine Sim.sq (p1 := 30) (s_aload_n rfl dX3_addLeaf_29) ?_
  refine Sim.sq (p1 := 33) (s_geti (rfl : vwCl[3]? = some (RX3, TX3, 8)) (by decide) (by decide) inG3 kw115 rfl dX3_addLeaf_30) ?_
  refine Sim.sq (p1 := 34) (s_iast dX3_addLeaf_33) ?_
  refine Sim.sq (p1 := 35) (s_aload_n rfl dX3_addLeaf_34) ?_
  refine Sim.sq (p1 := 38) (s_getr (rfl : vwCl[3]? = some (RX3, TX3, 8)) (by decide) (by decide) inG3 kw112 rfl dX3_addLeaf_35) ?_
  refine Sim.sq (p1 := 39) (s_aload_n rfl dX3_addLeaf_38) ?_
  refine Sim.sq (p1 := 42) (s_geti (rfl : vwCl[3]? = some (RX3, TX3, 8)) (by decide) (by decide) inG3 kw117 rfl dX3_addLeaf_39) ?_
  refine Sim.sq (p1 := 43) (s_iload_n rfl dX3_addLeaf_42) ?_
  refine Sim.sq (p1 := 44) (s_iast dX3_addLeaf_43) ?_
  refine Sim.sq (p1 := 45) (s_aload_n rfl dX3_addLeaf_44) ?_
  refine Sim.sq (p1 := 46) (s_dup dX3_addLeaf_45) ?_
  refine Sim.sq (p1 := 49) (s_geti (rfl : vwCl[3]? = some (RX3, TX3, 8)) (by decide) (by decide) inG3 kw117 rfl dX3_addLeaf_46) ?_
  refine Sim.sq (p1 := 50) (s_iconst (by decide +kernel) dX3_addLeaf_49) ?_
  refine Sim.sq (p1 := 51) (s_iadd dX3_addLeaf_50) ?_
  refine Sim.sq (p1 := 54) (s_puti (rfl : vwCl[3]? = some (RX3, TX3, 8)) (by decide) (by decide) inG3 kw117 rfl tyX3 tyX3_ok nmX3 rfl (by decide +kernel) dX3_addLeaf_51) ?_
  refine Sim.sq (p1 := 55) (s_aload_n rfl dX3_addLeaf_54) ?_
  refine Sim.sq (p1 := 56) (s_iload_n rfl dX3_addLeaf_55) ?_
  refine Sim.sq (p1 := 59) (s_callV (C_X1_sizeOf l) (rfl : vwCl[1]? = some (RX1, TX1, 10)) (by decide) kw427 kw269 kw270 kw17 kw271 ⟨rfl, by decide +kernel, by decide +kernel, by decide +kernel⟩ ⟨by decide, by decide⟩ shN1 dX3_addLeaf_56) ?_
  refine Sim.sq (p1 := 61) (s_istore (by decide) dX3_addLeaf_59) ?_
  refine Sim.sq (p1 := 62) (s_iconst (by decide +kernel) dX3_addLeaf_61) ?_
  refine Sim.sq (p1 := 64) (s_istore (by decide) dX3_addLeaf_62) ?_
  refine Sim.sq (p1 := 115) (Sim.lp ?_) ?_
  · refine Sim.sq (p1 := 66) (s_iload dX3_addLeaf_64) ?_
    refine Sim.sq (p1 := 68) (s_iload dX3_addLeaf_66) ?_
    refine Sim.bk ?_
    refine Sim.sq (p1 := 71) (s_icmp_ge dX3_addLeaf_68 (by decide) rfl) ?_
    refine Sim.sq (p1 := 72) (s_aload_n rfl dX3_addLeaf_71) ?_
    refine Sim.sq (p1 := 75) (s_geti (rfl : vwCl[3]? = some (RX3, TX3, 8)) (by decide) (by decide) inG3 kw115 rfl dX3_addLeaf_72) ?_
    refine Sim.sq (p1 := 76) (s_aload_n rfl dX3_addLeaf_75) ?_
    refine Sim.sq (p1 := 79) (s_getr (rfl : vwCl[3]? = some (RX3, TX3, 8)) (by decide) (by decide) inG3 kw107 rfl dX3_addLeaf_76) ?_
    refine Sim.sq (p1 := 80) (s_alen dX3_addLeaf_79) ?_
    refine Sim.sq (p1 := 83) (s_icmp_ge dX3_addLeaf_80 (by decide) rfl) ?_
    refine Sim.sq (p1 := 84) (s_aload_n rfl dX3_addLeaf_83) ?_
    refine Sim.sq (p1 := 87) (s_getr (rfl : vwCl[3]? = some (RX3, TX3, 8)) (by decide) (by decide) inG3 kw107 rfl dX3_addLeaf_84) ?_
    refine Sim.sq (p1 := 88) (s_aload_n rfl dX3_addLeaf_87) ?_
    refine Sim.sq (p1 := 91) (s_geti (rfl : vwCl[3]? = some (RX3, TX3, 8)) (by decide) (by decide) inG3 kw115 rfl dX3_addLeaf_88) ?_
    refine Sim.sq (p1 := 92) (s_aload_n rfl dX3_addLeaf_91) ?_
    refine Sim.sq (p1 := 93) (s_iload_n rfl dX3_addLeaf_92) ?_
    refine Sim.sq (p1 := 95) (s_iload dX3_addLeaf_93) ?_
    refine Sim.sq (p1 := 98) (s_callV (C_X1_codeOf l) (rfl : vwCl[1]? = some (RX1, TX1, 10)) (by decide) kw428 kw375 kw376 kw17 kw377 ⟨rfl, by decide +kernel, by decide +kernel, by decide +kernel⟩ ⟨by decide, by decide⟩ shN1 dX3_addLeaf_95) ?_
    refine Sim.sq (p1 := 99) (s_iast dX3_addLeaf_98) ?_
    refine Sim.sq (p1 := 100) (s_aload_n rfl dX3_addLeaf_99) ?_
    refine Sim.sq (p1 := 101) (s_dup dX3_addLeaf_100) ?_
    refine Sim.sq (p1 := 104) (s_geti (rfl : vwCl[3]? = some (RX3, TX3, 8)) (by decide) (by decide) inG3 kw115 rfl dX3_addLeaf_101) ?_
    refine Sim.sq (p1 := 105) (s_iconst (by decide +kernel) dX3_addLeaf_104) ?_
    refine Sim.sq (p1 := 106) (s_iadd dX3_addLeaf_105) ?_
    refine Sim.sq (p1 := 109) (s_puti (rfl : vwCl[3]? = some (RX3, TX3, 8)) (by decide) (by decide) inG3 kw115 rfl tyX3 tyX3_ok nmX3 rfl (by decide +kernel) dX3_addLeaf_106) ?_
    refine Sim.sq (p1 := 112) (s_iinc (by decide +kernel) (by decide) dX3_addLeaf_109) ?_
    exact (s_goto dX3_addLeaf_112 (by decide) rfl)
  exact (s_vret rfl dX3_addLeaf_115)
set_option maxRecDepth 100000 in
set_option maxHeartbeats 4000000 in
theorem C_X3_addLeaf (l : Launch) : Ct l yX3_addLeaf cX3_addLeaf 6 none 1 24 m_X3_addLeaf := Ct_of (y := yX3_addLeaf) (by decide +kernel) S_X3_addLeaf
set_option maxRecDepth 100000 in
set_option maxHeartbeats 4000000 in
theorem S_X3_read {l : Launch} : Sim l (fun _ => True) RX3 "read" cX3_read 7 none 2 49 [] b_X3_read 0 149 := by
  unfold b_X3_read b_X3_read_t0 b_X3_read_l0
  refine Sim.sq (p1 := 1) (s_aload_n rfl dX3_read_0) ?_
  refine Sim.sq (p1 := 2) (s_iconst (by decide +kernel) dX3_read_1) ?_
  refine Sim.sq (p1 := 5) (s_puti (rfl : vwCl[3]? = some (RX3, TX3, 8)) (by decide) (by decide) inG3 kw115 rfl tyX3 tyX3_ok nmX3 rfl (by decide +kernel) dX3_read_2) ?_
  refine Sim.sq (p1 := 6) (s_aload_n rfl dX3_read_5) ?_
  refine Sim.sq (p1 := 7) (s_iconst (by decide +kernel) dX3_read_6) ?_
  refine Sim.sq (p1 := 10) (s_puti (rfl : vwCl[3]? = some (RX3, TX3, 8)) (by decide) (by decide) inG3 kw117 rfl tyX3 tyX3_ok nmX3 rfl (by decide +kernel) dX3_read_7) ?_
  refine Sim.sq (p1 := 11) (s_iconst (by decide +kernel) dX3_read_10) ?_
  refine Sim.sq (p1 := 12) (s_istore_n rfl (by decide) dX3_read_11) ?_
  refine Sim.sq (p1 := 13) (s_iload_n rfl dX3_read_12) ?_
  refine Sim.sq (p1 := 15) (s_istore (by decide) dX3_read_13) ?_
  refine Sim.sq (p1 := 16) (s_iconst (by decide +kernel) dX3_read_15) ?_
  refine Sim.sq (p1 := 18) (s_istore (by decide) dX3_read_16) ?_
  refine Sim.sq (p1 := 19) (s_iconst (by decide +kernel) dX3_read_18) ?_
  refine Sim.sq (p1 := 21) (s_istore (by decide) dX3_read_19) ?_
  refine Sim.sq (p1 := 148) (Sim.lp ?_) ?_
  · refine Sim.sq (p1 := 23) (s_iload dX3_read_21) ?_
    refine Sim.sq (p1 := 26) (s_sipush (by decide +kernel) dX3_read_23) ?_
    refine Sim.bk ?_
    refine Sim.sq (p1 := 29) (s_icmp_ge dX3_read_26 (by decide) rfl) ?_
    refine Sim.sq (p1 := 31) (s_iload dX3_read_29) ?_
    refine Sim.sq (p1 := 34) (s_if_eq dX3_read_31 (by decide) rfl) ?_
    refine Sim.sq (p1 := 35) (s_aload_n rfl dX3_read_34) ?_
    refine Sim.sq (p1 := 37) (s_iload dX3_read_35) ?_
    refine Sim.sq (p1 := 40) (s_callV (C_X1_isPair l) (rfl : vwCl[1]? = some (RX1, TX1, 10)) (by decide) kw420 kw355 kw356 kw17 kw357 ⟨rfl, by decide +kernel, by decide +kernel, by decide +kernel⟩ ⟨by decide, by decide⟩ shN1 dX3_read_37) ?_
    refine Sim.sq (p1 := 142) (Sim.bk ?_) ?_
    · refine Sim.sq (p1 := 98) (Sim.bk ?_) ?_
      · refine Sim.sq (p1 := 43) (s_if_eq dX3_read_40 (by decide) rfl) ?_
        refine Sim.sq (p1 := 44) (s_iload_n rfl dX3_read_43) ?_
        refine Sim.sq (p1 := 45) (s_aload_n rfl dX3_read_44) ?_
        refine Sim.sq (p1 := 48) (s_getr (rfl : vwCl[3]? = some (RX3, TX3, 8)) (by decide) (by decide) inG3 kw113 rfl dX3_read_45) ?_
        refine Sim.sq (p1 := 49) (s_alen dX3_read_48) ?_
        refine Sim.sq (p1 := 52) (s_icmp_ge dX3_read_49 (by decide) rfl) ?_
        refine Sim.sq (p1 := 53) (s_iload_n rfl dX3_read_52) ?_
        refine Sim.sq (p1 := 54) (s_aload_n rfl dX3_read_53) ?_
        refine Sim.sq (p1 := 57) (s_getr (rfl : vwCl[3]? = some (RX3, TX3, 8)) (by decide) (by decide) inG3 kw114 rfl dX3_read_54) ?_
        refine Sim.sq (p1 := 58) (s_alen dX3_read_57) ?_
        refine Sim.sq (p1 := 61) (s_icmp_ge dX3_read_58 (by decide) rfl) ?_
        refine Sim.sq (p1 := 64) (s_iinc (by decide +kernel) (by decide) dX3_read_61) ?_
        refine Sim.sq (p1 := 65) (s_aload_n rfl dX3_read_64) ?_
        refine Sim.sq (p1 := 68) (s_getr (rfl : vwCl[3]? = some (RX3, TX3, 8)) (by decide) (by decide) inG3 kw113 rfl dX3_read_65) ?_
        refine Sim.sq (p1 := 69) (s_iload_n rfl dX3_read_68) ?_
        refine Sim.sq (p1 := 70) (s_aload_n rfl dX3_read_69) ?_
        refine Sim.sq (p1 := 72) (s_iload dX3_read_70) ?_
        refine Sim.sq (p1 := 75) (s_callV (C_X1_rightOf l) (rfl : vwCl[1]? = some (RX1, TX1, 10)) (by decide) kw421 kw363 kw364 kw17 kw365 ⟨rfl, by decide +kernel, by decide +kernel, by decide +kernel⟩ ⟨by decide, by decide⟩ shN1 dX3_read_72) ?_
        refine Sim.sq (p1 := 76) (s_iast dX3_read_75) ?_
        refine Sim.sq (p1 := 77) (s_aload_n rfl dX3_read_76) ?_
        refine Sim.sq (p1 := 80) (s_getr (rfl : vwCl[3]? = some (RX3, TX3, 8)) (by decide) (by decide) inG3 kw114 rfl dX3_read_77) ?_
        refine Sim.sq (p1 := 81) (s_iload_n rfl dX3_read_80) ?_
        refine Sim.sq (p1 := 83) (s_iload dX3_read_81) ?_
        refine Sim.sq (p1 := 84) (s_iast dX3_read_83) ?_
        refine Sim.sq (p1 := 87) (s_iinc (by decide +kernel) (by decide) dX3_read_84) ?_
        refine Sim.sq (p1 := 88) (s_aload_n rfl dX3_read_87) ?_
        refine Sim.sq (p1 := 90) (s_iload dX3_read_88) ?_
        refine Sim.sq (p1 := 93) (s_callV (C_X1_leftOf l) (rfl : vwCl[1]? = some (RX1, TX1, 10)) (by decide) kw422 kw359 kw360 kw17 kw361 ⟨rfl, by decide +kernel, by decide +kernel, by decide +kernel⟩ ⟨by decide, by decide⟩ shN1 dX3_read_90) ?_
        refine Sim.sq (p1 := 95) (s_istore (by decide) dX3_read_93) ?_
        exact (s_goto dX3_read_95 (by decide) rfl)
      refine Sim.sq (p1 := 99) (s_aload_n rfl dX3_read_98) ?_
      refine Sim.sq (p1 := 100) (s_aload_n rfl dX3_read_99) ?_
      refine Sim.sq (p1 := 102) (s_iload dX3_read_100) ?_
      refine Sim.sq (p1 := 104) (s_iload dX3_read_102) ?_
      refine Sim.sq (p1 := 107) (s_callV (C_X3_addLeaf l) (rfl : vwCl[3]? = some (RX3, TX3, 8)) (by decide) kw423 kw425 kw11 kw18 kw426 ⟨rfl, by decide +kernel, by decide +kernel, by decide +kernel⟩ ⟨by decide, by decide⟩ shN3 dX3_read_104) ?_
      refine Sim.sq (p1 := 110) (s_iinc (by decide +kernel) (by decide) dX3_read_107) ?_
      refine Sim.sq (p1 := 111) (s_iload_n rfl dX3_read_110) ?_
      refine Sim.sq (p1 := 124) (Sim.bk ?_) ?_
      · refine Sim.sq (p1 := 123) (Sim.bk ?_) ?_
        · refine Sim.sq (p1 := 114) (s_if_lt dX3_read_111 (by decide) rfl) ?_
          refine Sim.sq (p1 := 115) (s_aload_n rfl dX3_read_114) ?_
          refine Sim.sq (p1 := 118) (s_getr (rfl : vwCl[3]? = some (RX3, TX3, 8)) (by decide) (by decide) inG3 kw113 rfl dX3_read_115) ?_
          refine Sim.sq (p1 := 119) (s_iload_n rfl dX3_read_118) ?_
          refine Sim.sq (p1 := 120) (s_iald dX3_read_119) ?_
          exact (s_goto dX3_read_120 (by decide) rfl)
        exact (s_iconst (by decide +kernel) dX3_read_123)
      refine Sim.sq (p1 := 126) (s_istore (by decide) dX3_read_124) ?_
      refine Sim.sq (p1 := 127) (s_iload_n rfl dX3_read_126) ?_
      refine Sim.sq (p1 := 140) (Sim.bk ?_) ?_
      · refine Sim.sq (p1 := 139) (Sim.bk ?_) ?_
        · refine Sim.sq (p1 := 130) (s_if_lt dX3_read_127 (by decide) rfl) ?_
          refine Sim.sq (p1 := 131) (s_aload_n rfl dX3_read_130) ?_
          refine Sim.sq (p1 := 134) (s_getr (rfl : vwCl[3]? = some (RX3, TX3, 8)) (by decide) (by decide) inG3 kw114 rfl dX3_read_131) ?_
          refine Sim.sq (p1 := 135) (s_iload_n rfl dX3_read_134) ?_
          refine Sim.sq (p1 := 136) (s_iald dX3_read_135) ?_
          exact (s_goto dX3_read_136 (by decide) rfl)
        exact (s_iconst (by decide +kernel) dX3_read_139)
      exact (s_istore (by decide) dX3_read_140)
    refine Sim.sq (p1 := 145) (s_iinc (by decide +kernel) (by decide) dX3_read_142) ?_
    exact (s_goto dX3_read_145 (by decide) rfl)
  exact (s_vret rfl dX3_read_148)
set_option maxRecDepth 100000 in
set_option maxHeartbeats 4000000 in
theorem C_X3_read (l : Launch) : Ct l yX3_read cX3_read 7 none 2 49 m_X3_read := Ct_of (y := yX3_read) (by decide +kernel) S_X3_read
set_option maxRecDepth 100000 in
set_option maxHeartbeats 4000000 in
theorem S_X5_rebuildText {l : Launch} : Sim l (fun _ => True) RX5 "rebuildText" cX5_rebuildText 1 none 17 438 [] b_X5_rebuildText 0 47 := by
  unfold b_X5_rebuildText
  refine Sim.sq (p1 := 1) (s_aload_n rfl dX5_rebuildText_0) ?_
  refine Sim.sq (p1 := 4) (s_getr (rfl : vwCl[5]? = some (RX5, TX5, 11)) (by decide) (by decide) inG5 kw194 rfl dX5_rebuildText_1) ?_
  refine Sim.sq (p1 := 5) (s_aload_n rfl dX5_rebuildText_4) ?_
  refine Sim.sq (p1 := 8) (s_getr (rfl : vwCl[5]? = some (RX5, TX5, 11)) (by decide) (by decide) inG5 kw193 rfl dX5_rebuildText_5) ?_
  refine Sim.sq (p1 := 9) (s_aload_n rfl dX5_rebuildText_8) ?_
  refine Sim.sq (p1 := 12) (s_getr (rfl : vwCl[5]? = some (RX5, TX5, 11)) (by decide) (by decide) inG5 kw196 rfl dX5_rebuildText_9) ?_
  refine Sim.sq (p1 := 15) (s_getiN (rfl : vwCl[2]? = some (RX2, TX2, 7)) (by decide) (by decide) inG2 kn154 rfl dX5_rebuildText_12) ?_
  refine Sim.sq (p1 := 18) (s_callV (C_X3_read l) (rfl : vwCl[3]? = some (RX3, TX3, 8)) (by decide) kw416 kw417 kw418 kw18 kw419 ⟨rfl, by decide +kernel, by decide +kernel, by decide +kernel⟩ ⟨by decide, by decide⟩ shN3 dX5_rebuildText_15) ?_
  refine Sim.sq (p1 := 19) (s_aload_n rfl dX5_rebuildText_18) ?_
  refine Sim.sq (p1 := 22) (s_getr (rfl : vwCl[5]? = some (RX5, TX5, 11)) (by decide) (by decide) inG5 kw196 rfl dX5_rebuildText_19) ?_
  refine Sim.sq (p1 := 23) (s_aload_n rfl dX5_rebuildText_22) ?_
  refine Sim.sq (p1 := 26) (s_getr (rfl : vwCl[5]? = some (RX5, TX5, 11)) (by decide) (by decide) inG5 kw192 rfl dX5_rebuildText_23) ?_
  refine Sim.sq (p1 := 27) (s_aload_n rfl dX5_rebuildText_26) ?_
  refine Sim.sq (p1 := 30) (s_getr (rfl : vwCl[5]? = some (RX5, TX5, 11)) (by decide) (by decide) inG5 kw194 rfl dX5_rebuildText_27) ?_
  refine Sim.sq (p1 := 33) (s_getrN (rfl : vwCl[3]? = some (RX3, TX3, 8)) (by decide) (by decide) inG3 kn110 rfl dX5_rebuildText_30) ?_
  refine Sim.sq (p1 := 34) (s_aload_n rfl dX5_rebuildText_33) ?_
  refine Sim.sq (p1 := 37) (s_getr (rfl : vwCl[5]? = some (RX5, TX5, 11)) (by decide) (by decide) inG5 kw194 rfl dX5_rebuildText_34) ?_
  refine Sim.sq (p1 := 40) (s_getiN (rfl : vwCl[3]? = some (RX3, TX3, 8)) (by decide) (by decide) inG3 kn118 rfl dX5_rebuildText_37) ?_
  refine Sim.sq (p1 := 43) (s_callV (C_X4_ropeOfLeaves l) (rfl : vwCl[4]? = some (RX4, TX4, 6)) (by decide) kw429 kw327 kw328 kw16 kw329 ⟨rfl, by decide +kernel, by decide +kernel, by decide +kernel⟩ ⟨by decide, by decide⟩ shN4 dX5_rebuildText_40) ?_
  refine Sim.sq (p1 := 46) (s_putiN (rfl : vwCl[2]? = some (RX2, TX2, 7)) (by decide) (by decide) inG2 kn154 rfl tyX2 tyX2_ok nmX2 rfl (by decide +kernel) dX5_rebuildText_43) ?_
  exact (s_vret rfl dX5_rebuildText_46)
set_option maxRecDepth 100000 in
set_option maxHeartbeats 4000000 in
theorem C_X5_rebuildText (l : Launch) : Ct l yX5_rebuildText cX5_rebuildText 1 none 17 438 m_X5_rebuildText := Ct_of (y := yX5_rebuildText) (by decide +kernel) S_X5_rebuildText
set_option maxRecDepth 100000 in
set_option maxHeartbeats 4000000 in
theorem S_X5_balance {l : Launch} : Sim l (fun _ => True) RX5 "balance" cX5_balance 1 none 18 458 [] b_X5_balance 0 46 := by
  unfold b_X5_balance
  refine Sim.sq (p1 := 1) (s_aload_n rfl dX5_balance_0) ?_
  refine Sim.sq (p1 := 4) (s_getr (rfl : vwCl[5]? = some (RX5, TX5, 11)) (by decide) (by decide) inG5 kw196 rfl dX5_balance_1) ?_
  refine Sim.sq (p1 := 7) (s_getiN (rfl : vwCl[2]? = some (RX2, TX2, 7)) (by decide) (by decide) inG2 kn152 rfl dX5_balance_4) ?_
  refine Sim.sq (p1 := 8) (s_iconst (by decide +kernel) dX5_balance_7) ?_
  refine Sim.sq (p1 := 45) (Sim.bk ?_) ?_
  · refine Sim.sq (p1 := 11) (s_icmp_ne dX5_balance_8 (by decide) rfl) ?_
    refine Sim.sq (p1 := 12) (s_aload_n rfl dX5_balance_11) ?_
    refine Sim.sq (p1 := 15) (s_getr (rfl : vwCl[5]? = some (RX5, TX5, 11)) (by decide) (by decide) inG5 kw192 rfl dX5_balance_12) ?_
    refine Sim.sq (p1 := 16) (s_aload_n rfl dX5_balance_15) ?_
    refine Sim.sq (p1 := 19) (s_getr (rfl : vwCl[5]? = some (RX5, TX5, 11)) (by decide) (by decide) inG5 kw196 rfl dX5_balance_16) ?_
    refine Sim.sq (p1 := 22) (s_getiN (rfl : vwCl[2]? = some (RX2, TX2, 7)) (by decide) (by decide) inG2 kn154 rfl dX5_balance_19) ?_
    refine Sim.sq (p1 := 25) (s_callV (C_X4_hasBalance l) (rfl : vwCl[4]? = some (RX4, TX4, 6)) (by decide) kw407 kw408 kw409 kw16 kw410 ⟨rfl, by decide +kernel, by decide +kernel, by decide +kernel⟩ ⟨by decide, by decide⟩ shN4 dX5_balance_22) ?_
    refine Sim.sq (p1 := 28) (s_if_ne dX5_balance_25 (by decide) rfl) ?_
    refine Sim.sq (p1 := 29) (s_aload_n rfl dX5_balance_28) ?_
    refine Sim.sq (p1 := 32) (s_callV (C_X5_rebuildText l) (rfl : vwCl[5]? = some (RX5, TX5, 11)) (by decide) kw412 kw414 kw10 kw15 kw415 ⟨rfl, by decide +kernel, by decide +kernel, by decide +kernel⟩ ⟨by decide, by decide⟩ shN5 dX5_balance_29) ?_
    refine Sim.sq (p1 := 33) (s_aload_n rfl dX5_balance_32) ?_
    refine Sim.sq (p1 := 36) (s_getr (rfl : vwCl[5]? = some (RX5, TX5, 11)) (by decide) (by decide) inG5 kw196 rfl dX5_balance_33) ?_
    refine Sim.sq (p1 := 37) (s_dup dX5_balance_36) ?_
    refine Sim.sq (p1 := 40) (s_getiN (rfl : vwCl[2]? = some (RX2, TX2, 7)) (by decide) (by decide) inG2 kn156 rfl dX5_balance_37) ?_
    refine Sim.sq (p1 := 41) (s_iconst (by decide +kernel) dX5_balance_40) ?_
    refine Sim.sq (p1 := 42) (s_iadd dX5_balance_41) ?_
    exact (s_putiN (rfl : vwCl[2]? = some (RX2, TX2, 7)) (by decide) (by decide) inG2 kn156 rfl tyX2 tyX2_ok nmX2 rfl (by decide +kernel) dX5_balance_42)
  exact (s_vret rfl dX5_balance_45)
set_option maxRecDepth 100000 in
set_option maxHeartbeats 4000000 in
theorem C_X5_balance (l : Launch) : Ct l yX5_balance cX5_balance 1 none 18 458 m_X5_balance := Ct_of (y := yX5_balance) (by decide +kernel) S_X5_balance
set_option maxRecDepth 100000 in
set_option maxHeartbeats 4000000 in
theorem S_X5_insert {l : Launch} : Sim l (fun _ => True) RX5 "insert" cX5_insert 3 (some .int) 19 478 [] b_X5_insert 0 85 := by
  unfold b_X5_insert
  refine Sim.sq (p1 := 1) (s_aload_n rfl dX5_insert_0) ?_
  refine Sim.sq (p1 := 2) (s_iload_n rfl dX5_insert_1) ?_
  refine Sim.sq (p1 := 5) (s_callV (C_X5_isPosition l) (rfl : vwCl[5]? = some (RX5, TX5, 11)) (by decide) kw260 kw262 kw0 kw15 kw263 ⟨rfl, by decide +kernel, by decide +kernel, by decide +kernel⟩ ⟨by decide, by decide⟩ shN5 dX5_insert_2) ?_
  refine Sim.sq (p1 := 10) (Sim.bk ?_) ?_
  · refine Sim.sq (p1 := 8) (s_if_ne dX5_insert_5 (by decide) rfl) ?_
    refine Sim.sq (p1 := 9) (s_iconst (by decide +kernel) dX5_insert_8) ?_
    exact (s_iret rfl dX5_insert_9)
  refine Sim.sq (p1 := 11) (s_aload_n rfl dX5_insert_10) ?_
  refine Sim.sq (p1 := 14) (s_geti (rfl : vwCl[5]? = some (RX5, TX5, 11)) (by decide) (by decide) inG5 kw201 rfl dX5_insert_11) ?_
  refine Sim.sq (p1 := 20) (Sim.bk ?_) ?_
  · refine Sim.sq (p1 := 17) (s_if_ne dX5_insert_14 (by decide) rfl) ?_
    refine Sim.sq (p1 := 19) (s_bipush (by decide +kernel) dX5_insert_17) ?_
    exact (s_iret rfl dX5_insert_19)
  refine Sim.sq (p1 := 21) (s_aload_n rfl dX5_insert_20) ?_
  refine Sim.sq (p1 := 24) (s_callV (C_X5_length l) (rfl : vwCl[5]? = some (RX5, TX5, 11)) (by decide) kw264 kw265 kw266 kw15 kw267 ⟨rfl, by decide +kernel, by decide +kernel, by decide +kernel⟩ ⟨by decide, by decide⟩ shN5 dX5_insert_21) ?_
  refine Sim.sq (p1 := 25) (s_aload_n rfl dX5_insert_24) ?_
  refine Sim.sq (p1 := 28) (s_geti (rfl : vwCl[5]? = some (RX5, TX5, 11)) (by decide) (by decide) inG5 kw201 rfl dX5_insert_25) ?_
  refine Sim.sq (p1 := 29) (s_iadd dX5_insert_28) ?_
  refine Sim.sq (p1 := 32) (s_sipush (by decide +kernel) dX5_insert_29) ?_
  refine Sim.sq (p1 := 38) (Sim.bk ?_) ?_
  · refine Sim.sq (p1 := 35) (s_icmp_le dX5_insert_32 (by decide) rfl) ?_
    refine Sim.sq (p1 := 37) (s_bipush (by decide +kernel) dX5_insert_35) ?_
    exact (s_iret rfl dX5_insert_37)
  refine Sim.sq (p1 := 39) (s_aload_n rfl dX5_insert_38) ?_
  refine Sim.sq (p1 := 42) (s_callV (C_X5_startChange l) (rfl : vwCl[5]? = some (RX5, TX5, 11)) (by decide) kw272 kw274 kw1 kw15 kw275 ⟨rfl, by decide +kernel, by decide +kernel, by decide +kernel⟩ ⟨by decide, by decide⟩ shN5 dX5_insert_39) ?_
  refine Sim.sq (p1 := 43) (s_aload_n rfl dX5_insert_42) ?_
  refine Sim.sq (p1 := 46) (s_getr (rfl : vwCl[5]? = some (RX5, TX5, 11)) (by decide) (by decide) inG5 kw192 rfl dX5_insert_43) ?_
  refine Sim.sq (p1 := 47) (s_aload_n rfl dX5_insert_46) ?_
  refine Sim.sq (p1 := 50) (s_getr (rfl : vwCl[5]? = some (RX5, TX5, 11)) (by decide) (by decide) inG5 kw200 rfl dX5_insert_47) ?_
  refine Sim.sq (p1 := 51) (s_aload_n rfl dX5_insert_50) ?_
  refine Sim.sq (p1 := 54) (s_geti (rfl : vwCl[5]? = some (RX5, TX5, 11)) (by decide) (by decide) inG5 kw201 rfl dX5_insert_51) ?_
  refine Sim.sq (p1 := 55) (s_aload_n rfl dX5_insert_54) ?_
  refine Sim.sq (p1 := 58) (s_getr (rfl : vwCl[5]? = some (RX5, TX5, 11)) (by decide) (by decide) inG5 kw196 rfl dX5_insert_55) ?_
  refine Sim.sq (p1 := 61) (s_getiN (rfl : vwCl[2]? = some (RX2, TX2, 7)) (by decide) (by decide) inG2 kn150 rfl dX5_insert_58) ?_
  refine Sim.sq (p1 := 64) (s_callV (C_X4_ropeOfCodes l) (rfl : vwCl[4]? = some (RX4, TX4, 6)) (by decide) kw306 kw307 kw308 kw16 kw309 ⟨rfl, by decide +kernel, by decide +kernel, by decide +kernel⟩ ⟨by decide, by decide⟩ shN4 dX5_insert_61) ?_
  refine Sim.sq (p1 := 65) (s_istore_n rfl (by decide) dX5_insert_64) ?_
  refine Sim.sq (p1 := 66) (s_aload_n rfl dX5_insert_65) ?_
  refine Sim.sq (p1 := 67) (s_iconst (by decide +kernel) dX5_insert_66) ?_
  refine Sim.sq (p1 := 70) (s_puti (rfl : vwCl[5]? = some (RX5, TX5, 11)) (by decide) (by decide) inG5 kw201 rfl tyX5 tyX5_ok nmX5 rfl (by decide +kernel) dX5_insert_67) ?_
  refine Sim.sq (p1 := 71) (s_aload_n rfl dX5_insert_70) ?_
  refine Sim.sq (p1 := 72) (s_iload_n rfl dX5_insert_71) ?_
  refine Sim.sq (p1 := 73) (s_iload_n rfl dX5_insert_72) ?_
  refine Sim.sq (p1 := 76) (s_callV (C_X5_putIn l) (rfl : vwCl[5]? = some (RX5, TX5, 11)) (by decide) kw342 kw344 kw5 kw15 kw345 ⟨rfl, by decide +kernel, by decide +kernel, by decide +kernel⟩ ⟨by decide, by decide⟩ shN5 dX5_insert_73) ?_
  refine Sim.sq (p1 := 77) (s_aload_n rfl dX5_insert_76) ?_
  refine Sim.sq (p1 := 80) (s_callV (C_X5_balance l) (rfl : vwCl[5]? = some (RX5, TX5, 11)) (by decide) kw403 kw405 kw9 kw15 kw406 ⟨rfl, by decide +kernel, by decide +kernel, by decide +kernel⟩ ⟨by decide, by decide⟩ shN5 dX5_insert_77) ?_
  refine Sim.sq (p1 := 81) (s_aload_n rfl dX5_insert_80) ?_
  refine Sim.sq (p1 := 84) (s_callV (C_X5_length l) (rfl : vwCl[5]? = some (RX5, TX5, 11)) (by decide) kw264 kw265 kw266 kw15 kw267 ⟨rfl, by decide +kernel, by decide +kernel, by decide +kernel⟩ ⟨by decide, by decide⟩ shN5 dX5_insert_81) ?_
  exact (s_iret rfl dX5_insert_84)
set_option maxRecDepth 100000 in
set_option maxHeartbeats 4000000 in
theorem C_X5_insert (l : Launch) : Ct l yX5_insert cX5_insert 3 (some .int) 19 478 m_X5_insert := Ct_of (y := yX5_insert) (by decide +kernel) S_X5_insert
set_option maxRecDepth 100000 in
set_option maxHeartbeats 4000000 in
theorem S_X5_refusalOfPiece {l : Launch} : Sim l (fun _ => True) RX5 "refusalOfPiece" cX5_refusalOfPiece 3 (some .int) 3 62 [] b_X5_refusalOfPiece 0 30 := by
  unfold b_X5_refusalOfPiece
  refine Sim.sq (p1 := 1) (s_aload_n rfl dX5_refusalOfPiece_0) ?_
  refine Sim.sq (p1 := 2) (s_iload_n rfl dX5_refusalOfPiece_1) ?_
  refine Sim.sq (p1 := 5) (s_callV (C_X5_isPosition l) (rfl : vwCl[5]? = some (RX5, TX5, 11)) (by decide) kw260 kw262 kw0 kw15 kw263 ⟨rfl, by decide +kernel, by decide +kernel, by decide +kernel⟩ ⟨by decide, by decide⟩ shN5 dX5_refusalOfPiece_2) ?_
  refine Sim.sq (p1 := 18) (Sim.bk ?_) ?_
  · refine Sim.sq (p1 := 16) (Sim.bk ?_) ?_
    · refine Sim.sq (p1 := 8) (s_if_eq dX5_refusalOfPiece_5 (by decide) rfl) ?_
      refine Sim.sq (p1 := 9) (s_aload_n rfl dX5_refusalOfPiece_8) ?_
      refine Sim.sq (p1 := 10) (s_iload_n rfl dX5_refusalOfPiece_9) ?_
      refine Sim.sq (p1 := 13) (s_callV (C_X5_isPosition l) (rfl : vwCl[5]? = some (RX5, TX5, 11)) (by decide) kw260 kw262 kw0 kw15 kw263 ⟨rfl, by decide +kernel, by decide +kernel, by decide +kernel⟩ ⟨by decide, by decide⟩ shN5 dX5_refusalOfPiece_10) ?_
      exact (s_if_ne dX5_refusalOfPiece_13 (by decide) rfl)
    refine Sim.sq (p1 := 17) (s_iconst (by decide +kernel) dX5_refusalOfPiece_16) ?_
    exact (s_iret rfl dX5_refusalOfPiece_17)
  refine Sim.sq (p1 := 19) (s_iload_n rfl dX5_refusalOfPiece_18) ?_
  refine Sim.sq (p1 := 20) (s_iload_n rfl dX5_refusalOfPiece_19) ?_
  refine Sim.sq (p1 := 29) (Sim.bk ?_) ?_
  · refine Sim.sq (p1 := 28) (Sim.bk ?_) ?_
    · refine Sim.sq (p1 := 23) (s_icmp_gt dX5_refusalOfPiece_20 (by decide) rfl) ?_
      refine Sim.sq (p1 := 25) (s_bipush (by decide +kernel) dX5_refusalOfPiece_23) ?_
      exact (s_goto dX5_refusalOfPiece_25 (by decide) rfl)
    exact (s_iconst (by decide +kernel) dX5_refusalOfPiece_28)
  exact (s_iret rfl dX5_refusalOfPiece_29)
set_option maxRecDepth 100000 in
set_option maxHeartbeats 4000000 in
theorem C_X5_refusalOfPiece (l : Launch) : Ct l yX5_refusalOfPiece cX5_refusalOfPiece 3 (some .int) 3 62 m_X5_refusalOfPiece := Ct_of (y := yX5_refusalOfPiece) (by decide +kernel) S_X5_refusalOfPiece
set_option maxRecDepth 100000 in
set_option maxHeartbeats 4000000 in
theorem S_X2_addToRing {l : Launch} : Sim l (fun _ => True) RX2 "addToRing" cX2_addToRing 3 none 1 21 [] b_X2_addToRing 0 54 := by
  unfold b_X2_addToRing
  refine Sim.sq (p1 := 1) (s_aload_n rfl dX2_addToRing_0) ?_
  refine Sim.sq (p1 := 4) (s_getr (rfl : vwCl[2]? = some (RX2, TX2, 7)) (by decide) (by decide) inG2 kw146 rfl dX2_addToRing_1) ?_
  refine Sim.sq (p1 := 5) (s_alen dX2_addToRing_4) ?_
  refine Sim.sq (p1 := 6) (s_iconst (by decide +kernel) dX2_addToRing_5) ?_
  refine Sim.sq (p1 := 7) (s_isub dX2_addToRing_6) ?_
  refine Sim.sq (p1 := 8) (s_istore_n rfl (by decide) dX2_addToRing_7) ?_
  refine Sim.sq (p1 := 32) (Sim.lp ?_) ?_
  · refine Sim.sq (p1 := 9) (s_iload_n rfl dX2_addToRing_8) ?_
    refine Sim.bk ?_
    refine Sim.sq (p1 := 12) (s_if_le dX2_addToRing_9 (by decide) rfl) ?_
    refine Sim.sq (p1 := 13) (s_aload_n rfl dX2_addToRing_12) ?_
    refine Sim.sq (p1 := 16) (s_getr (rfl : vwCl[2]? = some (RX2, TX2, 7)) (by decide) (by decide) inG2 kw146 rfl dX2_addToRing_13) ?_
    refine Sim.sq (p1 := 17) (s_iload_n rfl dX2_addToRing_16) ?_
    refine Sim.sq (p1 := 18) (s_aload_n rfl dX2_addToRing_17) ?_
    refine Sim.sq (p1 := 21) (s_getr (rfl : vwCl[2]? = some (RX2, TX2, 7)) (by decide) (by decide) inG2 kw146 rfl dX2_addToRing_18) ?_
    refine Sim.sq (p1 := 22) (s_iload_n rfl dX2_addToRing_21) ?_
    refine Sim.sq (p1 := 23) (s_iconst (by decide +kernel) dX2_addToRing_22) ?_
    refine Sim.sq (p1 := 24) (s_isub dX2_addToRing_23) ?_
    refine Sim.sq (p1 := 25) (s_iald dX2_addToRing_24) ?_
    refine Sim.sq (p1 := 26) (s_iast dX2_addToRing_25) ?_
    refine Sim.sq (p1 := 29) (s_iinc (by decide +kernel) (by decide) dX2_addToRing_26) ?_
    exact (s_goto dX2_addToRing_29 (by decide) rfl)
  refine Sim.sq (p1 := 33) (s_aload_n rfl dX2_addToRing_32) ?_
  refine Sim.sq (p1 := 36) (s_getr (rfl : vwCl[2]? = some (RX2, TX2, 7)) (by decide) (by decide) inG2 kw146 rfl dX2_addToRing_33) ?_
  refine Sim.sq (p1 := 37) (s_iconst (by decide +kernel) dX2_addToRing_36) ?_
  refine Sim.sq (p1 := 38) (s_iload_n rfl dX2_addToRing_37) ?_
  refine Sim.sq (p1 := 39) (s_iast dX2_addToRing_38) ?_
  refine Sim.sq (p1 := 40) (s_aload_n rfl dX2_addToRing_39) ?_
  refine Sim.sq (p1 := 41) (s_aload_n rfl dX2_addToRing_40) ?_
  refine Sim.sq (p1 := 44) (s_geti (rfl : vwCl[2]? = some (RX2, TX2, 7)) (by decide) (by decide) inG2 kw147 rfl dX2_addToRing_41) ?_
  refine Sim.sq (p1 := 45) (s_iconst (by decide +kernel) dX2_addToRing_44) ?_
  refine Sim.sq (p1 := 46) (s_iadd dX2_addToRing_45) ?_
  refine Sim.sq (p1 := 47) (s_iconst (by decide +kernel) dX2_addToRing_46) ?_
  refine Sim.sq (p1 := 50) (s_min (by decide) (by decide) kw454 kw455 kw22 kw456 dX2_addToRing_47) ?_
  refine Sim.sq (p1 := 53) (s_puti (rfl : vwCl[2]? = some (RX2, TX2, 7)) (by decide) (by decide) inG2 kw147 rfl tyX2 tyX2_ok nmX2 rfl (by decide +kernel) dX2_addToRing_50) ?_
  exact (s_vret rfl dX2_addToRing_53)
set_option maxRecDepth 100000 in
set_option maxHeartbeats 4000000 in
theorem C_X2_addToRing (l : Launch) : Ct l yX2_addToRing cX2_addToRing 3 none 1 21 m_X2_addToRing := Ct_of (y := yX2_addToRing) (by decide +kernel) S_X2_addToRing
set_option maxRecDepth 100000 in
set_option maxHeartbeats 4000000 in
theorem S_X5_copy {l : Launch} : Sim l (fun _ => True) RX5 "copy" cX5_copy 4 (some .int) 6 263 [] b_X5_copy 0 103 := by
  unfold b_X5_copy
  refine Sim.sq (p1 := 1) (s_aload_n rfl dX5_copy_0) ?_
  refine Sim.sq (p1 := 2) (s_iload_n rfl dX5_copy_1) ?_
  refine Sim.sq (p1 := 3) (s_iload_n rfl dX5_copy_2) ?_
  refine Sim.sq (p1 := 6) (s_callV (C_X5_refusalOfPiece l) (rfl : vwCl[5]? = some (RX5, TX5, 11)) (by decide) kw434 kw436 kw12 kw15 kw437 ⟨rfl, by decide +kernel, by decide +kernel, by decide +kernel⟩ ⟨by decide, by decide⟩ shN5 dX5_copy_3) ?_
  refine Sim.sq (p1 := 7) (s_istore_n rfl (by decide) dX5_copy_6) ?_
  refine Sim.sq (p1 := 8) (s_iload_n rfl dX5_copy_7) ?_
  refine Sim.sq (p1 := 13) (Sim.bk ?_) ?_
  · refine Sim.sq (p1 := 11) (s_if_eq dX5_copy_8 (by decide) rfl) ?_
    refine Sim.sq (p1 := 12) (s_iload_n rfl dX5_copy_11) ?_
    exact (s_iret rfl dX5_copy_12)
  refine Sim.sq (p1 := 14) (s_aload_n rfl dX5_copy_13) ?_
  refine Sim.sq (p1 := 17) (s_callV (C_X5_startChange l) (rfl : vwCl[5]? = some (RX5, TX5, 11)) (by decide) kw272 kw274 kw1 kw15 kw275 ⟨rfl, by decide +kernel, by decide +kernel, by decide +kernel⟩ ⟨by decide, by decide⟩ shN5 dX5_copy_14) ?_
  refine Sim.sq (p1 := 18) (s_aload_n rfl dX5_copy_17) ?_
  refine Sim.sq (p1 := 21) (s_getr (rfl : vwCl[5]? = some (RX5, TX5, 11)) (by decide) (by decide) inG5 kw192 rfl dX5_copy_18) ?_
  refine Sim.sq (p1 := 22) (s_aload_n rfl dX5_copy_21) ?_
  refine Sim.sq (p1 := 25) (s_getr (rfl : vwCl[5]? = some (RX5, TX5, 11)) (by decide) (by decide) inG5 kw196 rfl dX5_copy_22) ?_
  refine Sim.sq (p1 := 28) (s_getiN (rfl : vwCl[2]? = some (RX2, TX2, 7)) (by decide) (by decide) inG2 kn154 rfl dX5_copy_25) ?_
  refine Sim.sq (p1 := 29) (s_iload_n rfl dX5_copy_28) ?_
  refine Sim.sq (p1 := 30) (s_aload_n rfl dX5_copy_29) ?_
  refine Sim.sq (p1 := 33) (s_getr (rfl : vwCl[5]? = some (RX5, TX5, 11)) (by decide) (by decide) inG5 kw196 rfl dX5_copy_30) ?_
  refine Sim.sq (p1 := 36) (s_getiN (rfl : vwCl[2]? = some (RX2, TX2, 7)) (by decide) (by decide) inG2 kn150 rfl dX5_copy_33) ?_
  refine Sim.sq (p1 := 39) (s_callV (C_X4_split l) (rfl : vwCl[4]? = some (RX4, TX4, 6)) (by decide) kw346 kw347 kw348 kw16 kw349 ⟨rfl, by decide +kernel, by decide +kernel, by decide +kernel⟩ ⟨by decide, by decide⟩ shN4 dX5_copy_36) ?_
  refine Sim.sq (p1 := 40) (s_aload_n rfl dX5_copy_39) ?_
  refine Sim.sq (p1 := 43) (s_getr (rfl : vwCl[5]? = some (RX5, TX5, 11)) (by decide) (by decide) inG5 kw192 rfl dX5_copy_40) ?_
  refine Sim.sq (p1 := 44) (s_aload_n rfl dX5_copy_43) ?_
  refine Sim.sq (p1 := 47) (s_getr (rfl : vwCl[5]? = some (RX5, TX5, 11)) (by decide) (by decide) inG5 kw192 rfl dX5_copy_44) ?_
  refine Sim.sq (p1 := 50) (s_getiN (rfl : vwCl[4]? = some (RX4, TX4, 6)) (by decide) (by decide) inG4 kn87 rfl dX5_copy_47) ?_
  refine Sim.sq (p1 := 51) (s_iload_n rfl dX5_copy_50) ?_
  refine Sim.sq (p1 := 52) (s_iload_n rfl dX5_copy_51) ?_
  refine Sim.sq (p1 := 53) (s_isub dX5_copy_52) ?_
  refine Sim.sq (p1 := 54) (s_aload_n rfl dX5_copy_53) ?_
  refine Sim.sq (p1 := 57) (s_getr (rfl : vwCl[5]? = some (RX5, TX5, 11)) (by decide) (by decide) inG5 kw196 rfl dX5_copy_54) ?_
  refine Sim.sq (p1 := 60) (s_getiN (rfl : vwCl[2]? = some (RX2, TX2, 7)) (by decide) (by decide) inG2 kn150 rfl dX5_copy_57) ?_
  refine Sim.sq (p1 := 63) (s_callV (C_X4_split l) (rfl : vwCl[4]? = some (RX4, TX4, 6)) (by decide) kw346 kw347 kw348 kw16 kw349 ⟨rfl, by decide +kernel, by decide +kernel, by decide +kernel⟩ ⟨by decide, by decide⟩ shN4 dX5_copy_60) ?_
  refine Sim.sq (p1 := 64) (s_aload_n rfl dX5_copy_63) ?_
  refine Sim.sq (p1 := 67) (s_getr (rfl : vwCl[5]? = some (RX5, TX5, 11)) (by decide) (by decide) inG5 kw196 rfl dX5_copy_64) ?_
  refine Sim.sq (p1 := 68) (s_aload_n rfl dX5_copy_67) ?_
  refine Sim.sq (p1 := 71) (s_getr (rfl : vwCl[5]? = some (RX5, TX5, 11)) (by decide) (by decide) inG5 kw192 rfl dX5_copy_68) ?_
  refine Sim.sq (p1 := 74) (s_getiN (rfl : vwCl[4]? = some (RX4, TX4, 6)) (by decide) (by decide) inG4 kn85 rfl dX5_copy_71) ?_
  refine Sim.sq (p1 := 77) (s_callV (C_X2_addToRing l) (rfl : vwCl[2]? = some (RX2, TX2, 7)) (by decide) kw450 kw451 kw452 kw19 kw453 ⟨rfl, by decide +kernel, by decide +kernel, by decide +kernel⟩ ⟨by decide, by decide⟩ shN2 dX5_copy_74) ?_
  refine Sim.sq (p1 := 78) (s_aload_n rfl dX5_copy_77) ?_
  refine Sim.sq (p1 := 81) (s_getr (rfl : vwCl[5]? = some (RX5, TX5, 11)) (by decide) (by decide) inG5 kw194 rfl dX5_copy_78) ?_
  refine Sim.sq (p1 := 82) (s_aload_n rfl dX5_copy_81) ?_
  refine Sim.sq (p1 := 85) (s_getr (rfl : vwCl[5]? = some (RX5, TX5, 11)) (by decide) (by decide) inG5 kw193 rfl dX5_copy_82) ?_
  refine Sim.sq (p1 := 86) (s_aload_n rfl dX5_copy_85) ?_
  refine Sim.sq (p1 := 89) (s_getr (rfl : vwCl[5]? = some (RX5, TX5, 11)) (by decide) (by decide) inG5 kw192 rfl dX5_copy_86) ?_
  refine Sim.sq (p1 := 92) (s_getiN (rfl : vwCl[4]? = some (RX4, TX4, 6)) (by decide) (by decide) inG4 kn85 rfl dX5_copy_89) ?_
  refine Sim.sq (p1 := 95) (s_callV (C_X3_read l) (rfl : vwCl[3]? = some (RX3, TX3, 8)) (by decide) kw416 kw417 kw418 kw18 kw419 ⟨rfl, by decide +kernel, by decide +kernel, by decide +kernel⟩ ⟨by decide, by decide⟩ shN3 dX5_copy_92) ?_
  refine Sim.sq (p1 := 96) (s_aload_n rfl dX5_copy_95) ?_
  refine Sim.sq (p1 := 99) (s_getr (rfl : vwCl[5]? = some (RX5, TX5, 11)) (by decide) (by decide) inG5 kw194 rfl dX5_copy_96) ?_
  refine Sim.sq (p1 := 102) (s_getiN (rfl : vwCl[3]? = some (RX3, TX3, 8)) (by decide) (by decide) inG3 kn118 rfl dX5_copy_99) ?_
  exact (s_iret rfl dX5_copy_102)
set_option maxRecDepth 100000 in
set_option maxHeartbeats 4000000 in
theorem C_X5_copy (l : Launch) : Ct l yX5_copy cX5_copy 4 (some .int) 6 263 m_X5_copy := Ct_of (y := yX5_copy) (by decide +kernel) S_X5_copy
set_option maxRecDepth 100000 in
set_option maxHeartbeats 4000000 in
theorem S_X2_moveMarksBack {l : Launch} : Sim l (fun _ => True) RX2 "moveMarksBack" cX2_moveMarksBack 4 none 0 0 [] b_X2_moveMarksBack 0 60 := by
  unfold b_X2_moveMarksBack
  refine Sim.sq (p1 := 1) (s_iconst (by decide +kernel) dX2_moveMarksBack_0) ?_
  refine Sim.sq (p1 := 2) (s_istore_n rfl (by decide) dX2_moveMarksBack_1) ?_
  refine Sim.sq (p1 := 59) (Sim.lp ?_) ?_
  · refine Sim.sq (p1 := 3) (s_iload_n rfl dX2_moveMarksBack_2) ?_
    refine Sim.sq (p1 := 4) (s_aload_n rfl dX2_moveMarksBack_3) ?_
    refine Sim.sq (p1 := 7) (s_getr (rfl : vwCl[2]? = some (RX2, TX2, 7)) (by decide) (by decide) inG2 kw145 rfl dX2_moveMarksBack_4) ?_
    refine Sim.sq (p1 := 8) (s_alen dX2_moveMarksBack_7) ?_
    refine Sim.bk ?_
    refine Sim.sq (p1 := 11) (s_icmp_ge dX2_moveMarksBack_8 (by decide) rfl) ?_
    refine Sim.sq (p1 := 12) (s_aload_n rfl dX2_moveMarksBack_11) ?_
    refine Sim.sq (p1 := 15) (s_getr (rfl : vwCl[2]? = some (RX2, TX2, 7)) (by decide) (by decide) inG2 kw145 rfl dX2_moveMarksBack_12) ?_
    refine Sim.sq (p1 := 16) (s_iload_n rfl dX2_moveMarksBack_15) ?_
    refine Sim.sq (p1 := 17) (s_iald dX2_moveMarksBack_16) ?_
    refine Sim.sq (p1 := 18) (s_iload_n rfl dX2_moveMarksBack_17) ?_
    refine Sim.sq (p1 := 53) (Sim.bk ?_) ?_
    · refine Sim.sq (p1 := 36) (Sim.bk ?_) ?_
      · refine Sim.sq (p1 := 21) (s_icmp_le dX2_moveMarksBack_18 (by decide) rfl) ?_
        refine Sim.sq (p1 := 22) (s_aload_n rfl dX2_moveMarksBack_21) ?_
        refine Sim.sq (p1 := 25) (s_getr (rfl : vwCl[2]? = some (RX2, TX2, 7)) (by decide) (by decide) inG2 kw145 rfl dX2_moveMarksBack_22) ?_
        refine Sim.sq (p1 := 26) (s_iload_n rfl dX2_moveMarksBack_25) ?_
        refine Sim.sq (p1 := 27) (s_dup2 dX2_moveMarksBack_26) ?_
        refine Sim.sq (p1 := 28) (s_iald dX2_moveMarksBack_27) ?_
        refine Sim.sq (p1 := 29) (s_iload_n rfl dX2_moveMarksBack_28) ?_
        refine Sim.sq (p1 := 30) (s_iload_n rfl dX2_moveMarksBack_29) ?_
        refine Sim.sq (p1 := 31) (s_isub dX2_moveMarksBack_30) ?_
        refine Sim.sq (p1 := 32) (s_isub dX2_moveMarksBack_31) ?_
        refine Sim.sq (p1 := 33) (s_iast dX2_moveMarksBack_32) ?_
        exact (s_goto dX2_moveMarksBack_33 (by decide) rfl)
      refine Sim.sq (p1 := 37) (s_aload_n rfl dX2_moveMarksBack_36) ?_
      refine Sim.sq (p1 := 40) (s_getr (rfl : vwCl[2]? = some (RX2, TX2, 7)) (by decide) (by decide) inG2 kw145 rfl dX2_moveMarksBack_37) ?_
      refine Sim.sq (p1 := 41) (s_iload_n rfl dX2_moveMarksBack_40) ?_
      refine Sim.sq (p1 := 42) (s_iald dX2_moveMarksBack_41) ?_
      refine Sim.sq (p1 := 43) (s_iload_n rfl dX2_moveMarksBack_42) ?_
      refine Sim.sq (p1 := 46) (s_icmp_lt dX2_moveMarksBack_43 (by decide) rfl) ?_
      refine Sim.sq (p1 := 47) (s_aload_n rfl dX2_moveMarksBack_46) ?_
      refine Sim.sq (p1 := 50) (s_getr (rfl : vwCl[2]? = some (RX2, TX2, 7)) (by decide) (by decide) inG2 kw145 rfl dX2_moveMarksBack_47) ?_
      refine Sim.sq (p1 := 51) (s_iload_n rfl dX2_moveMarksBack_50) ?_
      refine Sim.sq (p1 := 52) (s_iload_n rfl dX2_moveMarksBack_51) ?_
      exact (s_iast dX2_moveMarksBack_52)
    refine Sim.sq (p1 := 56) (s_iinc (by decide +kernel) (by decide) dX2_moveMarksBack_53) ?_
    exact (s_goto dX2_moveMarksBack_56 (by decide) rfl)
  exact (s_vret rfl dX2_moveMarksBack_59)
set_option maxRecDepth 100000 in
set_option maxHeartbeats 4000000 in
theorem C_X2_moveMarksBack (l : Launch) : Ct l yX2_moveMarksBack cX2_moveMarksBack 4 none 0 0 m_X2_moveMarksBack := Ct_of (y := yX2_moveMarksBack) (by decide +kernel) S_X2_moveMarksBack
set_option maxRecDepth 100000 in
set_option maxHeartbeats 4000000 in
theorem S_X5_takeOut {l : Launch} : Sim l (fun _ => True) RX5 "takeOut" cX5_takeOut 6 (some .int) 6 138 [] b_X5_takeOut 0 96 := by
  unfold b_X5_takeOut
  refine Sim.sq (p1 := 1) (s_aload_n rfl dX5_takeOut_0) ?_
  refine Sim.sq (p1 := 4) (s_getr (rfl : vwCl[5]? = some (RX5, TX5, 11)) (by decide) (by decide) inG5 kw196 rfl dX5_takeOut_1) ?_
  refine Sim.sq (p1 := 7) (s_getiN (rfl : vwCl[2]? = some (RX2, TX2, 7)) (by decide) (by decide) inG2 kn150 rfl dX5_takeOut_4) ?_
  refine Sim.sq (p1 := 8) (s_istore_n rfl (by decide) dX5_takeOut_7) ?_
  refine Sim.sq (p1 := 9) (s_aload_n rfl dX5_takeOut_8) ?_
  refine Sim.sq (p1 := 12) (s_getr (rfl : vwCl[5]? = some (RX5, TX5, 11)) (by decide) (by decide) inG5 kw192 rfl dX5_takeOut_9) ?_
  refine Sim.sq (p1 := 13) (s_aload_n rfl dX5_takeOut_12) ?_
  refine Sim.sq (p1 := 16) (s_getr (rfl : vwCl[5]? = some (RX5, TX5, 11)) (by decide) (by decide) inG5 kw196 rfl dX5_takeOut_13) ?_
  refine Sim.sq (p1 := 19) (s_getiN (rfl : vwCl[2]? = some (RX2, TX2, 7)) (by decide) (by decide) inG2 kn154 rfl dX5_takeOut_16) ?_
  refine Sim.sq (p1 := 20) (s_iload_n rfl dX5_takeOut_19) ?_
  refine Sim.sq (p1 := 21) (s_iload_n rfl dX5_takeOut_20) ?_
  refine Sim.sq (p1 := 24) (s_callV (C_X4_split l) (rfl : vwCl[4]? = some (RX4, TX4, 6)) (by decide) kw346 kw347 kw348 kw16 kw349 ⟨rfl, by decide +kernel, by decide +kernel, by decide +kernel⟩ ⟨by decide, by decide⟩ shN4 dX5_takeOut_21) ?_
  refine Sim.sq (p1 := 25) (s_aload_n rfl dX5_takeOut_24) ?_
  refine Sim.sq (p1 := 28) (s_getr (rfl : vwCl[5]? = some (RX5, TX5, 11)) (by decide) (by decide) inG5 kw192 rfl dX5_takeOut_25) ?_
  refine Sim.sq (p1 := 31) (s_getiN (rfl : vwCl[4]? = some (RX4, TX4, 6)) (by decide) (by decide) inG4 kn85 rfl dX5_takeOut_28) ?_
  refine Sim.sq (p1 := 33) (s_istore (by decide) dX5_takeOut_31) ?_
  refine Sim.sq (p1 := 34) (s_aload_n rfl dX5_takeOut_33) ?_
  refine Sim.sq (p1 := 37) (s_getr (rfl : vwCl[5]? = some (RX5, TX5, 11)) (by decide) (by decide) inG5 kw192 rfl dX5_takeOut_34) ?_
  refine Sim.sq (p1 := 38) (s_aload_n rfl dX5_takeOut_37) ?_
  refine Sim.sq (p1 := 41) (s_getr (rfl : vwCl[5]? = some (RX5, TX5, 11)) (by decide) (by decide) inG5 kw192 rfl dX5_takeOut_38) ?_
  refine Sim.sq (p1 := 44) (s_getiN (rfl : vwCl[4]? = some (RX4, TX4, 6)) (by decide) (by decide) inG4 kn87 rfl dX5_takeOut_41) ?_
  refine Sim.sq (p1 := 45) (s_iload_n rfl dX5_takeOut_44) ?_
  refine Sim.sq (p1 := 46) (s_iload_n rfl dX5_takeOut_45) ?_
  refine Sim.sq (p1 := 47) (s_isub dX5_takeOut_46) ?_
  refine Sim.sq (p1 := 48) (s_iload_n rfl dX5_takeOut_47) ?_
  refine Sim.sq (p1 := 51) (s_callV (C_X4_split l) (rfl : vwCl[4]? = some (RX4, TX4, 6)) (by decide) kw346 kw347 kw348 kw16 kw349 ⟨rfl, by decide +kernel, by decide +kernel, by decide +kernel⟩ ⟨by decide, by decide⟩ shN4 dX5_takeOut_48) ?_
  refine Sim.sq (p1 := 52) (s_aload_n rfl dX5_takeOut_51) ?_
  refine Sim.sq (p1 := 55) (s_getr (rfl : vwCl[5]? = some (RX5, TX5, 11)) (by decide) (by decide) inG5 kw192 rfl dX5_takeOut_52) ?_
  refine Sim.sq (p1 := 58) (s_getiN (rfl : vwCl[4]? = some (RX4, TX4, 6)) (by decide) (by decide) inG4 kn85 rfl dX5_takeOut_55) ?_
  refine Sim.sq (p1 := 60) (s_istore (by decide) dX5_takeOut_58) ?_
  refine Sim.sq (p1 := 61) (s_aload_n rfl dX5_takeOut_60) ?_
  refine Sim.sq (p1 := 64) (s_getr (rfl : vwCl[5]? = some (RX5, TX5, 11)) (by decide) (by decide) inG5 kw196 rfl dX5_takeOut_61) ?_
  refine Sim.sq (p1 := 65) (s_aload_n rfl dX5_takeOut_64) ?_
  refine Sim.sq (p1 := 68) (s_getr (rfl : vwCl[5]? = some (RX5, TX5, 11)) (by decide) (by decide) inG5 kw192 rfl dX5_takeOut_65) ?_
  refine Sim.sq (p1 := 70) (s_iload dX5_takeOut_68) ?_
  refine Sim.sq (p1 := 71) (s_aload_n rfl dX5_takeOut_70) ?_
  refine Sim.sq (p1 := 74) (s_getr (rfl : vwCl[5]? = some (RX5, TX5, 11)) (by decide) (by decide) inG5 kw192 rfl dX5_takeOut_71) ?_
  refine Sim.sq (p1 := 77) (s_getiN (rfl : vwCl[4]? = some (RX4, TX4, 6)) (by decide) (by decide) inG4 kn87 rfl dX5_takeOut_74) ?_
  refine Sim.sq (p1 := 78) (s_iload_n rfl dX5_takeOut_77) ?_
  refine Sim.sq (p1 := 81) (s_callV (C_X4_join l) (rfl : vwCl[4]? = some (RX4, TX4, 6)) (by decide) kw398 kw381 kw382 kw16 kw383 ⟨rfl, by decide +kernel, by decide +kernel, by decide +kernel⟩ ⟨by decide, by decide⟩ shN4 dX5_takeOut_78) ?_
  refine Sim.sq (p1 := 84) (s_putiN (rfl : vwCl[2]? = some (RX2, TX2, 7)) (by decide) (by decide) inG2 kn154 rfl tyX2 tyX2_ok nmX2 rfl (by decide +kernel) dX5_takeOut_81) ?_
  refine Sim.sq (p1 := 85) (s_aload_n rfl dX5_takeOut_84) ?_
  refine Sim.sq (p1 := 88) (s_getr (rfl : vwCl[5]? = some (RX5, TX5, 11)) (by decide) (by decide) inG5 kw196 rfl dX5_takeOut_85) ?_
  refine Sim.sq (p1 := 89) (s_iload_n rfl dX5_takeOut_88) ?_
  refine Sim.sq (p1 := 90) (s_iload_n rfl dX5_takeOut_89) ?_
  refine Sim.sq (p1 := 93) (s_callV (C_X2_moveMarksBack l) (rfl : vwCl[2]? = some (RX2, TX2, 7)) (by decide) kw442 kw443 kw444 kw19 kw445 ⟨rfl, by decide +kernel, by decide +kernel, by decide +kernel⟩ ⟨by decide, by decide⟩ shN2 dX5_takeOut_90) ?_
  refine Sim.sq (p1 := 95) (s_iload dX5_takeOut_93) ?_
  exact (s_iret rfl dX5_takeOut_95)
set_option maxRecDepth 100000 in
set_option maxHeartbeats 4000000 in
theorem C_X5_takeOut (l : Launch) : Ct l yX5_takeOut cX5_takeOut 6 (some .int) 6 138 m_X5_takeOut := Ct_of (y := yX5_takeOut) (by decide +kernel) S_X5_takeOut
set_option maxRecDepth 100000 in
set_option maxHeartbeats 4000000 in
theorem S_X5_delete {l : Launch} : Sim l (fun _ => True) RX5 "delete" cX5_delete 4 (some .int) 19 478 [] b_X5_delete 0 33 := by
  unfold b_X5_delete
  refine Sim.sq (p1 := 1) (s_aload_n rfl dX5_delete_0) ?_
  refine Sim.sq (p1 := 2) (s_iload_n rfl dX5_delete_1) ?_
  refine Sim.sq (p1 := 3) (s_iload_n rfl dX5_delete_2) ?_
  refine Sim.sq (p1 := 6) (s_callV (C_X5_refusalOfPiece l) (rfl : vwCl[5]? = some (RX5, TX5, 11)) (by decide) kw434 kw436 kw12 kw15 kw437 ⟨rfl, by decide +kernel, by decide +kernel, by decide +kernel⟩ ⟨by decide, by decide⟩ shN5 dX5_delete_3) ?_
  refine Sim.sq (p1 := 7) (s_istore_n rfl (by decide) dX5_delete_6) ?_
  refine Sim.sq (p1 := 8) (s_iload_n rfl dX5_delete_7) ?_
  refine Sim.sq (p1 := 13) (Sim.bk ?_) ?_
  · refine Sim.sq (p1 := 11) (s_if_eq dX5_delete_8 (by decide) rfl) ?_
    refine Sim.sq (p1 := 12) (s_iload_n rfl dX5_delete_11) ?_
    exact (s_iret rfl dX5_delete_12)
  refine Sim.sq (p1 := 14) (s_aload_n rfl dX5_delete_13) ?_
  refine Sim.sq (p1 := 17) (s_callV (C_X5_startChange l) (rfl : vwCl[5]? = some (RX5, TX5, 11)) (by decide) kw272 kw274 kw1 kw15 kw275 ⟨rfl, by decide +kernel, by decide +kernel, by decide +kernel⟩ ⟨by decide, by decide⟩ shN5 dX5_delete_14) ?_
  refine Sim.sq (p1 := 18) (s_aload_n rfl dX5_delete_17) ?_
  refine Sim.sq (p1 := 19) (s_iload_n rfl dX5_delete_18) ?_
  refine Sim.sq (p1 := 20) (s_iload_n rfl dX5_delete_19) ?_
  refine Sim.sq (p1 := 23) (s_callV (C_X5_takeOut l) (rfl : vwCl[5]? = some (RX5, TX5, 11)) (by decide) kw438 kw440 kw13 kw15 kw441 ⟨rfl, by decide +kernel, by decide +kernel, by decide +kernel⟩ ⟨by decide, by decide⟩ shN5 dX5_delete_20) ?_
  refine Sim.sq (p1 := 24) (s_pop dX5_delete_23) ?_
  refine Sim.sq (p1 := 25) (s_aload_n rfl dX5_delete_24) ?_
  refine Sim.sq (p1 := 28) (s_callV (C_X5_balance l) (rfl : vwCl[5]? = some (RX5, TX5, 11)) (by decide) kw403 kw405 kw9 kw15 kw406 ⟨rfl, by decide +kernel, by decide +kernel, by decide +kernel⟩ ⟨by decide, by decide⟩ shN5 dX5_delete_25) ?_
  refine Sim.sq (p1 := 29) (s_aload_n rfl dX5_delete_28) ?_
  refine Sim.sq (p1 := 32) (s_callV (C_X5_length l) (rfl : vwCl[5]? = some (RX5, TX5, 11)) (by decide) kw264 kw265 kw266 kw15 kw267 ⟨rfl, by decide +kernel, by decide +kernel, by decide +kernel⟩ ⟨by decide, by decide⟩ shN5 dX5_delete_29) ?_
  exact (s_iret rfl dX5_delete_32)
set_option maxRecDepth 100000 in
set_option maxHeartbeats 4000000 in
theorem C_X5_delete (l : Launch) : Ct l yX5_delete cX5_delete 4 (some .int) 19 478 m_X5_delete := Ct_of (y := yX5_delete) (by decide +kernel) S_X5_delete
set_option maxRecDepth 100000 in
set_option maxHeartbeats 4000000 in
theorem S_X5_cut {l : Launch} : Sim l (fun _ => True) RX5 "cut" cX5_cut 4 (some .int) 19 478 [] b_X5_cut 0 39 := by
  unfold b_X5_cut
  refine Sim.sq (p1 := 1) (s_aload_n rfl dX5_cut_0) ?_
  refine Sim.sq (p1 := 2) (s_iload_n rfl dX5_cut_1) ?_
  refine Sim.sq (p1 := 3) (s_iload_n rfl dX5_cut_2) ?_
  refine Sim.sq (p1 := 6) (s_callV (C_X5_refusalOfPiece l) (rfl : vwCl[5]? = some (RX5, TX5, 11)) (by decide) kw434 kw436 kw12 kw15 kw437 ⟨rfl, by decide +kernel, by decide +kernel, by decide +kernel⟩ ⟨by decide, by decide⟩ shN5 dX5_cut_3) ?_
  refine Sim.sq (p1 := 7) (s_istore_n rfl (by decide) dX5_cut_6) ?_
  refine Sim.sq (p1 := 8) (s_iload_n rfl dX5_cut_7) ?_
  refine Sim.sq (p1 := 13) (Sim.bk ?_) ?_
  · refine Sim.sq (p1 := 11) (s_if_eq dX5_cut_8 (by decide) rfl) ?_
    refine Sim.sq (p1 := 12) (s_iload_n rfl dX5_cut_11) ?_
    exact (s_iret rfl dX5_cut_12)
  refine Sim.sq (p1 := 14) (s_aload_n rfl dX5_cut_13) ?_
  refine Sim.sq (p1 := 17) (s_callV (C_X5_startChange l) (rfl : vwCl[5]? = some (RX5, TX5, 11)) (by decide) kw272 kw274 kw1 kw15 kw275 ⟨rfl, by decide +kernel, by decide +kernel, by decide +kernel⟩ ⟨by decide, by decide⟩ shN5 dX5_cut_14) ?_
  refine Sim.sq (p1 := 18) (s_aload_n rfl dX5_cut_17) ?_
  refine Sim.sq (p1 := 21) (s_getr (rfl : vwCl[5]? = some (RX5, TX5, 11)) (by decide) (by decide) inG5 kw196 rfl dX5_cut_18) ?_
  refine Sim.sq (p1 := 22) (s_aload_n rfl dX5_cut_21) ?_
  refine Sim.sq (p1 := 23) (s_iload_n rfl dX5_cut_22) ?_
  refine Sim.sq (p1 := 24) (s_iload_n rfl dX5_cut_23) ?_
  refine Sim.sq (p1 := 27) (s_callV (C_X5_takeOut l) (rfl : vwCl[5]? = some (RX5, TX5, 11)) (by decide) kw438 kw440 kw13 kw15 kw441 ⟨rfl, by decide +kernel, by decide +kernel, by decide +kernel⟩ ⟨by decide, by decide⟩ shN5 dX5_cut_24) ?_
  refine Sim.sq (p1 := 30) (s_callV (C_X2_addToRing l) (rfl : vwCl[2]? = some (RX2, TX2, 7)) (by decide) kw450 kw451 kw452 kw19 kw453 ⟨rfl, by decide +kernel, by decide +kernel, by decide +kernel⟩ ⟨by decide, by decide⟩ shN2 dX5_cut_27) ?_
  refine Sim.sq (p1 := 31) (s_aload_n rfl dX5_cut_30) ?_
  refine Sim.sq (p1 := 34) (s_callV (C_X5_balance l) (rfl : vwCl[5]? = some (RX5, TX5, 11)) (by decide) kw403 kw405 kw9 kw15 kw406 ⟨rfl, by decide +kernel, by decide +kernel, by decide +kernel⟩ ⟨by decide, by decide⟩ shN5 dX5_cut_31) ?_
  refine Sim.sq (p1 := 35) (s_aload_n rfl dX5_cut_34) ?_
  refine Sim.sq (p1 := 38) (s_callV (C_X5_length l) (rfl : vwCl[5]? = some (RX5, TX5, 11)) (by decide) kw264 kw265 kw266 kw15 kw267 ⟨rfl, by decide +kernel, by decide +kernel, by decide +kernel⟩ ⟨by decide, by decide⟩ shN5 dX5_cut_35) ?_
  exact (s_iret rfl dX5_cut_38)
set_option maxRecDepth 100000 in
set_option maxHeartbeats 4000000 in
theorem C_X5_cut (l : Launch) : Ct l yX5_cut cX5_cut 4 (some .int) 19 478 m_X5_cut := Ct_of (y := yX5_cut) (by decide +kernel) S_X5_cut
set_option maxRecDepth 100000 in
set_option maxHeartbeats 4000000 in
theorem S_X5_paste {l : Launch} : Sim l (fun _ => True) RX5 "paste" cX5_paste 4 (some .int) 19 478 [] b_X5_paste 0 71 := by
  unfold b_X5_paste
  refine Sim.sq (p1 := 1) (s_aload_n rfl dX5_paste_0) ?_
  refine Sim.sq (p1 := 2) (s_iload_n rfl dX5_paste_1) ?_
  refine Sim.sq (p1 := 5) (s_callV (C_X5_isPosition l) (rfl : vwCl[5]? = some (RX5, TX5, 11)) (by decide) kw260 kw262 kw0 kw15 kw263 ⟨rfl, by decide +kernel, by decide +kernel, by decide +kernel⟩ ⟨by decide, by decide⟩ shN5 dX5_paste_2) ?_
  refine Sim.sq (p1 := 21) (Sim.bk ?_) ?_
  · refine Sim.sq (p1 := 19) (Sim.bk ?_) ?_
    · refine Sim.sq (p1 := 8) (s_if_eq dX5_paste_5 (by decide) rfl) ?_
      refine Sim.sq (p1 := 9) (s_aload_n rfl dX5_paste_8) ?_
      refine Sim.sq (p1 := 12) (s_getr (rfl : vwCl[5]? = some (RX5, TX5, 11)) (by decide) (by decide) inG5 kw196 rfl dX5_paste_9) ?_
      refine Sim.sq (p1 := 13) (s_iload_n rfl dX5_paste_12) ?_
      refine Sim.sq (p1 := 16) (s_callV (C_X2_hasInRing l) (rfl : vwCl[2]? = some (RX2, TX2, 7)) (by decide) kw465 kw298 kw299 kw19 kw300 ⟨rfl, by decide +kernel, by decide +kernel, by decide +kernel⟩ ⟨by decide, by decide⟩ shN2 dX5_paste_13) ?_
      exact (s_if_ne dX5_paste_16 (by decide) rfl)
    refine Sim.sq (p1 := 20) (s_iconst (by decide +kernel) dX5_paste_19) ?_
    exact (s_iret rfl dX5_paste_20)
  refine Sim.sq (p1 := 22) (s_aload_n rfl dX5_paste_21) ?_
  refine Sim.sq (p1 := 25) (s_getr (rfl : vwCl[5]? = some (RX5, TX5, 11)) (by decide) (by decide) inG5 kw196 rfl dX5_paste_22) ?_
  refine Sim.sq (p1 := 26) (s_iload_n rfl dX5_paste_25) ?_
  refine Sim.sq (p1 := 29) (s_callV (C_X2_ropeOfRing l) (rfl : vwCl[2]? = some (RX2, TX2, 7)) (by decide) kw293 kw294 kw295 kw19 kw296 ⟨rfl, by decide +kernel, by decide +kernel, by decide +kernel⟩ ⟨by decide, by decide⟩ shN2 dX5_paste_26) ?_
  refine Sim.sq (p1 := 30) (s_istore_n rfl (by decide) dX5_paste_29) ?_
  refine Sim.sq (p1 := 31) (s_aload_n rfl dX5_paste_30) ?_
  refine Sim.sq (p1 := 34) (s_callV (C_X5_length l) (rfl : vwCl[5]? = some (RX5, TX5, 11)) (by decide) kw264 kw265 kw266 kw15 kw267 ⟨rfl, by decide +kernel, by decide +kernel, by decide +kernel⟩ ⟨by decide, by decide⟩ shN5 dX5_paste_31) ?_
  refine Sim.sq (p1 := 35) (s_aload_n rfl dX5_paste_34) ?_
  refine Sim.sq (p1 := 38) (s_getr (rfl : vwCl[5]? = some (RX5, TX5, 11)) (by decide) (by decide) inG5 kw193 rfl dX5_paste_35) ?_
  refine Sim.sq (p1 := 39) (s_iload_n rfl dX5_paste_38) ?_
  refine Sim.sq (p1 := 42) (s_callV (C_X1_sizeOf l) (rfl : vwCl[1]? = some (RX1, TX1, 10)) (by decide) kw268 kw269 kw270 kw17 kw271 ⟨rfl, by decide +kernel, by decide +kernel, by decide +kernel⟩ ⟨by decide, by decide⟩ shN1 dX5_paste_39) ?_
  refine Sim.sq (p1 := 43) (s_iadd dX5_paste_42) ?_
  refine Sim.sq (p1 := 46) (s_sipush (by decide +kernel) dX5_paste_43) ?_
  refine Sim.sq (p1 := 52) (Sim.bk ?_) ?_
  · refine Sim.sq (p1 := 49) (s_icmp_le dX5_paste_46 (by decide) rfl) ?_
    refine Sim.sq (p1 := 51) (s_bipush (by decide +kernel) dX5_paste_49) ?_
    exact (s_iret rfl dX5_paste_51)
  refine Sim.sq (p1 := 53) (s_aload_n rfl dX5_paste_52) ?_
  refine Sim.sq (p1 := 56) (s_callV (C_X5_startChange l) (rfl : vwCl[5]? = some (RX5, TX5, 11)) (by decide) kw272 kw274 kw1 kw15 kw275 ⟨rfl, by decide +kernel, by decide +kernel, by decide +kernel⟩ ⟨by decide, by decide⟩ shN5 dX5_paste_53) ?_
  refine Sim.sq (p1 := 57) (s_aload_n rfl dX5_paste_56) ?_
  refine Sim.sq (p1 := 58) (s_iload_n rfl dX5_paste_57) ?_
  refine Sim.sq (p1 := 59) (s_iload_n rfl dX5_paste_58) ?_
  refine Sim.sq (p1 := 62) (s_callV (C_X5_putIn l) (rfl : vwCl[5]? = some (RX5, TX5, 11)) (by decide) kw342 kw344 kw5 kw15 kw345 ⟨rfl, by decide +kernel, by decide +kernel, by decide +kernel⟩ ⟨by decide, by decide⟩ shN5 dX5_paste_59) ?_
  refine Sim.sq (p1 := 63) (s_aload_n rfl dX5_paste_62) ?_
  refine Sim.sq (p1 := 66) (s_callV (C_X5_balance l) (rfl : vwCl[5]? = some (RX5, TX5, 11)) (by decide) kw403 kw405 kw9 kw15 kw406 ⟨rfl, by decide +kernel, by decide +kernel, by decide +kernel⟩ ⟨by decide, by decide⟩ shN5 dX5_paste_63) ?_
  refine Sim.sq (p1 := 67) (s_aload_n rfl dX5_paste_66) ?_
  refine Sim.sq (p1 := 70) (s_callV (C_X5_length l) (rfl : vwCl[5]? = some (RX5, TX5, 11)) (by decide) kw264 kw265 kw266 kw15 kw267 ⟨rfl, by decide +kernel, by decide +kernel, by decide +kernel⟩ ⟨by decide, by decide⟩ shN5 dX5_paste_67) ?_
  exact (s_iret rfl dX5_paste_70)
set_option maxRecDepth 100000 in
set_option maxHeartbeats 4000000 in
theorem C_X5_paste (l : Launch) : Ct l yX5_paste cX5_paste 4 (some .int) 19 478 m_X5_paste := Ct_of (y := yX5_paste) (by decide +kernel) S_X5_paste
set_option maxRecDepth 100000 in
set_option maxHeartbeats 4000000 in
theorem S_X5_move {l : Launch} : Sim l (fun _ => True) RX5 "move" cX5_move 6 (some .int) 19 478 [] b_X5_move 0 63 := by
  unfold b_X5_move
  refine Sim.sq (p1 := 1) (s_aload_n rfl dX5_move_0) ?_
  refine Sim.sq (p1 := 2) (s_iload_n rfl dX5_move_1) ?_
  refine Sim.sq (p1 := 3) (s_iload_n rfl dX5_move_2) ?_
  refine Sim.sq (p1 := 6) (s_callV (C_X5_refusalOfPiece l) (rfl : vwCl[5]? = some (RX5, TX5, 11)) (by decide) kw434 kw436 kw12 kw15 kw437 ⟨rfl, by decide +kernel, by decide +kernel, by decide +kernel⟩ ⟨by decide, by decide⟩ shN5 dX5_move_3) ?_
  refine Sim.sq (p1 := 8) (s_istore (by decide) dX5_move_6) ?_
  refine Sim.sq (p1 := 10) (s_iload dX5_move_8) ?_
  refine Sim.sq (p1 := 16) (Sim.bk ?_) ?_
  · refine Sim.sq (p1 := 13) (s_if_eq dX5_move_10 (by decide) rfl) ?_
    refine Sim.sq (p1 := 15) (s_iload dX5_move_13) ?_
    exact (s_iret rfl dX5_move_15)
  refine Sim.sq (p1 := 17) (s_iload_n rfl dX5_move_16) ?_
  refine Sim.sq (p1 := 18) (s_iload_n rfl dX5_move_17) ?_
  refine Sim.sq (p1 := 19) (s_isub dX5_move_18) ?_
  refine Sim.sq (p1 := 21) (s_istore (by decide) dX5_move_19) ?_
  refine Sim.sq (p1 := 22) (s_iload_n rfl dX5_move_21) ?_
  refine Sim.sq (p1 := 39) (Sim.bk ?_) ?_
  · refine Sim.sq (p1 := 36) (Sim.bk ?_) ?_
    · refine Sim.sq (p1 := 25) (s_if_lt dX5_move_22 (by decide) rfl) ?_
      refine Sim.sq (p1 := 26) (s_iload_n rfl dX5_move_25) ?_
      refine Sim.sq (p1 := 27) (s_aload_n rfl dX5_move_26) ?_
      refine Sim.sq (p1 := 30) (s_callV (C_X5_length l) (rfl : vwCl[5]? = some (RX5, TX5, 11)) (by decide) kw264 kw265 kw266 kw15 kw267 ⟨rfl, by decide +kernel, by decide +kernel, by decide +kernel⟩ ⟨by decide, by decide⟩ shN5 dX5_move_27) ?_
      refine Sim.sq (p1 := 32) (s_iload dX5_move_30) ?_
      refine Sim.sq (p1 := 33) (s_isub dX5_move_32) ?_
      exact (s_icmp_le dX5_move_33 (by decide) rfl)
    refine Sim.sq (p1 := 38) (s_bipush (by decide +kernel) dX5_move_36) ?_
    exact (s_iret rfl dX5_move_38)
  refine Sim.sq (p1 := 40) (s_aload_n rfl dX5_move_39) ?_
  refine Sim.sq (p1 := 43) (s_callV (C_X5_startChange l) (rfl : vwCl[5]? = some (RX5, TX5, 11)) (by decide) kw272 kw274 kw1 kw15 kw275 ⟨rfl, by decide +kernel, by decide +kernel, by decide +kernel⟩ ⟨by decide, by decide⟩ shN5 dX5_move_40) ?_
  refine Sim.sq (p1 := 44) (s_aload_n rfl dX5_move_43) ?_
  refine Sim.sq (p1 := 45) (s_iload_n rfl dX5_move_44) ?_
  refine Sim.sq (p1 := 46) (s_aload_n rfl dX5_move_45) ?_
  refine Sim.sq (p1 := 47) (s_iload_n rfl dX5_move_46) ?_
  refine Sim.sq (p1 := 48) (s_iload_n rfl dX5_move_47) ?_
  refine Sim.sq (p1 := 51) (s_callV (C_X5_takeOut l) (rfl : vwCl[5]? = some (RX5, TX5, 11)) (by decide) kw438 kw440 kw13 kw15 kw441 ⟨rfl, by decide +kernel, by decide +kernel, by decide +kernel⟩ ⟨by decide, by decide⟩ shN5 dX5_move_48) ?_
  refine Sim.sq (p1 := 54) (s_callV (C_X5_putIn l) (rfl : vwCl[5]? = some (RX5, TX5, 11)) (by decide) kw342 kw344 kw5 kw15 kw345 ⟨rfl, by decide +kernel, by decide +kernel, by decide +kernel⟩ ⟨by decide, by decide⟩ shN5 dX5_move_51) ?_
  refine Sim.sq (p1 := 55) (s_aload_n rfl dX5_move_54) ?_
  refine Sim.sq (p1 := 58) (s_callV (C_X5_balance l) (rfl : vwCl[5]? = some (RX5, TX5, 11)) (by decide) kw403 kw405 kw9 kw15 kw406 ⟨rfl, by decide +kernel, by decide +kernel, by decide +kernel⟩ ⟨by decide, by decide⟩ shN5 dX5_move_55) ?_
  refine Sim.sq (p1 := 59) (s_iload_n rfl dX5_move_58) ?_
  refine Sim.sq (p1 := 61) (s_iload dX5_move_59) ?_
  refine Sim.sq (p1 := 62) (s_iadd dX5_move_61) ?_
  exact (s_iret rfl dX5_move_62)
set_option maxRecDepth 100000 in
set_option maxHeartbeats 4000000 in
theorem C_X5_move (l : Launch) : Ct l yX5_move cX5_move 6 (some .int) 19 478 m_X5_move := Ct_of (y := yX5_move) (by decide +kernel) S_X5_move
set_option maxRecDepth 100000 in
set_option maxHeartbeats 4000000 in
theorem S_X2_markAt {l : Launch} : Sim l (fun _ => True) RX2 "markAt" cX2_markAt 2 (some .int) 0 0 [] b_X2_markAt 0 25 := by
  unfold b_X2_markAt
  refine Sim.sq (p1 := 1) (s_iload_n rfl dX2_markAt_0) ?_
  refine Sim.sq (p1 := 24) (Sim.bk ?_) ?_
  · refine Sim.sq (p1 := 22) (Sim.bk ?_) ?_
    · refine Sim.sq (p1 := 4) (s_if_lt dX2_markAt_1 (by decide) rfl) ?_
      refine Sim.sq (p1 := 5) (s_iload_n rfl dX2_markAt_4) ?_
      refine Sim.sq (p1 := 6) (s_aload_n rfl dX2_markAt_5) ?_
      refine Sim.sq (p1 := 9) (s_getr (rfl : vwCl[2]? = some (RX2, TX2, 7)) (by decide) (by decide) inG2 kw145 rfl dX2_markAt_6) ?_
      refine Sim.sq (p1 := 10) (s_alen dX2_markAt_9) ?_
      refine Sim.sq (p1 := 13) (s_icmp_ge dX2_markAt_10 (by decide) rfl) ?_
      refine Sim.sq (p1 := 14) (s_aload_n rfl dX2_markAt_13) ?_
      refine Sim.sq (p1 := 17) (s_getr (rfl : vwCl[2]? = some (RX2, TX2, 7)) (by decide) (by decide) inG2 kw145 rfl dX2_markAt_14) ?_
      refine Sim.sq (p1 := 18) (s_iload_n rfl dX2_markAt_17) ?_
      refine Sim.sq (p1 := 19) (s_iald dX2_markAt_18) ?_
      exact (s_goto dX2_markAt_19 (by decide) rfl)
    exact (s_bipush (by decide +kernel) dX2_markAt_22)
  exact (s_iret rfl dX2_markAt_24)
set_option maxRecDepth 100000 in
set_option maxHeartbeats 4000000 in
theorem C_X2_markAt (l : Launch) : Ct l yX2_markAt cX2_markAt 2 (some .int) 0 0 m_X2_markAt := Ct_of (y := yX2_markAt) (by decide +kernel) S_X2_markAt
set_option maxRecDepth 100000 in
set_option maxHeartbeats 4000000 in
theorem S_X2_putMark {l : Launch} : Sim l (fun _ => True) RX2 "putMark" cX2_putMark 3 none 0 0 [] b_X2_putMark 0 21 := by
  unfold b_X2_putMark
  refine Sim.sq (p1 := 1) (s_iload_n rfl dX2_putMark_0) ?_
  refine Sim.sq (p1 := 20) (Sim.bk ?_) ?_
  · refine Sim.sq (p1 := 4) (s_if_lt dX2_putMark_1 (by decide) rfl) ?_
    refine Sim.sq (p1 := 5) (s_iload_n rfl dX2_putMark_4) ?_
    refine Sim.sq (p1 := 6) (s_aload_n rfl dX2_putMark_5) ?_
    refine Sim.sq (p1 := 9) (s_getr (rfl : vwCl[2]? = some (RX2, TX2, 7)) (by decide) (by decide) inG2 kw145 rfl dX2_putMark_6) ?_
    refine Sim.sq (p1 := 10) (s_alen dX2_putMark_9) ?_
    refine Sim.sq (p1 := 13) (s_icmp_ge dX2_putMark_10 (by decide) rfl) ?_
    refine Sim.sq (p1 := 14) (s_aload_n rfl dX2_putMark_13) ?_
    refine Sim.sq (p1 := 17) (s_getr (rfl : vwCl[2]? = some (RX2, TX2, 7)) (by decide) (by decide) inG2 kw145 rfl dX2_putMark_14) ?_
    refine Sim.sq (p1 := 18) (s_iload_n rfl dX2_putMark_17) ?_
    refine Sim.sq (p1 := 19) (s_iload_n rfl dX2_putMark_18) ?_
    exact (s_iast dX2_putMark_19)
  exact (s_vret rfl dX2_putMark_20)
set_option maxRecDepth 100000 in
set_option maxHeartbeats 4000000 in
theorem C_X2_putMark (l : Launch) : Ct l yX2_putMark cX2_putMark 3 none 0 0 m_X2_putMark := Ct_of (y := yX2_putMark) (by decide +kernel) S_X2_putMark
set_option maxRecDepth 100000 in
set_option maxHeartbeats 4000000 in
theorem S_X5_setMark {l : Launch} : Sim l (fun _ => True) RX5 "setMark" cX5_setMark 4 (some .int) 3 243 [] b_X5_setMark 0 50 := by
  unfold b_X5_setMark
  refine Sim.sq (p1 := 1) (s_iload_n rfl dX5_setMark_0) ?_
  refine Sim.sq (p1 := 19) (Sim.bk ?_) ?_
  · refine Sim.sq (p1 := 17) (Sim.bk ?_) ?_
    · refine Sim.sq (p1 := 4) (s_if_lt dX5_setMark_1 (by decide) rfl) ?_
      refine Sim.sq (p1 := 5) (s_iload_n rfl dX5_setMark_4) ?_
      refine Sim.sq (p1 := 6) (s_iconst (by decide +kernel) dX5_setMark_5) ?_
      refine Sim.sq (p1 := 9) (s_icmp_ge dX5_setMark_6 (by decide) rfl) ?_
      refine Sim.sq (p1 := 10) (s_aload_n rfl dX5_setMark_9) ?_
      refine Sim.sq (p1 := 11) (s_iload_n rfl dX5_setMark_10) ?_
      refine Sim.sq (p1 := 14) (s_callV (C_X5_isPosition l) (rfl : vwCl[5]? = some (RX5, TX5, 11)) (by decide) kw260 kw262 kw0 kw15 kw263 ⟨rfl, by decide +kernel, by decide +kernel, by decide +kernel⟩ ⟨by decide, by decide⟩ shN5 dX5_setMark_11) ?_
      exact (s_if_ne dX5_setMark_14 (by decide) rfl)
    refine Sim.sq (p1 := 18) (s_iconst (by decide +kernel) dX5_setMark_17) ?_
    exact (s_iret rfl dX5_setMark_18)
  refine Sim.sq (p1 := 20) (s_aload_n rfl dX5_setMark_19) ?_
  refine Sim.sq (p1 := 23) (s_getr (rfl : vwCl[5]? = some (RX5, TX5, 11)) (by decide) (by decide) inG5 kw196 rfl dX5_setMark_20) ?_
  refine Sim.sq (p1 := 24) (s_iload_n rfl dX5_setMark_23) ?_
  refine Sim.sq (p1 := 27) (s_callV (C_X2_markAt l) (rfl : vwCl[2]? = some (RX2, TX2, 7)) (by decide) kw491 kw492 kw493 kw19 kw494 ⟨rfl, by decide +kernel, by decide +kernel, by decide +kernel⟩ ⟨by decide, by decide⟩ shN2 dX5_setMark_24) ?_
  refine Sim.sq (p1 := 28) (s_istore_n rfl (by decide) dX5_setMark_27) ?_
  refine Sim.sq (p1 := 29) (s_aload_n rfl dX5_setMark_28) ?_
  refine Sim.sq (p1 := 32) (s_getr (rfl : vwCl[5]? = some (RX5, TX5, 11)) (by decide) (by decide) inG5 kw197 rfl dX5_setMark_29) ?_
  refine Sim.sq (p1 := 33) (s_aload_n rfl dX5_setMark_32) ?_
  refine Sim.sq (p1 := 36) (s_getr (rfl : vwCl[5]? = some (RX5, TX5, 11)) (by decide) (by decide) inG5 kw196 rfl dX5_setMark_33) ?_
  refine Sim.sq (p1 := 39) (s_callV (C_X0_save l) (rfl : vwCl[0]? = some (RX0, TX0, 3)) (by decide) kw230 kw231 kw232 kw21 kw233 ⟨rfl, by decide +kernel, by decide +kernel, by decide +kernel⟩ ⟨by decide, by decide⟩ shN0 dX5_setMark_36) ?_
  refine Sim.sq (p1 := 40) (s_aload_n rfl dX5_setMark_39) ?_
  refine Sim.sq (p1 := 43) (s_getr (rfl : vwCl[5]? = some (RX5, TX5, 11)) (by decide) (by decide) inG5 kw196 rfl dX5_setMark_40) ?_
  refine Sim.sq (p1 := 44) (s_iload_n rfl dX5_setMark_43) ?_
  refine Sim.sq (p1 := 45) (s_iload_n rfl dX5_setMark_44) ?_
  refine Sim.sq (p1 := 48) (s_callV (C_X2_putMark l) (rfl : vwCl[2]? = some (RX2, TX2, 7)) (by decide) kw495 kw496 kw497 kw19 kw498 ⟨rfl, by decide +kernel, by decide +kernel, by decide +kernel⟩ ⟨by decide, by decide⟩ shN2 dX5_setMark_45) ?_
  refine Sim.sq (p1 := 49) (s_iload_n rfl dX5_setMark_48) ?_
  exact (s_iret rfl dX5_setMark_49)
set_option maxRecDepth 100000 in
set_option maxHeartbeats 4000000 in
theorem C_X5_setMark (l : Launch) : Ct l yX5_setMark cX5_setMark 4 (some .int) 3 243 m_X5_setMark := Ct_of (y := yX5_setMark) (by decide +kernel) S_X5_setMark
