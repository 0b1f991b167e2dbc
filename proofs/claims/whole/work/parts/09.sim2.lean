set_option maxRecDepth 100000 in
set_option maxHeartbeats 4000000 in
theorem S_X6_joins {l : Launch} : Sim l (fun _ => True) RX6 "joins" cX6_joins 7 none 4 91 [] b_X6_joins 0 281 := by
  unfold b_X6_joins
  refine Sim.sq (p1 := 1) (s_aload_n rfl dX6_joins_0) ?_
  refine Sim.sq (p1 := 2) (s_iload_n rfl dX6_joins_1) ?_
  refine Sim.sq (p1 := 5) (s_callV (C_X6_many l) (rfl : vwCl[6]? = some (RX6, TX6, 12)) (by decide) kw788 kw790 kw24 kw59 kw791 ⟨rfl, by decide +kernel, by decide +kernel, by decide +kernel⟩ ⟨by decide, by decide⟩ shN6 dX6_joins_2) ?_
  refine Sim.sq (p1 := 35) (Sim.bk ?_) ?_
  · refine Sim.sq (p1 := 16) (Sim.bk ?_) ?_
    · refine Sim.sq (p1 := 8) (s_if_eq dX6_joins_5 (by decide) rfl) ?_
      refine Sim.sq (p1 := 9) (s_aload_n rfl dX6_joins_8) ?_
      refine Sim.sq (p1 := 10) (s_iload_n rfl dX6_joins_9) ?_
      refine Sim.sq (p1 := 13) (s_callV (C_X6_many l) (rfl : vwCl[6]? = some (RX6, TX6, 12)) (by decide) kw788 kw790 kw24 kw59 kw791 ⟨rfl, by decide +kernel, by decide +kernel, by decide +kernel⟩ ⟨by decide, by decide⟩ shN6 dX6_joins_10) ?_
      exact (s_if_ne dX6_joins_13 (by decide) rfl)
    refine Sim.sq (p1 := 17) (s_aload_n rfl dX6_joins_16) ?_
    refine Sim.sq (p1 := 18) (s_aload_n rfl dX6_joins_17) ?_
    refine Sim.sq (p1 := 19) (s_iload_n rfl dX6_joins_18) ?_
    refine Sim.sq (p1 := 22) (s_callV (C_X6_many l) (rfl : vwCl[6]? = some (RX6, TX6, 12)) (by decide) kw788 kw790 kw24 kw59 kw791 ⟨rfl, by decide +kernel, by decide +kernel, by decide +kernel⟩ ⟨by decide, by decide⟩ shN6 dX6_joins_19) ?_
    refine Sim.sq (p1 := 30) (Sim.bk ?_) ?_
    · refine Sim.sq (p1 := 29) (Sim.bk ?_) ?_
      · refine Sim.sq (p1 := 25) (s_if_ne dX6_joins_22 (by decide) rfl) ?_
        refine Sim.sq (p1 := 26) (s_iload_n rfl dX6_joins_25) ?_
        exact (s_goto dX6_joins_26 (by decide) rfl)
      exact (s_iload_n rfl dX6_joins_29)
    refine Sim.sq (p1 := 31) (s_iload_n rfl dX6_joins_30) ?_
    refine Sim.sq (p1 := 34) (s_callV (C_X6_copies l) (rfl : vwCl[6]? = some (RX6, TX6, 12)) (by decide) kw807 kw809 kw28 kw59 kw810 ⟨rfl, by decide +kernel, by decide +kernel, by decide +kernel⟩ ⟨by decide, by decide⟩ shN6 dX6_joins_31) ?_
    exact (s_vret rfl dX6_joins_34)
  refine Sim.sq (p1 := 36) (s_aload_n rfl dX6_joins_35) ?_
  refine Sim.sq (p1 := 37) (s_iload_n rfl dX6_joins_36) ?_
  refine Sim.sq (p1 := 40) (s_callV (C_X6_many l) (rfl : vwCl[6]? = some (RX6, TX6, 12)) (by decide) kw788 kw790 kw24 kw59 kw791 ⟨rfl, by decide +kernel, by decide +kernel, by decide +kernel⟩ ⟨by decide, by decide⟩ shN6 dX6_joins_37) ?_
  refine Sim.sq (p1 := 41) (s_iconst (by decide +kernel) dX6_joins_40) ?_
  refine Sim.sq (p1 := 42) (s_isub dX6_joins_41) ?_
  refine Sim.sq (p1 := 44) (s_istore (by decide) dX6_joins_42) ?_
  refine Sim.sq (p1 := 45) (s_aload_n rfl dX6_joins_44) ?_
  refine Sim.sq (p1 := 46) (s_iload_n rfl dX6_joins_45) ?_
  refine Sim.sq (p1 := 48) (s_iload dX6_joins_46) ?_
  refine Sim.sq (p1 := 51) (s_callV (C_X6_sizeOf l) (rfl : vwCl[6]? = some (RX6, TX6, 12)) (by decide) kw815 kw817 kw30 kw59 kw818 ⟨rfl, by decide +kernel, by decide +kernel, by decide +kernel⟩ ⟨by decide, by decide⟩ shN6 dX6_joins_48) ?_
  refine Sim.sq (p1 := 52) (s_aload_n rfl dX6_joins_51) ?_
  refine Sim.sq (p1 := 53) (s_iload_n rfl dX6_joins_52) ?_
  refine Sim.sq (p1 := 54) (s_iconst (by decide +kernel) dX6_joins_53) ?_
  refine Sim.sq (p1 := 57) (s_callV (C_X6_sizeOf l) (rfl : vwCl[6]? = some (RX6, TX6, 12)) (by decide) kw815 kw817 kw30 kw59 kw818 ⟨rfl, by decide +kernel, by decide +kernel, by decide +kernel⟩ ⟨by decide, by decide⟩ shN6 dX6_joins_54) ?_
  refine Sim.sq (p1 := 58) (s_iadd dX6_joins_57) ?_
  refine Sim.sq (p1 := 59) (s_aload_n rfl dX6_joins_58) ?_
  refine Sim.sq (p1 := 62) (s_getr (rfl : vwCl[6]? = some (RX6, TX6, 12)) (by decide) (by decide) inG6 kw701 rfl dX6_joins_59) ?_
  refine Sim.sq (p1 := 63) (s_iconst (by decide +kernel) dX6_joins_62) ?_
  refine Sim.sq (p1 := 64) (s_iald dX6_joins_63) ?_
  refine Sim.sq (p1 := 72) (Sim.bk ?_) ?_
  · refine Sim.sq (p1 := 71) (Sim.bk ?_) ?_
    · refine Sim.sq (p1 := 67) (s_icmp_gt dX6_joins_64 (by decide) rfl) ?_
      refine Sim.sq (p1 := 68) (s_iconst (by decide +kernel) dX6_joins_67) ?_
      exact (s_goto dX6_joins_68 (by decide) rfl)
    exact (s_iconst (by decide +kernel) dX6_joins_71)
  refine Sim.sq (p1 := 74) (s_istore (by decide) dX6_joins_72) ?_
  refine Sim.sq (p1 := 76) (s_iload dX6_joins_74) ?_
  refine Sim.sq (p1 := 280) (Sim.bk ?_) ?_
  · refine Sim.sq (p1 := 151) (Sim.bk ?_) ?_
    · refine Sim.sq (p1 := 79) (s_if_eq dX6_joins_76 (by decide) rfl) ?_
      refine Sim.sq (p1 := 80) (s_aload_n rfl dX6_joins_79) ?_
      refine Sim.sq (p1 := 81) (s_iload_n rfl dX6_joins_80) ?_
      refine Sim.sq (p1 := 84) (s_callV (C_X6_isLeaf l) (rfl : vwCl[6]? = some (RX6, TX6, 12)) (by decide) kw843 kw845 kw37 kw59 kw846 ⟨rfl, by decide +kernel, by decide +kernel, by decide +kernel⟩ ⟨by decide, by decide⟩ shN6 dX6_joins_81) ?_
      refine Sim.sq (p1 := 87) (s_if_eq dX6_joins_84 (by decide) rfl) ?_
      refine Sim.sq (p1 := 88) (s_aload_n rfl dX6_joins_87) ?_
      refine Sim.sq (p1 := 89) (s_iload_n rfl dX6_joins_88) ?_
      refine Sim.sq (p1 := 92) (s_callV (C_X6_isLeaf l) (rfl : vwCl[6]? = some (RX6, TX6, 12)) (by decide) kw843 kw845 kw37 kw59 kw846 ⟨rfl, by decide +kernel, by decide +kernel, by decide +kernel⟩ ⟨by decide, by decide⟩ shN6 dX6_joins_89) ?_
      refine Sim.sq (p1 := 106) (Sim.bk ?_) ?_
      · refine Sim.sq (p1 := 95) (s_if_ne dX6_joins_92 (by decide) rfl) ?_
        refine Sim.sq (p1 := 96) (s_aload_n rfl dX6_joins_95) ?_
        refine Sim.sq (p1 := 97) (s_iload_n rfl dX6_joins_96) ?_
        refine Sim.sq (p1 := 99) (s_iload dX6_joins_97) ?_
        refine Sim.sq (p1 := 102) (s_callV (C_X6_levelOf l) (rfl : vwCl[6]? = some (RX6, TX6, 12)) (by decide) kw831 kw833 kw34 kw59 kw834 ⟨rfl, by decide +kernel, by decide +kernel, by decide +kernel⟩ ⟨by decide, by decide⟩ shN6 dX6_joins_99) ?_
        refine Sim.sq (p1 := 103) (s_iconst (by decide +kernel) dX6_joins_102) ?_
        exact (s_icmp_ne dX6_joins_103 (by decide) rfl)
      refine Sim.sq (p1 := 107) (s_aload_n rfl dX6_joins_106) ?_
      refine Sim.sq (p1 := 108) (s_iload_n rfl dX6_joins_107) ?_
      refine Sim.sq (p1 := 109) (s_iload_n rfl dX6_joins_108) ?_
      refine Sim.sq (p1 := 112) (s_callV (C_X6_copies l) (rfl : vwCl[6]? = some (RX6, TX6, 12)) (by decide) kw807 kw809 kw28 kw59 kw810 ⟨rfl, by decide +kernel, by decide +kernel, by decide +kernel⟩ ⟨by decide, by decide⟩ shN6 dX6_joins_109) ?_
      refine Sim.sq (p1 := 113) (s_aload_n rfl dX6_joins_112) ?_
      refine Sim.sq (p1 := 116) (s_getr (rfl : vwCl[6]? = some (RX6, TX6, 12)) (by decide) (by decide) inG6 kw700 rfl dX6_joins_113) ?_
      refine Sim.sq (p1 := 119) (s_sipush (by decide +kernel) dX6_joins_116) ?_
      refine Sim.sq (p1 := 120) (s_iload_n rfl dX6_joins_119) ?_
      refine Sim.sq (p1 := 121) (s_imul dX6_joins_120) ?_
      refine Sim.sq (p1 := 122) (s_iconst (by decide +kernel) dX6_joins_121) ?_
      refine Sim.sq (p1 := 123) (s_iadd dX6_joins_122) ?_
      refine Sim.sq (p1 := 125) (s_iload dX6_joins_123) ?_
      refine Sim.sq (p1 := 126) (s_iadd dX6_joins_125) ?_
      refine Sim.sq (p1 := 127) (s_dup2 dX6_joins_126) ?_
      refine Sim.sq (p1 := 128) (s_iald dX6_joins_127) ?_
      refine Sim.sq (p1 := 129) (s_aload_n rfl dX6_joins_128) ?_
      refine Sim.sq (p1 := 130) (s_iload_n rfl dX6_joins_129) ?_
      refine Sim.sq (p1 := 131) (s_iconst (by decide +kernel) dX6_joins_130) ?_
      refine Sim.sq (p1 := 134) (s_callV (C_X6_sizeOf l) (rfl : vwCl[6]? = some (RX6, TX6, 12)) (by decide) kw815 kw817 kw30 kw59 kw818 ⟨rfl, by decide +kernel, by decide +kernel, by decide +kernel⟩ ⟨by decide, by decide⟩ shN6 dX6_joins_131) ?_
      refine Sim.sq (p1 := 135) (s_iadd dX6_joins_134) ?_
      refine Sim.sq (p1 := 136) (s_iast dX6_joins_135) ?_
      refine Sim.sq (p1 := 137) (s_aload_n rfl dX6_joins_136) ?_
      refine Sim.sq (p1 := 138) (s_iload_n rfl dX6_joins_137) ?_
      refine Sim.sq (p1 := 139) (s_iload_n rfl dX6_joins_138) ?_
      refine Sim.sq (p1 := 140) (s_iconst (by decide +kernel) dX6_joins_139) ?_
      refine Sim.sq (p1 := 141) (s_aload_n rfl dX6_joins_140) ?_
      refine Sim.sq (p1 := 142) (s_iload_n rfl dX6_joins_141) ?_
      refine Sim.sq (p1 := 145) (s_callV (C_X6_lengthOf l) (rfl : vwCl[6]? = some (RX6, TX6, 12)) (by decide) kw768 kw770 kw19 kw59 kw771 ⟨rfl, by decide +kernel, by decide +kernel, by decide +kernel⟩ ⟨by decide, by decide⟩ shN6 dX6_joins_142) ?_
      refine Sim.sq (p1 := 148) (s_callV (C_X6_addsCharacters l) (rfl : vwCl[6]? = some (RX6, TX6, 12)) (by decide) kw819 kw821 kw31 kw59 kw822 ⟨rfl, by decide +kernel, by decide +kernel, by decide +kernel⟩ ⟨by decide, by decide⟩ shN6 dX6_joins_145) ?_
      exact (s_goto dX6_joins_148 (by decide) rfl)
    refine Sim.sq (p1 := 153) (s_iload dX6_joins_151) ?_
    refine Sim.sq (p1 := 263) (Sim.bk ?_) ?_
    · refine Sim.sq (p1 := 156) (s_if_eq dX6_joins_153 (by decide) rfl) ?_
      refine Sim.sq (p1 := 157) (s_aload_n rfl dX6_joins_156) ?_
      refine Sim.sq (p1 := 158) (s_iload_n rfl dX6_joins_157) ?_
      refine Sim.sq (p1 := 161) (s_callV (C_X6_isLeaf l) (rfl : vwCl[6]? = some (RX6, TX6, 12)) (by decide) kw843 kw845 kw37 kw59 kw846 ⟨rfl, by decide +kernel, by decide +kernel, by decide +kernel⟩ ⟨by decide, by decide⟩ shN6 dX6_joins_158) ?_
      refine Sim.sq (p1 := 164) (s_if_eq dX6_joins_161 (by decide) rfl) ?_
      refine Sim.sq (p1 := 165) (s_aload_n rfl dX6_joins_164) ?_
      refine Sim.sq (p1 := 166) (s_iload_n rfl dX6_joins_165) ?_
      refine Sim.sq (p1 := 167) (s_iconst (by decide +kernel) dX6_joins_166) ?_
      refine Sim.sq (p1 := 170) (s_callV (C_X6_levelOf l) (rfl : vwCl[6]? = some (RX6, TX6, 12)) (by decide) kw831 kw833 kw34 kw59 kw834 ⟨rfl, by decide +kernel, by decide +kernel, by decide +kernel⟩ ⟨by decide, by decide⟩ shN6 dX6_joins_167) ?_
      refine Sim.sq (p1 := 171) (s_iconst (by decide +kernel) dX6_joins_170) ?_
      refine Sim.sq (p1 := 174) (s_icmp_ne dX6_joins_171 (by decide) rfl) ?_
      refine Sim.sq (p1 := 175) (s_aload_n rfl dX6_joins_174) ?_
      refine Sim.sq (p1 := 176) (s_iload_n rfl dX6_joins_175) ?_
      refine Sim.sq (p1 := 179) (s_callV (C_X6_empties l) (rfl : vwCl[6]? = some (RX6, TX6, 12)) (by decide) kw772 kw774 kw20 kw59 kw775 ⟨rfl, by decide +kernel, by decide +kernel, by decide +kernel⟩ ⟨by decide, by decide⟩ shN6 dX6_joins_176) ?_
      refine Sim.sq (p1 := 180) (s_aload_n rfl dX6_joins_179) ?_
      refine Sim.sq (p1 := 181) (s_iload_n rfl dX6_joins_180) ?_
      refine Sim.sq (p1 := 182) (s_aload_n rfl dX6_joins_181) ?_
      refine Sim.sq (p1 := 183) (s_iload_n rfl dX6_joins_182) ?_
      refine Sim.sq (p1 := 184) (s_iconst (by decide +kernel) dX6_joins_183) ?_
      refine Sim.sq (p1 := 187) (s_callV (C_X6_sizeOf l) (rfl : vwCl[6]? = some (RX6, TX6, 12)) (by decide) kw815 kw817 kw30 kw59 kw818 ⟨rfl, by decide +kernel, by decide +kernel, by decide +kernel⟩ ⟨by decide, by decide⟩ shN6 dX6_joins_184) ?_
      refine Sim.sq (p1 := 188) (s_aload_n rfl dX6_joins_187) ?_
      refine Sim.sq (p1 := 189) (s_iload_n rfl dX6_joins_188) ?_
      refine Sim.sq (p1 := 190) (s_iconst (by decide +kernel) dX6_joins_189) ?_
      refine Sim.sq (p1 := 193) (s_callV (C_X6_sizeOf l) (rfl : vwCl[6]? = some (RX6, TX6, 12)) (by decide) kw815 kw817 kw30 kw59 kw818 ⟨rfl, by decide +kernel, by decide +kernel, by decide +kernel⟩ ⟨by decide, by decide⟩ shN6 dX6_joins_190) ?_
      refine Sim.sq (p1 := 194) (s_iadd dX6_joins_193) ?_
      refine Sim.sq (p1 := 195) (s_iconst (by decide +kernel) dX6_joins_194) ?_
      refine Sim.sq (p1 := 198) (s_callV (C_X6_addsLeaf l) (rfl : vwCl[6]? = some (RX6, TX6, 12)) (by decide) kw784 kw786 kw23 kw59 kw787 ⟨rfl, by decide +kernel, by decide +kernel, by decide +kernel⟩ ⟨by decide, by decide⟩ shN6 dX6_joins_195) ?_
      refine Sim.sq (p1 := 199) (s_iconst (by decide +kernel) dX6_joins_198) ?_
      refine Sim.sq (p1 := 201) (s_istore (by decide) dX6_joins_199) ?_
      refine Sim.sq (p1 := 236) (Sim.lp ?_) ?_
      · refine Sim.sq (p1 := 203) (s_iload dX6_joins_201) ?_
        refine Sim.sq (p1 := 204) (s_aload_n rfl dX6_joins_203) ?_
        refine Sim.sq (p1 := 205) (s_iload_n rfl dX6_joins_204) ?_
        refine Sim.sq (p1 := 208) (s_callV (C_X6_many l) (rfl : vwCl[6]? = some (RX6, TX6, 12)) (by decide) kw788 kw790 kw24 kw59 kw791 ⟨rfl, by decide +kernel, by decide +kernel, by decide +kernel⟩ ⟨by decide, by decide⟩ shN6 dX6_joins_205) ?_
        refine Sim.bk ?_
        refine Sim.sq (p1 := 211) (s_icmp_ge dX6_joins_208 (by decide) rfl) ?_
        refine Sim.sq (p1 := 212) (s_aload_n rfl dX6_joins_211) ?_
        refine Sim.sq (p1 := 213) (s_iload_n rfl dX6_joins_212) ?_
        refine Sim.sq (p1 := 214) (s_aload_n rfl dX6_joins_213) ?_
        refine Sim.sq (p1 := 215) (s_iload_n rfl dX6_joins_214) ?_
        refine Sim.sq (p1 := 217) (s_iload dX6_joins_215) ?_
        refine Sim.sq (p1 := 220) (s_callV (C_X6_sizeOf l) (rfl : vwCl[6]? = some (RX6, TX6, 12)) (by decide) kw815 kw817 kw30 kw59 kw818 ⟨rfl, by decide +kernel, by decide +kernel, by decide +kernel⟩ ⟨by decide, by decide⟩ shN6 dX6_joins_217) ?_
        refine Sim.sq (p1 := 221) (s_aload_n rfl dX6_joins_220) ?_
        refine Sim.sq (p1 := 222) (s_iload_n rfl dX6_joins_221) ?_
        refine Sim.sq (p1 := 224) (s_iload dX6_joins_222) ?_
        refine Sim.sq (p1 := 227) (s_callV (C_X6_levelOf l) (rfl : vwCl[6]? = some (RX6, TX6, 12)) (by decide) kw831 kw833 kw34 kw59 kw834 ⟨rfl, by decide +kernel, by decide +kernel, by decide +kernel⟩ ⟨by decide, by decide⟩ shN6 dX6_joins_224) ?_
        refine Sim.sq (p1 := 230) (s_callV (C_X6_addsLeaf l) (rfl : vwCl[6]? = some (RX6, TX6, 12)) (by decide) kw784 kw786 kw23 kw59 kw787 ⟨rfl, by decide +kernel, by decide +kernel, by decide +kernel⟩ ⟨by decide, by decide⟩ shN6 dX6_joins_227) ?_
        refine Sim.sq (p1 := 233) (s_iinc (by decide +kernel) (by decide) dX6_joins_230) ?_
        exact (s_goto dX6_joins_233 (by decide) rfl)
      refine Sim.sq (p1 := 237) (s_aload_n rfl dX6_joins_236) ?_
      refine Sim.sq (p1 := 238) (s_iload_n rfl dX6_joins_237) ?_
      refine Sim.sq (p1 := 239) (s_iload_n rfl dX6_joins_238) ?_
      refine Sim.sq (p1 := 240) (s_iconst (by decide +kernel) dX6_joins_239) ?_
      refine Sim.sq (p1 := 241) (s_aload_n rfl dX6_joins_240) ?_
      refine Sim.sq (p1 := 242) (s_iload_n rfl dX6_joins_241) ?_
      refine Sim.sq (p1 := 245) (s_callV (C_X6_lengthOf l) (rfl : vwCl[6]? = some (RX6, TX6, 12)) (by decide) kw768 kw770 kw19 kw59 kw771 ⟨rfl, by decide +kernel, by decide +kernel, by decide +kernel⟩ ⟨by decide, by decide⟩ shN6 dX6_joins_242) ?_
      refine Sim.sq (p1 := 248) (s_callV (C_X6_addsCharacters l) (rfl : vwCl[6]? = some (RX6, TX6, 12)) (by decide) kw819 kw821 kw31 kw59 kw822 ⟨rfl, by decide +kernel, by decide +kernel, by decide +kernel⟩ ⟨by decide, by decide⟩ shN6 dX6_joins_245) ?_
      refine Sim.sq (p1 := 249) (s_aload_n rfl dX6_joins_248) ?_
      refine Sim.sq (p1 := 250) (s_iload_n rfl dX6_joins_249) ?_
      refine Sim.sq (p1 := 251) (s_iload_n rfl dX6_joins_250) ?_
      refine Sim.sq (p1 := 252) (s_iconst (by decide +kernel) dX6_joins_251) ?_
      refine Sim.sq (p1 := 253) (s_aload_n rfl dX6_joins_252) ?_
      refine Sim.sq (p1 := 254) (s_iload_n rfl dX6_joins_253) ?_
      refine Sim.sq (p1 := 257) (s_callV (C_X6_lengthOf l) (rfl : vwCl[6]? = some (RX6, TX6, 12)) (by decide) kw768 kw770 kw19 kw59 kw771 ⟨rfl, by decide +kernel, by decide +kernel, by decide +kernel⟩ ⟨by decide, by decide⟩ shN6 dX6_joins_254) ?_
      refine Sim.sq (p1 := 260) (s_callV (C_X6_addsCharacters l) (rfl : vwCl[6]? = some (RX6, TX6, 12)) (by decide) kw819 kw821 kw31 kw59 kw822 ⟨rfl, by decide +kernel, by decide +kernel, by decide +kernel⟩ ⟨by decide, by decide⟩ shN6 dX6_joins_257) ?_
      exact (s_goto dX6_joins_260 (by decide) rfl)
    refine Sim.sq (p1 := 264) (s_aload_n rfl dX6_joins_263) ?_
    refine Sim.sq (p1 := 265) (s_iload_n rfl dX6_joins_264) ?_
    refine Sim.sq (p1 := 268) (s_callV (C_X6_empties l) (rfl : vwCl[6]? = some (RX6, TX6, 12)) (by decide) kw772 kw774 kw20 kw59 kw775 ⟨rfl, by decide +kernel, by decide +kernel, by decide +kernel⟩ ⟨by decide, by decide⟩ shN6 dX6_joins_265) ?_
    refine Sim.sq (p1 := 269) (s_aload_n rfl dX6_joins_268) ?_
    refine Sim.sq (p1 := 270) (s_iload_n rfl dX6_joins_269) ?_
    refine Sim.sq (p1 := 271) (s_iload_n rfl dX6_joins_270) ?_
    refine Sim.sq (p1 := 274) (s_callV (C_X6_addsDeeper l) (rfl : vwCl[6]? = some (RX6, TX6, 12)) (by decide) kw847 kw849 kw38 kw59 kw850 ⟨rfl, by decide +kernel, by decide +kernel, by decide +kernel⟩ ⟨by decide, by decide⟩ shN6 dX6_joins_271) ?_
    refine Sim.sq (p1 := 275) (s_aload_n rfl dX6_joins_274) ?_
    refine Sim.sq (p1 := 276) (s_iload_n rfl dX6_joins_275) ?_
    refine Sim.sq (p1 := 277) (s_iload_n rfl dX6_joins_276) ?_
    exact (s_callV (C_X6_addsDeeper l) (rfl : vwCl[6]? = some (RX6, TX6, 12)) (by decide) kw847 kw849 kw38 kw59 kw850 ⟨rfl, by decide +kernel, by decide +kernel, by decide +kernel⟩ ⟨by decide, by decide⟩ shN6 dX6_joins_277)
  exact (s_vret rfl dX6_joins_280)
set_option maxRecDepth 100000 in
set_option maxHeartbeats 4000000 in
theorem C_X6_joins (l : Launch) : Ct l yX6_joins cX6_joins 7 none 4 91 m_X6_joins := Ct_of (y := yX6_joins) (by decide +kernel) S_X6_joins
set_option maxRecDepth 100000 in
set_option maxHeartbeats 4000000 in
theorem S_X6_splits {l : Launch} : Sim l (fun _ => True) RX6 "splits" cX6_splits 14 none 5 117 [] b_X6_splits 0 452 := by
  unfold b_X6_splits b_X6_splits_t1 b_X6_splits_t0 b_X6_splits_l1 b_X6_splits_l0
  refine Sim.sq (p1 := 1) (s_iload_n rfl dX6_splits_0) ?_
  refine Sim.sq (p1 := 43) (Sim.bk ?_) ?_
  · refine Sim.sq (p1 := 13) (Sim.bk ?_) ?_
    · refine Sim.sq (p1 := 4) (s_if_eq dX6_splits_1 (by decide) rfl) ?_
      refine Sim.sq (p1 := 5) (s_iload_n rfl dX6_splits_4) ?_
      refine Sim.sq (p1 := 6) (s_aload_n rfl dX6_splits_5) ?_
      refine Sim.sq (p1 := 7) (s_iload_n rfl dX6_splits_6) ?_
      refine Sim.sq (p1 := 10) (s_callV (C_X6_lengthOf l) (rfl : vwCl[6]? = some (RX6, TX6, 12)) (by decide) kw768 kw770 kw19 kw59 kw771 ⟨rfl, by decide +kernel, by decide +kernel, by decide +kernel⟩ ⟨by decide, by decide⟩ shN6 dX6_splits_7) ?_
      exact (s_icmp_ne dX6_splits_10 (by decide) rfl)
    refine Sim.sq (p1 := 14) (s_aload_n rfl dX6_splits_13) ?_
    refine Sim.sq (p1 := 15) (s_iload_n rfl dX6_splits_14) ?_
    refine Sim.sq (p1 := 16) (s_iload_n rfl dX6_splits_15) ?_
    refine Sim.sq (p1 := 25) (Sim.bk ?_) ?_
    · refine Sim.sq (p1 := 24) (Sim.bk ?_) ?_
      · refine Sim.sq (p1 := 19) (s_if_ne dX6_splits_16 (by decide) rfl) ?_
        refine Sim.sq (p1 := 21) (s_iload dX6_splits_19) ?_
        exact (s_goto dX6_splits_21 (by decide) rfl)
      exact (s_iload_n rfl dX6_splits_24)
    refine Sim.sq (p1 := 28) (s_callV (C_X6_copies l) (rfl : vwCl[6]? = some (RX6, TX6, 12)) (by decide) kw807 kw809 kw28 kw59 kw810 ⟨rfl, by decide +kernel, by decide +kernel, by decide +kernel⟩ ⟨by decide, by decide⟩ shN6 dX6_splits_25) ?_
    refine Sim.sq (p1 := 29) (s_aload_n rfl dX6_splits_28) ?_
    refine Sim.sq (p1 := 30) (s_iload_n rfl dX6_splits_29) ?_
    refine Sim.sq (p1 := 39) (Sim.bk ?_) ?_
    · refine Sim.sq (p1 := 37) (Sim.bk ?_) ?_
      · refine Sim.sq (p1 := 33) (s_if_ne dX6_splits_30 (by decide) rfl) ?_
        refine Sim.sq (p1 := 34) (s_iload_n rfl dX6_splits_33) ?_
        exact (s_goto dX6_splits_34 (by decide) rfl)
      exact (s_iload dX6_splits_37)
    refine Sim.sq (p1 := 42) (s_callV (C_X6_empties l) (rfl : vwCl[6]? = some (RX6, TX6, 12)) (by decide) kw772 kw774 kw20 kw59 kw775 ⟨rfl, by decide +kernel, by decide +kernel, by decide +kernel⟩ ⟨by decide, by decide⟩ shN6 dX6_splits_39) ?_
    exact (s_vret rfl dX6_splits_42)
  refine Sim.sq (p1 := 44) (s_iconst (by decide +kernel) dX6_splits_43) ?_
  refine Sim.sq (p1 := 46) (s_istore (by decide) dX6_splits_44) ?_
  refine Sim.sq (p1 := 47) (s_aload_n rfl dX6_splits_46) ?_
  refine Sim.sq (p1 := 48) (s_iload_n rfl dX6_splits_47) ?_
  refine Sim.sq (p1 := 51) (s_callV (C_X6_many l) (rfl : vwCl[6]? = some (RX6, TX6, 12)) (by decide) kw788 kw790 kw24 kw59 kw791 ⟨rfl, by decide +kernel, by decide +kernel, by decide +kernel⟩ ⟨by decide, by decide⟩ shN6 dX6_splits_48) ?_
  refine Sim.sq (p1 := 53) (s_istore (by decide) dX6_splits_51) ?_
  refine Sim.sq (p1 := 54) (s_iconst (by decide +kernel) dX6_splits_53) ?_
  refine Sim.sq (p1 := 56) (s_istore (by decide) dX6_splits_54) ?_
  refine Sim.sq (p1 := 57) (s_iload_n rfl dX6_splits_56) ?_
  refine Sim.sq (p1 := 59) (s_istore (by decide) dX6_splits_57) ?_
  refine Sim.sq (p1 := 60) (s_iconst (by decide +kernel) dX6_splits_59) ?_
  refine Sim.sq (p1 := 62) (s_istore (by decide) dX6_splits_60) ?_
  refine Sim.sq (p1 := 63) (s_iconst (by decide +kernel) dX6_splits_62) ?_
  refine Sim.sq (p1 := 65) (s_istore (by decide) dX6_splits_63) ?_
  refine Sim.sq (p1 := 364) (Sim.lp ?_) ?_
  · refine Sim.sq (p1 := 67) (s_iload dX6_splits_65) ?_
    refine Sim.bk ?_
    refine Sim.sq (p1 := 70) (s_if_eq dX6_splits_67 (by decide) rfl) ?_
    refine Sim.sq (p1 := 72) (s_iload dX6_splits_70) ?_
    refine Sim.sq (p1 := 74) (s_iload dX6_splits_72) ?_
    refine Sim.sq (p1 := 75) (s_isub dX6_splits_74) ?_
    refine Sim.sq (p1 := 76) (s_iconst (by decide +kernel) dX6_splits_75) ?_
    refine Sim.sq (p1 := 165) (Sim.bk ?_) ?_
    · refine Sim.sq (p1 := 79) (s_icmp_ne dX6_splits_76 (by decide) rfl) ?_
      refine Sim.sq (p1 := 80) (s_aload_n rfl dX6_splits_79) ?_
      refine Sim.sq (p1 := 81) (s_iload_n rfl dX6_splits_80) ?_
      refine Sim.sq (p1 := 83) (s_iload dX6_splits_81) ?_
      refine Sim.sq (p1 := 86) (s_callV (C_X6_startOf l) (rfl : vwCl[6]? = some (RX6, TX6, 12)) (by decide) kw811 kw813 kw29 kw59 kw814 ⟨rfl, by decide +kernel, by decide +kernel, by decide +kernel⟩ ⟨by decide, by decide⟩ shN6 dX6_splits_83) ?_
      refine Sim.sq (p1 := 88) (s_istore (by decide) dX6_splits_86) ?_
      refine Sim.sq (p1 := 89) (s_aload_n rfl dX6_splits_88) ?_
      refine Sim.sq (p1 := 90) (s_iload_n rfl dX6_splits_89) ?_
      refine Sim.sq (p1 := 93) (s_callV (C_X6_empties l) (rfl : vwCl[6]? = some (RX6, TX6, 12)) (by decide) kw772 kw774 kw20 kw59 kw775 ⟨rfl, by decide +kernel, by decide +kernel, by decide +kernel⟩ ⟨by decide, by decide⟩ shN6 dX6_splits_90) ?_
      refine Sim.sq (p1 := 94) (s_aload_n rfl dX6_splits_93) ?_
      refine Sim.sq (p1 := 95) (s_iload_n rfl dX6_splits_94) ?_
      refine Sim.sq (p1 := 97) (s_iload dX6_splits_95) ?_
      refine Sim.sq (p1 := 98) (s_iconst (by decide +kernel) dX6_splits_97) ?_
      refine Sim.sq (p1 := 101) (s_callV (C_X6_addsLeaf l) (rfl : vwCl[6]? = some (RX6, TX6, 12)) (by decide) kw784 kw786 kw23 kw59 kw787 ⟨rfl, by decide +kernel, by decide +kernel, by decide +kernel⟩ ⟨by decide, by decide⟩ shN6 dX6_splits_98) ?_
      refine Sim.sq (p1 := 102) (s_aload_n rfl dX6_splits_101) ?_
      refine Sim.sq (p1 := 103) (s_iload_n rfl dX6_splits_102) ?_
      refine Sim.sq (p1 := 104) (s_iload_n rfl dX6_splits_103) ?_
      refine Sim.sq (p1 := 106) (s_iload dX6_splits_104) ?_
      refine Sim.sq (p1 := 108) (s_iload dX6_splits_106) ?_
      refine Sim.sq (p1 := 110) (s_iload dX6_splits_108) ?_
      refine Sim.sq (p1 := 111) (s_iadd dX6_splits_110) ?_
      refine Sim.sq (p1 := 114) (s_callV (C_X6_addsCharacters l) (rfl : vwCl[6]? = some (RX6, TX6, 12)) (by decide) kw819 kw821 kw31 kw59 kw822 ⟨rfl, by decide +kernel, by decide +kernel, by decide +kernel⟩ ⟨by decide, by decide⟩ shN6 dX6_splits_111) ?_
      refine Sim.sq (p1 := 115) (s_aload_n rfl dX6_splits_114) ?_
      refine Sim.sq (p1 := 117) (s_iload dX6_splits_115) ?_
      refine Sim.sq (p1 := 120) (s_callV (C_X6_empties l) (rfl : vwCl[6]? = some (RX6, TX6, 12)) (by decide) kw772 kw774 kw20 kw59 kw775 ⟨rfl, by decide +kernel, by decide +kernel, by decide +kernel⟩ ⟨by decide, by decide⟩ shN6 dX6_splits_117) ?_
      refine Sim.sq (p1 := 121) (s_aload_n rfl dX6_splits_120) ?_
      refine Sim.sq (p1 := 123) (s_iload dX6_splits_121) ?_
      refine Sim.sq (p1 := 124) (s_aload_n rfl dX6_splits_123) ?_
      refine Sim.sq (p1 := 125) (s_iload_n rfl dX6_splits_124) ?_
      refine Sim.sq (p1 := 127) (s_iload dX6_splits_125) ?_
      refine Sim.sq (p1 := 130) (s_callV (C_X6_sizeOf l) (rfl : vwCl[6]? = some (RX6, TX6, 12)) (by decide) kw815 kw817 kw30 kw59 kw818 ⟨rfl, by decide +kernel, by decide +kernel, by decide +kernel⟩ ⟨by decide, by decide⟩ shN6 dX6_splits_127) ?_
      refine Sim.sq (p1 := 132) (s_iload dX6_splits_130) ?_
      refine Sim.sq (p1 := 133) (s_isub dX6_splits_132) ?_
      refine Sim.sq (p1 := 134) (s_iconst (by decide +kernel) dX6_splits_133) ?_
      refine Sim.sq (p1 := 137) (s_callV (C_X6_addsLeaf l) (rfl : vwCl[6]? = some (RX6, TX6, 12)) (by decide) kw784 kw786 kw23 kw59 kw787 ⟨rfl, by decide +kernel, by decide +kernel, by decide +kernel⟩ ⟨by decide, by decide⟩ shN6 dX6_splits_134) ?_
      refine Sim.sq (p1 := 138) (s_aload_n rfl dX6_splits_137) ?_
      refine Sim.sq (p1 := 140) (s_iload dX6_splits_138) ?_
      refine Sim.sq (p1 := 141) (s_iload_n rfl dX6_splits_140) ?_
      refine Sim.sq (p1 := 143) (s_iload dX6_splits_141) ?_
      refine Sim.sq (p1 := 145) (s_iload dX6_splits_143) ?_
      refine Sim.sq (p1 := 146) (s_iadd dX6_splits_145) ?_
      refine Sim.sq (p1 := 148) (s_iload dX6_splits_146) ?_
      refine Sim.sq (p1 := 149) (s_aload_n rfl dX6_splits_148) ?_
      refine Sim.sq (p1 := 150) (s_iload_n rfl dX6_splits_149) ?_
      refine Sim.sq (p1 := 152) (s_iload dX6_splits_150) ?_
      refine Sim.sq (p1 := 155) (s_callV (C_X6_sizeOf l) (rfl : vwCl[6]? = some (RX6, TX6, 12)) (by decide) kw815 kw817 kw30 kw59 kw818 ⟨rfl, by decide +kernel, by decide +kernel, by decide +kernel⟩ ⟨by decide, by decide⟩ shN6 dX6_splits_152) ?_
      refine Sim.sq (p1 := 156) (s_iadd dX6_splits_155) ?_
      refine Sim.sq (p1 := 159) (s_callV (C_X6_addsCharacters l) (rfl : vwCl[6]? = some (RX6, TX6, 12)) (by decide) kw819 kw821 kw31 kw59 kw822 ⟨rfl, by decide +kernel, by decide +kernel, by decide +kernel⟩ ⟨by decide, by decide⟩ shN6 dX6_splits_156) ?_
      refine Sim.sq (p1 := 160) (s_iconst (by decide +kernel) dX6_splits_159) ?_
      refine Sim.sq (p1 := 162) (s_istore (by decide) dX6_splits_160) ?_
      exact (s_goto dX6_splits_162 (by decide) rfl)
    refine Sim.sq (p1 := 166) (s_aload_n rfl dX6_splits_165) ?_
    refine Sim.sq (p1 := 167) (s_iload_n rfl dX6_splits_166) ?_
    refine Sim.sq (p1 := 169) (s_iload dX6_splits_167) ?_
    refine Sim.sq (p1 := 171) (s_iload dX6_splits_169) ?_
    refine Sim.sq (p1 := 172) (s_iconst (by decide +kernel) dX6_splits_171) ?_
    refine Sim.sq (p1 := 173) (s_iadd dX6_splits_172) ?_
    refine Sim.sq (p1 := 176) (s_callV (C_X6_endOf l) (rfl : vwCl[6]? = some (RX6, TX6, 12)) (by decide) kw827 kw829 kw33 kw59 kw830 ⟨rfl, by decide +kernel, by decide +kernel, by decide +kernel⟩ ⟨by decide, by decide⟩ shN6 dX6_splits_173) ?_
    refine Sim.sq (p1 := 178) (s_istore (by decide) dX6_splits_176) ?_
    refine Sim.sq (p1 := 179) (s_aload_n rfl dX6_splits_178) ?_
    refine Sim.sq (p1 := 180) (s_iload_n rfl dX6_splits_179) ?_
    refine Sim.sq (p1 := 182) (s_iload dX6_splits_180) ?_
    refine Sim.sq (p1 := 185) (s_callV (C_X6_startOf l) (rfl : vwCl[6]? = some (RX6, TX6, 12)) (by decide) kw811 kw813 kw29 kw59 kw814 ⟨rfl, by decide +kernel, by decide +kernel, by decide +kernel⟩ ⟨by decide, by decide⟩ shN6 dX6_splits_182) ?_
    refine Sim.sq (p1 := 186) (s_aload_n rfl dX6_splits_185) ?_
    refine Sim.sq (p1 := 187) (s_iload_n rfl dX6_splits_186) ?_
    refine Sim.sq (p1 := 189) (s_iload dX6_splits_187) ?_
    refine Sim.sq (p1 := 192) (s_callV (C_X6_startOf l) (rfl : vwCl[6]? = some (RX6, TX6, 12)) (by decide) kw811 kw813 kw29 kw59 kw814 ⟨rfl, by decide +kernel, by decide +kernel, by decide +kernel⟩ ⟨by decide, by decide⟩ shN6 dX6_splits_189) ?_
    refine Sim.sq (p1 := 193) (s_isub dX6_splits_192) ?_
    refine Sim.sq (p1 := 195) (s_istore (by decide) dX6_splits_193) ?_
    refine Sim.sq (p1 := 198) (s_iinc (by decide +kernel) (by decide) dX6_splits_195) ?_
    refine Sim.sq (p1 := 200) (s_iload dX6_splits_198) ?_
    refine Sim.sq (p1 := 202) (s_iload dX6_splits_200) ?_
    refine Sim.sq (p1 := 361) (Sim.bk ?_) ?_
    · refine Sim.sq (p1 := 236) (Sim.bk ?_) ?_
      · refine Sim.sq (p1 := 205) (s_icmp_ne dX6_splits_202 (by decide) rfl) ?_
        refine Sim.sq (p1 := 206) (s_aload_n rfl dX6_splits_205) ?_
        refine Sim.sq (p1 := 207) (s_iload_n rfl dX6_splits_206) ?_
        refine Sim.sq (p1 := 209) (s_iload dX6_splits_207) ?_
        refine Sim.sq (p1 := 211) (s_iload dX6_splits_209) ?_
        refine Sim.sq (p1 := 213) (s_iload dX6_splits_211) ?_
        refine Sim.sq (p1 := 214) (s_iload_n rfl dX6_splits_213) ?_
        refine Sim.sq (p1 := 217) (s_callV (C_X6_takes l) (rfl : vwCl[6]? = some (RX6, TX6, 12)) (by decide) kw835 kw837 kw35 kw59 kw838 ⟨rfl, by decide +kernel, by decide +kernel, by decide +kernel⟩ ⟨by decide, by decide⟩ shN6 dX6_splits_214) ?_
        refine Sim.sq (p1 := 218) (s_aload_n rfl dX6_splits_217) ?_
        refine Sim.sq (p1 := 219) (s_iload_n rfl dX6_splits_218) ?_
        refine Sim.sq (p1 := 221) (s_iload dX6_splits_219) ?_
        refine Sim.sq (p1 := 223) (s_iload dX6_splits_221) ?_
        refine Sim.sq (p1 := 225) (s_iload dX6_splits_223) ?_
        refine Sim.sq (p1 := 227) (s_iload dX6_splits_225) ?_
        refine Sim.sq (p1 := 230) (s_callV (C_X6_takes l) (rfl : vwCl[6]? = some (RX6, TX6, 12)) (by decide) kw835 kw837 kw35 kw59 kw838 ⟨rfl, by decide +kernel, by decide +kernel, by decide +kernel⟩ ⟨by decide, by decide⟩ shN6 dX6_splits_227) ?_
        refine Sim.sq (p1 := 231) (s_iconst (by decide +kernel) dX6_splits_230) ?_
        refine Sim.sq (p1 := 233) (s_istore (by decide) dX6_splits_231) ?_
        exact (s_goto dX6_splits_233 (by decide) rfl)
      refine Sim.sq (p1 := 238) (s_iload dX6_splits_236) ?_
      refine Sim.sq (p1 := 240) (s_iload dX6_splits_238) ?_
      refine Sim.sq (p1 := 248) (Sim.bk ?_) ?_
      · refine Sim.sq (p1 := 247) (Sim.bk ?_) ?_
        · refine Sim.sq (p1 := 243) (s_icmp_ge dX6_splits_240 (by decide) rfl) ?_
          refine Sim.sq (p1 := 244) (s_iconst (by decide +kernel) dX6_splits_243) ?_
          exact (s_goto dX6_splits_244 (by decide) rfl)
        exact (s_iconst (by decide +kernel) dX6_splits_247)
      refine Sim.sq (p1 := 250) (s_istore (by decide) dX6_splits_248) ?_
      refine Sim.sq (p1 := 251) (s_aload_n rfl dX6_splits_250) ?_
      refine Sim.sq (p1 := 254) (s_getr (rfl : vwCl[6]? = some (RX6, TX6, 12)) (by decide) (by decide) inG6 kw708 rfl dX6_splits_251) ?_
      refine Sim.sq (p1 := 256) (s_iload dX6_splits_254) ?_
      refine Sim.sq (p1 := 258) (s_iload dX6_splits_256) ?_
      refine Sim.sq (p1 := 268) (Sim.bk ?_) ?_
      · refine Sim.sq (p1 := 266) (Sim.bk ?_) ?_
        · refine Sim.sq (p1 := 261) (s_if_eq dX6_splits_258 (by decide) rfl) ?_
          refine Sim.sq (p1 := 263) (s_iload dX6_splits_261) ?_
          exact (s_goto dX6_splits_263 (by decide) rfl)
        exact (s_iload dX6_splits_266)
      refine Sim.sq (p1 := 269) (s_iast dX6_splits_268) ?_
      refine Sim.sq (p1 := 270) (s_aload_n rfl dX6_splits_269) ?_
      refine Sim.sq (p1 := 273) (s_getr (rfl : vwCl[6]? = some (RX6, TX6, 12)) (by decide) (by decide) inG6 kw709 rfl dX6_splits_270) ?_
      refine Sim.sq (p1 := 275) (s_iload dX6_splits_273) ?_
      refine Sim.sq (p1 := 277) (s_iload dX6_splits_275) ?_
      refine Sim.sq (p1 := 287) (Sim.bk ?_) ?_
      · refine Sim.sq (p1 := 285) (Sim.bk ?_) ?_
        · refine Sim.sq (p1 := 280) (s_if_eq dX6_splits_277 (by decide) rfl) ?_
          refine Sim.sq (p1 := 282) (s_iload dX6_splits_280) ?_
          exact (s_goto dX6_splits_282 (by decide) rfl)
        exact (s_iload dX6_splits_285)
      refine Sim.sq (p1 := 288) (s_iast dX6_splits_287) ?_
      refine Sim.sq (p1 := 289) (s_aload_n rfl dX6_splits_288) ?_
      refine Sim.sq (p1 := 292) (s_getr (rfl : vwCl[6]? = some (RX6, TX6, 12)) (by decide) (by decide) inG6 kw710 rfl dX6_splits_289) ?_
      refine Sim.sq (p1 := 294) (s_iload dX6_splits_292) ?_
      refine Sim.sq (p1 := 296) (s_iload dX6_splits_294) ?_
      refine Sim.sq (p1 := 297) (s_iast dX6_splits_296) ?_
      refine Sim.sq (p1 := 298) (s_aload_n rfl dX6_splits_297) ?_
      refine Sim.sq (p1 := 301) (s_getr (rfl : vwCl[6]? = some (RX6, TX6, 12)) (by decide) (by decide) inG6 kw711 rfl dX6_splits_298) ?_
      refine Sim.sq (p1 := 303) (s_iload dX6_splits_301) ?_
      refine Sim.sq (p1 := 305) (s_iload dX6_splits_303) ?_
      refine Sim.sq (p1 := 313) (Sim.bk ?_) ?_
      · refine Sim.sq (p1 := 312) (Sim.bk ?_) ?_
        · refine Sim.sq (p1 := 308) (s_if_eq dX6_splits_305 (by decide) rfl) ?_
          refine Sim.sq (p1 := 309) (s_iconst (by decide +kernel) dX6_splits_308) ?_
          exact (s_goto dX6_splits_309 (by decide) rfl)
        exact (s_iconst (by decide +kernel) dX6_splits_312)
      refine Sim.sq (p1 := 314) (s_iast dX6_splits_313) ?_
      refine Sim.sq (p1 := 317) (s_iinc (by decide +kernel) (by decide) dX6_splits_314) ?_
      refine Sim.sq (p1 := 319) (s_iload dX6_splits_317) ?_
      refine Sim.sq (p1 := 329) (Sim.bk ?_) ?_
      · refine Sim.sq (p1 := 327) (Sim.bk ?_) ?_
        · refine Sim.sq (p1 := 322) (s_if_eq dX6_splits_319 (by decide) rfl) ?_
          refine Sim.sq (p1 := 324) (s_iload dX6_splits_322) ?_
          exact (s_goto dX6_splits_324 (by decide) rfl)
        exact (s_iload dX6_splits_327)
      refine Sim.sq (p1 := 331) (s_istore (by decide) dX6_splits_329) ?_
      refine Sim.sq (p1 := 333) (s_iload dX6_splits_331) ?_
      refine Sim.sq (p1 := 343) (Sim.bk ?_) ?_
      · refine Sim.sq (p1 := 341) (Sim.bk ?_) ?_
        · refine Sim.sq (p1 := 336) (s_if_eq dX6_splits_333 (by decide) rfl) ?_
          refine Sim.sq (p1 := 338) (s_iload dX6_splits_336) ?_
          exact (s_goto dX6_splits_338 (by decide) rfl)
        exact (s_iload dX6_splits_341)
      refine Sim.sq (p1 := 345) (s_istore (by decide) dX6_splits_343) ?_
      refine Sim.sq (p1 := 347) (s_iload dX6_splits_345) ?_
      refine Sim.sq (p1 := 349) (s_iload dX6_splits_347) ?_
      refine Sim.sq (p1 := 358) (Sim.bk ?_) ?_
      · refine Sim.sq (p1 := 356) (Sim.bk ?_) ?_
        · refine Sim.sq (p1 := 352) (s_if_eq dX6_splits_349 (by decide) rfl) ?_
          refine Sim.sq (p1 := 353) (s_iconst (by decide +kernel) dX6_splits_352) ?_
          exact (s_goto dX6_splits_353 (by decide) rfl)
        exact (s_iload dX6_splits_356)
      refine Sim.sq (p1 := 359) (s_isub dX6_splits_358) ?_
      exact (s_istore (by decide) dX6_splits_359)
    exact (s_goto dX6_splits_361 (by decide) rfl)
  refine Sim.sq (p1 := 451) (Sim.lp ?_) ?_
  · refine Sim.sq (p1 := 366) (s_iload dX6_splits_364) ?_
    refine Sim.bk ?_
    refine Sim.sq (p1 := 369) (s_if_le dX6_splits_366 (by decide) rfl) ?_
    refine Sim.sq (p1 := 372) (s_iinc (by decide +kernel) (by decide) dX6_splits_369) ?_
    refine Sim.sq (p1 := 373) (s_aload_n rfl dX6_splits_372) ?_
    refine Sim.sq (p1 := 374) (s_iload_n rfl dX6_splits_373) ?_
    refine Sim.sq (p1 := 375) (s_aload_n rfl dX6_splits_374) ?_
    refine Sim.sq (p1 := 378) (s_getr (rfl : vwCl[6]? = some (RX6, TX6, 12)) (by decide) (by decide) inG6 kw708 rfl dX6_splits_375) ?_
    refine Sim.sq (p1 := 380) (s_iload dX6_splits_378) ?_
    refine Sim.sq (p1 := 381) (s_iald dX6_splits_380) ?_
    refine Sim.sq (p1 := 382) (s_aload_n rfl dX6_splits_381) ?_
    refine Sim.sq (p1 := 385) (s_getr (rfl : vwCl[6]? = some (RX6, TX6, 12)) (by decide) (by decide) inG6 kw709 rfl dX6_splits_382) ?_
    refine Sim.sq (p1 := 387) (s_iload dX6_splits_385) ?_
    refine Sim.sq (p1 := 388) (s_iald dX6_splits_387) ?_
    refine Sim.sq (p1 := 389) (s_aload_n rfl dX6_splits_388) ?_
    refine Sim.sq (p1 := 392) (s_getr (rfl : vwCl[6]? = some (RX6, TX6, 12)) (by decide) (by decide) inG6 kw710 rfl dX6_splits_389) ?_
    refine Sim.sq (p1 := 394) (s_iload dX6_splits_392) ?_
    refine Sim.sq (p1 := 395) (s_iald dX6_splits_394) ?_
    refine Sim.sq (p1 := 397) (s_bipush (by decide +kernel) dX6_splits_395) ?_
    refine Sim.sq (p1 := 400) (s_callV (C_X6_takes l) (rfl : vwCl[6]? = some (RX6, TX6, 12)) (by decide) kw835 kw837 kw35 kw59 kw838 ⟨rfl, by decide +kernel, by decide +kernel, by decide +kernel⟩ ⟨by decide, by decide⟩ shN6 dX6_splits_397) ?_
    refine Sim.sq (p1 := 401) (s_aload_n rfl dX6_splits_400) ?_
    refine Sim.sq (p1 := 404) (s_getr (rfl : vwCl[6]? = some (RX6, TX6, 12)) (by decide) (by decide) inG6 kw711 rfl dX6_splits_401) ?_
    refine Sim.sq (p1 := 406) (s_iload dX6_splits_404) ?_
    refine Sim.sq (p1 := 407) (s_iald dX6_splits_406) ?_
    refine Sim.sq (p1 := 408) (s_iconst (by decide +kernel) dX6_splits_407) ?_
    refine Sim.sq (p1 := 432) (Sim.bk ?_) ?_
    · refine Sim.sq (p1 := 411) (s_icmp_ne dX6_splits_408 (by decide) rfl) ?_
      refine Sim.sq (p1 := 412) (s_aload_n rfl dX6_splits_411) ?_
      refine Sim.sq (p1 := 414) (s_iload dX6_splits_412) ?_
      refine Sim.sq (p1 := 416) (s_bipush (by decide +kernel) dX6_splits_414) ?_
      refine Sim.sq (p1 := 418) (s_bipush (by decide +kernel) dX6_splits_416) ?_
      refine Sim.sq (p1 := 421) (s_callV (C_X6_joins l) (rfl : vwCl[6]? = some (RX6, TX6, 12)) (by decide) kw839 kw841 kw36 kw59 kw842 ⟨rfl, by decide +kernel, by decide +kernel, by decide +kernel⟩ ⟨by decide, by decide⟩ shN6 dX6_splits_418) ?_
      refine Sim.sq (p1 := 422) (s_aload_n rfl dX6_splits_421) ?_
      refine Sim.sq (p1 := 424) (s_bipush (by decide +kernel) dX6_splits_422) ?_
      refine Sim.sq (p1 := 426) (s_iload dX6_splits_424) ?_
      refine Sim.sq (p1 := 429) (s_callV (C_X6_copies l) (rfl : vwCl[6]? = some (RX6, TX6, 12)) (by decide) kw807 kw809 kw28 kw59 kw810 ⟨rfl, by decide +kernel, by decide +kernel, by decide +kernel⟩ ⟨by decide, by decide⟩ shN6 dX6_splits_426) ?_
      exact (s_goto dX6_splits_429 (by decide) rfl)
    refine Sim.sq (p1 := 433) (s_aload_n rfl dX6_splits_432) ?_
    refine Sim.sq (p1 := 435) (s_bipush (by decide +kernel) dX6_splits_433) ?_
    refine Sim.sq (p1 := 436) (s_iload_n rfl dX6_splits_435) ?_
    refine Sim.sq (p1 := 438) (s_bipush (by decide +kernel) dX6_splits_436) ?_
    refine Sim.sq (p1 := 441) (s_callV (C_X6_joins l) (rfl : vwCl[6]? = some (RX6, TX6, 12)) (by decide) kw839 kw841 kw36 kw59 kw842 ⟨rfl, by decide +kernel, by decide +kernel, by decide +kernel⟩ ⟨by decide, by decide⟩ shN6 dX6_splits_438) ?_
    refine Sim.sq (p1 := 442) (s_aload_n rfl dX6_splits_441) ?_
    refine Sim.sq (p1 := 444) (s_bipush (by decide +kernel) dX6_splits_442) ?_
    refine Sim.sq (p1 := 445) (s_iload_n rfl dX6_splits_444) ?_
    refine Sim.sq (p1 := 448) (s_callV (C_X6_copies l) (rfl : vwCl[6]? = some (RX6, TX6, 12)) (by decide) kw807 kw809 kw28 kw59 kw810 ⟨rfl, by decide +kernel, by decide +kernel, by decide +kernel⟩ ⟨by decide, by decide⟩ shN6 dX6_splits_445) ?_
    exact (s_goto dX6_splits_448 (by decide) rfl)
  exact (s_vret rfl dX6_splits_451)
set_option maxRecDepth 100000 in
set_option maxHeartbeats 4000000 in
theorem C_X6_splits (l : Launch) : Ct l yX6_splits cX6_splits 14 none 5 117 m_X6_splits := Ct_of (y := yX6_splits) (by decide +kernel) S_X6_splits
set_option maxRecDepth 100000 in
set_option maxHeartbeats 4000000 in
theorem S_X6_inserts {l : Launch} : Sim l (fun _ => True) RX6 "inserts" cX6_inserts 4 none 6 150 [] b_X6_inserts 0 74 := by
  unfold b_X6_inserts
  refine Sim.sq (p1 := 1) (s_aload_n rfl dX6_inserts_0) ?_
  refine Sim.sq (p1 := 2) (s_iconst (by decide +kernel) dX6_inserts_1) ?_
  refine Sim.sq (p1 := 3) (s_iload_n rfl dX6_inserts_2) ?_
  refine Sim.sq (p1 := 5) (s_bipush (by decide +kernel) dX6_inserts_3) ?_
  refine Sim.sq (p1 := 7) (s_bipush (by decide +kernel) dX6_inserts_5) ?_
  refine Sim.sq (p1 := 10) (s_callV (C_X6_splits l) (rfl : vwCl[6]? = some (RX6, TX6, 12)) (by decide) kw803 kw805 kw27 kw59 kw806 ⟨rfl, by decide +kernel, by decide +kernel, by decide +kernel⟩ ⟨by decide, by decide⟩ shN6 dX6_inserts_7) ?_
  refine Sim.sq (p1 := 11) (s_aload_n rfl dX6_inserts_10) ?_
  refine Sim.sq (p1 := 13) (s_bipush (by decide +kernel) dX6_inserts_11) ?_
  refine Sim.sq (p1 := 14) (s_iload_n rfl dX6_inserts_13) ?_
  refine Sim.sq (p1 := 16) (s_bipush (by decide +kernel) dX6_inserts_14) ?_
  refine Sim.sq (p1 := 19) (s_callV (C_X6_joins l) (rfl : vwCl[6]? = some (RX6, TX6, 12)) (by decide) kw839 kw841 kw36 kw59 kw842 ⟨rfl, by decide +kernel, by decide +kernel, by decide +kernel⟩ ⟨by decide, by decide⟩ shN6 dX6_inserts_16) ?_
  refine Sim.sq (p1 := 20) (s_aload_n rfl dX6_inserts_19) ?_
  refine Sim.sq (p1 := 22) (s_bipush (by decide +kernel) dX6_inserts_20) ?_
  refine Sim.sq (p1 := 24) (s_bipush (by decide +kernel) dX6_inserts_22) ?_
  refine Sim.sq (p1 := 25) (s_iconst (by decide +kernel) dX6_inserts_24) ?_
  refine Sim.sq (p1 := 28) (s_callV (C_X6_joins l) (rfl : vwCl[6]? = some (RX6, TX6, 12)) (by decide) kw839 kw841 kw36 kw59 kw842 ⟨rfl, by decide +kernel, by decide +kernel, by decide +kernel⟩ ⟨by decide, by decide⟩ shN6 dX6_inserts_25) ?_
  refine Sim.sq (p1 := 29) (s_iconst (by decide +kernel) dX6_inserts_28) ?_
  refine Sim.sq (p1 := 30) (s_istore_n rfl (by decide) dX6_inserts_29) ?_
  refine Sim.sq (p1 := 73) (Sim.lp ?_) ?_
  · refine Sim.sq (p1 := 31) (s_iload_n rfl dX6_inserts_30) ?_
    refine Sim.sq (p1 := 32) (s_iconst (by decide +kernel) dX6_inserts_31) ?_
    refine Sim.bk ?_
    refine Sim.sq (p1 := 35) (s_icmp_ge dX6_inserts_32 (by decide) rfl) ?_
    refine Sim.sq (p1 := 36) (s_aload_n rfl dX6_inserts_35) ?_
    refine Sim.sq (p1 := 39) (s_getr (rfl : vwCl[6]? = some (RX6, TX6, 12)) (by decide) (by decide) inG6 kw701 rfl dX6_inserts_36) ?_
    refine Sim.sq (p1 := 40) (s_iconst (by decide +kernel) dX6_inserts_39) ?_
    refine Sim.sq (p1 := 41) (s_iload_n rfl dX6_inserts_40) ?_
    refine Sim.sq (p1 := 42) (s_iadd dX6_inserts_41) ?_
    refine Sim.sq (p1 := 43) (s_dup2 dX6_inserts_42) ?_
    refine Sim.sq (p1 := 44) (s_iald dX6_inserts_43) ?_
    refine Sim.sq (p1 := 45) (s_aload_n rfl dX6_inserts_44) ?_
    refine Sim.sq (p1 := 48) (s_getr (rfl : vwCl[6]? = some (RX6, TX6, 12)) (by decide) (by decide) inG6 kw701 rfl dX6_inserts_45) ?_
    refine Sim.sq (p1 := 49) (s_iconst (by decide +kernel) dX6_inserts_48) ?_
    refine Sim.sq (p1 := 50) (s_iload_n rfl dX6_inserts_49) ?_
    refine Sim.sq (p1 := 51) (s_iadd dX6_inserts_50) ?_
    refine Sim.sq (p1 := 52) (s_iald dX6_inserts_51) ?_
    refine Sim.sq (p1 := 53) (s_iload_n rfl dX6_inserts_52) ?_
    refine Sim.sq (p1 := 65) (Sim.bk ?_) ?_
    · refine Sim.sq (p1 := 64) (Sim.bk ?_) ?_
      · refine Sim.sq (p1 := 56) (s_icmp_lt dX6_inserts_53 (by decide) rfl) ?_
        refine Sim.sq (p1 := 57) (s_aload_n rfl dX6_inserts_56) ?_
        refine Sim.sq (p1 := 58) (s_iload_n rfl dX6_inserts_57) ?_
        refine Sim.sq (p1 := 61) (s_callV (C_X6_lengthOf l) (rfl : vwCl[6]? = some (RX6, TX6, 12)) (by decide) kw768 kw770 kw19 kw59 kw771 ⟨rfl, by decide +kernel, by decide +kernel, by decide +kernel⟩ ⟨by decide, by decide⟩ shN6 dX6_inserts_58) ?_
        exact (s_goto dX6_inserts_61 (by decide) rfl)
      exact (s_iconst (by decide +kernel) dX6_inserts_64)
    refine Sim.sq (p1 := 66) (s_iadd dX6_inserts_65) ?_
    refine Sim.sq (p1 := 67) (s_iast dX6_inserts_66) ?_
    refine Sim.sq (p1 := 70) (s_iinc (by decide +kernel) (by decide) dX6_inserts_67) ?_
    exact (s_goto dX6_inserts_70 (by decide) rfl)
  exact (s_vret rfl dX6_inserts_73)
set_option maxRecDepth 100000 in
set_option maxHeartbeats 4000000 in
theorem C_X6_inserts (l : Launch) : Ct l yX6_inserts cX6_inserts 4 none 6 150 m_X6_inserts := Ct_of (y := yX6_inserts) (by decide +kernel) S_X6_inserts
set_option maxRecDepth 100000 in
set_option maxHeartbeats 4000000 in
theorem S_X6_depthOf {l : Launch} : Sim l (fun _ => True) RX6 "depthOf" cX6_depthOf 4 (some .int) 1 22 [] b_X6_depthOf 0 42 := by
  unfold b_X6_depthOf
  refine Sim.sq (p1 := 1) (s_iconst (by decide +kernel) dX6_depthOf_0) ?_
  refine Sim.sq (p1 := 2) (s_istore_n rfl (by decide) dX6_depthOf_1) ?_
  refine Sim.sq (p1 := 3) (s_iconst (by decide +kernel) dX6_depthOf_2) ?_
  refine Sim.sq (p1 := 4) (s_istore_n rfl (by decide) dX6_depthOf_3) ?_
  refine Sim.sq (p1 := 40) (Sim.lp ?_) ?_
  · refine Sim.sq (p1 := 5) (s_iload_n rfl dX6_depthOf_4) ?_
    refine Sim.sq (p1 := 6) (s_aload_n rfl dX6_depthOf_5) ?_
    refine Sim.sq (p1 := 7) (s_iload_n rfl dX6_depthOf_6) ?_
    refine Sim.sq (p1 := 10) (s_callV (C_X6_many l) (rfl : vwCl[6]? = some (RX6, TX6, 12)) (by decide) kw788 kw790 kw24 kw59 kw791 ⟨rfl, by decide +kernel, by decide +kernel, by decide +kernel⟩ ⟨by decide, by decide⟩ shN6 dX6_depthOf_7) ?_
    refine Sim.bk ?_
    refine Sim.sq (p1 := 13) (s_icmp_ge dX6_depthOf_10 (by decide) rfl) ?_
    refine Sim.sq (p1 := 14) (s_aload_n rfl dX6_depthOf_13) ?_
    refine Sim.sq (p1 := 15) (s_iload_n rfl dX6_depthOf_14) ?_
    refine Sim.sq (p1 := 16) (s_iload_n rfl dX6_depthOf_15) ?_
    refine Sim.sq (p1 := 19) (s_callV (C_X6_levelOf l) (rfl : vwCl[6]? = some (RX6, TX6, 12)) (by decide) kw831 kw833 kw34 kw59 kw834 ⟨rfl, by decide +kernel, by decide +kernel, by decide +kernel⟩ ⟨by decide, by decide⟩ shN6 dX6_depthOf_16) ?_
    refine Sim.sq (p1 := 20) (s_iload_n rfl dX6_depthOf_19) ?_
    refine Sim.sq (p1 := 33) (Sim.bk ?_) ?_
    · refine Sim.sq (p1 := 32) (Sim.bk ?_) ?_
      · refine Sim.sq (p1 := 23) (s_icmp_le dX6_depthOf_20 (by decide) rfl) ?_
        refine Sim.sq (p1 := 24) (s_aload_n rfl dX6_depthOf_23) ?_
        refine Sim.sq (p1 := 25) (s_iload_n rfl dX6_depthOf_24) ?_
        refine Sim.sq (p1 := 26) (s_iload_n rfl dX6_depthOf_25) ?_
        refine Sim.sq (p1 := 29) (s_callV (C_X6_levelOf l) (rfl : vwCl[6]? = some (RX6, TX6, 12)) (by decide) kw831 kw833 kw34 kw59 kw834 ⟨rfl, by decide +kernel, by decide +kernel, by decide +kernel⟩ ⟨by decide, by decide⟩ shN6 dX6_depthOf_26) ?_
        exact (s_goto dX6_depthOf_29 (by decide) rfl)
      exact (s_iload_n rfl dX6_depthOf_32)
    refine Sim.sq (p1 := 34) (s_istore_n rfl (by decide) dX6_depthOf_33) ?_
    refine Sim.sq (p1 := 37) (s_iinc (by decide +kernel) (by decide) dX6_depthOf_34) ?_
    exact (s_goto dX6_depthOf_37 (by decide) rfl)
  refine Sim.sq (p1 := 41) (s_iload_n rfl dX6_depthOf_40) ?_
  exact (s_iret rfl dX6_depthOf_41)
set_option maxRecDepth 100000 in
set_option maxHeartbeats 4000000 in
theorem C_X6_depthOf (l : Launch) : Ct l yX6_depthOf cX6_depthOf 4 (some .int) 1 22 m_X6_depthOf := Ct_of (y := yX6_depthOf) (by decide +kernel) S_X6_depthOf
set_option maxRecDepth 100000 in
set_option maxHeartbeats 4000000 in
theorem S_X6_hasEnough {l : Launch} : Sim l (fun _ => True) RX6 "hasEnough" cX6_hasEnough 6 (some .boolean) 2 45 [] b_X6_hasEnough 0 63 := by
  unfold b_X6_hasEnough
  refine Sim.sq (p1 := 1) (s_iconst (by decide +kernel) dX6_hasEnough_0) ?_
  refine Sim.sq (p1 := 2) (s_istore_n rfl (by decide) dX6_hasEnough_1) ?_
  refine Sim.sq (p1 := 3) (s_iconst (by decide +kernel) dX6_hasEnough_2) ?_
  refine Sim.sq (p1 := 4) (s_istore_n rfl (by decide) dX6_hasEnough_3) ?_
  refine Sim.sq (p1 := 5) (s_iconst (by decide +kernel) dX6_hasEnough_4) ?_
  refine Sim.sq (p1 := 7) (s_istore (by decide) dX6_hasEnough_5) ?_
  refine Sim.sq (p1 := 40) (Sim.lp ?_) ?_
  · refine Sim.sq (p1 := 9) (s_iload dX6_hasEnough_7) ?_
    refine Sim.sq (p1 := 10) (s_aload_n rfl dX6_hasEnough_9) ?_
    refine Sim.sq (p1 := 11) (s_iload_n rfl dX6_hasEnough_10) ?_
    refine Sim.sq (p1 := 14) (s_callV (C_X6_depthOf l) (rfl : vwCl[6]? = some (RX6, TX6, 12)) (by decide) kw859 kw861 kw41 kw59 kw862 ⟨rfl, by decide +kernel, by decide +kernel, by decide +kernel⟩ ⟨by decide, by decide⟩ shN6 dX6_hasEnough_11) ?_
    refine Sim.bk ?_
    refine Sim.sq (p1 := 17) (s_icmp_ge dX6_hasEnough_14 (by decide) rfl) ?_
    refine Sim.sq (p1 := 18) (s_iload_n rfl dX6_hasEnough_17) ?_
    refine Sim.sq (p1 := 21) (s_sipush (by decide +kernel) dX6_hasEnough_18) ?_
    refine Sim.sq (p1 := 24) (s_icmp_gt dX6_hasEnough_21 (by decide) rfl) ?_
    refine Sim.sq (p1 := 25) (s_iload_n rfl dX6_hasEnough_24) ?_
    refine Sim.sq (p1 := 26) (s_iload_n rfl dX6_hasEnough_25) ?_
    refine Sim.sq (p1 := 27) (s_iadd dX6_hasEnough_26) ?_
    refine Sim.sq (p1 := 29) (s_istore (by decide) dX6_hasEnough_27) ?_
    refine Sim.sq (p1 := 30) (s_iload_n rfl dX6_hasEnough_29) ?_
    refine Sim.sq (p1 := 31) (s_istore_n rfl (by decide) dX6_hasEnough_30) ?_
    refine Sim.sq (p1 := 33) (s_iload dX6_hasEnough_31) ?_
    refine Sim.sq (p1 := 34) (s_istore_n rfl (by decide) dX6_hasEnough_33) ?_
    refine Sim.sq (p1 := 37) (s_iinc (by decide +kernel) (by decide) dX6_hasEnough_34) ?_
    exact (s_goto dX6_hasEnough_37 (by decide) rfl)
  refine Sim.sq (p1 := 41) (s_aload_n rfl dX6_hasEnough_40) ?_
  refine Sim.sq (p1 := 42) (s_iload_n rfl dX6_hasEnough_41) ?_
  refine Sim.sq (p1 := 45) (s_callV (C_X6_many l) (rfl : vwCl[6]? = some (RX6, TX6, 12)) (by decide) kw788 kw790 kw24 kw59 kw791 ⟨rfl, by decide +kernel, by decide +kernel, by decide +kernel⟩ ⟨by decide, by decide⟩ shN6 dX6_hasEnough_42) ?_
  refine Sim.sq (p1 := 62) (Sim.bk ?_) ?_
  · refine Sim.sq (p1 := 61) (Sim.bk ?_) ?_
    · refine Sim.sq (p1 := 57) (Sim.bk ?_) ?_
      · refine Sim.sq (p1 := 48) (s_if_eq dX6_hasEnough_45 (by decide) rfl) ?_
        refine Sim.sq (p1 := 49) (s_aload_n rfl dX6_hasEnough_48) ?_
        refine Sim.sq (p1 := 50) (s_iload_n rfl dX6_hasEnough_49) ?_
        refine Sim.sq (p1 := 53) (s_callV (C_X6_lengthOf l) (rfl : vwCl[6]? = some (RX6, TX6, 12)) (by decide) kw768 kw770 kw19 kw59 kw771 ⟨rfl, by decide +kernel, by decide +kernel, by decide +kernel⟩ ⟨by decide, by decide⟩ shN6 dX6_hasEnough_50) ?_
        refine Sim.sq (p1 := 54) (s_iload_n rfl dX6_hasEnough_53) ?_
        exact (s_icmp_lt dX6_hasEnough_54 (by decide) rfl)
      refine Sim.sq (p1 := 58) (s_iconst (by decide +kernel) dX6_hasEnough_57) ?_
      exact (s_goto dX6_hasEnough_58 (by decide) rfl)
    exact (s_iconst (by decide +kernel) dX6_hasEnough_61)
  exact (s_zret rfl dX6_hasEnough_62)
set_option maxRecDepth 100000 in
set_option maxHeartbeats 4000000 in
theorem C_X6_hasEnough (l : Launch) : Ct l yX6_hasEnough cX6_hasEnough 6 (some .boolean) 2 45 m_X6_hasEnough := Ct_of (y := yX6_hasEnough) (by decide +kernel) S_X6_hasEnough
set_option maxRecDepth 100000 in
set_option maxHeartbeats 4000000 in
theorem S_X6_balances {l : Launch} : Sim l (fun _ => True) RX6 "balances" cX6_balances 1 none 3 70 [] b_X6_balances 0 34 := by
  unfold b_X6_balances
  refine Sim.sq (p1 := 1) (s_aload_n rfl dX6_balances_0) ?_
  refine Sim.sq (p1 := 4) (s_getr (rfl : vwCl[6]? = some (RX6, TX6, 12)) (by decide) (by decide) inG6 kw701 rfl dX6_balances_1) ?_
  refine Sim.sq (p1 := 5) (s_iconst (by decide +kernel) dX6_balances_4) ?_
  refine Sim.sq (p1 := 6) (s_iald dX6_balances_5) ?_
  refine Sim.sq (p1 := 7) (s_iconst (by decide +kernel) dX6_balances_6) ?_
  refine Sim.sq (p1 := 33) (Sim.bk ?_) ?_
  · refine Sim.sq (p1 := 10) (s_icmp_ne dX6_balances_7 (by decide) rfl) ?_
    refine Sim.sq (p1 := 11) (s_aload_n rfl dX6_balances_10) ?_
    refine Sim.sq (p1 := 12) (s_iconst (by decide +kernel) dX6_balances_11) ?_
    refine Sim.sq (p1 := 15) (s_callV (C_X6_hasEnough l) (rfl : vwCl[6]? = some (RX6, TX6, 12)) (by decide) kw855 kw857 kw40 kw59 kw858 ⟨rfl, by decide +kernel, by decide +kernel, by decide +kernel⟩ ⟨by decide, by decide⟩ shN6 dX6_balances_12) ?_
    refine Sim.sq (p1 := 18) (s_if_ne dX6_balances_15 (by decide) rfl) ?_
    refine Sim.sq (p1 := 19) (s_aload_n rfl dX6_balances_18) ?_
    refine Sim.sq (p1 := 20) (s_iconst (by decide +kernel) dX6_balances_19) ?_
    refine Sim.sq (p1 := 23) (s_callV (C_X6_buildsAnew l) (rfl : vwCl[6]? = some (RX6, TX6, 12)) (by decide) kw792 kw794 kw25 kw59 kw795 ⟨rfl, by decide +kernel, by decide +kernel, by decide +kernel⟩ ⟨by decide, by decide⟩ shN6 dX6_balances_20) ?_
    refine Sim.sq (p1 := 24) (s_aload_n rfl dX6_balances_23) ?_
    refine Sim.sq (p1 := 27) (s_getr (rfl : vwCl[6]? = some (RX6, TX6, 12)) (by decide) (by decide) inG6 kw701 rfl dX6_balances_24) ?_
    refine Sim.sq (p1 := 28) (s_iconst (by decide +kernel) dX6_balances_27) ?_
    refine Sim.sq (p1 := 29) (s_dup2 dX6_balances_28) ?_
    refine Sim.sq (p1 := 30) (s_iald dX6_balances_29) ?_
    refine Sim.sq (p1 := 31) (s_iconst (by decide +kernel) dX6_balances_30) ?_
    refine Sim.sq (p1 := 32) (s_iadd dX6_balances_31) ?_
    exact (s_iast dX6_balances_32)
  exact (s_vret rfl dX6_balances_33)
set_option maxRecDepth 100000 in
set_option maxHeartbeats 4000000 in
theorem C_X6_balances (l : Launch) : Ct l yX6_balances cX6_balances 1 none 3 70 m_X6_balances := Ct_of (y := yX6_balances) (by decide +kernel) S_X6_balances
set_option maxRecDepth 100000 in
set_option maxHeartbeats 4000000 in
theorem S_X6_insert {l : Launch} : Sim l (fun _ => True) RX6 "insert" cX6_insert 3 (some .int) 7 173 [] b_X6_insert 0 105 := by
  unfold b_X6_insert
  refine Sim.sq (p1 := 1) (s_aload_n rfl dX6_insert_0) ?_
  refine Sim.sq (p1 := 2) (s_iload_n rfl dX6_insert_1) ?_
  refine Sim.sq (p1 := 5) (s_callV (C_X6_isPosition l) (rfl : vwCl[6]? = some (RX6, TX6, 12)) (by decide) kw764 kw766 kw18 kw59 kw767 ⟨rfl, by decide +kernel, by decide +kernel, by decide +kernel⟩ ⟨by decide, by decide⟩ shN6 dX6_insert_2) ?_
  refine Sim.sq (p1 := 10) (Sim.bk ?_) ?_
  · refine Sim.sq (p1 := 8) (s_if_ne dX6_insert_5 (by decide) rfl) ?_
    refine Sim.sq (p1 := 9) (s_iconst (by decide +kernel) dX6_insert_8) ?_
    exact (s_iret rfl dX6_insert_9)
  refine Sim.sq (p1 := 11) (s_aload_n rfl dX6_insert_10) ?_
  refine Sim.sq (p1 := 14) (s_geti (rfl : vwCl[6]? = some (RX6, TX6, 12)) (by decide) (by decide) inG6 kw706 rfl dX6_insert_11) ?_
  refine Sim.sq (p1 := 20) (Sim.bk ?_) ?_
  · refine Sim.sq (p1 := 17) (s_if_ne dX6_insert_14 (by decide) rfl) ?_
    refine Sim.sq (p1 := 19) (s_bipush (by decide +kernel) dX6_insert_17) ?_
    exact (s_iret rfl dX6_insert_19)
  refine Sim.sq (p1 := 21) (s_aload_n rfl dX6_insert_20) ?_
  refine Sim.sq (p1 := 22) (s_iconst (by decide +kernel) dX6_insert_21) ?_
  refine Sim.sq (p1 := 25) (s_callV (C_X6_lengthOf l) (rfl : vwCl[6]? = some (RX6, TX6, 12)) (by decide) kw768 kw770 kw19 kw59 kw771 ⟨rfl, by decide +kernel, by decide +kernel, by decide +kernel⟩ ⟨by decide, by decide⟩ shN6 dX6_insert_22) ?_
  refine Sim.sq (p1 := 26) (s_aload_n rfl dX6_insert_25) ?_
  refine Sim.sq (p1 := 29) (s_geti (rfl : vwCl[6]? = some (RX6, TX6, 12)) (by decide) (by decide) inG6 kw706 rfl dX6_insert_26) ?_
  refine Sim.sq (p1 := 30) (s_iadd dX6_insert_29) ?_
  refine Sim.sq (p1 := 33) (s_sipush (by decide +kernel) dX6_insert_30) ?_
  refine Sim.sq (p1 := 39) (Sim.bk ?_) ?_
  · refine Sim.sq (p1 := 36) (s_icmp_le dX6_insert_33 (by decide) rfl) ?_
    refine Sim.sq (p1 := 38) (s_bipush (by decide +kernel) dX6_insert_36) ?_
    exact (s_iret rfl dX6_insert_38)
  refine Sim.sq (p1 := 40) (s_aload_n rfl dX6_insert_39) ?_
  refine Sim.sq (p1 := 43) (s_callV (C_X6_record l) (rfl : vwCl[6]? = some (RX6, TX6, 12)) (by decide) kw744 kw746 kw17 kw59 kw747 ⟨rfl, by decide +kernel, by decide +kernel, by decide +kernel⟩ ⟨by decide, by decide⟩ shN6 dX6_insert_40) ?_
  refine Sim.sq (p1 := 44) (s_aload_n rfl dX6_insert_43) ?_
  refine Sim.sq (p1 := 46) (s_bipush (by decide +kernel) dX6_insert_44) ?_
  refine Sim.sq (p1 := 49) (s_callV (C_X6_empties l) (rfl : vwCl[6]? = some (RX6, TX6, 12)) (by decide) kw772 kw774 kw20 kw59 kw775 ⟨rfl, by decide +kernel, by decide +kernel, by decide +kernel⟩ ⟨by decide, by decide⟩ shN6 dX6_insert_46) ?_
  refine Sim.sq (p1 := 50) (s_iconst (by decide +kernel) dX6_insert_49) ?_
  refine Sim.sq (p1 := 51) (s_istore_n rfl (by decide) dX6_insert_50) ?_
  refine Sim.sq (p1 := 77) (Sim.lp ?_) ?_
  · refine Sim.sq (p1 := 52) (s_iload_n rfl dX6_insert_51) ?_
    refine Sim.sq (p1 := 53) (s_aload_n rfl dX6_insert_52) ?_
    refine Sim.sq (p1 := 56) (s_geti (rfl : vwCl[6]? = some (RX6, TX6, 12)) (by decide) (by decide) inG6 kw706 rfl dX6_insert_53) ?_
    refine Sim.bk ?_
    refine Sim.sq (p1 := 59) (s_icmp_ge dX6_insert_56 (by decide) rfl) ?_
    refine Sim.sq (p1 := 60) (s_aload_n rfl dX6_insert_59) ?_
    refine Sim.sq (p1 := 62) (s_bipush (by decide +kernel) dX6_insert_60) ?_
    refine Sim.sq (p1 := 63) (s_aload_n rfl dX6_insert_62) ?_
    refine Sim.sq (p1 := 66) (s_getr (rfl : vwCl[6]? = some (RX6, TX6, 12)) (by decide) (by decide) inG6 kw705 rfl dX6_insert_63) ?_
    refine Sim.sq (p1 := 67) (s_iload_n rfl dX6_insert_66) ?_
    refine Sim.sq (p1 := 68) (s_iald dX6_insert_67) ?_
    refine Sim.sq (p1 := 71) (s_callV (C_X6_addsCharacter l) (rfl : vwCl[6]? = some (RX6, TX6, 12)) (by decide) kw776 kw778 kw21 kw59 kw779 ⟨rfl, by decide +kernel, by decide +kernel, by decide +kernel⟩ ⟨by decide, by decide⟩ shN6 dX6_insert_68) ?_
    refine Sim.sq (p1 := 74) (s_iinc (by decide +kernel) (by decide) dX6_insert_71) ?_
    exact (s_goto dX6_insert_74 (by decide) rfl)
  refine Sim.sq (p1 := 78) (s_aload_n rfl dX6_insert_77) ?_
  refine Sim.sq (p1 := 80) (s_bipush (by decide +kernel) dX6_insert_78) ?_
  refine Sim.sq (p1 := 83) (s_callV (C_X6_packs l) (rfl : vwCl[6]? = some (RX6, TX6, 12)) (by decide) kw780 kw782 kw22 kw59 kw783 ⟨rfl, by decide +kernel, by decide +kernel, by decide +kernel⟩ ⟨by decide, by decide⟩ shN6 dX6_insert_80) ?_
  refine Sim.sq (p1 := 84) (s_aload_n rfl dX6_insert_83) ?_
  refine Sim.sq (p1 := 85) (s_iconst (by decide +kernel) dX6_insert_84) ?_
  refine Sim.sq (p1 := 88) (s_puti (rfl : vwCl[6]? = some (RX6, TX6, 12)) (by decide) (by decide) inG6 kw706 rfl tyX6 tyX6_ok nmX6 rfl (by decide +kernel) dX6_insert_85) ?_
  refine Sim.sq (p1 := 89) (s_aload_n rfl dX6_insert_88) ?_
  refine Sim.sq (p1 := 91) (s_bipush (by decide +kernel) dX6_insert_89) ?_
  refine Sim.sq (p1 := 92) (s_iload_n rfl dX6_insert_91) ?_
  refine Sim.sq (p1 := 95) (s_callV (C_X6_inserts l) (rfl : vwCl[6]? = some (RX6, TX6, 12)) (by decide) kw799 kw801 kw26 kw59 kw802 ⟨rfl, by decide +kernel, by decide +kernel, by decide +kernel⟩ ⟨by decide, by decide⟩ shN6 dX6_insert_92) ?_
  refine Sim.sq (p1 := 96) (s_aload_n rfl dX6_insert_95) ?_
  refine Sim.sq (p1 := 99) (s_callV (C_X6_balances l) (rfl : vwCl[6]? = some (RX6, TX6, 12)) (by decide) kw851 kw853 kw39 kw59 kw854 ⟨rfl, by decide +kernel, by decide +kernel, by decide +kernel⟩ ⟨by decide, by decide⟩ shN6 dX6_insert_96) ?_
  refine Sim.sq (p1 := 100) (s_aload_n rfl dX6_insert_99) ?_
  refine Sim.sq (p1 := 101) (s_iconst (by decide +kernel) dX6_insert_100) ?_
  refine Sim.sq (p1 := 104) (s_callV (C_X6_lengthOf l) (rfl : vwCl[6]? = some (RX6, TX6, 12)) (by decide) kw768 kw770 kw19 kw59 kw771 ⟨rfl, by decide +kernel, by decide +kernel, by decide +kernel⟩ ⟨by decide, by decide⟩ shN6 dX6_insert_101) ?_
  exact (s_iret rfl dX6_insert_104)
set_option maxRecDepth 100000 in
set_option maxHeartbeats 4000000 in
theorem C_X6_insert (l : Launch) : Ct l yX6_insert cX6_insert 3 (some .int) 7 173 m_X6_insert := Ct_of (y := yX6_insert) (by decide +kernel) S_X6_insert
set_option maxRecDepth 100000 in
set_option maxHeartbeats 4000000 in
theorem S_X5_refusalOfPiece {l : Launch} : Sim l (fun _ => True) RX5 "refusalOfPiece" cX5_refusalOfPiece 3 (some .int) 3 62 [] b_X5_refusalOfPiece 0 30 := by
  unfold b_X5_refusalOfPiece
  refine Sim.sq (p1 := 1) (s_aload_n rfl dX5_refusalOfPiece_0) ?_
  refine Sim.sq (p1 := 2) (s_iload_n rfl dX5_refusalOfPiece_1) ?_
  refine Sim.sq (p1 := 5) (s_callV (C_X5_isPosition l) (rfl : vwCl[5]? = some (RX5, TX5, 11)) (by decide) kw302 kw304 kw0 kw52 kw305 ⟨rfl, by decide +kernel, by decide +kernel, by decide +kernel⟩ ⟨by decide, by decide⟩ shN5 dX5_refusalOfPiece_2) ?_
  refine Sim.sq (p1 := 18) (Sim.bk ?_) ?_
  · refine Sim.sq (p1 := 16) (Sim.bk ?_) ?_
    · refine Sim.sq (p1 := 8) (s_if_eq dX5_refusalOfPiece_5 (by decide) rfl) ?_
      refine Sim.sq (p1 := 9) (s_aload_n rfl dX5_refusalOfPiece_8) ?_
      refine Sim.sq (p1 := 10) (s_iload_n rfl dX5_refusalOfPiece_9) ?_
      refine Sim.sq (p1 := 13) (s_callV (C_X5_isPosition l) (rfl : vwCl[5]? = some (RX5, TX5, 11)) (by decide) kw302 kw304 kw0 kw52 kw305 ⟨rfl, by decide +kernel, by decide +kernel, by decide +kernel⟩ ⟨by decide, by decide⟩ shN5 dX5_refusalOfPiece_10) ?_
      exact (s_if_ne dX5_refusalOfPiece_13 (by decide) rfl)
    refine Sim.sq (p1 := 17) (s_iconst (by decide +kernel) dX5_refusalOfPiece_16) ?_
    exact (s_iret rfl dX5_refusalOfPiece_17)
  refine Sim.sq (p1 := 19) (s_iload_n rfl dX5_refusalOfPiece_18) ?_
  refine Sim.sq (p1 := 20) (s_iload_n rfl dX5_refusalOfPiece_19) ?_
  refine Sim.sq (p1 := 29) (Sim.bk ?_) ?_
  · refine Sim.sq (p1 := 28) (Sim.bk ?_) ?_
    · refine Sim.sq (p1 := 23) (s_icmp_gt dX5_refusalOfPiece_20 (by decide) rfl) ?_
      refine Sim.sq (p1 := 25) (s_bipush (by decide +kernel) dX5_refusalOfPiece_23) ?_
      exact (s_goto dX5_refusalOfPiece_25 (by decide) rfl)
    exact (s_iconst (by decide +kernel) dX5_refusalOfPiece_28)
  exact (s_iret rfl dX5_refusalOfPiece_29)
set_option maxRecDepth 100000 in
set_option maxHeartbeats 4000000 in
theorem C_X5_refusalOfPiece (l : Launch) : Ct l yX5_refusalOfPiece cX5_refusalOfPiece 3 (some .int) 3 62 m_X5_refusalOfPiece := Ct_of (y := yX5_refusalOfPiece) (by decide +kernel) S_X5_refusalOfPiece
set_option maxRecDepth 100000 in
set_option maxHeartbeats 4000000 in
theorem S_X2_moveMarksBack {l : Launch} : Sim l (fun _ => True) RX2 "moveMarksBack" cX2_moveMarksBack 4 none 0 0 [] b_X2_moveMarksBack 0 60 := by
  unfold b_X2_moveMarksBack
  refine Sim.sq (p1 := 1) (s_iconst (by decide +kernel) dX2_moveMarksBack_0) ?_
  refine Sim.sq (p1 := 2) (s_istore_n rfl (by decide) dX2_moveMarksBack_1) ?_
  refine Sim.sq (p1 := 59) (Sim.lp ?_) ?_
  · refine Sim.sq (p1 := 3) (s_iload_n rfl dX2_moveMarksBack_2) ?_
    refine Sim.sq (p1 := 4) (s_aload_n rfl dX2_moveMarksBack_3) ?_
    refine Sim.sq (p1 := 7) (s_getr (rfl : vwCl[2]? = some (RX2, TX2, 7)) (by decide) (by decide) inG2 kw183 rfl dX2_moveMarksBack_4) ?_
    refine Sim.sq (p1 := 8) (s_alen dX2_moveMarksBack_7) ?_
    refine Sim.bk ?_
    refine Sim.sq (p1 := 11) (s_icmp_ge dX2_moveMarksBack_8 (by decide) rfl) ?_
    refine Sim.sq (p1 := 12) (s_aload_n rfl dX2_moveMarksBack_11) ?_
    refine Sim.sq (p1 := 15) (s_getr (rfl : vwCl[2]? = some (RX2, TX2, 7)) (by decide) (by decide) inG2 kw183 rfl dX2_moveMarksBack_12) ?_
    refine Sim.sq (p1 := 16) (s_iload_n rfl dX2_moveMarksBack_15) ?_
    refine Sim.sq (p1 := 17) (s_iald dX2_moveMarksBack_16) ?_
    refine Sim.sq (p1 := 18) (s_iload_n rfl dX2_moveMarksBack_17) ?_
    refine Sim.sq (p1 := 53) (Sim.bk ?_) ?_
    · refine Sim.sq (p1 := 36) (Sim.bk ?_) ?_
      · refine Sim.sq (p1 := 21) (s_icmp_le dX2_moveMarksBack_18 (by decide) rfl) ?_
        refine Sim.sq (p1 := 22) (s_aload_n rfl dX2_moveMarksBack_21) ?_
        refine Sim.sq (p1 := 25) (s_getr (rfl : vwCl[2]? = some (RX2, TX2, 7)) (by decide) (by decide) inG2 kw183 rfl dX2_moveMarksBack_22) ?_
        refine Sim.sq (p1 := 26) (s_iload_n rfl dX2_moveMarksBack_25) ?_
        refine Sim.sq (p1 := 27) (s_dup2 dX2_moveMarksBack_26) ?_
        refine Sim.sq (p1 := 28) (s_iald dX2_moveMarksBack_27) ?_
        refine Sim.sq (p1 := 29) (s_iload_n rfl dX2_moveMarksBack_28) ?_
        refine Sim.sq (p1 := 30) (s_iload_n rfl dX2_moveMarksBack_29) ?_
        refine Sim.sq (p1 := 31) (s_isub dX2_moveMarksBack_30) ?_
        refine Sim.sq (p1 := 32) (s_isub dX2_moveMarksBack_31) ?_
        refine Sim.sq (p1 := 33) (s_iast dX2_moveMarksBack_32) ?_
        exact (s_goto dX2_moveMarksBack_33 (by decide) rfl)
      refine Sim.sq (p1 := 37) (s_aload_n rfl dX2_moveMarksBack_36) ?_
      refine Sim.sq (p1 := 40) (s_getr (rfl : vwCl[2]? = some (RX2, TX2, 7)) (by decide) (by decide) inG2 kw183 rfl dX2_moveMarksBack_37) ?_
      refine Sim.sq (p1 := 41) (s_iload_n rfl dX2_moveMarksBack_40) ?_
      refine Sim.sq (p1 := 42) (s_iald dX2_moveMarksBack_41) ?_
      refine Sim.sq (p1 := 43) (s_iload_n rfl dX2_moveMarksBack_42) ?_
      refine Sim.sq (p1 := 46) (s_icmp_lt dX2_moveMarksBack_43 (by decide) rfl) ?_
      refine Sim.sq (p1 := 47) (s_aload_n rfl dX2_moveMarksBack_46) ?_
      refine Sim.sq (p1 := 50) (s_getr (rfl : vwCl[2]? = some (RX2, TX2, 7)) (by decide) (by decide) inG2 kw183 rfl dX2_moveMarksBack_47) ?_
      refine Sim.sq (p1 := 51) (s_iload_n rfl dX2_moveMarksBack_50) ?_
      refine Sim.sq (p1 := 52) (s_iload_n rfl dX2_moveMarksBack_51) ?_
      exact (s_iast dX2_moveMarksBack_52)
    refine Sim.sq (p1 := 56) (s_iinc (by decide +kernel) (by decide) dX2_moveMarksBack_53) ?_
    exact (s_goto dX2_moveMarksBack_56 (by decide) rfl)
  exact (s_vret rfl dX2_moveMarksBack_59)
set_option maxRecDepth 100000 in
set_option maxHeartbeats 4000000 in
theorem C_X2_moveMarksBack (l : Launch) : Ct l yX2_moveMarksBack cX2_moveMarksBack 4 none 0 0 m_X2_moveMarksBack := Ct_of (y := yX2_moveMarksBack) (by decide +kernel) S_X2_moveMarksBack
set_option maxRecDepth 100000 in
set_option maxHeartbeats 4000000 in
theorem S_X5_takeOut {l : Launch} : Sim l (fun _ => True) RX5 "takeOut" cX5_takeOut 6 (some .int) 6 138 [] b_X5_takeOut 0 96 := by
  unfold b_X5_takeOut
  refine Sim.sq (p1 := 1) (s_aload_n rfl dX5_takeOut_0) ?_
  refine Sim.sq (p1 := 4) (s_getr (rfl : vwCl[5]? = some (RX5, TX5, 11)) (by decide) (by decide) inG5 kw234 rfl dX5_takeOut_1) ?_
  refine Sim.sq (p1 := 7) (s_getiN (rfl : vwCl[2]? = some (RX2, TX2, 7)) (by decide) (by decide) inG2 kn188 rfl dX5_takeOut_4) ?_
  refine Sim.sq (p1 := 8) (s_istore_n rfl (by decide) dX5_takeOut_7) ?_
  refine Sim.sq (p1 := 9) (s_aload_n rfl dX5_takeOut_8) ?_
  refine Sim.sq (p1 := 12) (s_getr (rfl : vwCl[5]? = some (RX5, TX5, 11)) (by decide) (by decide) inG5 kw230 rfl dX5_takeOut_9) ?_
  refine Sim.sq (p1 := 13) (s_aload_n rfl dX5_takeOut_12) ?_
  refine Sim.sq (p1 := 16) (s_getr (rfl : vwCl[5]? = some (RX5, TX5, 11)) (by decide) (by decide) inG5 kw234 rfl dX5_takeOut_13) ?_
  refine Sim.sq (p1 := 19) (s_getiN (rfl : vwCl[2]? = some (RX2, TX2, 7)) (by decide) (by decide) inG2 kn192 rfl dX5_takeOut_16) ?_
  refine Sim.sq (p1 := 20) (s_iload_n rfl dX5_takeOut_19) ?_
  refine Sim.sq (p1 := 21) (s_iload_n rfl dX5_takeOut_20) ?_
  refine Sim.sq (p1 := 24) (s_callV (C_X4_split l) (rfl : vwCl[4]? = some (RX4, TX4, 6)) (by decide) kw388 kw389 kw390 kw53 kw391 ⟨rfl, by decide +kernel, by decide +kernel, by decide +kernel⟩ ⟨by decide, by decide⟩ shN4 dX5_takeOut_21) ?_
  refine Sim.sq (p1 := 25) (s_aload_n rfl dX5_takeOut_24) ?_
  refine Sim.sq (p1 := 28) (s_getr (rfl : vwCl[5]? = some (RX5, TX5, 11)) (by decide) (by decide) inG5 kw230 rfl dX5_takeOut_25) ?_
  refine Sim.sq (p1 := 31) (s_getiN (rfl : vwCl[4]? = some (RX4, TX4, 6)) (by decide) (by decide) inG4 kn123 rfl dX5_takeOut_28) ?_
  refine Sim.sq (p1 := 33) (s_istore (by decide) dX5_takeOut_31) ?_
  refine Sim.sq (p1 := 34) (s_aload_n rfl dX5_takeOut_33) ?_
  refine Sim.sq (p1 := 37) (s_getr (rfl : vwCl[5]? = some (RX5, TX5, 11)) (by decide) (by decide) inG5 kw230 rfl dX5_takeOut_34) ?_
  refine Sim.sq (p1 := 38) (s_aload_n rfl dX5_takeOut_37) ?_
  refine Sim.sq (p1 := 41) (s_getr (rfl : vwCl[5]? = some (RX5, TX5, 11)) (by decide) (by decide) inG5 kw230 rfl dX5_takeOut_38) ?_
  refine Sim.sq (p1 := 44) (s_getiN (rfl : vwCl[4]? = some (RX4, TX4, 6)) (by decide) (by decide) inG4 kn125 rfl dX5_takeOut_41) ?_
  refine Sim.sq (p1 := 45) (s_iload_n rfl dX5_takeOut_44) ?_
  refine Sim.sq (p1 := 46) (s_iload_n rfl dX5_takeOut_45) ?_
  refine Sim.sq (p1 := 47) (s_isub dX5_takeOut_46) ?_
  refine Sim.sq (p1 := 48) (s_iload_n rfl dX5_takeOut_47) ?_
  refine Sim.sq (p1 := 51) (s_callV (C_X4_split l) (rfl : vwCl[4]? = some (RX4, TX4, 6)) (by decide) kw388 kw389 kw390 kw53 kw391 ⟨rfl, by decide +kernel, by decide +kernel, by decide +kernel⟩ ⟨by decide, by decide⟩ shN4 dX5_takeOut_48) ?_
  refine Sim.sq (p1 := 52) (s_aload_n rfl dX5_takeOut_51) ?_
  refine Sim.sq (p1 := 55) (s_getr (rfl : vwCl[5]? = some (RX5, TX5, 11)) (by decide) (by decide) inG5 kw230 rfl dX5_takeOut_52) ?_
  refine Sim.sq (p1 := 58) (s_getiN (rfl : vwCl[4]? = some (RX4, TX4, 6)) (by decide) (by decide) inG4 kn123 rfl dX5_takeOut_55) ?_
  refine Sim.sq (p1 := 60) (s_istore (by decide) dX5_takeOut_58) ?_
  refine Sim.sq (p1 := 61) (s_aload_n rfl dX5_takeOut_60) ?_
  refine Sim.sq (p1 := 64) (s_getr (rfl : vwCl[5]? = some (RX5, TX5, 11)) (by decide) (by decide) inG5 kw234 rfl dX5_takeOut_61) ?_
  refine Sim.sq (p1 := 65) (s_aload_n rfl dX5_takeOut_64) ?_
  refine Sim.sq (p1 := 68) (s_getr (rfl : vwCl[5]? = some (RX5, TX5, 11)) (by decide) (by decide) inG5 kw230 rfl dX5_takeOut_65) ?_
  refine Sim.sq (p1 := 70) (s_iload dX5_takeOut_68) ?_
  refine Sim.sq (p1 := 71) (s_aload_n rfl dX5_takeOut_70) ?_
  refine Sim.sq (p1 := 74) (s_getr (rfl : vwCl[5]? = some (RX5, TX5, 11)) (by decide) (by decide) inG5 kw230 rfl dX5_takeOut_71) ?_
  refine Sim.sq (p1 := 77) (s_getiN (rfl : vwCl[4]? = some (RX4, TX4, 6)) (by decide) (by decide) inG4 kn125 rfl dX5_takeOut_74) ?_
  refine Sim.sq (p1 := 78) (s_iload_n rfl dX5_takeOut_77) ?_
  refine Sim.sq (p1 := 81) (s_callV (C_X4_join l) (rfl : vwCl[4]? = some (RX4, TX4, 6)) (by decide) kw440 kw423 kw424 kw53 kw425 ⟨rfl, by decide +kernel, by decide +kernel, by decide +kernel⟩ ⟨by decide, by decide⟩ shN4 dX5_takeOut_78) ?_
  refine Sim.sq (p1 := 84) (s_putiN (rfl : vwCl[2]? = some (RX2, TX2, 7)) (by decide) (by decide) inG2 kn192 rfl tyX2 tyX2_ok nmX2 rfl (by decide +kernel) dX5_takeOut_81) ?_
  refine Sim.sq (p1 := 85) (s_aload_n rfl dX5_takeOut_84) ?_
  refine Sim.sq (p1 := 88) (s_getr (rfl : vwCl[5]? = some (RX5, TX5, 11)) (by decide) (by decide) inG5 kw234 rfl dX5_takeOut_85) ?_
  refine Sim.sq (p1 := 89) (s_iload_n rfl dX5_takeOut_88) ?_
  refine Sim.sq (p1 := 90) (s_iload_n rfl dX5_takeOut_89) ?_
  refine Sim.sq (p1 := 93) (s_callV (C_X2_moveMarksBack l) (rfl : vwCl[2]? = some (RX2, TX2, 7)) (by decide) kw484 kw485 kw486 kw56 kw487 ⟨rfl, by decide +kernel, by decide +kernel, by decide +kernel⟩ ⟨by decide, by decide⟩ shN2 dX5_takeOut_90) ?_
  refine Sim.sq (p1 := 95) (s_iload dX5_takeOut_93) ?_
  exact (s_iret rfl dX5_takeOut_95)
set_option maxRecDepth 100000 in
set_option maxHeartbeats 4000000 in
theorem C_X5_takeOut (l : Launch) : Ct l yX5_takeOut cX5_takeOut 6 (some .int) 6 138 m_X5_takeOut := Ct_of (y := yX5_takeOut) (by decide +kernel) S_X5_takeOut
set_option maxRecDepth 100000 in
set_option maxHeartbeats 4000000 in
theorem S_X5_delete {l : Launch} : Sim l (fun _ => True) RX5 "delete" cX5_delete 4 (some .int) 19 478 [] b_X5_delete 0 33 := by
  unfold b_X5_delete
  refine Sim.sq (p1 := 1) (s_aload_n rfl dX5_delete_0) ?_
  refine Sim.sq (p1 := 2) (s_iload_n rfl dX5_delete_1) ?_
  refine Sim.sq (p1 := 3) (s_iload_n rfl dX5_delete_2) ?_
  refine Sim.sq (p1 := 6) (s_callV (C_X5_refusalOfPiece l) (rfl : vwCl[5]? = some (RX5, TX5, 11)) (by decide) kw476 kw478 kw12 kw52 kw479 ⟨rfl, by decide +kernel, by decide +kernel, by decide +kernel⟩ ⟨by decide, by decide⟩ shN5 dX5_delete_3) ?_
  refine Sim.sq (p1 := 7) (s_istore_n rfl (by decide) dX5_delete_6) ?_
  refine Sim.sq (p1 := 8) (s_iload_n rfl dX5_delete_7) ?_
  refine Sim.sq (p1 := 13) (Sim.bk ?_) ?_
  · refine Sim.sq (p1 := 11) (s_if_eq dX5_delete_8 (by decide) rfl) ?_
    refine Sim.sq (p1 := 12) (s_iload_n rfl dX5_delete_11) ?_
    exact (s_iret rfl dX5_delete_12)
  refine Sim.sq (p1 := 14) (s_aload_n rfl dX5_delete_13) ?_
  refine Sim.sq (p1 := 17) (s_callV (C_X5_startChange l) (rfl : vwCl[5]? = some (RX5, TX5, 11)) (by decide) kw314 kw316 kw1 kw52 kw317 ⟨rfl, by decide +kernel, by decide +kernel, by decide +kernel⟩ ⟨by decide, by decide⟩ shN5 dX5_delete_14) ?_
  refine Sim.sq (p1 := 18) (s_aload_n rfl dX5_delete_17) ?_
  refine Sim.sq (p1 := 19) (s_iload_n rfl dX5_delete_18) ?_
  refine Sim.sq (p1 := 20) (s_iload_n rfl dX5_delete_19) ?_
  refine Sim.sq (p1 := 23) (s_callV (C_X5_takeOut l) (rfl : vwCl[5]? = some (RX5, TX5, 11)) (by decide) kw480 kw482 kw13 kw52 kw483 ⟨rfl, by decide +kernel, by decide +kernel, by decide +kernel⟩ ⟨by decide, by decide⟩ shN5 dX5_delete_20) ?_
  refine Sim.sq (p1 := 24) (s_pop dX5_delete_23) ?_
  refine Sim.sq (p1 := 25) (s_aload_n rfl dX5_delete_24) ?_
  refine Sim.sq (p1 := 28) (s_callV (C_X5_balance l) (rfl : vwCl[5]? = some (RX5, TX5, 11)) (by decide) kw445 kw447 kw9 kw52 kw448 ⟨rfl, by decide +kernel, by decide +kernel, by decide +kernel⟩ ⟨by decide, by decide⟩ shN5 dX5_delete_25) ?_
  refine Sim.sq (p1 := 29) (s_aload_n rfl dX5_delete_28) ?_
  refine Sim.sq (p1 := 32) (s_callV (C_X5_length l) (rfl : vwCl[5]? = some (RX5, TX5, 11)) (by decide) kw306 kw307 kw308 kw52 kw309 ⟨rfl, by decide +kernel, by decide +kernel, by decide +kernel⟩ ⟨by decide, by decide⟩ shN5 dX5_delete_29) ?_
  exact (s_iret rfl dX5_delete_32)
set_option maxRecDepth 100000 in
set_option maxHeartbeats 4000000 in
theorem C_X5_delete (l : Launch) : Ct l yX5_delete cX5_delete 4 (some .int) 19 478 m_X5_delete := Ct_of (y := yX5_delete) (by decide +kernel) S_X5_delete
set_option maxRecDepth 100000 in
set_option maxHeartbeats 4000000 in
theorem S_X6_whyNoRange {l : Launch} : Sim l (fun _ => True) RX6 "whyNoRange" cX6_whyNoRange 3 (some .int) 2 43 [] b_X6_whyNoRange 0 32 := by
  unfold b_X6_whyNoRange
  refine Sim.sq (p1 := 1) (s_aload_n rfl dX6_whyNoRange_0) ?_
  refine Sim.sq (p1 := 2) (s_iload_n rfl dX6_whyNoRange_1) ?_
  refine Sim.sq (p1 := 5) (s_callV (C_X6_isPosition l) (rfl : vwCl[6]? = some (RX6, TX6, 12)) (by decide) kw764 kw766 kw18 kw59 kw767 ⟨rfl, by decide +kernel, by decide +kernel, by decide +kernel⟩ ⟨by decide, by decide⟩ shN6 dX6_whyNoRange_2) ?_
  refine Sim.sq (p1 := 31) (Sim.bk ?_) ?_
  · refine Sim.sq (p1 := 20) (Sim.bk ?_) ?_
    · refine Sim.sq (p1 := 16) (Sim.bk ?_) ?_
      · refine Sim.sq (p1 := 8) (s_if_eq dX6_whyNoRange_5 (by decide) rfl) ?_
        refine Sim.sq (p1 := 9) (s_aload_n rfl dX6_whyNoRange_8) ?_
        refine Sim.sq (p1 := 10) (s_iload_n rfl dX6_whyNoRange_9) ?_
        refine Sim.sq (p1 := 13) (s_callV (C_X6_isPosition l) (rfl : vwCl[6]? = some (RX6, TX6, 12)) (by decide) kw764 kw766 kw18 kw59 kw767 ⟨rfl, by decide +kernel, by decide +kernel, by decide +kernel⟩ ⟨by decide, by decide⟩ shN6 dX6_whyNoRange_10) ?_
        exact (s_if_ne dX6_whyNoRange_13 (by decide) rfl)
      refine Sim.sq (p1 := 17) (s_iconst (by decide +kernel) dX6_whyNoRange_16) ?_
      exact (s_goto dX6_whyNoRange_17 (by decide) rfl)
    refine Sim.sq (p1 := 21) (s_iload_n rfl dX6_whyNoRange_20) ?_
    refine Sim.sq (p1 := 22) (s_iload_n rfl dX6_whyNoRange_21) ?_
    refine Sim.sq (p1 := 30) (Sim.bk ?_) ?_
    · refine Sim.sq (p1 := 25) (s_icmp_gt dX6_whyNoRange_22 (by decide) rfl) ?_
      refine Sim.sq (p1 := 27) (s_bipush (by decide +kernel) dX6_whyNoRange_25) ?_
      exact (s_goto dX6_whyNoRange_27 (by decide) rfl)
    exact (s_iconst (by decide +kernel) dX6_whyNoRange_30)
  exact (s_iret rfl dX6_whyNoRange_31)
set_option maxRecDepth 100000 in
set_option maxHeartbeats 4000000 in
theorem C_X6_whyNoRange (l : Launch) : Ct l yX6_whyNoRange cX6_whyNoRange 3 (some .int) 2 43 m_X6_whyNoRange := Ct_of (y := yX6_whyNoRange) (by decide +kernel) S_X6_whyNoRange
set_option maxRecDepth 100000 in
set_option maxHeartbeats 4000000 in
theorem S_X6_parts {l : Launch} : Sim l (fun _ => True) RX6 "parts" cX6_parts 3 none 6 150 [] b_X6_parts 0 24 := by
  unfold b_X6_parts
  refine Sim.sq (p1 := 1) (s_aload_n rfl dX6_parts_0) ?_
  refine Sim.sq (p1 := 2) (s_iconst (by decide +kernel) dX6_parts_1) ?_
  refine Sim.sq (p1 := 3) (s_iload_n rfl dX6_parts_2) ?_
  refine Sim.sq (p1 := 5) (s_bipush (by decide +kernel) dX6_parts_3) ?_
  refine Sim.sq (p1 := 7) (s_bipush (by decide +kernel) dX6_parts_5) ?_
  refine Sim.sq (p1 := 10) (s_callV (C_X6_splits l) (rfl : vwCl[6]? = some (RX6, TX6, 12)) (by decide) kw803 kw805 kw27 kw59 kw806 ⟨rfl, by decide +kernel, by decide +kernel, by decide +kernel⟩ ⟨by decide, by decide⟩ shN6 dX6_parts_7) ?_
  refine Sim.sq (p1 := 11) (s_aload_n rfl dX6_parts_10) ?_
  refine Sim.sq (p1 := 13) (s_bipush (by decide +kernel) dX6_parts_11) ?_
  refine Sim.sq (p1 := 14) (s_iload_n rfl dX6_parts_13) ?_
  refine Sim.sq (p1 := 15) (s_iload_n rfl dX6_parts_14) ?_
  refine Sim.sq (p1 := 16) (s_isub dX6_parts_15) ?_
  refine Sim.sq (p1 := 18) (s_bipush (by decide +kernel) dX6_parts_16) ?_
  refine Sim.sq (p1 := 20) (s_bipush (by decide +kernel) dX6_parts_18) ?_
  refine Sim.sq (p1 := 23) (s_callV (C_X6_splits l) (rfl : vwCl[6]? = some (RX6, TX6, 12)) (by decide) kw803 kw805 kw27 kw59 kw806 ⟨rfl, by decide +kernel, by decide +kernel, by decide +kernel⟩ ⟨by decide, by decide⟩ shN6 dX6_parts_20) ?_
  exact (s_vret rfl dX6_parts_23)
set_option maxRecDepth 100000 in
set_option maxHeartbeats 4000000 in
theorem C_X6_parts (l : Launch) : Ct l yX6_parts cX6_parts 3 none 6 150 m_X6_parts := Ct_of (y := yX6_parts) (by decide +kernel) S_X6_parts
set_option maxRecDepth 100000 in
set_option maxHeartbeats 4000000 in
theorem S_X6_takesOut {l : Launch} : Sim l (fun _ => True) RX6 "takesOut" cX6_takesOut 5 none 7 172 [] b_X6_takesOut 0 74 := by
  unfold b_X6_takesOut
  refine Sim.sq (p1 := 1) (s_aload_n rfl dX6_takesOut_0) ?_
  refine Sim.sq (p1 := 2) (s_iload_n rfl dX6_takesOut_1) ?_
  refine Sim.sq (p1 := 3) (s_iload_n rfl dX6_takesOut_2) ?_
  refine Sim.sq (p1 := 6) (s_callV (C_X6_parts l) (rfl : vwCl[6]? = some (RX6, TX6, 12)) (by decide) kw875 kw877 kw44 kw59 kw878 ⟨rfl, by decide +kernel, by decide +kernel, by decide +kernel⟩ ⟨by decide, by decide⟩ shN6 dX6_takesOut_3) ?_
  refine Sim.sq (p1 := 7) (s_aload_n rfl dX6_takesOut_6) ?_
  refine Sim.sq (p1 := 9) (s_bipush (by decide +kernel) dX6_takesOut_7) ?_
  refine Sim.sq (p1 := 11) (s_bipush (by decide +kernel) dX6_takesOut_9) ?_
  refine Sim.sq (p1 := 12) (s_iconst (by decide +kernel) dX6_takesOut_11) ?_
  refine Sim.sq (p1 := 15) (s_callV (C_X6_joins l) (rfl : vwCl[6]? = some (RX6, TX6, 12)) (by decide) kw839 kw841 kw36 kw59 kw842 ⟨rfl, by decide +kernel, by decide +kernel, by decide +kernel⟩ ⟨by decide, by decide⟩ shN6 dX6_takesOut_12) ?_
  refine Sim.sq (p1 := 16) (s_iconst (by decide +kernel) dX6_takesOut_15) ?_
  refine Sim.sq (p1 := 17) (s_istore_n rfl (by decide) dX6_takesOut_16) ?_
  refine Sim.sq (p1 := 73) (Sim.lp ?_) ?_
  · refine Sim.sq (p1 := 18) (s_iload_n rfl dX6_takesOut_17) ?_
    refine Sim.sq (p1 := 19) (s_iconst (by decide +kernel) dX6_takesOut_18) ?_
    refine Sim.bk ?_
    refine Sim.sq (p1 := 22) (s_icmp_ge dX6_takesOut_19 (by decide) rfl) ?_
    refine Sim.sq (p1 := 23) (s_aload_n rfl dX6_takesOut_22) ?_
    refine Sim.sq (p1 := 26) (s_getr (rfl : vwCl[6]? = some (RX6, TX6, 12)) (by decide) (by decide) inG6 kw701 rfl dX6_takesOut_23) ?_
    refine Sim.sq (p1 := 27) (s_iconst (by decide +kernel) dX6_takesOut_26) ?_
    refine Sim.sq (p1 := 28) (s_iload_n rfl dX6_takesOut_27) ?_
    refine Sim.sq (p1 := 29) (s_iadd dX6_takesOut_28) ?_
    refine Sim.sq (p1 := 30) (s_iald dX6_takesOut_29) ?_
    refine Sim.sq (p1 := 32) (s_istore (by decide) dX6_takesOut_30) ?_
    refine Sim.sq (p1 := 33) (s_aload_n rfl dX6_takesOut_32) ?_
    refine Sim.sq (p1 := 36) (s_getr (rfl : vwCl[6]? = some (RX6, TX6, 12)) (by decide) (by decide) inG6 kw701 rfl dX6_takesOut_33) ?_
    refine Sim.sq (p1 := 37) (s_iconst (by decide +kernel) dX6_takesOut_36) ?_
    refine Sim.sq (p1 := 38) (s_iload_n rfl dX6_takesOut_37) ?_
    refine Sim.sq (p1 := 39) (s_iadd dX6_takesOut_38) ?_
    refine Sim.sq (p1 := 41) (s_iload dX6_takesOut_39) ?_
    refine Sim.sq (p1 := 42) (s_iload_n rfl dX6_takesOut_41) ?_
    refine Sim.sq (p1 := 66) (Sim.bk ?_) ?_
    · refine Sim.sq (p1 := 54) (Sim.bk ?_) ?_
      · refine Sim.sq (p1 := 45) (s_icmp_le dX6_takesOut_42 (by decide) rfl) ?_
        refine Sim.sq (p1 := 47) (s_iload dX6_takesOut_45) ?_
        refine Sim.sq (p1 := 48) (s_iload_n rfl dX6_takesOut_47) ?_
        refine Sim.sq (p1 := 49) (s_iload_n rfl dX6_takesOut_48) ?_
        refine Sim.sq (p1 := 50) (s_isub dX6_takesOut_49) ?_
        refine Sim.sq (p1 := 51) (s_isub dX6_takesOut_50) ?_
        exact (s_goto dX6_takesOut_51 (by decide) rfl)
      refine Sim.sq (p1 := 56) (s_iload dX6_takesOut_54) ?_
      refine Sim.sq (p1 := 57) (s_iload_n rfl dX6_takesOut_56) ?_
      refine Sim.sq (p1 := 64) (Sim.bk ?_) ?_
      · refine Sim.sq (p1 := 60) (s_icmp_lt dX6_takesOut_57 (by decide) rfl) ?_
        refine Sim.sq (p1 := 61) (s_iload_n rfl dX6_takesOut_60) ?_
        exact (s_goto dX6_takesOut_61 (by decide) rfl)
      exact (s_iload dX6_takesOut_64)
    refine Sim.sq (p1 := 67) (s_iast dX6_takesOut_66) ?_
    refine Sim.sq (p1 := 70) (s_iinc (by decide +kernel) (by decide) dX6_takesOut_67) ?_
    exact (s_goto dX6_takesOut_70 (by decide) rfl)
  exact (s_vret rfl dX6_takesOut_73)
set_option maxRecDepth 100000 in
set_option maxHeartbeats 4000000 in
theorem C_X6_takesOut (l : Launch) : Ct l yX6_takesOut cX6_takesOut 5 none 7 172 m_X6_takesOut := Ct_of (y := yX6_takesOut) (by decide +kernel) S_X6_takesOut
set_option maxRecDepth 100000 in
set_option maxHeartbeats 4000000 in
theorem S_X6_delete {l : Launch} : Sim l (fun _ => True) RX6 "delete" cX6_delete 4 (some .int) 8 196 [] b_X6_delete 0 33 := by
  unfold b_X6_delete
  refine Sim.sq (p1 := 1) (s_aload_n rfl dX6_delete_0) ?_
  refine Sim.sq (p1 := 2) (s_iload_n rfl dX6_delete_1) ?_
  refine Sim.sq (p1 := 3) (s_iload_n rfl dX6_delete_2) ?_
  refine Sim.sq (p1 := 6) (s_callV (C_X6_whyNoRange l) (rfl : vwCl[6]? = some (RX6, TX6, 12)) (by decide) kw867 kw869 kw42 kw59 kw870 ⟨rfl, by decide +kernel, by decide +kernel, by decide +kernel⟩ ⟨by decide, by decide⟩ shN6 dX6_delete_3) ?_
  refine Sim.sq (p1 := 7) (s_istore_n rfl (by decide) dX6_delete_6) ?_
  refine Sim.sq (p1 := 8) (s_iload_n rfl dX6_delete_7) ?_
  refine Sim.sq (p1 := 13) (Sim.bk ?_) ?_
  · refine Sim.sq (p1 := 11) (s_if_ge dX6_delete_8 (by decide) rfl) ?_
    refine Sim.sq (p1 := 12) (s_iload_n rfl dX6_delete_11) ?_
    exact (s_iret rfl dX6_delete_12)
  refine Sim.sq (p1 := 14) (s_aload_n rfl dX6_delete_13) ?_
  refine Sim.sq (p1 := 17) (s_callV (C_X6_record l) (rfl : vwCl[6]? = some (RX6, TX6, 12)) (by decide) kw744 kw746 kw17 kw59 kw747 ⟨rfl, by decide +kernel, by decide +kernel, by decide +kernel⟩ ⟨by decide, by decide⟩ shN6 dX6_delete_14) ?_
  refine Sim.sq (p1 := 18) (s_aload_n rfl dX6_delete_17) ?_
  refine Sim.sq (p1 := 19) (s_iload_n rfl dX6_delete_18) ?_
  refine Sim.sq (p1 := 20) (s_iload_n rfl dX6_delete_19) ?_
  refine Sim.sq (p1 := 23) (s_callV (C_X6_takesOut l) (rfl : vwCl[6]? = some (RX6, TX6, 12)) (by decide) kw871 kw873 kw43 kw59 kw874 ⟨rfl, by decide +kernel, by decide +kernel, by decide +kernel⟩ ⟨by decide, by decide⟩ shN6 dX6_delete_20) ?_
  refine Sim.sq (p1 := 24) (s_aload_n rfl dX6_delete_23) ?_
  refine Sim.sq (p1 := 27) (s_callV (C_X6_balances l) (rfl : vwCl[6]? = some (RX6, TX6, 12)) (by decide) kw851 kw853 kw39 kw59 kw854 ⟨rfl, by decide +kernel, by decide +kernel, by decide +kernel⟩ ⟨by decide, by decide⟩ shN6 dX6_delete_24) ?_
  refine Sim.sq (p1 := 28) (s_aload_n rfl dX6_delete_27) ?_
  refine Sim.sq (p1 := 29) (s_iconst (by decide +kernel) dX6_delete_28) ?_
  refine Sim.sq (p1 := 32) (s_callV (C_X6_lengthOf l) (rfl : vwCl[6]? = some (RX6, TX6, 12)) (by decide) kw768 kw770 kw19 kw59 kw771 ⟨rfl, by decide +kernel, by decide +kernel, by decide +kernel⟩ ⟨by decide, by decide⟩ shN6 dX6_delete_29) ?_
  exact (s_iret rfl dX6_delete_32)
set_option maxRecDepth 100000 in
set_option maxHeartbeats 4000000 in
theorem C_X6_delete (l : Launch) : Ct l yX6_delete cX6_delete 4 (some .int) 8 196 m_X6_delete := Ct_of (y := yX6_delete) (by decide +kernel) S_X6_delete
set_option maxRecDepth 100000 in
set_option maxHeartbeats 4000000 in
theorem S_X2_addToRing {l : Launch} : Sim l (fun _ => True) RX2 "addToRing" cX2_addToRing 3 none 1 21 [] b_X2_addToRing 0 54 := by
  unfold b_X2_addToRing
  refine Sim.sq (p1 := 1) (s_aload_n rfl dX2_addToRing_0) ?_
  refine Sim.sq (p1 := 4) (s_getr (rfl : vwCl[2]? = some (RX2, TX2, 7)) (by decide) (by decide) inG2 kw184 rfl dX2_addToRing_1) ?_
  refine Sim.sq (p1 := 5) (s_alen dX2_addToRing_4) ?_
  refine Sim.sq (p1 := 6) (s_iconst (by decide +kernel) dX2_addToRing_5) ?_
  refine Sim.sq (p1 := 7) (s_isub dX2_addToRing_6) ?_
  refine Sim.sq (p1 := 8) (s_istore_n rfl (by decide) dX2_addToRing_7) ?_
  refine Sim.sq (p1 := 32) (Sim.lp ?_) ?_
  · refine Sim.sq (p1 := 9) (s_iload_n rfl dX2_addToRing_8) ?_
    refine Sim.bk ?_
    refine Sim.sq (p1 := 12) (s_if_le dX2_addToRing_9 (by decide) rfl) ?_
    refine Sim.sq (p1 := 13) (s_aload_n rfl dX2_addToRing_12) ?_
    refine Sim.sq (p1 := 16) (s_getr (rfl : vwCl[2]? = some (RX2, TX2, 7)) (by decide) (by decide) inG2 kw184 rfl dX2_addToRing_13) ?_
    refine Sim.sq (p1 := 17) (s_iload_n rfl dX2_addToRing_16) ?_
    refine Sim.sq (p1 := 18) (s_aload_n rfl dX2_addToRing_17) ?_
    refine Sim.sq (p1 := 21) (s_getr (rfl : vwCl[2]? = some (RX2, TX2, 7)) (by decide) (by decide) inG2 kw184 rfl dX2_addToRing_18) ?_
    refine Sim.sq (p1 := 22) (s_iload_n rfl dX2_addToRing_21) ?_
    refine Sim.sq (p1 := 23) (s_iconst (by decide +kernel) dX2_addToRing_22) ?_
    refine Sim.sq (p1 := 24) (s_isub dX2_addToRing_23) ?_
    refine Sim.sq (p1 := 25) (s_iald dX2_addToRing_24) ?_
    refine Sim.sq (p1 := 26) (s_iast dX2_addToRing_25) ?_
    refine Sim.sq (p1 := 29) (s_iinc (by decide +kernel) (by decide) dX2_addToRing_26) ?_
    exact (s_goto dX2_addToRing_29 (by decide) rfl)
  refine Sim.sq (p1 := 33) (s_aload_n rfl dX2_addToRing_32) ?_
  refine Sim.sq (p1 := 36) (s_getr (rfl : vwCl[2]? = some (RX2, TX2, 7)) (by decide) (by decide) inG2 kw184 rfl dX2_addToRing_33) ?_
  refine Sim.sq (p1 := 37) (s_iconst (by decide +kernel) dX2_addToRing_36) ?_
  refine Sim.sq (p1 := 38) (s_iload_n rfl dX2_addToRing_37) ?_
  refine Sim.sq (p1 := 39) (s_iast dX2_addToRing_38) ?_
  refine Sim.sq (p1 := 40) (s_aload_n rfl dX2_addToRing_39) ?_
  refine Sim.sq (p1 := 41) (s_aload_n rfl dX2_addToRing_40) ?_
  refine Sim.sq (p1 := 44) (s_geti (rfl : vwCl[2]? = some (RX2, TX2, 7)) (by decide) (by decide) inG2 kw185 rfl dX2_addToRing_41) ?_
  refine Sim.sq (p1 := 45) (s_iconst (by decide +kernel) dX2_addToRing_44) ?_
  refine Sim.sq (p1 := 46) (s_iadd dX2_addToRing_45) ?_
  refine Sim.sq (p1 := 47) (s_iconst (by decide +kernel) dX2_addToRing_46) ?_
  refine Sim.sq (p1 := 50) (s_min (by decide) (by decide) kw496 kw497 kw60 kw498 dX2_addToRing_47) ?_
  refine Sim.sq (p1 := 53) (s_puti (rfl : vwCl[2]? = some (RX2, TX2, 7)) (by decide) (by decide) inG2 kw185 rfl tyX2 tyX2_ok nmX2 rfl (by decide +kernel) dX2_addToRing_50) ?_
  exact (s_vret rfl dX2_addToRing_53)
set_option maxRecDepth 100000 in
set_option maxHeartbeats 4000000 in
theorem C_X2_addToRing (l : Launch) : Ct l yX2_addToRing cX2_addToRing 3 none 1 21 m_X2_addToRing := Ct_of (y := yX2_addToRing) (by decide +kernel) S_X2_addToRing
set_option maxRecDepth 100000 in
set_option maxHeartbeats 4000000 in
theorem S_X5_cut {l : Launch} : Sim l (fun _ => True) RX5 "cut" cX5_cut 4 (some .int) 19 478 [] b_X5_cut 0 39 := by
  unfold b_X5_cut
  refine Sim.sq (p1 := 1) (s_aload_n rfl dX5_cut_0) ?_
  refine Sim.sq (p1 := 2) (s_iload_n rfl dX5_cut_1) ?_
  refine Sim.sq (p1 := 3) (s_iload_n rfl dX5_cut_2) ?_
  refine Sim.sq (p1 := 6) (s_callV (C_X5_refusalOfPiece l) (rfl : vwCl[5]? = some (RX5, TX5, 11)) (by decide) kw476 kw478 kw12 kw52 kw479 ⟨rfl, by decide +kernel, by decide +kernel, by decide +kernel⟩ ⟨by decide, by decide⟩ shN5 dX5_cut_3) ?_
  refine Sim.sq (p1 := 7) (s_istore_n rfl (by decide) dX5_cut_6) ?_
  refine Sim.sq (p1 := 8) (s_iload_n rfl dX5_cut_7) ?_
  refine Sim.sq (p1 := 13) (Sim.bk ?_) ?_
  · refine Sim.sq (p1 := 11) (s_if_eq dX5_cut_8 (by decide) rfl) ?_
    refine Sim.sq (p1 := 12) (s_iload_n rfl dX5_cut_11) ?_
    exact (s_iret rfl dX5_cut_12)
  refine Sim.sq (p1 := 14) (s_aload_n rfl dX5_cut_13) ?_
  refine Sim.sq (p1 := 17) (s_callV (C_X5_startChange l) (rfl : vwCl[5]? = some (RX5, TX5, 11)) (by decide) kw314 kw316 kw1 kw52 kw317 ⟨rfl, by decide +kernel, by decide +kernel, by decide +kernel⟩ ⟨by decide, by decide⟩ shN5 dX5_cut_14) ?_
  refine Sim.sq (p1 := 18) (s_aload_n rfl dX5_cut_17) ?_
  refine Sim.sq (p1 := 21) (s_getr (rfl : vwCl[5]? = some (RX5, TX5, 11)) (by decide) (by decide) inG5 kw234 rfl dX5_cut_18) ?_
  refine Sim.sq (p1 := 22) (s_aload_n rfl dX5_cut_21) ?_
  refine Sim.sq (p1 := 23) (s_iload_n rfl dX5_cut_22) ?_
  refine Sim.sq (p1 := 24) (s_iload_n rfl dX5_cut_23) ?_
  refine Sim.sq (p1 := 27) (s_callV (C_X5_takeOut l) (rfl : vwCl[5]? = some (RX5, TX5, 11)) (by decide) kw480 kw482 kw13 kw52 kw483 ⟨rfl, by decide +kernel, by decide +kernel, by decide +kernel⟩ ⟨by decide, by decide⟩ shN5 dX5_cut_24) ?_
  refine Sim.sq (p1 := 30) (s_callV (C_X2_addToRing l) (rfl : vwCl[2]? = some (RX2, TX2, 7)) (by decide) kw492 kw493 kw494 kw56 kw495 ⟨rfl, by decide +kernel, by decide +kernel, by decide +kernel⟩ ⟨by decide, by decide⟩ shN2 dX5_cut_27) ?_
  refine Sim.sq (p1 := 31) (s_aload_n rfl dX5_cut_30) ?_
  refine Sim.sq (p1 := 34) (s_callV (C_X5_balance l) (rfl : vwCl[5]? = some (RX5, TX5, 11)) (by decide) kw445 kw447 kw9 kw52 kw448 ⟨rfl, by decide +kernel, by decide +kernel, by decide +kernel⟩ ⟨by decide, by decide⟩ shN5 dX5_cut_31) ?_
  refine Sim.sq (p1 := 35) (s_aload_n rfl dX5_cut_34) ?_
  refine Sim.sq (p1 := 38) (s_callV (C_X5_length l) (rfl : vwCl[5]? = some (RX5, TX5, 11)) (by decide) kw306 kw307 kw308 kw52 kw309 ⟨rfl, by decide +kernel, by decide +kernel, by decide +kernel⟩ ⟨by decide, by decide⟩ shN5 dX5_cut_35) ?_
  exact (s_iret rfl dX5_cut_38)
set_option maxRecDepth 100000 in
set_option maxHeartbeats 4000000 in
theorem C_X5_cut (l : Launch) : Ct l yX5_cut cX5_cut 4 (some .int) 19 478 m_X5_cut := Ct_of (y := yX5_cut) (by decide +kernel) S_X5_cut
set_option maxRecDepth 100000 in
set_option maxHeartbeats 4000000 in
theorem S_X6_putsIntoRing {l : Launch} : Sim l (fun _ => True) RX6 "putsIntoRing" cX6_putsIntoRing 3 none 1 23 [] b_X6_putsIntoRing 0 55 := by
  unfold b_X6_putsIntoRing
  refine Sim.sq (p1 := 1) (s_iconst (by decide +kernel) dX6_putsIntoRing_0) ?_
  refine Sim.sq (p1 := 2) (s_istore_n rfl (by decide) dX6_putsIntoRing_1) ?_
  refine Sim.sq (p1 := 24) (Sim.lp ?_) ?_
  · refine Sim.sq (p1 := 3) (s_iload_n rfl dX6_putsIntoRing_2) ?_
    refine Sim.bk ?_
    refine Sim.sq (p1 := 6) (s_if_le dX6_putsIntoRing_3 (by decide) rfl) ?_
    refine Sim.sq (p1 := 7) (s_aload_n rfl dX6_putsIntoRing_6) ?_
    refine Sim.sq (p1 := 8) (s_iconst (by decide +kernel) dX6_putsIntoRing_7) ?_
    refine Sim.sq (p1 := 9) (s_iload_n rfl dX6_putsIntoRing_8) ?_
    refine Sim.sq (p1 := 10) (s_iadd dX6_putsIntoRing_9) ?_
    refine Sim.sq (p1 := 11) (s_iconst (by decide +kernel) dX6_putsIntoRing_10) ?_
    refine Sim.sq (p1 := 12) (s_isub dX6_putsIntoRing_11) ?_
    refine Sim.sq (p1 := 13) (s_iconst (by decide +kernel) dX6_putsIntoRing_12) ?_
    refine Sim.sq (p1 := 14) (s_iload_n rfl dX6_putsIntoRing_13) ?_
    refine Sim.sq (p1 := 15) (s_iadd dX6_putsIntoRing_14) ?_
    refine Sim.sq (p1 := 18) (s_callV (C_X6_copies l) (rfl : vwCl[6]? = some (RX6, TX6, 12)) (by decide) kw807 kw809 kw28 kw59 kw810 ⟨rfl, by decide +kernel, by decide +kernel, by decide +kernel⟩ ⟨by decide, by decide⟩ shN6 dX6_putsIntoRing_15) ?_
    refine Sim.sq (p1 := 21) (s_iinc (by decide +kernel) (by decide) dX6_putsIntoRing_18) ?_
    exact (s_goto dX6_putsIntoRing_21 (by decide) rfl)
  refine Sim.sq (p1 := 25) (s_aload_n rfl dX6_putsIntoRing_24) ?_
  refine Sim.sq (p1 := 26) (s_iload_n rfl dX6_putsIntoRing_25) ?_
  refine Sim.sq (p1 := 27) (s_iconst (by decide +kernel) dX6_putsIntoRing_26) ?_
  refine Sim.sq (p1 := 30) (s_callV (C_X6_copies l) (rfl : vwCl[6]? = some (RX6, TX6, 12)) (by decide) kw807 kw809 kw28 kw59 kw810 ⟨rfl, by decide +kernel, by decide +kernel, by decide +kernel⟩ ⟨by decide, by decide⟩ shN6 dX6_putsIntoRing_27) ?_
  refine Sim.sq (p1 := 31) (s_aload_n rfl dX6_putsIntoRing_30) ?_
  refine Sim.sq (p1 := 34) (s_getr (rfl : vwCl[6]? = some (RX6, TX6, 12)) (by decide) (by decide) inG6 kw701 rfl dX6_putsIntoRing_31) ?_
  refine Sim.sq (p1 := 35) (s_iconst (by decide +kernel) dX6_putsIntoRing_34) ?_
  refine Sim.sq (p1 := 36) (s_dup2 dX6_putsIntoRing_35) ?_
  refine Sim.sq (p1 := 37) (s_iald dX6_putsIntoRing_36) ?_
  refine Sim.sq (p1 := 38) (s_aload_n rfl dX6_putsIntoRing_37) ?_
  refine Sim.sq (p1 := 41) (s_getr (rfl : vwCl[6]? = some (RX6, TX6, 12)) (by decide) (by decide) inG6 kw701 rfl dX6_putsIntoRing_38) ?_
  refine Sim.sq (p1 := 42) (s_iconst (by decide +kernel) dX6_putsIntoRing_41) ?_
  refine Sim.sq (p1 := 43) (s_iald dX6_putsIntoRing_42) ?_
  refine Sim.sq (p1 := 44) (s_iconst (by decide +kernel) dX6_putsIntoRing_43) ?_
  refine Sim.sq (p1 := 52) (Sim.bk ?_) ?_
  · refine Sim.sq (p1 := 51) (Sim.bk ?_) ?_
    · refine Sim.sq (p1 := 47) (s_icmp_ge dX6_putsIntoRing_44 (by decide) rfl) ?_
      refine Sim.sq (p1 := 48) (s_iconst (by decide +kernel) dX6_putsIntoRing_47) ?_
      exact (s_goto dX6_putsIntoRing_48 (by decide) rfl)
    exact (s_iconst (by decide +kernel) dX6_putsIntoRing_51)
  refine Sim.sq (p1 := 53) (s_iadd dX6_putsIntoRing_52) ?_
  refine Sim.sq (p1 := 54) (s_iast dX6_putsIntoRing_53) ?_
  exact (s_vret rfl dX6_putsIntoRing_54)
set_option maxRecDepth 100000 in
set_option maxHeartbeats 4000000 in
theorem C_X6_putsIntoRing (l : Launch) : Ct l yX6_putsIntoRing cX6_putsIntoRing 3 none 1 23 m_X6_putsIntoRing := Ct_of (y := yX6_putsIntoRing) (by decide +kernel) S_X6_putsIntoRing
set_option maxRecDepth 100000 in
set_option maxHeartbeats 4000000 in
theorem S_X6_cut {l : Launch} : Sim l (fun _ => True) RX6 "cut" cX6_cut 4 (some .int) 8 196 [] b_X6_cut 0 39 := by
  unfold b_X6_cut
  refine Sim.sq (p1 := 1) (s_aload_n rfl dX6_cut_0) ?_
  refine Sim.sq (p1 := 2) (s_iload_n rfl dX6_cut_1) ?_
  refine Sim.sq (p1 := 3) (s_iload_n rfl dX6_cut_2) ?_
  refine Sim.sq (p1 := 6) (s_callV (C_X6_whyNoRange l) (rfl : vwCl[6]? = some (RX6, TX6, 12)) (by decide) kw867 kw869 kw42 kw59 kw870 ⟨rfl, by decide +kernel, by decide +kernel, by decide +kernel⟩ ⟨by decide, by decide⟩ shN6 dX6_cut_3) ?_
  refine Sim.sq (p1 := 7) (s_istore_n rfl (by decide) dX6_cut_6) ?_
  refine Sim.sq (p1 := 8) (s_iload_n rfl dX6_cut_7) ?_
  refine Sim.sq (p1 := 13) (Sim.bk ?_) ?_
  · refine Sim.sq (p1 := 11) (s_if_ge dX6_cut_8 (by decide) rfl) ?_
    refine Sim.sq (p1 := 12) (s_iload_n rfl dX6_cut_11) ?_
    exact (s_iret rfl dX6_cut_12)
  refine Sim.sq (p1 := 14) (s_aload_n rfl dX6_cut_13) ?_
  refine Sim.sq (p1 := 17) (s_callV (C_X6_record l) (rfl : vwCl[6]? = some (RX6, TX6, 12)) (by decide) kw744 kw746 kw17 kw59 kw747 ⟨rfl, by decide +kernel, by decide +kernel, by decide +kernel⟩ ⟨by decide, by decide⟩ shN6 dX6_cut_14) ?_
  refine Sim.sq (p1 := 18) (s_aload_n rfl dX6_cut_17) ?_
  refine Sim.sq (p1 := 19) (s_iload_n rfl dX6_cut_18) ?_
  refine Sim.sq (p1 := 20) (s_iload_n rfl dX6_cut_19) ?_
  refine Sim.sq (p1 := 23) (s_callV (C_X6_takesOut l) (rfl : vwCl[6]? = some (RX6, TX6, 12)) (by decide) kw871 kw873 kw43 kw59 kw874 ⟨rfl, by decide +kernel, by decide +kernel, by decide +kernel⟩ ⟨by decide, by decide⟩ shN6 dX6_cut_20) ?_
  refine Sim.sq (p1 := 24) (s_aload_n rfl dX6_cut_23) ?_
  refine Sim.sq (p1 := 26) (s_bipush (by decide +kernel) dX6_cut_24) ?_
  refine Sim.sq (p1 := 29) (s_callV (C_X6_putsIntoRing l) (rfl : vwCl[6]? = some (RX6, TX6, 12)) (by decide) kw883 kw885 kw45 kw59 kw886 ⟨rfl, by decide +kernel, by decide +kernel, by decide +kernel⟩ ⟨by decide, by decide⟩ shN6 dX6_cut_26) ?_
  refine Sim.sq (p1 := 30) (s_aload_n rfl dX6_cut_29) ?_
  refine Sim.sq (p1 := 33) (s_callV (C_X6_balances l) (rfl : vwCl[6]? = some (RX6, TX6, 12)) (by decide) kw851 kw853 kw39 kw59 kw854 ⟨rfl, by decide +kernel, by decide +kernel, by decide +kernel⟩ ⟨by decide, by decide⟩ shN6 dX6_cut_30) ?_
  refine Sim.sq (p1 := 34) (s_aload_n rfl dX6_cut_33) ?_
  refine Sim.sq (p1 := 35) (s_iconst (by decide +kernel) dX6_cut_34) ?_
  refine Sim.sq (p1 := 38) (s_callV (C_X6_lengthOf l) (rfl : vwCl[6]? = some (RX6, TX6, 12)) (by decide) kw768 kw770 kw19 kw59 kw771 ⟨rfl, by decide +kernel, by decide +kernel, by decide +kernel⟩ ⟨by decide, by decide⟩ shN6 dX6_cut_35) ?_
  exact (s_iret rfl dX6_cut_38)
set_option maxRecDepth 100000 in
set_option maxHeartbeats 4000000 in
theorem C_X6_cut (l : Launch) : Ct l yX6_cut cX6_cut 4 (some .int) 8 196 m_X6_cut := Ct_of (y := yX6_cut) (by decide +kernel) S_X6_cut
set_option maxRecDepth 100000 in
set_option maxHeartbeats 4000000 in
theorem S_X5_copy {l : Launch} : Sim l (fun _ => True) RX5 "copy" cX5_copy 4 (some .int) 6 263 [] b_X5_copy 0 103 := by
  unfold b_X5_copy
  refine Sim.sq (p1 := 1) (s_aload_n rfl dX5_copy_0) ?_
  refine Sim.sq (p1 := 2) (s_iload_n rfl dX5_copy_1) ?_
  refine Sim.sq (p1 := 3) (s_iload_n rfl dX5_copy_2) ?_
  refine Sim.sq (p1 := 6) (s_callV (C_X5_refusalOfPiece l) (rfl : vwCl[5]? = some (RX5, TX5, 11)) (by decide) kw476 kw478 kw12 kw52 kw479 ⟨rfl, by decide +kernel, by decide +kernel, by decide +kernel⟩ ⟨by decide, by decide⟩ shN5 dX5_copy_3) ?_
  refine Sim.sq (p1 := 7) (s_istore_n rfl (by decide) dX5_copy_6) ?_
  refine Sim.sq (p1 := 8) (s_iload_n rfl dX5_copy_7) ?_
  refine Sim.sq (p1 := 13) (Sim.bk ?_) ?_
  · refine Sim.sq (p1 := 11) (s_if_eq dX5_copy_8 (by decide) rfl) ?_
    refine Sim.sq (p1 := 12) (s_iload_n rfl dX5_copy_11) ?_
    exact (s_iret rfl dX5_copy_12)
  refine Sim.sq (p1 := 14) (s_aload_n rfl dX5_copy_13) ?_
  refine Sim.sq (p1 := 17) (s_callV (C_X5_startChange l) (rfl : vwCl[5]? = some (RX5, TX5, 11)) (by decide) kw314 kw316 kw1 kw52 kw317 ⟨rfl, by decide +kernel, by decide +kernel, by decide +kernel⟩ ⟨by decide, by decide⟩ shN5 dX5_copy_14) ?_
  refine Sim.sq (p1 := 18) (s_aload_n rfl dX5_copy_17) ?_
  refine Sim.sq (p1 := 21) (s_getr (rfl : vwCl[5]? = some (RX5, TX5, 11)) (by decide) (by decide) inG5 kw230 rfl dX5_copy_18) ?_
  refine Sim.sq (p1 := 22) (s_aload_n rfl dX5_copy_21) ?_
  refine Sim.sq (p1 := 25) (s_getr (rfl : vwCl[5]? = some (RX5, TX5, 11)) (by decide) (by decide) inG5 kw234 rfl dX5_copy_22) ?_
  refine Sim.sq (p1 := 28) (s_getiN (rfl : vwCl[2]? = some (RX2, TX2, 7)) (by decide) (by decide) inG2 kn192 rfl dX5_copy_25) ?_
  refine Sim.sq (p1 := 29) (s_iload_n rfl dX5_copy_28) ?_
  refine Sim.sq (p1 := 30) (s_aload_n rfl dX5_copy_29) ?_
  refine Sim.sq (p1 := 33) (s_getr (rfl : vwCl[5]? = some (RX5, TX5, 11)) (by decide) (by decide) inG5 kw234 rfl dX5_copy_30) ?_
  refine Sim.sq (p1 := 36) (s_getiN (rfl : vwCl[2]? = some (RX2, TX2, 7)) (by decide) (by decide) inG2 kn188 rfl dX5_copy_33) ?_
  refine Sim.sq (p1 := 39) (s_callV (C_X4_split l) (rfl : vwCl[4]? = some (RX4, TX4, 6)) (by decide) kw388 kw389 kw390 kw53 kw391 ⟨rfl, by decide +kernel, by decide +kernel, by decide +kernel⟩ ⟨by decide, by decide⟩ shN4 dX5_copy_36) ?_
  refine Sim.sq (p1 := 40) (s_aload_n rfl dX5_copy_39) ?_
  refine Sim.sq (p1 := 43) (s_getr (rfl : vwCl[5]? = some (RX5, TX5, 11)) (by decide) (by decide) inG5 kw230 rfl dX5_copy_40) ?_
  refine Sim.sq (p1 := 44) (s_aload_n rfl dX5_copy_43) ?_
  refine Sim.sq (p1 := 47) (s_getr (rfl : vwCl[5]? = some (RX5, TX5, 11)) (by decide) (by decide) inG5 kw230 rfl dX5_copy_44) ?_
  refine Sim.sq (p1 := 50) (s_getiN (rfl : vwCl[4]? = some (RX4, TX4, 6)) (by decide) (by decide) inG4 kn125 rfl dX5_copy_47) ?_
  refine Sim.sq (p1 := 51) (s_iload_n rfl dX5_copy_50) ?_
  refine Sim.sq (p1 := 52) (s_iload_n rfl dX5_copy_51) ?_
  refine Sim.sq (p1 := 53) (s_isub dX5_copy_52) ?_
  refine Sim.sq (p1 := 54) (s_aload_n rfl dX5_copy_53) ?_
  refine Sim.sq (p1 := 57) (s_getr (rfl : vwCl[5]? = some (RX5, TX5, 11)) (by decide) (by decide) inG5 kw234 rfl dX5_copy_54) ?_
  refine Sim.sq (p1 := 60) (s_getiN (rfl : vwCl[2]? = some (RX2, TX2, 7)) (by decide) (by decide) inG2 kn188 rfl dX5_copy_57) ?_
  refine Sim.sq (p1 := 63) (s_callV (C_X4_split l) (rfl : vwCl[4]? = some (RX4, TX4, 6)) (by decide) kw388 kw389 kw390 kw53 kw391 ⟨rfl, by decide +kernel, by decide +kernel, by decide +kernel⟩ ⟨by decide, by decide⟩ shN4 dX5_copy_60) ?_
  refine Sim.sq (p1 := 64) (s_aload_n rfl dX5_copy_63) ?_
  refine Sim.sq (p1 := 67) (s_getr (rfl : vwCl[5]? = some (RX5, TX5, 11)) (by decide) (by decide) inG5 kw234 rfl dX5_copy_64) ?_
  refine Sim.sq (p1 := 68) (s_aload_n rfl dX5_copy_67) ?_
  refine Sim.sq (p1 := 71) (s_getr (rfl : vwCl[5]? = some (RX5, TX5, 11)) (by decide) (by decide) inG5 kw230 rfl dX5_copy_68) ?_
  refine Sim.sq (p1 := 74) (s_getiN (rfl : vwCl[4]? = some (RX4, TX4, 6)) (by decide) (by decide) inG4 kn123 rfl dX5_copy_71) ?_
  refine Sim.sq (p1 := 77) (s_callV (C_X2_addToRing l) (rfl : vwCl[2]? = some (RX2, TX2, 7)) (by decide) kw492 kw493 kw494 kw56 kw495 ⟨rfl, by decide +kernel, by decide +kernel, by decide +kernel⟩ ⟨by decide, by decide⟩ shN2 dX5_copy_74) ?_
  refine Sim.sq (p1 := 78) (s_aload_n rfl dX5_copy_77) ?_
  refine Sim.sq (p1 := 81) (s_getr (rfl : vwCl[5]? = some (RX5, TX5, 11)) (by decide) (by decide) inG5 kw232 rfl dX5_copy_78) ?_
  refine Sim.sq (p1 := 82) (s_aload_n rfl dX5_copy_81) ?_
  refine Sim.sq (p1 := 85) (s_getr (rfl : vwCl[5]? = some (RX5, TX5, 11)) (by decide) (by decide) inG5 kw231 rfl dX5_copy_82) ?_
  refine Sim.sq (p1 := 86) (s_aload_n rfl dX5_copy_85) ?_
  refine Sim.sq (p1 := 89) (s_getr (rfl : vwCl[5]? = some (RX5, TX5, 11)) (by decide) (by decide) inG5 kw230 rfl dX5_copy_86) ?_
  refine Sim.sq (p1 := 92) (s_getiN (rfl : vwCl[4]? = some (RX4, TX4, 6)) (by decide) (by decide) inG4 kn123 rfl dX5_copy_89) ?_
  refine Sim.sq (p1 := 95) (s_callV (C_X3_read l) (rfl : vwCl[3]? = some (RX3, TX3, 8)) (by decide) kw458 kw459 kw460 kw55 kw461 ⟨rfl, by decide +kernel, by decide +kernel, by decide +kernel⟩ ⟨by decide, by decide⟩ shN3 dX5_copy_92) ?_
  refine Sim.sq (p1 := 96) (s_aload_n rfl dX5_copy_95) ?_
  refine Sim.sq (p1 := 99) (s_getr (rfl : vwCl[5]? = some (RX5, TX5, 11)) (by decide) (by decide) inG5 kw232 rfl dX5_copy_96) ?_
  refine Sim.sq (p1 := 102) (s_getiN (rfl : vwCl[3]? = some (RX3, TX3, 8)) (by decide) (by decide) inG3 kn156 rfl dX5_copy_99) ?_
  exact (s_iret rfl dX5_copy_102)
set_option maxRecDepth 100000 in
set_option maxHeartbeats 4000000 in
theorem C_X5_copy (l : Launch) : Ct l yX5_copy cX5_copy 4 (some .int) 6 263 m_X5_copy := Ct_of (y := yX5_copy) (by decide +kernel) S_X5_copy
set_option maxRecDepth 100000 in
set_option maxHeartbeats 4000000 in
theorem S_X6_copy {l : Launch} : Sim l (fun _ => True) RX6 "copy" cX6_copy 4 (some .int) 7 172 [] b_X6_copy 0 36 := by
  unfold b_X6_copy
  refine Sim.sq (p1 := 1) (s_aload_n rfl dX6_copy_0) ?_
  refine Sim.sq (p1 := 2) (s_iload_n rfl dX6_copy_1) ?_
  refine Sim.sq (p1 := 3) (s_iload_n rfl dX6_copy_2) ?_
  refine Sim.sq (p1 := 6) (s_callV (C_X6_whyNoRange l) (rfl : vwCl[6]? = some (RX6, TX6, 12)) (by decide) kw867 kw869 kw42 kw59 kw870 ⟨rfl, by decide +kernel, by decide +kernel, by decide +kernel⟩ ⟨by decide, by decide⟩ shN6 dX6_copy_3) ?_
  refine Sim.sq (p1 := 7) (s_istore_n rfl (by decide) dX6_copy_6) ?_
  refine Sim.sq (p1 := 8) (s_iload_n rfl dX6_copy_7) ?_
  refine Sim.sq (p1 := 13) (Sim.bk ?_) ?_
  · refine Sim.sq (p1 := 11) (s_if_ge dX6_copy_8 (by decide) rfl) ?_
    refine Sim.sq (p1 := 12) (s_iload_n rfl dX6_copy_11) ?_
    exact (s_iret rfl dX6_copy_12)
  refine Sim.sq (p1 := 14) (s_aload_n rfl dX6_copy_13) ?_
  refine Sim.sq (p1 := 17) (s_callV (C_X6_record l) (rfl : vwCl[6]? = some (RX6, TX6, 12)) (by decide) kw744 kw746 kw17 kw59 kw747 ⟨rfl, by decide +kernel, by decide +kernel, by decide +kernel⟩ ⟨by decide, by decide⟩ shN6 dX6_copy_14) ?_
  refine Sim.sq (p1 := 18) (s_aload_n rfl dX6_copy_17) ?_
  refine Sim.sq (p1 := 19) (s_iload_n rfl dX6_copy_18) ?_
  refine Sim.sq (p1 := 20) (s_iload_n rfl dX6_copy_19) ?_
  refine Sim.sq (p1 := 23) (s_callV (C_X6_parts l) (rfl : vwCl[6]? = some (RX6, TX6, 12)) (by decide) kw875 kw877 kw44 kw59 kw878 ⟨rfl, by decide +kernel, by decide +kernel, by decide +kernel⟩ ⟨by decide, by decide⟩ shN6 dX6_copy_20) ?_
  refine Sim.sq (p1 := 24) (s_aload_n rfl dX6_copy_23) ?_
  refine Sim.sq (p1 := 26) (s_bipush (by decide +kernel) dX6_copy_24) ?_
  refine Sim.sq (p1 := 29) (s_callV (C_X6_putsIntoRing l) (rfl : vwCl[6]? = some (RX6, TX6, 12)) (by decide) kw883 kw885 kw45 kw59 kw886 ⟨rfl, by decide +kernel, by decide +kernel, by decide +kernel⟩ ⟨by decide, by decide⟩ shN6 dX6_copy_26) ?_
  refine Sim.sq (p1 := 30) (s_aload_n rfl dX6_copy_29) ?_
  refine Sim.sq (p1 := 32) (s_bipush (by decide +kernel) dX6_copy_30) ?_
  refine Sim.sq (p1 := 35) (s_callV (C_X6_many l) (rfl : vwCl[6]? = some (RX6, TX6, 12)) (by decide) kw788 kw790 kw24 kw59 kw791 ⟨rfl, by decide +kernel, by decide +kernel, by decide +kernel⟩ ⟨by decide, by decide⟩ shN6 dX6_copy_32) ?_
  exact (s_iret rfl dX6_copy_35)
set_option maxRecDepth 100000 in
set_option maxHeartbeats 4000000 in
theorem C_X6_copy (l : Launch) : Ct l yX6_copy cX6_copy 4 (some .int) 7 172 m_X6_copy := Ct_of (y := yX6_copy) (by decide +kernel) S_X6_copy
set_option maxRecDepth 100000 in
set_option maxHeartbeats 4000000 in
theorem S_X5_paste {l : Launch} : Sim l (fun _ => True) RX5 "paste" cX5_paste 4 (some .int) 19 478 [] b_X5_paste 0 71 := by
  unfold b_X5_paste
  refine Sim.sq (p1 := 1) (s_aload_n rfl dX5_paste_0) ?_
  refine Sim.sq (p1 := 2) (s_iload_n rfl dX5_paste_1) ?_
  refine Sim.sq (p1 := 5) (s_callV (C_X5_isPosition l) (rfl : vwCl[5]? = some (RX5, TX5, 11)) (by decide) kw302 kw304 kw0 kw52 kw305 ⟨rfl, by decide +kernel, by decide +kernel, by decide +kernel⟩ ⟨by decide, by decide⟩ shN5 dX5_paste_2) ?_
  refine Sim.sq (p1 := 21) (Sim.bk ?_) ?_
  · refine Sim.sq (p1 := 19) (Sim.bk ?_) ?_
    · refine Sim.sq (p1 := 8) (s_if_eq dX5_paste_5 (by decide) rfl) ?_
      refine Sim.sq (p1 := 9) (s_aload_n rfl dX5_paste_8) ?_
      refine Sim.sq (p1 := 12) (s_getr (rfl : vwCl[5]? = some (RX5, TX5, 11)) (by decide) (by decide) inG5 kw234 rfl dX5_paste_9) ?_
      refine Sim.sq (p1 := 13) (s_iload_n rfl dX5_paste_12) ?_
      refine Sim.sq (p1 := 16) (s_callV (C_X2_hasInRing l) (rfl : vwCl[2]? = some (RX2, TX2, 7)) (by decide) kw507 kw340 kw341 kw56 kw342 ⟨rfl, by decide +kernel, by decide +kernel, by decide +kernel⟩ ⟨by decide, by decide⟩ shN2 dX5_paste_13) ?_
      exact (s_if_ne dX5_paste_16 (by decide) rfl)
    refine Sim.sq (p1 := 20) (s_iconst (by decide +kernel) dX5_paste_19) ?_
    exact (s_iret rfl dX5_paste_20)
  refine Sim.sq (p1 := 22) (s_aload_n rfl dX5_paste_21) ?_
  refine Sim.sq (p1 := 25) (s_getr (rfl : vwCl[5]? = some (RX5, TX5, 11)) (by decide) (by decide) inG5 kw234 rfl dX5_paste_22) ?_
  refine Sim.sq (p1 := 26) (s_iload_n rfl dX5_paste_25) ?_
  refine Sim.sq (p1 := 29) (s_callV (C_X2_ropeOfRing l) (rfl : vwCl[2]? = some (RX2, TX2, 7)) (by decide) kw335 kw336 kw337 kw56 kw338 ⟨rfl, by decide +kernel, by decide +kernel, by decide +kernel⟩ ⟨by decide, by decide⟩ shN2 dX5_paste_26) ?_
  refine Sim.sq (p1 := 30) (s_istore_n rfl (by decide) dX5_paste_29) ?_
  refine Sim.sq (p1 := 31) (s_aload_n rfl dX5_paste_30) ?_
  refine Sim.sq (p1 := 34) (s_callV (C_X5_length l) (rfl : vwCl[5]? = some (RX5, TX5, 11)) (by decide) kw306 kw307 kw308 kw52 kw309 ⟨rfl, by decide +kernel, by decide +kernel, by decide +kernel⟩ ⟨by decide, by decide⟩ shN5 dX5_paste_31) ?_
  refine Sim.sq (p1 := 35) (s_aload_n rfl dX5_paste_34) ?_
  refine Sim.sq (p1 := 38) (s_getr (rfl : vwCl[5]? = some (RX5, TX5, 11)) (by decide) (by decide) inG5 kw231 rfl dX5_paste_35) ?_
  refine Sim.sq (p1 := 39) (s_iload_n rfl dX5_paste_38) ?_
  refine Sim.sq (p1 := 42) (s_callV (C_X1_sizeOf l) (rfl : vwCl[1]? = some (RX1, TX1, 10)) (by decide) kw310 kw311 kw312 kw54 kw313 ⟨rfl, by decide +kernel, by decide +kernel, by decide +kernel⟩ ⟨by decide, by decide⟩ shN1 dX5_paste_39) ?_
  refine Sim.sq (p1 := 43) (s_iadd dX5_paste_42) ?_
  refine Sim.sq (p1 := 46) (s_sipush (by decide +kernel) dX5_paste_43) ?_
  refine Sim.sq (p1 := 52) (Sim.bk ?_) ?_
  · refine Sim.sq (p1 := 49) (s_icmp_le dX5_paste_46 (by decide) rfl) ?_
    refine Sim.sq (p1 := 51) (s_bipush (by decide +kernel) dX5_paste_49) ?_
    exact (s_iret rfl dX5_paste_51)
  refine Sim.sq (p1 := 53) (s_aload_n rfl dX5_paste_52) ?_
  refine Sim.sq (p1 := 56) (s_callV (C_X5_startChange l) (rfl : vwCl[5]? = some (RX5, TX5, 11)) (by decide) kw314 kw316 kw1 kw52 kw317 ⟨rfl, by decide +kernel, by decide +kernel, by decide +kernel⟩ ⟨by decide, by decide⟩ shN5 dX5_paste_53) ?_
  refine Sim.sq (p1 := 57) (s_aload_n rfl dX5_paste_56) ?_
  refine Sim.sq (p1 := 58) (s_iload_n rfl dX5_paste_57) ?_
  refine Sim.sq (p1 := 59) (s_iload_n rfl dX5_paste_58) ?_
  refine Sim.sq (p1 := 62) (s_callV (C_X5_putIn l) (rfl : vwCl[5]? = some (RX5, TX5, 11)) (by decide) kw384 kw386 kw5 kw52 kw387 ⟨rfl, by decide +kernel, by decide +kernel, by decide +kernel⟩ ⟨by decide, by decide⟩ shN5 dX5_paste_59) ?_
  refine Sim.sq (p1 := 63) (s_aload_n rfl dX5_paste_62) ?_
  refine Sim.sq (p1 := 66) (s_callV (C_X5_balance l) (rfl : vwCl[5]? = some (RX5, TX5, 11)) (by decide) kw445 kw447 kw9 kw52 kw448 ⟨rfl, by decide +kernel, by decide +kernel, by decide +kernel⟩ ⟨by decide, by decide⟩ shN5 dX5_paste_63) ?_
  refine Sim.sq (p1 := 67) (s_aload_n rfl dX5_paste_66) ?_
  refine Sim.sq (p1 := 70) (s_callV (C_X5_length l) (rfl : vwCl[5]? = some (RX5, TX5, 11)) (by decide) kw306 kw307 kw308 kw52 kw309 ⟨rfl, by decide +kernel, by decide +kernel, by decide +kernel⟩ ⟨by decide, by decide⟩ shN5 dX5_paste_67) ?_
  exact (s_iret rfl dX5_paste_70)
set_option maxRecDepth 100000 in
set_option maxHeartbeats 4000000 in
theorem C_X5_paste (l : Launch) : Ct l yX5_paste cX5_paste 4 (some .int) 19 478 m_X5_paste := Ct_of (y := yX5_paste) (by decide +kernel) S_X5_paste
set_option maxRecDepth 100000 in
set_option maxHeartbeats 4000000 in
theorem S_X6_isInRing {l : Launch} : Sim l (fun _ => True) RX6 "isInRing" cX6_isInRing 2 (some .boolean) 1 22 [] b_X6_isInRing 0 14 := by
  unfold b_X6_isInRing
  refine Sim.sq (p1 := 1) (s_iload_n rfl dX6_isInRing_0) ?_
  refine Sim.sq (p1 := 2) (s_iconst (by decide +kernel) dX6_isInRing_1) ?_
  refine Sim.sq (p1 := 3) (s_aload_n rfl dX6_isInRing_2) ?_
  refine Sim.sq (p1 := 6) (s_getr (rfl : vwCl[6]? = some (RX6, TX6, 12)) (by decide) (by decide) inG6 kw701 rfl dX6_isInRing_3) ?_
  refine Sim.sq (p1 := 7) (s_iconst (by decide +kernel) dX6_isInRing_6) ?_
  refine Sim.sq (p1 := 8) (s_iald dX6_isInRing_7) ?_
  refine Sim.sq (p1 := 9) (s_iconst (by decide +kernel) dX6_isInRing_8) ?_
  refine Sim.sq (p1 := 10) (s_isub dX6_isInRing_9) ?_
  refine Sim.sq (p1 := 13) (s_callS (y := yX6_within) (C_X6_within l) kw741 kw742 kw59 kw743 ⟨by decide +kernel, by decide +kernel, by decide +kernel⟩ ⟨by decide, by decide⟩ dX6_isInRing_10) ?_
  exact (s_zret rfl dX6_isInRing_13)
set_option maxRecDepth 100000 in
set_option maxHeartbeats 4000000 in
theorem C_X6_isInRing (l : Launch) : Ct l yX6_isInRing cX6_isInRing 2 (some .boolean) 1 22 m_X6_isInRing := Ct_of (y := yX6_isInRing) (by decide +kernel) S_X6_isInRing
set_option maxRecDepth 100000 in
set_option maxHeartbeats 4000000 in
theorem S_X6_paste {l : Launch} : Sim l (fun _ => True) RX6 "paste" cX6_paste 3 (some .int) 7 173 [] b_X6_paste 0 62 := by
  unfold b_X6_paste
  refine Sim.sq (p1 := 1) (s_aload_n rfl dX6_paste_0) ?_
  refine Sim.sq (p1 := 2) (s_iload_n rfl dX6_paste_1) ?_
  refine Sim.sq (p1 := 5) (s_callV (C_X6_isPosition l) (rfl : vwCl[6]? = some (RX6, TX6, 12)) (by decide) kw764 kw766 kw18 kw59 kw767 ⟨rfl, by decide +kernel, by decide +kernel, by decide +kernel⟩ ⟨by decide, by decide⟩ shN6 dX6_paste_2) ?_
  refine Sim.sq (p1 := 18) (Sim.bk ?_) ?_
  · refine Sim.sq (p1 := 16) (Sim.bk ?_) ?_
    · refine Sim.sq (p1 := 8) (s_if_eq dX6_paste_5 (by decide) rfl) ?_
      refine Sim.sq (p1 := 9) (s_aload_n rfl dX6_paste_8) ?_
      refine Sim.sq (p1 := 10) (s_iload_n rfl dX6_paste_9) ?_
      refine Sim.sq (p1 := 13) (s_callV (C_X6_isInRing l) (rfl : vwCl[6]? = some (RX6, TX6, 12)) (by decide) kw895 kw897 kw46 kw59 kw898 ⟨rfl, by decide +kernel, by decide +kernel, by decide +kernel⟩ ⟨by decide, by decide⟩ shN6 dX6_paste_10) ?_
      exact (s_if_ne dX6_paste_13 (by decide) rfl)
    refine Sim.sq (p1 := 17) (s_iconst (by decide +kernel) dX6_paste_16) ?_
    exact (s_iret rfl dX6_paste_17)
  refine Sim.sq (p1 := 19) (s_aload_n rfl dX6_paste_18) ?_
  refine Sim.sq (p1 := 20) (s_iconst (by decide +kernel) dX6_paste_19) ?_
  refine Sim.sq (p1 := 23) (s_callV (C_X6_lengthOf l) (rfl : vwCl[6]? = some (RX6, TX6, 12)) (by decide) kw768 kw770 kw19 kw59 kw771 ⟨rfl, by decide +kernel, by decide +kernel, by decide +kernel⟩ ⟨by decide, by decide⟩ shN6 dX6_paste_20) ?_
  refine Sim.sq (p1 := 24) (s_aload_n rfl dX6_paste_23) ?_
  refine Sim.sq (p1 := 25) (s_iconst (by decide +kernel) dX6_paste_24) ?_
  refine Sim.sq (p1 := 26) (s_iload_n rfl dX6_paste_25) ?_
  refine Sim.sq (p1 := 27) (s_iadd dX6_paste_26) ?_
  refine Sim.sq (p1 := 30) (s_callV (C_X6_lengthOf l) (rfl : vwCl[6]? = some (RX6, TX6, 12)) (by decide) kw768 kw770 kw19 kw59 kw771 ⟨rfl, by decide +kernel, by decide +kernel, by decide +kernel⟩ ⟨by decide, by decide⟩ shN6 dX6_paste_27) ?_
  refine Sim.sq (p1 := 31) (s_iadd dX6_paste_30) ?_
  refine Sim.sq (p1 := 34) (s_sipush (by decide +kernel) dX6_paste_31) ?_
  refine Sim.sq (p1 := 40) (Sim.bk ?_) ?_
  · refine Sim.sq (p1 := 37) (s_icmp_le dX6_paste_34 (by decide) rfl) ?_
    refine Sim.sq (p1 := 39) (s_bipush (by decide +kernel) dX6_paste_37) ?_
    exact (s_iret rfl dX6_paste_39)
  refine Sim.sq (p1 := 41) (s_aload_n rfl dX6_paste_40) ?_
  refine Sim.sq (p1 := 44) (s_callV (C_X6_record l) (rfl : vwCl[6]? = some (RX6, TX6, 12)) (by decide) kw744 kw746 kw17 kw59 kw747 ⟨rfl, by decide +kernel, by decide +kernel, by decide +kernel⟩ ⟨by decide, by decide⟩ shN6 dX6_paste_41) ?_
  refine Sim.sq (p1 := 45) (s_aload_n rfl dX6_paste_44) ?_
  refine Sim.sq (p1 := 46) (s_iconst (by decide +kernel) dX6_paste_45) ?_
  refine Sim.sq (p1 := 47) (s_iload_n rfl dX6_paste_46) ?_
  refine Sim.sq (p1 := 48) (s_iadd dX6_paste_47) ?_
  refine Sim.sq (p1 := 49) (s_iload_n rfl dX6_paste_48) ?_
  refine Sim.sq (p1 := 52) (s_callV (C_X6_inserts l) (rfl : vwCl[6]? = some (RX6, TX6, 12)) (by decide) kw799 kw801 kw26 kw59 kw802 ⟨rfl, by decide +kernel, by decide +kernel, by decide +kernel⟩ ⟨by decide, by decide⟩ shN6 dX6_paste_49) ?_
  refine Sim.sq (p1 := 53) (s_aload_n rfl dX6_paste_52) ?_
  refine Sim.sq (p1 := 56) (s_callV (C_X6_balances l) (rfl : vwCl[6]? = some (RX6, TX6, 12)) (by decide) kw851 kw853 kw39 kw59 kw854 ⟨rfl, by decide +kernel, by decide +kernel, by decide +kernel⟩ ⟨by decide, by decide⟩ shN6 dX6_paste_53) ?_
  refine Sim.sq (p1 := 57) (s_aload_n rfl dX6_paste_56) ?_
  refine Sim.sq (p1 := 58) (s_iconst (by decide +kernel) dX6_paste_57) ?_
  refine Sim.sq (p1 := 61) (s_callV (C_X6_lengthOf l) (rfl : vwCl[6]? = some (RX6, TX6, 12)) (by decide) kw768 kw770 kw19 kw59 kw771 ⟨rfl, by decide +kernel, by decide +kernel, by decide +kernel⟩ ⟨by decide, by decide⟩ shN6 dX6_paste_58) ?_
  exact (s_iret rfl dX6_paste_61)
set_option maxRecDepth 100000 in
set_option maxHeartbeats 4000000 in
theorem C_X6_paste (l : Launch) : Ct l yX6_paste cX6_paste 3 (some .int) 7 173 m_X6_paste := Ct_of (y := yX6_paste) (by decide +kernel) S_X6_paste
set_option maxRecDepth 100000 in
set_option maxHeartbeats 4000000 in
theorem S_X5_move {l : Launch} : Sim l (fun _ => True) RX5 "move" cX5_move 6 (some .int) 19 478 [] b_X5_move 0 63 := by
  unfold b_X5_move
  refine Sim.sq (p1 := 1) (s_aload_n rfl dX5_move_0) ?_
  refine Sim.sq (p1 := 2) (s_iload_n rfl dX5_move_1) ?_
  refine Sim.sq (p1 := 3) (s_iload_n rfl dX5_move_2) ?_
  refine Sim.sq (p1 := 6) (s_callV (C_X5_refusalOfPiece l) (rfl : vwCl[5]? = some (RX5, TX5, 11)) (by decide) kw476 kw478 kw12 kw52 kw479 ⟨rfl, by decide +kernel, by decide +kernel, by decide +kernel⟩ ⟨by decide, by decide⟩ shN5 dX5_move_3) ?_
  refine Sim.sq (p1 := 8) (s_istore (by decide) dX5_move_6) ?_
  refine Sim.sq (p1 := 10) (s_iload dX5_move_8) ?_
  refine Sim.sq (p1 := 16) (Sim.bk ?_) ?_
  · refine Sim.sq (p1 := 13) (s_if_eq dX5_move_10 (by decide) rfl) ?_
    refine Sim.sq (p1 := 15) (s_iload dX5_move_13) ?_
    exact (s_iret rfl dX5_move_15)
  refine Sim.sq (p1 := 17) (s_iload_n rfl dX5_move_16) ?_
  refine Sim.sq (p1 := 18) (s_iload_n rfl dX5_move_17) ?_
  refine Sim.sq (p1 := 19) (s_isub dX5_move_18) ?_
  refine Sim.sq (p1 := 21) (s_istore (by decide) dX5_move_19) ?_
  refine Sim.sq (p1 := 22) (s_iload_n rfl dX5_move_21) ?_
  refine Sim.sq (p1 := 39) (Sim.bk ?_) ?_
  · refine Sim.sq (p1 := 36) (Sim.bk ?_) ?_
    · refine Sim.sq (p1 := 25) (s_if_lt dX5_move_22 (by decide) rfl) ?_
      refine Sim.sq (p1 := 26) (s_iload_n rfl dX5_move_25) ?_
      refine Sim.sq (p1 := 27) (s_aload_n rfl dX5_move_26) ?_
      refine Sim.sq (p1 := 30) (s_callV (C_X5_length l) (rfl : vwCl[5]? = some (RX5, TX5, 11)) (by decide) kw306 kw307 kw308 kw52 kw309 ⟨rfl, by decide +kernel, by decide +kernel, by decide +kernel⟩ ⟨by decide, by decide⟩ shN5 dX5_move_27) ?_
      refine Sim.sq (p1 := 32) (s_iload dX5_move_30) ?_
      refine Sim.sq (p1 := 33) (s_isub dX5_move_32) ?_
      exact (s_icmp_le dX5_move_33 (by decide) rfl)
    refine Sim.sq (p1 := 38) (s_bipush (by decide +kernel) dX5_move_36) ?_
    exact (s_iret rfl dX5_move_38)
  refine Sim.sq (p1 := 40) (s_aload_n rfl dX5_move_39) ?_
  refine Sim.sq (p1 := 43) (s_callV (C_X5_startChange l) (rfl : vwCl[5]? = some (RX5, TX5, 11)) (by decide) kw314 kw316 kw1 kw52 kw317 ⟨rfl, by decide +kernel, by decide +kernel, by decide +kernel⟩ ⟨by decide, by decide⟩ shN5 dX5_move_40) ?_
  refine Sim.sq (p1 := 44) (s_aload_n rfl dX5_move_43) ?_
  refine Sim.sq (p1 := 45) (s_iload_n rfl dX5_move_44) ?_
  refine Sim.sq (p1 := 46) (s_aload_n rfl dX5_move_45) ?_
  refine Sim.sq (p1 := 47) (s_iload_n rfl dX5_move_46) ?_
  refine Sim.sq (p1 := 48) (s_iload_n rfl dX5_move_47) ?_
  refine Sim.sq (p1 := 51) (s_callV (C_X5_takeOut l) (rfl : vwCl[5]? = some (RX5, TX5, 11)) (by decide) kw480 kw482 kw13 kw52 kw483 ⟨rfl, by decide +kernel, by decide +kernel, by decide +kernel⟩ ⟨by decide, by decide⟩ shN5 dX5_move_48) ?_
  refine Sim.sq (p1 := 54) (s_callV (C_X5_putIn l) (rfl : vwCl[5]? = some (RX5, TX5, 11)) (by decide) kw384 kw386 kw5 kw52 kw387 ⟨rfl, by decide +kernel, by decide +kernel, by decide +kernel⟩ ⟨by decide, by decide⟩ shN5 dX5_move_51) ?_
  refine Sim.sq (p1 := 55) (s_aload_n rfl dX5_move_54) ?_
  refine Sim.sq (p1 := 58) (s_callV (C_X5_balance l) (rfl : vwCl[5]? = some (RX5, TX5, 11)) (by decide) kw445 kw447 kw9 kw52 kw448 ⟨rfl, by decide +kernel, by decide +kernel, by decide +kernel⟩ ⟨by decide, by decide⟩ shN5 dX5_move_55) ?_
  refine Sim.sq (p1 := 59) (s_iload_n rfl dX5_move_58) ?_
  refine Sim.sq (p1 := 61) (s_iload dX5_move_59) ?_
  refine Sim.sq (p1 := 62) (s_iadd dX5_move_61) ?_
  exact (s_iret rfl dX5_move_62)
set_option maxRecDepth 100000 in
set_option maxHeartbeats 4000000 in
theorem C_X5_move (l : Launch) : Ct l yX5_move cX5_move 6 (some .int) 19 478 m_X5_move := Ct_of (y := yX5_move) (by decide +kernel) S_X5_move
set_option maxRecDepth 100000 in
set_option maxHeartbeats 4000000 in
theorem S_X6_move {l : Launch} : Sim l (fun _ => True) RX6 "move" cX6_move 6 (some .int) 8 196 [] b_X6_move 0 74 := by
  unfold b_X6_move
  refine Sim.sq (p1 := 1) (s_aload_n rfl dX6_move_0) ?_
  refine Sim.sq (p1 := 2) (s_iload_n rfl dX6_move_1) ?_
  refine Sim.sq (p1 := 3) (s_iload_n rfl dX6_move_2) ?_
  refine Sim.sq (p1 := 6) (s_callV (C_X6_whyNoRange l) (rfl : vwCl[6]? = some (RX6, TX6, 12)) (by decide) kw867 kw869 kw42 kw59 kw870 ⟨rfl, by decide +kernel, by decide +kernel, by decide +kernel⟩ ⟨by decide, by decide⟩ shN6 dX6_move_3) ?_
  refine Sim.sq (p1 := 8) (s_istore (by decide) dX6_move_6) ?_
  refine Sim.sq (p1 := 10) (s_iload dX6_move_8) ?_
  refine Sim.sq (p1 := 16) (Sim.bk ?_) ?_
  · refine Sim.sq (p1 := 13) (s_if_ge dX6_move_10 (by decide) rfl) ?_
    refine Sim.sq (p1 := 15) (s_iload dX6_move_13) ?_
    exact (s_iret rfl dX6_move_15)
  refine Sim.sq (p1 := 17) (s_iload_n rfl dX6_move_16) ?_
  refine Sim.sq (p1 := 18) (s_iload_n rfl dX6_move_17) ?_
  refine Sim.sq (p1 := 19) (s_isub dX6_move_18) ?_
  refine Sim.sq (p1 := 21) (s_istore (by decide) dX6_move_19) ?_
  refine Sim.sq (p1 := 22) (s_iload_n rfl dX6_move_21) ?_
  refine Sim.sq (p1 := 23) (s_iconst (by decide +kernel) dX6_move_22) ?_
  refine Sim.sq (p1 := 24) (s_aload_n rfl dX6_move_23) ?_
  refine Sim.sq (p1 := 25) (s_iconst (by decide +kernel) dX6_move_24) ?_
  refine Sim.sq (p1 := 28) (s_callV (C_X6_lengthOf l) (rfl : vwCl[6]? = some (RX6, TX6, 12)) (by decide) kw768 kw770 kw19 kw59 kw771 ⟨rfl, by decide +kernel, by decide +kernel, by decide +kernel⟩ ⟨by decide, by decide⟩ shN6 dX6_move_25) ?_
  refine Sim.sq (p1 := 30) (s_iload dX6_move_28) ?_
  refine Sim.sq (p1 := 31) (s_isub dX6_move_30) ?_
  refine Sim.sq (p1 := 34) (s_callS (y := yX6_within) (C_X6_within l) kw741 kw742 kw59 kw743 ⟨by decide +kernel, by decide +kernel, by decide +kernel⟩ ⟨by decide, by decide⟩ dX6_move_31) ?_
  refine Sim.sq (p1 := 40) (Sim.bk ?_) ?_
  · refine Sim.sq (p1 := 37) (s_if_ne dX6_move_34 (by decide) rfl) ?_
    refine Sim.sq (p1 := 39) (s_bipush (by decide +kernel) dX6_move_37) ?_
    exact (s_iret rfl dX6_move_39)
  refine Sim.sq (p1 := 41) (s_aload_n rfl dX6_move_40) ?_
  refine Sim.sq (p1 := 44) (s_callV (C_X6_record l) (rfl : vwCl[6]? = some (RX6, TX6, 12)) (by decide) kw744 kw746 kw17 kw59 kw747 ⟨rfl, by decide +kernel, by decide +kernel, by decide +kernel⟩ ⟨by decide, by decide⟩ shN6 dX6_move_41) ?_
  refine Sim.sq (p1 := 45) (s_aload_n rfl dX6_move_44) ?_
  refine Sim.sq (p1 := 46) (s_iload_n rfl dX6_move_45) ?_
  refine Sim.sq (p1 := 47) (s_iload_n rfl dX6_move_46) ?_
  refine Sim.sq (p1 := 50) (s_callV (C_X6_takesOut l) (rfl : vwCl[6]? = some (RX6, TX6, 12)) (by decide) kw871 kw873 kw43 kw59 kw874 ⟨rfl, by decide +kernel, by decide +kernel, by decide +kernel⟩ ⟨by decide, by decide⟩ shN6 dX6_move_47) ?_
  refine Sim.sq (p1 := 51) (s_aload_n rfl dX6_move_50) ?_
  refine Sim.sq (p1 := 53) (s_bipush (by decide +kernel) dX6_move_51) ?_
  refine Sim.sq (p1 := 55) (s_bipush (by decide +kernel) dX6_move_53) ?_
  refine Sim.sq (p1 := 58) (s_callV (C_X6_copies l) (rfl : vwCl[6]? = some (RX6, TX6, 12)) (by decide) kw807 kw809 kw28 kw59 kw810 ⟨rfl, by decide +kernel, by decide +kernel, by decide +kernel⟩ ⟨by decide, by decide⟩ shN6 dX6_move_55) ?_
  refine Sim.sq (p1 := 59) (s_aload_n rfl dX6_move_58) ?_
  refine Sim.sq (p1 := 61) (s_bipush (by decide +kernel) dX6_move_59) ?_
  refine Sim.sq (p1 := 62) (s_iload_n rfl dX6_move_61) ?_
  refine Sim.sq (p1 := 65) (s_callV (C_X6_inserts l) (rfl : vwCl[6]? = some (RX6, TX6, 12)) (by decide) kw799 kw801 kw26 kw59 kw802 ⟨rfl, by decide +kernel, by decide +kernel, by decide +kernel⟩ ⟨by decide, by decide⟩ shN6 dX6_move_62) ?_
  refine Sim.sq (p1 := 66) (s_aload_n rfl dX6_move_65) ?_
  refine Sim.sq (p1 := 69) (s_callV (C_X6_balances l) (rfl : vwCl[6]? = some (RX6, TX6, 12)) (by decide) kw851 kw853 kw39 kw59 kw854 ⟨rfl, by decide +kernel, by decide +kernel, by decide +kernel⟩ ⟨by decide, by decide⟩ shN6 dX6_move_66) ?_
  refine Sim.sq (p1 := 70) (s_iload_n rfl dX6_move_69) ?_
  refine Sim.sq (p1 := 72) (s_iload dX6_move_70) ?_
  refine Sim.sq (p1 := 73) (s_iadd dX6_move_72) ?_
  exact (s_iret rfl dX6_move_73)
set_option maxRecDepth 100000 in
set_option maxHeartbeats 4000000 in
theorem C_X6_move (l : Launch) : Ct l yX6_move cX6_move 6 (some .int) 8 196 m_X6_move := Ct_of (y := yX6_move) (by decide +kernel) S_X6_move
set_option maxRecDepth 100000 in
set_option maxHeartbeats 4000000 in
theorem S_X3_standsAt {l : Launch} : Sim l (fun _ => True) RX3 "standsAt" cX3_standsAt 5 (some .boolean) 0 0 [] b_X3_standsAt 0 58 := by
  unfold b_X3_standsAt
  refine Sim.sq (p1 := 1) (s_iload_n rfl dX3_standsAt_0) ?_
  refine Sim.sq (p1 := 23) (Sim.bk ?_) ?_
  · refine Sim.sq (p1 := 21) (Sim.bk ?_) ?_
    · refine Sim.sq (p1 := 4) (s_if_lt dX3_standsAt_1 (by decide) rfl) ?_
      refine Sim.sq (p1 := 5) (s_iload_n rfl dX3_standsAt_4) ?_
      refine Sim.sq (p1 := 6) (s_aload_n rfl dX3_standsAt_5) ?_
      refine Sim.sq (p1 := 7) (s_alen dX3_standsAt_6) ?_
      refine Sim.sq (p1 := 10) (s_icmp_gt dX3_standsAt_7 (by decide) rfl) ?_
      refine Sim.sq (p1 := 11) (s_iload_n rfl dX3_standsAt_10) ?_
      refine Sim.sq (p1 := 12) (s_iload_n rfl dX3_standsAt_11) ?_
      refine Sim.sq (p1 := 13) (s_iadd dX3_standsAt_12) ?_
      refine Sim.sq (p1 := 14) (s_aload_n rfl dX3_standsAt_13) ?_
      refine Sim.sq (p1 := 17) (s_getr (rfl : vwCl[3]? = some (RX3, TX3, 8)) (by decide) (by decide) inG3 kw145 rfl dX3_standsAt_14) ?_
      refine Sim.sq (p1 := 18) (s_alen dX3_standsAt_17) ?_
      exact (s_icmp_le dX3_standsAt_18 (by decide) rfl)
    refine Sim.sq (p1 := 22) (s_iconst (by decide +kernel) dX3_standsAt_21) ?_
    exact (s_zret rfl dX3_standsAt_22)
  refine Sim.sq (p1 := 24) (s_iconst (by decide +kernel) dX3_standsAt_23) ?_
  refine Sim.sq (p1 := 26) (s_istore (by decide) dX3_standsAt_24) ?_
  refine Sim.sq (p1 := 56) (Sim.lp ?_) ?_
  · refine Sim.sq (p1 := 28) (s_iload dX3_standsAt_26) ?_
    refine Sim.sq (p1 := 29) (s_iload_n rfl dX3_standsAt_28) ?_
    refine Sim.bk ?_
    refine Sim.sq (p1 := 32) (s_icmp_ge dX3_standsAt_29 (by decide) rfl) ?_
    refine Sim.sq (p1 := 33) (s_aload_n rfl dX3_standsAt_32) ?_
    refine Sim.sq (p1 := 36) (s_getr (rfl : vwCl[3]? = some (RX3, TX3, 8)) (by decide) (by decide) inG3 kw145 rfl dX3_standsAt_33) ?_
    refine Sim.sq (p1 := 37) (s_iload_n rfl dX3_standsAt_36) ?_
    refine Sim.sq (p1 := 39) (s_iload dX3_standsAt_37) ?_
    refine Sim.sq (p1 := 40) (s_iadd dX3_standsAt_39) ?_
    refine Sim.sq (p1 := 41) (s_iald dX3_standsAt_40) ?_
    refine Sim.sq (p1 := 42) (s_aload_n rfl dX3_standsAt_41) ?_
    refine Sim.sq (p1 := 44) (s_iload dX3_standsAt_42) ?_
    refine Sim.sq (p1 := 45) (s_iald dX3_standsAt_44) ?_
    refine Sim.sq (p1 := 50) (Sim.bk ?_) ?_
    · refine Sim.sq (p1 := 48) (s_icmp_eq dX3_standsAt_45 (by decide) rfl) ?_
      refine Sim.sq (p1 := 49) (s_iconst (by decide +kernel) dX3_standsAt_48) ?_
      exact (s_zret rfl dX3_standsAt_49)
    refine Sim.sq (p1 := 53) (s_iinc (by decide +kernel) (by decide) dX3_standsAt_50) ?_
    exact (s_goto dX3_standsAt_53 (by decide) rfl)
  refine Sim.sq (p1 := 57) (s_iconst (by decide +kernel) dX3_standsAt_56) ?_
  exact (s_zret rfl dX3_standsAt_57)
set_option maxRecDepth 100000 in
set_option maxHeartbeats 4000000 in
theorem C_X3_standsAt (l : Launch) : Ct l yX3_standsAt cX3_standsAt 5 (some .boolean) 0 0 m_X3_standsAt := Ct_of (y := yX3_standsAt) (by decide +kernel) S_X3_standsAt
set_option maxRecDepth 100000 in
set_option maxHeartbeats 4000000 in
theorem S_X3_positionOf {l : Launch} : Sim l (fun _ => True) RX3 "positionOf" cX3_positionOf 5 (some .int) 1 24 [] b_X3_positionOf 0 37 := by
  unfold b_X3_positionOf
  refine Sim.sq (p1 := 1) (s_iload_n rfl dX3_positionOf_0) ?_
  refine Sim.sq (p1 := 3) (s_istore (by decide) dX3_positionOf_1) ?_
  refine Sim.sq (p1 := 34) (Sim.lp ?_) ?_
  · refine Sim.sq (p1 := 5) (s_iload dX3_positionOf_3) ?_
    refine Sim.sq (p1 := 6) (s_iload_n rfl dX3_positionOf_5) ?_
    refine Sim.sq (p1 := 7) (s_iadd dX3_positionOf_6) ?_
    refine Sim.sq (p1 := 8) (s_aload_n rfl dX3_positionOf_7) ?_
    refine Sim.sq (p1 := 11) (s_geti (rfl : vwCl[3]? = some (RX3, TX3, 8)) (by decide) (by decide) inG3 kw153 rfl dX3_positionOf_8) ?_
    refine Sim.bk ?_
    refine Sim.sq (p1 := 14) (s_icmp_gt dX3_positionOf_11 (by decide) rfl) ?_
    refine Sim.sq (p1 := 15) (s_aload_n rfl dX3_positionOf_14) ?_
    refine Sim.sq (p1 := 16) (s_aload_n rfl dX3_positionOf_15) ?_
    refine Sim.sq (p1 := 17) (s_iload_n rfl dX3_positionOf_16) ?_
    refine Sim.sq (p1 := 19) (s_iload dX3_positionOf_17) ?_
    refine Sim.sq (p1 := 22) (s_callV (C_X3_standsAt l) (rfl : vwCl[3]? = some (RX3, TX3, 8)) (by decide) kw524 kw526 kw15 kw55 kw527 ⟨rfl, by decide +kernel, by decide +kernel, by decide +kernel⟩ ⟨by decide, by decide⟩ shN3 dX3_positionOf_19) ?_
    refine Sim.sq (p1 := 28) (Sim.bk ?_) ?_
    · refine Sim.sq (p1 := 25) (s_if_eq dX3_positionOf_22 (by decide) rfl) ?_
      refine Sim.sq (p1 := 27) (s_iload dX3_positionOf_25) ?_
      exact (s_iret rfl dX3_positionOf_27)
    refine Sim.sq (p1 := 31) (s_iinc (by decide +kernel) (by decide) dX3_positionOf_28) ?_
    exact (s_goto dX3_positionOf_31 (by decide) rfl)
  refine Sim.sq (p1 := 36) (s_bipush (by decide +kernel) dX3_positionOf_34) ?_
  exact (s_iret rfl dX3_positionOf_36)
set_option maxRecDepth 100000 in
set_option maxHeartbeats 4000000 in
theorem C_X3_positionOf (l : Launch) : Ct l yX3_positionOf cX3_positionOf 5 (some .int) 1 24 m_X3_positionOf := Ct_of (y := yX3_positionOf) (by decide +kernel) S_X3_positionOf
set_option maxRecDepth 100000 in
set_option maxHeartbeats 4000000 in
theorem S_X5_findAll {l : Launch} : Sim l (fun _ => True) RX5 "findAll" cX5_findAll 5 (some .int) 3 75 [] b_X5_findAll 0 87 := by
  unfold b_X5_findAll
  refine Sim.sq (p1 := 1) (s_aload_n rfl dX5_findAll_0) ?_
  refine Sim.sq (p1 := 4) (s_getr (rfl : vwCl[5]? = some (RX5, TX5, 11)) (by decide) (by decide) inG5 kw232 rfl dX5_findAll_1) ?_
  refine Sim.sq (p1 := 5) (s_aload_n rfl dX5_findAll_4) ?_
  refine Sim.sq (p1 := 8) (s_getr (rfl : vwCl[5]? = some (RX5, TX5, 11)) (by decide) (by decide) inG5 kw231 rfl dX5_findAll_5) ?_
  refine Sim.sq (p1 := 9) (s_aload_n rfl dX5_findAll_8) ?_
  refine Sim.sq (p1 := 12) (s_getr (rfl : vwCl[5]? = some (RX5, TX5, 11)) (by decide) (by decide) inG5 kw234 rfl dX5_findAll_9) ?_
  refine Sim.sq (p1 := 15) (s_getiN (rfl : vwCl[2]? = some (RX2, TX2, 7)) (by decide) (by decide) inG2 kn192 rfl dX5_findAll_12) ?_
  refine Sim.sq (p1 := 18) (s_callV (C_X3_read l) (rfl : vwCl[3]? = some (RX3, TX3, 8)) (by decide) kw458 kw459 kw460 kw55 kw461 ⟨rfl, by decide +kernel, by decide +kernel, by decide +kernel⟩ ⟨by decide, by decide⟩ shN3 dX5_findAll_15) ?_
  refine Sim.sq (p1 := 19) (s_iconst (by decide +kernel) dX5_findAll_18) ?_
  refine Sim.sq (p1 := 20) (s_istore_n rfl (by decide) dX5_findAll_19) ?_
  refine Sim.sq (p1 := 21) (s_iconst (by decide +kernel) dX5_findAll_20) ?_
  refine Sim.sq (p1 := 22) (s_istore_n rfl (by decide) dX5_findAll_21) ?_
  refine Sim.sq (p1 := 23) (s_iconst (by decide +kernel) dX5_findAll_22) ?_
  refine Sim.sq (p1 := 24) (s_istore_n rfl (by decide) dX5_findAll_23) ?_
  refine Sim.sq (p1 := 85) (Sim.lp ?_) ?_
  · refine Sim.sq (p1 := 25) (s_iload_n rfl dX5_findAll_24) ?_
    refine Sim.sq (p1 := 26) (s_aload_n rfl dX5_findAll_25) ?_
    refine Sim.sq (p1 := 29) (s_getr (rfl : vwCl[5]? = some (RX5, TX5, 11)) (by decide) (by decide) inG5 kw240 rfl dX5_findAll_26) ?_
    refine Sim.sq (p1 := 30) (s_alen dX5_findAll_29) ?_
    refine Sim.bk ?_
    refine Sim.sq (p1 := 33) (s_icmp_ge dX5_findAll_30 (by decide) rfl) ?_
    refine Sim.sq (p1 := 34) (s_aload_n rfl dX5_findAll_33) ?_
    refine Sim.sq (p1 := 37) (s_getr (rfl : vwCl[5]? = some (RX5, TX5, 11)) (by decide) (by decide) inG5 kw232 rfl dX5_findAll_34) ?_
    refine Sim.sq (p1 := 38) (s_aload_n rfl dX5_findAll_37) ?_
    refine Sim.sq (p1 := 41) (s_getr (rfl : vwCl[5]? = some (RX5, TX5, 11)) (by decide) (by decide) inG5 kw238 rfl dX5_findAll_38) ?_
    refine Sim.sq (p1 := 42) (s_aload_n rfl dX5_findAll_41) ?_
    refine Sim.sq (p1 := 45) (s_geti (rfl : vwCl[5]? = some (RX5, TX5, 11)) (by decide) (by decide) inG5 kw239 rfl dX5_findAll_42) ?_
    refine Sim.sq (p1 := 46) (s_iload_n rfl dX5_findAll_45) ?_
    refine Sim.sq (p1 := 49) (s_callV (C_X3_positionOf l) (rfl : vwCl[3]? = some (RX3, TX3, 8)) (by decide) kw520 kw521 kw522 kw55 kw523 ⟨rfl, by decide +kernel, by decide +kernel, by decide +kernel⟩ ⟨by decide, by decide⟩ shN3 dX5_findAll_46) ?_
    refine Sim.sq (p1 := 51) (s_istore (by decide) dX5_findAll_49) ?_
    refine Sim.sq (p1 := 53) (s_iload dX5_findAll_51) ?_
    refine Sim.sq (p1 := 55) (s_bipush (by decide +kernel) dX5_findAll_53) ?_
    refine Sim.sq (p1 := 60) (Sim.bk ?_) ?_
    · refine Sim.sq (p1 := 58) (s_icmp_ne dX5_findAll_55 (by decide) rfl) ?_
      refine Sim.sq (p1 := 59) (s_iload_n rfl dX5_findAll_58) ?_
      exact (s_iret rfl dX5_findAll_59)
    refine Sim.sq (p1 := 61) (s_aload_n rfl dX5_findAll_60) ?_
    refine Sim.sq (p1 := 64) (s_getr (rfl : vwCl[5]? = some (RX5, TX5, 11)) (by decide) (by decide) inG5 kw240 rfl dX5_findAll_61) ?_
    refine Sim.sq (p1 := 65) (s_iload_n rfl dX5_findAll_64) ?_
    refine Sim.sq (p1 := 67) (s_iload dX5_findAll_65) ?_
    refine Sim.sq (p1 := 68) (s_iast dX5_findAll_67) ?_
    refine Sim.sq (p1 := 71) (s_iinc (by decide +kernel) (by decide) dX5_findAll_68) ?_
    refine Sim.sq (p1 := 73) (s_iload dX5_findAll_71) ?_
    refine Sim.sq (p1 := 74) (s_aload_n rfl dX5_findAll_73) ?_
    refine Sim.sq (p1 := 77) (s_geti (rfl : vwCl[5]? = some (RX5, TX5, 11)) (by decide) (by decide) inG5 kw239 rfl dX5_findAll_74) ?_
    refine Sim.sq (p1 := 78) (s_iadd dX5_findAll_77) ?_
    refine Sim.sq (p1 := 79) (s_istore_n rfl (by decide) dX5_findAll_78) ?_
    refine Sim.sq (p1 := 82) (s_iinc (by decide +kernel) (by decide) dX5_findAll_79) ?_
    exact (s_goto dX5_findAll_82 (by decide) rfl)
  refine Sim.sq (p1 := 86) (s_iload_n rfl dX5_findAll_85) ?_
  exact (s_iret rfl dX5_findAll_86)
set_option maxRecDepth 100000 in
set_option maxHeartbeats 4000000 in
theorem C_X5_findAll (l : Launch) : Ct l yX5_findAll cX5_findAll 5 (some .int) 3 75 m_X5_findAll := Ct_of (y := yX5_findAll) (by decide +kernel) S_X5_findAll
set_option maxRecDepth 100000 in
set_option maxHeartbeats 4000000 in
theorem S_X5_replaceAll {l : Launch} : Sim l (fun _ => True) RX5 "replaceAll" cX5_replaceAll 6 (some .int) 19 478 [] b_X5_replaceAll 0 150 := by
  unfold b_X5_replaceAll
  refine Sim.sq (p1 := 1) (s_aload_n rfl dX5_replaceAll_0) ?_
  refine Sim.sq (p1 := 4) (s_geti (rfl : vwCl[5]? = some (RX5, TX5, 11)) (by decide) (by decide) inG5 kw239 rfl dX5_replaceAll_1) ?_
  refine Sim.sq (p1 := 20) (Sim.bk ?_) ?_
  · refine Sim.sq (p1 := 17) (Sim.bk ?_) ?_
    · refine Sim.sq (p1 := 7) (s_if_eq dX5_replaceAll_4 (by decide) rfl) ?_
      refine Sim.sq (p1 := 8) (s_aload_n rfl dX5_replaceAll_7) ?_
      refine Sim.sq (p1 := 11) (s_getr (rfl : vwCl[5]? = some (RX5, TX5, 11)) (by decide) (by decide) inG5 kw234 rfl dX5_replaceAll_8) ?_
      refine Sim.sq (p1 := 14) (s_getiN (rfl : vwCl[2]? = some (RX2, TX2, 7)) (by decide) (by decide) inG2 kn186 rfl dX5_replaceAll_11) ?_
      exact (s_if_ne dX5_replaceAll_14 (by decide) rfl)
    refine Sim.sq (p1 := 19) (s_bipush (by decide +kernel) dX5_replaceAll_17) ?_
    exact (s_iret rfl dX5_replaceAll_19)
  refine Sim.sq (p1 := 21) (s_aload_n rfl dX5_replaceAll_20) ?_
  refine Sim.sq (p1 := 24) (s_getr (rfl : vwCl[5]? = some (RX5, TX5, 11)) (by decide) (by decide) inG5 kw234 rfl dX5_replaceAll_21) ?_
  refine Sim.sq (p1 := 25) (s_iconst (by decide +kernel) dX5_replaceAll_24) ?_
  refine Sim.sq (p1 := 28) (s_callV (C_X2_ropeOfRing l) (rfl : vwCl[2]? = some (RX2, TX2, 7)) (by decide) kw335 kw336 kw337 kw56 kw338 ⟨rfl, by decide +kernel, by decide +kernel, by decide +kernel⟩ ⟨by decide, by decide⟩ shN2 dX5_replaceAll_25) ?_
  refine Sim.sq (p1 := 29) (s_istore_n rfl (by decide) dX5_replaceAll_28) ?_
  refine Sim.sq (p1 := 30) (s_aload_n rfl dX5_replaceAll_29) ?_
  refine Sim.sq (p1 := 33) (s_getr (rfl : vwCl[5]? = some (RX5, TX5, 11)) (by decide) (by decide) inG5 kw231 rfl dX5_replaceAll_30) ?_
  refine Sim.sq (p1 := 34) (s_iload_n rfl dX5_replaceAll_33) ?_
  refine Sim.sq (p1 := 37) (s_callV (C_X1_sizeOf l) (rfl : vwCl[1]? = some (RX1, TX1, 10)) (by decide) kw310 kw311 kw312 kw54 kw313 ⟨rfl, by decide +kernel, by decide +kernel, by decide +kernel⟩ ⟨by decide, by decide⟩ shN1 dX5_replaceAll_34) ?_
  refine Sim.sq (p1 := 38) (s_aload_n rfl dX5_replaceAll_37) ?_
  refine Sim.sq (p1 := 41) (s_geti (rfl : vwCl[5]? = some (RX5, TX5, 11)) (by decide) (by decide) inG5 kw239 rfl dX5_replaceAll_38) ?_
  refine Sim.sq (p1 := 42) (s_isub dX5_replaceAll_41) ?_
  refine Sim.sq (p1 := 43) (s_istore_n rfl (by decide) dX5_replaceAll_42) ?_
  refine Sim.sq (p1 := 44) (s_aload_n rfl dX5_replaceAll_43) ?_
  refine Sim.sq (p1 := 47) (s_callV (C_X5_findAll l) (rfl : vwCl[5]? = some (RX5, TX5, 11)) (by decide) kw516 kw518 kw14 kw52 kw519 ⟨rfl, by decide +kernel, by decide +kernel, by decide +kernel⟩ ⟨by decide, by decide⟩ shN5 dX5_replaceAll_44) ?_
  refine Sim.sq (p1 := 48) (s_istore_n rfl (by decide) dX5_replaceAll_47) ?_
  refine Sim.sq (p1 := 49) (s_aload_n rfl dX5_replaceAll_48) ?_
  refine Sim.sq (p1 := 52) (s_callV (C_X5_length l) (rfl : vwCl[5]? = some (RX5, TX5, 11)) (by decide) kw306 kw307 kw308 kw52 kw309 ⟨rfl, by decide +kernel, by decide +kernel, by decide +kernel⟩ ⟨by decide, by decide⟩ shN5 dX5_replaceAll_49) ?_
  refine Sim.sq (p1 := 53) (s_iload_n rfl dX5_replaceAll_52) ?_
  refine Sim.sq (p1 := 54) (s_iload_n rfl dX5_replaceAll_53) ?_
  refine Sim.sq (p1 := 55) (s_imul dX5_replaceAll_54) ?_
  refine Sim.sq (p1 := 56) (s_iadd dX5_replaceAll_55) ?_
  refine Sim.sq (p1 := 59) (s_sipush (by decide +kernel) dX5_replaceAll_56) ?_
  refine Sim.sq (p1 := 65) (Sim.bk ?_) ?_
  · refine Sim.sq (p1 := 62) (s_icmp_le dX5_replaceAll_59 (by decide) rfl) ?_
    refine Sim.sq (p1 := 64) (s_bipush (by decide +kernel) dX5_replaceAll_62) ?_
    exact (s_iret rfl dX5_replaceAll_64)
  refine Sim.sq (p1 := 66) (s_aload_n rfl dX5_replaceAll_65) ?_
  refine Sim.sq (p1 := 69) (s_getr (rfl : vwCl[5]? = some (RX5, TX5, 11)) (by decide) (by decide) inG5 kw235 rfl dX5_replaceAll_66) ?_
  refine Sim.sq (p1 := 70) (s_aload_n rfl dX5_replaceAll_69) ?_
  refine Sim.sq (p1 := 73) (s_getr (rfl : vwCl[5]? = some (RX5, TX5, 11)) (by decide) (by decide) inG5 kw234 rfl dX5_replaceAll_70) ?_
  refine Sim.sq (p1 := 76) (s_callV (C_X0_save l) (rfl : vwCl[0]? = some (RX0, TX0, 3)) (by decide) kw268 kw269 kw270 kw58 kw271 ⟨rfl, by decide +kernel, by decide +kernel, by decide +kernel⟩ ⟨by decide, by decide⟩ shN0 dX5_replaceAll_73) ?_
  refine Sim.sq (p1 := 77) (s_iconst (by decide +kernel) dX5_replaceAll_76) ?_
  refine Sim.sq (p1 := 79) (s_istore (by decide) dX5_replaceAll_77) ?_
  refine Sim.sq (p1 := 140) (Sim.lp ?_) ?_
  · refine Sim.sq (p1 := 81) (s_iload dX5_replaceAll_79) ?_
    refine Sim.sq (p1 := 82) (s_iload_n rfl dX5_replaceAll_81) ?_
    refine Sim.bk ?_
    refine Sim.sq (p1 := 85) (s_icmp_ge dX5_replaceAll_82 (by decide) rfl) ?_
    refine Sim.sq (p1 := 87) (s_iload dX5_replaceAll_85) ?_
    refine Sim.sq (p1 := 88) (s_aload_n rfl dX5_replaceAll_87) ?_
    refine Sim.sq (p1 := 91) (s_getr (rfl : vwCl[5]? = some (RX5, TX5, 11)) (by decide) (by decide) inG5 kw240 rfl dX5_replaceAll_88) ?_
    refine Sim.sq (p1 := 92) (s_alen dX5_replaceAll_91) ?_
    refine Sim.sq (p1 := 95) (s_icmp_ge dX5_replaceAll_92 (by decide) rfl) ?_
    refine Sim.sq (p1 := 96) (s_aload_n rfl dX5_replaceAll_95) ?_
    refine Sim.sq (p1 := 99) (s_getr (rfl : vwCl[5]? = some (RX5, TX5, 11)) (by decide) (by decide) inG5 kw240 rfl dX5_replaceAll_96) ?_
    refine Sim.sq (p1 := 101) (s_iload dX5_replaceAll_99) ?_
    refine Sim.sq (p1 := 102) (s_iald dX5_replaceAll_101) ?_
    refine Sim.sq (p1 := 104) (s_iload dX5_replaceAll_102) ?_
    refine Sim.sq (p1 := 105) (s_iload_n rfl dX5_replaceAll_104) ?_
    refine Sim.sq (p1 := 106) (s_imul dX5_replaceAll_105) ?_
    refine Sim.sq (p1 := 107) (s_iadd dX5_replaceAll_106) ?_
    refine Sim.sq (p1 := 109) (s_istore (by decide) dX5_replaceAll_107) ?_
    refine Sim.sq (p1 := 110) (s_aload_n rfl dX5_replaceAll_109) ?_
    refine Sim.sq (p1 := 113) (s_callV (C_X5_makeRoom l) (rfl : vwCl[5]? = some (RX5, TX5, 11)) (by decide) kw318 kw320 kw2 kw52 kw321 ⟨rfl, by decide +kernel, by decide +kernel, by decide +kernel⟩ ⟨by decide, by decide⟩ shN5 dX5_replaceAll_110) ?_
    refine Sim.sq (p1 := 114) (s_aload_n rfl dX5_replaceAll_113) ?_
    refine Sim.sq (p1 := 116) (s_iload dX5_replaceAll_114) ?_
    refine Sim.sq (p1 := 118) (s_iload dX5_replaceAll_116) ?_
    refine Sim.sq (p1 := 119) (s_aload_n rfl dX5_replaceAll_118) ?_
    refine Sim.sq (p1 := 122) (s_geti (rfl : vwCl[5]? = some (RX5, TX5, 11)) (by decide) (by decide) inG5 kw239 rfl dX5_replaceAll_119) ?_
    refine Sim.sq (p1 := 123) (s_iadd dX5_replaceAll_122) ?_
    refine Sim.sq (p1 := 126) (s_callV (C_X5_takeOut l) (rfl : vwCl[5]? = some (RX5, TX5, 11)) (by decide) kw480 kw482 kw13 kw52 kw483 ⟨rfl, by decide +kernel, by decide +kernel, by decide +kernel⟩ ⟨by decide, by decide⟩ shN5 dX5_replaceAll_123) ?_
    refine Sim.sq (p1 := 127) (s_pop dX5_replaceAll_126) ?_
    refine Sim.sq (p1 := 128) (s_aload_n rfl dX5_replaceAll_127) ?_
    refine Sim.sq (p1 := 130) (s_iload dX5_replaceAll_128) ?_
    refine Sim.sq (p1 := 131) (s_iload_n rfl dX5_replaceAll_130) ?_
    refine Sim.sq (p1 := 134) (s_callV (C_X5_putIn l) (rfl : vwCl[5]? = some (RX5, TX5, 11)) (by decide) kw384 kw386 kw5 kw52 kw387 ⟨rfl, by decide +kernel, by decide +kernel, by decide +kernel⟩ ⟨by decide, by decide⟩ shN5 dX5_replaceAll_131) ?_
    refine Sim.sq (p1 := 137) (s_iinc (by decide +kernel) (by decide) dX5_replaceAll_134) ?_
    exact (s_goto dX5_replaceAll_137 (by decide) rfl)
  refine Sim.sq (p1 := 141) (s_iload_n rfl dX5_replaceAll_140) ?_
  refine Sim.sq (p1 := 148) (Sim.bk ?_) ?_
  · refine Sim.sq (p1 := 144) (s_if_le dX5_replaceAll_141 (by decide) rfl) ?_
    refine Sim.sq (p1 := 145) (s_aload_n rfl dX5_replaceAll_144) ?_
    exact (s_callV (C_X5_balance l) (rfl : vwCl[5]? = some (RX5, TX5, 11)) (by decide) kw445 kw447 kw9 kw52 kw448 ⟨rfl, by decide +kernel, by decide +kernel, by decide +kernel⟩ ⟨by decide, by decide⟩ shN5 dX5_replaceAll_145)
  refine Sim.sq (p1 := 149) (s_iload_n rfl dX5_replaceAll_148) ?_
  exact (s_iret rfl dX5_replaceAll_149)
set_option maxRecDepth 100000 in
set_option maxHeartbeats 4000000 in
theorem C_X5_replaceAll (l : Launch) : Ct l yX5_replaceAll cX5_replaceAll 6 (some .int) 19 478 m_X5_replaceAll := Ct_of (y := yX5_replaceAll) (by decide +kernel) S_X5_replaceAll
set_option maxRecDepth 100000 in
set_option maxHeartbeats 4000000 in
theorem S_X6_standsAt {l : Launch} : Sim l (fun _ => True) RX6 "standsAt" cX6_standsAt 4 (some .boolean) 1 22 [] b_X6_standsAt 0 65 := by
  unfold b_X6_standsAt
  refine Sim.sq (p1 := 1) (s_iload_n rfl dX6_standsAt_0) ?_
  refine Sim.sq (p1 := 2) (s_aload_n rfl dX6_standsAt_1) ?_
  refine Sim.sq (p1 := 5) (s_geti (rfl : vwCl[6]? = some (RX6, TX6, 12)) (by decide) (by decide) inG6 kw706 rfl dX6_standsAt_2) ?_
  refine Sim.sq (p1 := 6) (s_iadd dX6_standsAt_5) ?_
  refine Sim.sq (p1 := 7) (s_aload_n rfl dX6_standsAt_6) ?_
  refine Sim.sq (p1 := 8) (s_iconst (by decide +kernel) dX6_standsAt_7) ?_
  refine Sim.sq (p1 := 11) (s_callV (C_X6_lengthOf l) (rfl : vwCl[6]? = some (RX6, TX6, 12)) (by decide) kw768 kw770 kw19 kw59 kw771 ⟨rfl, by decide +kernel, by decide +kernel, by decide +kernel⟩ ⟨by decide, by decide⟩ shN6 dX6_standsAt_8) ?_
  refine Sim.sq (p1 := 19) (Sim.bk ?_) ?_
  · refine Sim.sq (p1 := 18) (Sim.bk ?_) ?_
    · refine Sim.sq (p1 := 14) (s_icmp_gt dX6_standsAt_11 (by decide) rfl) ?_
      refine Sim.sq (p1 := 15) (s_iconst (by decide +kernel) dX6_standsAt_14) ?_
      exact (s_goto dX6_standsAt_15 (by decide) rfl)
    exact (s_iconst (by decide +kernel) dX6_standsAt_18)
  refine Sim.sq (p1 := 20) (s_istore_n rfl (by decide) dX6_standsAt_19) ?_
  refine Sim.sq (p1 := 21) (s_iconst (by decide +kernel) dX6_standsAt_20) ?_
  refine Sim.sq (p1 := 22) (s_istore_n rfl (by decide) dX6_standsAt_21) ?_
  refine Sim.sq (p1 := 63) (Sim.lp ?_) ?_
  · refine Sim.sq (p1 := 23) (s_iload_n rfl dX6_standsAt_22) ?_
    refine Sim.sq (p1 := 24) (s_aload_n rfl dX6_standsAt_23) ?_
    refine Sim.sq (p1 := 27) (s_geti (rfl : vwCl[6]? = some (RX6, TX6, 12)) (by decide) (by decide) inG6 kw706 rfl dX6_standsAt_24) ?_
    refine Sim.bk ?_
    refine Sim.sq (p1 := 30) (s_icmp_ge dX6_standsAt_27 (by decide) rfl) ?_
    refine Sim.sq (p1 := 31) (s_iload_n rfl dX6_standsAt_30) ?_
    refine Sim.sq (p1 := 34) (s_if_eq dX6_standsAt_31 (by decide) rfl) ?_
    refine Sim.sq (p1 := 35) (s_aload_n rfl dX6_standsAt_34) ?_
    refine Sim.sq (p1 := 36) (s_iconst (by decide +kernel) dX6_standsAt_35) ?_
    refine Sim.sq (p1 := 37) (s_iload_n rfl dX6_standsAt_36) ?_
    refine Sim.sq (p1 := 38) (s_iload_n rfl dX6_standsAt_37) ?_
    refine Sim.sq (p1 := 39) (s_iadd dX6_standsAt_38) ?_
    refine Sim.sq (p1 := 42) (s_callV (C_X6_characterOf l) (rfl : vwCl[6]? = some (RX6, TX6, 12)) (by decide) kw823 kw825 kw32 kw59 kw826 ⟨rfl, by decide +kernel, by decide +kernel, by decide +kernel⟩ ⟨by decide, by decide⟩ shN6 dX6_standsAt_39) ?_
    refine Sim.sq (p1 := 43) (s_aload_n rfl dX6_standsAt_42) ?_
    refine Sim.sq (p1 := 46) (s_getr (rfl : vwCl[6]? = some (RX6, TX6, 12)) (by decide) (by decide) inG6 kw705 rfl dX6_standsAt_43) ?_
    refine Sim.sq (p1 := 47) (s_iload_n rfl dX6_standsAt_46) ?_
    refine Sim.sq (p1 := 48) (s_iald dX6_standsAt_47) ?_
    refine Sim.sq (p1 := 56) (Sim.bk ?_) ?_
    · refine Sim.sq (p1 := 55) (Sim.bk ?_) ?_
      · refine Sim.sq (p1 := 51) (s_icmp_ne dX6_standsAt_48 (by decide) rfl) ?_
        refine Sim.sq (p1 := 52) (s_iconst (by decide +kernel) dX6_standsAt_51) ?_
        exact (s_goto dX6_standsAt_52 (by decide) rfl)
      exact (s_iconst (by decide +kernel) dX6_standsAt_55)
    refine Sim.sq (p1 := 57) (s_istore_n rfl (by decide) dX6_standsAt_56) ?_
    refine Sim.sq (p1 := 60) (s_iinc (by decide +kernel) (by decide) dX6_standsAt_57) ?_
    exact (s_goto dX6_standsAt_60 (by decide) rfl)
  refine Sim.sq (p1 := 64) (s_iload_n rfl dX6_standsAt_63) ?_
  exact (s_zret rfl dX6_standsAt_64)
set_option maxRecDepth 100000 in
set_option maxHeartbeats 4000000 in
theorem C_X6_standsAt (l : Launch) : Ct l yX6_standsAt cX6_standsAt 4 (some .boolean) 1 22 m_X6_standsAt := Ct_of (y := yX6_standsAt) (by decide +kernel) S_X6_standsAt
set_option maxRecDepth 100000 in
set_option maxHeartbeats 4000000 in
theorem S_X6_findFrom {l : Launch} : Sim l (fun _ => True) RX6 "findFrom" cX6_findFrom 3 (some .int) 2 45 [] b_X6_findFrom 0 35 := by
  unfold b_X6_findFrom
  refine Sim.sq (p1 := 1) (s_iload_n rfl dX6_findFrom_0) ?_
  refine Sim.sq (p1 := 2) (s_istore_n rfl (by decide) dX6_findFrom_1) ?_
  refine Sim.sq (p1 := 32) (Sim.lp ?_) ?_
  · refine Sim.sq (p1 := 3) (s_iload_n rfl dX6_findFrom_2) ?_
    refine Sim.sq (p1 := 4) (s_aload_n rfl dX6_findFrom_3) ?_
    refine Sim.sq (p1 := 7) (s_geti (rfl : vwCl[6]? = some (RX6, TX6, 12)) (by decide) (by decide) inG6 kw706 rfl dX6_findFrom_4) ?_
    refine Sim.sq (p1 := 8) (s_iadd dX6_findFrom_7) ?_
    refine Sim.sq (p1 := 9) (s_aload_n rfl dX6_findFrom_8) ?_
    refine Sim.sq (p1 := 10) (s_iconst (by decide +kernel) dX6_findFrom_9) ?_
    refine Sim.sq (p1 := 13) (s_callV (C_X6_lengthOf l) (rfl : vwCl[6]? = some (RX6, TX6, 12)) (by decide) kw768 kw770 kw19 kw59 kw771 ⟨rfl, by decide +kernel, by decide +kernel, by decide +kernel⟩ ⟨by decide, by decide⟩ shN6 dX6_findFrom_10) ?_
    refine Sim.bk ?_
    refine Sim.sq (p1 := 16) (s_icmp_gt dX6_findFrom_13 (by decide) rfl) ?_
    refine Sim.sq (p1 := 17) (s_aload_n rfl dX6_findFrom_16) ?_
    refine Sim.sq (p1 := 18) (s_iload_n rfl dX6_findFrom_17) ?_
    refine Sim.sq (p1 := 21) (s_callV (C_X6_standsAt l) (rfl : vwCl[6]? = some (RX6, TX6, 12)) (by decide) kw915 kw917 kw49 kw59 kw918 ⟨rfl, by decide +kernel, by decide +kernel, by decide +kernel⟩ ⟨by decide, by decide⟩ shN6 dX6_findFrom_18) ?_
    refine Sim.sq (p1 := 26) (Sim.bk ?_) ?_
    · refine Sim.sq (p1 := 24) (s_if_eq dX6_findFrom_21 (by decide) rfl) ?_
      refine Sim.sq (p1 := 25) (s_iload_n rfl dX6_findFrom_24) ?_
      exact (s_iret rfl dX6_findFrom_25)
    refine Sim.sq (p1 := 29) (s_iinc (by decide +kernel) (by decide) dX6_findFrom_26) ?_
    exact (s_goto dX6_findFrom_29 (by decide) rfl)
  refine Sim.sq (p1 := 34) (s_bipush (by decide +kernel) dX6_findFrom_32) ?_
  exact (s_iret rfl dX6_findFrom_34)
set_option maxRecDepth 100000 in
set_option maxHeartbeats 4000000 in
theorem C_X6_findFrom (l : Launch) : Ct l yX6_findFrom cX6_findFrom 3 (some .int) 2 45 m_X6_findFrom := Ct_of (y := yX6_findFrom) (by decide +kernel) S_X6_findFrom
set_option maxRecDepth 100000 in
set_option maxHeartbeats 4000000 in
theorem S_X6_occurrences {l : Launch} : Sim l (fun _ => True) RX6 "occurrences" cX6_occurrences 3 (some .int) 3 67 [] b_X6_occurrences 0 33 := by
  unfold b_X6_occurrences
  refine Sim.sq (p1 := 1) (s_iconst (by decide +kernel) dX6_occurrences_0) ?_
  refine Sim.sq (p1 := 2) (s_istore_n rfl (by decide) dX6_occurrences_1) ?_
  refine Sim.sq (p1 := 3) (s_aload_n rfl dX6_occurrences_2) ?_
  refine Sim.sq (p1 := 4) (s_iconst (by decide +kernel) dX6_occurrences_3) ?_
  refine Sim.sq (p1 := 7) (s_callV (C_X6_findFrom l) (rfl : vwCl[6]? = some (RX6, TX6, 12)) (by decide) kw911 kw913 kw48 kw59 kw914 ⟨rfl, by decide +kernel, by decide +kernel, by decide +kernel⟩ ⟨by decide, by decide⟩ shN6 dX6_occurrences_4) ?_
  refine Sim.sq (p1 := 8) (s_istore_n rfl (by decide) dX6_occurrences_7) ?_
  refine Sim.sq (p1 := 31) (Sim.lp ?_) ?_
  · refine Sim.sq (p1 := 9) (s_iload_n rfl dX6_occurrences_8) ?_
    refine Sim.sq (p1 := 11) (s_bipush (by decide +kernel) dX6_occurrences_9) ?_
    refine Sim.bk ?_
    refine Sim.sq (p1 := 14) (s_icmp_eq dX6_occurrences_11 (by decide) rfl) ?_
    refine Sim.sq (p1 := 17) (s_iinc (by decide +kernel) (by decide) dX6_occurrences_14) ?_
    refine Sim.sq (p1 := 18) (s_aload_n rfl dX6_occurrences_17) ?_
    refine Sim.sq (p1 := 19) (s_iload_n rfl dX6_occurrences_18) ?_
    refine Sim.sq (p1 := 20) (s_aload_n rfl dX6_occurrences_19) ?_
    refine Sim.sq (p1 := 23) (s_geti (rfl : vwCl[6]? = some (RX6, TX6, 12)) (by decide) (by decide) inG6 kw706 rfl dX6_occurrences_20) ?_
    refine Sim.sq (p1 := 24) (s_iadd dX6_occurrences_23) ?_
    refine Sim.sq (p1 := 27) (s_callV (C_X6_findFrom l) (rfl : vwCl[6]? = some (RX6, TX6, 12)) (by decide) kw911 kw913 kw48 kw59 kw914 ⟨rfl, by decide +kernel, by decide +kernel, by decide +kernel⟩ ⟨by decide, by decide⟩ shN6 dX6_occurrences_24) ?_
    refine Sim.sq (p1 := 28) (s_istore_n rfl (by decide) dX6_occurrences_27) ?_
    exact (s_goto dX6_occurrences_28 (by decide) rfl)
  refine Sim.sq (p1 := 32) (s_iload_n rfl dX6_occurrences_31) ?_
  exact (s_iret rfl dX6_occurrences_32)
set_option maxRecDepth 100000 in
set_option maxHeartbeats 4000000 in
theorem C_X6_occurrences (l : Launch) : Ct l yX6_occurrences cX6_occurrences 3 (some .int) 3 67 m_X6_occurrences := Ct_of (y := yX6_occurrences) (by decide +kernel) S_X6_occurrences
set_option maxRecDepth 100000 in
set_option maxHeartbeats 4000000 in
theorem S_X6_replaceAll {l : Launch} : Sim l (fun _ => True) RX6 "replaceAll" cX6_replaceAll 4 (some .int) 8 196 [] b_X6_replaceAll 0 111 := by
  unfold b_X6_replaceAll
  refine Sim.sq (p1 := 1) (s_aload_n rfl dX6_replaceAll_0) ?_
  refine Sim.sq (p1 := 4) (s_geti (rfl : vwCl[6]? = some (RX6, TX6, 12)) (by decide) (by decide) inG6 kw706 rfl dX6_replaceAll_1) ?_
  refine Sim.sq (p1 := 19) (Sim.bk ?_) ?_
  · refine Sim.sq (p1 := 16) (Sim.bk ?_) ?_
    · refine Sim.sq (p1 := 7) (s_if_eq dX6_replaceAll_4 (by decide) rfl) ?_
      refine Sim.sq (p1 := 8) (s_aload_n rfl dX6_replaceAll_7) ?_
      refine Sim.sq (p1 := 11) (s_getr (rfl : vwCl[6]? = some (RX6, TX6, 12)) (by decide) (by decide) inG6 kw701 rfl dX6_replaceAll_8) ?_
      refine Sim.sq (p1 := 12) (s_iconst (by decide +kernel) dX6_replaceAll_11) ?_
      refine Sim.sq (p1 := 13) (s_iald dX6_replaceAll_12) ?_
      exact (s_if_ne dX6_replaceAll_13 (by decide) rfl)
    refine Sim.sq (p1 := 18) (s_bipush (by decide +kernel) dX6_replaceAll_16) ?_
    exact (s_iret rfl dX6_replaceAll_18)
  refine Sim.sq (p1 := 20) (s_aload_n rfl dX6_replaceAll_19) ?_
  refine Sim.sq (p1 := 23) (s_callV (C_X6_occurrences l) (rfl : vwCl[6]? = some (RX6, TX6, 12)) (by decide) kw907 kw909 kw47 kw59 kw910 ⟨rfl, by decide +kernel, by decide +kernel, by decide +kernel⟩ ⟨by decide, by decide⟩ shN6 dX6_replaceAll_20) ?_
  refine Sim.sq (p1 := 24) (s_istore_n rfl (by decide) dX6_replaceAll_23) ?_
  refine Sim.sq (p1 := 25) (s_aload_n rfl dX6_replaceAll_24) ?_
  refine Sim.sq (p1 := 26) (s_iconst (by decide +kernel) dX6_replaceAll_25) ?_
  refine Sim.sq (p1 := 29) (s_callV (C_X6_lengthOf l) (rfl : vwCl[6]? = some (RX6, TX6, 12)) (by decide) kw768 kw770 kw19 kw59 kw771 ⟨rfl, by decide +kernel, by decide +kernel, by decide +kernel⟩ ⟨by decide, by decide⟩ shN6 dX6_replaceAll_26) ?_
  refine Sim.sq (p1 := 30) (s_iload_n rfl dX6_replaceAll_29) ?_
  refine Sim.sq (p1 := 31) (s_aload_n rfl dX6_replaceAll_30) ?_
  refine Sim.sq (p1 := 32) (s_iconst (by decide +kernel) dX6_replaceAll_31) ?_
  refine Sim.sq (p1 := 35) (s_callV (C_X6_lengthOf l) (rfl : vwCl[6]? = some (RX6, TX6, 12)) (by decide) kw768 kw770 kw19 kw59 kw771 ⟨rfl, by decide +kernel, by decide +kernel, by decide +kernel⟩ ⟨by decide, by decide⟩ shN6 dX6_replaceAll_32) ?_
  refine Sim.sq (p1 := 36) (s_aload_n rfl dX6_replaceAll_35) ?_
  refine Sim.sq (p1 := 39) (s_geti (rfl : vwCl[6]? = some (RX6, TX6, 12)) (by decide) (by decide) inG6 kw706 rfl dX6_replaceAll_36) ?_
  refine Sim.sq (p1 := 40) (s_isub dX6_replaceAll_39) ?_
  refine Sim.sq (p1 := 41) (s_imul dX6_replaceAll_40) ?_
  refine Sim.sq (p1 := 42) (s_iadd dX6_replaceAll_41) ?_
  refine Sim.sq (p1 := 45) (s_sipush (by decide +kernel) dX6_replaceAll_42) ?_
  refine Sim.sq (p1 := 51) (Sim.bk ?_) ?_
  · refine Sim.sq (p1 := 48) (s_icmp_le dX6_replaceAll_45 (by decide) rfl) ?_
    refine Sim.sq (p1 := 50) (s_bipush (by decide +kernel) dX6_replaceAll_48) ?_
    exact (s_iret rfl dX6_replaceAll_50)
  refine Sim.sq (p1 := 52) (s_aload_n rfl dX6_replaceAll_51) ?_
  refine Sim.sq (p1 := 55) (s_callV (C_X6_record l) (rfl : vwCl[6]? = some (RX6, TX6, 12)) (by decide) kw744 kw746 kw17 kw59 kw747 ⟨rfl, by decide +kernel, by decide +kernel, by decide +kernel⟩ ⟨by decide, by decide⟩ shN6 dX6_replaceAll_52) ?_
  refine Sim.sq (p1 := 56) (s_iconst (by decide +kernel) dX6_replaceAll_55) ?_
  refine Sim.sq (p1 := 57) (s_istore_n rfl (by decide) dX6_replaceAll_56) ?_
  refine Sim.sq (p1 := 58) (s_iconst (by decide +kernel) dX6_replaceAll_57) ?_
  refine Sim.sq (p1 := 59) (s_istore_n rfl (by decide) dX6_replaceAll_58) ?_
  refine Sim.sq (p1 := 101) (Sim.lp ?_) ?_
  · refine Sim.sq (p1 := 60) (s_iload_n rfl dX6_replaceAll_59) ?_
    refine Sim.sq (p1 := 61) (s_iload_n rfl dX6_replaceAll_60) ?_
    refine Sim.bk ?_
    refine Sim.sq (p1 := 64) (s_icmp_ge dX6_replaceAll_61 (by decide) rfl) ?_
    refine Sim.sq (p1 := 65) (s_aload_n rfl dX6_replaceAll_64) ?_
    refine Sim.sq (p1 := 66) (s_iload_n rfl dX6_replaceAll_65) ?_
    refine Sim.sq (p1 := 69) (s_callV (C_X6_findFrom l) (rfl : vwCl[6]? = some (RX6, TX6, 12)) (by decide) kw911 kw913 kw48 kw59 kw914 ⟨rfl, by decide +kernel, by decide +kernel, by decide +kernel⟩ ⟨by decide, by decide⟩ shN6 dX6_replaceAll_66) ?_
    refine Sim.sq (p1 := 70) (s_istore_n rfl (by decide) dX6_replaceAll_69) ?_
    refine Sim.sq (p1 := 71) (s_aload_n rfl dX6_replaceAll_70) ?_
    refine Sim.sq (p1 := 72) (s_iload_n rfl dX6_replaceAll_71) ?_
    refine Sim.sq (p1 := 73) (s_iload_n rfl dX6_replaceAll_72) ?_
    refine Sim.sq (p1 := 74) (s_aload_n rfl dX6_replaceAll_73) ?_
    refine Sim.sq (p1 := 77) (s_geti (rfl : vwCl[6]? = some (RX6, TX6, 12)) (by decide) (by decide) inG6 kw706 rfl dX6_replaceAll_74) ?_
    refine Sim.sq (p1 := 78) (s_iadd dX6_replaceAll_77) ?_
    refine Sim.sq (p1 := 81) (s_callV (C_X6_takesOut l) (rfl : vwCl[6]? = some (RX6, TX6, 12)) (by decide) kw871 kw873 kw43 kw59 kw874 ⟨rfl, by decide +kernel, by decide +kernel, by decide +kernel⟩ ⟨by decide, by decide⟩ shN6 dX6_replaceAll_78) ?_
    refine Sim.sq (p1 := 82) (s_aload_n rfl dX6_replaceAll_81) ?_
    refine Sim.sq (p1 := 83) (s_iconst (by decide +kernel) dX6_replaceAll_82) ?_
    refine Sim.sq (p1 := 84) (s_iload_n rfl dX6_replaceAll_83) ?_
    refine Sim.sq (p1 := 87) (s_callV (C_X6_inserts l) (rfl : vwCl[6]? = some (RX6, TX6, 12)) (by decide) kw799 kw801 kw26 kw59 kw802 ⟨rfl, by decide +kernel, by decide +kernel, by decide +kernel⟩ ⟨by decide, by decide⟩ shN6 dX6_replaceAll_84) ?_
    refine Sim.sq (p1 := 88) (s_iload_n rfl dX6_replaceAll_87) ?_
    refine Sim.sq (p1 := 89) (s_aload_n rfl dX6_replaceAll_88) ?_
    refine Sim.sq (p1 := 90) (s_iconst (by decide +kernel) dX6_replaceAll_89) ?_
    refine Sim.sq (p1 := 93) (s_callV (C_X6_lengthOf l) (rfl : vwCl[6]? = some (RX6, TX6, 12)) (by decide) kw768 kw770 kw19 kw59 kw771 ⟨rfl, by decide +kernel, by decide +kernel, by decide +kernel⟩ ⟨by decide, by decide⟩ shN6 dX6_replaceAll_90) ?_
    refine Sim.sq (p1 := 94) (s_iadd dX6_replaceAll_93) ?_
    refine Sim.sq (p1 := 95) (s_istore_n rfl (by decide) dX6_replaceAll_94) ?_
    refine Sim.sq (p1 := 98) (s_iinc (by decide +kernel) (by decide) dX6_replaceAll_95) ?_
    exact (s_goto dX6_replaceAll_98 (by decide) rfl)
  refine Sim.sq (p1 := 102) (s_iload_n rfl dX6_replaceAll_101) ?_
  refine Sim.sq (p1 := 109) (Sim.bk ?_) ?_
  · refine Sim.sq (p1 := 105) (s_if_le dX6_replaceAll_102 (by decide) rfl) ?_
    refine Sim.sq (p1 := 106) (s_aload_n rfl dX6_replaceAll_105) ?_
    exact (s_callV (C_X6_balances l) (rfl : vwCl[6]? = some (RX6, TX6, 12)) (by decide) kw851 kw853 kw39 kw59 kw854 ⟨rfl, by decide +kernel, by decide +kernel, by decide +kernel⟩ ⟨by decide, by decide⟩ shN6 dX6_replaceAll_106)
  refine Sim.sq (p1 := 110) (s_iload_n rfl dX6_replaceAll_109) ?_
  exact (s_iret rfl dX6_replaceAll_110)
set_option maxRecDepth 100000 in
set_option maxHeartbeats 4000000 in
theorem C_X6_replaceAll (l : Launch) : Ct l yX6_replaceAll cX6_replaceAll 4 (some .int) 8 196 m_X6_replaceAll := Ct_of (y := yX6_replaceAll) (by decide +kernel) S_X6_replaceAll
set_option maxRecDepth 100000 in
set_option maxHeartbeats 4000000 in
theorem S_X5_depth {l : Launch} : Sim l (fun _ => True) RX5 "depth" cX5_depth 1 (some .int) 1 21 [] b_X5_depth 0 15 := by
  unfold b_X5_depth
  refine Sim.sq (p1 := 1) (s_aload_n rfl dX5_depth_0) ?_
  refine Sim.sq (p1 := 4) (s_getr (rfl : vwCl[5]? = some (RX5, TX5, 11)) (by decide) (by decide) inG5 kw231 rfl dX5_depth_1) ?_
  refine Sim.sq (p1 := 5) (s_aload_n rfl dX5_depth_4) ?_
  refine Sim.sq (p1 := 8) (s_getr (rfl : vwCl[5]? = some (RX5, TX5, 11)) (by decide) (by decide) inG5 kw234 rfl dX5_depth_5) ?_
  refine Sim.sq (p1 := 11) (s_getiN (rfl : vwCl[2]? = some (RX2, TX2, 7)) (by decide) (by decide) inG2 kn192 rfl dX5_depth_8) ?_
  refine Sim.sq (p1 := 14) (s_callV (C_X1_heightOf l) (rfl : vwCl[1]? = some (RX1, TX1, 10)) (by decide) kw536 kw381 kw382 kw54 kw383 ⟨rfl, by decide +kernel, by decide +kernel, by decide +kernel⟩ ⟨by decide, by decide⟩ shN1 dX5_depth_11) ?_
  exact (s_iret rfl dX5_depth_14)
set_option maxRecDepth 100000 in
set_option maxHeartbeats 4000000 in
theorem C_X5_depth (l : Launch) : Ct l yX5_depth cX5_depth 1 (some .int) 1 21 m_X5_depth := Ct_of (y := yX5_depth) (by decide +kernel) S_X5_depth
set_option maxRecDepth 100000 in
set_option maxHeartbeats 4000000 in
theorem S_X5_build {l : Launch} : Sim l (fun _ => True) RX5 "build" cX5_build 1 (some .int) 18 458 [] b_X5_build 0 13 := by
  unfold b_X5_build
  refine Sim.sq (p1 := 1) (s_aload_n rfl dX5_build_0) ?_
  refine Sim.sq (p1 := 4) (s_callV (C_X5_startChange l) (rfl : vwCl[5]? = some (RX5, TX5, 11)) (by decide) kw314 kw316 kw1 kw52 kw317 ⟨rfl, by decide +kernel, by decide +kernel, by decide +kernel⟩ ⟨by decide, by decide⟩ shN5 dX5_build_1) ?_
  refine Sim.sq (p1 := 5) (s_aload_n rfl dX5_build_4) ?_
  refine Sim.sq (p1 := 8) (s_callV (C_X5_rebuildText l) (rfl : vwCl[5]? = some (RX5, TX5, 11)) (by decide) kw454 kw456 kw10 kw52 kw457 ⟨rfl, by decide +kernel, by decide +kernel, by decide +kernel⟩ ⟨by decide, by decide⟩ shN5 dX5_build_5) ?_
  refine Sim.sq (p1 := 9) (s_aload_n rfl dX5_build_8) ?_
  refine Sim.sq (p1 := 12) (s_callV (C_X5_depth l) (rfl : vwCl[5]? = some (RX5, TX5, 11)) (by decide) kw532 kw533 kw534 kw52 kw535 ⟨rfl, by decide +kernel, by decide +kernel, by decide +kernel⟩ ⟨by decide, by decide⟩ shN5 dX5_build_9) ?_
  exact (s_iret rfl dX5_build_12)
set_option maxRecDepth 100000 in
set_option maxHeartbeats 4000000 in
theorem C_X5_build (l : Launch) : Ct l yX5_build cX5_build 1 (some .int) 18 458 m_X5_build := Ct_of (y := yX5_build) (by decide +kernel) S_X5_build
set_option maxRecDepth 100000 in
set_option maxHeartbeats 4000000 in
theorem S_X6_build {l : Launch} : Sim l (fun _ => True) RX6 "build" cX6_build 1 (some .int) 2 48 [] b_X6_build 0 15 := by
  unfold b_X6_build
  refine Sim.sq (p1 := 1) (s_aload_n rfl dX6_build_0) ?_
  refine Sim.sq (p1 := 4) (s_callV (C_X6_record l) (rfl : vwCl[6]? = some (RX6, TX6, 12)) (by decide) kw744 kw746 kw17 kw59 kw747 ⟨rfl, by decide +kernel, by decide +kernel, by decide +kernel⟩ ⟨by decide, by decide⟩ shN6 dX6_build_1) ?_
  refine Sim.sq (p1 := 5) (s_aload_n rfl dX6_build_4) ?_
  refine Sim.sq (p1 := 6) (s_iconst (by decide +kernel) dX6_build_5) ?_
  refine Sim.sq (p1 := 9) (s_callV (C_X6_buildsAnew l) (rfl : vwCl[6]? = some (RX6, TX6, 12)) (by decide) kw792 kw794 kw25 kw59 kw795 ⟨rfl, by decide +kernel, by decide +kernel, by decide +kernel⟩ ⟨by decide, by decide⟩ shN6 dX6_build_6) ?_
  refine Sim.sq (p1 := 10) (s_aload_n rfl dX6_build_9) ?_
  refine Sim.sq (p1 := 11) (s_iconst (by decide +kernel) dX6_build_10) ?_
  refine Sim.sq (p1 := 14) (s_callV (C_X6_depthOf l) (rfl : vwCl[6]? = some (RX6, TX6, 12)) (by decide) kw859 kw861 kw41 kw59 kw862 ⟨rfl, by decide +kernel, by decide +kernel, by decide +kernel⟩ ⟨by decide, by decide⟩ shN6 dX6_build_11) ?_
  exact (s_iret rfl dX6_build_14)
set_option maxRecDepth 100000 in
set_option maxHeartbeats 4000000 in
theorem C_X6_build (l : Launch) : Ct l yX6_build cX6_build 1 (some .int) 2 48 m_X6_build := Ct_of (y := yX6_build) (by decide +kernel) S_X6_build
set_option maxRecDepth 100000 in
set_option maxHeartbeats 4000000 in
theorem S_X5_leaves {l : Launch} : Sim l (fun _ => True) RX5 "leaves" cX5_leaves 1 (some .int) 3 75 [] b_X5_leaves 0 26 := by
  unfold b_X5_leaves
  refine Sim.sq (p1 := 1) (s_aload_n rfl dX5_leaves_0) ?_
  refine Sim.sq (p1 := 4) (s_getr (rfl : vwCl[5]? = some (RX5, TX5, 11)) (by decide) (by decide) inG5 kw232 rfl dX5_leaves_1) ?_
  refine Sim.sq (p1 := 5) (s_aload_n rfl dX5_leaves_4) ?_
  refine Sim.sq (p1 := 8) (s_getr (rfl : vwCl[5]? = some (RX5, TX5, 11)) (by decide) (by decide) inG5 kw231 rfl dX5_leaves_5) ?_
  refine Sim.sq (p1 := 9) (s_aload_n rfl dX5_leaves_8) ?_
  refine Sim.sq (p1 := 12) (s_getr (rfl : vwCl[5]? = some (RX5, TX5, 11)) (by decide) (by decide) inG5 kw234 rfl dX5_leaves_9) ?_
  refine Sim.sq (p1 := 15) (s_getiN (rfl : vwCl[2]? = some (RX2, TX2, 7)) (by decide) (by decide) inG2 kn192 rfl dX5_leaves_12) ?_
  refine Sim.sq (p1 := 18) (s_callV (C_X3_read l) (rfl : vwCl[3]? = some (RX3, TX3, 8)) (by decide) kw458 kw459 kw460 kw55 kw461 ⟨rfl, by decide +kernel, by decide +kernel, by decide +kernel⟩ ⟨by decide, by decide⟩ shN3 dX5_leaves_15) ?_
  refine Sim.sq (p1 := 19) (s_aload_n rfl dX5_leaves_18) ?_
  refine Sim.sq (p1 := 22) (s_getr (rfl : vwCl[5]? = some (RX5, TX5, 11)) (by decide) (by decide) inG5 kw232 rfl dX5_leaves_19) ?_
  refine Sim.sq (p1 := 25) (s_getiN (rfl : vwCl[3]? = some (RX3, TX3, 8)) (by decide) (by decide) inG3 kn156 rfl dX5_leaves_22) ?_
  exact (s_iret rfl dX5_leaves_25)
set_option maxRecDepth 100000 in
set_option maxHeartbeats 4000000 in
theorem C_X5_leaves (l : Launch) : Ct l yX5_leaves cX5_leaves 1 (some .int) 3 75 m_X5_leaves := Ct_of (y := yX5_leaves) (by decide +kernel) S_X5_leaves
set_option maxRecDepth 100000 in
set_option maxHeartbeats 4000000 in
theorem S_X5_pack {l : Launch} : Sim l (fun _ => True) RX5 "pack" cX5_pack 1 (some .int) 18 464 [] b_X5_pack 0 62 := by
  unfold b_X5_pack
  refine Sim.sq (p1 := 1) (s_aload_n rfl dX5_pack_0) ?_
  refine Sim.sq (p1 := 4) (s_callV (C_X5_startChange l) (rfl : vwCl[5]? = some (RX5, TX5, 11)) (by decide) kw314 kw316 kw1 kw52 kw317 ⟨rfl, by decide +kernel, by decide +kernel, by decide +kernel⟩ ⟨by decide, by decide⟩ shN5 dX5_pack_1) ?_
  refine Sim.sq (p1 := 5) (s_aload_n rfl dX5_pack_4) ?_
  refine Sim.sq (p1 := 8) (s_getr (rfl : vwCl[5]? = some (RX5, TX5, 11)) (by decide) (by decide) inG5 kw232 rfl dX5_pack_5) ?_
  refine Sim.sq (p1 := 9) (s_aload_n rfl dX5_pack_8) ?_
  refine Sim.sq (p1 := 12) (s_getr (rfl : vwCl[5]? = some (RX5, TX5, 11)) (by decide) (by decide) inG5 kw231 rfl dX5_pack_9) ?_
  refine Sim.sq (p1 := 13) (s_aload_n rfl dX5_pack_12) ?_
  refine Sim.sq (p1 := 16) (s_getr (rfl : vwCl[5]? = some (RX5, TX5, 11)) (by decide) (by decide) inG5 kw234 rfl dX5_pack_13) ?_
  refine Sim.sq (p1 := 19) (s_getiN (rfl : vwCl[2]? = some (RX2, TX2, 7)) (by decide) (by decide) inG2 kn192 rfl dX5_pack_16) ?_
  refine Sim.sq (p1 := 22) (s_callV (C_X3_read l) (rfl : vwCl[3]? = some (RX3, TX3, 8)) (by decide) kw458 kw459 kw460 kw55 kw461 ⟨rfl, by decide +kernel, by decide +kernel, by decide +kernel⟩ ⟨by decide, by decide⟩ shN3 dX5_pack_19) ?_
  refine Sim.sq (p1 := 23) (s_aload_n rfl dX5_pack_22) ?_
  refine Sim.sq (p1 := 26) (s_getr (rfl : vwCl[5]? = some (RX5, TX5, 11)) (by decide) (by decide) inG5 kw234 rfl dX5_pack_23) ?_
  refine Sim.sq (p1 := 27) (s_aload_n rfl dX5_pack_26) ?_
  refine Sim.sq (p1 := 30) (s_getr (rfl : vwCl[5]? = some (RX5, TX5, 11)) (by decide) (by decide) inG5 kw230 rfl dX5_pack_27) ?_
  refine Sim.sq (p1 := 31) (s_aload_n rfl dX5_pack_30) ?_
  refine Sim.sq (p1 := 34) (s_getr (rfl : vwCl[5]? = some (RX5, TX5, 11)) (by decide) (by decide) inG5 kw232 rfl dX5_pack_31) ?_
  refine Sim.sq (p1 := 37) (s_getrN (rfl : vwCl[3]? = some (RX3, TX3, 8)) (by decide) (by decide) inG3 kn146 rfl dX5_pack_34) ?_
  refine Sim.sq (p1 := 38) (s_aload_n rfl dX5_pack_37) ?_
  refine Sim.sq (p1 := 41) (s_getr (rfl : vwCl[5]? = some (RX5, TX5, 11)) (by decide) (by decide) inG5 kw232 rfl dX5_pack_38) ?_
  refine Sim.sq (p1 := 44) (s_getiN (rfl : vwCl[3]? = some (RX3, TX3, 8)) (by decide) (by decide) inG3 kn154 rfl dX5_pack_41) ?_
  refine Sim.sq (p1 := 45) (s_aload_n rfl dX5_pack_44) ?_
  refine Sim.sq (p1 := 48) (s_getr (rfl : vwCl[5]? = some (RX5, TX5, 11)) (by decide) (by decide) inG5 kw234 rfl dX5_pack_45) ?_
  refine Sim.sq (p1 := 51) (s_getiN (rfl : vwCl[2]? = some (RX2, TX2, 7)) (by decide) (by decide) inG2 kn188 rfl dX5_pack_48) ?_
  refine Sim.sq (p1 := 54) (s_callV (C_X4_ropeOfCodes l) (rfl : vwCl[4]? = some (RX4, TX4, 6)) (by decide) kw348 kw349 kw350 kw53 kw351 ⟨rfl, by decide +kernel, by decide +kernel, by decide +kernel⟩ ⟨by decide, by decide⟩ shN4 dX5_pack_51) ?_
  refine Sim.sq (p1 := 57) (s_putiN (rfl : vwCl[2]? = some (RX2, TX2, 7)) (by decide) (by decide) inG2 kn192 rfl tyX2 tyX2_ok nmX2 rfl (by decide +kernel) dX5_pack_54) ?_
  refine Sim.sq (p1 := 58) (s_aload_n rfl dX5_pack_57) ?_
  refine Sim.sq (p1 := 61) (s_callV (C_X5_leaves l) (rfl : vwCl[5]? = some (RX5, TX5, 11)) (by decide) kw541 kw542 kw543 kw52 kw544 ⟨rfl, by decide +kernel, by decide +kernel, by decide +kernel⟩ ⟨by decide, by decide⟩ shN5 dX5_pack_58) ?_
  exact (s_iret rfl dX5_pack_61)
set_option maxRecDepth 100000 in
set_option maxHeartbeats 4000000 in
theorem C_X5_pack (l : Launch) : Ct l yX5_pack cX5_pack 1 (some .int) 18 464 m_X5_pack := Ct_of (y := yX5_pack) (by decide +kernel) S_X5_pack
set_option maxRecDepth 100000 in
set_option maxHeartbeats 4000000 in
theorem S_X6_pack {l : Launch} : Sim l (fun _ => True) RX6 "pack" cX6_pack 1 (some .int) 3 71 [] b_X6_pack 0 15 := by
  unfold b_X6_pack
  refine Sim.sq (p1 := 1) (s_aload_n rfl dX6_pack_0) ?_
  refine Sim.sq (p1 := 4) (s_callV (C_X6_record l) (rfl : vwCl[6]? = some (RX6, TX6, 12)) (by decide) kw744 kw746 kw17 kw59 kw747 ⟨rfl, by decide +kernel, by decide +kernel, by decide +kernel⟩ ⟨by decide, by decide⟩ shN6 dX6_pack_1) ?_
  refine Sim.sq (p1 := 5) (s_aload_n rfl dX6_pack_4) ?_
  refine Sim.sq (p1 := 6) (s_iconst (by decide +kernel) dX6_pack_5) ?_
  refine Sim.sq (p1 := 9) (s_callV (C_X6_packs l) (rfl : vwCl[6]? = some (RX6, TX6, 12)) (by decide) kw780 kw782 kw22 kw59 kw783 ⟨rfl, by decide +kernel, by decide +kernel, by decide +kernel⟩ ⟨by decide, by decide⟩ shN6 dX6_pack_6) ?_
  refine Sim.sq (p1 := 10) (s_aload_n rfl dX6_pack_9) ?_
  refine Sim.sq (p1 := 11) (s_iconst (by decide +kernel) dX6_pack_10) ?_
  refine Sim.sq (p1 := 14) (s_callV (C_X6_many l) (rfl : vwCl[6]? = some (RX6, TX6, 12)) (by decide) kw788 kw790 kw24 kw59 kw791 ⟨rfl, by decide +kernel, by decide +kernel, by decide +kernel⟩ ⟨by decide, by decide⟩ shN6 dX6_pack_11) ?_
  exact (s_iret rfl dX6_pack_14)
set_option maxRecDepth 100000 in
set_option maxHeartbeats 4000000 in
theorem C_X6_pack (l : Launch) : Ct l yX6_pack cX6_pack 1 (some .int) 3 71 m_X6_pack := Ct_of (y := yX6_pack) (by decide +kernel) S_X6_pack
