set_option maxRecDepth 100000 in
set_option maxHeartbeats 40000000 in
theorem S_L_law {l : Launch} {b Ln : Nat} {xs : Nat → Int32} {nm : String} : Sim l (Esc b Ln xs) RL nm cL_law 21 ret 2048 84000 [] (b_L_law b Ln xs) 0 1273 := by
  unfold b_L_law b_L_law_t7 b_L_law_t6 b_L_law_l4 b_L_law_k13 b_L_law_t5 b_L_law_k12 b_L_law_k11 b_L_law_t4 b_L_law_k10 b_L_law_k9 b_L_law_k8 b_L_law_t3 b_L_law_l3 b_L_law_k7 b_L_law_k6 b_L_law_k5 b_L_law_k4 b_L_law_t2 b_L_law_k3 b_L_law_t1 b_L_law_l2 b_L_law_k2 b_L_law_t0 b_L_law_l1 b_L_law_k1 b_L_law_k0 b_L_law_l0
  refine Sim.sq (p1 := 3) (s_new (rfl : vwCl[5]? = some (RX5, TX5, 11)) (by decide) inG5 tyX5 tyX5_ok (by decide +kernel) kw24 kw25 kw15 dL_law_0) ?_
  refine Sim.sq (p1 := 4) (s_dup dL_law_3) ?_
  refine Sim.sq (p1 := 7) (s_callI (y := yX5_init) (C_X5_init l) kw26 kw27 kw15 kw28 rfl ⟨by decide +kernel, by decide +kernel, by decide +kernel⟩ ⟨by decide, by decide⟩ dL_law_4) ?_
  refine Sim.sq (p1 := 8) (s_astore_n rfl (by decide) dL_law_7) ?_
  refine Sim.sq (p1 := 10) (s_bipush (by decide +kernel) dL_law_8) ?_
  refine Sim.sq (p1 := 12) (s_newi kw76 dL_law_10) ?_
  refine Sim.sq (p1 := 13) (s_astore_n rfl (by decide) dL_law_12) ?_
  refine Sim.sq (p1 := 15) (s_bipush (by decide +kernel) dL_law_13) ?_
  refine Sim.sq (p1 := 17) (s_newi kw76 dL_law_15) ?_
  refine Sim.sq (p1 := 18) (s_astore_n rfl (by decide) dL_law_17) ?_
  refine Sim.sq (p1 := 20) (s_bipush (by decide +kernel) dL_law_18) ?_
  refine Sim.sq (p1 := 22) (s_newi kw76 dL_law_20) ?_
  refine Sim.sq (p1 := 24) (s_astore (by decide) dL_law_22) ?_
  refine Sim.sq (p1 := 26) (s_bipush (by decide +kernel) dL_law_24) ?_
  refine Sim.sq (p1 := 28) (s_newi kw76 dL_law_26) ?_
  refine Sim.sq (p1 := 30) (s_astore (by decide) dL_law_28) ?_
  refine Sim.sq (p1 := 32) (s_bipush (by decide +kernel) dL_law_30) ?_
  refine Sim.sq (p1 := 34) (s_newi kw76 dL_law_32) ?_
  refine Sim.sq (p1 := 36) (s_astore (by decide) dL_law_34) ?_
  refine Sim.sq (p1 := 37) (s_aload_n rfl dL_law_36) ?_
  refine Sim.sq (p1 := 38) (s_iconst (by decide +kernel) dL_law_37) ?_
  refine Sim.sq (p1 := 40) (s_bipush (by decide +kernel) dL_law_38) ?_
  refine Sim.sq (p1 := 41) (s_iast dL_law_40) ?_
  refine Sim.sq (p1 := 42) (s_aload_n rfl dL_law_41) ?_
  refine Sim.sq (p1 := 43) (s_iconst (by decide +kernel) dL_law_42) ?_
  refine Sim.sq (p1 := 44) (s_iconst (by decide +kernel) dL_law_43) ?_
  refine Sim.sq (p1 := 45) (s_iast dL_law_44) ?_
  refine Sim.sq (p1 := 46) (s_iconst (by decide +kernel) dL_law_45) ?_
  refine Sim.sq (p1 := 48) (s_istore (by decide) dL_law_46) ?_
  refine Sim.sq (p1 := 66) (Sim.lp ?_) ?_
  · refine Sim.sq (p1 := 50) (s_iload dL_law_48) ?_
    refine Sim.sq (p1 := 52) (s_bipush (by decide +kernel) dL_law_50) ?_
    refine Sim.bk ?_
    refine Sim.sq (p1 := 55) (s_icmp_ge dL_law_52 (by decide) rfl) ?_
    refine Sim.sq (p1 := 56) (s_aload_n rfl dL_law_55) ?_
    refine Sim.sq (p1 := 58) (s_iload dL_law_56) ?_
    refine Sim.sq (p1 := 59) (s_iconst (by decide +kernel) dL_law_58) ?_
    refine Sim.sq (p1 := 60) (s_iast dL_law_59) ?_
    refine Sim.sq (p1 := 63) (s_iinc (by decide +kernel) (by decide) dL_law_60) ?_
    exact (s_goto dL_law_63 (by decide) rfl)
  refine Sim.sq (p1 := 67) (s_iconst (by decide +kernel) dL_law_66) ?_
  refine Sim.sq (p1 := 69) (s_istore (by decide) dL_law_67) ?_
  refine Sim.sq (p1 := 1271) (Sim.lp ?_) ?_
  · refine Sim.sq (p1 := 71) (s_iload dL_law_69) ?_
    refine Sim.sq (p1 := 73) (s_bipush (by decide +kernel) dL_law_71) ?_
    refine Sim.bk ?_
    refine Sim.sq (p1 := 76) (s_icmp_ge dL_law_73 (by decide) rfl) ?_
    refine Sim.sq (p1 := 77) (s_aloadS rfl dL_law_76) ?_
    refine Sim.sq (p1 := 78) (s_iconst (by decide +kernel) dL_law_77) ?_
    refine Sim.sq (p1 := 80) (s_iload dL_law_78) ?_
    refine Sim.sq (p1 := 81) (s_imul dL_law_80) ?_
    refine Sim.sq (p1 := 84) (s_callSE (y := yL_cell) (C_L_cell l b Ln xs) kw499 kw500 kw14 kw501 ⟨by decide +kernel, by decide +kernel, by decide +kernel⟩ ⟨by decide, by decide⟩ dL_law_81) ?_
    refine Sim.sq (p1 := 86) (s_istore (by decide) dL_law_84) ?_
    refine Sim.sq (p1 := 87) (s_aloadS rfl dL_law_86) ?_
    refine Sim.sq (p1 := 88) (s_iconst (by decide +kernel) dL_law_87) ?_
    refine Sim.sq (p1 := 90) (s_iload dL_law_88) ?_
    refine Sim.sq (p1 := 91) (s_imul dL_law_90) ?_
    refine Sim.sq (p1 := 92) (s_iconst (by decide +kernel) dL_law_91) ?_
    refine Sim.sq (p1 := 93) (s_iadd dL_law_92) ?_
    refine Sim.sq (p1 := 96) (s_callSE (y := yL_cell) (C_L_cell l b Ln xs) kw499 kw500 kw14 kw501 ⟨by decide +kernel, by decide +kernel, by decide +kernel⟩ ⟨by decide, by decide⟩ dL_law_93) ?_
    refine Sim.sq (p1 := 98) (s_istore (by decide) dL_law_96) ?_
    refine Sim.sq (p1 := 100) (s_iload dL_law_98) ?_
    refine Sim.sq (p1 := 124) (Sim.bk ?_) ?_
    · refine Sim.sq (p1 := 107) (Sim.bk ?_) ?_
      · refine Sim.sq (p1 := 103) (s_if_ne dL_law_100 (by decide) rfl) ?_
        refine Sim.sq (p1 := 104) (s_iconst (by decide +kernel) dL_law_103) ?_
        exact (s_goto dL_law_104 (by decide) rfl)
      refine Sim.sq (p1 := 109) (s_iload dL_law_107) ?_
      refine Sim.sq (p1 := 110) (s_iconst (by decide +kernel) dL_law_109) ?_
      refine Sim.sq (p1 := 117) (Sim.bk ?_) ?_
      · refine Sim.sq (p1 := 113) (s_icmp_ne dL_law_110 (by decide) rfl) ?_
        refine Sim.sq (p1 := 114) (s_iconst (by decide +kernel) dL_law_113) ?_
        exact (s_goto dL_law_114 (by decide) rfl)
      refine Sim.sq (p1 := 119) (s_iload dL_law_117) ?_
      refine Sim.sq (p1 := 121) (s_bipush (by decide +kernel) dL_law_119) ?_
      exact (s_callS (y := yL_low) (C_L_low l) kw504 kw505 kw14 kw506 ⟨by decide +kernel, by decide +kernel, by decide +kernel⟩ ⟨by decide, by decide⟩ dL_law_121)
    refine Sim.sq (p1 := 126) (s_istore (by decide) dL_law_124) ?_
    refine Sim.sq (p1 := 127) (s_aload_n rfl dL_law_126) ?_
    refine Sim.sq (p1 := 129) (s_bipush (by decide +kernel) dL_law_127) ?_
    refine Sim.sq (p1 := 130) (s_iald dL_law_129) ?_
    refine Sim.sq (p1 := 132) (s_istore (by decide) dL_law_130) ?_
    refine Sim.sq (p1 := 134) (s_iload dL_law_132) ?_
    refine Sim.sq (p1 := 136) (s_iload dL_law_134) ?_
    refine Sim.sq (p1 := 137) (s_iconst (by decide +kernel) dL_law_136) ?_
    refine Sim.sq (p1 := 138) (s_iadd dL_law_137) ?_
    refine Sim.sq (p1 := 141) (s_callS (y := yL_low) (C_L_low l) kw504 kw505 kw14 kw506 ⟨by decide +kernel, by decide +kernel, by decide +kernel⟩ ⟨by decide, by decide⟩ dL_law_138) ?_
    refine Sim.sq (p1 := 143) (s_istore (by decide) dL_law_141) ?_
    refine Sim.sq (p1 := 145) (s_iload dL_law_143) ?_
    refine Sim.sq (p1 := 146) (s_iconst (by decide +kernel) dL_law_145) ?_
    refine Sim.sq (p1 := 147) (s_ishr dL_law_146) ?_
    refine Sim.sq (p1 := 149) (s_iload dL_law_147) ?_
    refine Sim.sq (p1 := 150) (s_iconst (by decide +kernel) dL_law_149) ?_
    refine Sim.sq (p1 := 151) (s_iadd dL_law_150) ?_
    refine Sim.sq (p1 := 154) (s_callS (y := yL_low) (C_L_low l) kw504 kw505 kw14 kw506 ⟨by decide +kernel, by decide +kernel, by decide +kernel⟩ ⟨by decide, by decide⟩ dL_law_151) ?_
    refine Sim.sq (p1 := 156) (s_istore (by decide) dL_law_154) ?_
    refine Sim.sq (p1 := 158) (s_iload dL_law_156) ?_
    refine Sim.sq (p1 := 160) (s_iload dL_law_158) ?_
    refine Sim.sq (p1 := 170) (Sim.bk ?_) ?_
    · refine Sim.sq (p1 := 168) (Sim.bk ?_) ?_
      · refine Sim.sq (p1 := 163) (s_icmp_ge dL_law_160 (by decide) rfl) ?_
        refine Sim.sq (p1 := 165) (s_iload dL_law_163) ?_
        exact (s_goto dL_law_165 (by decide) rfl)
      exact (s_iload dL_law_168)
    refine Sim.sq (p1 := 172) (s_istore (by decide) dL_law_170) ?_
    refine Sim.sq (p1 := 174) (s_iload dL_law_172) ?_
    refine Sim.sq (p1 := 176) (s_iload dL_law_174) ?_
    refine Sim.sq (p1 := 186) (Sim.bk ?_) ?_
    · refine Sim.sq (p1 := 184) (Sim.bk ?_) ?_
      · refine Sim.sq (p1 := 179) (s_icmp_ge dL_law_176 (by decide) rfl) ?_
        refine Sim.sq (p1 := 181) (s_iload dL_law_179) ?_
        exact (s_goto dL_law_181 (by decide) rfl)
      exact (s_iload dL_law_184)
    refine Sim.sq (p1 := 188) (s_istore (by decide) dL_law_186) ?_
    refine Sim.sq (p1 := 190) (s_iload dL_law_188) ?_
    refine Sim.sq (p1 := 1265) (Sim.bk ?_) ?_
    · refine Sim.sq (p1 := 1244) (Sim.bk ?_) ?_
      · refine Sim.sq (p1 := 242) (Sim.bk ?_) ?_
        · refine Sim.sq (p1 := 193) (s_if_ne dL_law_190 (by decide) rfl) ?_
          refine Sim.sq (p1 := 194) (s_iconst (by decide +kernel) dL_law_193) ?_
          refine Sim.sq (p1 := 196) (s_iload dL_law_194) ?_
          refine Sim.sq (p1 := 198) (s_iload dL_law_196) ?_
          refine Sim.sq (p1 := 200) (s_bipush (by decide +kernel) dL_law_198) ?_
          refine Sim.sq (p1 := 201) (s_ishr dL_law_200) ?_
          refine Sim.sq (p1 := 202) (s_iconst (by decide +kernel) dL_law_201) ?_
          refine Sim.sq (p1 := 205) (s_callS (y := yL_low) (C_L_low l) kw504 kw505 kw14 kw506 ⟨by decide +kernel, by decide +kernel, by decide +kernel⟩ ⟨by decide, by decide⟩ dL_law_202) ?_
          refine Sim.sq (p1 := 214) (Sim.bk ?_) ?_
          · refine Sim.sq (p1 := 213) (Sim.bk ?_) ?_
            · refine Sim.sq (p1 := 208) (s_if_ne dL_law_205 (by decide) rfl) ?_
              refine Sim.sq (p1 := 210) (s_bipush (by decide +kernel) dL_law_208) ?_
              exact (s_goto dL_law_210 (by decide) rfl)
            exact (s_iconst (by decide +kernel) dL_law_213)
          refine Sim.sq (p1 := 217) (s_callS (y := yL_low) (C_L_low l) kw504 kw505 kw14 kw506 ⟨by decide +kernel, by decide +kernel, by decide +kernel⟩ ⟨by decide, by decide⟩ dL_law_214) ?_
          refine Sim.sq (p1 := 218) (s_iadd dL_law_217) ?_
          refine Sim.sq (p1 := 220) (s_istore (by decide) dL_law_218) ?_
          refine Sim.sq (p1 := 221) (s_aload_n rfl dL_law_220) ?_
          refine Sim.sq (p1 := 223) (s_iload dL_law_221) ?_
          refine Sim.sq (p1 := 226) (s_callV (C_X5_setLeafSize l) (rfl : vwCl[5]? = some (RX5, TX5, 11)) (by decide) kw226 kw227 kw228 kw15 kw229 ⟨rfl, by decide +kernel, by decide +kernel, by decide +kernel⟩ ⟨by decide, by decide⟩ shN5 dL_law_223) ?_
          refine Sim.sq (p1 := 227) (s_aload_n rfl dL_law_226) ?_
          refine Sim.sq (p1 := 228) (s_iconst (by decide +kernel) dL_law_227) ?_
          refine Sim.sq (p1 := 229) (s_iald dL_law_228) ?_
          refine Sim.sq (p1 := 234) (Sim.bk ?_) ?_
          · refine Sim.sq (p1 := 232) (s_icmp_eq dL_law_229 (by decide) rfl) ?_
            refine Sim.sq (p1 := 233) (s_iconst (by decide +kernel) dL_law_232) ?_
            exact (s_zret rfl dL_law_233)
          refine Sim.sq (p1 := 235) (s_aload_n rfl dL_law_234) ?_
          refine Sim.sq (p1 := 236) (s_iconst (by decide +kernel) dL_law_235) ?_
          refine Sim.sq (p1 := 238) (s_iload dL_law_236) ?_
          refine Sim.sq (p1 := 239) (s_iast dL_law_238) ?_
          exact (s_goto dL_law_239 (by decide) rfl)
        refine Sim.sq (p1 := 244) (s_iload dL_law_242) ?_
        refine Sim.sq (p1 := 245) (s_iconst (by decide +kernel) dL_law_244) ?_
        refine Sim.sq (p1 := 444) (Sim.bk ?_) ?_
        · refine Sim.sq (p1 := 248) (s_icmp_ge dL_law_245 (by decide) rfl) ?_
          refine Sim.sq (p1 := 249) (s_iconst (by decide +kernel) dL_law_248) ?_
          refine Sim.sq (p1 := 251) (s_iload dL_law_249) ?_
          refine Sim.sq (p1 := 252) (s_iconst (by decide +kernel) dL_law_251) ?_
          refine Sim.sq (p1 := 253) (s_ishr dL_law_252) ?_
          refine Sim.sq (p1 := 255) (s_bipush (by decide +kernel) dL_law_253) ?_
          refine Sim.sq (p1 := 258) (s_callS (y := yL_low) (C_L_low l) kw504 kw505 kw14 kw506 ⟨by decide +kernel, by decide +kernel, by decide +kernel⟩ ⟨by decide, by decide⟩ dL_law_255) ?_
          refine Sim.sq (p1 := 259) (s_iadd dL_law_258) ?_
          refine Sim.sq (p1 := 261) (s_istore (by decide) dL_law_259) ?_
          refine Sim.sq (p1 := 263) (s_iload dL_law_261) ?_
          refine Sim.sq (p1 := 265) (s_iload dL_law_263) ?_
          refine Sim.sq (p1 := 266) (s_iadd dL_law_265) ?_
          refine Sim.sq (p1 := 268) (s_bipush (by decide +kernel) dL_law_266) ?_
          refine Sim.sq (p1 := 274) (Sim.bk ?_) ?_
          · refine Sim.sq (p1 := 271) (s_icmp_le dL_law_268 (by decide) rfl) ?_
            exact (s_goto dL_law_271 (by decide) rfl)
          refine Sim.sq (p1 := 276) (s_bipush (by decide +kernel) dL_law_274) ?_
          refine Sim.sq (p1 := 278) (s_newi kw76 dL_law_276) ?_
          refine Sim.sq (p1 := 280) (s_astore (by decide) dL_law_278) ?_
          refine Sim.sq (p1 := 281) (s_iconst (by decide +kernel) dL_law_280) ?_
          refine Sim.sq (p1 := 283) (s_istore (by decide) dL_law_281) ?_
          refine Sim.sq (p1 := 348) (Sim.lp ?_) ?_
          · refine Sim.sq (p1 := 285) (s_iload dL_law_283) ?_
            refine Sim.sq (p1 := 287) (s_iload dL_law_285) ?_
            refine Sim.bk ?_
            refine Sim.sq (p1 := 290) (s_icmp_ge dL_law_287 (by decide) rfl) ?_
            refine Sim.sq (p1 := 292) (s_aload dL_law_290) ?_
            refine Sim.sq (p1 := 294) (s_iload dL_law_292) ?_
            refine Sim.sq (p1 := 296) (s_iload dL_law_294) ?_
            refine Sim.sq (p1 := 298) (s_iload dL_law_296) ?_
            refine Sim.sq (p1 := 299) (s_ishr dL_law_298) ?_
            refine Sim.sq (p1 := 300) (s_iconst (by decide +kernel) dL_law_299) ?_
            refine Sim.sq (p1 := 303) (s_callS (y := yL_low) (C_L_low l) kw504 kw505 kw14 kw506 ⟨by decide +kernel, by decide +kernel, by decide +kernel⟩ ⟨by decide, by decide⟩ dL_law_300) ?_
            refine Sim.sq (p1 := 323) (Sim.bk ?_) ?_
            · refine Sim.sq (p1 := 311) (Sim.bk ?_) ?_
              · refine Sim.sq (p1 := 306) (s_if_ne dL_law_303 (by decide) rfl) ?_
                refine Sim.sq (p1 := 308) (s_bipush (by decide +kernel) dL_law_306) ?_
                exact (s_goto dL_law_308 (by decide) rfl)
              refine Sim.sq (p1 := 313) (s_bipush (by decide +kernel) dL_law_311) ?_
              refine Sim.sq (p1 := 315) (s_iload dL_law_313) ?_
              refine Sim.sq (p1 := 317) (s_iload dL_law_315) ?_
              refine Sim.sq (p1 := 318) (s_ishr dL_law_317) ?_
              refine Sim.sq (p1 := 319) (s_iconst (by decide +kernel) dL_law_318) ?_
              refine Sim.sq (p1 := 322) (s_callS (y := yL_low) (C_L_low l) kw504 kw505 kw14 kw506 ⟨by decide +kernel, by decide +kernel, by decide +kernel⟩ ⟨by decide, by decide⟩ dL_law_319) ?_
              exact (s_iadd dL_law_322)
            refine Sim.sq (p1 := 324) (s_iast dL_law_323) ?_
            refine Sim.sq (p1 := 325) (s_aload_n rfl dL_law_324) ?_
            refine Sim.sq (p1 := 327) (s_aload dL_law_325) ?_
            refine Sim.sq (p1 := 329) (s_iload dL_law_327) ?_
            refine Sim.sq (p1 := 330) (s_iald dL_law_329) ?_
            refine Sim.sq (p1 := 333) (s_callV (C_X5_type l) (rfl : vwCl[5]? = some (RX5, TX5, 11)) (by decide) kw252 kw253 kw254 kw15 kw255 ⟨rfl, by decide +kernel, by decide +kernel, by decide +kernel⟩ ⟨by decide, by decide⟩ shN5 dL_law_330) ?_
            refine Sim.sq (p1 := 335) (s_iload dL_law_333) ?_
            refine Sim.sq (p1 := 336) (s_iconst (by decide +kernel) dL_law_335) ?_
            refine Sim.sq (p1 := 337) (s_iadd dL_law_336) ?_
            refine Sim.sq (p1 := 342) (Sim.bk ?_) ?_
            · refine Sim.sq (p1 := 340) (s_icmp_eq dL_law_337 (by decide) rfl) ?_
              refine Sim.sq (p1 := 341) (s_iconst (by decide +kernel) dL_law_340) ?_
              exact (s_zret rfl dL_law_341)
            refine Sim.sq (p1 := 345) (s_iinc (by decide +kernel) (by decide) dL_law_342) ?_
            exact (s_goto dL_law_345 (by decide) rfl)
          refine Sim.sq (p1 := 349) (s_aload_n rfl dL_law_348) ?_
          refine Sim.sq (p1 := 351) (s_iload dL_law_349) ?_
          refine Sim.sq (p1 := 352) (s_iconst (by decide +kernel) dL_law_351) ?_
          refine Sim.sq (p1 := 353) (s_aload_n rfl dL_law_352) ?_
          refine Sim.sq (p1 := 354) (s_iconst (by decide +kernel) dL_law_353) ?_
          refine Sim.sq (p1 := 355) (s_iald dL_law_354) ?_
          refine Sim.sq (p1 := 358) (s_callS (y := yL_split) (C_L_split l) kw520 kw521 kw14 kw522 ⟨by decide +kernel, by decide +kernel, by decide +kernel⟩ ⟨by decide, by decide⟩ dL_law_355) ?_
          refine Sim.sq (p1 := 360) (s_astore (by decide) dL_law_358) ?_
          refine Sim.sq (p1 := 361) (s_aload_n rfl dL_law_360) ?_
          refine Sim.sq (p1 := 363) (s_iload dL_law_361) ?_
          refine Sim.sq (p1 := 364) (s_iconst (by decide +kernel) dL_law_363) ?_
          refine Sim.sq (p1 := 365) (s_aload_n rfl dL_law_364) ?_
          refine Sim.sq (p1 := 366) (s_iconst (by decide +kernel) dL_law_365) ?_
          refine Sim.sq (p1 := 367) (s_iald dL_law_366) ?_
          refine Sim.sq (p1 := 370) (s_callS (y := yL_split) (C_L_split l) kw520 kw521 kw14 kw522 ⟨by decide +kernel, by decide +kernel, by decide +kernel⟩ ⟨by decide, by decide⟩ dL_law_367) ?_
          refine Sim.sq (p1 := 372) (s_astore (by decide) dL_law_370) ?_
          refine Sim.sq (p1 := 374) (s_aload dL_law_372) ?_
          refine Sim.sq (p1 := 376) (s_iload dL_law_374) ?_
          refine Sim.sq (p1 := 377) (s_aload_n rfl dL_law_376) ?_
          refine Sim.sq (p1 := 378) (s_iconst (by decide +kernel) dL_law_377) ?_
          refine Sim.sq (p1 := 379) (s_iald dL_law_378) ?_
          refine Sim.sq (p1 := 382) (s_callS (y := yL_packed) (C_L_packed l) kw535 kw536 kw14 kw537 ⟨by decide +kernel, by decide +kernel, by decide +kernel⟩ ⟨by decide, by decide⟩ dL_law_379) ?_
          refine Sim.sq (p1 := 383) (s_aload_n rfl dL_law_382) ?_
          refine Sim.sq (p1 := 384) (s_iconst (by decide +kernel) dL_law_383) ?_
          refine Sim.sq (p1 := 385) (s_iald dL_law_384) ?_
          refine Sim.sq (p1 := 388) (s_callS (y := yL_join) (C_L_join l) kw508 kw509 kw14 kw510 ⟨by decide +kernel, by decide +kernel, by decide +kernel⟩ ⟨by decide, by decide⟩ dL_law_385) ?_
          refine Sim.sq (p1 := 390) (s_aload dL_law_388) ?_
          refine Sim.sq (p1 := 391) (s_aload_n rfl dL_law_390) ?_
          refine Sim.sq (p1 := 392) (s_iconst (by decide +kernel) dL_law_391) ?_
          refine Sim.sq (p1 := 393) (s_iald dL_law_392) ?_
          refine Sim.sq (p1 := 396) (s_callS (y := yL_join) (C_L_join l) kw508 kw509 kw14 kw510 ⟨by decide +kernel, by decide +kernel, by decide +kernel⟩ ⟨by decide, by decide⟩ dL_law_393) ?_
          refine Sim.sq (p1 := 397) (s_astore_n rfl (by decide) dL_law_396) ?_
          refine Sim.sq (p1 := 399) (s_iload dL_law_397) ?_
          refine Sim.sq (p1 := 400) (s_iconst (by decide +kernel) dL_law_399) ?_
          refine Sim.sq (p1 := 402) (s_aload dL_law_400) ?_
          refine Sim.sq (p1 := 404) (s_iload dL_law_402) ?_
          refine Sim.sq (p1 := 406) (s_aload dL_law_404) ?_
          refine Sim.sq (p1 := 407) (s_aload_n rfl dL_law_406) ?_
          refine Sim.sq (p1 := 410) (s_callS (y := yL_replace) (C_L_replace l) kw541 kw542 kw14 kw543 ⟨by decide +kernel, by decide +kernel, by decide +kernel⟩ ⟨by decide, by decide⟩ dL_law_407) ?_
          refine Sim.sq (p1 := 412) (s_iload dL_law_410) ?_
          refine Sim.sq (p1 := 413) (s_iconst (by decide +kernel) dL_law_412) ?_
          refine Sim.sq (p1 := 415) (s_iload dL_law_413) ?_
          refine Sim.sq (p1 := 416) (s_aload_n rfl dL_law_415) ?_
          refine Sim.sq (p1 := 419) (s_callS (y := yL_marks) (C_L_marks l) kw538 kw539 kw14 kw540 ⟨by decide +kernel, by decide +kernel, by decide +kernel⟩ ⟨by decide, by decide⟩ dL_law_416) ?_
          refine Sim.sq (p1 := 420) (s_aload_n rfl dL_law_419) ?_
          refine Sim.sq (p1 := 421) (s_aload_n rfl dL_law_420) ?_
          refine Sim.sq (p1 := 424) (s_callS (y := yL_balance) (C_L_balance l) kw544 kw545 kw14 kw546 ⟨by decide +kernel, by decide +kernel, by decide +kernel⟩ ⟨by decide, by decide⟩ dL_law_421) ?_
          refine Sim.sq (p1 := 425) (s_astore_n rfl (by decide) dL_law_424) ?_
          refine Sim.sq (p1 := 426) (s_aload_n rfl dL_law_425) ?_
          refine Sim.sq (p1 := 428) (s_iload dL_law_426) ?_
          refine Sim.sq (p1 := 431) (s_callV (C_X5_insert l) (rfl : vwCl[5]? = some (RX5, TX5, 11)) (by decide) kw256 kw257 kw258 kw15 kw259 ⟨rfl, by decide +kernel, by decide +kernel, by decide +kernel⟩ ⟨by decide, by decide⟩ shN5 dL_law_428) ?_
          refine Sim.sq (p1 := 433) (s_iload dL_law_431) ?_
          refine Sim.sq (p1 := 435) (s_iload dL_law_433) ?_
          refine Sim.sq (p1 := 436) (s_iadd dL_law_435) ?_
          refine Sim.sq (p1 := 441) (Sim.bk ?_) ?_
          · refine Sim.sq (p1 := 439) (s_icmp_eq dL_law_436 (by decide) rfl) ?_
            refine Sim.sq (p1 := 440) (s_iconst (by decide +kernel) dL_law_439) ?_
            exact (s_zret rfl dL_law_440)
          exact (s_goto dL_law_441 (by decide) rfl)
        refine Sim.sq (p1 := 446) (s_iload dL_law_444) ?_
        refine Sim.sq (p1 := 448) (s_bipush (by decide +kernel) dL_law_446) ?_
        refine Sim.sq (p1 := 690) (Sim.bk ?_) ?_
        · refine Sim.sq (p1 := 451) (s_icmp_ge dL_law_448 (by decide) rfl) ?_
          refine Sim.sq (p1 := 453) (s_iload dL_law_451) ?_
          refine Sim.sq (p1 := 455) (s_iload dL_law_453) ?_
          refine Sim.sq (p1 := 458) (s_icmp_ge dL_law_455 (by decide) rfl) ?_
          refine Sim.sq (p1 := 459) (s_aload_n rfl dL_law_458) ?_
          refine Sim.sq (p1 := 461) (s_iload dL_law_459) ?_
          refine Sim.sq (p1 := 462) (s_iconst (by decide +kernel) dL_law_461) ?_
          refine Sim.sq (p1 := 463) (s_aload_n rfl dL_law_462) ?_
          refine Sim.sq (p1 := 464) (s_iconst (by decide +kernel) dL_law_463) ?_
          refine Sim.sq (p1 := 465) (s_iald dL_law_464) ?_
          refine Sim.sq (p1 := 468) (s_callS (y := yL_split) (C_L_split l) kw520 kw521 kw14 kw522 ⟨by decide +kernel, by decide +kernel, by decide +kernel⟩ ⟨by decide, by decide⟩ dL_law_465) ?_
          refine Sim.sq (p1 := 470) (s_astore (by decide) dL_law_468) ?_
          refine Sim.sq (p1 := 471) (s_aload_n rfl dL_law_470) ?_
          refine Sim.sq (p1 := 473) (s_iload dL_law_471) ?_
          refine Sim.sq (p1 := 474) (s_iconst (by decide +kernel) dL_law_473) ?_
          refine Sim.sq (p1 := 475) (s_aload_n rfl dL_law_474) ?_
          refine Sim.sq (p1 := 476) (s_iconst (by decide +kernel) dL_law_475) ?_
          refine Sim.sq (p1 := 477) (s_iald dL_law_476) ?_
          refine Sim.sq (p1 := 480) (s_callS (y := yL_split) (C_L_split l) kw520 kw521 kw14 kw522 ⟨by decide +kernel, by decide +kernel, by decide +kernel⟩ ⟨by decide, by decide⟩ dL_law_477) ?_
          refine Sim.sq (p1 := 482) (s_astore (by decide) dL_law_480) ?_
          refine Sim.sq (p1 := 484) (s_aload dL_law_482) ?_
          refine Sim.sq (p1 := 486) (s_iload dL_law_484) ?_
          refine Sim.sq (p1 := 488) (s_iload dL_law_486) ?_
          refine Sim.sq (p1 := 489) (s_isub dL_law_488) ?_
          refine Sim.sq (p1 := 490) (s_iconst (by decide +kernel) dL_law_489) ?_
          refine Sim.sq (p1 := 491) (s_aload_n rfl dL_law_490) ?_
          refine Sim.sq (p1 := 492) (s_iconst (by decide +kernel) dL_law_491) ?_
          refine Sim.sq (p1 := 493) (s_iald dL_law_492) ?_
          refine Sim.sq (p1 := 496) (s_callS (y := yL_split) (C_L_split l) kw520 kw521 kw14 kw522 ⟨by decide +kernel, by decide +kernel, by decide +kernel⟩ ⟨by decide, by decide⟩ dL_law_493) ?_
          refine Sim.sq (p1 := 498) (s_astore (by decide) dL_law_496) ?_
          refine Sim.sq (p1 := 500) (s_aload dL_law_498) ?_
          refine Sim.sq (p1 := 502) (s_iload dL_law_500) ?_
          refine Sim.sq (p1 := 504) (s_iload dL_law_502) ?_
          refine Sim.sq (p1 := 505) (s_isub dL_law_504) ?_
          refine Sim.sq (p1 := 506) (s_iconst (by decide +kernel) dL_law_505) ?_
          refine Sim.sq (p1 := 507) (s_aload_n rfl dL_law_506) ?_
          refine Sim.sq (p1 := 508) (s_iconst (by decide +kernel) dL_law_507) ?_
          refine Sim.sq (p1 := 509) (s_iald dL_law_508) ?_
          refine Sim.sq (p1 := 512) (s_callS (y := yL_split) (C_L_split l) kw520 kw521 kw14 kw522 ⟨by decide +kernel, by decide +kernel, by decide +kernel⟩ ⟨by decide, by decide⟩ dL_law_509) ?_
          refine Sim.sq (p1 := 514) (s_astore (by decide) dL_law_512) ?_
          refine Sim.sq (p1 := 516) (s_iload dL_law_514) ?_
          refine Sim.sq (p1 := 517) (s_iconst (by decide +kernel) dL_law_516) ?_
          refine Sim.sq (p1 := 583) (Sim.bk ?_) ?_
          · refine Sim.sq (p1 := 520) (s_icmp_le dL_law_517 (by decide) rfl) ?_
            refine Sim.sq (p1 := 522) (s_aload dL_law_520) ?_
            refine Sim.sq (p1 := 524) (s_astore (by decide) dL_law_522) ?_
            refine Sim.sq (p1 := 526) (s_iload dL_law_524) ?_
            refine Sim.sq (p1 := 528) (s_istore (by decide) dL_law_526) ?_
            refine Sim.sq (p1 := 554) (Sim.lp ?_) ?_
            · refine Sim.sq (p1 := 530) (s_iload dL_law_528) ?_
              refine Sim.sq (p1 := 532) (s_iload dL_law_530) ?_
              refine Sim.bk ?_
              refine Sim.sq (p1 := 535) (s_icmp_ge dL_law_532 (by decide) rfl) ?_
              refine Sim.sq (p1 := 537) (s_aload dL_law_535) ?_
              refine Sim.sq (p1 := 539) (s_iload dL_law_537) ?_
              refine Sim.sq (p1 := 541) (s_iload dL_law_539) ?_
              refine Sim.sq (p1 := 542) (s_isub dL_law_541) ?_
              refine Sim.sq (p1 := 544) (s_aload dL_law_542) ?_
              refine Sim.sq (p1 := 546) (s_iload dL_law_544) ?_
              refine Sim.sq (p1 := 547) (s_iald dL_law_546) ?_
              refine Sim.sq (p1 := 548) (s_iast dL_law_547) ?_
              refine Sim.sq (p1 := 551) (s_iinc (by decide +kernel) (by decide) dL_law_548) ?_
              exact (s_goto dL_law_551 (by decide) rfl)
            refine Sim.sq (p1 := 555) (s_aload_n rfl dL_law_554) ?_
            refine Sim.sq (p1 := 557) (s_bipush (by decide +kernel) dL_law_555) ?_
            refine Sim.sq (p1 := 559) (s_iload dL_law_557) ?_
            refine Sim.sq (p1 := 561) (s_iload dL_law_559) ?_
            refine Sim.sq (p1 := 562) (s_isub dL_law_561) ?_
            refine Sim.sq (p1 := 563) (s_iast dL_law_562) ?_
            refine Sim.sq (p1 := 564) (s_aload_n rfl dL_law_563) ?_
            refine Sim.sq (p1 := 566) (s_bipush (by decide +kernel) dL_law_564) ?_
            refine Sim.sq (p1 := 567) (s_dup2 dL_law_566) ?_
            refine Sim.sq (p1 := 568) (s_iald dL_law_567) ?_
            refine Sim.sq (p1 := 569) (s_aload_n rfl dL_law_568) ?_
            refine Sim.sq (p1 := 571) (s_bipush (by decide +kernel) dL_law_569) ?_
            refine Sim.sq (p1 := 572) (s_iald dL_law_571) ?_
            refine Sim.sq (p1 := 573) (s_iconst (by decide +kernel) dL_law_572) ?_
            refine Sim.sq (p1 := 581) (Sim.bk ?_) ?_
            · refine Sim.sq (p1 := 580) (Sim.bk ?_) ?_
              · refine Sim.sq (p1 := 576) (s_icmp_ge dL_law_573 (by decide) rfl) ?_
                refine Sim.sq (p1 := 577) (s_iconst (by decide +kernel) dL_law_576) ?_
                exact (s_goto dL_law_577 (by decide) rfl)
              exact (s_iconst (by decide +kernel) dL_law_580)
            refine Sim.sq (p1 := 582) (s_iadd dL_law_581) ?_
            exact (s_iast dL_law_582)
          refine Sim.sq (p1 := 585) (s_iload dL_law_583) ?_
          refine Sim.sq (p1 := 587) (s_bipush (by decide +kernel) dL_law_585) ?_
          refine Sim.sq (p1 := 687) (Sim.bk ?_) ?_
          · refine Sim.sq (p1 := 608) (Sim.bk ?_) ?_
            · refine Sim.sq (p1 := 590) (s_icmp_ne dL_law_587 (by decide) rfl) ?_
              refine Sim.sq (p1 := 591) (s_aload_n rfl dL_law_590) ?_
              refine Sim.sq (p1 := 593) (s_iload dL_law_591) ?_
              refine Sim.sq (p1 := 595) (s_iload dL_law_593) ?_
              refine Sim.sq (p1 := 598) (s_callV (C_X5_copy l) (rfl : vwCl[5]? = some (RX5, TX5, 11)) (by decide) kw457 kw458 kw459 kw15 kw460 ⟨rfl, by decide +kernel, by decide +kernel, by decide +kernel⟩ ⟨by decide, by decide⟩ shN5 dL_law_595) ?_
              refine Sim.sq (p1 := 600) (s_aload dL_law_598) ?_
              refine Sim.sq (p1 := 602) (s_bipush (by decide +kernel) dL_law_600) ?_
              refine Sim.sq (p1 := 603) (s_iald dL_law_602) ?_
              refine Sim.sq (p1 := 606) (s_icmp_eq dL_law_603 (by decide) rfl) ?_
              refine Sim.sq (p1 := 607) (s_iconst (by decide +kernel) dL_law_606) ?_
              exact (s_zret rfl dL_law_607)
            refine Sim.sq (p1 := 610) (s_aload dL_law_608) ?_
            refine Sim.sq (p1 := 612) (s_aload dL_law_610) ?_
            refine Sim.sq (p1 := 613) (s_aload_n rfl dL_law_612) ?_
            refine Sim.sq (p1 := 614) (s_iconst (by decide +kernel) dL_law_613) ?_
            refine Sim.sq (p1 := 615) (s_iald dL_law_614) ?_
            refine Sim.sq (p1 := 618) (s_callS (y := yL_join) (C_L_join l) kw508 kw509 kw14 kw510 ⟨by decide +kernel, by decide +kernel, by decide +kernel⟩ ⟨by decide, by decide⟩ dL_law_615) ?_
            refine Sim.sq (p1 := 619) (s_astore_n rfl (by decide) dL_law_618) ?_
            refine Sim.sq (p1 := 621) (s_iload dL_law_619) ?_
            refine Sim.sq (p1 := 623) (s_iload dL_law_621) ?_
            refine Sim.sq (p1 := 625) (s_iload dL_law_623) ?_
            refine Sim.sq (p1 := 626) (s_isub dL_law_625) ?_
            refine Sim.sq (p1 := 628) (s_aload dL_law_626) ?_
            refine Sim.sq (p1 := 629) (s_iconst (by decide +kernel) dL_law_628) ?_
            refine Sim.sq (p1 := 631) (s_aload dL_law_629) ?_
            refine Sim.sq (p1 := 632) (s_aload_n rfl dL_law_631) ?_
            refine Sim.sq (p1 := 635) (s_callS (y := yL_replace) (C_L_replace l) kw541 kw542 kw14 kw543 ⟨by decide +kernel, by decide +kernel, by decide +kernel⟩ ⟨by decide, by decide⟩ dL_law_632) ?_
            refine Sim.sq (p1 := 637) (s_iload dL_law_635) ?_
            refine Sim.sq (p1 := 639) (s_iload dL_law_637) ?_
            refine Sim.sq (p1 := 641) (s_iload dL_law_639) ?_
            refine Sim.sq (p1 := 642) (s_isub dL_law_641) ?_
            refine Sim.sq (p1 := 643) (s_iconst (by decide +kernel) dL_law_642) ?_
            refine Sim.sq (p1 := 644) (s_aload_n rfl dL_law_643) ?_
            refine Sim.sq (p1 := 647) (s_callS (y := yL_marks) (C_L_marks l) kw538 kw539 kw14 kw540 ⟨by decide +kernel, by decide +kernel, by decide +kernel⟩ ⟨by decide, by decide⟩ dL_law_644) ?_
            refine Sim.sq (p1 := 648) (s_aload_n rfl dL_law_647) ?_
            refine Sim.sq (p1 := 649) (s_aload_n rfl dL_law_648) ?_
            refine Sim.sq (p1 := 652) (s_callS (y := yL_balance) (C_L_balance l) kw544 kw545 kw14 kw546 ⟨by decide +kernel, by decide +kernel, by decide +kernel⟩ ⟨by decide, by decide⟩ dL_law_649) ?_
            refine Sim.sq (p1 := 653) (s_astore_n rfl (by decide) dL_law_652) ?_
            refine Sim.sq (p1 := 655) (s_iload dL_law_653) ?_
            refine Sim.sq (p1 := 656) (s_iconst (by decide +kernel) dL_law_655) ?_
            refine Sim.sq (p1 := 678) (Sim.bk ?_) ?_
            · refine Sim.sq (p1 := 670) (Sim.bk ?_) ?_
              · refine Sim.sq (p1 := 659) (s_icmp_ne dL_law_656 (by decide) rfl) ?_
                refine Sim.sq (p1 := 660) (s_aload_n rfl dL_law_659) ?_
                refine Sim.sq (p1 := 662) (s_iload dL_law_660) ?_
                refine Sim.sq (p1 := 664) (s_iload dL_law_662) ?_
                refine Sim.sq (p1 := 667) (s_callV (C_X5_delete l) (rfl : vwCl[5]? = some (RX5, TX5, 11)) (by decide) kw430 kw431 kw432 kw15 kw433 ⟨rfl, by decide +kernel, by decide +kernel, by decide +kernel⟩ ⟨by decide, by decide⟩ shN5 dL_law_664) ?_
                exact (s_goto dL_law_667 (by decide) rfl)
              refine Sim.sq (p1 := 671) (s_aload_n rfl dL_law_670) ?_
              refine Sim.sq (p1 := 673) (s_iload dL_law_671) ?_
              refine Sim.sq (p1 := 675) (s_iload dL_law_673) ?_
              exact (s_callV (C_X5_cut l) (rfl : vwCl[5]? = some (RX5, TX5, 11)) (by decide) kw446 kw447 kw448 kw15 kw449 ⟨rfl, by decide +kernel, by decide +kernel, by decide +kernel⟩ ⟨by decide, by decide⟩ shN5 dL_law_675)
            refine Sim.sq (p1 := 679) (s_aload_n rfl dL_law_678) ?_
            refine Sim.sq (p1 := 681) (s_bipush (by decide +kernel) dL_law_679) ?_
            refine Sim.sq (p1 := 682) (s_iald dL_law_681) ?_
            refine Sim.sq (p1 := 685) (s_icmp_eq dL_law_682 (by decide) rfl) ?_
            refine Sim.sq (p1 := 686) (s_iconst (by decide +kernel) dL_law_685) ?_
            exact (s_zret rfl dL_law_686)
          exact (s_goto dL_law_687 (by decide) rfl)
        refine Sim.sq (p1 := 692) (s_iload dL_law_690) ?_
        refine Sim.sq (p1 := 694) (s_bipush (by decide +kernel) dL_law_692) ?_
        refine Sim.sq (p1 := 838) (Sim.bk ?_) ?_
        · refine Sim.sq (p1 := 697) (s_icmp_ge dL_law_694 (by decide) rfl) ?_
          refine Sim.sq (p1 := 698) (s_aload_n rfl dL_law_697) ?_
          refine Sim.sq (p1 := 700) (s_bipush (by decide +kernel) dL_law_698) ?_
          refine Sim.sq (p1 := 701) (s_iald dL_law_700) ?_
          refine Sim.sq (p1 := 719) (Sim.bk ?_) ?_
          · refine Sim.sq (p1 := 704) (s_if_le dL_law_701 (by decide) rfl) ?_
            refine Sim.sq (p1 := 706) (s_iload dL_law_704) ?_
            refine Sim.sq (p1 := 707) (s_aload_n rfl dL_law_706) ?_
            refine Sim.sq (p1 := 709) (s_bipush (by decide +kernel) dL_law_707) ?_
            refine Sim.sq (p1 := 710) (s_iald dL_law_709) ?_
            refine Sim.sq (p1 := 711) (s_iadd dL_law_710) ?_
            refine Sim.sq (p1 := 713) (s_bipush (by decide +kernel) dL_law_711) ?_
            refine Sim.sq (p1 := 716) (s_icmp_le dL_law_713 (by decide) rfl) ?_
            exact (s_goto dL_law_716 (by decide) rfl)
          refine Sim.sq (p1 := 720) (s_aload_n rfl dL_law_719) ?_
          refine Sim.sq (p1 := 722) (s_iload dL_law_720) ?_
          refine Sim.sq (p1 := 723) (s_iconst (by decide +kernel) dL_law_722) ?_
          refine Sim.sq (p1 := 726) (s_callV (C_X5_paste l) (rfl : vwCl[5]? = some (RX5, TX5, 11)) (by decide) kw461 kw462 kw463 kw15 kw464 ⟨rfl, by decide +kernel, by decide +kernel, by decide +kernel⟩ ⟨by decide, by decide⟩ shN5 dL_law_723) ?_
          refine Sim.sq (p1 := 728) (s_istore (by decide) dL_law_726) ?_
          refine Sim.sq (p1 := 730) (s_iload dL_law_728) ?_
          refine Sim.sq (p1 := 731) (s_aload_n rfl dL_law_730) ?_
          refine Sim.sq (p1 := 733) (s_bipush (by decide +kernel) dL_law_731) ?_
          refine Sim.sq (p1 := 734) (s_iald dL_law_733) ?_
          refine Sim.sq (p1 := 748) (Sim.bk ?_) ?_
          · refine Sim.sq (p1 := 741) (Sim.bk ?_) ?_
            · refine Sim.sq (p1 := 737) (s_if_ne dL_law_734 (by decide) rfl) ?_
              refine Sim.sq (p1 := 738) (s_iconst (by decide +kernel) dL_law_737) ?_
              exact (s_goto dL_law_738 (by decide) rfl)
            refine Sim.sq (p1 := 743) (s_iload dL_law_741) ?_
            refine Sim.sq (p1 := 744) (s_aload_n rfl dL_law_743) ?_
            refine Sim.sq (p1 := 746) (s_bipush (by decide +kernel) dL_law_744) ?_
            refine Sim.sq (p1 := 747) (s_iald dL_law_746) ?_
            exact (s_iadd dL_law_747)
          refine Sim.sq (p1 := 753) (Sim.bk ?_) ?_
          · refine Sim.sq (p1 := 751) (s_icmp_eq dL_law_748 (by decide) rfl) ?_
            refine Sim.sq (p1 := 752) (s_iconst (by decide +kernel) dL_law_751) ?_
            exact (s_zret rfl dL_law_752)
          refine Sim.sq (p1 := 754) (s_aload_n rfl dL_law_753) ?_
          refine Sim.sq (p1 := 756) (s_bipush (by decide +kernel) dL_law_754) ?_
          refine Sim.sq (p1 := 757) (s_iald dL_law_756) ?_
          refine Sim.sq (p1 := 835) (Sim.bk ?_) ?_
          · refine Sim.sq (p1 := 760) (s_if_le dL_law_757 (by decide) rfl) ?_
            refine Sim.sq (p1 := 761) (s_aload_n rfl dL_law_760) ?_
            refine Sim.sq (p1 := 763) (s_iload dL_law_761) ?_
            refine Sim.sq (p1 := 764) (s_iconst (by decide +kernel) dL_law_763) ?_
            refine Sim.sq (p1 := 765) (s_aload_n rfl dL_law_764) ?_
            refine Sim.sq (p1 := 766) (s_iconst (by decide +kernel) dL_law_765) ?_
            refine Sim.sq (p1 := 767) (s_iald dL_law_766) ?_
            refine Sim.sq (p1 := 770) (s_callS (y := yL_split) (C_L_split l) kw520 kw521 kw14 kw522 ⟨by decide +kernel, by decide +kernel, by decide +kernel⟩ ⟨by decide, by decide⟩ dL_law_767) ?_
            refine Sim.sq (p1 := 772) (s_astore (by decide) dL_law_770) ?_
            refine Sim.sq (p1 := 773) (s_aload_n rfl dL_law_772) ?_
            refine Sim.sq (p1 := 775) (s_iload dL_law_773) ?_
            refine Sim.sq (p1 := 776) (s_iconst (by decide +kernel) dL_law_775) ?_
            refine Sim.sq (p1 := 777) (s_aload_n rfl dL_law_776) ?_
            refine Sim.sq (p1 := 778) (s_iconst (by decide +kernel) dL_law_777) ?_
            refine Sim.sq (p1 := 779) (s_iald dL_law_778) ?_
            refine Sim.sq (p1 := 782) (s_callS (y := yL_split) (C_L_split l) kw520 kw521 kw14 kw522 ⟨by decide +kernel, by decide +kernel, by decide +kernel⟩ ⟨by decide, by decide⟩ dL_law_779) ?_
            refine Sim.sq (p1 := 784) (s_astore (by decide) dL_law_782) ?_
            refine Sim.sq (p1 := 786) (s_aload dL_law_784) ?_
            refine Sim.sq (p1 := 788) (s_aload dL_law_786) ?_
            refine Sim.sq (p1 := 789) (s_aload_n rfl dL_law_788) ?_
            refine Sim.sq (p1 := 790) (s_iconst (by decide +kernel) dL_law_789) ?_
            refine Sim.sq (p1 := 791) (s_iald dL_law_790) ?_
            refine Sim.sq (p1 := 794) (s_callS (y := yL_join) (C_L_join l) kw508 kw509 kw14 kw510 ⟨by decide +kernel, by decide +kernel, by decide +kernel⟩ ⟨by decide, by decide⟩ dL_law_791) ?_
            refine Sim.sq (p1 := 796) (s_aload dL_law_794) ?_
            refine Sim.sq (p1 := 797) (s_aload_n rfl dL_law_796) ?_
            refine Sim.sq (p1 := 798) (s_iconst (by decide +kernel) dL_law_797) ?_
            refine Sim.sq (p1 := 799) (s_iald dL_law_798) ?_
            refine Sim.sq (p1 := 802) (s_callS (y := yL_join) (C_L_join l) kw508 kw509 kw14 kw510 ⟨by decide +kernel, by decide +kernel, by decide +kernel⟩ ⟨by decide, by decide⟩ dL_law_799) ?_
            refine Sim.sq (p1 := 803) (s_astore_n rfl (by decide) dL_law_802) ?_
            refine Sim.sq (p1 := 805) (s_iload dL_law_803) ?_
            refine Sim.sq (p1 := 806) (s_iconst (by decide +kernel) dL_law_805) ?_
            refine Sim.sq (p1 := 808) (s_aload dL_law_806) ?_
            refine Sim.sq (p1 := 809) (s_aload_n rfl dL_law_808) ?_
            refine Sim.sq (p1 := 811) (s_bipush (by decide +kernel) dL_law_809) ?_
            refine Sim.sq (p1 := 812) (s_iald dL_law_811) ?_
            refine Sim.sq (p1 := 814) (s_aload dL_law_812) ?_
            refine Sim.sq (p1 := 815) (s_aload_n rfl dL_law_814) ?_
            refine Sim.sq (p1 := 818) (s_callS (y := yL_replace) (C_L_replace l) kw541 kw542 kw14 kw543 ⟨by decide +kernel, by decide +kernel, by decide +kernel⟩ ⟨by decide, by decide⟩ dL_law_815) ?_
            refine Sim.sq (p1 := 820) (s_iload dL_law_818) ?_
            refine Sim.sq (p1 := 821) (s_iconst (by decide +kernel) dL_law_820) ?_
            refine Sim.sq (p1 := 822) (s_aload_n rfl dL_law_821) ?_
            refine Sim.sq (p1 := 824) (s_bipush (by decide +kernel) dL_law_822) ?_
            refine Sim.sq (p1 := 825) (s_iald dL_law_824) ?_
            refine Sim.sq (p1 := 826) (s_aload_n rfl dL_law_825) ?_
            refine Sim.sq (p1 := 829) (s_callS (y := yL_marks) (C_L_marks l) kw538 kw539 kw14 kw540 ⟨by decide +kernel, by decide +kernel, by decide +kernel⟩ ⟨by decide, by decide⟩ dL_law_826) ?_
            refine Sim.sq (p1 := 830) (s_aload_n rfl dL_law_829) ?_
            refine Sim.sq (p1 := 831) (s_aload_n rfl dL_law_830) ?_
            refine Sim.sq (p1 := 834) (s_callS (y := yL_balance) (C_L_balance l) kw544 kw545 kw14 kw546 ⟨by decide +kernel, by decide +kernel, by decide +kernel⟩ ⟨by decide, by decide⟩ dL_law_831) ?_
            exact (s_astore_n rfl (by decide) dL_law_834)
          exact (s_goto dL_law_835 (by decide) rfl)
        refine Sim.sq (p1 := 840) (s_iload dL_law_838) ?_
        refine Sim.sq (p1 := 842) (s_bipush (by decide +kernel) dL_law_840) ?_
        refine Sim.sq (p1 := 1098) (Sim.bk ?_) ?_
        · refine Sim.sq (p1 := 845) (s_icmp_ge dL_law_842 (by decide) rfl) ?_
          refine Sim.sq (p1 := 847) (s_iload dL_law_845) ?_
          refine Sim.sq (p1 := 849) (s_iload dL_law_847) ?_
          refine Sim.sq (p1 := 852) (s_icmp_ge dL_law_849 (by decide) rfl) ?_
          refine Sim.sq (p1 := 854) (s_iload dL_law_852) ?_
          refine Sim.sq (p1 := 856) (s_bipush (by decide +kernel) dL_law_854) ?_
          refine Sim.sq (p1 := 857) (s_ishr dL_law_856) ?_
          refine Sim.sq (p1 := 859) (s_iload dL_law_857) ?_
          refine Sim.sq (p1 := 861) (s_iload dL_law_859) ?_
          refine Sim.sq (p1 := 862) (s_isub dL_law_861) ?_
          refine Sim.sq (p1 := 864) (s_iload dL_law_862) ?_
          refine Sim.sq (p1 := 865) (s_iadd dL_law_864) ?_
          refine Sim.sq (p1 := 866) (s_iconst (by decide +kernel) dL_law_865) ?_
          refine Sim.sq (p1 := 867) (s_iadd dL_law_866) ?_
          refine Sim.sq (p1 := 870) (s_callS (y := yL_low) (C_L_low l) kw504 kw505 kw14 kw506 ⟨by decide +kernel, by decide +kernel, by decide +kernel⟩ ⟨by decide, by decide⟩ dL_law_867) ?_
          refine Sim.sq (p1 := 872) (s_istore (by decide) dL_law_870) ?_
          refine Sim.sq (p1 := 874) (s_bipush (by decide +kernel) dL_law_872) ?_
          refine Sim.sq (p1 := 876) (s_newi kw76 dL_law_874) ?_
          refine Sim.sq (p1 := 878) (s_astore (by decide) dL_law_876) ?_
          refine Sim.sq (p1 := 880) (s_iload dL_law_878) ?_
          refine Sim.sq (p1 := 882) (s_istore (by decide) dL_law_880) ?_
          refine Sim.sq (p1 := 908) (Sim.lp ?_) ?_
          · refine Sim.sq (p1 := 884) (s_iload dL_law_882) ?_
            refine Sim.sq (p1 := 886) (s_iload dL_law_884) ?_
            refine Sim.bk ?_
            refine Sim.sq (p1 := 889) (s_icmp_ge dL_law_886 (by decide) rfl) ?_
            refine Sim.sq (p1 := 891) (s_aload dL_law_889) ?_
            refine Sim.sq (p1 := 893) (s_iload dL_law_891) ?_
            refine Sim.sq (p1 := 895) (s_iload dL_law_893) ?_
            refine Sim.sq (p1 := 896) (s_isub dL_law_895) ?_
            refine Sim.sq (p1 := 898) (s_aload dL_law_896) ?_
            refine Sim.sq (p1 := 900) (s_iload dL_law_898) ?_
            refine Sim.sq (p1 := 901) (s_iald dL_law_900) ?_
            refine Sim.sq (p1 := 902) (s_iast dL_law_901) ?_
            refine Sim.sq (p1 := 905) (s_iinc (by decide +kernel) (by decide) dL_law_902) ?_
            exact (s_goto dL_law_905 (by decide) rfl)
          refine Sim.sq (p1 := 909) (s_aload_n rfl dL_law_908) ?_
          refine Sim.sq (p1 := 911) (s_iload dL_law_909) ?_
          refine Sim.sq (p1 := 912) (s_iconst (by decide +kernel) dL_law_911) ?_
          refine Sim.sq (p1 := 913) (s_aload_n rfl dL_law_912) ?_
          refine Sim.sq (p1 := 914) (s_iconst (by decide +kernel) dL_law_913) ?_
          refine Sim.sq (p1 := 915) (s_iald dL_law_914) ?_
          refine Sim.sq (p1 := 918) (s_callS (y := yL_split) (C_L_split l) kw520 kw521 kw14 kw522 ⟨by decide +kernel, by decide +kernel, by decide +kernel⟩ ⟨by decide, by decide⟩ dL_law_915) ?_
          refine Sim.sq (p1 := 920) (s_astore (by decide) dL_law_918) ?_
          refine Sim.sq (p1 := 922) (s_aload dL_law_920) ?_
          refine Sim.sq (p1 := 924) (s_iload dL_law_922) ?_
          refine Sim.sq (p1 := 926) (s_iload dL_law_924) ?_
          refine Sim.sq (p1 := 927) (s_isub dL_law_926) ?_
          refine Sim.sq (p1 := 928) (s_iconst (by decide +kernel) dL_law_927) ?_
          refine Sim.sq (p1 := 929) (s_aload_n rfl dL_law_928) ?_
          refine Sim.sq (p1 := 930) (s_iconst (by decide +kernel) dL_law_929) ?_
          refine Sim.sq (p1 := 931) (s_iald dL_law_930) ?_
          refine Sim.sq (p1 := 934) (s_callS (y := yL_split) (C_L_split l) kw520 kw521 kw14 kw522 ⟨by decide +kernel, by decide +kernel, by decide +kernel⟩ ⟨by decide, by decide⟩ dL_law_931) ?_
          refine Sim.sq (p1 := 936) (s_astore (by decide) dL_law_934) ?_
          refine Sim.sq (p1 := 937) (s_aload_n rfl dL_law_936) ?_
          refine Sim.sq (p1 := 939) (s_iload dL_law_937) ?_
          refine Sim.sq (p1 := 940) (s_iconst (by decide +kernel) dL_law_939) ?_
          refine Sim.sq (p1 := 941) (s_aload_n rfl dL_law_940) ?_
          refine Sim.sq (p1 := 942) (s_iconst (by decide +kernel) dL_law_941) ?_
          refine Sim.sq (p1 := 943) (s_iald dL_law_942) ?_
          refine Sim.sq (p1 := 946) (s_callS (y := yL_split) (C_L_split l) kw520 kw521 kw14 kw522 ⟨by decide +kernel, by decide +kernel, by decide +kernel⟩ ⟨by decide, by decide⟩ dL_law_943) ?_
          refine Sim.sq (p1 := 948) (s_aload dL_law_946) ?_
          refine Sim.sq (p1 := 950) (s_iload dL_law_948) ?_
          refine Sim.sq (p1 := 952) (s_iload dL_law_950) ?_
          refine Sim.sq (p1 := 953) (s_isub dL_law_952) ?_
          refine Sim.sq (p1 := 954) (s_iconst (by decide +kernel) dL_law_953) ?_
          refine Sim.sq (p1 := 955) (s_aload_n rfl dL_law_954) ?_
          refine Sim.sq (p1 := 956) (s_iconst (by decide +kernel) dL_law_955) ?_
          refine Sim.sq (p1 := 957) (s_iald dL_law_956) ?_
          refine Sim.sq (p1 := 960) (s_callS (y := yL_split) (C_L_split l) kw520 kw521 kw14 kw522 ⟨by decide +kernel, by decide +kernel, by decide +kernel⟩ ⟨by decide, by decide⟩ dL_law_957) ?_
          refine Sim.sq (p1 := 961) (s_aload_n rfl dL_law_960) ?_
          refine Sim.sq (p1 := 962) (s_iconst (by decide +kernel) dL_law_961) ?_
          refine Sim.sq (p1 := 963) (s_iald dL_law_962) ?_
          refine Sim.sq (p1 := 966) (s_callS (y := yL_join) (C_L_join l) kw508 kw509 kw14 kw510 ⟨by decide +kernel, by decide +kernel, by decide +kernel⟩ ⟨by decide, by decide⟩ dL_law_963) ?_
          refine Sim.sq (p1 := 967) (s_astore_n rfl (by decide) dL_law_966) ?_
          refine Sim.sq (p1 := 968) (s_aload_n rfl dL_law_967) ?_
          refine Sim.sq (p1 := 970) (s_iload dL_law_968) ?_
          refine Sim.sq (p1 := 971) (s_iconst (by decide +kernel) dL_law_970) ?_
          refine Sim.sq (p1 := 972) (s_aload_n rfl dL_law_971) ?_
          refine Sim.sq (p1 := 973) (s_iconst (by decide +kernel) dL_law_972) ?_
          refine Sim.sq (p1 := 974) (s_iald dL_law_973) ?_
          refine Sim.sq (p1 := 977) (s_callS (y := yL_split) (C_L_split l) kw520 kw521 kw14 kw522 ⟨by decide +kernel, by decide +kernel, by decide +kernel⟩ ⟨by decide, by decide⟩ dL_law_974) ?_
          refine Sim.sq (p1 := 979) (s_astore (by decide) dL_law_977) ?_
          refine Sim.sq (p1 := 980) (s_aload_n rfl dL_law_979) ?_
          refine Sim.sq (p1 := 982) (s_iload dL_law_980) ?_
          refine Sim.sq (p1 := 983) (s_iconst (by decide +kernel) dL_law_982) ?_
          refine Sim.sq (p1 := 984) (s_aload_n rfl dL_law_983) ?_
          refine Sim.sq (p1 := 985) (s_iconst (by decide +kernel) dL_law_984) ?_
          refine Sim.sq (p1 := 986) (s_iald dL_law_985) ?_
          refine Sim.sq (p1 := 989) (s_callS (y := yL_split) (C_L_split l) kw520 kw521 kw14 kw522 ⟨by decide +kernel, by decide +kernel, by decide +kernel⟩ ⟨by decide, by decide⟩ dL_law_986) ?_
          refine Sim.sq (p1 := 991) (s_astore (by decide) dL_law_989) ?_
          refine Sim.sq (p1 := 993) (s_aload dL_law_991) ?_
          refine Sim.sq (p1 := 995) (s_aload dL_law_993) ?_
          refine Sim.sq (p1 := 996) (s_aload_n rfl dL_law_995) ?_
          refine Sim.sq (p1 := 997) (s_iconst (by decide +kernel) dL_law_996) ?_
          refine Sim.sq (p1 := 998) (s_iald dL_law_997) ?_
          refine Sim.sq (p1 := 1001) (s_callS (y := yL_join) (C_L_join l) kw508 kw509 kw14 kw510 ⟨by decide +kernel, by decide +kernel, by decide +kernel⟩ ⟨by decide, by decide⟩ dL_law_998) ?_
          refine Sim.sq (p1 := 1003) (s_aload dL_law_1001) ?_
          refine Sim.sq (p1 := 1004) (s_aload_n rfl dL_law_1003) ?_
          refine Sim.sq (p1 := 1005) (s_iconst (by decide +kernel) dL_law_1004) ?_
          refine Sim.sq (p1 := 1006) (s_iald dL_law_1005) ?_
          refine Sim.sq (p1 := 1009) (s_callS (y := yL_join) (C_L_join l) kw508 kw509 kw14 kw510 ⟨by decide +kernel, by decide +kernel, by decide +kernel⟩ ⟨by decide, by decide⟩ dL_law_1006) ?_
          refine Sim.sq (p1 := 1010) (s_astore_n rfl (by decide) dL_law_1009) ?_
          refine Sim.sq (p1 := 1012) (s_iload dL_law_1010) ?_
          refine Sim.sq (p1 := 1014) (s_iload dL_law_1012) ?_
          refine Sim.sq (p1 := 1016) (s_iload dL_law_1014) ?_
          refine Sim.sq (p1 := 1017) (s_isub dL_law_1016) ?_
          refine Sim.sq (p1 := 1019) (s_aload dL_law_1017) ?_
          refine Sim.sq (p1 := 1020) (s_iconst (by decide +kernel) dL_law_1019) ?_
          refine Sim.sq (p1 := 1022) (s_aload dL_law_1020) ?_
          refine Sim.sq (p1 := 1023) (s_aload_n rfl dL_law_1022) ?_
          refine Sim.sq (p1 := 1026) (s_callS (y := yL_replace) (C_L_replace l) kw541 kw542 kw14 kw543 ⟨by decide +kernel, by decide +kernel, by decide +kernel⟩ ⟨by decide, by decide⟩ dL_law_1023) ?_
          refine Sim.sq (p1 := 1028) (s_iload dL_law_1026) ?_
          refine Sim.sq (p1 := 1029) (s_iconst (by decide +kernel) dL_law_1028) ?_
          refine Sim.sq (p1 := 1031) (s_aload dL_law_1029) ?_
          refine Sim.sq (p1 := 1033) (s_iload dL_law_1031) ?_
          refine Sim.sq (p1 := 1035) (s_iload dL_law_1033) ?_
          refine Sim.sq (p1 := 1036) (s_isub dL_law_1035) ?_
          refine Sim.sq (p1 := 1038) (s_aload dL_law_1036) ?_
          refine Sim.sq (p1 := 1039) (s_aload_n rfl dL_law_1038) ?_
          refine Sim.sq (p1 := 1042) (s_callS (y := yL_replace) (C_L_replace l) kw541 kw542 kw14 kw543 ⟨by decide +kernel, by decide +kernel, by decide +kernel⟩ ⟨by decide, by decide⟩ dL_law_1039) ?_
          refine Sim.sq (p1 := 1044) (s_iload dL_law_1042) ?_
          refine Sim.sq (p1 := 1046) (s_iload dL_law_1044) ?_
          refine Sim.sq (p1 := 1048) (s_iload dL_law_1046) ?_
          refine Sim.sq (p1 := 1049) (s_isub dL_law_1048) ?_
          refine Sim.sq (p1 := 1050) (s_iconst (by decide +kernel) dL_law_1049) ?_
          refine Sim.sq (p1 := 1051) (s_aload_n rfl dL_law_1050) ?_
          refine Sim.sq (p1 := 1054) (s_callS (y := yL_marks) (C_L_marks l) kw538 kw539 kw14 kw540 ⟨by decide +kernel, by decide +kernel, by decide +kernel⟩ ⟨by decide, by decide⟩ dL_law_1051) ?_
          refine Sim.sq (p1 := 1056) (s_iload dL_law_1054) ?_
          refine Sim.sq (p1 := 1057) (s_iconst (by decide +kernel) dL_law_1056) ?_
          refine Sim.sq (p1 := 1059) (s_iload dL_law_1057) ?_
          refine Sim.sq (p1 := 1061) (s_iload dL_law_1059) ?_
          refine Sim.sq (p1 := 1062) (s_isub dL_law_1061) ?_
          refine Sim.sq (p1 := 1063) (s_aload_n rfl dL_law_1062) ?_
          refine Sim.sq (p1 := 1066) (s_callS (y := yL_marks) (C_L_marks l) kw538 kw539 kw14 kw540 ⟨by decide +kernel, by decide +kernel, by decide +kernel⟩ ⟨by decide, by decide⟩ dL_law_1063) ?_
          refine Sim.sq (p1 := 1067) (s_aload_n rfl dL_law_1066) ?_
          refine Sim.sq (p1 := 1068) (s_aload_n rfl dL_law_1067) ?_
          refine Sim.sq (p1 := 1071) (s_callS (y := yL_balance) (C_L_balance l) kw544 kw545 kw14 kw546 ⟨by decide +kernel, by decide +kernel, by decide +kernel⟩ ⟨by decide, by decide⟩ dL_law_1068) ?_
          refine Sim.sq (p1 := 1072) (s_astore_n rfl (by decide) dL_law_1071) ?_
          refine Sim.sq (p1 := 1073) (s_aload_n rfl dL_law_1072) ?_
          refine Sim.sq (p1 := 1075) (s_iload dL_law_1073) ?_
          refine Sim.sq (p1 := 1077) (s_iload dL_law_1075) ?_
          refine Sim.sq (p1 := 1079) (s_iload dL_law_1077) ?_
          refine Sim.sq (p1 := 1082) (s_callV (C_X5_move l) (rfl : vwCl[5]? = some (RX5, TX5, 11)) (by decide) kw466 kw467 kw468 kw15 kw469 ⟨rfl, by decide +kernel, by decide +kernel, by decide +kernel⟩ ⟨by decide, by decide⟩ shN5 dL_law_1079) ?_
          refine Sim.sq (p1 := 1084) (s_iload dL_law_1082) ?_
          refine Sim.sq (p1 := 1086) (s_iload dL_law_1084) ?_
          refine Sim.sq (p1 := 1087) (s_iadd dL_law_1086) ?_
          refine Sim.sq (p1 := 1089) (s_iload dL_law_1087) ?_
          refine Sim.sq (p1 := 1090) (s_isub dL_law_1089) ?_
          refine Sim.sq (p1 := 1095) (Sim.bk ?_) ?_
          · refine Sim.sq (p1 := 1093) (s_icmp_eq dL_law_1090 (by decide) rfl) ?_
            refine Sim.sq (p1 := 1094) (s_iconst (by decide +kernel) dL_law_1093) ?_
            exact (s_zret rfl dL_law_1094)
          exact (s_goto dL_law_1095 (by decide) rfl)
        refine Sim.sq (p1 := 1100) (s_iload dL_law_1098) ?_
        refine Sim.sq (p1 := 1102) (s_bipush (by decide +kernel) dL_law_1100) ?_
        refine Sim.sq (p1 := 1159) (Sim.bk ?_) ?_
        · refine Sim.sq (p1 := 1105) (s_icmp_ne dL_law_1102 (by decide) rfl) ?_
          refine Sim.sq (p1 := 1107) (s_iload dL_law_1105) ?_
          refine Sim.sq (p1 := 1108) (s_iconst (by decide +kernel) dL_law_1107) ?_
          refine Sim.sq (p1 := 1109) (s_ishr dL_law_1108) ?_
          refine Sim.sq (p1 := 1110) (s_iconst (by decide +kernel) dL_law_1109) ?_
          refine Sim.sq (p1 := 1113) (s_callS (y := yL_low) (C_L_low l) kw504 kw505 kw14 kw506 ⟨by decide +kernel, by decide +kernel, by decide +kernel⟩ ⟨by decide, by decide⟩ dL_law_1110) ?_
          refine Sim.sq (p1 := 1115) (s_istore (by decide) dL_law_1113) ?_
          refine Sim.sq (p1 := 1116) (s_aload_n rfl dL_law_1115) ?_
          refine Sim.sq (p1 := 1118) (s_iload dL_law_1116) ?_
          refine Sim.sq (p1 := 1120) (s_iload dL_law_1118) ?_
          refine Sim.sq (p1 := 1123) (s_callV (C_X5_setMark l) (rfl : vwCl[5]? = some (RX5, TX5, 11)) (by decide) kw487 kw488 kw489 kw15 kw490 ⟨rfl, by decide +kernel, by decide +kernel, by decide +kernel⟩ ⟨by decide, by decide⟩ shN5 dL_law_1120) ?_
          refine Sim.sq (p1 := 1124) (s_aload_n rfl dL_law_1123) ?_
          refine Sim.sq (p1 := 1125) (s_iconst (by decide +kernel) dL_law_1124) ?_
          refine Sim.sq (p1 := 1127) (s_iload dL_law_1125) ?_
          refine Sim.sq (p1 := 1128) (s_iadd dL_law_1127) ?_
          refine Sim.sq (p1 := 1129) (s_iald dL_law_1128) ?_
          refine Sim.sq (p1 := 1143) (Sim.bk ?_) ?_
          · refine Sim.sq (p1 := 1137) (Sim.bk ?_) ?_
            · refine Sim.sq (p1 := 1132) (s_if_ge dL_law_1129 (by decide) rfl) ?_
              refine Sim.sq (p1 := 1134) (s_bipush (by decide +kernel) dL_law_1132) ?_
              exact (s_goto dL_law_1134 (by decide) rfl)
            refine Sim.sq (p1 := 1138) (s_aload_n rfl dL_law_1137) ?_
            refine Sim.sq (p1 := 1139) (s_iconst (by decide +kernel) dL_law_1138) ?_
            refine Sim.sq (p1 := 1141) (s_iload dL_law_1139) ?_
            refine Sim.sq (p1 := 1142) (s_iadd dL_law_1141) ?_
            exact (s_iald dL_law_1142)
          refine Sim.sq (p1 := 1148) (Sim.bk ?_) ?_
          · refine Sim.sq (p1 := 1146) (s_icmp_eq dL_law_1143 (by decide) rfl) ?_
            refine Sim.sq (p1 := 1147) (s_iconst (by decide +kernel) dL_law_1146) ?_
            exact (s_zret rfl dL_law_1147)
          refine Sim.sq (p1 := 1149) (s_aload_n rfl dL_law_1148) ?_
          refine Sim.sq (p1 := 1150) (s_iconst (by decide +kernel) dL_law_1149) ?_
          refine Sim.sq (p1 := 1152) (s_iload dL_law_1150) ?_
          refine Sim.sq (p1 := 1153) (s_iadd dL_law_1152) ?_
          refine Sim.sq (p1 := 1155) (s_iload dL_law_1153) ?_
          refine Sim.sq (p1 := 1156) (s_iast dL_law_1155) ?_
          exact (s_goto dL_law_1156 (by decide) rfl)
        refine Sim.sq (p1 := 1161) (s_iload dL_law_1159) ?_
        refine Sim.sq (p1 := 1163) (s_bipush (by decide +kernel) dL_law_1161) ?_
        refine Sim.sq (p1 := 1196) (Sim.bk ?_) ?_
        · refine Sim.sq (p1 := 1166) (s_icmp_ne dL_law_1163 (by decide) rfl) ?_
          refine Sim.sq (p1 := 1168) (s_iload dL_law_1166) ?_
          refine Sim.sq (p1 := 1169) (s_iconst (by decide +kernel) dL_law_1168) ?_
          refine Sim.sq (p1 := 1172) (s_callS (y := yL_low) (C_L_low l) kw504 kw505 kw14 kw506 ⟨by decide +kernel, by decide +kernel, by decide +kernel⟩ ⟨by decide, by decide⟩ dL_law_1169) ?_
          refine Sim.sq (p1 := 1174) (s_istore (by decide) dL_law_1172) ?_
          refine Sim.sq (p1 := 1175) (s_aload_n rfl dL_law_1174) ?_
          refine Sim.sq (p1 := 1177) (s_iload dL_law_1175) ?_
          refine Sim.sq (p1 := 1180) (s_callV (C_X5_setBalancing l) (rfl : vwCl[5]? = some (RX5, TX5, 11)) (by decide) kw248 kw249 kw250 kw15 kw251 ⟨rfl, by decide +kernel, by decide +kernel, by decide +kernel⟩ ⟨by decide, by decide⟩ shN5 dL_law_1177) ?_
          refine Sim.sq (p1 := 1181) (s_aload_n rfl dL_law_1180) ?_
          refine Sim.sq (p1 := 1182) (s_iconst (by decide +kernel) dL_law_1181) ?_
          refine Sim.sq (p1 := 1183) (s_iald dL_law_1182) ?_
          refine Sim.sq (p1 := 1188) (Sim.bk ?_) ?_
          · refine Sim.sq (p1 := 1186) (s_icmp_eq dL_law_1183 (by decide) rfl) ?_
            refine Sim.sq (p1 := 1187) (s_iconst (by decide +kernel) dL_law_1186) ?_
            exact (s_zret rfl dL_law_1187)
          refine Sim.sq (p1 := 1189) (s_aload_n rfl dL_law_1188) ?_
          refine Sim.sq (p1 := 1190) (s_iconst (by decide +kernel) dL_law_1189) ?_
          refine Sim.sq (p1 := 1192) (s_iload dL_law_1190) ?_
          refine Sim.sq (p1 := 1193) (s_iast dL_law_1192) ?_
          exact (s_goto dL_law_1193 (by decide) rfl)
        refine Sim.sq (p1 := 1198) (s_iload dL_law_1196) ?_
        refine Sim.sq (p1 := 1199) (s_iconst (by decide +kernel) dL_law_1198) ?_
        refine Sim.sq (p1 := 1202) (s_callS (y := yL_low) (C_L_low l) kw504 kw505 kw14 kw506 ⟨by decide +kernel, by decide +kernel, by decide +kernel⟩ ⟨by decide, by decide⟩ dL_law_1199) ?_
        refine Sim.sq (p1 := 1222) (Sim.bk ?_) ?_
        · refine Sim.sq (p1 := 1205) (s_if_ne dL_law_1202 (by decide) rfl) ?_
          refine Sim.sq (p1 := 1206) (s_aload_n rfl dL_law_1205) ?_
          refine Sim.sq (p1 := 1209) (s_callS (y := yL_build) (C_L_build l) kw532 kw533 kw14 kw534 ⟨by decide +kernel, by decide +kernel, by decide +kernel⟩ ⟨by decide, by decide⟩ dL_law_1206) ?_
          refine Sim.sq (p1 := 1210) (s_aload_n rfl dL_law_1209) ?_
          refine Sim.sq (p1 := 1213) (s_callV (C_X5_build l) (rfl : vwCl[5]? = some (RX5, TX5, 11)) (by decide) kw470 kw471 kw472 kw15 kw473 ⟨rfl, by decide +kernel, by decide +kernel, by decide +kernel⟩ ⟨by decide, by decide⟩ shN5 dL_law_1210) ?_
          refine Sim.sq (p1 := 1214) (s_aload_n rfl dL_law_1213) ?_
          refine Sim.sq (p1 := 1217) (s_callS (y := yL_depth) (C_L_depth l) kw526 kw527 kw14 kw528 ⟨by decide +kernel, by decide +kernel, by decide +kernel⟩ ⟨by decide, by decide⟩ dL_law_1214) ?_
          refine Sim.sq (p1 := 1220) (s_icmp_eq dL_law_1217 (by decide) rfl) ?_
          refine Sim.sq (p1 := 1221) (s_iconst (by decide +kernel) dL_law_1220) ?_
          exact (s_zret rfl dL_law_1221)
        refine Sim.sq (p1 := 1224) (s_iload dL_law_1222) ?_
        refine Sim.sq (p1 := 1225) (s_aload_n rfl dL_law_1224) ?_
        refine Sim.sq (p1 := 1226) (s_iconst (by decide +kernel) dL_law_1225) ?_
        refine Sim.sq (p1 := 1227) (s_iald dL_law_1226) ?_
        refine Sim.sq (p1 := 1230) (s_callS (y := yL_packed) (C_L_packed l) kw535 kw536 kw14 kw537 ⟨by decide +kernel, by decide +kernel, by decide +kernel⟩ ⟨by decide, by decide⟩ dL_law_1227) ?_
        refine Sim.sq (p1 := 1231) (s_astore_n rfl (by decide) dL_law_1230) ?_
        refine Sim.sq (p1 := 1232) (s_aload_n rfl dL_law_1231) ?_
        refine Sim.sq (p1 := 1235) (s_callV (C_X5_pack l) (rfl : vwCl[5]? = some (RX5, TX5, 11)) (by decide) kw479 kw480 kw481 kw15 kw482 ⟨rfl, by decide +kernel, by decide +kernel, by decide +kernel⟩ ⟨by decide, by decide⟩ shN5 dL_law_1232) ?_
        refine Sim.sq (p1 := 1236) (s_aload_n rfl dL_law_1235) ?_
        refine Sim.sq (p1 := 1238) (s_bipush (by decide +kernel) dL_law_1236) ?_
        refine Sim.sq (p1 := 1239) (s_iald dL_law_1238) ?_
        refine Sim.sq (p1 := 1242) (s_icmp_eq dL_law_1239 (by decide) rfl) ?_
        refine Sim.sq (p1 := 1243) (s_iconst (by decide +kernel) dL_law_1242) ?_
        exact (s_zret rfl dL_law_1243)
      refine Sim.sq (p1 := 1245) (s_aload_n rfl dL_law_1244) ?_
      refine Sim.sq (p1 := 1247) (s_iload dL_law_1245) ?_
      refine Sim.sq (p1 := 1248) (s_iconst (by decide +kernel) dL_law_1247) ?_
      refine Sim.sq (p1 := 1249) (s_ishr dL_law_1248) ?_
      refine Sim.sq (p1 := 1250) (s_aload_n rfl dL_law_1249) ?_
      refine Sim.sq (p1 := 1252) (s_aload dL_law_1250) ?_
      refine Sim.sq (p1 := 1254) (s_aload dL_law_1252) ?_
      refine Sim.sq (p1 := 1256) (s_aload dL_law_1254) ?_
      refine Sim.sq (p1 := 1257) (s_aload_n rfl dL_law_1256) ?_
      refine Sim.sq (p1 := 1260) (s_callS (y := yL_same) (C_L_same l) kw550 kw551 kw14 kw552 ⟨by decide +kernel, by decide +kernel, by decide +kernel⟩ ⟨by decide, by decide⟩ dL_law_1257) ?_
      refine Sim.sq (p1 := 1263) (s_if_ne dL_law_1260 (by decide) rfl) ?_
      refine Sim.sq (p1 := 1264) (s_iconst (by decide +kernel) dL_law_1263) ?_
      exact (s_zret rfl dL_law_1264)
    refine Sim.sq (p1 := 1268) (s_iinc (by decide +kernel) (by decide) dL_law_1265) ?_
    exact (s_goto dL_law_1268 (by decide) rfl)
  refine Sim.sq (p1 := 1272) (s_iconst (by decide +kernel) dL_law_1271) ?_
  exact (s_zret rfl dL_law_1272)
