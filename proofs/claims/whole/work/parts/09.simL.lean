set_option maxRecDepth 100000 in
set_option maxHeartbeats 40000000 in
theorem S_L_law {l : Launch} {b Ln : Nat} {xs : Nat → Int32} {nm : String} : Sim l (Esc b Ln xs) RL nm cL_law 4 ret 2048 84000 [] (b_L_law b Ln xs) 0 972 := by
  unfold b_L_law
  refine Sim.sq (p1 := 3) (s_new (rfl : vwCl[5]? = some (RX5, TX5, 11)) (by decide) inG5 tyX5 tyX5_ok (by decide +kernel) kw62 kw63 kw52 dL_law_0) ?_
  refine Sim.sq (p1 := 4) (s_dup dL_law_3) ?_
  refine Sim.sq (p1 := 7) (s_callI (y := yX5_init) (C_X5_init l) kw64 kw65 kw52 kw66 rfl ⟨by decide +kernel, by decide +kernel, by decide +kernel⟩ ⟨by decide, by decide⟩ dL_law_4) ?_
  refine Sim.sq (p1 := 8) (s_astore_n rfl (by decide) dL_law_7) ?_
  refine Sim.sq (p1 := 11) (s_new (rfl : vwCl[6]? = some (RX6, TX6, 12)) (by decide) inG6 tyX6 tyX6_ok (by decide +kernel) kw693 kw694 kw59 dL_law_8) ?_
  refine Sim.sq (p1 := 12) (s_dup dL_law_11) ?_
  refine Sim.sq (p1 := 15) (s_callI (y := yX6_init) (C_X6_init l) kw695 kw696 kw59 kw697 rfl ⟨by decide +kernel, by decide +kernel, by decide +kernel⟩ ⟨by decide, by decide⟩ dL_law_12) ?_
  refine Sim.sq (p1 := 16) (s_astore_n rfl (by decide) dL_law_15) ?_
  refine Sim.sq (p1 := 17) (s_iconst (by decide +kernel) dL_law_16) ?_
  refine Sim.sq (p1 := 18) (s_istore_n rfl (by decide) dL_law_17) ?_
  refine Sim.sq (p1 := 970) (Sim.lp ?_) ?_
  · refine Sim.sq (p1 := 19) (s_iload_n rfl dL_law_18) ?_
    refine Sim.sq (p1 := 20) (s_aloadS rfl dL_law_19) ?_
    refine Sim.sq (p1 := 21) (s_slen dL_law_20) ?_
    refine Sim.sq (p1 := 22) (s_iconst (by decide +kernel) dL_law_21) ?_
    refine Sim.sq (p1 := 23) (s_isub dL_law_22) ?_
    refine Sim.bk ?_
    refine Sim.sq (p1 := 26) (s_icmp_gt dL_law_23 (by decide) rfl) ?_
    refine Sim.sq (p1 := 27) (s_aloadS rfl dL_law_26) ?_
    refine Sim.sq (p1 := 28) (s_iload_n rfl dL_law_27) ?_
    refine Sim.sq (p1 := 29) (s_sld dL_law_28) ?_
    refine Sim.sq (p1 := 31) (s_bipush (by decide +kernel) dL_law_29) ?_
    refine Sim.sq (p1 := 32) (s_iand dL_law_31) ?_
    refine Sim.sq (p1 := 964) (Sim.bk ?_) ?_
    · refine Sim.sq (p1 := 950) (Sim.bk ?_) ?_
      · refine Sim.sq (p1 := 937) (Sim.bk ?_) ?_
        · refine Sim.sq (p1 := 914) (Sim.bk ?_) ?_
          · refine Sim.sq (p1 := 891) (Sim.bk ?_) ?_
            · refine Sim.sq (p1 := 868) (Sim.bk ?_) ?_
              · refine Sim.sq (p1 := 835) (Sim.bk ?_) ?_
                · refine Sim.sq (p1 := 802) (Sim.bk ?_) ?_
                  · refine Sim.sq (p1 := 789) (Sim.bk ?_) ?_
                    · refine Sim.sq (p1 := 766) (Sim.bk ?_) ?_
                      · refine Sim.sq (p1 := 733) (Sim.bk ?_) ?_
                        · refine Sim.sq (p1 := 710) (Sim.bk ?_) ?_
                          · refine Sim.sq (p1 := 687) (Sim.bk ?_) ?_
                            · refine Sim.sq (p1 := 674) (Sim.bk ?_) ?_
                              · refine Sim.sq (p1 := 651) (Sim.bk ?_) ?_
                                · refine Sim.sq (p1 := 628) (Sim.bk ?_) ?_
                                  · refine Sim.sq (p1 := 595) (Sim.bk ?_) ?_
                                    · refine Sim.sq (p1 := 572) (Sim.bk ?_) ?_
                                      · refine Sim.sq (p1 := 559) (Sim.bk ?_) ?_
                                        · refine Sim.sq (p1 := 546) (Sim.bk ?_) ?_
                                          · refine Sim.sq (p1 := 533) (Sim.bk ?_) ?_
                                            · refine Sim.sq (p1 := 520) (Sim.bk ?_) ?_
                                              · refine Sim.sq (p1 := 507) (Sim.bk ?_) ?_
                                                · refine Sim.sq (p1 := 494) (Sim.bk ?_) ?_
                                                  · refine Sim.sq (p1 := 481) (Sim.bk ?_) ?_
                                                    · refine Sim.sq (p1 := 468) (Sim.bk ?_) ?_
                                                      · refine Sim.sq (p1 := 425) (Sim.bk ?_) ?_
                                                        · refine Sim.sq (p1 := 392) (Sim.bk ?_) ?_
                                                          · refine Sim.sq (p1 := 359) (Sim.bk ?_) ?_
                                                            · refine Sim.sq (p1 := 326) (Sim.bk ?_) ?_
                                                              · refine Sim.sq (p1 := 293) (Sim.bk ?_) ?_
                                                                · refine Sim.sq (p1 := 270) (Sim.bk ?_) ?_
                                                                  · refine Sim.sq (p1 := 257) (Sim.bk ?_) ?_
                                                                    · refine Sim.sq (p1 := 234) (Sim.bk ?_) ?_
                                                                      · refine Sim.sq (p1 := 211) (Sim.bk ?_) ?_
                                                                        · refine Sim.sq (p1 := 188) (Sim.bk ?_) ?_
                                                                          · exact (s_tsw dL_law_32 ⟨_, rfl, by decide⟩ (by decide +kernel))
                                                                          refine Sim.sq (p1 := 189) (s_aload_n rfl dL_law_188) ?_
                                                                          refine Sim.sq (p1 := 190) (s_aloadS rfl dL_law_189) ?_
                                                                          refine Sim.sq (p1 := 191) (s_iload_n rfl dL_law_190) ?_
                                                                          refine Sim.sq (p1 := 192) (s_iconst (by decide +kernel) dL_law_191) ?_
                                                                          refine Sim.sq (p1 := 193) (s_iadd dL_law_192) ?_
                                                                          refine Sim.sq (p1 := 194) (s_sld dL_law_193) ?_
                                                                          refine Sim.sq (p1 := 197) (s_callV (C_X5_setLeafSize l) (rfl : vwCl[5]? = some (RX5, TX5, 11)) (by decide) kw264 kw265 kw266 kw52 kw267 ⟨rfl, by decide +kernel, by decide +kernel, by decide +kernel⟩ ⟨by decide, by decide⟩ shN5 dL_law_194) ?_
                                                                          refine Sim.sq (p1 := 198) (s_aload_n rfl dL_law_197) ?_
                                                                          refine Sim.sq (p1 := 199) (s_aloadS rfl dL_law_198) ?_
                                                                          refine Sim.sq (p1 := 200) (s_iload_n rfl dL_law_199) ?_
                                                                          refine Sim.sq (p1 := 201) (s_iconst (by decide +kernel) dL_law_200) ?_
                                                                          refine Sim.sq (p1 := 202) (s_iadd dL_law_201) ?_
                                                                          refine Sim.sq (p1 := 203) (s_sld dL_law_202) ?_
                                                                          refine Sim.sq (p1 := 206) (s_callV (C_X6_setLeafSize l) (rfl : vwCl[6]? = some (RX6, TX6, 12)) (by decide) kw737 kw738 kw739 kw59 kw740 ⟨rfl, by decide +kernel, by decide +kernel, by decide +kernel⟩ ⟨by decide, by decide⟩ shN6 dL_law_203) ?_
                                                                          refine Sim.sq (p1 := 209) (s_icmp_eq dL_law_206 (by decide) rfl) ?_
                                                                          refine Sim.sq (p1 := 210) (s_iconst (by decide +kernel) dL_law_209) ?_
                                                                          exact (s_zret rfl dL_law_210)
                                                                        refine Sim.sq (p1 := 212) (s_aload_n rfl dL_law_211) ?_
                                                                        refine Sim.sq (p1 := 213) (s_aloadS rfl dL_law_212) ?_
                                                                        refine Sim.sq (p1 := 214) (s_iload_n rfl dL_law_213) ?_
                                                                        refine Sim.sq (p1 := 215) (s_iconst (by decide +kernel) dL_law_214) ?_
                                                                        refine Sim.sq (p1 := 216) (s_iadd dL_law_215) ?_
                                                                        refine Sim.sq (p1 := 217) (s_sld dL_law_216) ?_
                                                                        refine Sim.sq (p1 := 220) (s_callV (C_X5_setBalancing l) (rfl : vwCl[5]? = some (RX5, TX5, 11)) (by decide) kw286 kw287 kw288 kw52 kw289 ⟨rfl, by decide +kernel, by decide +kernel, by decide +kernel⟩ ⟨by decide, by decide⟩ shN5 dL_law_217) ?_
                                                                        refine Sim.sq (p1 := 221) (s_aload_n rfl dL_law_220) ?_
                                                                        refine Sim.sq (p1 := 222) (s_aloadS rfl dL_law_221) ?_
                                                                        refine Sim.sq (p1 := 223) (s_iload_n rfl dL_law_222) ?_
                                                                        refine Sim.sq (p1 := 224) (s_iconst (by decide +kernel) dL_law_223) ?_
                                                                        refine Sim.sq (p1 := 225) (s_iadd dL_law_224) ?_
                                                                        refine Sim.sq (p1 := 226) (s_sld dL_law_225) ?_
                                                                        refine Sim.sq (p1 := 229) (s_callV (C_X6_setBalancing l) (rfl : vwCl[6]? = some (RX6, TX6, 12)) (by decide) kw748 kw749 kw750 kw59 kw751 ⟨rfl, by decide +kernel, by decide +kernel, by decide +kernel⟩ ⟨by decide, by decide⟩ shN6 dL_law_226) ?_
                                                                        refine Sim.sq (p1 := 232) (s_icmp_eq dL_law_229 (by decide) rfl) ?_
                                                                        refine Sim.sq (p1 := 233) (s_iconst (by decide +kernel) dL_law_232) ?_
                                                                        exact (s_zret rfl dL_law_233)
                                                                      refine Sim.sq (p1 := 235) (s_aload_n rfl dL_law_234) ?_
                                                                      refine Sim.sq (p1 := 236) (s_aloadS rfl dL_law_235) ?_
                                                                      refine Sim.sq (p1 := 237) (s_iload_n rfl dL_law_236) ?_
                                                                      refine Sim.sq (p1 := 238) (s_iconst (by decide +kernel) dL_law_237) ?_
                                                                      refine Sim.sq (p1 := 239) (s_iadd dL_law_238) ?_
                                                                      refine Sim.sq (p1 := 240) (s_sld dL_law_239) ?_
                                                                      refine Sim.sq (p1 := 243) (s_callV (C_X5_type l) (rfl : vwCl[5]? = some (RX5, TX5, 11)) (by decide) kw290 kw291 kw292 kw52 kw293 ⟨rfl, by decide +kernel, by decide +kernel, by decide +kernel⟩ ⟨by decide, by decide⟩ shN5 dL_law_240) ?_
                                                                      refine Sim.sq (p1 := 244) (s_aload_n rfl dL_law_243) ?_
                                                                      refine Sim.sq (p1 := 245) (s_aloadS rfl dL_law_244) ?_
                                                                      refine Sim.sq (p1 := 246) (s_iload_n rfl dL_law_245) ?_
                                                                      refine Sim.sq (p1 := 247) (s_iconst (by decide +kernel) dL_law_246) ?_
                                                                      refine Sim.sq (p1 := 248) (s_iadd dL_law_247) ?_
                                                                      refine Sim.sq (p1 := 249) (s_sld dL_law_248) ?_
                                                                      refine Sim.sq (p1 := 252) (s_callV (C_X6_type l) (rfl : vwCl[6]? = some (RX6, TX6, 12)) (by decide) kw752 kw753 kw754 kw59 kw755 ⟨rfl, by decide +kernel, by decide +kernel, by decide +kernel⟩ ⟨by decide, by decide⟩ shN6 dL_law_249) ?_
                                                                      refine Sim.sq (p1 := 255) (s_icmp_eq dL_law_252 (by decide) rfl) ?_
                                                                      refine Sim.sq (p1 := 256) (s_iconst (by decide +kernel) dL_law_255) ?_
                                                                      exact (s_zret rfl dL_law_256)
                                                                    refine Sim.sq (p1 := 258) (s_aload_n rfl dL_law_257) ?_
                                                                    refine Sim.sq (p1 := 261) (s_callV (C_X5_clearBuffer l) (rfl : vwCl[5]? = some (RX5, TX5, 11)) (by decide) kw294 kw295 kw296 kw52 kw297 ⟨rfl, by decide +kernel, by decide +kernel, by decide +kernel⟩ ⟨by decide, by decide⟩ shN5 dL_law_258) ?_
                                                                    refine Sim.sq (p1 := 262) (s_aload_n rfl dL_law_261) ?_
                                                                    refine Sim.sq (p1 := 265) (s_callV (C_X6_clearBuffer l) (rfl : vwCl[6]? = some (RX6, TX6, 12)) (by decide) kw756 kw757 kw758 kw59 kw759 ⟨rfl, by decide +kernel, by decide +kernel, by decide +kernel⟩ ⟨by decide, by decide⟩ shN6 dL_law_262) ?_
                                                                    refine Sim.sq (p1 := 268) (s_icmp_eq dL_law_265 (by decide) rfl) ?_
                                                                    refine Sim.sq (p1 := 269) (s_iconst (by decide +kernel) dL_law_268) ?_
                                                                    exact (s_zret rfl dL_law_269)
                                                                  refine Sim.sq (p1 := 271) (s_aload_n rfl dL_law_270) ?_
                                                                  refine Sim.sq (p1 := 272) (s_aloadS rfl dL_law_271) ?_
                                                                  refine Sim.sq (p1 := 273) (s_iload_n rfl dL_law_272) ?_
                                                                  refine Sim.sq (p1 := 274) (s_iconst (by decide +kernel) dL_law_273) ?_
                                                                  refine Sim.sq (p1 := 275) (s_iadd dL_law_274) ?_
                                                                  refine Sim.sq (p1 := 276) (s_sld dL_law_275) ?_
                                                                  refine Sim.sq (p1 := 279) (s_callV (C_X5_insert l) (rfl : vwCl[5]? = some (RX5, TX5, 11)) (by decide) kw298 kw299 kw300 kw52 kw301 ⟨rfl, by decide +kernel, by decide +kernel, by decide +kernel⟩ ⟨by decide, by decide⟩ shN5 dL_law_276) ?_
                                                                  refine Sim.sq (p1 := 280) (s_aload_n rfl dL_law_279) ?_
                                                                  refine Sim.sq (p1 := 281) (s_aloadS rfl dL_law_280) ?_
                                                                  refine Sim.sq (p1 := 282) (s_iload_n rfl dL_law_281) ?_
                                                                  refine Sim.sq (p1 := 283) (s_iconst (by decide +kernel) dL_law_282) ?_
                                                                  refine Sim.sq (p1 := 284) (s_iadd dL_law_283) ?_
                                                                  refine Sim.sq (p1 := 285) (s_sld dL_law_284) ?_
                                                                  refine Sim.sq (p1 := 288) (s_callV (C_X6_insert l) (rfl : vwCl[6]? = some (RX6, TX6, 12)) (by decide) kw760 kw761 kw762 kw59 kw763 ⟨rfl, by decide +kernel, by decide +kernel, by decide +kernel⟩ ⟨by decide, by decide⟩ shN6 dL_law_285) ?_
                                                                  refine Sim.sq (p1 := 291) (s_icmp_eq dL_law_288 (by decide) rfl) ?_
                                                                  refine Sim.sq (p1 := 292) (s_iconst (by decide +kernel) dL_law_291) ?_
                                                                  exact (s_zret rfl dL_law_292)
                                                                refine Sim.sq (p1 := 294) (s_aload_n rfl dL_law_293) ?_
                                                                refine Sim.sq (p1 := 295) (s_aloadS rfl dL_law_294) ?_
                                                                refine Sim.sq (p1 := 296) (s_iload_n rfl dL_law_295) ?_
                                                                refine Sim.sq (p1 := 297) (s_iconst (by decide +kernel) dL_law_296) ?_
                                                                refine Sim.sq (p1 := 298) (s_iadd dL_law_297) ?_
                                                                refine Sim.sq (p1 := 299) (s_sld dL_law_298) ?_
                                                                refine Sim.sq (p1 := 300) (s_aloadS rfl dL_law_299) ?_
                                                                refine Sim.sq (p1 := 301) (s_iload_n rfl dL_law_300) ?_
                                                                refine Sim.sq (p1 := 302) (s_iconst (by decide +kernel) dL_law_301) ?_
                                                                refine Sim.sq (p1 := 303) (s_iadd dL_law_302) ?_
                                                                refine Sim.sq (p1 := 304) (s_sld dL_law_303) ?_
                                                                refine Sim.sq (p1 := 307) (s_callV (C_X5_delete l) (rfl : vwCl[5]? = some (RX5, TX5, 11)) (by decide) kw472 kw473 kw474 kw52 kw475 ⟨rfl, by decide +kernel, by decide +kernel, by decide +kernel⟩ ⟨by decide, by decide⟩ shN5 dL_law_304) ?_
                                                                refine Sim.sq (p1 := 308) (s_aload_n rfl dL_law_307) ?_
                                                                refine Sim.sq (p1 := 309) (s_aloadS rfl dL_law_308) ?_
                                                                refine Sim.sq (p1 := 310) (s_iload_n rfl dL_law_309) ?_
                                                                refine Sim.sq (p1 := 311) (s_iconst (by decide +kernel) dL_law_310) ?_
                                                                refine Sim.sq (p1 := 312) (s_iadd dL_law_311) ?_
                                                                refine Sim.sq (p1 := 313) (s_sld dL_law_312) ?_
                                                                refine Sim.sq (p1 := 314) (s_aloadS rfl dL_law_313) ?_
                                                                refine Sim.sq (p1 := 315) (s_iload_n rfl dL_law_314) ?_
                                                                refine Sim.sq (p1 := 316) (s_iconst (by decide +kernel) dL_law_315) ?_
                                                                refine Sim.sq (p1 := 317) (s_iadd dL_law_316) ?_
                                                                refine Sim.sq (p1 := 318) (s_sld dL_law_317) ?_
                                                                refine Sim.sq (p1 := 321) (s_callV (C_X6_delete l) (rfl : vwCl[6]? = some (RX6, TX6, 12)) (by decide) kw863 kw864 kw865 kw59 kw866 ⟨rfl, by decide +kernel, by decide +kernel, by decide +kernel⟩ ⟨by decide, by decide⟩ shN6 dL_law_318) ?_
                                                                refine Sim.sq (p1 := 324) (s_icmp_eq dL_law_321 (by decide) rfl) ?_
                                                                refine Sim.sq (p1 := 325) (s_iconst (by decide +kernel) dL_law_324) ?_
                                                                exact (s_zret rfl dL_law_325)
                                                              refine Sim.sq (p1 := 327) (s_aload_n rfl dL_law_326) ?_
                                                              refine Sim.sq (p1 := 328) (s_aloadS rfl dL_law_327) ?_
                                                              refine Sim.sq (p1 := 329) (s_iload_n rfl dL_law_328) ?_
                                                              refine Sim.sq (p1 := 330) (s_iconst (by decide +kernel) dL_law_329) ?_
                                                              refine Sim.sq (p1 := 331) (s_iadd dL_law_330) ?_
                                                              refine Sim.sq (p1 := 332) (s_sld dL_law_331) ?_
                                                              refine Sim.sq (p1 := 333) (s_aloadS rfl dL_law_332) ?_
                                                              refine Sim.sq (p1 := 334) (s_iload_n rfl dL_law_333) ?_
                                                              refine Sim.sq (p1 := 335) (s_iconst (by decide +kernel) dL_law_334) ?_
                                                              refine Sim.sq (p1 := 336) (s_iadd dL_law_335) ?_
                                                              refine Sim.sq (p1 := 337) (s_sld dL_law_336) ?_
                                                              refine Sim.sq (p1 := 340) (s_callV (C_X5_cut l) (rfl : vwCl[5]? = some (RX5, TX5, 11)) (by decide) kw488 kw489 kw490 kw52 kw491 ⟨rfl, by decide +kernel, by decide +kernel, by decide +kernel⟩ ⟨by decide, by decide⟩ shN5 dL_law_337) ?_
                                                              refine Sim.sq (p1 := 341) (s_aload_n rfl dL_law_340) ?_
                                                              refine Sim.sq (p1 := 342) (s_aloadS rfl dL_law_341) ?_
                                                              refine Sim.sq (p1 := 343) (s_iload_n rfl dL_law_342) ?_
                                                              refine Sim.sq (p1 := 344) (s_iconst (by decide +kernel) dL_law_343) ?_
                                                              refine Sim.sq (p1 := 345) (s_iadd dL_law_344) ?_
                                                              refine Sim.sq (p1 := 346) (s_sld dL_law_345) ?_
                                                              refine Sim.sq (p1 := 347) (s_aloadS rfl dL_law_346) ?_
                                                              refine Sim.sq (p1 := 348) (s_iload_n rfl dL_law_347) ?_
                                                              refine Sim.sq (p1 := 349) (s_iconst (by decide +kernel) dL_law_348) ?_
                                                              refine Sim.sq (p1 := 350) (s_iadd dL_law_349) ?_
                                                              refine Sim.sq (p1 := 351) (s_sld dL_law_350) ?_
                                                              refine Sim.sq (p1 := 354) (s_callV (C_X6_cut l) (rfl : vwCl[6]? = some (RX6, TX6, 12)) (by decide) kw879 kw880 kw881 kw59 kw882 ⟨rfl, by decide +kernel, by decide +kernel, by decide +kernel⟩ ⟨by decide, by decide⟩ shN6 dL_law_351) ?_
                                                              refine Sim.sq (p1 := 357) (s_icmp_eq dL_law_354 (by decide) rfl) ?_
                                                              refine Sim.sq (p1 := 358) (s_iconst (by decide +kernel) dL_law_357) ?_
                                                              exact (s_zret rfl dL_law_358)
                                                            refine Sim.sq (p1 := 360) (s_aload_n rfl dL_law_359) ?_
                                                            refine Sim.sq (p1 := 361) (s_aloadS rfl dL_law_360) ?_
                                                            refine Sim.sq (p1 := 362) (s_iload_n rfl dL_law_361) ?_
                                                            refine Sim.sq (p1 := 363) (s_iconst (by decide +kernel) dL_law_362) ?_
                                                            refine Sim.sq (p1 := 364) (s_iadd dL_law_363) ?_
                                                            refine Sim.sq (p1 := 365) (s_sld dL_law_364) ?_
                                                            refine Sim.sq (p1 := 366) (s_aloadS rfl dL_law_365) ?_
                                                            refine Sim.sq (p1 := 367) (s_iload_n rfl dL_law_366) ?_
                                                            refine Sim.sq (p1 := 368) (s_iconst (by decide +kernel) dL_law_367) ?_
                                                            refine Sim.sq (p1 := 369) (s_iadd dL_law_368) ?_
                                                            refine Sim.sq (p1 := 370) (s_sld dL_law_369) ?_
                                                            refine Sim.sq (p1 := 373) (s_callV (C_X5_copy l) (rfl : vwCl[5]? = some (RX5, TX5, 11)) (by decide) kw499 kw500 kw501 kw52 kw502 ⟨rfl, by decide +kernel, by decide +kernel, by decide +kernel⟩ ⟨by decide, by decide⟩ shN5 dL_law_370) ?_
                                                            refine Sim.sq (p1 := 374) (s_aload_n rfl dL_law_373) ?_
                                                            refine Sim.sq (p1 := 375) (s_aloadS rfl dL_law_374) ?_
                                                            refine Sim.sq (p1 := 376) (s_iload_n rfl dL_law_375) ?_
                                                            refine Sim.sq (p1 := 377) (s_iconst (by decide +kernel) dL_law_376) ?_
                                                            refine Sim.sq (p1 := 378) (s_iadd dL_law_377) ?_
                                                            refine Sim.sq (p1 := 379) (s_sld dL_law_378) ?_
                                                            refine Sim.sq (p1 := 380) (s_aloadS rfl dL_law_379) ?_
                                                            refine Sim.sq (p1 := 381) (s_iload_n rfl dL_law_380) ?_
                                                            refine Sim.sq (p1 := 382) (s_iconst (by decide +kernel) dL_law_381) ?_
                                                            refine Sim.sq (p1 := 383) (s_iadd dL_law_382) ?_
                                                            refine Sim.sq (p1 := 384) (s_sld dL_law_383) ?_
                                                            refine Sim.sq (p1 := 387) (s_callV (C_X6_copy l) (rfl : vwCl[6]? = some (RX6, TX6, 12)) (by decide) kw887 kw888 kw889 kw59 kw890 ⟨rfl, by decide +kernel, by decide +kernel, by decide +kernel⟩ ⟨by decide, by decide⟩ shN6 dL_law_384) ?_
                                                            refine Sim.sq (p1 := 390) (s_icmp_eq dL_law_387 (by decide) rfl) ?_
                                                            refine Sim.sq (p1 := 391) (s_iconst (by decide +kernel) dL_law_390) ?_
                                                            exact (s_zret rfl dL_law_391)
                                                          refine Sim.sq (p1 := 393) (s_aload_n rfl dL_law_392) ?_
                                                          refine Sim.sq (p1 := 394) (s_aloadS rfl dL_law_393) ?_
                                                          refine Sim.sq (p1 := 395) (s_iload_n rfl dL_law_394) ?_
                                                          refine Sim.sq (p1 := 396) (s_iconst (by decide +kernel) dL_law_395) ?_
                                                          refine Sim.sq (p1 := 397) (s_iadd dL_law_396) ?_
                                                          refine Sim.sq (p1 := 398) (s_sld dL_law_397) ?_
                                                          refine Sim.sq (p1 := 399) (s_aloadS rfl dL_law_398) ?_
                                                          refine Sim.sq (p1 := 400) (s_iload_n rfl dL_law_399) ?_
                                                          refine Sim.sq (p1 := 401) (s_iconst (by decide +kernel) dL_law_400) ?_
                                                          refine Sim.sq (p1 := 402) (s_iadd dL_law_401) ?_
                                                          refine Sim.sq (p1 := 403) (s_sld dL_law_402) ?_
                                                          refine Sim.sq (p1 := 406) (s_callV (C_X5_paste l) (rfl : vwCl[5]? = some (RX5, TX5, 11)) (by decide) kw503 kw504 kw505 kw52 kw506 ⟨rfl, by decide +kernel, by decide +kernel, by decide +kernel⟩ ⟨by decide, by decide⟩ shN5 dL_law_403) ?_
                                                          refine Sim.sq (p1 := 407) (s_aload_n rfl dL_law_406) ?_
                                                          refine Sim.sq (p1 := 408) (s_aloadS rfl dL_law_407) ?_
                                                          refine Sim.sq (p1 := 409) (s_iload_n rfl dL_law_408) ?_
                                                          refine Sim.sq (p1 := 410) (s_iconst (by decide +kernel) dL_law_409) ?_
                                                          refine Sim.sq (p1 := 411) (s_iadd dL_law_410) ?_
                                                          refine Sim.sq (p1 := 412) (s_sld dL_law_411) ?_
                                                          refine Sim.sq (p1 := 413) (s_aloadS rfl dL_law_412) ?_
                                                          refine Sim.sq (p1 := 414) (s_iload_n rfl dL_law_413) ?_
                                                          refine Sim.sq (p1 := 415) (s_iconst (by decide +kernel) dL_law_414) ?_
                                                          refine Sim.sq (p1 := 416) (s_iadd dL_law_415) ?_
                                                          refine Sim.sq (p1 := 417) (s_sld dL_law_416) ?_
                                                          refine Sim.sq (p1 := 420) (s_callV (C_X6_paste l) (rfl : vwCl[6]? = some (RX6, TX6, 12)) (by decide) kw891 kw892 kw893 kw59 kw894 ⟨rfl, by decide +kernel, by decide +kernel, by decide +kernel⟩ ⟨by decide, by decide⟩ shN6 dL_law_417) ?_
                                                          refine Sim.sq (p1 := 423) (s_icmp_eq dL_law_420 (by decide) rfl) ?_
                                                          refine Sim.sq (p1 := 424) (s_iconst (by decide +kernel) dL_law_423) ?_
                                                          exact (s_zret rfl dL_law_424)
                                                        refine Sim.sq (p1 := 426) (s_aload_n rfl dL_law_425) ?_
                                                        refine Sim.sq (p1 := 427) (s_aloadS rfl dL_law_426) ?_
                                                        refine Sim.sq (p1 := 428) (s_iload_n rfl dL_law_427) ?_
                                                        refine Sim.sq (p1 := 429) (s_iconst (by decide +kernel) dL_law_428) ?_
                                                        refine Sim.sq (p1 := 430) (s_iadd dL_law_429) ?_
                                                        refine Sim.sq (p1 := 431) (s_sld dL_law_430) ?_
                                                        refine Sim.sq (p1 := 432) (s_aloadS rfl dL_law_431) ?_
                                                        refine Sim.sq (p1 := 433) (s_iload_n rfl dL_law_432) ?_
                                                        refine Sim.sq (p1 := 434) (s_iconst (by decide +kernel) dL_law_433) ?_
                                                        refine Sim.sq (p1 := 435) (s_iadd dL_law_434) ?_
                                                        refine Sim.sq (p1 := 436) (s_sld dL_law_435) ?_
                                                        refine Sim.sq (p1 := 437) (s_aloadS rfl dL_law_436) ?_
                                                        refine Sim.sq (p1 := 438) (s_iload_n rfl dL_law_437) ?_
                                                        refine Sim.sq (p1 := 439) (s_iconst (by decide +kernel) dL_law_438) ?_
                                                        refine Sim.sq (p1 := 440) (s_iadd dL_law_439) ?_
                                                        refine Sim.sq (p1 := 441) (s_sld dL_law_440) ?_
                                                        refine Sim.sq (p1 := 444) (s_callV (C_X5_move l) (rfl : vwCl[5]? = some (RX5, TX5, 11)) (by decide) kw508 kw509 kw510 kw52 kw511 ⟨rfl, by decide +kernel, by decide +kernel, by decide +kernel⟩ ⟨by decide, by decide⟩ shN5 dL_law_441) ?_
                                                        refine Sim.sq (p1 := 445) (s_aload_n rfl dL_law_444) ?_
                                                        refine Sim.sq (p1 := 446) (s_aloadS rfl dL_law_445) ?_
                                                        refine Sim.sq (p1 := 447) (s_iload_n rfl dL_law_446) ?_
                                                        refine Sim.sq (p1 := 448) (s_iconst (by decide +kernel) dL_law_447) ?_
                                                        refine Sim.sq (p1 := 449) (s_iadd dL_law_448) ?_
                                                        refine Sim.sq (p1 := 450) (s_sld dL_law_449) ?_
                                                        refine Sim.sq (p1 := 451) (s_aloadS rfl dL_law_450) ?_
                                                        refine Sim.sq (p1 := 452) (s_iload_n rfl dL_law_451) ?_
                                                        refine Sim.sq (p1 := 453) (s_iconst (by decide +kernel) dL_law_452) ?_
                                                        refine Sim.sq (p1 := 454) (s_iadd dL_law_453) ?_
                                                        refine Sim.sq (p1 := 455) (s_sld dL_law_454) ?_
                                                        refine Sim.sq (p1 := 456) (s_aloadS rfl dL_law_455) ?_
                                                        refine Sim.sq (p1 := 457) (s_iload_n rfl dL_law_456) ?_
                                                        refine Sim.sq (p1 := 458) (s_iconst (by decide +kernel) dL_law_457) ?_
                                                        refine Sim.sq (p1 := 459) (s_iadd dL_law_458) ?_
                                                        refine Sim.sq (p1 := 460) (s_sld dL_law_459) ?_
                                                        refine Sim.sq (p1 := 463) (s_callV (C_X6_move l) (rfl : vwCl[6]? = some (RX6, TX6, 12)) (by decide) kw899 kw900 kw901 kw59 kw902 ⟨rfl, by decide +kernel, by decide +kernel, by decide +kernel⟩ ⟨by decide, by decide⟩ shN6 dL_law_460) ?_
                                                        refine Sim.sq (p1 := 466) (s_icmp_eq dL_law_463 (by decide) rfl) ?_
                                                        refine Sim.sq (p1 := 467) (s_iconst (by decide +kernel) dL_law_466) ?_
                                                        exact (s_zret rfl dL_law_467)
                                                      refine Sim.sq (p1 := 469) (s_aload_n rfl dL_law_468) ?_
                                                      refine Sim.sq (p1 := 472) (s_callV (C_X5_replaceAll l) (rfl : vwCl[5]? = some (RX5, TX5, 11)) (by decide) kw512 kw513 kw514 kw52 kw515 ⟨rfl, by decide +kernel, by decide +kernel, by decide +kernel⟩ ⟨by decide, by decide⟩ shN5 dL_law_469) ?_
                                                      refine Sim.sq (p1 := 473) (s_aload_n rfl dL_law_472) ?_
                                                      refine Sim.sq (p1 := 476) (s_callV (C_X6_replaceAll l) (rfl : vwCl[6]? = some (RX6, TX6, 12)) (by decide) kw903 kw904 kw905 kw59 kw906 ⟨rfl, by decide +kernel, by decide +kernel, by decide +kernel⟩ ⟨by decide, by decide⟩ shN6 dL_law_473) ?_
                                                      refine Sim.sq (p1 := 479) (s_icmp_eq dL_law_476 (by decide) rfl) ?_
                                                      refine Sim.sq (p1 := 480) (s_iconst (by decide +kernel) dL_law_479) ?_
                                                      exact (s_zret rfl dL_law_480)
                                                    refine Sim.sq (p1 := 482) (s_aload_n rfl dL_law_481) ?_
                                                    refine Sim.sq (p1 := 485) (s_callV (C_X5_build l) (rfl : vwCl[5]? = some (RX5, TX5, 11)) (by decide) kw528 kw529 kw530 kw52 kw531 ⟨rfl, by decide +kernel, by decide +kernel, by decide +kernel⟩ ⟨by decide, by decide⟩ shN5 dL_law_482) ?_
                                                    refine Sim.sq (p1 := 486) (s_aload_n rfl dL_law_485) ?_
                                                    refine Sim.sq (p1 := 489) (s_callV (C_X6_build l) (rfl : vwCl[6]? = some (RX6, TX6, 12)) (by decide) kw919 kw920 kw921 kw59 kw922 ⟨rfl, by decide +kernel, by decide +kernel, by decide +kernel⟩ ⟨by decide, by decide⟩ shN6 dL_law_486) ?_
                                                    refine Sim.sq (p1 := 492) (s_icmp_eq dL_law_489 (by decide) rfl) ?_
                                                    refine Sim.sq (p1 := 493) (s_iconst (by decide +kernel) dL_law_492) ?_
                                                    exact (s_zret rfl dL_law_493)
                                                  refine Sim.sq (p1 := 495) (s_aload_n rfl dL_law_494) ?_
                                                  refine Sim.sq (p1 := 498) (s_callV (C_X5_pack l) (rfl : vwCl[5]? = some (RX5, TX5, 11)) (by decide) kw537 kw538 kw539 kw52 kw540 ⟨rfl, by decide +kernel, by decide +kernel, by decide +kernel⟩ ⟨by decide, by decide⟩ shN5 dL_law_495) ?_
                                                  refine Sim.sq (p1 := 499) (s_aload_n rfl dL_law_498) ?_
                                                  refine Sim.sq (p1 := 502) (s_callV (C_X6_pack l) (rfl : vwCl[6]? = some (RX6, TX6, 12)) (by decide) kw923 kw924 kw925 kw59 kw926 ⟨rfl, by decide +kernel, by decide +kernel, by decide +kernel⟩ ⟨by decide, by decide⟩ shN6 dL_law_499) ?_
                                                  refine Sim.sq (p1 := 505) (s_icmp_eq dL_law_502 (by decide) rfl) ?_
                                                  refine Sim.sq (p1 := 506) (s_iconst (by decide +kernel) dL_law_505) ?_
                                                  exact (s_zret rfl dL_law_506)
                                                refine Sim.sq (p1 := 508) (s_aload_n rfl dL_law_507) ?_
                                                refine Sim.sq (p1 := 511) (s_callV (C_X5_length l) (rfl : vwCl[5]? = some (RX5, TX5, 11)) (by decide) kw545 kw307 kw308 kw52 kw309 ⟨rfl, by decide +kernel, by decide +kernel, by decide +kernel⟩ ⟨by decide, by decide⟩ shN5 dL_law_508) ?_
                                                refine Sim.sq (p1 := 512) (s_aload_n rfl dL_law_511) ?_
                                                refine Sim.sq (p1 := 515) (s_callV (C_X6_length l) (rfl : vwCl[6]? = some (RX6, TX6, 12)) (by decide) kw927 kw928 kw929 kw59 kw930 ⟨rfl, by decide +kernel, by decide +kernel, by decide +kernel⟩ ⟨by decide, by decide⟩ shN6 dL_law_512) ?_
                                                refine Sim.sq (p1 := 518) (s_icmp_eq dL_law_515 (by decide) rfl) ?_
                                                refine Sim.sq (p1 := 519) (s_iconst (by decide +kernel) dL_law_518) ?_
                                                exact (s_zret rfl dL_law_519)
                                              refine Sim.sq (p1 := 521) (s_aload_n rfl dL_law_520) ?_
                                              refine Sim.sq (p1 := 524) (s_callV (C_X5_depth l) (rfl : vwCl[5]? = some (RX5, TX5, 11)) (by decide) kw546 kw533 kw534 kw52 kw535 ⟨rfl, by decide +kernel, by decide +kernel, by decide +kernel⟩ ⟨by decide, by decide⟩ shN5 dL_law_521) ?_
                                              refine Sim.sq (p1 := 525) (s_aload_n rfl dL_law_524) ?_
                                              refine Sim.sq (p1 := 528) (s_callV (C_X6_depth l) (rfl : vwCl[6]? = some (RX6, TX6, 12)) (by decide) kw931 kw932 kw933 kw59 kw934 ⟨rfl, by decide +kernel, by decide +kernel, by decide +kernel⟩ ⟨by decide, by decide⟩ shN6 dL_law_525) ?_
                                              refine Sim.sq (p1 := 531) (s_icmp_eq dL_law_528 (by decide) rfl) ?_
                                              refine Sim.sq (p1 := 532) (s_iconst (by decide +kernel) dL_law_531) ?_
                                              exact (s_zret rfl dL_law_532)
                                            refine Sim.sq (p1 := 534) (s_aload_n rfl dL_law_533) ?_
                                            refine Sim.sq (p1 := 537) (s_callV (C_X5_leaves l) (rfl : vwCl[5]? = some (RX5, TX5, 11)) (by decide) kw547 kw542 kw543 kw52 kw544 ⟨rfl, by decide +kernel, by decide +kernel, by decide +kernel⟩ ⟨by decide, by decide⟩ shN5 dL_law_534) ?_
                                            refine Sim.sq (p1 := 538) (s_aload_n rfl dL_law_537) ?_
                                            refine Sim.sq (p1 := 541) (s_callV (C_X6_leaves l) (rfl : vwCl[6]? = some (RX6, TX6, 12)) (by decide) kw935 kw936 kw937 kw59 kw938 ⟨rfl, by decide +kernel, by decide +kernel, by decide +kernel⟩ ⟨by decide, by decide⟩ shN6 dL_law_538) ?_
                                            refine Sim.sq (p1 := 544) (s_icmp_eq dL_law_541 (by decide) rfl) ?_
                                            refine Sim.sq (p1 := 545) (s_iconst (by decide +kernel) dL_law_544) ?_
                                            exact (s_zret rfl dL_law_545)
                                          refine Sim.sq (p1 := 547) (s_aload_n rfl dL_law_546) ?_
                                          refine Sim.sq (p1 := 550) (s_callV (C_X5_isBalanced l) (rfl : vwCl[5]? = some (RX5, TX5, 11)) (by decide) kw548 kw549 kw550 kw52 kw551 ⟨rfl, by decide +kernel, by decide +kernel, by decide +kernel⟩ ⟨by decide, by decide⟩ shN5 dL_law_547) ?_
                                          refine Sim.sq (p1 := 551) (s_aload_n rfl dL_law_550) ?_
                                          refine Sim.sq (p1 := 554) (s_callV (C_X6_isBalanced l) (rfl : vwCl[6]? = some (RX6, TX6, 12)) (by decide) kw939 kw940 kw941 kw59 kw942 ⟨rfl, by decide +kernel, by decide +kernel, by decide +kernel⟩ ⟨by decide, by decide⟩ shN6 dL_law_551) ?_
                                          refine Sim.sq (p1 := 557) (s_icmp_eq dL_law_554 (by decide) rfl) ?_
                                          refine Sim.sq (p1 := 558) (s_iconst (by decide +kernel) dL_law_557) ?_
                                          exact (s_zret rfl dL_law_558)
                                        refine Sim.sq (p1 := 560) (s_aload_n rfl dL_law_559) ?_
                                        refine Sim.sq (p1 := 563) (s_callV (C_X5_builds l) (rfl : vwCl[5]? = some (RX5, TX5, 11)) (by decide) kw552 kw553 kw554 kw52 kw555 ⟨rfl, by decide +kernel, by decide +kernel, by decide +kernel⟩ ⟨by decide, by decide⟩ shN5 dL_law_560) ?_
                                        refine Sim.sq (p1 := 564) (s_aload_n rfl dL_law_563) ?_
                                        refine Sim.sq (p1 := 567) (s_callV (C_X6_builds l) (rfl : vwCl[6]? = some (RX6, TX6, 12)) (by decide) kw943 kw944 kw945 kw59 kw946 ⟨rfl, by decide +kernel, by decide +kernel, by decide +kernel⟩ ⟨by decide, by decide⟩ shN6 dL_law_564) ?_
                                        refine Sim.sq (p1 := 570) (s_icmp_eq dL_law_567 (by decide) rfl) ?_
                                        refine Sim.sq (p1 := 571) (s_iconst (by decide +kernel) dL_law_570) ?_
                                        exact (s_zret rfl dL_law_571)
                                      refine Sim.sq (p1 := 573) (s_aload_n rfl dL_law_572) ?_
                                      refine Sim.sq (p1 := 574) (s_aloadS rfl dL_law_573) ?_
                                      refine Sim.sq (p1 := 575) (s_iload_n rfl dL_law_574) ?_
                                      refine Sim.sq (p1 := 576) (s_iconst (by decide +kernel) dL_law_575) ?_
                                      refine Sim.sq (p1 := 577) (s_iadd dL_law_576) ?_
                                      refine Sim.sq (p1 := 578) (s_sld dL_law_577) ?_
                                      refine Sim.sq (p1 := 581) (s_callV (C_X5_character l) (rfl : vwCl[5]? = some (RX5, TX5, 11)) (by decide) kw556 kw557 kw558 kw52 kw559 ⟨rfl, by decide +kernel, by decide +kernel, by decide +kernel⟩ ⟨by decide, by decide⟩ shN5 dL_law_578) ?_
                                      refine Sim.sq (p1 := 582) (s_aload_n rfl dL_law_581) ?_
                                      refine Sim.sq (p1 := 583) (s_aloadS rfl dL_law_582) ?_
                                      refine Sim.sq (p1 := 584) (s_iload_n rfl dL_law_583) ?_
                                      refine Sim.sq (p1 := 585) (s_iconst (by decide +kernel) dL_law_584) ?_
                                      refine Sim.sq (p1 := 586) (s_iadd dL_law_585) ?_
                                      refine Sim.sq (p1 := 587) (s_sld dL_law_586) ?_
                                      refine Sim.sq (p1 := 590) (s_callV (C_X6_character l) (rfl : vwCl[6]? = some (RX6, TX6, 12)) (by decide) kw947 kw948 kw949 kw59 kw950 ⟨rfl, by decide +kernel, by decide +kernel, by decide +kernel⟩ ⟨by decide, by decide⟩ shN6 dL_law_587) ?_
                                      refine Sim.sq (p1 := 593) (s_icmp_eq dL_law_590 (by decide) rfl) ?_
                                      refine Sim.sq (p1 := 594) (s_iconst (by decide +kernel) dL_law_593) ?_
                                      exact (s_zret rfl dL_law_594)
                                    refine Sim.sq (p1 := 596) (s_aload_n rfl dL_law_595) ?_
                                    refine Sim.sq (p1 := 597) (s_aloadS rfl dL_law_596) ?_
                                    refine Sim.sq (p1 := 598) (s_iload_n rfl dL_law_597) ?_
                                    refine Sim.sq (p1 := 599) (s_iconst (by decide +kernel) dL_law_598) ?_
                                    refine Sim.sq (p1 := 600) (s_iadd dL_law_599) ?_
                                    refine Sim.sq (p1 := 601) (s_sld dL_law_600) ?_
                                    refine Sim.sq (p1 := 602) (s_aloadS rfl dL_law_601) ?_
                                    refine Sim.sq (p1 := 603) (s_iload_n rfl dL_law_602) ?_
                                    refine Sim.sq (p1 := 604) (s_iconst (by decide +kernel) dL_law_603) ?_
                                    refine Sim.sq (p1 := 605) (s_iadd dL_law_604) ?_
                                    refine Sim.sq (p1 := 606) (s_sld dL_law_605) ?_
                                    refine Sim.sq (p1 := 609) (s_callV (C_X5_leaf l) (rfl : vwCl[5]? = some (RX5, TX5, 11)) (by decide) kw565 kw566 kw567 kw52 kw568 ⟨rfl, by decide +kernel, by decide +kernel, by decide +kernel⟩ ⟨by decide, by decide⟩ shN5 dL_law_606) ?_
                                    refine Sim.sq (p1 := 610) (s_aload_n rfl dL_law_609) ?_
                                    refine Sim.sq (p1 := 611) (s_aloadS rfl dL_law_610) ?_
                                    refine Sim.sq (p1 := 612) (s_iload_n rfl dL_law_611) ?_
                                    refine Sim.sq (p1 := 613) (s_iconst (by decide +kernel) dL_law_612) ?_
                                    refine Sim.sq (p1 := 614) (s_iadd dL_law_613) ?_
                                    refine Sim.sq (p1 := 615) (s_sld dL_law_614) ?_
                                    refine Sim.sq (p1 := 616) (s_aloadS rfl dL_law_615) ?_
                                    refine Sim.sq (p1 := 617) (s_iload_n rfl dL_law_616) ?_
                                    refine Sim.sq (p1 := 618) (s_iconst (by decide +kernel) dL_law_617) ?_
                                    refine Sim.sq (p1 := 619) (s_iadd dL_law_618) ?_
                                    refine Sim.sq (p1 := 620) (s_sld dL_law_619) ?_
                                    refine Sim.sq (p1 := 623) (s_callV (C_X6_leaf l) (rfl : vwCl[6]? = some (RX6, TX6, 12)) (by decide) kw951 kw952 kw953 kw59 kw954 ⟨rfl, by decide +kernel, by decide +kernel, by decide +kernel⟩ ⟨by decide, by decide⟩ shN6 dL_law_620) ?_
                                    refine Sim.sq (p1 := 626) (s_icmp_eq dL_law_623 (by decide) rfl) ?_
                                    refine Sim.sq (p1 := 627) (s_iconst (by decide +kernel) dL_law_626) ?_
                                    exact (s_zret rfl dL_law_627)
                                  refine Sim.sq (p1 := 629) (s_aload_n rfl dL_law_628) ?_
                                  refine Sim.sq (p1 := 630) (s_aloadS rfl dL_law_629) ?_
                                  refine Sim.sq (p1 := 631) (s_iload_n rfl dL_law_630) ?_
                                  refine Sim.sq (p1 := 632) (s_iconst (by decide +kernel) dL_law_631) ?_
                                  refine Sim.sq (p1 := 633) (s_iadd dL_law_632) ?_
                                  refine Sim.sq (p1 := 634) (s_sld dL_law_633) ?_
                                  refine Sim.sq (p1 := 637) (s_callV (C_X5_way l) (rfl : vwCl[5]? = some (RX5, TX5, 11)) (by decide) kw582 kw583 kw584 kw52 kw585 ⟨rfl, by decide +kernel, by decide +kernel, by decide +kernel⟩ ⟨by decide, by decide⟩ shN5 dL_law_634) ?_
                                  refine Sim.sq (p1 := 638) (s_aload_n rfl dL_law_637) ?_
                                  refine Sim.sq (p1 := 639) (s_aloadS rfl dL_law_638) ?_
                                  refine Sim.sq (p1 := 640) (s_iload_n rfl dL_law_639) ?_
                                  refine Sim.sq (p1 := 641) (s_iconst (by decide +kernel) dL_law_640) ?_
                                  refine Sim.sq (p1 := 642) (s_iadd dL_law_641) ?_
                                  refine Sim.sq (p1 := 643) (s_sld dL_law_642) ?_
                                  refine Sim.sq (p1 := 646) (s_callV (C_X6_way l) (rfl : vwCl[6]? = some (RX6, TX6, 12)) (by decide) kw955 kw956 kw957 kw59 kw958 ⟨rfl, by decide +kernel, by decide +kernel, by decide +kernel⟩ ⟨by decide, by decide⟩ shN6 dL_law_643) ?_
                                  refine Sim.sq (p1 := 649) (s_icmp_eq dL_law_646 (by decide) rfl) ?_
                                  refine Sim.sq (p1 := 650) (s_iconst (by decide +kernel) dL_law_649) ?_
                                  exact (s_zret rfl dL_law_650)
                                refine Sim.sq (p1 := 652) (s_aload_n rfl dL_law_651) ?_
                                refine Sim.sq (p1 := 653) (s_aloadS rfl dL_law_652) ?_
                                refine Sim.sq (p1 := 654) (s_iload_n rfl dL_law_653) ?_
                                refine Sim.sq (p1 := 655) (s_iconst (by decide +kernel) dL_law_654) ?_
                                refine Sim.sq (p1 := 656) (s_iadd dL_law_655) ?_
                                refine Sim.sq (p1 := 657) (s_sld dL_law_656) ?_
                                refine Sim.sq (p1 := 660) (s_callV (C_X5_find l) (rfl : vwCl[5]? = some (RX5, TX5, 11)) (by decide) kw592 kw593 kw594 kw52 kw595 ⟨rfl, by decide +kernel, by decide +kernel, by decide +kernel⟩ ⟨by decide, by decide⟩ shN5 dL_law_657) ?_
                                refine Sim.sq (p1 := 661) (s_aload_n rfl dL_law_660) ?_
                                refine Sim.sq (p1 := 662) (s_aloadS rfl dL_law_661) ?_
                                refine Sim.sq (p1 := 663) (s_iload_n rfl dL_law_662) ?_
                                refine Sim.sq (p1 := 664) (s_iconst (by decide +kernel) dL_law_663) ?_
                                refine Sim.sq (p1 := 665) (s_iadd dL_law_664) ?_
                                refine Sim.sq (p1 := 666) (s_sld dL_law_665) ?_
                                refine Sim.sq (p1 := 669) (s_callV (C_X6_find l) (rfl : vwCl[6]? = some (RX6, TX6, 12)) (by decide) kw961 kw962 kw963 kw59 kw964 ⟨rfl, by decide +kernel, by decide +kernel, by decide +kernel⟩ ⟨by decide, by decide⟩ shN6 dL_law_666) ?_
                                refine Sim.sq (p1 := 672) (s_icmp_eq dL_law_669 (by decide) rfl) ?_
                                refine Sim.sq (p1 := 673) (s_iconst (by decide +kernel) dL_law_672) ?_
                                exact (s_zret rfl dL_law_673)
                              refine Sim.sq (p1 := 675) (s_aload_n rfl dL_law_674) ?_
                              refine Sim.sq (p1 := 678) (s_callV (C_X5_lines l) (rfl : vwCl[5]? = some (RX5, TX5, 11)) (by decide) kw596 kw597 kw598 kw52 kw599 ⟨rfl, by decide +kernel, by decide +kernel, by decide +kernel⟩ ⟨by decide, by decide⟩ shN5 dL_law_675) ?_
                              refine Sim.sq (p1 := 679) (s_aload_n rfl dL_law_678) ?_
                              refine Sim.sq (p1 := 682) (s_callV (C_X6_lines l) (rfl : vwCl[6]? = some (RX6, TX6, 12)) (by decide) kw965 kw966 kw967 kw59 kw968 ⟨rfl, by decide +kernel, by decide +kernel, by decide +kernel⟩ ⟨by decide, by decide⟩ shN6 dL_law_679) ?_
                              refine Sim.sq (p1 := 685) (s_icmp_eq dL_law_682 (by decide) rfl) ?_
                              refine Sim.sq (p1 := 686) (s_iconst (by decide +kernel) dL_law_685) ?_
                              exact (s_zret rfl dL_law_686)
                            refine Sim.sq (p1 := 688) (s_aload_n rfl dL_law_687) ?_
                            refine Sim.sq (p1 := 689) (s_aloadS rfl dL_law_688) ?_
                            refine Sim.sq (p1 := 690) (s_iload_n rfl dL_law_689) ?_
                            refine Sim.sq (p1 := 691) (s_iconst (by decide +kernel) dL_law_690) ?_
                            refine Sim.sq (p1 := 692) (s_iadd dL_law_691) ?_
                            refine Sim.sq (p1 := 693) (s_sld dL_law_692) ?_
                            refine Sim.sq (p1 := 696) (s_callV (C_X5_lineStart l) (rfl : vwCl[5]? = some (RX5, TX5, 11)) (by decide) kw604 kw605 kw606 kw52 kw607 ⟨rfl, by decide +kernel, by decide +kernel, by decide +kernel⟩ ⟨by decide, by decide⟩ shN5 dL_law_693) ?_
                            refine Sim.sq (p1 := 697) (s_aload_n rfl dL_law_696) ?_
                            refine Sim.sq (p1 := 698) (s_aloadS rfl dL_law_697) ?_
                            refine Sim.sq (p1 := 699) (s_iload_n rfl dL_law_698) ?_
                            refine Sim.sq (p1 := 700) (s_iconst (by decide +kernel) dL_law_699) ?_
                            refine Sim.sq (p1 := 701) (s_iadd dL_law_700) ?_
                            refine Sim.sq (p1 := 702) (s_sld dL_law_701) ?_
                            refine Sim.sq (p1 := 705) (s_callV (C_X6_lineStart l) (rfl : vwCl[6]? = some (RX6, TX6, 12)) (by decide) kw973 kw974 kw975 kw59 kw976 ⟨rfl, by decide +kernel, by decide +kernel, by decide +kernel⟩ ⟨by decide, by decide⟩ shN6 dL_law_702) ?_
                            refine Sim.sq (p1 := 708) (s_icmp_eq dL_law_705 (by decide) rfl) ?_
                            refine Sim.sq (p1 := 709) (s_iconst (by decide +kernel) dL_law_708) ?_
                            exact (s_zret rfl dL_law_709)
                          refine Sim.sq (p1 := 711) (s_aload_n rfl dL_law_710) ?_
                          refine Sim.sq (p1 := 712) (s_aloadS rfl dL_law_711) ?_
                          refine Sim.sq (p1 := 713) (s_iload_n rfl dL_law_712) ?_
                          refine Sim.sq (p1 := 714) (s_iconst (by decide +kernel) dL_law_713) ?_
                          refine Sim.sq (p1 := 715) (s_iadd dL_law_714) ?_
                          refine Sim.sq (p1 := 716) (s_sld dL_law_715) ?_
                          refine Sim.sq (p1 := 719) (s_callV (C_X5_lineOf l) (rfl : vwCl[5]? = some (RX5, TX5, 11)) (by decide) kw612 kw613 kw614 kw52 kw615 ⟨rfl, by decide +kernel, by decide +kernel, by decide +kernel⟩ ⟨by decide, by decide⟩ shN5 dL_law_716) ?_
                          refine Sim.sq (p1 := 720) (s_aload_n rfl dL_law_719) ?_
                          refine Sim.sq (p1 := 721) (s_aloadS rfl dL_law_720) ?_
                          refine Sim.sq (p1 := 722) (s_iload_n rfl dL_law_721) ?_
                          refine Sim.sq (p1 := 723) (s_iconst (by decide +kernel) dL_law_722) ?_
                          refine Sim.sq (p1 := 724) (s_iadd dL_law_723) ?_
                          refine Sim.sq (p1 := 725) (s_sld dL_law_724) ?_
                          refine Sim.sq (p1 := 728) (s_callV (C_X6_lineOf l) (rfl : vwCl[6]? = some (RX6, TX6, 12)) (by decide) kw977 kw978 kw979 kw59 kw980 ⟨rfl, by decide +kernel, by decide +kernel, by decide +kernel⟩ ⟨by decide, by decide⟩ shN6 dL_law_725) ?_
                          refine Sim.sq (p1 := 731) (s_icmp_eq dL_law_728 (by decide) rfl) ?_
                          refine Sim.sq (p1 := 732) (s_iconst (by decide +kernel) dL_law_731) ?_
                          exact (s_zret rfl dL_law_732)
                        refine Sim.sq (p1 := 734) (s_aload_n rfl dL_law_733) ?_
                        refine Sim.sq (p1 := 735) (s_aloadS rfl dL_law_734) ?_
                        refine Sim.sq (p1 := 736) (s_iload_n rfl dL_law_735) ?_
                        refine Sim.sq (p1 := 737) (s_iconst (by decide +kernel) dL_law_736) ?_
                        refine Sim.sq (p1 := 738) (s_iadd dL_law_737) ?_
                        refine Sim.sq (p1 := 739) (s_sld dL_law_738) ?_
                        refine Sim.sq (p1 := 740) (s_aloadS rfl dL_law_739) ?_
                        refine Sim.sq (p1 := 741) (s_iload_n rfl dL_law_740) ?_
                        refine Sim.sq (p1 := 742) (s_iconst (by decide +kernel) dL_law_741) ?_
                        refine Sim.sq (p1 := 743) (s_iadd dL_law_742) ?_
                        refine Sim.sq (p1 := 744) (s_sld dL_law_743) ?_
                        refine Sim.sq (p1 := 747) (s_callV (C_X5_setMark l) (rfl : vwCl[5]? = some (RX5, TX5, 11)) (by decide) kw616 kw617 kw618 kw52 kw619 ⟨rfl, by decide +kernel, by decide +kernel, by decide +kernel⟩ ⟨by decide, by decide⟩ shN5 dL_law_744) ?_
                        refine Sim.sq (p1 := 748) (s_aload_n rfl dL_law_747) ?_
                        refine Sim.sq (p1 := 749) (s_aloadS rfl dL_law_748) ?_
                        refine Sim.sq (p1 := 750) (s_iload_n rfl dL_law_749) ?_
                        refine Sim.sq (p1 := 751) (s_iconst (by decide +kernel) dL_law_750) ?_
                        refine Sim.sq (p1 := 752) (s_iadd dL_law_751) ?_
                        refine Sim.sq (p1 := 753) (s_sld dL_law_752) ?_
                        refine Sim.sq (p1 := 754) (s_aloadS rfl dL_law_753) ?_
                        refine Sim.sq (p1 := 755) (s_iload_n rfl dL_law_754) ?_
                        refine Sim.sq (p1 := 756) (s_iconst (by decide +kernel) dL_law_755) ?_
                        refine Sim.sq (p1 := 757) (s_iadd dL_law_756) ?_
                        refine Sim.sq (p1 := 758) (s_sld dL_law_757) ?_
                        refine Sim.sq (p1 := 761) (s_callV (C_X6_setMark l) (rfl : vwCl[6]? = some (RX6, TX6, 12)) (by decide) kw981 kw982 kw983 kw59 kw984 ⟨rfl, by decide +kernel, by decide +kernel, by decide +kernel⟩ ⟨by decide, by decide⟩ shN6 dL_law_758) ?_
                        refine Sim.sq (p1 := 764) (s_icmp_eq dL_law_761 (by decide) rfl) ?_
                        refine Sim.sq (p1 := 765) (s_iconst (by decide +kernel) dL_law_764) ?_
                        exact (s_zret rfl dL_law_765)
                      refine Sim.sq (p1 := 767) (s_aload_n rfl dL_law_766) ?_
                      refine Sim.sq (p1 := 768) (s_aloadS rfl dL_law_767) ?_
                      refine Sim.sq (p1 := 769) (s_iload_n rfl dL_law_768) ?_
                      refine Sim.sq (p1 := 770) (s_iconst (by decide +kernel) dL_law_769) ?_
                      refine Sim.sq (p1 := 771) (s_iadd dL_law_770) ?_
                      refine Sim.sq (p1 := 772) (s_sld dL_law_771) ?_
                      refine Sim.sq (p1 := 775) (s_callV (C_X5_mark l) (rfl : vwCl[5]? = some (RX5, TX5, 11)) (by decide) kw628 kw629 kw630 kw52 kw631 ⟨rfl, by decide +kernel, by decide +kernel, by decide +kernel⟩ ⟨by decide, by decide⟩ shN5 dL_law_772) ?_
                      refine Sim.sq (p1 := 776) (s_aload_n rfl dL_law_775) ?_
                      refine Sim.sq (p1 := 777) (s_aloadS rfl dL_law_776) ?_
                      refine Sim.sq (p1 := 778) (s_iload_n rfl dL_law_777) ?_
                      refine Sim.sq (p1 := 779) (s_iconst (by decide +kernel) dL_law_778) ?_
                      refine Sim.sq (p1 := 780) (s_iadd dL_law_779) ?_
                      refine Sim.sq (p1 := 781) (s_sld dL_law_780) ?_
                      refine Sim.sq (p1 := 784) (s_callV (C_X6_mark l) (rfl : vwCl[6]? = some (RX6, TX6, 12)) (by decide) kw988 kw989 kw990 kw59 kw991 ⟨rfl, by decide +kernel, by decide +kernel, by decide +kernel⟩ ⟨by decide, by decide⟩ shN6 dL_law_781) ?_
                      refine Sim.sq (p1 := 787) (s_icmp_eq dL_law_784 (by decide) rfl) ?_
                      refine Sim.sq (p1 := 788) (s_iconst (by decide +kernel) dL_law_787) ?_
                      exact (s_zret rfl dL_law_788)
                    refine Sim.sq (p1 := 790) (s_aload_n rfl dL_law_789) ?_
                    refine Sim.sq (p1 := 793) (s_callV (C_X5_ring l) (rfl : vwCl[5]? = some (RX5, TX5, 11)) (by decide) kw632 kw633 kw634 kw52 kw635 ⟨rfl, by decide +kernel, by decide +kernel, by decide +kernel⟩ ⟨by decide, by decide⟩ shN5 dL_law_790) ?_
                    refine Sim.sq (p1 := 794) (s_aload_n rfl dL_law_793) ?_
                    refine Sim.sq (p1 := 797) (s_callV (C_X6_ring l) (rfl : vwCl[6]? = some (RX6, TX6, 12)) (by decide) kw992 kw993 kw994 kw59 kw995 ⟨rfl, by decide +kernel, by decide +kernel, by decide +kernel⟩ ⟨by decide, by decide⟩ shN6 dL_law_794) ?_
                    refine Sim.sq (p1 := 800) (s_icmp_eq dL_law_797 (by decide) rfl) ?_
                    refine Sim.sq (p1 := 801) (s_iconst (by decide +kernel) dL_law_800) ?_
                    exact (s_zret rfl dL_law_801)
                  refine Sim.sq (p1 := 803) (s_aload_n rfl dL_law_802) ?_
                  refine Sim.sq (p1 := 804) (s_aloadS rfl dL_law_803) ?_
                  refine Sim.sq (p1 := 805) (s_iload_n rfl dL_law_804) ?_
                  refine Sim.sq (p1 := 806) (s_iconst (by decide +kernel) dL_law_805) ?_
                  refine Sim.sq (p1 := 807) (s_iadd dL_law_806) ?_
                  refine Sim.sq (p1 := 808) (s_sld dL_law_807) ?_
                  refine Sim.sq (p1 := 809) (s_aloadS rfl dL_law_808) ?_
                  refine Sim.sq (p1 := 810) (s_iload_n rfl dL_law_809) ?_
                  refine Sim.sq (p1 := 811) (s_iconst (by decide +kernel) dL_law_810) ?_
                  refine Sim.sq (p1 := 812) (s_iadd dL_law_811) ?_
                  refine Sim.sq (p1 := 813) (s_sld dL_law_812) ?_
                  refine Sim.sq (p1 := 816) (s_callV (C_X5_ofRing l) (rfl : vwCl[5]? = some (RX5, TX5, 11)) (by decide) kw636 kw637 kw638 kw52 kw639 ⟨rfl, by decide +kernel, by decide +kernel, by decide +kernel⟩ ⟨by decide, by decide⟩ shN5 dL_law_813) ?_
                  refine Sim.sq (p1 := 817) (s_aload_n rfl dL_law_816) ?_
                  refine Sim.sq (p1 := 818) (s_aloadS rfl dL_law_817) ?_
                  refine Sim.sq (p1 := 819) (s_iload_n rfl dL_law_818) ?_
                  refine Sim.sq (p1 := 820) (s_iconst (by decide +kernel) dL_law_819) ?_
                  refine Sim.sq (p1 := 821) (s_iadd dL_law_820) ?_
                  refine Sim.sq (p1 := 822) (s_sld dL_law_821) ?_
                  refine Sim.sq (p1 := 823) (s_aloadS rfl dL_law_822) ?_
                  refine Sim.sq (p1 := 824) (s_iload_n rfl dL_law_823) ?_
                  refine Sim.sq (p1 := 825) (s_iconst (by decide +kernel) dL_law_824) ?_
                  refine Sim.sq (p1 := 826) (s_iadd dL_law_825) ?_
                  refine Sim.sq (p1 := 827) (s_sld dL_law_826) ?_
                  refine Sim.sq (p1 := 830) (s_callV (C_X6_ofRing l) (rfl : vwCl[6]? = some (RX6, TX6, 12)) (by decide) kw996 kw997 kw998 kw59 kw999 ⟨rfl, by decide +kernel, by decide +kernel, by decide +kernel⟩ ⟨by decide, by decide⟩ shN6 dL_law_827) ?_
                  refine Sim.sq (p1 := 833) (s_icmp_eq dL_law_830 (by decide) rfl) ?_
                  refine Sim.sq (p1 := 834) (s_iconst (by decide +kernel) dL_law_833) ?_
                  exact (s_zret rfl dL_law_834)
                refine Sim.sq (p1 := 836) (s_aload_n rfl dL_law_835) ?_
                refine Sim.sq (p1 := 837) (s_aloadS rfl dL_law_836) ?_
                refine Sim.sq (p1 := 838) (s_iload_n rfl dL_law_837) ?_
                refine Sim.sq (p1 := 839) (s_iconst (by decide +kernel) dL_law_838) ?_
                refine Sim.sq (p1 := 840) (s_iadd dL_law_839) ?_
                refine Sim.sq (p1 := 841) (s_sld dL_law_840) ?_
                refine Sim.sq (p1 := 842) (s_aloadS rfl dL_law_841) ?_
                refine Sim.sq (p1 := 843) (s_iload_n rfl dL_law_842) ?_
                refine Sim.sq (p1 := 844) (s_iconst (by decide +kernel) dL_law_843) ?_
                refine Sim.sq (p1 := 845) (s_iadd dL_law_844) ?_
                refine Sim.sq (p1 := 846) (s_sld dL_law_845) ?_
                refine Sim.sq (p1 := 849) (s_callV (C_X5_ringCharacter l) (rfl : vwCl[5]? = some (RX5, TX5, 11)) (by decide) kw640 kw641 kw642 kw52 kw643 ⟨rfl, by decide +kernel, by decide +kernel, by decide +kernel⟩ ⟨by decide, by decide⟩ shN5 dL_law_846) ?_
                refine Sim.sq (p1 := 850) (s_aload_n rfl dL_law_849) ?_
                refine Sim.sq (p1 := 851) (s_aloadS rfl dL_law_850) ?_
                refine Sim.sq (p1 := 852) (s_iload_n rfl dL_law_851) ?_
                refine Sim.sq (p1 := 853) (s_iconst (by decide +kernel) dL_law_852) ?_
                refine Sim.sq (p1 := 854) (s_iadd dL_law_853) ?_
                refine Sim.sq (p1 := 855) (s_sld dL_law_854) ?_
                refine Sim.sq (p1 := 856) (s_aloadS rfl dL_law_855) ?_
                refine Sim.sq (p1 := 857) (s_iload_n rfl dL_law_856) ?_
                refine Sim.sq (p1 := 858) (s_iconst (by decide +kernel) dL_law_857) ?_
                refine Sim.sq (p1 := 859) (s_iadd dL_law_858) ?_
                refine Sim.sq (p1 := 860) (s_sld dL_law_859) ?_
                refine Sim.sq (p1 := 863) (s_callV (C_X6_ringCharacter l) (rfl : vwCl[6]? = some (RX6, TX6, 12)) (by decide) kw1000 kw1001 kw1002 kw59 kw1003 ⟨rfl, by decide +kernel, by decide +kernel, by decide +kernel⟩ ⟨by decide, by decide⟩ shN6 dL_law_860) ?_
                refine Sim.sq (p1 := 866) (s_icmp_eq dL_law_863 (by decide) rfl) ?_
                refine Sim.sq (p1 := 867) (s_iconst (by decide +kernel) dL_law_866) ?_
                exact (s_zret rfl dL_law_867)
              refine Sim.sq (p1 := 869) (s_aload_n rfl dL_law_868) ?_
              refine Sim.sq (p1 := 870) (s_aloadS rfl dL_law_869) ?_
              refine Sim.sq (p1 := 871) (s_iload_n rfl dL_law_870) ?_
              refine Sim.sq (p1 := 872) (s_iconst (by decide +kernel) dL_law_871) ?_
              refine Sim.sq (p1 := 873) (s_iadd dL_law_872) ?_
              refine Sim.sq (p1 := 874) (s_sld dL_law_873) ?_
              refine Sim.sq (p1 := 877) (s_callV (C_X5_keep l) (rfl : vwCl[5]? = some (RX5, TX5, 11)) (by decide) kw644 kw645 kw646 kw52 kw647 ⟨rfl, by decide +kernel, by decide +kernel, by decide +kernel⟩ ⟨by decide, by decide⟩ shN5 dL_law_874) ?_
              refine Sim.sq (p1 := 878) (s_aload_n rfl dL_law_877) ?_
              refine Sim.sq (p1 := 879) (s_aloadS rfl dL_law_878) ?_
              refine Sim.sq (p1 := 880) (s_iload_n rfl dL_law_879) ?_
              refine Sim.sq (p1 := 881) (s_iconst (by decide +kernel) dL_law_880) ?_
              refine Sim.sq (p1 := 882) (s_iadd dL_law_881) ?_
              refine Sim.sq (p1 := 883) (s_sld dL_law_882) ?_
              refine Sim.sq (p1 := 886) (s_callV (C_X6_keep l) (rfl : vwCl[6]? = some (RX6, TX6, 12)) (by decide) kw1004 kw1005 kw1006 kw59 kw1007 ⟨rfl, by decide +kernel, by decide +kernel, by decide +kernel⟩ ⟨by decide, by decide⟩ shN6 dL_law_883) ?_
              refine Sim.sq (p1 := 889) (s_icmp_eq dL_law_886 (by decide) rfl) ?_
              refine Sim.sq (p1 := 890) (s_iconst (by decide +kernel) dL_law_889) ?_
              exact (s_zret rfl dL_law_890)
            refine Sim.sq (p1 := 892) (s_aload_n rfl dL_law_891) ?_
            refine Sim.sq (p1 := 893) (s_aloadS rfl dL_law_892) ?_
            refine Sim.sq (p1 := 894) (s_iload_n rfl dL_law_893) ?_
            refine Sim.sq (p1 := 895) (s_iconst (by decide +kernel) dL_law_894) ?_
            refine Sim.sq (p1 := 896) (s_iadd dL_law_895) ?_
            refine Sim.sq (p1 := 897) (s_sld dL_law_896) ?_
            refine Sim.sq (p1 := 900) (s_callV (C_X5_goBack l) (rfl : vwCl[5]? = some (RX5, TX5, 11)) (by decide) kw648 kw649 kw650 kw52 kw651 ⟨rfl, by decide +kernel, by decide +kernel, by decide +kernel⟩ ⟨by decide, by decide⟩ shN5 dL_law_897) ?_
            refine Sim.sq (p1 := 901) (s_aload_n rfl dL_law_900) ?_
            refine Sim.sq (p1 := 902) (s_aloadS rfl dL_law_901) ?_
            refine Sim.sq (p1 := 903) (s_iload_n rfl dL_law_902) ?_
            refine Sim.sq (p1 := 904) (s_iconst (by decide +kernel) dL_law_903) ?_
            refine Sim.sq (p1 := 905) (s_iadd dL_law_904) ?_
            refine Sim.sq (p1 := 906) (s_sld dL_law_905) ?_
            refine Sim.sq (p1 := 909) (s_callV (C_X6_goBack l) (rfl : vwCl[6]? = some (RX6, TX6, 12)) (by decide) kw1011 kw1012 kw1013 kw59 kw1014 ⟨rfl, by decide +kernel, by decide +kernel, by decide +kernel⟩ ⟨by decide, by decide⟩ shN6 dL_law_906) ?_
            refine Sim.sq (p1 := 912) (s_icmp_eq dL_law_909 (by decide) rfl) ?_
            refine Sim.sq (p1 := 913) (s_iconst (by decide +kernel) dL_law_912) ?_
            exact (s_zret rfl dL_law_913)
          refine Sim.sq (p1 := 915) (s_aload_n rfl dL_law_914) ?_
          refine Sim.sq (p1 := 916) (s_aloadS rfl dL_law_915) ?_
          refine Sim.sq (p1 := 917) (s_iload_n rfl dL_law_916) ?_
          refine Sim.sq (p1 := 918) (s_iconst (by decide +kernel) dL_law_917) ?_
          refine Sim.sq (p1 := 919) (s_iadd dL_law_918) ?_
          refine Sim.sq (p1 := 920) (s_sld dL_law_919) ?_
          refine Sim.sq (p1 := 923) (s_callV (C_X5_difference l) (rfl : vwCl[5]? = some (RX5, TX5, 11)) (by decide) kw656 kw657 kw658 kw52 kw659 ⟨rfl, by decide +kernel, by decide +kernel, by decide +kernel⟩ ⟨by decide, by decide⟩ shN5 dL_law_920) ?_
          refine Sim.sq (p1 := 924) (s_aload_n rfl dL_law_923) ?_
          refine Sim.sq (p1 := 925) (s_aloadS rfl dL_law_924) ?_
          refine Sim.sq (p1 := 926) (s_iload_n rfl dL_law_925) ?_
          refine Sim.sq (p1 := 927) (s_iconst (by decide +kernel) dL_law_926) ?_
          refine Sim.sq (p1 := 928) (s_iadd dL_law_927) ?_
          refine Sim.sq (p1 := 929) (s_sld dL_law_928) ?_
          refine Sim.sq (p1 := 932) (s_callV (C_X6_difference l) (rfl : vwCl[6]? = some (RX6, TX6, 12)) (by decide) kw1015 kw1016 kw1017 kw59 kw1018 ⟨rfl, by decide +kernel, by decide +kernel, by decide +kernel⟩ ⟨by decide, by decide⟩ shN6 dL_law_929) ?_
          refine Sim.sq (p1 := 935) (s_icmp_eq dL_law_932 (by decide) rfl) ?_
          refine Sim.sq (p1 := 936) (s_iconst (by decide +kernel) dL_law_935) ?_
          exact (s_zret rfl dL_law_936)
        refine Sim.sq (p1 := 938) (s_aload_n rfl dL_law_937) ?_
        refine Sim.sq (p1 := 941) (s_callV (C_X5_undo l) (rfl : vwCl[5]? = some (RX5, TX5, 11)) (by decide) kw665 kw666 kw667 kw52 kw668 ⟨rfl, by decide +kernel, by decide +kernel, by decide +kernel⟩ ⟨by decide, by decide⟩ shN5 dL_law_938) ?_
        refine Sim.sq (p1 := 942) (s_aload_n rfl dL_law_941) ?_
        refine Sim.sq (p1 := 945) (s_callV (C_X6_undo l) (rfl : vwCl[6]? = some (RX6, TX6, 12)) (by decide) kw1019 kw1020 kw1021 kw59 kw1022 ⟨rfl, by decide +kernel, by decide +kernel, by decide +kernel⟩ ⟨by decide, by decide⟩ shN6 dL_law_942) ?_
        refine Sim.sq (p1 := 948) (s_icmp_eq dL_law_945 (by decide) rfl) ?_
        refine Sim.sq (p1 := 949) (s_iconst (by decide +kernel) dL_law_948) ?_
        exact (s_zret rfl dL_law_949)
      refine Sim.sq (p1 := 951) (s_aload_n rfl dL_law_950) ?_
      refine Sim.sq (p1 := 954) (s_callV (C_X5_digest l) (rfl : vwCl[5]? = some (RX5, TX5, 11)) (by decide) kw673 kw674 kw675 kw52 kw676 ⟨rfl, by decide +kernel, by decide +kernel, by decide +kernel⟩ ⟨by decide, by decide⟩ shN5 dL_law_951) ?_
      refine Sim.sq (p1 := 955) (s_aload_n rfl dL_law_954) ?_
      refine Sim.sq (p1 := 958) (s_callV (C_X6_digest l) (rfl : vwCl[6]? = some (RX6, TX6, 12)) (by decide) kw1023 kw1024 kw1025 kw59 kw1026 ⟨rfl, by decide +kernel, by decide +kernel, by decide +kernel⟩ ⟨by decide, by decide⟩ shN6 dL_law_955) ?_
      refine Sim.sq (p1 := 959) (s_lcmp dL_law_958) ?_
      refine Sim.sq (p1 := 962) (s_if_eq dL_law_959 (by decide) rfl) ?_
      refine Sim.sq (p1 := 963) (s_iconst (by decide +kernel) dL_law_962) ?_
      exact (s_zret rfl dL_law_963)
    refine Sim.sq (p1 := 967) (s_iinc (by decide +kernel) (by decide) dL_law_964) ?_
    exact (s_goto dL_law_967 (by decide) rfl)
  refine Sim.sq (p1 := 971) (s_iconst (by decide +kernel) dL_law_970) ?_
  exact (s_zret rfl dL_law_971)
