/-! ===== what the constructors name ===== -/
theorem now_X11_1 : OW RX11 1 := ⟨mg 103 (by decide +kernel) rfl, mg 104 (by decide +kernel) rfl, mg 105 (by decide +kernel) rfl⟩
theorem nnw_X11_7 : NW RX11 7 0 := ⟨_, _, _, kc_0, mg 106 (by decide +kernel) rfl, mg 107 (by decide +kernel) rfl, mg 78 (by decide +kernel) rfl⟩
theorem ncw_X0_init : Jvm.Cond.code yX0_init cX0_init 2 none ∈ GT := mg 110 (by decide +kernel) rfl
theorem niw_X0_init : Jvm.Cond.initialized yX0_init.cls ∈ GT := mg 78 (by decide +kernel) rfl
theorem nnm_X0_init : Jvm.Cond.instanceMethod yX0_init ∈ GT := mg 109 (by decide +kernel) rfl
theorem nlk_X11_9 : LkB RX11 9 yX0_init cX0_init 2 none 0 := ⟨mg 108 (by decide +kernel) rfl, ncw_X0_init, niw_X0_init, ⟨by decide, by decide, by decide⟩⟩
theorem now_X0_3 : OW RX0 3 := ⟨mg 111 (by decide +kernel) rfl, mg 104 (by decide +kernel) rfl, mg 105 (by decide +kernel) rfl⟩
theorem ncl_X0_9 : Jvm.Cond.classLink RX0 9 (aqC (ak 13)) ∈ GT := mg 112 (by decide +kernel) rfl
theorem nff_X0_11 : FF RX0 11 0 0 := ⟨_, _, _, kc_0, by decide, mg 266 (by decide +kernel) rfl, rfl, rfl⟩
theorem ncl_X0_17 : Jvm.Cond.classLink RX0 17 (aqC (ak 14)) ∈ GT := mg 114 (by decide +kernel) rfl
theorem nff_X0_19 : FF RX0 19 0 1 := ⟨_, _, _, kc_0, by decide, mg 268 (by decide +kernel) rfl, rfl, rfl⟩
theorem nnw_X0_23 : NW RX0 23 1 := ⟨_, _, _, kc_1, mg 116 (by decide +kernel) rfl, mg 117 (by decide +kernel) rfl, mg 79 (by decide +kernel) rfl⟩
theorem ncw_X1_init : Jvm.Cond.code yX1_init cX1_init 1 none ∈ GT := mg 120 (by decide +kernel) rfl
theorem niw_X1_init : Jvm.Cond.initialized yX1_init.cls ∈ GT := mg 79 (by decide +kernel) rfl
theorem nnm_X1_init : Jvm.Cond.instanceMethod yX1_init ∈ GT := mg 119 (by decide +kernel) rfl
theorem nlk_X0_25 : LkN RX0 25 yX1_init cX1_init 1 none 0 := ⟨⟨"PaperAger", List.mem_filter.mpr ⟨List.mem_of_getElem? (i := 118) (by decide +kernel), rfl⟩⟩, ncw_X1_init, niw_X1_init, ⟨by decide, by decide, by decide⟩⟩
theorem now_X1_3 : OW RX1 3 := ⟨mg 121 (by decide +kernel) rfl, mg 104 (by decide +kernel) rfl, mg 105 (by decide +kernel) rfl⟩
theorem nac_0 : Jvm.Cond.arrayClass (aty 0) ∈ GT := mg 131 (by decide +kernel) rfl
theorem nff_X1_11 : FF RX1 11 1 0 := ⟨_, _, _, kc_1, by decide, mg 122 (by decide +kernel) rfl, rfl, rfl⟩
theorem nfp_X1_15 : FPI RX1 15 1 1 := ⟨⟨_, _, _, kc_1, by decide, mg 123 (by decide +kernel) rfl, rfl, by decide⟩, rfl, rfl⟩
theorem nff_X0_26 : FF RX0 26 0 2 := ⟨_, _, _, kc_0, by decide, mg 271 (by decide +kernel) rfl, rfl, rfl⟩
theorem nnw_X0_30 : NW RX0 30 2 := ⟨_, _, _, kc_2, mg 132 (by decide +kernel) rfl, mg 133 (by decide +kernel) rfl, mg 80 (by decide +kernel) rfl⟩
theorem ncw_X2_init : Jvm.Cond.code yX2_init cX2_init 1 none ∈ GT := mg 136 (by decide +kernel) rfl
theorem niw_X2_init : Jvm.Cond.initialized yX2_init.cls ∈ GT := mg 80 (by decide +kernel) rfl
theorem nnm_X2_init : Jvm.Cond.instanceMethod yX2_init ∈ GT := mg 135 (by decide +kernel) rfl
theorem nlk_X0_32 : LkN RX0 32 yX2_init cX2_init 1 none 0 := ⟨⟨"PaperAger", List.mem_filter.mpr ⟨List.mem_of_getElem? (i := 134) (by decide +kernel), rfl⟩⟩, ncw_X2_init, niw_X2_init, ⟨by decide, by decide, by decide⟩⟩
theorem now_X2_3 : OW RX2 3 := ⟨mg 137 (by decide +kernel) rfl, mg 104 (by decide +kernel) rfl, mg 105 (by decide +kernel) rfl⟩
theorem nff_X2_11 : FF RX2 11 2 0 := ⟨_, _, _, kc_2, by decide, mg 138 (by decide +kernel) rfl, rfl, rfl⟩
theorem nff_X2_15 : FF RX2 15 2 1 := ⟨_, _, _, kc_2, by decide, mg 140 (by decide +kernel) rfl, rfl, rfl⟩
theorem nff_X2_18 : FF RX2 18 2 2 := ⟨_, _, _, kc_2, by decide, mg 142 (by decide +kernel) rfl, rfl, rfl⟩
theorem nff_X2_21 : FF RX2 21 2 3 := ⟨_, _, _, kc_2, by decide, mg 144 (by decide +kernel) rfl, rfl, rfl⟩
theorem nfp_X2_24 : FPI RX2 24 2 4 := ⟨⟨_, _, _, kc_2, by decide, mg 146 (by decide +kernel) rfl, rfl, by decide⟩, rfl, rfl⟩
theorem nff_X0_33 : FF RX0 33 0 3 := ⟨_, _, _, kc_0, by decide, mg 273 (by decide +kernel) rfl, rfl, rfl⟩
theorem nnw_X0_37 : NW RX0 37 3 := ⟨_, _, _, kc_3, mg 160 (by decide +kernel) rfl, mg 161 (by decide +kernel) rfl, mg 81 (by decide +kernel) rfl⟩
theorem ncw_X3_init : Jvm.Cond.code yX3_init cX3_init 1 none ∈ GT := mg 164 (by decide +kernel) rfl
theorem niw_X3_init : Jvm.Cond.initialized yX3_init.cls ∈ GT := mg 81 (by decide +kernel) rfl
theorem nnm_X3_init : Jvm.Cond.instanceMethod yX3_init ∈ GT := mg 163 (by decide +kernel) rfl
theorem nlk_X0_39 : LkN RX0 39 yX3_init cX3_init 1 none 0 := ⟨⟨"PaperAger", List.mem_filter.mpr ⟨List.mem_of_getElem? (i := 162) (by decide +kernel), rfl⟩⟩, ncw_X3_init, niw_X3_init, ⟨by decide, by decide, by decide⟩⟩
theorem now_X3_3 : OW RX3 3 := ⟨mg 165 (by decide +kernel) rfl, mg 104 (by decide +kernel) rfl, mg 105 (by decide +kernel) rfl⟩
theorem nff_X3_11 : FF RX3 11 3 0 := ⟨_, _, _, kc_3, by decide, mg 166 (by decide +kernel) rfl, rfl, rfl⟩
theorem nff_X3_17 : FF RX3 17 3 1 := ⟨_, _, _, kc_3, by decide, mg 167 (by decide +kernel) rfl, rfl, rfl⟩
theorem nff_X3_20 : FF RX3 20 3 2 := ⟨_, _, _, kc_3, by decide, mg 168 (by decide +kernel) rfl, rfl, rfl⟩
theorem nff_X3_23 : FF RX3 23 3 3 := ⟨_, _, _, kc_3, by decide, mg 169 (by decide +kernel) rfl, rfl, rfl⟩
theorem nff_X3_26 : FF RX3 26 3 4 := ⟨_, _, _, kc_3, by decide, mg 170 (by decide +kernel) rfl, rfl, rfl⟩
theorem nfp_X3_29 : FPI RX3 29 3 5 := ⟨⟨_, _, _, kc_3, by decide, mg 171 (by decide +kernel) rfl, rfl, by decide⟩, rfl, rfl⟩
theorem nfp_X3_33 : FPI RX3 33 3 6 := ⟨⟨_, _, _, kc_3, by decide, mg 172 (by decide +kernel) rfl, rfl, by decide⟩, rfl, rfl⟩
theorem nff_X0_40 : FF RX0 40 0 4 := ⟨_, _, _, kc_0, by decide, mg 276 (by decide +kernel) rfl, rfl, rfl⟩
theorem nff_X0_46 : FF RX0 46 0 5 := ⟨_, _, _, kc_0, by decide, mg 278 (by decide +kernel) rfl, rfl, rfl⟩
theorem nfp_X0_50 : FPI RX0 50 0 6 := ⟨⟨_, _, _, kc_0, by decide, mg 279 (by decide +kernel) rfl, rfl, by decide⟩, rfl, rfl⟩
theorem nfp_X0_54 : FPI RX0 54 0 7 := ⟨⟨_, _, _, kc_0, by decide, mg 282 (by decide +kernel) rfl, rfl, by decide⟩, rfl, rfl⟩
theorem nfp_X0_57 : FPI RX0 57 0 8 := ⟨⟨_, _, _, kc_0, by decide, mg 285 (by decide +kernel) rfl, rfl, by decide⟩, rfl, rfl⟩
theorem nfp_X0_60 : FPI RX0 60 0 9 := ⟨⟨_, _, _, kc_0, by decide, mg 288 (by decide +kernel) rfl, rfl, by decide⟩, rfl, rfl⟩
theorem nfp_X0_63 : FPI RX0 63 0 10 := ⟨⟨_, _, _, kc_0, by decide, mg 290 (by decide +kernel) rfl, rfl, by decide⟩, rfl, rfl⟩
theorem nfr_X0_11 : FL RX0 11 0 0 := ⟨_, _, _, kc_0, by decide, mg 266 (by decide +kernel) rfl⟩
theorem nnw_X0_9 : NW RX0 9 6 := ⟨_, _, _, kc_6, mg 112 (by decide +kernel) rfl, mg 189 (by decide +kernel) rfl, mg 82 (by decide +kernel) rfl⟩
theorem ncw_X6_init : Jvm.Cond.code yX6_init cX6_init 1 none ∈ GT := mg 192 (by decide +kernel) rfl
theorem niw_X6_init : Jvm.Cond.initialized yX6_init.cls ∈ GT := mg 82 (by decide +kernel) rfl
theorem nnm_X6_init : Jvm.Cond.instanceMethod yX6_init ∈ GT := mg 191 (by decide +kernel) rfl
theorem nlk_X0_66 : LkN RX0 66 yX6_init cX6_init 1 none 0 := ⟨⟨"PaperAger", List.mem_filter.mpr ⟨List.mem_of_getElem? (i := 190) (by decide +kernel), rfl⟩⟩, ncw_X6_init, niw_X6_init, ⟨by decide, by decide, by decide⟩⟩
theorem now_X6_3 : OW RX6 3 := ⟨mg 193 (by decide +kernel) rfl, mg 104 (by decide +kernel) rfl, mg 105 (by decide +kernel) rfl⟩
theorem nfr_X0_19 : FL RX0 19 0 1 := ⟨_, _, _, kc_0, by decide, mg 268 (by decide +kernel) rfl⟩
theorem nnw_X0_17 : NW RX0 17 5 := ⟨_, _, _, kc_5, mg 114 (by decide +kernel) rfl, mg 218 (by decide +kernel) rfl, mg 83 (by decide +kernel) rfl⟩
theorem ncw_X5_init : Jvm.Cond.code yX5_init cX5_init 1 none ∈ GT := mg 221 (by decide +kernel) rfl
theorem niw_X5_init : Jvm.Cond.initialized yX5_init.cls ∈ GT := mg 83 (by decide +kernel) rfl
theorem nnm_X5_init : Jvm.Cond.instanceMethod yX5_init ∈ GT := mg 220 (by decide +kernel) rfl
theorem nlk_X0_67 : LkN RX0 67 yX5_init cX5_init 1 none 0 := ⟨⟨"PaperAger", List.mem_filter.mpr ⟨List.mem_of_getElem? (i := 219) (by decide +kernel), rfl⟩⟩, ncw_X5_init, niw_X5_init, ⟨by decide, by decide, by decide⟩⟩
theorem now_X5_3 : OW RX5 3 := ⟨mg 222 (by decide +kernel) rfl, mg 104 (by decide +kernel) rfl, mg 105 (by decide +kernel) rfl⟩
theorem nff_X11_10 : FF RX11 10 11 0 := ⟨_, _, _, kc_11, by decide, mg 442 (by decide +kernel) rfl, rfl, rfl⟩
theorem nff_X11_16 : FF RX11 16 11 1 := ⟨_, _, _, kc_11, by decide, mg 443 (by decide +kernel) rfl, rfl, rfl⟩
theorem nfp_X11_19 : FPZ RX11 19 11 2 := ⟨⟨_, _, _, kc_11, by decide, mg 444 (by decide +kernel) rfl, rfl, by decide⟩, rfl, rfl⟩
theorem nnw_X11_23 : NW RX11 23 7 := ⟨_, _, _, kc_7, mg 315 (by decide +kernel) rfl, mg 316 (by decide +kernel) rfl, mg 84 (by decide +kernel) rfl⟩
theorem ncw_X7_init : Jvm.Cond.code yX7_init cX7_init 1 none ∈ GT := mg 319 (by decide +kernel) rfl
theorem niw_X7_init : Jvm.Cond.initialized yX7_init.cls ∈ GT := mg 84 (by decide +kernel) rfl
theorem nnm_X7_init : Jvm.Cond.instanceMethod yX7_init ∈ GT := mg 318 (by decide +kernel) rfl
theorem nlk_X11_25 : LkN RX11 25 yX7_init cX7_init 1 none 0 := ⟨⟨"PaperAger", List.mem_filter.mpr ⟨List.mem_of_getElem? (i := 317) (by decide +kernel), rfl⟩⟩, ncw_X7_init, niw_X7_init, ⟨by decide, by decide, by decide⟩⟩
theorem now_X7_3 : OW RX7 3 := ⟨mg 320 (by decide +kernel) rfl, mg 104 (by decide +kernel) rfl, mg 105 (by decide +kernel) rfl⟩
theorem nac_1 : Jvm.Cond.arrayClass (aty 1) ∈ GT := mg 330 (by decide +kernel) rfl
theorem nff_X7_11 : FF RX7 11 7 0 := ⟨_, _, _, kc_7, by decide, mg 321 (by decide +kernel) rfl, rfl, rfl⟩
theorem nfp_X7_15 : FPI RX7 15 7 1 := ⟨⟨_, _, _, kc_7, by decide, mg 322 (by decide +kernel) rfl, rfl, by decide⟩, rfl, rfl⟩
theorem nff_X11_26 : FF RX11 26 11 3 := ⟨_, _, _, kc_11, by decide, mg 445 (by decide +kernel) rfl, rfl, rfl⟩
theorem nnw_X11_30 : NW RX11 30 4 := ⟨_, _, _, kc_4, mg 331 (by decide +kernel) rfl, mg 332 (by decide +kernel) rfl, mg 85 (by decide +kernel) rfl⟩
theorem ncw_X4_init : Jvm.Cond.code yX4_init cX4_init 1 none ∈ GT := mg 335 (by decide +kernel) rfl
theorem niw_X4_init : Jvm.Cond.initialized yX4_init.cls ∈ GT := mg 85 (by decide +kernel) rfl
theorem nnm_X4_init : Jvm.Cond.instanceMethod yX4_init ∈ GT := mg 334 (by decide +kernel) rfl
theorem nlk_X11_32 : LkN RX11 32 yX4_init cX4_init 1 none 0 := ⟨⟨"PaperAger", List.mem_filter.mpr ⟨List.mem_of_getElem? (i := 333) (by decide +kernel), rfl⟩⟩, ncw_X4_init, niw_X4_init, ⟨by decide, by decide, by decide⟩⟩
theorem now_X4_3 : OW RX4 3 := ⟨mg 336 (by decide +kernel) rfl, mg 104 (by decide +kernel) rfl, mg 105 (by decide +kernel) rfl⟩
theorem nnw_X4_9 : NW RX4 9 3 := ⟨_, _, _, kc_3, mg 337 (by decide +kernel) rfl, mg 161 (by decide +kernel) rfl, mg 81 (by decide +kernel) rfl⟩
theorem nlk_X4_11 : LkN RX4 11 yX3_init cX3_init 1 none 0 := ⟨⟨"PaperAger", List.mem_filter.mpr ⟨List.mem_of_getElem? (i := 338) (by decide +kernel), rfl⟩⟩, ncw_X3_init, niw_X3_init, ⟨by decide, by decide, by decide⟩⟩
theorem nff_X4_12 : FF RX4 12 4 0 := ⟨_, _, _, kc_4, by decide, mg 361 (by decide +kernel) rfl, rfl, rfl⟩
theorem nnw_X4_18 : NW RX4 18 9 := ⟨_, _, _, kc_9, mg 339 (by decide +kernel) rfl, mg 340 (by decide +kernel) rfl, mg 86 (by decide +kernel) rfl⟩
theorem ncw_X9_init : Jvm.Cond.code yX9_init cX9_init 1 none ∈ GT := mg 343 (by decide +kernel) rfl
theorem niw_X9_init : Jvm.Cond.initialized yX9_init.cls ∈ GT := mg 86 (by decide +kernel) rfl
theorem nnm_X9_init : Jvm.Cond.instanceMethod yX9_init ∈ GT := mg 342 (by decide +kernel) rfl
theorem nlk_X4_20 : LkN RX4 20 yX9_init cX9_init 1 none 0 := ⟨⟨"PaperAger", List.mem_filter.mpr ⟨List.mem_of_getElem? (i := 341) (by decide +kernel), rfl⟩⟩, ncw_X9_init, niw_X9_init, ⟨by decide, by decide, by decide⟩⟩
theorem now_X9_5 : OW RX9 5 := ⟨mg 344 (by decide +kernel) rfl, mg 104 (by decide +kernel) rfl, mg 105 (by decide +kernel) rfl⟩
theorem nfp_X9_11 : FPI RX9 11 9 0 := ⟨⟨_, _, _, kc_9, by decide, mg 345 (by decide +kernel) rfl, rfl, by decide⟩, rfl, rfl⟩
theorem nfp_X9_15 : FPI RX9 15 9 1 := ⟨⟨_, _, _, kc_9, by decide, mg 347 (by decide +kernel) rfl, rfl, by decide⟩, rfl, rfl⟩
theorem nfp_X9_18 : FPI RX9 18 9 2 := ⟨⟨_, _, _, kc_9, by decide, mg 348 (by decide +kernel) rfl, rfl, by decide⟩, rfl, rfl⟩
theorem nfp_X9_21 : FPI RX9 21 9 3 := ⟨⟨_, _, _, kc_9, by decide, mg 350 (by decide +kernel) rfl, rfl, by decide⟩, rfl, rfl⟩
theorem nff_X4_21 : FF RX4 21 4 1 := ⟨_, _, _, kc_4, by decide, mg 363 (by decide +kernel) rfl, rfl, rfl⟩
theorem nff_X4_25 : FF RX4 25 4 2 := ⟨_, _, _, kc_4, by decide, mg 364 (by decide +kernel) rfl, rfl, rfl⟩
theorem nfp_X4_29 : FPI RX4 29 4 3 := ⟨⟨_, _, _, kc_4, by decide, mg 365 (by decide +kernel) rfl, rfl, by decide⟩, rfl, rfl⟩
theorem nfp_X4_33 : FPI RX4 33 4 4 := ⟨⟨_, _, _, kc_4, by decide, mg 366 (by decide +kernel) rfl, rfl, by decide⟩, rfl, rfl⟩
theorem nfp_X4_36 : FPI RX4 36 4 5 := ⟨⟨_, _, _, kc_4, by decide, mg 367 (by decide +kernel) rfl, rfl, by decide⟩, rfl, rfl⟩
theorem nfp_X4_39 : FPZ RX4 39 4 6 := ⟨⟨_, _, _, kc_4, by decide, mg 368 (by decide +kernel) rfl, rfl, by decide⟩, rfl, rfl⟩
theorem nfp_X4_43 : FPI RX4 43 4 7 := ⟨⟨_, _, _, kc_4, by decide, mg 369 (by decide +kernel) rfl, rfl, by decide⟩, rfl, rfl⟩
theorem nfp_X4_46 : FPI RX4 46 4 8 := ⟨⟨_, _, _, kc_4, by decide, mg 371 (by decide +kernel) rfl, rfl, by decide⟩, rfl, rfl⟩
theorem nff_X11_33 : FF RX11 33 11 4 := ⟨_, _, _, kc_11, by decide, mg 446 (by decide +kernel) rfl, rfl, rfl⟩
theorem nnw_X11_37 : NW RX11 37 10 := ⟨_, _, _, kc_10, mg 392 (by decide +kernel) rfl, mg 393 (by decide +kernel) rfl, mg 87 (by decide +kernel) rfl⟩
theorem ncw_X10_init : Jvm.Cond.code yX10_init cX10_init 2 none ∈ GT := mg 396 (by decide +kernel) rfl
theorem niw_X10_init : Jvm.Cond.initialized yX10_init.cls ∈ GT := mg 87 (by decide +kernel) rfl
theorem nnm_X10_init : Jvm.Cond.instanceMethod yX10_init ∈ GT := mg 395 (by decide +kernel) rfl
theorem nlk_X11_39 : LkB RX11 39 yX10_init cX10_init 2 none 0 := ⟨mg 394 (by decide +kernel) rfl, ncw_X10_init, niw_X10_init, ⟨by decide, by decide, by decide⟩⟩
theorem now_X10_1 : OW RX10 1 := ⟨mg 397 (by decide +kernel) rfl, mg 104 (by decide +kernel) rfl, mg 105 (by decide +kernel) rfl⟩
theorem ncl_X10_9 : Jvm.Cond.classLink RX10 9 (aqC (ak 29)) ∈ GT := mg 398 (by decide +kernel) rfl
theorem nff_X10_11 : FF RX10 11 10 0 := ⟨_, _, _, kc_10, by decide, mg 400 (by decide +kernel) rfl, rfl, rfl⟩
theorem nac_2 : Jvm.Cond.arrayClass (aty 2) ∈ GT := mg 414 (by decide +kernel) rfl
theorem nff_X10_15 : FF RX10 15 10 1 := ⟨_, _, _, kc_10, by decide, mg 401 (by decide +kernel) rfl, rfl, rfl⟩
theorem nfp_X10_19 : FPI RX10 19 10 2 := ⟨⟨_, _, _, kc_10, by decide, mg 402 (by decide +kernel) rfl, rfl, by decide⟩, rfl, rfl⟩
theorem nfp_X10_23 : FPI RX10 23 10 3 := ⟨⟨_, _, _, kc_10, by decide, mg 403 (by decide +kernel) rfl, rfl, by decide⟩, rfl, rfl⟩
theorem nfr_X10_11 : FL RX10 11 10 0 := ⟨_, _, _, kc_10, by decide, mg 400 (by decide +kernel) rfl⟩
theorem nnw_X10_9 : NW RX10 9 5 := ⟨_, _, _, kc_5, mg 398 (by decide +kernel) rfl, mg 218 (by decide +kernel) rfl, mg 83 (by decide +kernel) rfl⟩
theorem nlk_X10_26 : LkN RX10 26 yX5_init cX5_init 1 none 0 := ⟨⟨"PaperAger", List.mem_filter.mpr ⟨List.mem_of_getElem? (i := 399) (by decide +kernel), rfl⟩⟩, ncw_X5_init, niw_X5_init, ⟨by decide, by decide, by decide⟩⟩
theorem nff_X11_40 : FF RX11 40 11 5 := ⟨_, _, _, kc_11, by decide, mg 447 (by decide +kernel) rfl, rfl, rfl⟩
theorem nnw_X11_44 : NW RX11 44 8 := ⟨_, _, _, kc_8, mg 415 (by decide +kernel) rfl, mg 416 (by decide +kernel) rfl, mg 88 (by decide +kernel) rfl⟩
theorem ncw_X8_init : Jvm.Cond.code yX8_init cX8_init 1 none ∈ GT := mg 419 (by decide +kernel) rfl
theorem niw_X8_init : Jvm.Cond.initialized yX8_init.cls ∈ GT := mg 88 (by decide +kernel) rfl
theorem nnm_X8_init : Jvm.Cond.instanceMethod yX8_init ∈ GT := mg 418 (by decide +kernel) rfl
theorem nlk_X11_46 : LkN RX11 46 yX8_init cX8_init 1 none 0 := ⟨⟨"PaperAger", List.mem_filter.mpr ⟨List.mem_of_getElem? (i := 417) (by decide +kernel), rfl⟩⟩, ncw_X8_init, niw_X8_init, ⟨by decide, by decide, by decide⟩⟩
theorem now_X8_3 : OW RX8 3 := ⟨mg 420 (by decide +kernel) rfl, mg 104 (by decide +kernel) rfl, mg 105 (by decide +kernel) rfl⟩
theorem nff_X8_9 : FF RX8 9 8 0 := ⟨_, _, _, kc_8, by decide, mg 423 (by decide +kernel) rfl, rfl, rfl⟩
theorem nnw_X8_15 : NW RX8 15 5 := ⟨_, _, _, kc_5, mg 421 (by decide +kernel) rfl, mg 218 (by decide +kernel) rfl, mg 83 (by decide +kernel) rfl⟩
theorem nlk_X8_17 : LkN RX8 17 yX5_init cX5_init 1 none 0 := ⟨⟨"PaperAger", List.mem_filter.mpr ⟨List.mem_of_getElem? (i := 422) (by decide +kernel), rfl⟩⟩, ncw_X5_init, niw_X5_init, ⟨by decide, by decide, by decide⟩⟩
theorem nff_X8_18 : FF RX8 18 8 1 := ⟨_, _, _, kc_8, by decide, mg 424 (by decide +kernel) rfl, rfl, rfl⟩
theorem nfp_X8_22 : FPI RX8 22 8 2 := ⟨⟨_, _, _, kc_8, by decide, mg 425 (by decide +kernel) rfl, rfl, by decide⟩, rfl, rfl⟩
theorem nfp_X8_26 : FPI RX8 26 8 3 := ⟨⟨_, _, _, kc_8, by decide, mg 427 (by decide +kernel) rfl, rfl, by decide⟩, rfl, rfl⟩
theorem nfp_X8_29 : FPI RX8 29 8 4 := ⟨⟨_, _, _, kc_8, by decide, mg 429 (by decide +kernel) rfl, rfl, by decide⟩, rfl, rfl⟩
theorem nff_X11_47 : FF RX11 47 11 6 := ⟨_, _, _, kc_11, by decide, mg 448 (by decide +kernel) rfl, rfl, rfl⟩
theorem now_X12_1 : OW RX12 1 := ⟨mg 1111 (by decide +kernel) rfl, mg 104 (by decide +kernel) rfl, mg 105 (by decide +kernel) rfl⟩
theorem nff_X12_7 : FF RX12 7 12 4 := ⟨_, _, _, kc_12, by decide, mg 1116 (by decide +kernel) rfl, rfl, rfl⟩
theorem nff_X12_13 : FF RX12 13 12 5 := ⟨_, _, _, kc_12, by decide, mg 1117 (by decide +kernel) rfl, rfl, rfl⟩
theorem nff_X12_16 : FF RX12 16 12 6 := ⟨_, _, _, kc_12, by decide, mg 1118 (by decide +kernel) rfl, rfl, rfl⟩
theorem nff_X12_19 : FF RX12 19 12 7 := ⟨_, _, _, kc_12, by decide, mg 1119 (by decide +kernel) rfl, rfl, rfl⟩
theorem nff_X12_22 : FF RX12 22 12 8 := ⟨_, _, _, kc_12, by decide, mg 1120 (by decide +kernel) rfl, rfl, rfl⟩
theorem nff_X12_25 : FF RX12 25 12 11 := ⟨_, _, _, kc_12, by decide, mg 1123 (by decide +kernel) rfl, rfl, rfl⟩
theorem nff_X12_28 : FF RX12 28 12 12 := ⟨_, _, _, kc_12, by decide, mg 1124 (by decide +kernel) rfl, rfl, rfl⟩
theorem nff_X12_31 : FF RX12 31 12 13 := ⟨_, _, _, kc_12, by decide, mg 1125 (by decide +kernel) rfl, rfl, rfl⟩
theorem nff_X12_34 : FF RX12 34 12 14 := ⟨_, _, _, kc_12, by decide, mg 1126 (by decide +kernel) rfl, rfl, rfl⟩
theorem nff_X12_37 : FF RX12 37 12 15 := ⟨_, _, _, kc_12, by decide, mg 1127 (by decide +kernel) rfl, rfl, rfl⟩
theorem nff_X12_40 : FF RX12 40 12 16 := ⟨_, _, _, kc_12, by decide, mg 1128 (by decide +kernel) rfl, rfl, rfl⟩
theorem nff_X12_43 : FF RX12 43 12 17 := ⟨_, _, _, kc_12, by decide, mg 1129 (by decide +kernel) rfl, rfl, rfl⟩
theorem nff_X12_46 : FF RX12 46 12 19 := ⟨_, _, _, kc_12, by decide, mg 1131 (by decide +kernel) rfl, rfl, rfl⟩
theorem nff_X12_49 : FF RX12 49 12 20 := ⟨_, _, _, kc_12, by decide, mg 1132 (by decide +kernel) rfl, rfl, rfl⟩
theorem nff_X12_52 : FF RX12 52 12 26 := ⟨_, _, _, kc_12, by decide, mg 1138 (by decide +kernel) rfl, rfl, rfl⟩
theorem nff_X12_55 : FF RX12 55 12 28 := ⟨_, _, _, kc_12, by decide, mg 1140 (by decide +kernel) rfl, rfl, rfl⟩
theorem nff_X12_58 : FF RX12 58 12 29 := ⟨_, _, _, kc_12, by decide, mg 1141 (by decide +kernel) rfl, rfl, rfl⟩
theorem nff_X12_61 : FF RX12 61 12 30 := ⟨_, _, _, kc_12, by decide, mg 1142 (by decide +kernel) rfl, rfl, rfl⟩
theorem nff_X12_64 : FF RX12 64 12 31 := ⟨_, _, _, kc_12, by decide, mg 1143 (by decide +kernel) rfl, rfl, rfl⟩
theorem nff_X12_67 : FF RX12 67 12 32 := ⟨_, _, _, kc_12, by decide, mg 1144 (by decide +kernel) rfl, rfl, rfl⟩
theorem nff_X12_70 : FF RX12 70 12 35 := ⟨_, _, _, kc_12, by decide, mg 1147 (by decide +kernel) rfl, rfl, rfl⟩
theorem nfp_X12_73 : FPM RX12 73 12 40 := ⟨⟨_, _, _, kc_12, by decide, mg 1152 (by decide +kernel) rfl, rfl, by decide⟩, rfl, rfl⟩
theorem nff_X12_77 : FF RX12 77 12 41 := ⟨_, _, _, kc_12, by decide, mg 1153 (by decide +kernel) rfl, rfl, rfl⟩
theorem nff_X12_80 : FF RX12 80 12 42 := ⟨_, _, _, kc_12, by decide, mg 1154 (by decide +kernel) rfl, rfl, rfl⟩
theorem nff_X12_83 : FF RX12 83 12 43 := ⟨_, _, _, kc_12, by decide, mg 1155 (by decide +kernel) rfl, rfl, rfl⟩
theorem nff_X12_86 : FF RX12 86 12 46 := ⟨_, _, _, kc_12, by decide, mg 1158 (by decide +kernel) rfl, rfl, rfl⟩
theorem nff_X12_89 : FF RX12 89 12 47 := ⟨_, _, _, kc_12, by decide, mg 1159 (by decide +kernel) rfl, rfl, rfl⟩
theorem nff_X12_92 : FF RX12 92 12 48 := ⟨_, _, _, kc_12, by decide, mg 1160 (by decide +kernel) rfl, rfl, rfl⟩
theorem nff_X12_95 : FF RX12 95 12 49 := ⟨_, _, _, kc_12, by decide, mg 1161 (by decide +kernel) rfl, rfl, rfl⟩
theorem nff_X12_98 : FF RX12 98 12 50 := ⟨_, _, _, kc_12, by decide, mg 1162 (by decide +kernel) rfl, rfl, rfl⟩
theorem nff_X12_101 : FF RX12 101 12 54 := ⟨_, _, _, kc_12, by decide, mg 1166 (by decide +kernel) rfl, rfl, rfl⟩
theorem dX11_init_0 : decode cX11_init 0 = .ok (.aload_n 0, 1) := by decide +kernel
theorem dX11_init_1 : decode cX11_init 1 = .ok (.invokespecial 1, 3) := by decide +kernel
theorem dX11_init_4 : decode cX11_init 4 = .ok (.aload_n 0, 1) := by decide +kernel
theorem dX11_init_5 : decode cX11_init 5 = .ok (.new 7, 3) := by decide +kernel
theorem dX11_init_8 : decode cX11_init 8 = .ok (.dup, 1) := by decide +kernel
theorem dX11_init_9 : decode cX11_init 9 = .ok (.invokespecial 9, 3) := by decide +kernel
theorem dX11_init_12 : decode cX11_init 12 = .ok (.putfield 10, 3) := by decide +kernel
theorem dX11_init_15 : decode cX11_init 15 = .ok (.aload_n 0, 1) := by decide +kernel
theorem dX11_init_16 : decode cX11_init 16 = .ok (.new 7, 3) := by decide +kernel
theorem dX11_init_19 : decode cX11_init 19 = .ok (.dup, 1) := by decide +kernel
theorem dX11_init_20 : decode cX11_init 20 = .ok (.invokespecial 9, 3) := by decide +kernel
theorem dX11_init_23 : decode cX11_init 23 = .ok (.putfield 16, 3) := by decide +kernel
theorem dX11_init_26 : decode cX11_init 26 = .ok (.aload_n 0, 1) := by decide +kernel
theorem dX11_init_27 : decode cX11_init 27 = .ok (.iconst 0, 1) := by decide +kernel
theorem dX11_init_28 : decode cX11_init 28 = .ok (.putfield 19, 3) := by decide +kernel
theorem dX11_init_31 : decode cX11_init 31 = .ok (.aload_n 0, 1) := by decide +kernel
theorem dX11_init_32 : decode cX11_init 32 = .ok (.new 23, 3) := by decide +kernel
theorem dX11_init_35 : decode cX11_init 35 = .ok (.dup, 1) := by decide +kernel
theorem dX11_init_36 : decode cX11_init 36 = .ok (.invokespecial 25, 3) := by decide +kernel
theorem dX11_init_39 : decode cX11_init 39 = .ok (.putfield 26, 3) := by decide +kernel
theorem dX11_init_42 : decode cX11_init 42 = .ok (.aload_n 0, 1) := by decide +kernel
theorem dX11_init_43 : decode cX11_init 43 = .ok (.new 30, 3) := by decide +kernel
theorem dX11_init_46 : decode cX11_init 46 = .ok (.dup, 1) := by decide +kernel
theorem dX11_init_47 : decode cX11_init 47 = .ok (.invokespecial 32, 3) := by decide +kernel
theorem dX11_init_50 : decode cX11_init 50 = .ok (.putfield 33, 3) := by decide +kernel
theorem dX11_init_53 : decode cX11_init 53 = .ok (.aload_n 0, 1) := by decide +kernel
theorem dX11_init_54 : decode cX11_init 54 = .ok (.new 37, 3) := by decide +kernel
theorem dX11_init_57 : decode cX11_init 57 = .ok (.dup, 1) := by decide +kernel
theorem dX11_init_58 : decode cX11_init 58 = .ok (.invokespecial 39, 3) := by decide +kernel
theorem dX11_init_61 : decode cX11_init 61 = .ok (.putfield 40, 3) := by decide +kernel
theorem dX11_init_64 : decode cX11_init 64 = .ok (.aload_n 0, 1) := by decide +kernel
theorem dX11_init_65 : decode cX11_init 65 = .ok (.new 44, 3) := by decide +kernel
theorem dX11_init_68 : decode cX11_init 68 = .ok (.dup, 1) := by decide +kernel
theorem dX11_init_69 : decode cX11_init 69 = .ok (.invokespecial 46, 3) := by decide +kernel
theorem dX11_init_72 : decode cX11_init 72 = .ok (.putfield 47, 3) := by decide +kernel
theorem dX11_init_75 : decode cX11_init 75 = .ok (.return_, 1) := by decide +kernel
theorem dX0_init_0 : decode cX0_init 0 = .ok (.aload_n 0, 1) := by decide +kernel
theorem dX0_init_1 : decode cX0_init 1 = .ok (.invokespecial 3, 3) := by decide +kernel
theorem dX0_init_4 : decode cX0_init 4 = .ok (.aload_n 0, 1) := by decide +kernel
theorem dX0_init_5 : decode cX0_init 5 = .ok (.bipush 12, 2) := by decide +kernel
theorem dX0_init_7 : decode cX0_init 7 = .ok (.anewarray 9, 3) := by decide +kernel
theorem dX0_init_10 : decode cX0_init 10 = .ok (.putfield 11, 3) := by decide +kernel
theorem dX0_init_13 : decode cX0_init 13 = .ok (.aload_n 0, 1) := by decide +kernel
theorem dX0_init_14 : decode cX0_init 14 = .ok (.bipush 12, 2) := by decide +kernel
theorem dX0_init_16 : decode cX0_init 16 = .ok (.anewarray 17, 3) := by decide +kernel
theorem dX0_init_19 : decode cX0_init 19 = .ok (.putfield 19, 3) := by decide +kernel
theorem dX0_init_22 : decode cX0_init 22 = .ok (.aload_n 0, 1) := by decide +kernel
theorem dX0_init_23 : decode cX0_init 23 = .ok (.new 23, 3) := by decide +kernel
theorem dX0_init_26 : decode cX0_init 26 = .ok (.dup, 1) := by decide +kernel
theorem dX0_init_27 : decode cX0_init 27 = .ok (.invokespecial 25, 3) := by decide +kernel
theorem dX0_init_30 : decode cX0_init 30 = .ok (.putfield 26, 3) := by decide +kernel
theorem dX0_init_33 : decode cX0_init 33 = .ok (.aload_n 0, 1) := by decide +kernel
theorem dX0_init_34 : decode cX0_init 34 = .ok (.new 30, 3) := by decide +kernel
theorem dX0_init_37 : decode cX0_init 37 = .ok (.dup, 1) := by decide +kernel
theorem dX0_init_38 : decode cX0_init 38 = .ok (.invokespecial 32, 3) := by decide +kernel
theorem dX0_init_41 : decode cX0_init 41 = .ok (.putfield 33, 3) := by decide +kernel
theorem dX0_init_44 : decode cX0_init 44 = .ok (.aload_n 0, 1) := by decide +kernel
theorem dX0_init_45 : decode cX0_init 45 = .ok (.new 37, 3) := by decide +kernel
theorem dX0_init_48 : decode cX0_init 48 = .ok (.dup, 1) := by decide +kernel
theorem dX0_init_49 : decode cX0_init 49 = .ok (.invokespecial 39, 3) := by decide +kernel
theorem dX0_init_52 : decode cX0_init 52 = .ok (.putfield 40, 3) := by decide +kernel
theorem dX0_init_55 : decode cX0_init 55 = .ok (.aload_n 0, 1) := by decide +kernel
theorem dX0_init_56 : decode cX0_init 56 = .ok (.bipush 9, 2) := by decide +kernel
theorem dX0_init_58 : decode cX0_init 58 = .ok (.newarray .int, 2) := by decide +kernel
theorem dX0_init_60 : decode cX0_init 60 = .ok (.putfield 46, 3) := by decide +kernel
theorem dX0_init_63 : decode cX0_init 63 = .ok (.aload_n 0, 1) := by decide +kernel
theorem dX0_init_64 : decode cX0_init 64 = .ok (.iconst 0, 1) := by decide +kernel
theorem dX0_init_65 : decode cX0_init 65 = .ok (.putfield 50, 3) := by decide +kernel
theorem dX0_init_68 : decode cX0_init 68 = .ok (.aload_n 0, 1) := by decide +kernel
theorem dX0_init_69 : decode cX0_init 69 = .ok (.iconst 0, 1) := by decide +kernel
theorem dX0_init_70 : decode cX0_init 70 = .ok (.putfield 54, 3) := by decide +kernel
theorem dX0_init_73 : decode cX0_init 73 = .ok (.aload_n 0, 1) := by decide +kernel
theorem dX0_init_74 : decode cX0_init 74 = .ok (.iconst 0, 1) := by decide +kernel
theorem dX0_init_75 : decode cX0_init 75 = .ok (.putfield 57, 3) := by decide +kernel
theorem dX0_init_78 : decode cX0_init 78 = .ok (.aload_n 0, 1) := by decide +kernel
theorem dX0_init_79 : decode cX0_init 79 = .ok (.iconst 0, 1) := by decide +kernel
theorem dX0_init_80 : decode cX0_init 80 = .ok (.putfield 60, 3) := by decide +kernel
theorem dX0_init_83 : decode cX0_init 83 = .ok (.aload_n 0, 1) := by decide +kernel
theorem dX0_init_84 : decode cX0_init 84 = .ok (.iconst 0, 1) := by decide +kernel
theorem dX0_init_85 : decode cX0_init 85 = .ok (.putfield 63, 3) := by decide +kernel
theorem dX0_init_88 : decode cX0_init 88 = .ok (.iconst 0, 1) := by decide +kernel
theorem dX0_init_89 : decode cX0_init 89 = .ok (.istore_n 1, 1) := by decide +kernel
theorem dX0_init_90 : decode cX0_init 90 = .ok (.iload_n 1, 1) := by decide +kernel
theorem dX0_init_91 : decode cX0_init 91 = .ok (.bipush 12, 2) := by decide +kernel
theorem dX0_init_93 : decode cX0_init 93 = .ok (.if_icmp .ge 22, 3) := by decide +kernel
theorem dX0_init_96 : decode cX0_init 96 = .ok (.aload_n 0, 1) := by decide +kernel
theorem dX0_init_97 : decode cX0_init 97 = .ok (.getfield 11, 3) := by decide +kernel
theorem dX0_init_100 : decode cX0_init 100 = .ok (.iload_n 1, 1) := by decide +kernel
theorem dX0_init_101 : decode cX0_init 101 = .ok (.new 9, 3) := by decide +kernel
theorem dX0_init_104 : decode cX0_init 104 = .ok (.dup, 1) := by decide +kernel
theorem dX0_init_105 : decode cX0_init 105 = .ok (.invokespecial 66, 3) := by decide +kernel
theorem dX0_init_108 : decode cX0_init 108 = .ok (.aastore, 1) := by decide +kernel
theorem dX0_init_109 : decode cX0_init 109 = .ok (.iinc 1 1, 3) := by decide +kernel
theorem dX0_init_112 : decode cX0_init 112 = .ok (.goto (-22), 3) := by decide +kernel
theorem dX0_init_115 : decode cX0_init 115 = .ok (.iconst 0, 1) := by decide +kernel
theorem dX0_init_116 : decode cX0_init 116 = .ok (.istore_n 1, 1) := by decide +kernel
theorem dX0_init_117 : decode cX0_init 117 = .ok (.iload_n 1, 1) := by decide +kernel
theorem dX0_init_118 : decode cX0_init 118 = .ok (.bipush 12, 2) := by decide +kernel
theorem dX0_init_120 : decode cX0_init 120 = .ok (.if_icmp .ge 22, 3) := by decide +kernel
theorem dX0_init_123 : decode cX0_init 123 = .ok (.aload_n 0, 1) := by decide +kernel
theorem dX0_init_124 : decode cX0_init 124 = .ok (.getfield 19, 3) := by decide +kernel
theorem dX0_init_127 : decode cX0_init 127 = .ok (.iload_n 1, 1) := by decide +kernel
theorem dX0_init_128 : decode cX0_init 128 = .ok (.new 17, 3) := by decide +kernel
theorem dX0_init_131 : decode cX0_init 131 = .ok (.dup, 1) := by decide +kernel
theorem dX0_init_132 : decode cX0_init 132 = .ok (.invokespecial 67, 3) := by decide +kernel
theorem dX0_init_135 : decode cX0_init 135 = .ok (.aastore, 1) := by decide +kernel
theorem dX0_init_136 : decode cX0_init 136 = .ok (.iinc 1 1, 3) := by decide +kernel
theorem dX0_init_139 : decode cX0_init 139 = .ok (.goto (-22), 3) := by decide +kernel
theorem dX0_init_142 : decode cX0_init 142 = .ok (.return_, 1) := by decide +kernel
theorem dX1_init_0 : decode cX1_init 0 = .ok (.aload_n 0, 1) := by decide +kernel
theorem dX1_init_1 : decode cX1_init 1 = .ok (.invokespecial 3, 3) := by decide +kernel
theorem dX1_init_4 : decode cX1_init 4 = .ok (.aload_n 0, 1) := by decide +kernel
theorem dX1_init_5 : decode cX1_init 5 = .ok (.sipush 600, 3) := by decide +kernel
theorem dX1_init_8 : decode cX1_init 8 = .ok (.newarray .int, 2) := by decide +kernel
theorem dX1_init_10 : decode cX1_init 10 = .ok (.putfield 11, 3) := by decide +kernel
theorem dX1_init_13 : decode cX1_init 13 = .ok (.aload_n 0, 1) := by decide +kernel
theorem dX1_init_14 : decode cX1_init 14 = .ok (.iconst 0, 1) := by decide +kernel
theorem dX1_init_15 : decode cX1_init 15 = .ok (.putfield 15, 3) := by decide +kernel
theorem dX1_init_18 : decode cX1_init 18 = .ok (.return_, 1) := by decide +kernel
theorem dX2_init_0 : decode cX2_init 0 = .ok (.aload_n 0, 1) := by decide +kernel
theorem dX2_init_1 : decode cX2_init 1 = .ok (.invokespecial 3, 3) := by decide +kernel
theorem dX2_init_4 : decode cX2_init 4 = .ok (.aload_n 0, 1) := by decide +kernel
theorem dX2_init_5 : decode cX2_init 5 = .ok (.bipush 6, 2) := by decide +kernel
theorem dX2_init_7 : decode cX2_init 7 = .ok (.newarray .int, 2) := by decide +kernel
theorem dX2_init_9 : decode cX2_init 9 = .ok (.putfield 11, 3) := by decide +kernel
theorem dX2_init_12 : decode cX2_init 12 = .ok (.aload_n 0, 1) := by decide +kernel
theorem dX2_init_13 : decode cX2_init 13 = .ok (.bipush 6, 2) := by decide +kernel
theorem dX2_init_15 : decode cX2_init 15 = .ok (.newarray .int, 2) := by decide +kernel
theorem dX2_init_17 : decode cX2_init 17 = .ok (.putfield 15, 3) := by decide +kernel
theorem dX2_init_20 : decode cX2_init 20 = .ok (.aload_n 0, 1) := by decide +kernel
theorem dX2_init_21 : decode cX2_init 21 = .ok (.bipush 6, 2) := by decide +kernel
theorem dX2_init_23 : decode cX2_init 23 = .ok (.newarray .int, 2) := by decide +kernel
theorem dX2_init_25 : decode cX2_init 25 = .ok (.putfield 18, 3) := by decide +kernel
theorem dX2_init_28 : decode cX2_init 28 = .ok (.aload_n 0, 1) := by decide +kernel
theorem dX2_init_29 : decode cX2_init 29 = .ok (.bipush 6, 2) := by decide +kernel
theorem dX2_init_31 : decode cX2_init 31 = .ok (.newarray .int, 2) := by decide +kernel
theorem dX2_init_33 : decode cX2_init 33 = .ok (.putfield 21, 3) := by decide +kernel
theorem dX2_init_36 : decode cX2_init 36 = .ok (.aload_n 0, 1) := by decide +kernel
theorem dX2_init_37 : decode cX2_init 37 = .ok (.iconst 0, 1) := by decide +kernel
theorem dX2_init_38 : decode cX2_init 38 = .ok (.putfield 24, 3) := by decide +kernel
theorem dX2_init_41 : decode cX2_init 41 = .ok (.return_, 1) := by decide +kernel
theorem dX3_init_0 : decode cX3_init 0 = .ok (.aload_n 0, 1) := by decide +kernel
theorem dX3_init_1 : decode cX3_init 1 = .ok (.invokespecial 3, 3) := by decide +kernel
theorem dX3_init_4 : decode cX3_init 4 = .ok (.aload_n 0, 1) := by decide +kernel
theorem dX3_init_5 : decode cX3_init 5 = .ok (.sipush 400, 3) := by decide +kernel
theorem dX3_init_8 : decode cX3_init 8 = .ok (.newarray .int, 2) := by decide +kernel
theorem dX3_init_10 : decode cX3_init 10 = .ok (.putfield 11, 3) := by decide +kernel
theorem dX3_init_13 : decode cX3_init 13 = .ok (.aload_n 0, 1) := by decide +kernel
theorem dX3_init_14 : decode cX3_init 14 = .ok (.bipush 16, 2) := by decide +kernel
theorem dX3_init_16 : decode cX3_init 16 = .ok (.newarray .int, 2) := by decide +kernel
theorem dX3_init_18 : decode cX3_init 18 = .ok (.putfield 17, 3) := by decide +kernel
theorem dX3_init_21 : decode cX3_init 21 = .ok (.aload_n 0, 1) := by decide +kernel
theorem dX3_init_22 : decode cX3_init 22 = .ok (.bipush 16, 2) := by decide +kernel
theorem dX3_init_24 : decode cX3_init 24 = .ok (.newarray .int, 2) := by decide +kernel
theorem dX3_init_26 : decode cX3_init 26 = .ok (.putfield 20, 3) := by decide +kernel
theorem dX3_init_29 : decode cX3_init 29 = .ok (.aload_n 0, 1) := by decide +kernel
theorem dX3_init_30 : decode cX3_init 30 = .ok (.bipush 16, 2) := by decide +kernel
theorem dX3_init_32 : decode cX3_init 32 = .ok (.newarray .int, 2) := by decide +kernel
theorem dX3_init_34 : decode cX3_init 34 = .ok (.putfield 23, 3) := by decide +kernel
theorem dX3_init_37 : decode cX3_init 37 = .ok (.aload_n 0, 1) := by decide +kernel
theorem dX3_init_38 : decode cX3_init 38 = .ok (.bipush 40, 2) := by decide +kernel
theorem dX3_init_40 : decode cX3_init 40 = .ok (.newarray .int, 2) := by decide +kernel
theorem dX3_init_42 : decode cX3_init 42 = .ok (.putfield 26, 3) := by decide +kernel
theorem dX3_init_45 : decode cX3_init 45 = .ok (.aload_n 0, 1) := by decide +kernel
theorem dX3_init_46 : decode cX3_init 46 = .ok (.iconst 0, 1) := by decide +kernel
theorem dX3_init_47 : decode cX3_init 47 = .ok (.putfield 29, 3) := by decide +kernel
theorem dX3_init_50 : decode cX3_init 50 = .ok (.aload_n 0, 1) := by decide +kernel
theorem dX3_init_51 : decode cX3_init 51 = .ok (.iconst 0, 1) := by decide +kernel
theorem dX3_init_52 : decode cX3_init 52 = .ok (.putfield 33, 3) := by decide +kernel
theorem dX3_init_55 : decode cX3_init 55 = .ok (.return_, 1) := by decide +kernel
theorem dX6_init_0 : decode cX6_init 0 = .ok (.aload_n 0, 1) := by decide +kernel
theorem dX6_init_1 : decode cX6_init 1 = .ok (.invokespecial 3, 3) := by decide +kernel
theorem dX6_init_4 : decode cX6_init 4 = .ok (.return_, 1) := by decide +kernel
theorem dX5_init_0 : decode cX5_init 0 = .ok (.aload_n 0, 1) := by decide +kernel
theorem dX5_init_1 : decode cX5_init 1 = .ok (.invokespecial 3, 3) := by decide +kernel
theorem dX5_init_4 : decode cX5_init 4 = .ok (.return_, 1) := by decide +kernel
theorem dX7_init_0 : decode cX7_init 0 = .ok (.aload_n 0, 1) := by decide +kernel
theorem dX7_init_1 : decode cX7_init 1 = .ok (.invokespecial 3, 3) := by decide +kernel
theorem dX7_init_4 : decode cX7_init 4 = .ok (.aload_n 0, 1) := by decide +kernel
theorem dX7_init_5 : decode cX7_init 5 = .ok (.sipush 400, 3) := by decide +kernel
theorem dX7_init_8 : decode cX7_init 8 = .ok (.newarray .byte, 2) := by decide +kernel
theorem dX7_init_10 : decode cX7_init 10 = .ok (.putfield 11, 3) := by decide +kernel
theorem dX7_init_13 : decode cX7_init 13 = .ok (.aload_n 0, 1) := by decide +kernel
theorem dX7_init_14 : decode cX7_init 14 = .ok (.iconst 0, 1) := by decide +kernel
theorem dX7_init_15 : decode cX7_init 15 = .ok (.putfield 15, 3) := by decide +kernel
theorem dX7_init_18 : decode cX7_init 18 = .ok (.return_, 1) := by decide +kernel
theorem dX4_init_0 : decode cX4_init 0 = .ok (.aload_n 0, 1) := by decide +kernel
theorem dX4_init_1 : decode cX4_init 1 = .ok (.invokespecial 3, 3) := by decide +kernel
theorem dX4_init_4 : decode cX4_init 4 = .ok (.aload_n 0, 1) := by decide +kernel
theorem dX4_init_5 : decode cX4_init 5 = .ok (.new 9, 3) := by decide +kernel
theorem dX4_init_8 : decode cX4_init 8 = .ok (.dup, 1) := by decide +kernel
theorem dX4_init_9 : decode cX4_init 9 = .ok (.invokespecial 11, 3) := by decide +kernel
theorem dX4_init_12 : decode cX4_init 12 = .ok (.putfield 12, 3) := by decide +kernel
theorem dX4_init_15 : decode cX4_init 15 = .ok (.aload_n 0, 1) := by decide +kernel
theorem dX4_init_16 : decode cX4_init 16 = .ok (.new 18, 3) := by decide +kernel
theorem dX4_init_19 : decode cX4_init 19 = .ok (.dup, 1) := by decide +kernel
theorem dX4_init_20 : decode cX4_init 20 = .ok (.invokespecial 20, 3) := by decide +kernel
theorem dX4_init_23 : decode cX4_init 23 = .ok (.putfield 21, 3) := by decide +kernel
theorem dX4_init_26 : decode cX4_init 26 = .ok (.aload_n 0, 1) := by decide +kernel
theorem dX4_init_27 : decode cX4_init 27 = .ok (.bipush 40, 2) := by decide +kernel
theorem dX4_init_29 : decode cX4_init 29 = .ok (.newarray .int, 2) := by decide +kernel
theorem dX4_init_31 : decode cX4_init 31 = .ok (.putfield 25, 3) := by decide +kernel
theorem dX4_init_34 : decode cX4_init 34 = .ok (.aload_n 0, 1) := by decide +kernel
theorem dX4_init_35 : decode cX4_init 35 = .ok (.iconst 0, 1) := by decide +kernel
theorem dX4_init_36 : decode cX4_init 36 = .ok (.putfield 29, 3) := by decide +kernel
theorem dX4_init_39 : decode cX4_init 39 = .ok (.aload_n 0, 1) := by decide +kernel
theorem dX4_init_40 : decode cX4_init 40 = .ok (.iconst 0, 1) := by decide +kernel
theorem dX4_init_41 : decode cX4_init 41 = .ok (.putfield 33, 3) := by decide +kernel
theorem dX4_init_44 : decode cX4_init 44 = .ok (.aload_n 0, 1) := by decide +kernel
theorem dX4_init_45 : decode cX4_init 45 = .ok (.iconst 0, 1) := by decide +kernel
theorem dX4_init_46 : decode cX4_init 46 = .ok (.putfield 36, 3) := by decide +kernel
theorem dX4_init_49 : decode cX4_init 49 = .ok (.aload_n 0, 1) := by decide +kernel
theorem dX4_init_50 : decode cX4_init 50 = .ok (.iconst 0, 1) := by decide +kernel
theorem dX4_init_51 : decode cX4_init 51 = .ok (.putfield 39, 3) := by decide +kernel
theorem dX4_init_54 : decode cX4_init 54 = .ok (.aload_n 0, 1) := by decide +kernel
theorem dX4_init_55 : decode cX4_init 55 = .ok (.iconst 0, 1) := by decide +kernel
theorem dX4_init_56 : decode cX4_init 56 = .ok (.putfield 43, 3) := by decide +kernel
theorem dX4_init_59 : decode cX4_init 59 = .ok (.aload_n 0, 1) := by decide +kernel
theorem dX4_init_60 : decode cX4_init 60 = .ok (.iconst (-1), 1) := by decide +kernel
theorem dX4_init_61 : decode cX4_init 61 = .ok (.putfield 46, 3) := by decide +kernel
theorem dX4_init_64 : decode cX4_init 64 = .ok (.return_, 1) := by decide +kernel
theorem dX9_init_0 : decode cX9_init 0 = .ok (.aload_n 0, 1) := by decide +kernel
theorem dX9_init_1 : decode cX9_init 1 = .ok (.invokespecial 5, 3) := by decide +kernel
theorem dX9_init_4 : decode cX9_init 4 = .ok (.aload_n 0, 1) := by decide +kernel
theorem dX9_init_5 : decode cX9_init 5 = .ok (.iconst 0, 1) := by decide +kernel
theorem dX9_init_6 : decode cX9_init 6 = .ok (.putfield 11, 3) := by decide +kernel
theorem dX9_init_9 : decode cX9_init 9 = .ok (.aload_n 0, 1) := by decide +kernel
theorem dX9_init_10 : decode cX9_init 10 = .ok (.iconst 0, 1) := by decide +kernel
theorem dX9_init_11 : decode cX9_init 11 = .ok (.putfield 15, 3) := by decide +kernel
theorem dX9_init_14 : decode cX9_init 14 = .ok (.aload_n 0, 1) := by decide +kernel
theorem dX9_init_15 : decode cX9_init 15 = .ok (.iconst 0, 1) := by decide +kernel
theorem dX9_init_16 : decode cX9_init 16 = .ok (.putfield 18, 3) := by decide +kernel
theorem dX9_init_19 : decode cX9_init 19 = .ok (.aload_n 0, 1) := by decide +kernel
theorem dX9_init_20 : decode cX9_init 20 = .ok (.iconst 0, 1) := by decide +kernel
theorem dX9_init_21 : decode cX9_init 21 = .ok (.putfield 21, 3) := by decide +kernel
theorem dX9_init_24 : decode cX9_init 24 = .ok (.return_, 1) := by decide +kernel
theorem dX10_init_0 : decode cX10_init 0 = .ok (.aload_n 0, 1) := by decide +kernel
theorem dX10_init_1 : decode cX10_init 1 = .ok (.invokespecial 1, 3) := by decide +kernel
theorem dX10_init_4 : decode cX10_init 4 = .ok (.aload_n 0, 1) := by decide +kernel
theorem dX10_init_5 : decode cX10_init 5 = .ok (.bipush 10, 2) := by decide +kernel
theorem dX10_init_7 : decode cX10_init 7 = .ok (.anewarray 9, 3) := by decide +kernel
theorem dX10_init_10 : decode cX10_init 10 = .ok (.putfield 11, 3) := by decide +kernel
theorem dX10_init_13 : decode cX10_init 13 = .ok (.aload_n 0, 1) := by decide +kernel
theorem dX10_init_14 : decode cX10_init 14 = .ok (.bipush 10, 2) := by decide +kernel
theorem dX10_init_16 : decode cX10_init 16 = .ok (.newarray .boolean, 2) := by decide +kernel
theorem dX10_init_18 : decode cX10_init 18 = .ok (.putfield 15, 3) := by decide +kernel
theorem dX10_init_21 : decode cX10_init 21 = .ok (.aload_n 0, 1) := by decide +kernel
theorem dX10_init_22 : decode cX10_init 22 = .ok (.iconst 0, 1) := by decide +kernel
theorem dX10_init_23 : decode cX10_init 23 = .ok (.putfield 19, 3) := by decide +kernel
theorem dX10_init_26 : decode cX10_init 26 = .ok (.aload_n 0, 1) := by decide +kernel
theorem dX10_init_27 : decode cX10_init 27 = .ok (.iconst 0, 1) := by decide +kernel
theorem dX10_init_28 : decode cX10_init 28 = .ok (.putfield 23, 3) := by decide +kernel
theorem dX10_init_31 : decode cX10_init 31 = .ok (.iconst 0, 1) := by decide +kernel
theorem dX10_init_32 : decode cX10_init 32 = .ok (.istore_n 1, 1) := by decide +kernel
theorem dX10_init_33 : decode cX10_init 33 = .ok (.iload_n 1, 1) := by decide +kernel
theorem dX10_init_34 : decode cX10_init 34 = .ok (.bipush 10, 2) := by decide +kernel
theorem dX10_init_36 : decode cX10_init 36 = .ok (.if_icmp .ge 22, 3) := by decide +kernel
theorem dX10_init_39 : decode cX10_init 39 = .ok (.aload_n 0, 1) := by decide +kernel
theorem dX10_init_40 : decode cX10_init 40 = .ok (.getfield 11, 3) := by decide +kernel
theorem dX10_init_43 : decode cX10_init 43 = .ok (.iload_n 1, 1) := by decide +kernel
theorem dX10_init_44 : decode cX10_init 44 = .ok (.new 9, 3) := by decide +kernel
theorem dX10_init_47 : decode cX10_init 47 = .ok (.dup, 1) := by decide +kernel
theorem dX10_init_48 : decode cX10_init 48 = .ok (.invokespecial 26, 3) := by decide +kernel
theorem dX10_init_51 : decode cX10_init 51 = .ok (.aastore, 1) := by decide +kernel
theorem dX10_init_52 : decode cX10_init 52 = .ok (.iinc 1 1, 3) := by decide +kernel
theorem dX10_init_55 : decode cX10_init 55 = .ok (.goto (-22), 3) := by decide +kernel
theorem dX10_init_58 : decode cX10_init 58 = .ok (.return_, 1) := by decide +kernel
theorem dX8_init_0 : decode cX8_init 0 = .ok (.aload_n 0, 1) := by decide +kernel
theorem dX8_init_1 : decode cX8_init 1 = .ok (.invokespecial 3, 3) := by decide +kernel
theorem dX8_init_4 : decode cX8_init 4 = .ok (.aload_n 0, 1) := by decide +kernel
theorem dX8_init_5 : decode cX8_init 5 = .ok (.bipush 12, 2) := by decide +kernel
theorem dX8_init_7 : decode cX8_init 7 = .ok (.newarray .int, 2) := by decide +kernel
theorem dX8_init_9 : decode cX8_init 9 = .ok (.putfield 9, 3) := by decide +kernel
theorem dX8_init_12 : decode cX8_init 12 = .ok (.aload_n 0, 1) := by decide +kernel
theorem dX8_init_13 : decode cX8_init 13 = .ok (.new 15, 3) := by decide +kernel
theorem dX8_init_16 : decode cX8_init 16 = .ok (.dup, 1) := by decide +kernel
theorem dX8_init_17 : decode cX8_init 17 = .ok (.invokespecial 17, 3) := by decide +kernel
theorem dX8_init_20 : decode cX8_init 20 = .ok (.putfield 18, 3) := by decide +kernel
theorem dX8_init_23 : decode cX8_init 23 = .ok (.aload_n 0, 1) := by decide +kernel
theorem dX8_init_24 : decode cX8_init 24 = .ok (.iconst 0, 1) := by decide +kernel
theorem dX8_init_25 : decode cX8_init 25 = .ok (.putfield 22, 3) := by decide +kernel
theorem dX8_init_28 : decode cX8_init 28 = .ok (.aload_n 0, 1) := by decide +kernel
theorem dX8_init_29 : decode cX8_init 29 = .ok (.iconst (-1), 1) := by decide +kernel
theorem dX8_init_30 : decode cX8_init 30 = .ok (.putfield 26, 3) := by decide +kernel
theorem dX8_init_33 : decode cX8_init 33 = .ok (.aload_n 0, 1) := by decide +kernel
theorem dX8_init_34 : decode cX8_init 34 = .ok (.iconst (-1), 1) := by decide +kernel
theorem dX8_init_35 : decode cX8_init 35 = .ok (.putfield 29, 3) := by decide +kernel
theorem dX8_init_38 : decode cX8_init 38 = .ok (.return_, 1) := by decide +kernel
theorem dX12_init_0 : decode cX12_init 0 = .ok (.aload_n 0, 1) := by decide +kernel
theorem dX12_init_1 : decode cX12_init 1 = .ok (.invokespecial 1, 3) := by decide +kernel
theorem dX12_init_4 : decode cX12_init 4 = .ok (.aload_n 0, 1) := by decide +kernel
theorem dX12_init_5 : decode cX12_init 5 = .ok (.bipush 12, 2) := by decide +kernel
theorem dX12_init_7 : decode cX12_init 7 = .ok (.newarray .int, 2) := by decide +kernel
theorem dX12_init_9 : decode cX12_init 9 = .ok (.putfield 7, 3) := by decide +kernel
theorem dX12_init_12 : decode cX12_init 12 = .ok (.aload_n 0, 1) := by decide +kernel
theorem dX12_init_13 : decode cX12_init 13 = .ok (.bipush 12, 2) := by decide +kernel
theorem dX12_init_15 : decode cX12_init 15 = .ok (.newarray .int, 2) := by decide +kernel
theorem dX12_init_17 : decode cX12_init 17 = .ok (.putfield 13, 3) := by decide +kernel
theorem dX12_init_20 : decode cX12_init 20 = .ok (.aload_n 0, 1) := by decide +kernel
theorem dX12_init_21 : decode cX12_init 21 = .ok (.bipush 12, 2) := by decide +kernel
theorem dX12_init_23 : decode cX12_init 23 = .ok (.newarray .int, 2) := by decide +kernel
theorem dX12_init_25 : decode cX12_init 25 = .ok (.putfield 16, 3) := by decide +kernel
theorem dX12_init_28 : decode cX12_init 28 = .ok (.aload_n 0, 1) := by decide +kernel
theorem dX12_init_29 : decode cX12_init 29 = .ok (.bipush 12, 2) := by decide +kernel
theorem dX12_init_31 : decode cX12_init 31 = .ok (.newarray .int, 2) := by decide +kernel
theorem dX12_init_33 : decode cX12_init 33 = .ok (.putfield 19, 3) := by decide +kernel
theorem dX12_init_36 : decode cX12_init 36 = .ok (.aload_n 0, 1) := by decide +kernel
theorem dX12_init_37 : decode cX12_init 37 = .ok (.bipush 12, 2) := by decide +kernel
theorem dX12_init_39 : decode cX12_init 39 = .ok (.newarray .int, 2) := by decide +kernel
theorem dX12_init_41 : decode cX12_init 41 = .ok (.putfield 22, 3) := by decide +kernel
theorem dX12_init_44 : decode cX12_init 44 = .ok (.aload_n 0, 1) := by decide +kernel
theorem dX12_init_45 : decode cX12_init 45 = .ok (.bipush 13, 2) := by decide +kernel
theorem dX12_init_47 : decode cX12_init 47 = .ok (.newarray .int, 2) := by decide +kernel
theorem dX12_init_49 : decode cX12_init 49 = .ok (.putfield 25, 3) := by decide +kernel
theorem dX12_init_52 : decode cX12_init 52 = .ok (.aload_n 0, 1) := by decide +kernel
theorem dX12_init_53 : decode cX12_init 53 = .ok (.bipush 13, 2) := by decide +kernel
theorem dX12_init_55 : decode cX12_init 55 = .ok (.newarray .int, 2) := by decide +kernel
theorem dX12_init_57 : decode cX12_init 57 = .ok (.putfield 28, 3) := by decide +kernel
theorem dX12_init_60 : decode cX12_init 60 = .ok (.aload_n 0, 1) := by decide +kernel
theorem dX12_init_61 : decode cX12_init 61 = .ok (.bipush 13, 2) := by decide +kernel
theorem dX12_init_63 : decode cX12_init 63 = .ok (.newarray .int, 2) := by decide +kernel
theorem dX12_init_65 : decode cX12_init 65 = .ok (.putfield 31, 3) := by decide +kernel
theorem dX12_init_68 : decode cX12_init 68 = .ok (.aload_n 0, 1) := by decide +kernel
theorem dX12_init_69 : decode cX12_init 69 = .ok (.bipush 13, 2) := by decide +kernel
theorem dX12_init_71 : decode cX12_init 71 = .ok (.newarray .int, 2) := by decide +kernel
theorem dX12_init_73 : decode cX12_init 73 = .ok (.putfield 34, 3) := by decide +kernel
theorem dX12_init_76 : decode cX12_init 76 = .ok (.aload_n 0, 1) := by decide +kernel
theorem dX12_init_77 : decode cX12_init 77 = .ok (.bipush 13, 2) := by decide +kernel
theorem dX12_init_79 : decode cX12_init 79 = .ok (.newarray .int, 2) := by decide +kernel
theorem dX12_init_81 : decode cX12_init 81 = .ok (.putfield 37, 3) := by decide +kernel
theorem dX12_init_84 : decode cX12_init 84 = .ok (.aload_n 0, 1) := by decide +kernel
theorem dX12_init_85 : decode cX12_init 85 = .ok (.bipush 13, 2) := by decide +kernel
theorem dX12_init_87 : decode cX12_init 87 = .ok (.newarray .int, 2) := by decide +kernel
theorem dX12_init_89 : decode cX12_init 89 = .ok (.putfield 40, 3) := by decide +kernel
theorem dX12_init_92 : decode cX12_init 92 = .ok (.aload_n 0, 1) := by decide +kernel
theorem dX12_init_93 : decode cX12_init 93 = .ok (.bipush 12, 2) := by decide +kernel
theorem dX12_init_95 : decode cX12_init 95 = .ok (.newarray .int, 2) := by decide +kernel
theorem dX12_init_97 : decode cX12_init 97 = .ok (.putfield 43, 3) := by decide +kernel
theorem dX12_init_100 : decode cX12_init 100 = .ok (.aload_n 0, 1) := by decide +kernel
theorem dX12_init_101 : decode cX12_init 101 = .ok (.sipush 600, 3) := by decide +kernel
theorem dX12_init_104 : decode cX12_init 104 = .ok (.newarray .int, 2) := by decide +kernel
theorem dX12_init_106 : decode cX12_init 106 = .ok (.putfield 46, 3) := by decide +kernel
theorem dX12_init_109 : decode cX12_init 109 = .ok (.aload_n 0, 1) := by decide +kernel
theorem dX12_init_110 : decode cX12_init 110 = .ok (.sipush 400, 3) := by decide +kernel
theorem dX12_init_113 : decode cX12_init 113 = .ok (.newarray .int, 2) := by decide +kernel
theorem dX12_init_115 : decode cX12_init 115 = .ok (.putfield 49, 3) := by decide +kernel
theorem dX12_init_118 : decode cX12_init 118 = .ok (.aload_n 0, 1) := by decide +kernel
theorem dX12_init_119 : decode cX12_init 119 = .ok (.bipush 67, 2) := by decide +kernel
theorem dX12_init_121 : decode cX12_init 121 = .ok (.newarray .int, 2) := by decide +kernel
theorem dX12_init_123 : decode cX12_init 123 = .ok (.dup, 1) := by decide +kernel
theorem dX12_init_124 : decode cX12_init 124 = .ok (.iconst 0, 1) := by decide +kernel
theorem dX12_init_125 : decode cX12_init 125 = .ok (.bipush 32, 2) := by decide +kernel
theorem dX12_init_127 : decode cX12_init 127 = .ok (.iastore, 1) := by decide +kernel
theorem dX12_init_128 : decode cX12_init 128 = .ok (.dup, 1) := by decide +kernel
theorem dX12_init_129 : decode cX12_init 129 = .ok (.iconst 1, 1) := by decide +kernel
theorem dX12_init_130 : decode cX12_init 130 = .ok (.bipush 97, 2) := by decide +kernel
theorem dX12_init_132 : decode cX12_init 132 = .ok (.iastore, 1) := by decide +kernel
theorem dX12_init_133 : decode cX12_init 133 = .ok (.dup, 1) := by decide +kernel
theorem dX12_init_134 : decode cX12_init 134 = .ok (.iconst 2, 1) := by decide +kernel
theorem dX12_init_135 : decode cX12_init 135 = .ok (.bipush 103, 2) := by decide +kernel
theorem dX12_init_137 : decode cX12_init 137 = .ok (.iastore, 1) := by decide +kernel
theorem dX12_init_138 : decode cX12_init 138 = .ok (.dup, 1) := by decide +kernel
theorem dX12_init_139 : decode cX12_init 139 = .ok (.iconst 3, 1) := by decide +kernel
theorem dX12_init_140 : decode cX12_init 140 = .ok (.bipush 101, 2) := by decide +kernel
theorem dX12_init_142 : decode cX12_init 142 = .ok (.iastore, 1) := by decide +kernel
theorem dX12_init_143 : decode cX12_init 143 = .ok (.dup, 1) := by decide +kernel
theorem dX12_init_144 : decode cX12_init 144 = .ok (.iconst 4, 1) := by decide +kernel
theorem dX12_init_145 : decode cX12_init 145 = .ok (.bipush 32, 2) := by decide +kernel
theorem dX12_init_147 : decode cX12_init 147 = .ok (.iastore, 1) := by decide +kernel
theorem dX12_init_148 : decode cX12_init 148 = .ok (.dup, 1) := by decide +kernel
theorem dX12_init_149 : decode cX12_init 149 = .ok (.iconst 5, 1) := by decide +kernel
theorem dX12_init_150 : decode cX12_init 150 = .ok (.bipush 119, 2) := by decide +kernel
theorem dX12_init_152 : decode cX12_init 152 = .ok (.iastore, 1) := by decide +kernel
theorem dX12_init_153 : decode cX12_init 153 = .ok (.dup, 1) := by decide +kernel
theorem dX12_init_154 : decode cX12_init 154 = .ok (.bipush 6, 2) := by decide +kernel
theorem dX12_init_156 : decode cX12_init 156 = .ok (.bipush 104, 2) := by decide +kernel
theorem dX12_init_158 : decode cX12_init 158 = .ok (.iastore, 1) := by decide +kernel
theorem dX12_init_159 : decode cX12_init 159 = .ok (.dup, 1) := by decide +kernel
theorem dX12_init_160 : decode cX12_init 160 = .ok (.bipush 7, 2) := by decide +kernel
theorem dX12_init_162 : decode cX12_init 162 = .ok (.bipush 101, 2) := by decide +kernel
theorem dX12_init_164 : decode cX12_init 164 = .ok (.iastore, 1) := by decide +kernel
theorem dX12_init_165 : decode cX12_init 165 = .ok (.dup, 1) := by decide +kernel
theorem dX12_init_166 : decode cX12_init 166 = .ok (.bipush 8, 2) := by decide +kernel
theorem dX12_init_168 : decode cX12_init 168 = .ok (.bipush 110, 2) := by decide +kernel
theorem dX12_init_170 : decode cX12_init 170 = .ok (.iastore, 1) := by decide +kernel
theorem dX12_init_171 : decode cX12_init 171 = .ok (.dup, 1) := by decide +kernel
theorem dX12_init_172 : decode cX12_init 172 = .ok (.bipush 9, 2) := by decide +kernel
theorem dX12_init_174 : decode cX12_init 174 = .ok (.bipush 32, 2) := by decide +kernel
theorem dX12_init_176 : decode cX12_init 176 = .ok (.iastore, 1) := by decide +kernel
theorem dX12_init_177 : decode cX12_init 177 = .ok (.dup, 1) := by decide +kernel
theorem dX12_init_178 : decode cX12_init 178 = .ok (.bipush 10, 2) := by decide +kernel
theorem dX12_init_180 : decode cX12_init 180 = .ok (.bipush 111, 2) := by decide +kernel
theorem dX12_init_182 : decode cX12_init 182 = .ok (.iastore, 1) := by decide +kernel
theorem dX12_init_183 : decode cX12_init 183 = .ok (.dup, 1) := by decide +kernel
theorem dX12_init_184 : decode cX12_init 184 = .ok (.bipush 11, 2) := by decide +kernel
theorem dX12_init_186 : decode cX12_init 186 = .ok (.bipush 114, 2) := by decide +kernel
theorem dX12_init_188 : decode cX12_init 188 = .ok (.iastore, 1) := by decide +kernel
theorem dX12_init_189 : decode cX12_init 189 = .ok (.dup, 1) := by decide +kernel
theorem dX12_init_190 : decode cX12_init 190 = .ok (.bipush 12, 2) := by decide +kernel
theorem dX12_init_192 : decode cX12_init 192 = .ok (.bipush 32, 2) := by decide +kernel
theorem dX12_init_194 : decode cX12_init 194 = .ok (.iastore, 1) := by decide +kernel
theorem dX12_init_195 : decode cX12_init 195 = .ok (.dup, 1) := by decide +kernel
theorem dX12_init_196 : decode cX12_init 196 = .ok (.bipush 13, 2) := by decide +kernel
theorem dX12_init_198 : decode cX12_init 198 = .ok (.bipush 97, 2) := by decide +kernel
theorem dX12_init_200 : decode cX12_init 200 = .ok (.iastore, 1) := by decide +kernel
theorem dX12_init_201 : decode cX12_init 201 = .ok (.dup, 1) := by decide +kernel
theorem dX12_init_202 : decode cX12_init 202 = .ok (.bipush 14, 2) := by decide +kernel
theorem dX12_init_204 : decode cX12_init 204 = .ok (.bipush 110, 2) := by decide +kernel
theorem dX12_init_206 : decode cX12_init 206 = .ok (.iastore, 1) := by decide +kernel
theorem dX12_init_207 : decode cX12_init 207 = .ok (.dup, 1) := by decide +kernel
theorem dX12_init_208 : decode cX12_init 208 = .ok (.bipush 15, 2) := by decide +kernel
theorem dX12_init_210 : decode cX12_init 210 = .ok (.bipush 100, 2) := by decide +kernel
theorem dX12_init_212 : decode cX12_init 212 = .ok (.iastore, 1) := by decide +kernel
theorem dX12_init_213 : decode cX12_init 213 = .ok (.dup, 1) := by decide +kernel
theorem dX12_init_214 : decode cX12_init 214 = .ok (.bipush 16, 2) := by decide +kernel
theorem dX12_init_216 : decode cX12_init 216 = .ok (.bipush 32, 2) := by decide +kernel
theorem dX12_init_218 : decode cX12_init 218 = .ok (.iastore, 1) := by decide +kernel
theorem dX12_init_219 : decode cX12_init 219 = .ok (.dup, 1) := by decide +kernel
theorem dX12_init_220 : decode cX12_init 220 = .ok (.bipush 17, 2) := by decide +kernel
theorem dX12_init_222 : decode cX12_init 222 = .ok (.bipush 110, 2) := by decide +kernel
theorem dX12_init_224 : decode cX12_init 224 = .ok (.iastore, 1) := by decide +kernel
theorem dX12_init_225 : decode cX12_init 225 = .ok (.dup, 1) := by decide +kernel
theorem dX12_init_226 : decode cX12_init 226 = .ok (.bipush 18, 2) := by decide +kernel
theorem dX12_init_228 : decode cX12_init 228 = .ok (.bipush 111, 2) := by decide +kernel
theorem dX12_init_230 : decode cX12_init 230 = .ok (.iastore, 1) := by decide +kernel
theorem dX12_init_231 : decode cX12_init 231 = .ok (.dup, 1) := by decide +kernel
theorem dX12_init_232 : decode cX12_init 232 = .ok (.bipush 19, 2) := by decide +kernel
theorem dX12_init_234 : decode cX12_init 234 = .ok (.bipush 116, 2) := by decide +kernel
theorem dX12_init_236 : decode cX12_init 236 = .ok (.iastore, 1) := by decide +kernel
theorem dX12_init_237 : decode cX12_init 237 = .ok (.dup, 1) := by decide +kernel
theorem dX12_init_238 : decode cX12_init 238 = .ok (.bipush 20, 2) := by decide +kernel
theorem dX12_init_240 : decode cX12_init 240 = .ok (.bipush 32, 2) := by decide +kernel
theorem dX12_init_242 : decode cX12_init 242 = .ok (.iastore, 1) := by decide +kernel
theorem dX12_init_243 : decode cX12_init 243 = .ok (.dup, 1) := by decide +kernel
theorem dX12_init_244 : decode cX12_init 244 = .ok (.bipush 21, 2) := by decide +kernel
theorem dX12_init_246 : decode cX12_init 246 = .ok (.bipush 116, 2) := by decide +kernel
theorem dX12_init_248 : decode cX12_init 248 = .ok (.iastore, 1) := by decide +kernel
theorem dX12_init_249 : decode cX12_init 249 = .ok (.dup, 1) := by decide +kernel
theorem dX12_init_250 : decode cX12_init 250 = .ok (.bipush 22, 2) := by decide +kernel
theorem dX12_init_252 : decode cX12_init 252 = .ok (.bipush 104, 2) := by decide +kernel
theorem dX12_init_254 : decode cX12_init 254 = .ok (.iastore, 1) := by decide +kernel
theorem dX12_init_255 : decode cX12_init 255 = .ok (.dup, 1) := by decide +kernel
theorem dX12_init_256 : decode cX12_init 256 = .ok (.bipush 23, 2) := by decide +kernel
theorem dX12_init_258 : decode cX12_init 258 = .ok (.bipush 101, 2) := by decide +kernel
theorem dX12_init_260 : decode cX12_init 260 = .ok (.iastore, 1) := by decide +kernel
theorem dX12_init_261 : decode cX12_init 261 = .ok (.dup, 1) := by decide +kernel
theorem dX12_init_262 : decode cX12_init 262 = .ok (.bipush 24, 2) := by decide +kernel
theorem dX12_init_264 : decode cX12_init 264 = .ok (.bipush 110, 2) := by decide +kernel
theorem dX12_init_266 : decode cX12_init 266 = .ok (.iastore, 1) := by decide +kernel
theorem dX12_init_267 : decode cX12_init 267 = .ok (.dup, 1) := by decide +kernel
theorem dX12_init_268 : decode cX12_init 268 = .ok (.bipush 25, 2) := by decide +kernel
theorem dX12_init_270 : decode cX12_init 270 = .ok (.bipush 32, 2) := by decide +kernel
theorem dX12_init_272 : decode cX12_init 272 = .ok (.iastore, 1) := by decide +kernel
theorem dX12_init_273 : decode cX12_init 273 = .ok (.dup, 1) := by decide +kernel
theorem dX12_init_274 : decode cX12_init 274 = .ok (.bipush 26, 2) := by decide +kernel
theorem dX12_init_276 : decode cX12_init 276 = .ok (.bipush 110, 2) := by decide +kernel
theorem dX12_init_278 : decode cX12_init 278 = .ok (.iastore, 1) := by decide +kernel
theorem dX12_init_279 : decode cX12_init 279 = .ok (.dup, 1) := by decide +kernel
theorem dX12_init_280 : decode cX12_init 280 = .ok (.bipush 27, 2) := by decide +kernel
theorem dX12_init_282 : decode cX12_init 282 = .ok (.bipush 111, 2) := by decide +kernel
theorem dX12_init_284 : decode cX12_init 284 = .ok (.iastore, 1) := by decide +kernel
theorem dX12_init_285 : decode cX12_init 285 = .ok (.dup, 1) := by decide +kernel
theorem dX12_init_286 : decode cX12_init 286 = .ok (.bipush 28, 2) := by decide +kernel
theorem dX12_init_288 : decode cX12_init 288 = .ok (.bipush 119, 2) := by decide +kernel
theorem dX12_init_290 : decode cX12_init 290 = .ok (.iastore, 1) := by decide +kernel
theorem dX12_init_291 : decode cX12_init 291 = .ok (.dup, 1) := by decide +kernel
theorem dX12_init_292 : decode cX12_init 292 = .ok (.bipush 29, 2) := by decide +kernel
theorem dX12_init_294 : decode cX12_init 294 = .ok (.bipush 32, 2) := by decide +kernel
theorem dX12_init_296 : decode cX12_init 296 = .ok (.iastore, 1) := by decide +kernel
theorem dX12_init_297 : decode cX12_init 297 = .ok (.dup, 1) := by decide +kernel
theorem dX12_init_298 : decode cX12_init 298 = .ok (.bipush 30, 2) := by decide +kernel
theorem dX12_init_300 : decode cX12_init 300 = .ok (.bipush 100, 2) := by decide +kernel
theorem dX12_init_302 : decode cX12_init 302 = .ok (.iastore, 1) := by decide +kernel
theorem dX12_init_303 : decode cX12_init 303 = .ok (.dup, 1) := by decide +kernel
theorem dX12_init_304 : decode cX12_init 304 = .ok (.bipush 31, 2) := by decide +kernel
theorem dX12_init_306 : decode cX12_init 306 = .ok (.bipush 117, 2) := by decide +kernel
theorem dX12_init_308 : decode cX12_init 308 = .ok (.iastore, 1) := by decide +kernel
theorem dX12_init_309 : decode cX12_init 309 = .ok (.dup, 1) := by decide +kernel
theorem dX12_init_310 : decode cX12_init 310 = .ok (.bipush 32, 2) := by decide +kernel
theorem dX12_init_312 : decode cX12_init 312 = .ok (.bipush 115, 2) := by decide +kernel
theorem dX12_init_314 : decode cX12_init 314 = .ok (.iastore, 1) := by decide +kernel
theorem dX12_init_315 : decode cX12_init 315 = .ok (.dup, 1) := by decide +kernel
theorem dX12_init_316 : decode cX12_init 316 = .ok (.bipush 33, 2) := by decide +kernel
theorem dX12_init_318 : decode cX12_init 318 = .ok (.bipush 116, 2) := by decide +kernel
theorem dX12_init_320 : decode cX12_init 320 = .ok (.iastore, 1) := by decide +kernel
theorem dX12_init_321 : decode cX12_init 321 = .ok (.dup, 1) := by decide +kernel
theorem dX12_init_322 : decode cX12_init 322 = .ok (.bipush 34, 2) := by decide +kernel
theorem dX12_init_324 : decode cX12_init 324 = .ok (.bipush 32, 2) := by decide +kernel
theorem dX12_init_326 : decode cX12_init 326 = .ok (.iastore, 1) := by decide +kernel
theorem dX12_init_327 : decode cX12_init 327 = .ok (.dup, 1) := by decide +kernel
theorem dX12_init_328 : decode cX12_init 328 = .ok (.bipush 35, 2) := by decide +kernel
theorem dX12_init_330 : decode cX12_init 330 = .ok (.bipush 111, 2) := by decide +kernel
theorem dX12_init_332 : decode cX12_init 332 = .ok (.iastore, 1) := by decide +kernel
theorem dX12_init_333 : decode cX12_init 333 = .ok (.dup, 1) := by decide +kernel
theorem dX12_init_334 : decode cX12_init 334 = .ok (.bipush 36, 2) := by decide +kernel
theorem dX12_init_336 : decode cX12_init 336 = .ok (.bipush 119, 2) := by decide +kernel
theorem dX12_init_338 : decode cX12_init 338 = .ok (.iastore, 1) := by decide +kernel
theorem dX12_init_339 : decode cX12_init 339 = .ok (.dup, 1) := by decide +kernel
theorem dX12_init_340 : decode cX12_init 340 = .ok (.bipush 37, 2) := by decide +kernel
theorem dX12_init_342 : decode cX12_init 342 = .ok (.bipush 110, 2) := by decide +kernel
theorem dX12_init_344 : decode cX12_init 344 = .ok (.iastore, 1) := by decide +kernel
theorem dX12_init_345 : decode cX12_init 345 = .ok (.dup, 1) := by decide +kernel
theorem dX12_init_346 : decode cX12_init 346 = .ok (.bipush 38, 2) := by decide +kernel
theorem dX12_init_348 : decode cX12_init 348 = .ok (.bipush 32, 2) := by decide +kernel
theorem dX12_init_350 : decode cX12_init 350 = .ok (.iastore, 1) := by decide +kernel
theorem dX12_init_351 : decode cX12_init 351 = .ok (.dup, 1) := by decide +kernel
theorem dX12_init_352 : decode cX12_init 352 = .ok (.bipush 39, 2) := by decide +kernel
theorem dX12_init_354 : decode cX12_init 354 = .ok (.bipush 114, 2) := by decide +kernel
theorem dX12_init_356 : decode cX12_init 356 = .ok (.iastore, 1) := by decide +kernel
theorem dX12_init_357 : decode cX12_init 357 = .ok (.dup, 1) := by decide +kernel
theorem dX12_init_358 : decode cX12_init 358 = .ok (.bipush 40, 2) := by decide +kernel
theorem dX12_init_360 : decode cX12_init 360 = .ok (.bipush 101, 2) := by decide +kernel
theorem dX12_init_362 : decode cX12_init 362 = .ok (.iastore, 1) := by decide +kernel
theorem dX12_init_363 : decode cX12_init 363 = .ok (.dup, 1) := by decide +kernel
theorem dX12_init_364 : decode cX12_init 364 = .ok (.bipush 41, 2) := by decide +kernel
theorem dX12_init_366 : decode cX12_init 366 = .ok (.bipush 97, 2) := by decide +kernel
theorem dX12_init_368 : decode cX12_init 368 = .ok (.iastore, 1) := by decide +kernel
theorem dX12_init_369 : decode cX12_init 369 = .ok (.dup, 1) := by decide +kernel
theorem dX12_init_370 : decode cX12_init 370 = .ok (.bipush 42, 2) := by decide +kernel
theorem dX12_init_372 : decode cX12_init 372 = .ok (.bipush 100, 2) := by decide +kernel
theorem dX12_init_374 : decode cX12_init 374 = .ok (.iastore, 1) := by decide +kernel
theorem dX12_init_375 : decode cX12_init 375 = .ok (.dup, 1) := by decide +kernel
theorem dX12_init_376 : decode cX12_init 376 = .ok (.bipush 43, 2) := by decide +kernel
theorem dX12_init_378 : decode cX12_init 378 = .ok (.bipush 32, 2) := by decide +kernel
theorem dX12_init_380 : decode cX12_init 380 = .ok (.iastore, 1) := by decide +kernel
theorem dX12_init_381 : decode cX12_init 381 = .ok (.dup, 1) := by decide +kernel
theorem dX12_init_382 : decode cX12_init 382 = .ok (.bipush 44, 2) := by decide +kernel
theorem dX12_init_384 : decode cX12_init 384 = .ok (.bipush 115, 2) := by decide +kernel
theorem dX12_init_386 : decode cX12_init 386 = .ok (.iastore, 1) := by decide +kernel
theorem dX12_init_387 : decode cX12_init 387 = .ok (.dup, 1) := by decide +kernel
theorem dX12_init_388 : decode cX12_init 388 = .ok (.bipush 45, 2) := by decide +kernel
theorem dX12_init_390 : decode cX12_init 390 = .ok (.bipush 104, 2) := by decide +kernel
theorem dX12_init_392 : decode cX12_init 392 = .ok (.iastore, 1) := by decide +kernel
theorem dX12_init_393 : decode cX12_init 393 = .ok (.dup, 1) := by decide +kernel
theorem dX12_init_394 : decode cX12_init 394 = .ok (.bipush 46, 2) := by decide +kernel
theorem dX12_init_396 : decode cX12_init 396 = .ok (.bipush 101, 2) := by decide +kernel
theorem dX12_init_398 : decode cX12_init 398 = .ok (.iastore, 1) := by decide +kernel
theorem dX12_init_399 : decode cX12_init 399 = .ok (.dup, 1) := by decide +kernel
theorem dX12_init_400 : decode cX12_init 400 = .ok (.bipush 47, 2) := by decide +kernel
theorem dX12_init_402 : decode cX12_init 402 = .ok (.bipush 108, 2) := by decide +kernel
theorem dX12_init_404 : decode cX12_init 404 = .ok (.iastore, 1) := by decide +kernel
theorem dX12_init_405 : decode cX12_init 405 = .ok (.dup, 1) := by decide +kernel
theorem dX12_init_406 : decode cX12_init 406 = .ok (.bipush 48, 2) := by decide +kernel
theorem dX12_init_408 : decode cX12_init 408 = .ok (.bipush 102, 2) := by decide +kernel
theorem dX12_init_410 : decode cX12_init 410 = .ok (.iastore, 1) := by decide +kernel
theorem dX12_init_411 : decode cX12_init 411 = .ok (.dup, 1) := by decide +kernel
theorem dX12_init_412 : decode cX12_init 412 = .ok (.bipush 49, 2) := by decide +kernel
theorem dX12_init_414 : decode cX12_init 414 = .ok (.bipush 32, 2) := by decide +kernel
theorem dX12_init_416 : decode cX12_init 416 = .ok (.iastore, 1) := by decide +kernel
theorem dX12_init_417 : decode cX12_init 417 = .ok (.dup, 1) := by decide +kernel
theorem dX12_init_418 : decode cX12_init 418 = .ok (.bipush 50, 2) := by decide +kernel
theorem dX12_init_420 : decode cX12_init 420 = .ok (.bipush 107, 2) := by decide +kernel
theorem dX12_init_422 : decode cX12_init 422 = .ok (.iastore, 1) := by decide +kernel
theorem dX12_init_423 : decode cX12_init 423 = .ok (.dup, 1) := by decide +kernel
theorem dX12_init_424 : decode cX12_init 424 = .ok (.bipush 51, 2) := by decide +kernel
theorem dX12_init_426 : decode cX12_init 426 = .ok (.bipush 105, 2) := by decide +kernel
theorem dX12_init_428 : decode cX12_init 428 = .ok (.iastore, 1) := by decide +kernel
theorem dX12_init_429 : decode cX12_init 429 = .ok (.dup, 1) := by decide +kernel
theorem dX12_init_430 : decode cX12_init 430 = .ok (.bipush 52, 2) := by decide +kernel
theorem dX12_init_432 : decode cX12_init 432 = .ok (.bipush 110, 2) := by decide +kernel
theorem dX12_init_434 : decode cX12_init 434 = .ok (.iastore, 1) := by decide +kernel
theorem dX12_init_435 : decode cX12_init 435 = .ok (.dup, 1) := by decide +kernel
theorem dX12_init_436 : decode cX12_init 436 = .ok (.bipush 53, 2) := by decide +kernel
theorem dX12_init_438 : decode cX12_init 438 = .ok (.bipush 100, 2) := by decide +kernel
theorem dX12_init_440 : decode cX12_init 440 = .ok (.iastore, 1) := by decide +kernel
theorem dX12_init_441 : decode cX12_init 441 = .ok (.dup, 1) := by decide +kernel
theorem dX12_init_442 : decode cX12_init 442 = .ok (.bipush 54, 2) := by decide +kernel
theorem dX12_init_444 : decode cX12_init 444 = .ok (.bipush 32, 2) := by decide +kernel
theorem dX12_init_446 : decode cX12_init 446 = .ok (.iastore, 1) := by decide +kernel
theorem dX12_init_447 : decode cX12_init 447 = .ok (.dup, 1) := by decide +kernel
theorem dX12_init_448 : decode cX12_init 448 = .ok (.bipush 55, 2) := by decide +kernel
theorem dX12_init_450 : decode cX12_init 450 = .ok (.bipush 97, 2) := by decide +kernel
theorem dX12_init_452 : decode cX12_init 452 = .ok (.iastore, 1) := by decide +kernel
theorem dX12_init_453 : decode cX12_init 453 = .ok (.dup, 1) := by decide +kernel
theorem dX12_init_454 : decode cX12_init 454 = .ok (.bipush 56, 2) := by decide +kernel
theorem dX12_init_456 : decode cX12_init 456 = .ok (.bipush 108, 2) := by decide +kernel
theorem dX12_init_458 : decode cX12_init 458 = .ok (.iastore, 1) := by decide +kernel
theorem dX12_init_459 : decode cX12_init 459 = .ok (.dup, 1) := by decide +kernel
theorem dX12_init_460 : decode cX12_init 460 = .ok (.bipush 57, 2) := by decide +kernel
theorem dX12_init_462 : decode cX12_init 462 = .ok (.bipush 105, 2) := by decide +kernel
theorem dX12_init_464 : decode cX12_init 464 = .ok (.iastore, 1) := by decide +kernel
theorem dX12_init_465 : decode cX12_init 465 = .ok (.dup, 1) := by decide +kernel
theorem dX12_init_466 : decode cX12_init 466 = .ok (.bipush 58, 2) := by decide +kernel
theorem dX12_init_468 : decode cX12_init 468 = .ok (.bipush 118, 2) := by decide +kernel
theorem dX12_init_470 : decode cX12_init 470 = .ok (.iastore, 1) := by decide +kernel
theorem dX12_init_471 : decode cX12_init 471 = .ok (.dup, 1) := by decide +kernel
theorem dX12_init_472 : decode cX12_init 472 = .ok (.bipush 59, 2) := by decide +kernel
theorem dX12_init_474 : decode cX12_init 474 = .ok (.bipush 101, 2) := by decide +kernel
theorem dX12_init_476 : decode cX12_init 476 = .ok (.iastore, 1) := by decide +kernel
theorem dX12_init_477 : decode cX12_init 477 = .ok (.dup, 1) := by decide +kernel
theorem dX12_init_478 : decode cX12_init 478 = .ok (.bipush 60, 2) := by decide +kernel
theorem dX12_init_480 : decode cX12_init 480 = .ok (.bipush 32, 2) := by decide +kernel
theorem dX12_init_482 : decode cX12_init 482 = .ok (.iastore, 1) := by decide +kernel
theorem dX12_init_483 : decode cX12_init 483 = .ok (.dup, 1) := by decide +kernel
theorem dX12_init_484 : decode cX12_init 484 = .ok (.bipush 61, 2) := by decide +kernel
theorem dX12_init_486 : decode cX12_init 486 = .ok (.bipush 112, 2) := by decide +kernel
theorem dX12_init_488 : decode cX12_init 488 = .ok (.iastore, 1) := by decide +kernel
theorem dX12_init_489 : decode cX12_init 489 = .ok (.dup, 1) := by decide +kernel
theorem dX12_init_490 : decode cX12_init 490 = .ok (.bipush 62, 2) := by decide +kernel
theorem dX12_init_492 : decode cX12_init 492 = .ok (.bipush 97, 2) := by decide +kernel
theorem dX12_init_494 : decode cX12_init 494 = .ok (.iastore, 1) := by decide +kernel
theorem dX12_init_495 : decode cX12_init 495 = .ok (.dup, 1) := by decide +kernel
theorem dX12_init_496 : decode cX12_init 496 = .ok (.bipush 63, 2) := by decide +kernel
theorem dX12_init_498 : decode cX12_init 498 = .ok (.bipush 112, 2) := by decide +kernel
theorem dX12_init_500 : decode cX12_init 500 = .ok (.iastore, 1) := by decide +kernel
theorem dX12_init_501 : decode cX12_init 501 = .ok (.dup, 1) := by decide +kernel
theorem dX12_init_502 : decode cX12_init 502 = .ok (.bipush 64, 2) := by decide +kernel
theorem dX12_init_504 : decode cX12_init 504 = .ok (.bipush 101, 2) := by decide +kernel
theorem dX12_init_506 : decode cX12_init 506 = .ok (.iastore, 1) := by decide +kernel
theorem dX12_init_507 : decode cX12_init 507 = .ok (.dup, 1) := by decide +kernel
theorem dX12_init_508 : decode cX12_init 508 = .ok (.bipush 65, 2) := by decide +kernel
theorem dX12_init_510 : decode cX12_init 510 = .ok (.bipush 114, 2) := by decide +kernel
theorem dX12_init_512 : decode cX12_init 512 = .ok (.iastore, 1) := by decide +kernel
theorem dX12_init_513 : decode cX12_init 513 = .ok (.dup, 1) := by decide +kernel
theorem dX12_init_514 : decode cX12_init 514 = .ok (.bipush 66, 2) := by decide +kernel
theorem dX12_init_516 : decode cX12_init 516 = .ok (.bipush 32, 2) := by decide +kernel
theorem dX12_init_518 : decode cX12_init 518 = .ok (.iastore, 1) := by decide +kernel
theorem dX12_init_519 : decode cX12_init 519 = .ok (.putfield 52, 3) := by decide +kernel
theorem dX12_init_522 : decode cX12_init 522 = .ok (.aload_n 0, 1) := by decide +kernel
theorem dX12_init_523 : decode cX12_init 523 = .ok (.bipush 32, 2) := by decide +kernel
theorem dX12_init_525 : decode cX12_init 525 = .ok (.newarray .int, 2) := by decide +kernel
theorem dX12_init_527 : decode cX12_init 527 = .ok (.putfield 55, 3) := by decide +kernel
theorem dX12_init_530 : decode cX12_init 530 = .ok (.aload_n 0, 1) := by decide +kernel
theorem dX12_init_531 : decode cX12_init 531 = .ok (.bipush 32, 2) := by decide +kernel
theorem dX12_init_533 : decode cX12_init 533 = .ok (.newarray .int, 2) := by decide +kernel
theorem dX12_init_535 : decode cX12_init 535 = .ok (.putfield 58, 3) := by decide +kernel
theorem dX12_init_538 : decode cX12_init 538 = .ok (.aload_n 0, 1) := by decide +kernel
theorem dX12_init_539 : decode cX12_init 539 = .ok (.bipush 32, 2) := by decide +kernel
theorem dX12_init_541 : decode cX12_init 541 = .ok (.newarray .int, 2) := by decide +kernel
theorem dX12_init_543 : decode cX12_init 543 = .ok (.putfield 61, 3) := by decide +kernel
theorem dX12_init_546 : decode cX12_init 546 = .ok (.aload_n 0, 1) := by decide +kernel
theorem dX12_init_547 : decode cX12_init 547 = .ok (.sipush 800, 3) := by decide +kernel
theorem dX12_init_550 : decode cX12_init 550 = .ok (.newarray .int, 2) := by decide +kernel
theorem dX12_init_552 : decode cX12_init 552 = .ok (.putfield 64, 3) := by decide +kernel
theorem dX12_init_555 : decode cX12_init 555 = .ok (.aload_n 0, 1) := by decide +kernel
theorem dX12_init_556 : decode cX12_init 556 = .ok (.sipush 800, 3) := by decide +kernel
theorem dX12_init_559 : decode cX12_init 559 = .ok (.newarray .int, 2) := by decide +kernel
theorem dX12_init_561 : decode cX12_init 561 = .ok (.putfield 67, 3) := by decide +kernel
theorem dX12_init_564 : decode cX12_init 564 = .ok (.aload_n 0, 1) := by decide +kernel
theorem dX12_init_565 : decode cX12_init 565 = .ok (.bipush 40, 2) := by decide +kernel
theorem dX12_init_567 : decode cX12_init 567 = .ok (.newarray .int, 2) := by decide +kernel
theorem dX12_init_569 : decode cX12_init 569 = .ok (.putfield 70, 3) := by decide +kernel
theorem dX12_init_572 : decode cX12_init 572 = .ok (.aload_n 0, 1) := by decide +kernel
theorem dX12_init_573 : decode cX12_init 573 = .ok (.iconst (-1), 1) := by decide +kernel
theorem dX12_init_574 : decode cX12_init 574 = .ok (.putfield 73, 3) := by decide +kernel
theorem dX12_init_577 : decode cX12_init 577 = .ok (.aload_n 0, 1) := by decide +kernel
theorem dX12_init_578 : decode cX12_init 578 = .ok (.bipush 9, 2) := by decide +kernel
theorem dX12_init_580 : decode cX12_init 580 = .ok (.newarray .int, 2) := by decide +kernel
theorem dX12_init_582 : decode cX12_init 582 = .ok (.putfield 77, 3) := by decide +kernel
theorem dX12_init_585 : decode cX12_init 585 = .ok (.aload_n 0, 1) := by decide +kernel
theorem dX12_init_586 : decode cX12_init 586 = .ok (.sipush 420, 3) := by decide +kernel
theorem dX12_init_589 : decode cX12_init 589 = .ok (.newarray .int, 2) := by decide +kernel
theorem dX12_init_591 : decode cX12_init 591 = .ok (.putfield 80, 3) := by decide +kernel
theorem dX12_init_594 : decode cX12_init 594 = .ok (.aload_n 0, 1) := by decide +kernel
theorem dX12_init_595 : decode cX12_init 595 = .ok (.bipush 60, 2) := by decide +kernel
theorem dX12_init_597 : decode cX12_init 597 = .ok (.newarray .int, 2) := by decide +kernel
theorem dX12_init_599 : decode cX12_init 599 = .ok (.putfield 83, 3) := by decide +kernel
theorem dX12_init_602 : decode cX12_init 602 = .ok (.aload_n 0, 1) := by decide +kernel
theorem dX12_init_603 : decode cX12_init 603 = .ok (.bipush 6, 2) := by decide +kernel
theorem dX12_init_605 : decode cX12_init 605 = .ok (.newarray .int, 2) := by decide +kernel
theorem dX12_init_607 : decode cX12_init 607 = .ok (.putfield 86, 3) := by decide +kernel
theorem dX12_init_610 : decode cX12_init 610 = .ok (.aload_n 0, 1) := by decide +kernel
theorem dX12_init_611 : decode cX12_init 611 = .ok (.bipush 6, 2) := by decide +kernel
theorem dX12_init_613 : decode cX12_init 613 = .ok (.newarray .int, 2) := by decide +kernel
theorem dX12_init_615 : decode cX12_init 615 = .ok (.putfield 89, 3) := by decide +kernel
theorem dX12_init_618 : decode cX12_init 618 = .ok (.aload_n 0, 1) := by decide +kernel
theorem dX12_init_619 : decode cX12_init 619 = .ok (.bipush 6, 2) := by decide +kernel
theorem dX12_init_621 : decode cX12_init 621 = .ok (.newarray .int, 2) := by decide +kernel
theorem dX12_init_623 : decode cX12_init 623 = .ok (.putfield 92, 3) := by decide +kernel
theorem dX12_init_626 : decode cX12_init 626 = .ok (.aload_n 0, 1) := by decide +kernel
theorem dX12_init_627 : decode cX12_init 627 = .ok (.bipush 6, 2) := by decide +kernel
theorem dX12_init_629 : decode cX12_init 629 = .ok (.newarray .int, 2) := by decide +kernel
theorem dX12_init_631 : decode cX12_init 631 = .ok (.putfield 95, 3) := by decide +kernel
theorem dX12_init_634 : decode cX12_init 634 = .ok (.aload_n 0, 1) := by decide +kernel
theorem dX12_init_635 : decode cX12_init 635 = .ok (.bipush 12, 2) := by decide +kernel
theorem dX12_init_637 : decode cX12_init 637 = .ok (.newarray .int, 2) := by decide +kernel
theorem dX12_init_639 : decode cX12_init 639 = .ok (.putfield 98, 3) := by decide +kernel
theorem dX12_init_642 : decode cX12_init 642 = .ok (.aload_n 0, 1) := by decide +kernel
theorem dX12_init_643 : decode cX12_init 643 = .ok (.sipush 1900, 3) := by decide +kernel
theorem dX12_init_646 : decode cX12_init 646 = .ok (.newarray .int, 2) := by decide +kernel
theorem dX12_init_648 : decode cX12_init 648 = .ok (.putfield 101, 3) := by decide +kernel
theorem dX12_init_651 : decode cX12_init 651 = .ok (.return_, 1) := by decide +kernel
