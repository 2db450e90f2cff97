theorem iX0 : ∀ w ∈ u_ws RX0 TX0 3, w ∈ pm_tbl := by decide +kernel
theorem iX2 : ∀ w ∈ u_ws RX2 TX2 5, w ∈ pm_tbl := by decide +kernel
theorem iX3 : ∀ w ∈ u_ws RX3 TX3 2, w ∈ pm_tbl := by decide +kernel
theorem iX4 : ∀ w ∈ u_ws RX4 TX4 3, w ∈ pm_tbl := by decide +kernel
theorem iX5 : ∀ w ∈ u_ws RX5 TX5 5, w ∈ pm_tbl := by decide +kernel
theorem iX6 : ∀ w ∈ u_ws RX6 TX6 3, w ∈ pm_tbl := by decide +kernel
theorem iX7 : ∀ w ∈ u_ws RX7 TX7 6, w ∈ pm_tbl := by decide +kernel
theorem iX8 : ∀ w ∈ u_ws RX8 TX8 5, w ∈ pm_tbl := by decide +kernel
theorem iX9 : ∀ w ∈ u_ws RX9 TX9 12, w ∈ pm_tbl := by decide +kernel
theorem iX10 : ∀ w ∈ u_ws RX10 TX10 26, w ∈ pm_tbl := by decide +kernel
theorem ki_X0 : Cond.initialized RX0 ∈ pm_tbl := List.mem_filter.mpr ⟨List.mem_of_getElem? (i := 66) (by decide +kernel), by decide +kernel⟩
theorem kn_X0 : Cond.instantiable RX0 3 ∈ pm_tbl := List.mem_filter.mpr ⟨List.mem_of_getElem? (i := 136) (by decide +kernel), by decide +kernel⟩
theorem ki_X2 : Cond.initialized RX2 ∈ pm_tbl := List.mem_filter.mpr ⟨List.mem_of_getElem? (i := 75) (by decide +kernel), by decide +kernel⟩
theorem kn_X2 : Cond.instantiable RX2 5 ∈ pm_tbl := List.mem_filter.mpr ⟨List.mem_of_getElem? (i := 535) (by decide +kernel), by decide +kernel⟩
theorem ki_X3 : Cond.initialized RX3 ∈ pm_tbl := List.mem_filter.mpr ⟨List.mem_of_getElem? (i := 67) (by decide +kernel), by decide +kernel⟩
theorem kn_X3 : Cond.instantiable RX3 2 ∈ pm_tbl := List.mem_filter.mpr ⟨List.mem_of_getElem? (i := 152) (by decide +kernel), by decide +kernel⟩
theorem ki_X4 : Cond.initialized RX4 ∈ pm_tbl := List.mem_filter.mpr ⟨List.mem_of_getElem? (i := 64) (by decide +kernel), by decide +kernel⟩
theorem kn_X4 : Cond.instantiable RX4 3 ∈ pm_tbl := List.mem_filter.mpr ⟨List.mem_of_getElem? (i := 89) (by decide +kernel), by decide +kernel⟩
theorem ki_X5 : Cond.initialized RX5 ∈ pm_tbl := List.mem_filter.mpr ⟨List.mem_of_getElem? (i := 74) (by decide +kernel), by decide +kernel⟩
theorem kn_X5 : Cond.instantiable RX5 5 ∈ pm_tbl := List.mem_filter.mpr ⟨List.mem_of_getElem? (i := 431) (by decide +kernel), by decide +kernel⟩
theorem ki_X6 : Cond.initialized RX6 ∈ pm_tbl := List.mem_filter.mpr ⟨List.mem_of_getElem? (i := 69) (by decide +kernel), by decide +kernel⟩
theorem kn_X6 : Cond.instantiable RX6 3 ∈ pm_tbl := List.mem_filter.mpr ⟨List.mem_of_getElem? (i := 188) (by decide +kernel), by decide +kernel⟩
theorem ki_X7 : Cond.initialized RX7 ∈ pm_tbl := List.mem_filter.mpr ⟨List.mem_of_getElem? (i := 65) (by decide +kernel), by decide +kernel⟩
theorem kn_X7 : Cond.instantiable RX7 6 ∈ pm_tbl := List.mem_filter.mpr ⟨List.mem_of_getElem? (i := 107) (by decide +kernel), by decide +kernel⟩
theorem ki_X8 : Cond.initialized RX8 ∈ pm_tbl := List.mem_filter.mpr ⟨List.mem_of_getElem? (i := 68) (by decide +kernel), by decide +kernel⟩
theorem kn_X8 : Cond.instantiable RX8 5 ∈ pm_tbl := List.mem_filter.mpr ⟨List.mem_of_getElem? (i := 165) (by decide +kernel), by decide +kernel⟩
theorem ki_X9 : Cond.initialized RX9 ∈ pm_tbl := List.mem_filter.mpr ⟨List.mem_of_getElem? (i := 63) (by decide +kernel), by decide +kernel⟩
theorem kn_X9 : Cond.instantiable RX9 12 ∈ pm_tbl := List.mem_filter.mpr ⟨List.mem_of_getElem? (i := 77) (by decide +kernel), by decide +kernel⟩
theorem ki_X10 : Cond.initialized RX10 ∈ pm_tbl := List.mem_filter.mpr ⟨List.mem_of_getElem? (i := 70) (by decide +kernel), by decide +kernel⟩
theorem kn_X10 : Cond.instantiable RX10 26 ∈ pm_tbl := List.mem_filter.mpr ⟨List.mem_of_getElem? (i := 705) (by decide +kernel), by decide +kernel⟩
theorem ki_J6 : Cond.initialized RJ6 ∈ pm_tbl := List.mem_filter.mpr ⟨List.mem_of_getElem? (i := 73) (by decide +kernel), by decide +kernel⟩
theorem ki_J9 : Cond.initialized RJ9 ∈ pm_tbl := List.mem_filter.mpr ⟨List.mem_of_getElem? (i := 71) (by decide +kernel), by decide +kernel⟩
theorem ki_J10 : Cond.initialized RJ10 ∈ pm_tbl := List.mem_filter.mpr ⟨List.mem_of_getElem? (i := 72) (by decide +kernel), by decide +kernel⟩
theorem ki_L : Cond.initialized RL ∈ pm_tbl := List.mem_filter.mpr ⟨List.mem_of_getElem? (i := 62) (by decide +kernel), by decide +kernel⟩
theorem kc_X0_init : Cond.code yX0_init cX0_init 1 none ∈ pm_tbl := List.mem_filter.mpr ⟨List.mem_of_getElem? (i := 139) (by decide +kernel), by decide +kernel⟩
theorem km_X0_init : Cond.instanceMethod yX0_init ∈ pm_tbl := List.mem_filter.mpr ⟨List.mem_of_getElem? (i := 138) (by decide +kernel), by decide +kernel⟩
theorem kc_X0_readEven : Cond.code yX0_readEven cX0_readEven 3 none ∈ pm_tbl := List.mem_filter.mpr ⟨List.mem_of_getElem? (i := 354) (by decide +kernel), by decide +kernel⟩
theorem km_X0_readEven : Cond.instanceMethod yX0_readEven ∈ pm_tbl := List.mem_filter.mpr ⟨List.mem_of_getElem? (i := 352) (by decide +kernel), by decide +kernel⟩
theorem ks_X0_readEven : Cond.selects RX0 yX0_readEven yX0_readEven ∈ pm_tbl := List.mem_filter.mpr ⟨List.mem_of_getElem? (i := 353) (by decide +kernel), by decide +kernel⟩
theorem kc_X0_readParts : Cond.code yX0_readParts cX0_readParts 5 none ∈ pm_tbl := List.mem_filter.mpr ⟨List.mem_of_getElem? (i := 359) (by decide +kernel), by decide +kernel⟩
theorem km_X0_readParts : Cond.instanceMethod yX0_readParts ∈ pm_tbl := List.mem_filter.mpr ⟨List.mem_of_getElem? (i := 357) (by decide +kernel), by decide +kernel⟩
theorem ks_X0_readParts : Cond.selects RX0 yX0_readParts yX0_readParts ∈ pm_tbl := List.mem_filter.mpr ⟨List.mem_of_getElem? (i := 358) (by decide +kernel), by decide +kernel⟩
theorem kc_X0_readNested : Cond.code yX0_readNested cX0_readNested 4 none ∈ pm_tbl := List.mem_filter.mpr ⟨List.mem_of_getElem? (i := 366) (by decide +kernel), by decide +kernel⟩
theorem km_X0_readNested : Cond.instanceMethod yX0_readNested ∈ pm_tbl := List.mem_filter.mpr ⟨List.mem_of_getElem? (i := 364) (by decide +kernel), by decide +kernel⟩
theorem ks_X0_readNested : Cond.selects RX0 yX0_readNested yX0_readNested ∈ pm_tbl := List.mem_filter.mpr ⟨List.mem_of_getElem? (i := 365) (by decide +kernel), by decide +kernel⟩
theorem kc_X0_lieNested : Cond.code yX0_lieNested cX0_lieNested 4 (some .boolean) ∈ pm_tbl := List.mem_filter.mpr ⟨List.mem_of_getElem? (i := 388) (by decide +kernel), by decide +kernel⟩
theorem km_X0_lieNested : Cond.instanceMethod yX0_lieNested ∈ pm_tbl := List.mem_filter.mpr ⟨List.mem_of_getElem? (i := 386) (by decide +kernel), by decide +kernel⟩
theorem ks_X0_lieNested : Cond.selects RX0 yX0_lieNested yX0_lieNested ∈ pm_tbl := List.mem_filter.mpr ⟨List.mem_of_getElem? (i := 387) (by decide +kernel), by decide +kernel⟩
theorem kc_X0_fits : Cond.code yX0_fits cX0_fits 3 (some .boolean) ∈ pm_tbl := List.mem_filter.mpr ⟨List.mem_of_getElem? (i := 477) (by decide +kernel), by decide +kernel⟩
theorem km_X0_fits : Cond.instanceMethod yX0_fits ∈ pm_tbl := List.mem_filter.mpr ⟨List.mem_of_getElem? (i := 475) (by decide +kernel), by decide +kernel⟩
theorem kc_X2_init : Cond.code yX2_init cX2_init 6 none ∈ pm_tbl := List.mem_filter.mpr ⟨List.mem_of_getElem? (i := 538) (by decide +kernel), by decide +kernel⟩
theorem km_X2_init : Cond.instanceMethod yX2_init ∈ pm_tbl := List.mem_filter.mpr ⟨List.mem_of_getElem? (i := 537) (by decide +kernel), by decide +kernel⟩
theorem kc_X2_fits : Cond.code yX2_fits cX2_fits 3 (some .boolean) ∈ pm_tbl := List.mem_filter.mpr ⟨List.mem_of_getElem? (i := 484) (by decide +kernel), by decide +kernel⟩
theorem km_X2_fits : Cond.instanceMethod yX2_fits ∈ pm_tbl := List.mem_filter.mpr ⟨List.mem_of_getElem? (i := 482) (by decide +kernel), by decide +kernel⟩
theorem kc_X3_init : Cond.code yX3_init cX3_init 1 none ∈ pm_tbl := List.mem_filter.mpr ⟨List.mem_of_getElem? (i := 155) (by decide +kernel), by decide +kernel⟩
theorem km_X3_init : Cond.instanceMethod yX3_init ∈ pm_tbl := List.mem_filter.mpr ⟨List.mem_of_getElem? (i := 154) (by decide +kernel), by decide +kernel⟩
theorem kc_X3_readEdges : Cond.code yX3_readEdges cX3_readEdges 6 none ∈ pm_tbl := List.mem_filter.mpr ⟨List.mem_of_getElem? (i := 370) (by decide +kernel), by decide +kernel⟩
theorem km_X3_readEdges : Cond.instanceMethod yX3_readEdges ∈ pm_tbl := List.mem_filter.mpr ⟨List.mem_of_getElem? (i := 368) (by decide +kernel), by decide +kernel⟩
theorem ks_X3_readEdges : Cond.selects RX3 yX3_readEdges yX3_readEdges ∈ pm_tbl := List.mem_filter.mpr ⟨List.mem_of_getElem? (i := 369) (by decide +kernel), by decide +kernel⟩
theorem kc_X3_readPlaces : Cond.code yX3_readPlaces cX3_readPlaces 4 none ∈ pm_tbl := List.mem_filter.mpr ⟨List.mem_of_getElem? (i := 384) (by decide +kernel), by decide +kernel⟩
theorem km_X3_readPlaces : Cond.instanceMethod yX3_readPlaces ∈ pm_tbl := List.mem_filter.mpr ⟨List.mem_of_getElem? (i := 382) (by decide +kernel), by decide +kernel⟩
theorem ks_X3_readPlaces : Cond.selects RX3 yX3_readPlaces yX3_readPlaces ∈ pm_tbl := List.mem_filter.mpr ⟨List.mem_of_getElem? (i := 383) (by decide +kernel), by decide +kernel⟩
theorem kc_X3_fits : Cond.code yX3_fits cX3_fits 4 (some .boolean) ∈ pm_tbl := List.mem_filter.mpr ⟨List.mem_of_getElem? (i := 492) (by decide +kernel), by decide +kernel⟩
theorem km_X3_fits : Cond.instanceMethod yX3_fits ∈ pm_tbl := List.mem_filter.mpr ⟨List.mem_of_getElem? (i := 490) (by decide +kernel), by decide +kernel⟩
theorem kc_X4_init : Cond.code yX4_init cX4_init 1 none ∈ pm_tbl := List.mem_filter.mpr ⟨List.mem_of_getElem? (i := 92) (by decide +kernel), by decide +kernel⟩
theorem km_X4_init : Cond.instanceMethod yX4_init ∈ pm_tbl := List.mem_filter.mpr ⟨List.mem_of_getElem? (i := 91) (by decide +kernel), by decide +kernel⟩
theorem kc_X4_start : Cond.code yX4_start cX4_start 2 none ∈ pm_tbl := List.mem_filter.mpr ⟨List.mem_of_getElem? (i := 336) (by decide +kernel), by decide +kernel⟩
theorem km_X4_start : Cond.instanceMethod yX4_start ∈ pm_tbl := List.mem_filter.mpr ⟨List.mem_of_getElem? (i := 334) (by decide +kernel), by decide +kernel⟩
theorem ks_X4_start : Cond.selects RX4 yX4_start yX4_start ∈ pm_tbl := List.mem_filter.mpr ⟨List.mem_of_getElem? (i := 335) (by decide +kernel), by decide +kernel⟩
theorem kc_X4_next : Cond.code yX4_next cX4_next 5 (some .int) ∈ pm_tbl := List.mem_filter.mpr ⟨List.mem_of_getElem? (i := 348) (by decide +kernel), by decide +kernel⟩
theorem km_X4_next : Cond.instanceMethod yX4_next ∈ pm_tbl := List.mem_filter.mpr ⟨List.mem_of_getElem? (i := 346) (by decide +kernel), by decide +kernel⟩
theorem ks_X4_next : Cond.selects RX4 yX4_next yX4_next ∈ pm_tbl := List.mem_filter.mpr ⟨List.mem_of_getElem? (i := 347) (by decide +kernel), by decide +kernel⟩
theorem kc_X4_refuseLast : Cond.code yX4_refuseLast cX4_refuseLast 1 none ∈ pm_tbl := List.mem_filter.mpr ⟨List.mem_of_getElem? (i := 380) (by decide +kernel), by decide +kernel⟩
theorem km_X4_refuseLast : Cond.instanceMethod yX4_refuseLast ∈ pm_tbl := List.mem_filter.mpr ⟨List.mem_of_getElem? (i := 378) (by decide +kernel), by decide +kernel⟩
theorem ks_X4_refuseLast : Cond.selects RX4 yX4_refuseLast yX4_refuseLast ∈ pm_tbl := List.mem_filter.mpr ⟨List.mem_of_getElem? (i := 379) (by decide +kernel), by decide +kernel⟩
theorem kc_X5_init : Cond.code yX5_init cX5_init 1 none ∈ pm_tbl := List.mem_filter.mpr ⟨List.mem_of_getElem? (i := 434) (by decide +kernel), by decide +kernel⟩
theorem km_X5_init : Cond.instanceMethod yX5_init ∈ pm_tbl := List.mem_filter.mpr ⟨List.mem_of_getElem? (i := 433) (by decide +kernel), by decide +kernel⟩
theorem kc_X5_fill : Cond.code yX5_fill cX5_fill 4 none ∈ pm_tbl := List.mem_filter.mpr ⟨List.mem_of_getElem? (i := 456) (by decide +kernel), by decide +kernel⟩
theorem km_X5_fill : Cond.instanceMethod yX5_fill ∈ pm_tbl := List.mem_filter.mpr ⟨List.mem_of_getElem? (i := 454) (by decide +kernel), by decide +kernel⟩
theorem ks_X5_fill : Cond.selects RX5 yX5_fill yX5_fill ∈ pm_tbl := List.mem_filter.mpr ⟨List.mem_of_getElem? (i := 455) (by decide +kernel), by decide +kernel⟩
theorem kc_X5_rankByParts : Cond.code yX5_rankByParts cX5_rankByParts 8 (some .int) ∈ pm_tbl := List.mem_filter.mpr ⟨List.mem_of_getElem? (i := 460) (by decide +kernel), by decide +kernel⟩
theorem km_X5_rankByParts : Cond.instanceMethod yX5_rankByParts ∈ pm_tbl := List.mem_filter.mpr ⟨List.mem_of_getElem? (i := 459) (by decide +kernel), by decide +kernel⟩
theorem ks_X5_rankByParts : Cond.selects RX5 yX5_rankByParts yX5_rankByParts ∈ pm_tbl := List.mem_filter.mpr ⟨by decide +kernel, by decide +kernel⟩
theorem kc_X5_rankOf : Cond.code yX5_rankOf cX5_rankOf 2 (some .int) ∈ pm_tbl := List.mem_filter.mpr ⟨List.mem_of_getElem? (i := 465) (by decide +kernel), by decide +kernel⟩
theorem km_X5_rankOf : Cond.instanceMethod yX5_rankOf ∈ pm_tbl := List.mem_filter.mpr ⟨List.mem_of_getElem? (i := 463) (by decide +kernel), by decide +kernel⟩
theorem ks_X5_rankOf : Cond.selects RX5 yX5_rankOf yX5_rankOf ∈ pm_tbl := List.mem_filter.mpr ⟨List.mem_of_getElem? (i := 464) (by decide +kernel), by decide +kernel⟩
theorem kc_X5_permits : Cond.code yX5_permits cX5_permits 2 (some .boolean) ∈ pm_tbl := List.mem_filter.mpr ⟨List.mem_of_getElem? (i := 584) (by decide +kernel), by decide +kernel⟩
theorem km_X5_permits : Cond.instanceMethod yX5_permits ∈ pm_tbl := List.mem_filter.mpr ⟨List.mem_of_getElem? (i := 582) (by decide +kernel), by decide +kernel⟩
theorem ks_X5_permits : Cond.selects RX5 yX5_permits yX5_permits ∈ pm_tbl := List.mem_filter.mpr ⟨List.mem_of_getElem? (i := 583) (by decide +kernel), by decide +kernel⟩
theorem kc_X5_permitsEachAlone : Cond.code yX5_permitsEachAlone cX5_permitsEachAlone 3 (some .boolean) ∈ pm_tbl := List.mem_filter.mpr ⟨List.mem_of_getElem? (i := 654) (by decide +kernel), by decide +kernel⟩
theorem km_X5_permitsEachAlone : Cond.instanceMethod yX5_permitsEachAlone ∈ pm_tbl := List.mem_filter.mpr ⟨List.mem_of_getElem? (i := 652) (by decide +kernel), by decide +kernel⟩
theorem ks_X5_permitsEachAlone : Cond.selects RX5 yX5_permitsEachAlone yX5_permitsEachAlone ∈ pm_tbl := List.mem_filter.mpr ⟨List.mem_of_getElem? (i := 653) (by decide +kernel), by decide +kernel⟩
theorem kc_X5_allowedSets : Cond.code yX5_allowedSets cX5_allowedSets 4 (some .int) ∈ pm_tbl := List.mem_filter.mpr ⟨List.mem_of_getElem? (i := 580) (by decide +kernel), by decide +kernel⟩
theorem km_X5_allowedSets : Cond.instanceMethod yX5_allowedSets ∈ pm_tbl := List.mem_filter.mpr ⟨List.mem_of_getElem? (i := 578) (by decide +kernel), by decide +kernel⟩
theorem ks_X5_allowedSets : Cond.selects RX5 yX5_allowedSets yX5_allowedSets ∈ pm_tbl := List.mem_filter.mpr ⟨List.mem_of_getElem? (i := 579) (by decide +kernel), by decide +kernel⟩
theorem kc_X6_init : Cond.code yX6_init cX6_init 1 none ∈ pm_tbl := List.mem_filter.mpr ⟨List.mem_of_getElem? (i := 191) (by decide +kernel), by decide +kernel⟩
theorem km_X6_init : Cond.instanceMethod yX6_init ∈ pm_tbl := List.mem_filter.mpr ⟨List.mem_of_getElem? (i := 190) (by decide +kernel), by decide +kernel⟩
theorem kc_X6_hasRow : Cond.code yX6_hasRow cX6_hasRow 1 (some .boolean) ∈ pm_tbl := List.mem_filter.mpr ⟨List.mem_of_getElem? (i := 289) (by decide +kernel), by decide +kernel⟩
theorem km_X6_hasRow : Cond.instanceMethod yX6_hasRow ∈ pm_tbl := List.mem_filter.mpr ⟨List.mem_of_getElem? (i := 287) (by decide +kernel), by decide +kernel⟩
theorem ks_X6_hasRow : Cond.selects RX6 yX6_hasRow yX6_hasRow ∈ pm_tbl := List.mem_filter.mpr ⟨List.mem_of_getElem? (i := 288) (by decide +kernel), by decide +kernel⟩
theorem kc_X6_lay : Cond.code yX6_lay cX6_lay 4 none ∈ pm_tbl := List.mem_filter.mpr ⟨List.mem_of_getElem? (i := 278) (by decide +kernel), by decide +kernel⟩
theorem km_X6_lay : Cond.instanceMethod yX6_lay ∈ pm_tbl := List.mem_filter.mpr ⟨List.mem_of_getElem? (i := 276) (by decide +kernel), by decide +kernel⟩
theorem ks_X6_lay : Cond.selects RX6 yX6_lay yX6_lay ∈ pm_tbl := List.mem_filter.mpr ⟨List.mem_of_getElem? (i := 277) (by decide +kernel), by decide +kernel⟩
theorem kc_X6_clear : Cond.code yX6_clear cX6_clear 1 none ∈ pm_tbl := List.mem_filter.mpr ⟨List.mem_of_getElem? (i := 293) (by decide +kernel), by decide +kernel⟩
theorem km_X6_clear : Cond.instanceMethod yX6_clear ∈ pm_tbl := List.mem_filter.mpr ⟨List.mem_of_getElem? (i := 291) (by decide +kernel), by decide +kernel⟩
theorem ks_X6_clear : Cond.selects RX6 yX6_clear yX6_clear ∈ pm_tbl := List.mem_filter.mpr ⟨List.mem_of_getElem? (i := 292) (by decide +kernel), by decide +kernel⟩
theorem kc_X6_hasStretch : Cond.code yX6_hasStretch cX6_hasStretch 3 (some .boolean) ∈ pm_tbl := List.mem_filter.mpr ⟨List.mem_of_getElem? (i := 305) (by decide +kernel), by decide +kernel⟩
theorem km_X6_hasStretch : Cond.instanceMethod yX6_hasStretch ∈ pm_tbl := List.mem_filter.mpr ⟨List.mem_of_getElem? (i := 303) (by decide +kernel), by decide +kernel⟩
theorem ks_X6_hasStretch : Cond.selects RX6 yX6_hasStretch yX6_hasStretch ∈ pm_tbl := List.mem_filter.mpr ⟨List.mem_of_getElem? (i := 304) (by decide +kernel), by decide +kernel⟩
theorem kc_X6_number : Cond.code yX6_number cX6_number 2 (some .long) ∈ pm_tbl := List.mem_filter.mpr ⟨List.mem_of_getElem? (i := 321) (by decide +kernel), by decide +kernel⟩
theorem km_X6_number : Cond.instanceMethod yX6_number ∈ pm_tbl := List.mem_filter.mpr ⟨List.mem_of_getElem? (i := 319) (by decide +kernel), by decide +kernel⟩
theorem ks_X6_number : Cond.selects RX6 yX6_number yX6_number ∈ pm_tbl := List.mem_filter.mpr ⟨List.mem_of_getElem? (i := 320) (by decide +kernel), by decide +kernel⟩
theorem kc_X6_put : Cond.code yX6_put cX6_put 4 none ∈ pm_tbl := List.mem_filter.mpr ⟨List.mem_of_getElem? (i := 309) (by decide +kernel), by decide +kernel⟩
theorem km_X6_put : Cond.instanceMethod yX6_put ∈ pm_tbl := List.mem_filter.mpr ⟨List.mem_of_getElem? (i := 307) (by decide +kernel), by decide +kernel⟩
theorem ks_X6_put : Cond.selects RX6 yX6_put yX6_put ∈ pm_tbl := List.mem_filter.mpr ⟨List.mem_of_getElem? (i := 308) (by decide +kernel), by decide +kernel⟩
theorem kc_X6_cut : Cond.code yX6_cut cX6_cut 3 (some .long) ∈ pm_tbl := List.mem_filter.mpr ⟨List.mem_of_getElem? (i := 313) (by decide +kernel), by decide +kernel⟩
theorem km_X6_cut : Cond.instanceMethod yX6_cut ∈ pm_tbl := List.mem_filter.mpr ⟨List.mem_of_getElem? (i := 312) (by decide +kernel), by decide +kernel⟩
theorem ks_X6_cut : Cond.selects RX6 yX6_cut yX6_cut ∈ pm_tbl := List.mem_filter.mpr ⟨by decide +kernel, by decide +kernel⟩
theorem kc_X7_init : Cond.code yX7_init cX7_init 1 none ∈ pm_tbl := List.mem_filter.mpr ⟨List.mem_of_getElem? (i := 110) (by decide +kernel), by decide +kernel⟩
theorem km_X7_init : Cond.instanceMethod yX7_init ∈ pm_tbl := List.mem_filter.mpr ⟨List.mem_of_getElem? (i := 109) (by decide +kernel), by decide +kernel⟩
theorem kc_X7_forgetBreach : Cond.code yX7_forgetBreach cX7_forgetBreach 1 none ∈ pm_tbl := List.mem_filter.mpr ⟨List.mem_of_getElem? (i := 212) (by decide +kernel), by decide +kernel⟩
theorem km_X7_forgetBreach : Cond.instanceMethod yX7_forgetBreach ∈ pm_tbl := List.mem_filter.mpr ⟨List.mem_of_getElem? (i := 210) (by decide +kernel), by decide +kernel⟩
theorem ks_X7_forgetBreach : Cond.selects RX7 yX7_forgetBreach yX7_forgetBreach ∈ pm_tbl := List.mem_filter.mpr ⟨List.mem_of_getElem? (i := 211) (by decide +kernel), by decide +kernel⟩
theorem kc_X7_readSets : Cond.code yX7_readSets cX7_readSets 6 none ∈ pm_tbl := List.mem_filter.mpr ⟨List.mem_of_getElem? (i := 344) (by decide +kernel), by decide +kernel⟩
theorem km_X7_readSets : Cond.instanceMethod yX7_readSets ∈ pm_tbl := List.mem_filter.mpr ⟨List.mem_of_getElem? (i := 342) (by decide +kernel), by decide +kernel⟩
theorem ks_X7_readSets : Cond.selects RX7 yX7_readSets yX7_readSets ∈ pm_tbl := List.mem_filter.mpr ⟨List.mem_of_getElem? (i := 343) (by decide +kernel), by decide +kernel⟩
theorem kc_X7_fits : Cond.code yX7_fits cX7_fits 2 (some .boolean) ∈ pm_tbl := List.mem_filter.mpr ⟨List.mem_of_getElem? (i := 400) (by decide +kernel), by decide +kernel⟩
theorem km_X7_fits : Cond.instanceMethod yX7_fits ∈ pm_tbl := List.mem_filter.mpr ⟨List.mem_of_getElem? (i := 398) (by decide +kernel), by decide +kernel⟩
theorem ks_X7_fits : Cond.selects RX7 yX7_fits yX7_fits ∈ pm_tbl := List.mem_filter.mpr ⟨List.mem_of_getElem? (i := 399) (by decide +kernel), by decide +kernel⟩
theorem kc_X7_breaksLaw : Cond.code yX7_breaksLaw cX7_breaksLaw 2 (some .boolean) ∈ pm_tbl := List.mem_filter.mpr ⟨List.mem_of_getElem? (i := 392) (by decide +kernel), by decide +kernel⟩
theorem km_X7_breaksLaw : Cond.instanceMethod yX7_breaksLaw ∈ pm_tbl := List.mem_filter.mpr ⟨List.mem_of_getElem? (i := 390) (by decide +kernel), by decide +kernel⟩
theorem ks_X7_breaksLaw : Cond.selects RX7 yX7_breaksLaw yX7_breaksLaw ∈ pm_tbl := List.mem_filter.mpr ⟨List.mem_of_getElem? (i := 391) (by decide +kernel), by decide +kernel⟩
theorem kc_X7_noteBreach : Cond.code yX7_noteBreach cX7_noteBreach 4 none ∈ pm_tbl := List.mem_filter.mpr ⟨List.mem_of_getElem? (i := 216) (by decide +kernel), by decide +kernel⟩
theorem km_X7_noteBreach : Cond.instanceMethod yX7_noteBreach ∈ pm_tbl := List.mem_filter.mpr ⟨List.mem_of_getElem? (i := 215) (by decide +kernel), by decide +kernel⟩
theorem ks_X7_noteBreach : Cond.selects RX7 yX7_noteBreach yX7_noteBreach ∈ pm_tbl := List.mem_filter.mpr ⟨by decide +kernel, by decide +kernel⟩
theorem kc_X7_listSets : Cond.code yX7_listSets cX7_listSets 3 none ∈ pm_tbl := List.mem_filter.mpr ⟨List.mem_of_getElem? (i := 396) (by decide +kernel), by decide +kernel⟩
theorem km_X7_listSets : Cond.instanceMethod yX7_listSets ∈ pm_tbl := List.mem_filter.mpr ⟨List.mem_of_getElem? (i := 395) (by decide +kernel), by decide +kernel⟩
theorem ks_X7_listSets : Cond.selects RX7 yX7_listSets yX7_listSets ∈ pm_tbl := List.mem_filter.mpr ⟨by decide +kernel, by decide +kernel⟩
theorem kc_X7_lacksPart : Cond.code yX7_lacksPart cX7_lacksPart 3 (some .boolean) ∈ pm_tbl := List.mem_filter.mpr ⟨List.mem_of_getElem? (i := 404) (by decide +kernel), by decide +kernel⟩
theorem km_X7_lacksPart : Cond.instanceMethod yX7_lacksPart ∈ pm_tbl := List.mem_filter.mpr ⟨List.mem_of_getElem? (i := 403) (by decide +kernel), by decide +kernel⟩
theorem ks_X7_lacksPart : Cond.selects RX7 yX7_lacksPart yX7_lacksPart ∈ pm_tbl := List.mem_filter.mpr ⟨by decide +kernel, by decide +kernel⟩
theorem kc_X7_leastPartNotTold : Cond.code yX7_leastPartNotTold cX7_leastPartNotTold 4 (some .int) ∈ pm_tbl := List.mem_filter.mpr ⟨List.mem_of_getElem? (i := 408) (by decide +kernel), by decide +kernel⟩
theorem km_X7_leastPartNotTold : Cond.instanceMethod yX7_leastPartNotTold ∈ pm_tbl := List.mem_filter.mpr ⟨List.mem_of_getElem? (i := 407) (by decide +kernel), by decide +kernel⟩
theorem ks_X7_leastPartNotTold : Cond.selects RX7 yX7_leastPartNotTold yX7_leastPartNotTold ∈ pm_tbl := List.mem_filter.mpr ⟨by decide +kernel, by decide +kernel⟩
theorem kc_X7_lacksExchange : Cond.code yX7_lacksExchange cX7_lacksExchange 3 (some .boolean) ∈ pm_tbl := List.mem_filter.mpr ⟨List.mem_of_getElem? (i := 412) (by decide +kernel), by decide +kernel⟩
theorem km_X7_lacksExchange : Cond.instanceMethod yX7_lacksExchange ∈ pm_tbl := List.mem_filter.mpr ⟨List.mem_of_getElem? (i := 411) (by decide +kernel), by decide +kernel⟩
theorem ks_X7_lacksExchange : Cond.selects RX7 yX7_lacksExchange yX7_lacksExchange ∈ pm_tbl := List.mem_filter.mpr ⟨by decide +kernel, by decide +kernel⟩
theorem kc_X7_leastWithNoneToCome : Cond.code yX7_leastWithNoneToCome cX7_leastWithNoneToCome 5 (some .int) ∈ pm_tbl := List.mem_filter.mpr ⟨List.mem_of_getElem? (i := 416) (by decide +kernel), by decide +kernel⟩
theorem km_X7_leastWithNoneToCome : Cond.instanceMethod yX7_leastWithNoneToCome ∈ pm_tbl := List.mem_filter.mpr ⟨List.mem_of_getElem? (i := 415) (by decide +kernel), by decide +kernel⟩
theorem ks_X7_leastWithNoneToCome : Cond.selects RX7 yX7_leastWithNoneToCome yX7_leastWithNoneToCome ∈ pm_tbl := List.mem_filter.mpr ⟨by decide +kernel, by decide +kernel⟩
theorem kc_X7_thingsThatMayCome : Cond.code yX7_thingsThatMayCome cX7_thingsThatMayCome 5 (some .int) ∈ pm_tbl := List.mem_filter.mpr ⟨List.mem_of_getElem? (i := 420) (by decide +kernel), by decide +kernel⟩
theorem km_X7_thingsThatMayCome : Cond.instanceMethod yX7_thingsThatMayCome ∈ pm_tbl := List.mem_filter.mpr ⟨List.mem_of_getElem? (i := 419) (by decide +kernel), by decide +kernel⟩
theorem ks_X7_thingsThatMayCome : Cond.selects RX7 yX7_thingsThatMayCome yX7_thingsThatMayCome ∈ pm_tbl := List.mem_filter.mpr ⟨by decide +kernel, by decide +kernel⟩
theorem kc_X8_init : Cond.code yX8_init cX8_init 1 none ∈ pm_tbl := List.mem_filter.mpr ⟨List.mem_of_getElem? (i := 168) (by decide +kernel), by decide +kernel⟩
theorem km_X8_init : Cond.instanceMethod yX8_init ∈ pm_tbl := List.mem_filter.mpr ⟨List.mem_of_getElem? (i := 167) (by decide +kernel), by decide +kernel⟩
theorem kc_X8_readRows : Cond.code yX8_readRows cX8_readRows 5 none ∈ pm_tbl := List.mem_filter.mpr ⟨List.mem_of_getElem? (i := 375) (by decide +kernel), by decide +kernel⟩
theorem km_X8_readRows : Cond.instanceMethod yX8_readRows ∈ pm_tbl := List.mem_filter.mpr ⟨List.mem_of_getElem? (i := 373) (by decide +kernel), by decide +kernel⟩
theorem ks_X8_readRows : Cond.selects RX8 yX8_readRows yX8_readRows ∈ pm_tbl := List.mem_filter.mpr ⟨List.mem_of_getElem? (i := 374) (by decide +kernel), by decide +kernel⟩
theorem kc_X8_fits : Cond.code yX8_fits cX8_fits 4 (some .boolean) ∈ pm_tbl := List.mem_filter.mpr ⟨List.mem_of_getElem? (i := 503) (by decide +kernel), by decide +kernel⟩
theorem km_X8_fits : Cond.instanceMethod yX8_fits ∈ pm_tbl := List.mem_filter.mpr ⟨List.mem_of_getElem? (i := 501) (by decide +kernel), by decide +kernel⟩
theorem kc_X8_clearLead : Cond.code yX8_clearLead cX8_clearLead 7 none ∈ pm_tbl := List.mem_filter.mpr ⟨List.mem_of_getElem? (i := 508) (by decide +kernel), by decide +kernel⟩
theorem km_X8_clearLead : Cond.instanceMethod yX8_clearLead ∈ pm_tbl := List.mem_filter.mpr ⟨List.mem_of_getElem? (i := 507) (by decide +kernel), by decide +kernel⟩
theorem ks_X8_clearLead : Cond.selects RX8 yX8_clearLead yX8_clearLead ∈ pm_tbl := List.mem_filter.mpr ⟨by decide +kernel, by decide +kernel⟩
theorem kc_X8_modulo : Cond.code yX8_modulo cX8_modulo 2 (some .int) ∈ pm_tbl := List.mem_filter.mpr ⟨List.mem_of_getElem? (i := 512) (by decide +kernel), by decide +kernel⟩
theorem km_X8_modulo : Cond.instanceMethod yX8_modulo ∈ pm_tbl := List.mem_filter.mpr ⟨List.mem_of_getElem? (i := 511) (by decide +kernel), by decide +kernel⟩
theorem ks_X8_modulo : Cond.selects RX8 yX8_modulo yX8_modulo ∈ pm_tbl := List.mem_filter.mpr ⟨by decide +kernel, by decide +kernel⟩
theorem kc_X8_firstNotZero : Cond.code yX8_firstNotZero cX8_firstNotZero 3 (some .int) ∈ pm_tbl := List.mem_filter.mpr ⟨List.mem_of_getElem? (i := 516) (by decide +kernel), by decide +kernel⟩
theorem km_X8_firstNotZero : Cond.instanceMethod yX8_firstNotZero ∈ pm_tbl := List.mem_filter.mpr ⟨List.mem_of_getElem? (i := 515) (by decide +kernel), by decide +kernel⟩
theorem ks_X8_firstNotZero : Cond.selects RX8 yX8_firstNotZero yX8_firstNotZero ∈ pm_tbl := List.mem_filter.mpr ⟨by decide +kernel, by decide +kernel⟩
theorem kc_X9_init : Cond.code yX9_init cX9_init 2 none ∈ pm_tbl := List.mem_filter.mpr ⟨List.mem_of_getElem? (i := 80) (by decide +kernel), by decide +kernel⟩
theorem km_X9_init : Cond.instanceMethod yX9_init ∈ pm_tbl := List.mem_filter.mpr ⟨List.mem_of_getElem? (i := 79) (by decide +kernel), by decide +kernel⟩
theorem kc_X9_fresh : Cond.code yX9_fresh cX9_fresh 2 (some .boolean) ∈ pm_tbl := List.mem_filter.mpr ⟨List.mem_of_getElem? (i := 257) (by decide +kernel), by decide +kernel⟩
theorem km_X9_fresh : Cond.instanceMethod yX9_fresh ∈ pm_tbl := List.mem_filter.mpr ⟨List.mem_of_getElem? (i := 255) (by decide +kernel), by decide +kernel⟩
theorem ks_X9_fresh : Cond.selects RX9 yX9_fresh yX9_fresh ∈ pm_tbl := List.mem_filter.mpr ⟨List.mem_of_getElem? (i := 256) (by decide +kernel), by decide +kernel⟩
theorem kc_X9_weight : Cond.code yX9_weight cX9_weight 4 (some .int) ∈ pm_tbl := List.mem_filter.mpr ⟨List.mem_of_getElem? (i := 261) (by decide +kernel), by decide +kernel⟩
theorem km_X9_weight : Cond.instanceMethod yX9_weight ∈ pm_tbl := List.mem_filter.mpr ⟨List.mem_of_getElem? (i := 259) (by decide +kernel), by decide +kernel⟩
theorem ks_X9_weight : Cond.selects RX9 yX9_weight yX9_weight ∈ pm_tbl := List.mem_filter.mpr ⟨List.mem_of_getElem? (i := 260) (by decide +kernel), by decide +kernel⟩
theorem kc_X9_row : Cond.code yX9_row cX9_row 5 (some .int) ∈ pm_tbl := List.mem_filter.mpr ⟨List.mem_of_getElem? (i := 270) (by decide +kernel), by decide +kernel⟩
theorem km_X9_row : Cond.instanceMethod yX9_row ∈ pm_tbl := List.mem_filter.mpr ⟨List.mem_of_getElem? (i := 268) (by decide +kernel), by decide +kernel⟩
theorem ks_X9_row : Cond.selects RX9 yX9_row yX9_row ∈ pm_tbl := List.mem_filter.mpr ⟨List.mem_of_getElem? (i := 269) (by decide +kernel), by decide +kernel⟩
theorem kc_X9_tear : Cond.code yX9_tear cX9_tear 3 (some .boolean) ∈ pm_tbl := List.mem_filter.mpr ⟨List.mem_of_getElem? (i := 285) (by decide +kernel), by decide +kernel⟩
theorem km_X9_tear : Cond.instanceMethod yX9_tear ∈ pm_tbl := List.mem_filter.mpr ⟨List.mem_of_getElem? (i := 283) (by decide +kernel), by decide +kernel⟩
theorem ks_X9_tear : Cond.selects RX9 yX9_tear yX9_tear ∈ pm_tbl := List.mem_filter.mpr ⟨List.mem_of_getElem? (i := 284) (by decide +kernel), by decide +kernel⟩
theorem kc_X9_write : Cond.code yX9_write cX9_write 7 (some .int) ∈ pm_tbl := List.mem_filter.mpr ⟨List.mem_of_getElem? (i := 297) (by decide +kernel), by decide +kernel⟩
theorem km_X9_write : Cond.instanceMethod yX9_write ∈ pm_tbl := List.mem_filter.mpr ⟨List.mem_of_getElem? (i := 295) (by decide +kernel), by decide +kernel⟩
theorem ks_X9_write : Cond.selects RX9 yX9_write yX9_write ∈ pm_tbl := List.mem_filter.mpr ⟨List.mem_of_getElem? (i := 296) (by decide +kernel), by decide +kernel⟩
theorem kc_X9_read : Cond.code yX9_read cX9_read 4 (some .long) ∈ pm_tbl := List.mem_filter.mpr ⟨List.mem_of_getElem? (i := 317) (by decide +kernel), by decide +kernel⟩
theorem km_X9_read : Cond.instanceMethod yX9_read ∈ pm_tbl := List.mem_filter.mpr ⟨List.mem_of_getElem? (i := 315) (by decide +kernel), by decide +kernel⟩
theorem ks_X9_read : Cond.selects RX9 yX9_read yX9_read ∈ pm_tbl := List.mem_filter.mpr ⟨List.mem_of_getElem? (i := 316) (by decide +kernel), by decide +kernel⟩
theorem kc_X9_copy : Cond.code yX9_copy cX9_copy 8 (some .int) ∈ pm_tbl := List.mem_filter.mpr ⟨List.mem_of_getElem? (i := 325) (by decide +kernel), by decide +kernel⟩
theorem km_X9_copy : Cond.instanceMethod yX9_copy ∈ pm_tbl := List.mem_filter.mpr ⟨List.mem_of_getElem? (i := 323) (by decide +kernel), by decide +kernel⟩
theorem ks_X9_copy : Cond.selects RX9 yX9_copy yX9_copy ∈ pm_tbl := List.mem_filter.mpr ⟨List.mem_of_getElem? (i := 324) (by decide +kernel), by decide +kernel⟩
theorem kc_X9_rule : Cond.code yX9_rule cX9_rule 5 (some .int) ∈ pm_tbl := List.mem_filter.mpr ⟨List.mem_of_getElem? (i := 332) (by decide +kernel), by decide +kernel⟩
theorem km_X9_rule : Cond.instanceMethod yX9_rule ∈ pm_tbl := List.mem_filter.mpr ⟨List.mem_of_getElem? (i := 330) (by decide +kernel), by decide +kernel⟩
theorem ks_X9_rule : Cond.selects RX9 yX9_rule yX9_rule ∈ pm_tbl := List.mem_filter.mpr ⟨List.mem_of_getElem? (i := 331) (by decide +kernel), by decide +kernel⟩
theorem kc_X9_less : Cond.code yX9_less cX9_less 3 (some .int) ∈ pm_tbl := List.mem_filter.mpr ⟨List.mem_of_getElem? (i := 520) (by decide +kernel), by decide +kernel⟩
theorem km_X9_less : Cond.instanceMethod yX9_less ∈ pm_tbl := List.mem_filter.mpr ⟨List.mem_of_getElem? (i := 518) (by decide +kernel), by decide +kernel⟩
theorem ks_X9_less : Cond.selects RX9 yX9_less yX9_less ∈ pm_tbl := List.mem_filter.mpr ⟨List.mem_of_getElem? (i := 519) (by decide +kernel), by decide +kernel⟩
theorem kc_X9_take : Cond.code yX9_take cX9_take 3 (some .int) ∈ pm_tbl := List.mem_filter.mpr ⟨List.mem_of_getElem? (i := 559) (by decide +kernel), by decide +kernel⟩
theorem km_X9_take : Cond.instanceMethod yX9_take ∈ pm_tbl := List.mem_filter.mpr ⟨List.mem_of_getElem? (i := 557) (by decide +kernel), by decide +kernel⟩
theorem ks_X9_take : Cond.selects RX9 yX9_take yX9_take ∈ pm_tbl := List.mem_filter.mpr ⟨List.mem_of_getElem? (i := 558) (by decide +kernel), by decide +kernel⟩
theorem kc_X9_turn : Cond.code yX9_turn cX9_turn 2 (some .int) ∈ pm_tbl := List.mem_filter.mpr ⟨List.mem_of_getElem? (i := 563) (by decide +kernel), by decide +kernel⟩
theorem km_X9_turn : Cond.instanceMethod yX9_turn ∈ pm_tbl := List.mem_filter.mpr ⟨List.mem_of_getElem? (i := 561) (by decide +kernel), by decide +kernel⟩
theorem ks_X9_turn : Cond.selects RX9 yX9_turn yX9_turn ∈ pm_tbl := List.mem_filter.mpr ⟨List.mem_of_getElem? (i := 562) (by decide +kernel), by decide +kernel⟩
theorem kc_X9_join : Cond.code yX9_join cX9_join 3 (some .int) ∈ pm_tbl := List.mem_filter.mpr ⟨List.mem_of_getElem? (i := 567) (by decide +kernel), by decide +kernel⟩
theorem km_X9_join : Cond.instanceMethod yX9_join ∈ pm_tbl := List.mem_filter.mpr ⟨List.mem_of_getElem? (i := 565) (by decide +kernel), by decide +kernel⟩
theorem ks_X9_join : Cond.selects RX9 yX9_join yX9_join ∈ pm_tbl := List.mem_filter.mpr ⟨List.mem_of_getElem? (i := 566) (by decide +kernel), by decide +kernel⟩
theorem kc_X9_broken : Cond.code yX9_broken cX9_broken 2 (some .int) ∈ pm_tbl := List.mem_filter.mpr ⟨List.mem_of_getElem? (i := 571) (by decide +kernel), by decide +kernel⟩
theorem km_X9_broken : Cond.instanceMethod yX9_broken ∈ pm_tbl := List.mem_filter.mpr ⟨List.mem_of_getElem? (i := 569) (by decide +kernel), by decide +kernel⟩
theorem ks_X9_broken : Cond.selects RX9 yX9_broken yX9_broken ∈ pm_tbl := List.mem_filter.mpr ⟨List.mem_of_getElem? (i := 570) (by decide +kernel), by decide +kernel⟩
theorem kc_X9_look : Cond.code yX9_look cX9_look 4 (some .int) ∈ pm_tbl := List.mem_filter.mpr ⟨List.mem_of_getElem? (i := 575) (by decide +kernel), by decide +kernel⟩
theorem km_X9_look : Cond.instanceMethod yX9_look ∈ pm_tbl := List.mem_filter.mpr ⟨List.mem_of_getElem? (i := 573) (by decide +kernel), by decide +kernel⟩
theorem ks_X9_look : Cond.selects RX9 yX9_look yX9_look ∈ pm_tbl := List.mem_filter.mpr ⟨List.mem_of_getElem? (i := 574) (by decide +kernel), by decide +kernel⟩
theorem kc_X9_allows : Cond.code yX9_allows cX9_allows 4 (some .int) ∈ pm_tbl := List.mem_filter.mpr ⟨List.mem_of_getElem? (i := 588) (by decide +kernel), by decide +kernel⟩
theorem km_X9_allows : Cond.instanceMethod yX9_allows ∈ pm_tbl := List.mem_filter.mpr ⟨List.mem_of_getElem? (i := 586) (by decide +kernel), by decide +kernel⟩
theorem ks_X9_allows : Cond.selects RX9 yX9_allows yX9_allows ∈ pm_tbl := List.mem_filter.mpr ⟨List.mem_of_getElem? (i := 587) (by decide +kernel), by decide +kernel⟩
theorem kc_X9_rank : Cond.code yX9_rank cX9_rank 4 (some .int) ∈ pm_tbl := List.mem_filter.mpr ⟨List.mem_of_getElem? (i := 593) (by decide +kernel), by decide +kernel⟩
theorem km_X9_rank : Cond.instanceMethod yX9_rank ∈ pm_tbl := List.mem_filter.mpr ⟨List.mem_of_getElem? (i := 591) (by decide +kernel), by decide +kernel⟩
theorem ks_X9_rank : Cond.selects RX9 yX9_rank yX9_rank ∈ pm_tbl := List.mem_filter.mpr ⟨List.mem_of_getElem? (i := 592) (by decide +kernel), by decide +kernel⟩
theorem kc_X9_span : Cond.code yX9_span cX9_span 6 (some .int) ∈ pm_tbl := List.mem_filter.mpr ⟨List.mem_of_getElem? (i := 597) (by decide +kernel), by decide +kernel⟩
theorem km_X9_span : Cond.instanceMethod yX9_span ∈ pm_tbl := List.mem_filter.mpr ⟨List.mem_of_getElem? (i := 595) (by decide +kernel), by decide +kernel⟩
theorem ks_X9_span : Cond.selects RX9 yX9_span yX9_span ∈ pm_tbl := List.mem_filter.mpr ⟨List.mem_of_getElem? (i := 596) (by decide +kernel), by decide +kernel⟩
theorem kc_X9_ring : Cond.code yX9_ring cX9_ring 6 (some .int) ∈ pm_tbl := List.mem_filter.mpr ⟨List.mem_of_getElem? (i := 601) (by decide +kernel), by decide +kernel⟩
theorem km_X9_ring : Cond.instanceMethod yX9_ring ∈ pm_tbl := List.mem_filter.mpr ⟨List.mem_of_getElem? (i := 599) (by decide +kernel), by decide +kernel⟩
theorem ks_X9_ring : Cond.selects RX9 yX9_ring yX9_ring ∈ pm_tbl := List.mem_filter.mpr ⟨List.mem_of_getElem? (i := 600) (by decide +kernel), by decide +kernel⟩
theorem kc_X9_exchange : Cond.code yX9_exchange cX9_exchange 6 (some .int) ∈ pm_tbl := List.mem_filter.mpr ⟨List.mem_of_getElem? (i := 605) (by decide +kernel), by decide +kernel⟩
theorem km_X9_exchange : Cond.instanceMethod yX9_exchange ∈ pm_tbl := List.mem_filter.mpr ⟨List.mem_of_getElem? (i := 603) (by decide +kernel), by decide +kernel⟩
theorem ks_X9_exchange : Cond.selects RX9 yX9_exchange yX9_exchange ∈ pm_tbl := List.mem_filter.mpr ⟨List.mem_of_getElem? (i := 604) (by decide +kernel), by decide +kernel⟩
theorem kc_X9_full : Cond.code yX9_full cX9_full 8 (some .int) ∈ pm_tbl := List.mem_filter.mpr ⟨List.mem_of_getElem? (i := 613) (by decide +kernel), by decide +kernel⟩
theorem km_X9_full : Cond.instanceMethod yX9_full ∈ pm_tbl := List.mem_filter.mpr ⟨List.mem_of_getElem? (i := 611) (by decide +kernel), by decide +kernel⟩
theorem ks_X9_full : Cond.selects RX9 yX9_full yX9_full ∈ pm_tbl := List.mem_filter.mpr ⟨List.mem_of_getElem? (i := 612) (by decide +kernel), by decide +kernel⟩
theorem kc_X9_both : Cond.code yX9_both cX9_both 5 (some .int) ∈ pm_tbl := List.mem_filter.mpr ⟨List.mem_of_getElem? (i := 625) (by decide +kernel), by decide +kernel⟩
theorem km_X9_both : Cond.instanceMethod yX9_both ∈ pm_tbl := List.mem_filter.mpr ⟨List.mem_of_getElem? (i := 623) (by decide +kernel), by decide +kernel⟩
theorem ks_X9_both : Cond.selects RX9 yX9_both yX9_both ∈ pm_tbl := List.mem_filter.mpr ⟨List.mem_of_getElem? (i := 624) (by decide +kernel), by decide +kernel⟩
theorem kc_X9_split : Cond.code yX9_split cX9_split 7 (some .int) ∈ pm_tbl := List.mem_filter.mpr ⟨List.mem_of_getElem? (i := 634) (by decide +kernel), by decide +kernel⟩
theorem km_X9_split : Cond.instanceMethod yX9_split ∈ pm_tbl := List.mem_filter.mpr ⟨List.mem_of_getElem? (i := 632) (by decide +kernel), by decide +kernel⟩
theorem ks_X9_split : Cond.selects RX9 yX9_split yX9_split ∈ pm_tbl := List.mem_filter.mpr ⟨List.mem_of_getElem? (i := 633) (by decide +kernel), by decide +kernel⟩
theorem kc_X9_most : Cond.code yX9_most cX9_most 8 (some .int) ∈ pm_tbl := List.mem_filter.mpr ⟨List.mem_of_getElem? (i := 638) (by decide +kernel), by decide +kernel⟩
theorem km_X9_most : Cond.instanceMethod yX9_most ∈ pm_tbl := List.mem_filter.mpr ⟨List.mem_of_getElem? (i := 636) (by decide +kernel), by decide +kernel⟩
theorem ks_X9_most : Cond.selects RX9 yX9_most yX9_most ∈ pm_tbl := List.mem_filter.mpr ⟨List.mem_of_getElem? (i := 637) (by decide +kernel), by decide +kernel⟩
theorem kc_X9_three : Cond.code yX9_three cX9_three 7 (some .int) ∈ pm_tbl := List.mem_filter.mpr ⟨List.mem_of_getElem? (i := 646) (by decide +kernel), by decide +kernel⟩
theorem km_X9_three : Cond.instanceMethod yX9_three ∈ pm_tbl := List.mem_filter.mpr ⟨List.mem_of_getElem? (i := 644) (by decide +kernel), by decide +kernel⟩
theorem ks_X9_three : Cond.selects RX9 yX9_three yX9_three ∈ pm_tbl := List.mem_filter.mpr ⟨List.mem_of_getElem? (i := 645) (by decide +kernel), by decide +kernel⟩
theorem kc_X9_fewest : Cond.code yX9_fewest cX9_fewest 3 (some .int) ∈ pm_tbl := List.mem_filter.mpr ⟨List.mem_of_getElem? (i := 650) (by decide +kernel), by decide +kernel⟩
theorem km_X9_fewest : Cond.instanceMethod yX9_fewest ∈ pm_tbl := List.mem_filter.mpr ⟨List.mem_of_getElem? (i := 648) (by decide +kernel), by decide +kernel⟩
theorem ks_X9_fewest : Cond.selects RX9 yX9_fewest yX9_fewest ∈ pm_tbl := List.mem_filter.mpr ⟨List.mem_of_getElem? (i := 649) (by decide +kernel), by decide +kernel⟩
theorem kc_X9_dealt : Cond.code yX9_dealt cX9_dealt 4 (some .int) ∈ pm_tbl := List.mem_filter.mpr ⟨List.mem_of_getElem? (i := 666) (by decide +kernel), by decide +kernel⟩
theorem km_X9_dealt : Cond.instanceMethod yX9_dealt ∈ pm_tbl := List.mem_filter.mpr ⟨List.mem_of_getElem? (i := 664) (by decide +kernel), by decide +kernel⟩
theorem ks_X9_dealt : Cond.selects RX9 yX9_dealt yX9_dealt ∈ pm_tbl := List.mem_filter.mpr ⟨List.mem_of_getElem? (i := 665) (by decide +kernel), by decide +kernel⟩
theorem kc_X9_crowd : Cond.code yX9_crowd cX9_crowd 3 (some .int) ∈ pm_tbl := List.mem_filter.mpr ⟨List.mem_of_getElem? (i := 686) (by decide +kernel), by decide +kernel⟩
theorem km_X9_crowd : Cond.instanceMethod yX9_crowd ∈ pm_tbl := List.mem_filter.mpr ⟨List.mem_of_getElem? (i := 684) (by decide +kernel), by decide +kernel⟩
theorem ks_X9_crowd : Cond.selects RX9 yX9_crowd yX9_crowd ∈ pm_tbl := List.mem_filter.mpr ⟨List.mem_of_getElem? (i := 685) (by decide +kernel), by decide +kernel⟩
theorem kc_X9_pack : Cond.code yX9_pack cX9_pack 7 (some .int) ∈ pm_tbl := List.mem_filter.mpr ⟨List.mem_of_getElem? (i := 690) (by decide +kernel), by decide +kernel⟩
theorem km_X9_pack : Cond.instanceMethod yX9_pack ∈ pm_tbl := List.mem_filter.mpr ⟨List.mem_of_getElem? (i := 688) (by decide +kernel), by decide +kernel⟩
theorem ks_X9_pack : Cond.selects RX9 yX9_pack yX9_pack ∈ pm_tbl := List.mem_filter.mpr ⟨List.mem_of_getElem? (i := 689) (by decide +kernel), by decide +kernel⟩
theorem kc_X9_same : Cond.code yX9_same cX9_same 6 (some .int) ∈ pm_tbl := List.mem_filter.mpr ⟨List.mem_of_getElem? (i := 695) (by decide +kernel), by decide +kernel⟩
theorem km_X9_same : Cond.instanceMethod yX9_same ∈ pm_tbl := List.mem_filter.mpr ⟨List.mem_of_getElem? (i := 693) (by decide +kernel), by decide +kernel⟩
theorem ks_X9_same : Cond.selects RX9 yX9_same yX9_same ∈ pm_tbl := List.mem_filter.mpr ⟨List.mem_of_getElem? (i := 694) (by decide +kernel), by decide +kernel⟩
theorem kc_X9_count : Cond.code yX9_count cX9_count 2 (some .int) ∈ pm_tbl := List.mem_filter.mpr ⟨List.mem_of_getElem? (i := 699) (by decide +kernel), by decide +kernel⟩
theorem km_X9_count : Cond.instanceMethod yX9_count ∈ pm_tbl := List.mem_filter.mpr ⟨List.mem_of_getElem? (i := 697) (by decide +kernel), by decide +kernel⟩
theorem ks_X9_count : Cond.selects RX9 yX9_count yX9_count ∈ pm_tbl := List.mem_filter.mpr ⟨List.mem_of_getElem? (i := 698) (by decide +kernel), by decide +kernel⟩
theorem kc_X9_startAnew : Cond.code yX9_startAnew cX9_startAnew 3 none ∈ pm_tbl := List.mem_filter.mpr ⟨List.mem_of_getElem? (i := 208) (by decide +kernel), by decide +kernel⟩
theorem km_X9_startAnew : Cond.instanceMethod yX9_startAnew ∈ pm_tbl := List.mem_filter.mpr ⟨List.mem_of_getElem? (i := 207) (by decide +kernel), by decide +kernel⟩
theorem ks_X9_startAnew : Cond.selects RX9 yX9_startAnew yX9_startAnew ∈ pm_tbl := List.mem_filter.mpr ⟨by decide +kernel, by decide +kernel⟩
theorem kc_X9_isThing : Cond.code yX9_isThing cX9_isThing 2 (some .boolean) ∈ pm_tbl := List.mem_filter.mpr ⟨List.mem_of_getElem? (i := 265) (by decide +kernel), by decide +kernel⟩
theorem km_X9_isThing : Cond.instanceMethod yX9_isThing ∈ pm_tbl := List.mem_filter.mpr ⟨List.mem_of_getElem? (i := 264) (by decide +kernel), by decide +kernel⟩
theorem ks_X9_isThing : Cond.selects RX9 yX9_isThing yX9_isThing ∈ pm_tbl := List.mem_filter.mpr ⟨by decide +kernel, by decide +kernel⟩
theorem kc_X9_isSet : Cond.code yX9_isSet cX9_isSet 2 (some .boolean) ∈ pm_tbl := List.mem_filter.mpr ⟨List.mem_of_getElem? (i := 532) (by decide +kernel), by decide +kernel⟩
theorem km_X9_isSet : Cond.instanceMethod yX9_isSet ∈ pm_tbl := List.mem_filter.mpr ⟨List.mem_of_getElem? (i := 531) (by decide +kernel), by decide +kernel⟩
theorem ks_X9_isSet : Cond.selects RX9 yX9_isSet yX9_isSet ∈ pm_tbl := List.mem_filter.mpr ⟨by decide +kernel, by decide +kernel⟩
theorem kc_X9_slotAt : Cond.code yX9_slotAt cX9_slotAt 2 (some (.object "IndependenceDesk$Slot")) ∈ pm_tbl := List.mem_filter.mpr ⟨List.mem_of_getElem? (i := 274) (by decide +kernel), by decide +kernel⟩
theorem km_X9_slotAt : Cond.instanceMethod yX9_slotAt ∈ pm_tbl := List.mem_filter.mpr ⟨List.mem_of_getElem? (i := 273) (by decide +kernel), by decide +kernel⟩
theorem ks_X9_slotAt : Cond.selects RX9 yX9_slotAt yX9_slotAt ∈ pm_tbl := List.mem_filter.mpr ⟨by decide +kernel, by decide +kernel⟩
theorem kc_X9_ruleAt : Cond.code yX9_ruleAt cX9_ruleAt 2 (some (.object "IndependenceDesk$Rule")) ∈ pm_tbl := List.mem_filter.mpr ⟨List.mem_of_getElem? (i := 528) (by decide +kernel), by decide +kernel⟩
theorem km_X9_ruleAt : Cond.instanceMethod yX9_ruleAt ∈ pm_tbl := List.mem_filter.mpr ⟨List.mem_of_getElem? (i := 527) (by decide +kernel), by decide +kernel⟩
theorem ks_X9_ruleAt : Cond.selects RX9 yX9_ruleAt yX9_ruleAt ∈ pm_tbl := List.mem_filter.mpr ⟨by decide +kernel, by decide +kernel⟩
theorem kc_X9_slotsWithRow : Cond.code yX9_slotsWithRow cX9_slotsWithRow 4 (some .int) ∈ pm_tbl := List.mem_filter.mpr ⟨List.mem_of_getElem? (i := 703) (by decide +kernel), by decide +kernel⟩
theorem km_X9_slotsWithRow : Cond.instanceMethod yX9_slotsWithRow ∈ pm_tbl := List.mem_filter.mpr ⟨List.mem_of_getElem? (i := 702) (by decide +kernel), by decide +kernel⟩
theorem ks_X9_slotsWithRow : Cond.selects RX9 yX9_slotsWithRow yX9_slotsWithRow ∈ pm_tbl := List.mem_filter.mpr ⟨by decide +kernel, by decide +kernel⟩
theorem kc_X9_numberRefusal : Cond.code yX9_numberRefusal cX9_numberRefusal 4 (some .int) ∈ pm_tbl := List.mem_filter.mpr ⟨List.mem_of_getElem? (i := 301) (by decide +kernel), by decide +kernel⟩
theorem km_X9_numberRefusal : Cond.instanceMethod yX9_numberRefusal ∈ pm_tbl := List.mem_filter.mpr ⟨List.mem_of_getElem? (i := 300) (by decide +kernel), by decide +kernel⟩
theorem ks_X9_numberRefusal : Cond.selects RX9 yX9_numberRefusal yX9_numberRefusal ∈ pm_tbl := List.mem_filter.mpr ⟨by decide +kernel, by decide +kernel⟩
theorem kc_X9_weightOf : Cond.code yX9_weightOf cX9_weightOf 4 (some .int) ∈ pm_tbl := List.mem_filter.mpr ⟨List.mem_of_getElem? (i := 642) (by decide +kernel), by decide +kernel⟩
theorem km_X9_weightOf : Cond.instanceMethod yX9_weightOf ∈ pm_tbl := List.mem_filter.mpr ⟨List.mem_of_getElem? (i := 641) (by decide +kernel), by decide +kernel⟩
theorem ks_X9_weightOf : Cond.selects RX9 yX9_weightOf yX9_weightOf ∈ pm_tbl := List.mem_filter.mpr ⟨by decide +kernel, by decide +kernel⟩
theorem kc_X9_checkFromNumbers : Cond.code yX9_checkFromNumbers cX9_checkFromNumbers 2 (some (.object "IndependenceDesk$Check")) ∈ pm_tbl := List.mem_filter.mpr ⟨List.mem_of_getElem? (i := 340) (by decide +kernel), by decide +kernel⟩
theorem km_X9_checkFromNumbers : Cond.instanceMethod yX9_checkFromNumbers ∈ pm_tbl := List.mem_filter.mpr ⟨List.mem_of_getElem? (i := 339) (by decide +kernel), by decide +kernel⟩
theorem ks_X9_checkFromNumbers : Cond.selects RX9 yX9_checkFromNumbers yX9_checkFromNumbers ∈ pm_tbl := List.mem_filter.mpr ⟨by decide +kernel, by decide +kernel⟩
theorem kc_X9_addDerived : Cond.code yX9_addDerived cX9_addDerived 9 (some .int) ∈ pm_tbl := List.mem_filter.mpr ⟨List.mem_of_getElem? (i := 524) (by decide +kernel), by decide +kernel⟩
theorem km_X9_addDerived : Cond.instanceMethod yX9_addDerived ∈ pm_tbl := List.mem_filter.mpr ⟨List.mem_of_getElem? (i := 523) (by decide +kernel), by decide +kernel⟩
theorem ks_X9_addDerived : Cond.selects RX9 yX9_addDerived yX9_addDerived ∈ pm_tbl := List.mem_filter.mpr ⟨by decide +kernel, by decide +kernel⟩
theorem kc_X9_addRule : Cond.code yX9_addRule cX9_addRule 7 (some .int) ∈ pm_tbl := List.mem_filter.mpr ⟨List.mem_of_getElem? (i := 430) (by decide +kernel), by decide +kernel⟩
theorem km_X9_addRule : Cond.instanceMethod yX9_addRule ∈ pm_tbl := List.mem_filter.mpr ⟨List.mem_of_getElem? (i := 429) (by decide +kernel), by decide +kernel⟩
theorem ks_X9_addRule : Cond.selects RX9 yX9_addRule yX9_addRule ∈ pm_tbl := List.mem_filter.mpr ⟨by decide +kernel, by decide +kernel⟩
theorem kc_X9_thingsThatMayGo : Cond.code yX9_thingsThatMayGo cX9_thingsThatMayGo 7 (some .int) ∈ pm_tbl := List.mem_filter.mpr ⟨List.mem_of_getElem? (i := 609) (by decide +kernel), by decide +kernel⟩
theorem km_X9_thingsThatMayGo : Cond.instanceMethod yX9_thingsThatMayGo ∈ pm_tbl := List.mem_filter.mpr ⟨List.mem_of_getElem? (i := 608) (by decide +kernel), by decide +kernel⟩
theorem ks_X9_thingsThatMayGo : Cond.selects RX9 yX9_thingsThatMayGo yX9_thingsThatMayGo ∈ pm_tbl := List.mem_filter.mpr ⟨by decide +kernel, by decide +kernel⟩
theorem kc_X9_nextByWeight : Cond.code yX9_nextByWeight cX9_nextByWeight 5 (some .int) ∈ pm_tbl := List.mem_filter.mpr ⟨List.mem_of_getElem? (i := 617) (by decide +kernel), by decide +kernel⟩
theorem km_X9_nextByWeight : Cond.instanceMethod yX9_nextByWeight ∈ pm_tbl := List.mem_filter.mpr ⟨List.mem_of_getElem? (i := 616) (by decide +kernel), by decide +kernel⟩
theorem ks_X9_nextByWeight : Cond.selects RX9 yX9_nextByWeight yX9_nextByWeight ∈ pm_tbl := List.mem_filter.mpr ⟨by decide +kernel, by decide +kernel⟩
theorem kc_X9_goesAhead : Cond.code yX9_goesAhead cX9_goesAhead 4 (some .boolean) ∈ pm_tbl := List.mem_filter.mpr ⟨List.mem_of_getElem? (i := 621) (by decide +kernel), by decide +kernel⟩
theorem km_X9_goesAhead : Cond.instanceMethod yX9_goesAhead ∈ pm_tbl := List.mem_filter.mpr ⟨List.mem_of_getElem? (i := 620) (by decide +kernel), by decide +kernel⟩
theorem ks_X9_goesAhead : Cond.selects RX9 yX9_goesAhead yX9_goesAhead ∈ pm_tbl := List.mem_filter.mpr ⟨by decide +kernel, by decide +kernel⟩
theorem kc_X9_mostCommon : Cond.code yX9_mostCommon cX9_mostCommon 6 (some .int) ∈ pm_tbl := List.mem_filter.mpr ⟨List.mem_of_getElem? (i := 629) (by decide +kernel), by decide +kernel⟩
theorem km_X9_mostCommon : Cond.instanceMethod yX9_mostCommon ∈ pm_tbl := List.mem_filter.mpr ⟨List.mem_of_getElem? (i := 628) (by decide +kernel), by decide +kernel⟩
theorem ks_X9_mostCommon : Cond.selects RX9 yX9_mostCommon yX9_mostCommon ∈ pm_tbl := List.mem_filter.mpr ⟨by decide +kernel, by decide +kernel⟩
theorem kc_X9_heapsNeeded : Cond.code yX9_heapsNeeded cX9_heapsNeeded 4 (some .int) ∈ pm_tbl := List.mem_filter.mpr ⟨List.mem_of_getElem? (i := 662) (by decide +kernel), by decide +kernel⟩
theorem km_X9_heapsNeeded : Cond.instanceMethod yX9_heapsNeeded ∈ pm_tbl := List.mem_filter.mpr ⟨List.mem_of_getElem? (i := 661) (by decide +kernel), by decide +kernel⟩
theorem ks_X9_heapsNeeded : Cond.selects RX9 yX9_heapsNeeded yX9_heapsNeeded ∈ pm_tbl := List.mem_filter.mpr ⟨by decide +kernel, by decide +kernel⟩
theorem kc_X9_mostCrowded : Cond.code yX9_mostCrowded cX9_mostCrowded 6 (some .int) ∈ pm_tbl := List.mem_filter.mpr ⟨List.mem_of_getElem? (i := 658) (by decide +kernel), by decide +kernel⟩
theorem km_X9_mostCrowded : Cond.instanceMethod yX9_mostCrowded ∈ pm_tbl := List.mem_filter.mpr ⟨List.mem_of_getElem? (i := 657) (by decide +kernel), by decide +kernel⟩
theorem ks_X9_mostCrowded : Cond.selects RX9 yX9_mostCrowded yX9_mostCrowded ∈ pm_tbl := List.mem_filter.mpr ⟨by decide +kernel, by decide +kernel⟩
theorem kc_X9_numberInDeal : Cond.code yX9_numberInDeal cX9_numberInDeal 7 (some .int) ∈ pm_tbl := List.mem_filter.mpr ⟨List.mem_of_getElem? (i := 670) (by decide +kernel), by decide +kernel⟩
theorem km_X9_numberInDeal : Cond.instanceMethod yX9_numberInDeal ∈ pm_tbl := List.mem_filter.mpr ⟨List.mem_of_getElem? (i := 669) (by decide +kernel), by decide +kernel⟩
theorem ks_X9_numberInDeal : Cond.selects RX9 yX9_numberInDeal yX9_numberInDeal ∈ pm_tbl := List.mem_filter.mpr ⟨by decide +kernel, by decide +kernel⟩
theorem kc_X9_heapThatMayTake : Cond.code yX9_heapThatMayTake cX9_heapThatMayTake 7 (some .int) ∈ pm_tbl := List.mem_filter.mpr ⟨List.mem_of_getElem? (i := 674) (by decide +kernel), by decide +kernel⟩
theorem km_X9_heapThatMayTake : Cond.instanceMethod yX9_heapThatMayTake ∈ pm_tbl := List.mem_filter.mpr ⟨List.mem_of_getElem? (i := 673) (by decide +kernel), by decide +kernel⟩
theorem ks_X9_heapThatMayTake : Cond.selects RX9 yX9_heapThatMayTake yX9_heapThatMayTake ∈ pm_tbl := List.mem_filter.mpr ⟨by decide +kernel, by decide +kernel⟩
theorem kc_X9_restCanBeDealt : Cond.code yX9_restCanBeDealt cX9_restCanBeDealt 7 (some .boolean) ∈ pm_tbl := List.mem_filter.mpr ⟨List.mem_of_getElem? (i := 678) (by decide +kernel), by decide +kernel⟩
theorem km_X9_restCanBeDealt : Cond.instanceMethod yX9_restCanBeDealt ∈ pm_tbl := List.mem_filter.mpr ⟨List.mem_of_getElem? (i := 677) (by decide +kernel), by decide +kernel⟩
theorem ks_X9_restCanBeDealt : Cond.selects RX9 yX9_restCanBeDealt yX9_restCanBeDealt ∈ pm_tbl := List.mem_filter.mpr ⟨by decide +kernel, by decide +kernel⟩
theorem kc_X9_roomFor : Cond.code yX9_roomFor cX9_roomFor 7 (some .int) ∈ pm_tbl := List.mem_filter.mpr ⟨List.mem_of_getElem? (i := 682) (by decide +kernel), by decide +kernel⟩
theorem km_X9_roomFor : Cond.instanceMethod yX9_roomFor ∈ pm_tbl := List.mem_filter.mpr ⟨List.mem_of_getElem? (i := 681) (by decide +kernel), by decide +kernel⟩
theorem ks_X9_roomFor : Cond.selects RX9 yX9_roomFor yX9_roomFor ∈ pm_tbl := List.mem_filter.mpr ⟨by decide +kernel, by decide +kernel⟩
theorem kc_X10_init : Cond.code yX10_init cX10_init 1 none ∈ pm_tbl := List.mem_filter.mpr ⟨List.mem_of_getElem? (i := 708) (by decide +kernel), by decide +kernel⟩
theorem km_X10_init : Cond.instanceMethod yX10_init ∈ pm_tbl := List.mem_filter.mpr ⟨List.mem_of_getElem? (i := 707) (by decide +kernel), by decide +kernel⟩
theorem kc_X10_anew : Cond.code yX10_anew cX10_anew 3 none ∈ pm_tbl := List.mem_filter.mpr ⟨List.mem_of_getElem? (i := 714) (by decide +kernel), by decide +kernel⟩
theorem km_X10_anew : Cond.instanceMethod yX10_anew ∈ pm_tbl := List.mem_filter.mpr ⟨List.mem_of_getElem? (i := 713) (by decide +kernel), by decide +kernel⟩
theorem ks_X10_anew : Cond.selects RX10 yX10_anew yX10_anew ∈ pm_tbl := List.mem_filter.mpr ⟨by decide +kernel, by decide +kernel⟩
theorem kc_X10_fresh : Cond.code yX10_fresh cX10_fresh 2 (some .boolean) ∈ pm_tbl := List.mem_filter.mpr ⟨List.mem_of_getElem? (i := 798) (by decide +kernel), by decide +kernel⟩
theorem km_X10_fresh : Cond.instanceMethod yX10_fresh ∈ pm_tbl := List.mem_filter.mpr ⟨List.mem_of_getElem? (i := 796) (by decide +kernel), by decide +kernel⟩
theorem ks_X10_fresh : Cond.selects RX10 yX10_fresh yX10_fresh ∈ pm_tbl := List.mem_filter.mpr ⟨List.mem_of_getElem? (i := 797) (by decide +kernel), by decide +kernel⟩
theorem kc_X10_isThing : Cond.code yX10_isThing cX10_isThing 2 (some .boolean) ∈ pm_tbl := List.mem_filter.mpr ⟨List.mem_of_getElem? (i := 806) (by decide +kernel), by decide +kernel⟩
theorem km_X10_isThing : Cond.instanceMethod yX10_isThing ∈ pm_tbl := List.mem_filter.mpr ⟨List.mem_of_getElem? (i := 805) (by decide +kernel), by decide +kernel⟩
theorem ks_X10_isThing : Cond.selects RX10 yX10_isThing yX10_isThing ∈ pm_tbl := List.mem_filter.mpr ⟨by decide +kernel, by decide +kernel⟩
theorem kc_X10_isSet : Cond.code yX10_isSet cX10_isSet 2 (some .boolean) ∈ pm_tbl := List.mem_filter.mpr ⟨List.mem_of_getElem? (i := 934) (by decide +kernel), by decide +kernel⟩
theorem km_X10_isSet : Cond.instanceMethod yX10_isSet ∈ pm_tbl := List.mem_filter.mpr ⟨List.mem_of_getElem? (i := 933) (by decide +kernel), by decide +kernel⟩
theorem ks_X10_isSet : Cond.selects RX10 yX10_isSet yX10_isSet ∈ pm_tbl := List.mem_filter.mpr ⟨by decide +kernel, by decide +kernel⟩
theorem kc_X10_isRule : Cond.code yX10_isRule cX10_isRule 2 (some .boolean) ∈ pm_tbl := List.mem_filter.mpr ⟨List.mem_of_getElem? (i := 930) (by decide +kernel), by decide +kernel⟩
theorem km_X10_isRule : Cond.instanceMethod yX10_isRule ∈ pm_tbl := List.mem_filter.mpr ⟨List.mem_of_getElem? (i := 929) (by decide +kernel), by decide +kernel⟩
theorem ks_X10_isRule : Cond.selects RX10 yX10_isRule yX10_isRule ∈ pm_tbl := List.mem_filter.mpr ⟨by decide +kernel, by decide +kernel⟩
theorem kc_X10_weight : Cond.code yX10_weight cX10_weight 4 (some .int) ∈ pm_tbl := List.mem_filter.mpr ⟨List.mem_of_getElem? (i := 802) (by decide +kernel), by decide +kernel⟩
theorem km_X10_weight : Cond.instanceMethod yX10_weight ∈ pm_tbl := List.mem_filter.mpr ⟨List.mem_of_getElem? (i := 800) (by decide +kernel), by decide +kernel⟩
theorem ks_X10_weight : Cond.selects RX10 yX10_weight yX10_weight ∈ pm_tbl := List.mem_filter.mpr ⟨List.mem_of_getElem? (i := 801) (by decide +kernel), by decide +kernel⟩
theorem kc_X10_isSlot : Cond.code yX10_isSlot cX10_isSlot 1 (some .boolean) ∈ pm_tbl := List.mem_filter.mpr ⟨List.mem_of_getElem? (i := 814) (by decide +kernel), by decide +kernel⟩
theorem kt_X10_isSlot : Cond.static yX10_isSlot ∈ pm_tbl := List.mem_filter.mpr ⟨List.mem_of_getElem? (i := 813) (by decide +kernel), by decide +kernel⟩
theorem kc_X10_row : Cond.code yX10_row cX10_row 5 (some .int) ∈ pm_tbl := List.mem_filter.mpr ⟨List.mem_of_getElem? (i := 811) (by decide +kernel), by decide +kernel⟩
theorem km_X10_row : Cond.instanceMethod yX10_row ∈ pm_tbl := List.mem_filter.mpr ⟨List.mem_of_getElem? (i := 809) (by decide +kernel), by decide +kernel⟩
theorem ks_X10_row : Cond.selects RX10 yX10_row yX10_row ∈ pm_tbl := List.mem_filter.mpr ⟨List.mem_of_getElem? (i := 810) (by decide +kernel), by decide +kernel⟩
theorem kc_X10_tear : Cond.code yX10_tear cX10_tear 2 (some .boolean) ∈ pm_tbl := List.mem_filter.mpr ⟨List.mem_of_getElem? (i := 818) (by decide +kernel), by decide +kernel⟩
theorem km_X10_tear : Cond.instanceMethod yX10_tear ∈ pm_tbl := List.mem_filter.mpr ⟨List.mem_of_getElem? (i := 816) (by decide +kernel), by decide +kernel⟩
theorem ks_X10_tear : Cond.selects RX10 yX10_tear yX10_tear ∈ pm_tbl := List.mem_filter.mpr ⟨List.mem_of_getElem? (i := 817) (by decide +kernel), by decide +kernel⟩
theorem kc_X10_wrong : Cond.code yX10_wrong cX10_wrong 3 (some .int) ∈ pm_tbl := List.mem_filter.mpr ⟨List.mem_of_getElem? (i := 826) (by decide +kernel), by decide +kernel⟩
theorem km_X10_wrong : Cond.instanceMethod yX10_wrong ∈ pm_tbl := List.mem_filter.mpr ⟨List.mem_of_getElem? (i := 825) (by decide +kernel), by decide +kernel⟩
theorem ks_X10_wrong : Cond.selects RX10 yX10_wrong yX10_wrong ∈ pm_tbl := List.mem_filter.mpr ⟨by decide +kernel, by decide +kernel⟩
theorem kc_X10_write : Cond.code yX10_write cX10_write 7 (some .int) ∈ pm_tbl := List.mem_filter.mpr ⟨List.mem_of_getElem? (i := 822) (by decide +kernel), by decide +kernel⟩
theorem km_X10_write : Cond.instanceMethod yX10_write ∈ pm_tbl := List.mem_filter.mpr ⟨List.mem_of_getElem? (i := 820) (by decide +kernel), by decide +kernel⟩
theorem ks_X10_write : Cond.selects RX10 yX10_write yX10_write ∈ pm_tbl := List.mem_filter.mpr ⟨List.mem_of_getElem? (i := 821) (by decide +kernel), by decide +kernel⟩
theorem kc_X10_read : Cond.code yX10_read cX10_read 3 (some .long) ∈ pm_tbl := List.mem_filter.mpr ⟨List.mem_of_getElem? (i := 830) (by decide +kernel), by decide +kernel⟩
theorem km_X10_read : Cond.instanceMethod yX10_read ∈ pm_tbl := List.mem_filter.mpr ⟨List.mem_of_getElem? (i := 828) (by decide +kernel), by decide +kernel⟩
theorem ks_X10_read : Cond.selects RX10 yX10_read yX10_read ∈ pm_tbl := List.mem_filter.mpr ⟨List.mem_of_getElem? (i := 829) (by decide +kernel), by decide +kernel⟩
theorem kc_X10_copy : Cond.code yX10_copy cX10_copy 7 (some .int) ∈ pm_tbl := List.mem_filter.mpr ⟨List.mem_of_getElem? (i := 834) (by decide +kernel), by decide +kernel⟩
theorem km_X10_copy : Cond.instanceMethod yX10_copy ∈ pm_tbl := List.mem_filter.mpr ⟨List.mem_of_getElem? (i := 832) (by decide +kernel), by decide +kernel⟩
theorem ks_X10_copy : Cond.selects RX10 yX10_copy yX10_copy ∈ pm_tbl := List.mem_filter.mpr ⟨List.mem_of_getElem? (i := 833) (by decide +kernel), by decide +kernel⟩
theorem kc_X10_bitsOf : Cond.code yX10_bitsOf cX10_bitsOf 3 (some .int) ∈ pm_tbl := List.mem_filter.mpr ⟨List.mem_of_getElem? (i := 866) (by decide +kernel), by decide +kernel⟩
theorem kt_X10_bitsOf : Cond.static yX10_bitsOf ∈ pm_tbl := List.mem_filter.mpr ⟨List.mem_of_getElem? (i := 865) (by decide +kernel), by decide +kernel⟩
theorem kc_X10_isAllowed : Cond.code yX10_isAllowed cX10_isAllowed 3 (some .boolean) ∈ pm_tbl := List.mem_filter.mpr ⟨List.mem_of_getElem? (i := 859) (by decide +kernel), by decide +kernel⟩
theorem km_X10_isAllowed : Cond.instanceMethod yX10_isAllowed ∈ pm_tbl := List.mem_filter.mpr ⟨List.mem_of_getElem? (i := 858) (by decide +kernel), by decide +kernel⟩
theorem ks_X10_isAllowed : Cond.selects RX10 yX10_isAllowed yX10_isAllowed ∈ pm_tbl := List.mem_filter.mpr ⟨by decide +kernel, by decide +kernel⟩
theorem kc_X10_rankOf : Cond.code yX10_rankOf cX10_rankOf 3 (some .int) ∈ pm_tbl := List.mem_filter.mpr ⟨List.mem_of_getElem? (i := 918) (by decide +kernel), by decide +kernel⟩
theorem km_X10_rankOf : Cond.instanceMethod yX10_rankOf ∈ pm_tbl := List.mem_filter.mpr ⟨List.mem_of_getElem? (i := 917) (by decide +kernel), by decide +kernel⟩
theorem ks_X10_rankOf : Cond.selects RX10 yX10_rankOf yX10_rankOf ∈ pm_tbl := List.mem_filter.mpr ⟨by decide +kernel, by decide +kernel⟩
theorem kc_X10_made : Cond.code yX10_made cX10_made 9 (some .int) ∈ pm_tbl := List.mem_filter.mpr ⟨List.mem_of_getElem? (i := 914) (by decide +kernel), by decide +kernel⟩
theorem km_X10_made : Cond.instanceMethod yX10_made ∈ pm_tbl := List.mem_filter.mpr ⟨List.mem_of_getElem? (i := 913) (by decide +kernel), by decide +kernel⟩
theorem ks_X10_made : Cond.selects RX10 yX10_made yX10_made ∈ pm_tbl := List.mem_filter.mpr ⟨by decide +kernel, by decide +kernel⟩
theorem kc_X10_next : Cond.code yX10_next cX10_next 7 (some .int) ∈ pm_tbl := List.mem_filter.mpr ⟨List.mem_of_getElem? (i := 847) (by decide +kernel), by decide +kernel⟩
theorem km_X10_next : Cond.instanceMethod yX10_next ∈ pm_tbl := List.mem_filter.mpr ⟨List.mem_of_getElem? (i := 846) (by decide +kernel), by decide +kernel⟩
theorem ks_X10_next : Cond.selects RX10 yX10_next yX10_next ∈ pm_tbl := List.mem_filter.mpr ⟨by decide +kernel, by decide +kernel⟩
theorem kc_X10_rule : Cond.code yX10_rule cX10_rule 4 (some .int) ∈ pm_tbl := List.mem_filter.mpr ⟨List.mem_of_getElem? (i := 838) (by decide +kernel), by decide +kernel⟩
theorem km_X10_rule : Cond.instanceMethod yX10_rule ∈ pm_tbl := List.mem_filter.mpr ⟨List.mem_of_getElem? (i := 836) (by decide +kernel), by decide +kernel⟩
theorem ks_X10_rule : Cond.selects RX10 yX10_rule yX10_rule ∈ pm_tbl := List.mem_filter.mpr ⟨List.mem_of_getElem? (i := 837) (by decide +kernel), by decide +kernel⟩
theorem kc_X10_allow : Cond.code yX10_allow cX10_allow 2 none ∈ pm_tbl := List.mem_filter.mpr ⟨List.mem_of_getElem? (i := 851) (by decide +kernel), by decide +kernel⟩
theorem km_X10_allow : Cond.instanceMethod yX10_allow ∈ pm_tbl := List.mem_filter.mpr ⟨List.mem_of_getElem? (i := 850) (by decide +kernel), by decide +kernel⟩
theorem ks_X10_allow : Cond.selects RX10 yX10_allow yX10_allow ∈ pm_tbl := List.mem_filter.mpr ⟨by decide +kernel, by decide +kernel⟩
theorem kc_X10_readsTold : Cond.code yX10_readsTold cX10_readsTold 4 none ∈ pm_tbl := List.mem_filter.mpr ⟨List.mem_of_getElem? (i := 842) (by decide +kernel), by decide +kernel⟩
theorem km_X10_readsTold : Cond.instanceMethod yX10_readsTold ∈ pm_tbl := List.mem_filter.mpr ⟨List.mem_of_getElem? (i := 841) (by decide +kernel), by decide +kernel⟩
theorem ks_X10_readsTold : Cond.selects RX10 yX10_readsTold yX10_readsTold ∈ pm_tbl := List.mem_filter.mpr ⟨by decide +kernel, by decide +kernel⟩
theorem kc_X10_breaks : Cond.code yX10_breaks cX10_breaks 4 (some .boolean) ∈ pm_tbl := List.mem_filter.mpr ⟨List.mem_of_getElem? (i := 863) (by decide +kernel), by decide +kernel⟩
theorem km_X10_breaks : Cond.instanceMethod yX10_breaks ∈ pm_tbl := List.mem_filter.mpr ⟨List.mem_of_getElem? (i := 862) (by decide +kernel), by decide +kernel⟩
theorem ks_X10_breaks : Cond.selects RX10 yX10_breaks yX10_breaks ∈ pm_tbl := List.mem_filter.mpr ⟨by decide +kernel, by decide +kernel⟩
theorem kc_X10_breaks_ : Cond.code yX10_breaks_ cX10_breaks_ 6 (some .boolean) ∈ pm_tbl := List.mem_filter.mpr ⟨List.mem_of_getElem? (i := 855) (by decide +kernel), by decide +kernel⟩
theorem km_X10_breaks_ : Cond.instanceMethod yX10_breaks_ ∈ pm_tbl := List.mem_filter.mpr ⟨List.mem_of_getElem? (i := 854) (by decide +kernel), by decide +kernel⟩
theorem ks_X10_breaks_ : Cond.selects RX10 yX10_breaks_ yX10_breaks_ ∈ pm_tbl := List.mem_filter.mpr ⟨by decide +kernel, by decide +kernel⟩
theorem kc_X10_readsEven : Cond.code yX10_readsEven cX10_readsEven 3 none ∈ pm_tbl := List.mem_filter.mpr ⟨List.mem_of_getElem? (i := 870) (by decide +kernel), by decide +kernel⟩
theorem km_X10_readsEven : Cond.instanceMethod yX10_readsEven ∈ pm_tbl := List.mem_filter.mpr ⟨List.mem_of_getElem? (i := 869) (by decide +kernel), by decide +kernel⟩
theorem ks_X10_readsEven : Cond.selects RX10 yX10_readsEven yX10_readsEven ∈ pm_tbl := List.mem_filter.mpr ⟨by decide +kernel, by decide +kernel⟩
theorem kc_X10_readsParts : Cond.code yX10_readsParts cX10_readsParts 7 none ∈ pm_tbl := List.mem_filter.mpr ⟨List.mem_of_getElem? (i := 875) (by decide +kernel), by decide +kernel⟩
theorem km_X10_readsParts : Cond.instanceMethod yX10_readsParts ∈ pm_tbl := List.mem_filter.mpr ⟨List.mem_of_getElem? (i := 874) (by decide +kernel), by decide +kernel⟩
theorem ks_X10_readsParts : Cond.selects RX10 yX10_readsParts yX10_readsParts ∈ pm_tbl := List.mem_filter.mpr ⟨by decide +kernel, by decide +kernel⟩
theorem kc_X10_readsNested : Cond.code yX10_readsNested cX10_readsNested 5 none ∈ pm_tbl := List.mem_filter.mpr ⟨List.mem_of_getElem? (i := 881) (by decide +kernel), by decide +kernel⟩
theorem km_X10_readsNested : Cond.instanceMethod yX10_readsNested ∈ pm_tbl := List.mem_filter.mpr ⟨List.mem_of_getElem? (i := 880) (by decide +kernel), by decide +kernel⟩
theorem ks_X10_readsNested : Cond.selects RX10 yX10_readsNested yX10_readsNested ∈ pm_tbl := List.mem_filter.mpr ⟨by decide +kernel, by decide +kernel⟩
theorem kc_X10_readsEdges : Cond.code yX10_readsEdges cX10_readsEdges 7 none ∈ pm_tbl := List.mem_filter.mpr ⟨List.mem_of_getElem? (i := 886) (by decide +kernel), by decide +kernel⟩
theorem km_X10_readsEdges : Cond.instanceMethod yX10_readsEdges ∈ pm_tbl := List.mem_filter.mpr ⟨List.mem_of_getElem? (i := 885) (by decide +kernel), by decide +kernel⟩
theorem ks_X10_readsEdges : Cond.selects RX10 yX10_readsEdges yX10_readsEdges ∈ pm_tbl := List.mem_filter.mpr ⟨by decide +kernel, by decide +kernel⟩
theorem kc_X10_readsRows : Cond.code yX10_readsRows cX10_readsRows 5 none ∈ pm_tbl := List.mem_filter.mpr ⟨List.mem_of_getElem? (i := 891) (by decide +kernel), by decide +kernel⟩
theorem km_X10_readsRows : Cond.instanceMethod yX10_readsRows ∈ pm_tbl := List.mem_filter.mpr ⟨List.mem_of_getElem? (i := 890) (by decide +kernel), by decide +kernel⟩
theorem ks_X10_readsRows : Cond.selects RX10 yX10_readsRows yX10_readsRows ∈ pm_tbl := List.mem_filter.mpr ⟨by decide +kernel, by decide +kernel⟩
theorem kc_X10_isFree : Cond.code yX10_isFree cX10_isFree 10 (some .boolean) ∈ pm_tbl := List.mem_filter.mpr ⟨List.mem_of_getElem? (i := 898) (by decide +kernel), by decide +kernel⟩
theorem km_X10_isFree : Cond.instanceMethod yX10_isFree ∈ pm_tbl := List.mem_filter.mpr ⟨List.mem_of_getElem? (i := 897) (by decide +kernel), by decide +kernel⟩
theorem ks_X10_isFree : Cond.selects RX10 yX10_isFree yX10_isFree ∈ pm_tbl := List.mem_filter.mpr ⟨by decide +kernel, by decide +kernel⟩
theorem kc_X10_lead : Cond.code yX10_lead cX10_lead 4 (some .int) ∈ pm_tbl := List.mem_filter.mpr ⟨List.mem_of_getElem? (i := 902) (by decide +kernel), by decide +kernel⟩
theorem km_X10_lead : Cond.instanceMethod yX10_lead ∈ pm_tbl := List.mem_filter.mpr ⟨List.mem_of_getElem? (i := 901) (by decide +kernel), by decide +kernel⟩
theorem ks_X10_lead : Cond.selects RX10 yX10_lead yX10_lead ∈ pm_tbl := List.mem_filter.mpr ⟨by decide +kernel, by decide +kernel⟩
