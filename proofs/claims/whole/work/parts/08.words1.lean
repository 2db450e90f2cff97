theorem kc_X10_readsPlaces : Cond.code yX10_readsPlaces cX10_readsPlaces 6 none ∈ pm_tbl := List.mem_filter.mpr ⟨List.mem_of_getElem? (i := 909) (by decide +kernel), by decide +kernel⟩
theorem km_X10_readsPlaces : Cond.instanceMethod yX10_readsPlaces ∈ pm_tbl := List.mem_filter.mpr ⟨List.mem_of_getElem? (i := 908) (by decide +kernel), by decide +kernel⟩
theorem ks_X10_readsPlaces : Cond.selects RX10 yX10_readsPlaces yX10_readsPlaces ∈ pm_tbl := List.mem_filter.mpr ⟨by decide +kernel, by decide +kernel⟩
theorem kc_X10_refused : Cond.code yX10_refused cX10_refused 3 (some .int) ∈ pm_tbl := List.mem_filter.mpr ⟨List.mem_of_getElem? (i := 926) (by decide +kernel), by decide +kernel⟩
theorem km_X10_refused : Cond.instanceMethod yX10_refused ∈ pm_tbl := List.mem_filter.mpr ⟨List.mem_of_getElem? (i := 925) (by decide +kernel), by decide +kernel⟩
theorem ks_X10_refused : Cond.selects RX10 yX10_refused yX10_refused ∈ pm_tbl := List.mem_filter.mpr ⟨by decide +kernel, by decide +kernel⟩
theorem kc_X10_table : Cond.code yX10_table cX10_table 3 none ∈ pm_tbl := List.mem_filter.mpr ⟨List.mem_of_getElem? (i := 938) (by decide +kernel), by decide +kernel⟩
theorem km_X10_table : Cond.instanceMethod yX10_table ∈ pm_tbl := List.mem_filter.mpr ⟨List.mem_of_getElem? (i := 937) (by decide +kernel), by decide +kernel⟩
theorem ks_X10_table : Cond.selects RX10 yX10_table yX10_table ∈ pm_tbl := List.mem_filter.mpr ⟨by decide +kernel, by decide +kernel⟩
theorem kc_X10_less : Cond.code yX10_less cX10_less 5 (some .int) ∈ pm_tbl := List.mem_filter.mpr ⟨List.mem_of_getElem? (i := 922) (by decide +kernel), by decide +kernel⟩
theorem km_X10_less : Cond.instanceMethod yX10_less ∈ pm_tbl := List.mem_filter.mpr ⟨List.mem_of_getElem? (i := 920) (by decide +kernel), by decide +kernel⟩
theorem ks_X10_less : Cond.selects RX10 yX10_less yX10_less ∈ pm_tbl := List.mem_filter.mpr ⟨List.mem_of_getElem? (i := 921) (by decide +kernel), by decide +kernel⟩
theorem kc_X10_take : Cond.code yX10_take cX10_take 5 (some .int) ∈ pm_tbl := List.mem_filter.mpr ⟨List.mem_of_getElem? (i := 942) (by decide +kernel), by decide +kernel⟩
theorem km_X10_take : Cond.instanceMethod yX10_take ∈ pm_tbl := List.mem_filter.mpr ⟨List.mem_of_getElem? (i := 940) (by decide +kernel), by decide +kernel⟩
theorem ks_X10_take : Cond.selects RX10 yX10_take yX10_take ∈ pm_tbl := List.mem_filter.mpr ⟨List.mem_of_getElem? (i := 941) (by decide +kernel), by decide +kernel⟩
theorem kc_X10_turn : Cond.code yX10_turn cX10_turn 4 (some .int) ∈ pm_tbl := List.mem_filter.mpr ⟨List.mem_of_getElem? (i := 946) (by decide +kernel), by decide +kernel⟩
theorem km_X10_turn : Cond.instanceMethod yX10_turn ∈ pm_tbl := List.mem_filter.mpr ⟨List.mem_of_getElem? (i := 944) (by decide +kernel), by decide +kernel⟩
theorem ks_X10_turn : Cond.selects RX10 yX10_turn yX10_turn ∈ pm_tbl := List.mem_filter.mpr ⟨List.mem_of_getElem? (i := 945) (by decide +kernel), by decide +kernel⟩
theorem kc_X10_join : Cond.code yX10_join cX10_join 6 (some .int) ∈ pm_tbl := List.mem_filter.mpr ⟨List.mem_of_getElem? (i := 950) (by decide +kernel), by decide +kernel⟩
theorem km_X10_join : Cond.instanceMethod yX10_join ∈ pm_tbl := List.mem_filter.mpr ⟨List.mem_of_getElem? (i := 948) (by decide +kernel), by decide +kernel⟩
theorem ks_X10_join : Cond.selects RX10 yX10_join yX10_join ∈ pm_tbl := List.mem_filter.mpr ⟨List.mem_of_getElem? (i := 949) (by decide +kernel), by decide +kernel⟩
theorem kc_X10_broken : Cond.code yX10_broken cX10_broken 2 (some .int) ∈ pm_tbl := List.mem_filter.mpr ⟨List.mem_of_getElem? (i := 954) (by decide +kernel), by decide +kernel⟩
theorem km_X10_broken : Cond.instanceMethod yX10_broken ∈ pm_tbl := List.mem_filter.mpr ⟨List.mem_of_getElem? (i := 952) (by decide +kernel), by decide +kernel⟩
theorem ks_X10_broken : Cond.selects RX10 yX10_broken yX10_broken ∈ pm_tbl := List.mem_filter.mpr ⟨List.mem_of_getElem? (i := 953) (by decide +kernel), by decide +kernel⟩
theorem kc_X10_look : Cond.code yX10_look cX10_look 5 (some .int) ∈ pm_tbl := List.mem_filter.mpr ⟨List.mem_of_getElem? (i := 958) (by decide +kernel), by decide +kernel⟩
theorem km_X10_look : Cond.instanceMethod yX10_look ∈ pm_tbl := List.mem_filter.mpr ⟨List.mem_of_getElem? (i := 956) (by decide +kernel), by decide +kernel⟩
theorem ks_X10_look : Cond.selects RX10 yX10_look yX10_look ∈ pm_tbl := List.mem_filter.mpr ⟨List.mem_of_getElem? (i := 957) (by decide +kernel), by decide +kernel⟩
theorem kc_X10_allows : Cond.code yX10_allows cX10_allows 3 (some .int) ∈ pm_tbl := List.mem_filter.mpr ⟨List.mem_of_getElem? (i := 962) (by decide +kernel), by decide +kernel⟩
theorem km_X10_allows : Cond.instanceMethod yX10_allows ∈ pm_tbl := List.mem_filter.mpr ⟨List.mem_of_getElem? (i := 960) (by decide +kernel), by decide +kernel⟩
theorem ks_X10_allows : Cond.selects RX10 yX10_allows yX10_allows ∈ pm_tbl := List.mem_filter.mpr ⟨List.mem_of_getElem? (i := 961) (by decide +kernel), by decide +kernel⟩
theorem kc_X10_rank : Cond.code yX10_rank cX10_rank 3 (some .int) ∈ pm_tbl := List.mem_filter.mpr ⟨List.mem_of_getElem? (i := 966) (by decide +kernel), by decide +kernel⟩
theorem km_X10_rank : Cond.instanceMethod yX10_rank ∈ pm_tbl := List.mem_filter.mpr ⟨List.mem_of_getElem? (i := 964) (by decide +kernel), by decide +kernel⟩
theorem ks_X10_rank : Cond.selects RX10 yX10_rank yX10_rank ∈ pm_tbl := List.mem_filter.mpr ⟨List.mem_of_getElem? (i := 965) (by decide +kernel), by decide +kernel⟩
theorem kc_X10_span : Cond.code yX10_span cX10_span 5 (some .int) ∈ pm_tbl := List.mem_filter.mpr ⟨List.mem_of_getElem? (i := 970) (by decide +kernel), by decide +kernel⟩
theorem km_X10_span : Cond.instanceMethod yX10_span ∈ pm_tbl := List.mem_filter.mpr ⟨List.mem_of_getElem? (i := 968) (by decide +kernel), by decide +kernel⟩
theorem ks_X10_span : Cond.selects RX10 yX10_span yX10_span ∈ pm_tbl := List.mem_filter.mpr ⟨List.mem_of_getElem? (i := 969) (by decide +kernel), by decide +kernel⟩
theorem kc_X10_ring : Cond.code yX10_ring cX10_ring 4 (some .int) ∈ pm_tbl := List.mem_filter.mpr ⟨List.mem_of_getElem? (i := 974) (by decide +kernel), by decide +kernel⟩
theorem km_X10_ring : Cond.instanceMethod yX10_ring ∈ pm_tbl := List.mem_filter.mpr ⟨List.mem_of_getElem? (i := 972) (by decide +kernel), by decide +kernel⟩
theorem ks_X10_ring : Cond.selects RX10 yX10_ring yX10_ring ∈ pm_tbl := List.mem_filter.mpr ⟨List.mem_of_getElem? (i := 973) (by decide +kernel), by decide +kernel⟩
theorem kc_X10_exchange : Cond.code yX10_exchange cX10_exchange 7 (some .int) ∈ pm_tbl := List.mem_filter.mpr ⟨List.mem_of_getElem? (i := 978) (by decide +kernel), by decide +kernel⟩
theorem km_X10_exchange : Cond.instanceMethod yX10_exchange ∈ pm_tbl := List.mem_filter.mpr ⟨List.mem_of_getElem? (i := 976) (by decide +kernel), by decide +kernel⟩
theorem ks_X10_exchange : Cond.selects RX10 yX10_exchange yX10_exchange ∈ pm_tbl := List.mem_filter.mpr ⟨List.mem_of_getElem? (i := 977) (by decide +kernel), by decide +kernel⟩
theorem kc_X10_weightOf : Cond.code yX10_weightOf cX10_weightOf 4 (some .int) ∈ pm_tbl := List.mem_filter.mpr ⟨List.mem_of_getElem? (i := 994) (by decide +kernel), by decide +kernel⟩
theorem km_X10_weightOf : Cond.instanceMethod yX10_weightOf ∈ pm_tbl := List.mem_filter.mpr ⟨List.mem_of_getElem? (i := 993) (by decide +kernel), by decide +kernel⟩
theorem ks_X10_weightOf : Cond.selects RX10 yX10_weightOf yX10_weightOf ∈ pm_tbl := List.mem_filter.mpr ⟨by decide +kernel, by decide +kernel⟩
theorem kc_X10_isBetter : Cond.code yX10_isBetter cX10_isBetter 9 (some .boolean) ∈ pm_tbl := List.mem_filter.mpr ⟨List.mem_of_getElem? (i := 990) (by decide +kernel), by decide +kernel⟩
theorem km_X10_isBetter : Cond.instanceMethod yX10_isBetter ∈ pm_tbl := List.mem_filter.mpr ⟨List.mem_of_getElem? (i := 989) (by decide +kernel), by decide +kernel⟩
theorem ks_X10_isBetter : Cond.selects RX10 yX10_isBetter yX10_isBetter ∈ pm_tbl := List.mem_filter.mpr ⟨by decide +kernel, by decide +kernel⟩
theorem kc_X10_isFull : Cond.code yX10_isFull cX10_isFull 3 (some .boolean) ∈ pm_tbl := List.mem_filter.mpr ⟨List.mem_of_getElem? (i := 986) (by decide +kernel), by decide +kernel⟩
theorem km_X10_isFull : Cond.instanceMethod yX10_isFull ∈ pm_tbl := List.mem_filter.mpr ⟨List.mem_of_getElem? (i := 985) (by decide +kernel), by decide +kernel⟩
theorem ks_X10_isFull : Cond.selects RX10 yX10_isFull yX10_isFull ∈ pm_tbl := List.mem_filter.mpr ⟨by decide +kernel, by decide +kernel⟩
theorem kc_X10_full : Cond.code yX10_full cX10_full 5 (some .int) ∈ pm_tbl := List.mem_filter.mpr ⟨List.mem_of_getElem? (i := 982) (by decide +kernel), by decide +kernel⟩
theorem km_X10_full : Cond.instanceMethod yX10_full ∈ pm_tbl := List.mem_filter.mpr ⟨List.mem_of_getElem? (i := 980) (by decide +kernel), by decide +kernel⟩
theorem ks_X10_full : Cond.selects RX10 yX10_full yX10_full ∈ pm_tbl := List.mem_filter.mpr ⟨List.mem_of_getElem? (i := 981) (by decide +kernel), by decide +kernel⟩
theorem kc_X10_both : Cond.code yX10_both cX10_both 5 (some .int) ∈ pm_tbl := List.mem_filter.mpr ⟨List.mem_of_getElem? (i := 998) (by decide +kernel), by decide +kernel⟩
theorem km_X10_both : Cond.instanceMethod yX10_both ∈ pm_tbl := List.mem_filter.mpr ⟨List.mem_of_getElem? (i := 996) (by decide +kernel), by decide +kernel⟩
theorem ks_X10_both : Cond.selects RX10 yX10_both yX10_both ∈ pm_tbl := List.mem_filter.mpr ⟨List.mem_of_getElem? (i := 997) (by decide +kernel), by decide +kernel⟩
theorem kc_X10_split : Cond.code yX10_split cX10_split 5 (some .int) ∈ pm_tbl := List.mem_filter.mpr ⟨List.mem_of_getElem? (i := 1002) (by decide +kernel), by decide +kernel⟩
theorem km_X10_split : Cond.instanceMethod yX10_split ∈ pm_tbl := List.mem_filter.mpr ⟨List.mem_of_getElem? (i := 1000) (by decide +kernel), by decide +kernel⟩
theorem ks_X10_split : Cond.selects RX10 yX10_split yX10_split ∈ pm_tbl := List.mem_filter.mpr ⟨List.mem_of_getElem? (i := 1001) (by decide +kernel), by decide +kernel⟩
theorem kc_X10_most : Cond.code yX10_most cX10_most 6 (some .int) ∈ pm_tbl := List.mem_filter.mpr ⟨List.mem_of_getElem? (i := 1007) (by decide +kernel), by decide +kernel⟩
theorem km_X10_most : Cond.instanceMethod yX10_most ∈ pm_tbl := List.mem_filter.mpr ⟨List.mem_of_getElem? (i := 1005) (by decide +kernel), by decide +kernel⟩
theorem ks_X10_most : Cond.selects RX10 yX10_most yX10_most ∈ pm_tbl := List.mem_filter.mpr ⟨List.mem_of_getElem? (i := 1006) (by decide +kernel), by decide +kernel⟩
theorem kc_X10_three : Cond.code yX10_three cX10_three 6 (some .int) ∈ pm_tbl := List.mem_filter.mpr ⟨List.mem_of_getElem? (i := 1011) (by decide +kernel), by decide +kernel⟩
theorem km_X10_three : Cond.instanceMethod yX10_three ∈ pm_tbl := List.mem_filter.mpr ⟨List.mem_of_getElem? (i := 1009) (by decide +kernel), by decide +kernel⟩
theorem ks_X10_three : Cond.selects RX10 yX10_three yX10_three ∈ pm_tbl := List.mem_filter.mpr ⟨List.mem_of_getElem? (i := 1010) (by decide +kernel), by decide +kernel⟩
theorem kc_X10_undealt : Cond.code yX10_undealt cX10_undealt 3 (some .int) ∈ pm_tbl := List.mem_filter.mpr ⟨List.mem_of_getElem? (i := 1019) (by decide +kernel), by decide +kernel⟩
theorem km_X10_undealt : Cond.instanceMethod yX10_undealt ∈ pm_tbl := List.mem_filter.mpr ⟨List.mem_of_getElem? (i := 1018) (by decide +kernel), by decide +kernel⟩
theorem ks_X10_undealt : Cond.selects RX10 yX10_undealt yX10_undealt ∈ pm_tbl := List.mem_filter.mpr ⟨by decide +kernel, by decide +kernel⟩
theorem kc_X10_fewestOf : Cond.code yX10_fewestOf cX10_fewestOf 7 (some .int) ∈ pm_tbl := List.mem_filter.mpr ⟨List.mem_of_getElem? (i := 1023) (by decide +kernel), by decide +kernel⟩
theorem km_X10_fewestOf : Cond.instanceMethod yX10_fewestOf ∈ pm_tbl := List.mem_filter.mpr ⟨List.mem_of_getElem? (i := 1022) (by decide +kernel), by decide +kernel⟩
theorem ks_X10_fewestOf : Cond.selects RX10 yX10_fewestOf yX10_fewestOf ∈ pm_tbl := List.mem_filter.mpr ⟨by decide +kernel, by decide +kernel⟩
theorem kc_X10_fewest : Cond.code yX10_fewest cX10_fewest 3 (some .int) ∈ pm_tbl := List.mem_filter.mpr ⟨List.mem_of_getElem? (i := 1015) (by decide +kernel), by decide +kernel⟩
theorem km_X10_fewest : Cond.instanceMethod yX10_fewest ∈ pm_tbl := List.mem_filter.mpr ⟨List.mem_of_getElem? (i := 1013) (by decide +kernel), by decide +kernel⟩
theorem ks_X10_fewest : Cond.selects RX10 yX10_fewest yX10_fewest ∈ pm_tbl := List.mem_filter.mpr ⟨List.mem_of_getElem? (i := 1014) (by decide +kernel), by decide +kernel⟩
theorem kc_X10_deals : Cond.code yX10_deals cX10_deals 6 (some .boolean) ∈ pm_tbl := List.mem_filter.mpr ⟨List.mem_of_getElem? (i := 1032) (by decide +kernel), by decide +kernel⟩
theorem km_X10_deals : Cond.instanceMethod yX10_deals ∈ pm_tbl := List.mem_filter.mpr ⟨List.mem_of_getElem? (i := 1031) (by decide +kernel), by decide +kernel⟩
theorem ks_X10_deals : Cond.selects RX10 yX10_deals yX10_deals ∈ pm_tbl := List.mem_filter.mpr ⟨by decide +kernel, by decide +kernel⟩
theorem kc_X10_dealt : Cond.code yX10_dealt cX10_dealt 6 (some .int) ∈ pm_tbl := List.mem_filter.mpr ⟨List.mem_of_getElem? (i := 1028) (by decide +kernel), by decide +kernel⟩
theorem km_X10_dealt : Cond.instanceMethod yX10_dealt ∈ pm_tbl := List.mem_filter.mpr ⟨List.mem_of_getElem? (i := 1026) (by decide +kernel), by decide +kernel⟩
theorem ks_X10_dealt : Cond.selects RX10 yX10_dealt yX10_dealt ∈ pm_tbl := List.mem_filter.mpr ⟨List.mem_of_getElem? (i := 1027) (by decide +kernel), by decide +kernel⟩
theorem kc_X10_crowd : Cond.code yX10_crowd cX10_crowd 6 (some .int) ∈ pm_tbl := List.mem_filter.mpr ⟨List.mem_of_getElem? (i := 1036) (by decide +kernel), by decide +kernel⟩
theorem km_X10_crowd : Cond.instanceMethod yX10_crowd ∈ pm_tbl := List.mem_filter.mpr ⟨List.mem_of_getElem? (i := 1034) (by decide +kernel), by decide +kernel⟩
theorem ks_X10_crowd : Cond.selects RX10 yX10_crowd yX10_crowd ∈ pm_tbl := List.mem_filter.mpr ⟨List.mem_of_getElem? (i := 1035) (by decide +kernel), by decide +kernel⟩
theorem kc_X10_pack : Cond.code yX10_pack cX10_pack 7 (some .int) ∈ pm_tbl := List.mem_filter.mpr ⟨List.mem_of_getElem? (i := 1040) (by decide +kernel), by decide +kernel⟩
theorem km_X10_pack : Cond.instanceMethod yX10_pack ∈ pm_tbl := List.mem_filter.mpr ⟨List.mem_of_getElem? (i := 1038) (by decide +kernel), by decide +kernel⟩
theorem ks_X10_pack : Cond.selects RX10 yX10_pack yX10_pack ∈ pm_tbl := List.mem_filter.mpr ⟨List.mem_of_getElem? (i := 1039) (by decide +kernel), by decide +kernel⟩
theorem kc_X10_same : Cond.code yX10_same cX10_same 4 (some .int) ∈ pm_tbl := List.mem_filter.mpr ⟨List.mem_of_getElem? (i := 1044) (by decide +kernel), by decide +kernel⟩
theorem km_X10_same : Cond.instanceMethod yX10_same ∈ pm_tbl := List.mem_filter.mpr ⟨List.mem_of_getElem? (i := 1042) (by decide +kernel), by decide +kernel⟩
theorem ks_X10_same : Cond.selects RX10 yX10_same yX10_same ∈ pm_tbl := List.mem_filter.mpr ⟨List.mem_of_getElem? (i := 1043) (by decide +kernel), by decide +kernel⟩
theorem kc_X10_count : Cond.code yX10_count cX10_count 4 (some .int) ∈ pm_tbl := List.mem_filter.mpr ⟨List.mem_of_getElem? (i := 1048) (by decide +kernel), by decide +kernel⟩
theorem km_X10_count : Cond.instanceMethod yX10_count ∈ pm_tbl := List.mem_filter.mpr ⟨List.mem_of_getElem? (i := 1046) (by decide +kernel), by decide +kernel⟩
theorem ks_X10_count : Cond.selects RX10 yX10_count yX10_count ∈ pm_tbl := List.mem_filter.mpr ⟨List.mem_of_getElem? (i := 1047) (by decide +kernel), by decide +kernel⟩
theorem kc_J6_bitCount_0f7a4 : Cond.code yJ6_bitCount_0f7a4 cJ6_bitCount_0f7a4 1 (some .int) ∈ pm_tbl := List.mem_filter.mpr ⟨List.mem_of_getElem? (i := 423) (by decide +kernel), by decide +kernel⟩
theorem kt_J6_bitCount_0f7a4 : Cond.static yJ6_bitCount_0f7a4 ∈ pm_tbl := List.mem_filter.mpr ⟨List.mem_of_getElem? (i := 422) (by decide +kernel), by decide +kernel⟩
theorem kc_J9_floorMod_7cf53 : Cond.code yJ9_floorMod_7cf53 cJ9_floorMod_7cf53 3 (some .int) ∈ pm_tbl := List.mem_filter.mpr ⟨List.mem_of_getElem? (i := 905) (by decide +kernel), by decide +kernel⟩
theorem kt_J9_floorMod_7cf53 : Cond.static yJ9_floorMod_7cf53 ∈ pm_tbl := List.mem_filter.mpr ⟨List.mem_of_getElem? (i := 904) (by decide +kernel), by decide +kernel⟩
theorem kc_J9_max_7cf53 : Cond.code yJ9_max_7cf53 cJ9_max_7cf53 2 (some .int) ∈ pm_tbl := List.mem_filter.mpr ⟨List.mem_of_getElem? (i := 362) (by decide +kernel), by decide +kernel⟩
theorem kt_J9_max_7cf53 : Cond.static yJ9_max_7cf53 ∈ pm_tbl := List.mem_filter.mpr ⟨List.mem_of_getElem? (i := 361) (by decide +kernel), by decide +kernel⟩
theorem kc_J9_min_7cf53 : Cond.code yJ9_min_7cf53 cJ9_min_7cf53 2 (some .int) ∈ pm_tbl := List.mem_filter.mpr ⟨List.mem_of_getElem? (i := 281) (by decide +kernel), by decide +kernel⟩
theorem kt_J9_min_7cf53 : Cond.static yJ9_min_7cf53 ∈ pm_tbl := List.mem_filter.mpr ⟨List.mem_of_getElem? (i := 280) (by decide +kernel), by decide +kernel⟩
theorem kl_L_7 : Cond.classLink RL 7 "IndependenceDesk" ∈ pm_tbl := List.mem_filter.mpr ⟨List.mem_of_getElem? (i := 76) (by decide +kernel), by decide +kernel⟩
theorem kl_L_9 : Cond.methodLink RL 9 yX9_init ∈ pm_tbl := List.mem_filter.mpr ⟨List.mem_of_getElem? (i := 78) (by decide +kernel), by decide +kernel⟩
theorem kl_X9_1 : Cond.methodLink RX9 1 Lib.objectInit ∈ pm_tbl := List.mem_filter.mpr ⟨List.mem_of_getElem? (i := 81) (by decide +kernel), by decide +kernel⟩
theorem kl_X9_9 : Cond.classLink RX9 9 "IndependenceDesk$Slot" ∈ pm_tbl := List.mem_filter.mpr ⟨List.mem_of_getElem? (i := 84) (by decide +kernel), by decide +kernel⟩
theorem kl_X9_15 : Cond.classLink RX9 15 "IndependenceDesk$Rule" ∈ pm_tbl := List.mem_filter.mpr ⟨List.mem_of_getElem? (i := 86) (by decide +kernel), by decide +kernel⟩
theorem kl_X9_28 : Cond.classLink RX9 28 "IndependenceDesk$Reading" ∈ pm_tbl := List.mem_filter.mpr ⟨List.mem_of_getElem? (i := 88) (by decide +kernel), by decide +kernel⟩
theorem kl_X9_30 : Cond.methodLinkNest RX9 30 yX4_init "IndependenceDesk" ∈ lw_tbl := List.mem_of_getElem? (i := 90) (by decide +kernel)
theorem kl_X4_3 : Cond.methodLink RX4 3 Lib.objectInit ∈ pm_tbl := List.mem_filter.mpr ⟨List.mem_of_getElem? (i := 93) (by decide +kernel), by decide +kernel⟩
theorem kl_X4_9 : Cond.fieldLink RX4 9 "IndependenceDesk$Reading" "source" "LIndependenceDesk$Slot;" ∈ pm_tbl := List.mem_filter.mpr ⟨List.mem_of_getElem? (i := 94) (by decide +kernel), by decide +kernel⟩
theorem kl_X4_15 : Cond.fieldLink RX4 15 "IndependenceDesk$Reading" "at" "I" ∈ pm_tbl := List.mem_filter.mpr ⟨List.mem_of_getElem? (i := 95) (by decide +kernel), by decide +kernel⟩
theorem kl_X4_19 : Cond.fieldLink RX4 19 "IndependenceDesk$Reading" "refusal" "I" ∈ pm_tbl := List.mem_filter.mpr ⟨List.mem_of_getElem? (i := 96) (by decide +kernel), by decide +kernel⟩
theorem kl_X9_129 : Cond.fieldLinkNest RX9 129 "IndependenceDesk$Reading" "refusal" "I" "IndependenceDesk" ∈ lw_tbl := List.mem_of_getElem? (i := 97) (by decide +kernel)
theorem kl_X9_35 : Cond.classLink RX9 35 "IndependenceDesk$Told" ∈ pm_tbl := List.mem_filter.mpr ⟨List.mem_of_getElem? (i := 106) (by decide +kernel), by decide +kernel⟩
theorem kl_X9_37 : Cond.methodLinkNest RX9 37 yX7_init "IndependenceDesk" ∈ lw_tbl := List.mem_of_getElem? (i := 108) (by decide +kernel)
theorem kl_X7_3 : Cond.methodLink RX7 3 Lib.objectInit ∈ pm_tbl := List.mem_filter.mpr ⟨List.mem_of_getElem? (i := 111) (by decide +kernel), by decide +kernel⟩
theorem kl_X7_11 : Cond.fieldLink RX7 11 "IndependenceDesk$Told" "marks" "[J" ∈ pm_tbl := List.mem_filter.mpr ⟨List.mem_of_getElem? (i := 112) (by decide +kernel), by decide +kernel⟩
theorem kl_X7_15 : Cond.fieldLink RX7 15 "IndependenceDesk$Told" "sets" "[I" ∈ pm_tbl := List.mem_filter.mpr ⟨List.mem_of_getElem? (i := 113) (by decide +kernel), by decide +kernel⟩
theorem kl_X7_54 : Cond.fieldLink RX7 54 "IndependenceDesk$Told" "size" "I" ∈ pm_tbl := List.mem_filter.mpr ⟨List.mem_of_getElem? (i := 114) (by decide +kernel), by decide +kernel⟩
theorem kl_X7_44 : Cond.fieldLink RX7 44 "IndependenceDesk$Told" "brokenPart" "I" ∈ pm_tbl := List.mem_filter.mpr ⟨List.mem_of_getElem? (i := 115) (by decide +kernel), by decide +kernel⟩
theorem kl_X9_149 : Cond.fieldLinkNest RX9 149 "IndependenceDesk$Told" "brokenPart" "I" "IndependenceDesk" ∈ lw_tbl := List.mem_of_getElem? (i := 116) (by decide +kernel)
theorem kl_X7_48 : Cond.fieldLink RX7 48 "IndependenceDesk$Told" "brokenFirst" "I" ∈ pm_tbl := List.mem_filter.mpr ⟨List.mem_of_getElem? (i := 117) (by decide +kernel), by decide +kernel⟩
theorem kl_X9_152 : Cond.fieldLinkNest RX9 152 "IndependenceDesk$Told" "brokenFirst" "I" "IndependenceDesk" ∈ lw_tbl := List.mem_of_getElem? (i := 118) (by decide +kernel)
theorem kl_X7_51 : Cond.fieldLink RX7 51 "IndependenceDesk$Told" "brokenSecond" "I" ∈ pm_tbl := List.mem_filter.mpr ⟨List.mem_of_getElem? (i := 119) (by decide +kernel), by decide +kernel⟩
theorem kl_X9_155 : Cond.fieldLinkNest RX9 155 "IndependenceDesk$Told" "brokenSecond" "I" "IndependenceDesk" ∈ lw_tbl := List.mem_of_getElem? (i := 120) (by decide +kernel)
theorem kl_X9_42 : Cond.classLink RX9 42 "IndependenceDesk$Bounds" ∈ pm_tbl := List.mem_filter.mpr ⟨List.mem_of_getElem? (i := 135) (by decide +kernel), by decide +kernel⟩
theorem kl_X9_44 : Cond.methodLinkNest RX9 44 yX0_init "IndependenceDesk" ∈ lw_tbl := List.mem_of_getElem? (i := 137) (by decide +kernel)
theorem kl_X0_3 : Cond.methodLink RX0 3 Lib.objectInit ∈ pm_tbl := List.mem_filter.mpr ⟨List.mem_of_getElem? (i := 140) (by decide +kernel), by decide +kernel⟩
theorem kl_X0_9 : Cond.fieldLink RX0 9 "IndependenceDesk$Bounds" "sets" "[I" ∈ pm_tbl := List.mem_filter.mpr ⟨List.mem_of_getElem? (i := 141) (by decide +kernel), by decide +kernel⟩
theorem kl_X0_15 : Cond.fieldLink RX0 15 "IndependenceDesk$Bounds" "limits" "[I" ∈ pm_tbl := List.mem_filter.mpr ⟨List.mem_of_getElem? (i := 142) (by decide +kernel), by decide +kernel⟩
theorem kl_X0_18 : Cond.fieldLink RX0 18 "IndependenceDesk$Bounds" "size" "I" ∈ pm_tbl := List.mem_filter.mpr ⟨List.mem_of_getElem? (i := 143) (by decide +kernel), by decide +kernel⟩
theorem kl_X9_49 : Cond.classLink RX9 49 "IndependenceDesk$Reaches" ∈ pm_tbl := List.mem_filter.mpr ⟨List.mem_of_getElem? (i := 151) (by decide +kernel), by decide +kernel⟩
theorem kl_X9_51 : Cond.methodLinkNest RX9 51 yX3_init "IndependenceDesk" ∈ lw_tbl := List.mem_of_getElem? (i := 153) (by decide +kernel)
theorem kl_X3_3 : Cond.methodLink RX3 3 Lib.objectInit ∈ pm_tbl := List.mem_filter.mpr ⟨List.mem_of_getElem? (i := 156) (by decide +kernel), by decide +kernel⟩
theorem kl_X3_9 : Cond.fieldLink RX3 9 "IndependenceDesk$Reaches" "reached" "[I" ∈ pm_tbl := List.mem_filter.mpr ⟨List.mem_of_getElem? (i := 157) (by decide +kernel), by decide +kernel⟩
theorem kl_X3_15 : Cond.fieldLink RX3 15 "IndependenceDesk$Reaches" "spare" "I" ∈ pm_tbl := List.mem_filter.mpr ⟨List.mem_of_getElem? (i := 158) (by decide +kernel), by decide +kernel⟩
theorem kl_X9_56 : Cond.classLink RX9 56 "IndependenceDesk$Vectors" ∈ pm_tbl := List.mem_filter.mpr ⟨List.mem_of_getElem? (i := 164) (by decide +kernel), by decide +kernel⟩
theorem kl_X9_58 : Cond.methodLinkNest RX9 58 yX8_init "IndependenceDesk" ∈ lw_tbl := List.mem_of_getElem? (i := 166) (by decide +kernel)
theorem kl_X8_3 : Cond.methodLink RX8 3 Lib.objectInit ∈ pm_tbl := List.mem_filter.mpr ⟨List.mem_of_getElem? (i := 169) (by decide +kernel), by decide +kernel⟩
theorem kl_X8_9 : Cond.classLink RX8 9 "[[I" ∈ pm_tbl := List.mem_filter.mpr ⟨List.mem_of_getElem? (i := 170) (by decide +kernel), by decide +kernel⟩
theorem kl_X8_11 : Cond.fieldLink RX8 11 "IndependenceDesk$Vectors" "rows" "[[I" ∈ pm_tbl := List.mem_filter.mpr ⟨List.mem_of_getElem? (i := 172) (by decide +kernel), by decide +kernel⟩
theorem kl_X8_16 : Cond.fieldLink RX8 16 "IndependenceDesk$Vectors" "reduced" "[[I" ∈ pm_tbl := List.mem_filter.mpr ⟨List.mem_of_getElem? (i := 173) (by decide +kernel), by decide +kernel⟩
theorem kl_X8_19 : Cond.fieldLink RX8 19 "IndependenceDesk$Vectors" "leads" "[I" ∈ pm_tbl := List.mem_filter.mpr ⟨List.mem_of_getElem? (i := 174) (by decide +kernel), by decide +kernel⟩
theorem kl_X8_23 : Cond.fieldLink RX8 23 "IndependenceDesk$Vectors" "prime" "I" ∈ pm_tbl := List.mem_filter.mpr ⟨List.mem_of_getElem? (i := 175) (by decide +kernel), by decide +kernel⟩
theorem kl_X8_27 : Cond.fieldLink RX8 27 "IndependenceDesk$Vectors" "columns" "I" ∈ pm_tbl := List.mem_filter.mpr ⟨List.mem_of_getElem? (i := 176) (by decide +kernel), by decide +kernel⟩
theorem kl_X9_63 : Cond.methodLinkNest RX9 63 yX6_init "IndependenceDesk" ∈ lw_tbl := List.mem_of_getElem? (i := 189) (by decide +kernel)
theorem kl_X6_3 : Cond.methodLink RX6 3 Lib.objectInit ∈ pm_tbl := List.mem_filter.mpr ⟨List.mem_of_getElem? (i := 192) (by decide +kernel), by decide +kernel⟩
theorem kl_X6_9 : Cond.fieldLink RX6 9 "IndependenceDesk$Slot" "numbers" "[J" ∈ pm_tbl := List.mem_filter.mpr ⟨List.mem_of_getElem? (i := 193) (by decide +kernel), by decide +kernel⟩
theorem kl_X9_108 : Cond.fieldLinkNest RX9 108 "IndependenceDesk$Slot" "numbers" "[J" "IndependenceDesk" ∈ lw_tbl := List.mem_of_getElem? (i := 194) (by decide +kernel)
theorem kl_X6_15 : Cond.fieldLink RX6 15 "IndependenceDesk$Slot" "width" "I" ∈ pm_tbl := List.mem_filter.mpr ⟨List.mem_of_getElem? (i := 195) (by decide +kernel), by decide +kernel⟩
theorem kl_X9_100 : Cond.fieldLinkNest RX9 100 "IndependenceDesk$Slot" "width" "I" "IndependenceDesk" ∈ lw_tbl := List.mem_of_getElem? (i := 196) (by decide +kernel)
theorem kl_X6_25 : Cond.fieldLink RX6 25 "IndependenceDesk$Slot" "size" "I" ∈ pm_tbl := List.mem_filter.mpr ⟨List.mem_of_getElem? (i := 197) (by decide +kernel), by decide +kernel⟩
theorem kl_X9_64 : Cond.methodLink RX9 64 yX9_startAnew ∈ pm_tbl := List.mem_filter.mpr ⟨List.mem_of_getElem? (i := 205) (by decide +kernel), by decide +kernel⟩
theorem kl_X9_236 : Cond.methodLink RX9 236 yX7_forgetBreach ∈ pm_tbl := List.mem_filter.mpr ⟨List.mem_of_getElem? (i := 209) (by decide +kernel), by decide +kernel⟩
theorem kl_X7_19 : Cond.methodLink RX7 19 yX7_noteBreach ∈ pm_tbl := List.mem_filter.mpr ⟨List.mem_of_getElem? (i := 213) (by decide +kernel), by decide +kernel⟩
theorem kl_X9_11 : Cond.fieldLink RX9 11 "IndependenceDesk" "slots" "[LIndependenceDesk$Slot;" ∈ pm_tbl := List.mem_filter.mpr ⟨List.mem_of_getElem? (i := 217) (by decide +kernel), by decide +kernel⟩
theorem kl_X9_17 : Cond.fieldLink RX9 17 "IndependenceDesk" "rules" "[LIndependenceDesk$Rule;" ∈ pm_tbl := List.mem_filter.mpr ⟨List.mem_of_getElem? (i := 218) (by decide +kernel), by decide +kernel⟩
theorem kl_X9_21 : Cond.fieldLink RX9 21 "IndependenceDesk" "weights" "[I" ∈ pm_tbl := List.mem_filter.mpr ⟨List.mem_of_getElem? (i := 219) (by decide +kernel), by decide +kernel⟩
theorem kl_X9_25 : Cond.fieldLink RX9 25 "IndependenceDesk" "heaps" "[I" ∈ pm_tbl := List.mem_filter.mpr ⟨List.mem_of_getElem? (i := 220) (by decide +kernel), by decide +kernel⟩
theorem kl_X9_31 : Cond.fieldLink RX9 31 "IndependenceDesk" "reading" "LIndependenceDesk$Reading;" ∈ pm_tbl := List.mem_filter.mpr ⟨List.mem_of_getElem? (i := 221) (by decide +kernel), by decide +kernel⟩
theorem kl_X9_38 : Cond.fieldLink RX9 38 "IndependenceDesk" "told" "LIndependenceDesk$Told;" ∈ pm_tbl := List.mem_filter.mpr ⟨List.mem_of_getElem? (i := 222) (by decide +kernel), by decide +kernel⟩
theorem kl_X9_45 : Cond.fieldLink RX9 45 "IndependenceDesk" "bounds" "LIndependenceDesk$Bounds;" ∈ pm_tbl := List.mem_filter.mpr ⟨List.mem_of_getElem? (i := 223) (by decide +kernel), by decide +kernel⟩
theorem kl_X9_52 : Cond.fieldLink RX9 52 "IndependenceDesk" "reaches" "LIndependenceDesk$Reaches;" ∈ pm_tbl := List.mem_filter.mpr ⟨List.mem_of_getElem? (i := 224) (by decide +kernel), by decide +kernel⟩
theorem kl_X9_59 : Cond.fieldLink RX9 59 "IndependenceDesk" "vectors" "LIndependenceDesk$Vectors;" ∈ pm_tbl := List.mem_filter.mpr ⟨List.mem_of_getElem? (i := 225) (by decide +kernel), by decide +kernel⟩
theorem kl_X9_187 : Cond.fieldLink RX9 187 "IndependenceDesk" "things" "I" ∈ pm_tbl := List.mem_filter.mpr ⟨List.mem_of_getElem? (i := 226) (by decide +kernel), by decide +kernel⟩
theorem kl_X9_135 : Cond.fieldLink RX9 135 "IndependenceDesk" "all" "I" ∈ pm_tbl := List.mem_filter.mpr ⟨List.mem_of_getElem? (i := 227) (by decide +kernel), by decide +kernel⟩
theorem kl_X9_118 : Cond.fieldLink RX9 118 "IndependenceDesk" "made" "I" ∈ pm_tbl := List.mem_filter.mpr ⟨List.mem_of_getElem? (i := 228) (by decide +kernel), by decide +kernel⟩
theorem kl_L_13 : Cond.methodLink RL 13 yX9_fresh ∈ pm_tbl := List.mem_filter.mpr ⟨List.mem_of_getElem? (i := 254) (by decide +kernel), by decide +kernel⟩
theorem kl_L_18 : Cond.methodLink RL 18 yX9_weight ∈ pm_tbl := List.mem_filter.mpr ⟨List.mem_of_getElem? (i := 258) (by decide +kernel), by decide +kernel⟩
theorem kl_X9_68 : Cond.methodLink RX9 68 yX9_isThing ∈ pm_tbl := List.mem_filter.mpr ⟨List.mem_of_getElem? (i := 262) (by decide +kernel), by decide +kernel⟩
theorem kl_X9_72 : Cond.constant RX9 72 (1000000) ∈ pm_tbl := List.mem_filter.mpr ⟨List.mem_of_getElem? (i := 266) (by decide +kernel), by decide +kernel⟩
theorem kl_L_23 : Cond.methodLink RL 23 yX9_row ∈ pm_tbl := List.mem_filter.mpr ⟨List.mem_of_getElem? (i := 267) (by decide +kernel), by decide +kernel⟩
theorem kl_X9_73 : Cond.methodLink RX9 73 yX9_slotAt ∈ pm_tbl := List.mem_filter.mpr ⟨List.mem_of_getElem? (i := 271) (by decide +kernel), by decide +kernel⟩
theorem kl_X9_77 : Cond.methodLink RX9 77 yX6_lay ∈ pm_tbl := List.mem_filter.mpr ⟨List.mem_of_getElem? (i := 275) (by decide +kernel), by decide +kernel⟩
theorem kl_X6_19 : Cond.methodLink RX6 19 yJ9_min_7cf53 ∈ pm_tbl := List.mem_filter.mpr ⟨List.mem_of_getElem? (i := 279) (by decide +kernel), by decide +kernel⟩
theorem kl_L_28 : Cond.methodLink RL 28 yX9_tear ∈ pm_tbl := List.mem_filter.mpr ⟨List.mem_of_getElem? (i := 282) (by decide +kernel), by decide +kernel⟩
theorem kl_X9_81 : Cond.methodLink RX9 81 yX6_hasRow ∈ pm_tbl := List.mem_filter.mpr ⟨List.mem_of_getElem? (i := 286) (by decide +kernel), by decide +kernel⟩
theorem kl_X9_85 : Cond.methodLink RX9 85 yX6_clear ∈ pm_tbl := List.mem_filter.mpr ⟨List.mem_of_getElem? (i := 290) (by decide +kernel), by decide +kernel⟩
theorem kl_L_34 : Cond.methodLink RL 34 yX9_write ∈ pm_tbl := List.mem_filter.mpr ⟨List.mem_of_getElem? (i := 294) (by decide +kernel), by decide +kernel⟩
theorem kl_X9_88 : Cond.methodLink RX9 88 yX9_numberRefusal ∈ pm_tbl := List.mem_filter.mpr ⟨List.mem_of_getElem? (i := 298) (by decide +kernel), by decide +kernel⟩
theorem kl_X9_104 : Cond.methodLink RX9 104 yX6_hasStretch ∈ pm_tbl := List.mem_filter.mpr ⟨List.mem_of_getElem? (i := 302) (by decide +kernel), by decide +kernel⟩
theorem kl_X9_92 : Cond.methodLink RX9 92 yX6_put ∈ pm_tbl := List.mem_filter.mpr ⟨List.mem_of_getElem? (i := 306) (by decide +kernel), by decide +kernel⟩
theorem kl_X6_28 : Cond.methodLink RX6 28 yX6_cut ∈ pm_tbl := List.mem_filter.mpr ⟨List.mem_of_getElem? (i := 310) (by decide +kernel), by decide +kernel⟩
theorem kl_L_39 : Cond.methodLink RL 39 yX9_read ∈ pm_tbl := List.mem_filter.mpr ⟨List.mem_of_getElem? (i := 314) (by decide +kernel), by decide +kernel⟩
theorem kl_X9_96 : Cond.methodLink RX9 96 yX6_number ∈ pm_tbl := List.mem_filter.mpr ⟨List.mem_of_getElem? (i := 318) (by decide +kernel), by decide +kernel⟩
theorem kl_L_44 : Cond.methodLink RL 44 yX9_copy ∈ pm_tbl := List.mem_filter.mpr ⟨List.mem_of_getElem? (i := 322) (by decide +kernel), by decide +kernel⟩
theorem kl_X9_112 : Cond.methodLink RX9 112 arraycopyName ∈ pm_tbl := List.mem_filter.mpr ⟨List.mem_of_getElem? (i := 326) (by decide +kernel), by decide +kernel⟩
theorem kl_L_49 : Cond.methodLink RL 49 yX9_rule ∈ pm_tbl := List.mem_filter.mpr ⟨List.mem_of_getElem? (i := 329) (by decide +kernel), by decide +kernel⟩
theorem kl_X9_121 : Cond.methodLink RX9 121 yX4_start ∈ pm_tbl := List.mem_filter.mpr ⟨List.mem_of_getElem? (i := 333) (by decide +kernel), by decide +kernel⟩
theorem kl_X9_125 : Cond.methodLink RX9 125 yX9_checkFromNumbers ∈ pm_tbl := List.mem_filter.mpr ⟨List.mem_of_getElem? (i := 337) (by decide +kernel), by decide +kernel⟩
theorem kl_X9_239 : Cond.methodLink RX9 239 yX7_readSets ∈ pm_tbl := List.mem_filter.mpr ⟨List.mem_of_getElem? (i := 341) (by decide +kernel), by decide +kernel⟩
theorem kl_X7_23 : Cond.methodLink RX7 23 yX4_next ∈ pm_tbl := List.mem_filter.mpr ⟨List.mem_of_getElem? (i := 345) (by decide +kernel), by decide +kernel⟩
theorem kl_X4_22 : Cond.methodLink RX4 22 yX6_hasStretch ∈ pm_tbl := List.mem_filter.mpr ⟨List.mem_of_getElem? (i := 349) (by decide +kernel), by decide +kernel⟩
theorem kl_X4_28 : Cond.methodLink RX4 28 yX6_number ∈ pm_tbl := List.mem_filter.mpr ⟨List.mem_of_getElem? (i := 350) (by decide +kernel), by decide +kernel⟩
theorem kl_X9_243 : Cond.methodLink RX9 243 yX0_readEven ∈ pm_tbl := List.mem_filter.mpr ⟨List.mem_of_getElem? (i := 351) (by decide +kernel), by decide +kernel⟩
theorem kl_X0_22 : Cond.methodLink RX0 22 yX4_next ∈ pm_tbl := List.mem_filter.mpr ⟨List.mem_of_getElem? (i := 355) (by decide +kernel), by decide +kernel⟩
theorem kl_X9_246 : Cond.methodLink RX9 246 yX0_readParts ∈ pm_tbl := List.mem_filter.mpr ⟨List.mem_of_getElem? (i := 356) (by decide +kernel), by decide +kernel⟩
theorem kl_X0_28 : Cond.methodLink RX0 28 yJ9_max_7cf53 ∈ pm_tbl := List.mem_filter.mpr ⟨List.mem_of_getElem? (i := 360) (by decide +kernel), by decide +kernel⟩
theorem kl_X9_249 : Cond.methodLink RX9 249 yX0_readNested ∈ pm_tbl := List.mem_filter.mpr ⟨List.mem_of_getElem? (i := 363) (by decide +kernel), by decide +kernel⟩
theorem kl_X9_252 : Cond.methodLink RX9 252 yX3_readEdges ∈ pm_tbl := List.mem_filter.mpr ⟨List.mem_of_getElem? (i := 367) (by decide +kernel), by decide +kernel⟩
theorem kl_X3_19 : Cond.methodLink RX3 19 yX4_next ∈ pm_tbl := List.mem_filter.mpr ⟨List.mem_of_getElem? (i := 371) (by decide +kernel), by decide +kernel⟩
theorem kl_X9_255 : Cond.methodLink RX9 255 yX8_readRows ∈ pm_tbl := List.mem_filter.mpr ⟨List.mem_of_getElem? (i := 372) (by decide +kernel), by decide +kernel⟩
theorem kl_X8_30 : Cond.methodLink RX8 30 yX4_next ∈ pm_tbl := List.mem_filter.mpr ⟨List.mem_of_getElem? (i := 376) (by decide +kernel), by decide +kernel⟩
theorem kl_X8_36 : Cond.methodLink RX8 36 yX4_refuseLast ∈ pm_tbl := List.mem_filter.mpr ⟨List.mem_of_getElem? (i := 377) (by decide +kernel), by decide +kernel⟩
theorem kl_X9_258 : Cond.methodLink RX9 258 yX3_readPlaces ∈ pm_tbl := List.mem_filter.mpr ⟨List.mem_of_getElem? (i := 381) (by decide +kernel), by decide +kernel⟩
theorem kl_X9_132 : Cond.methodLink RX9 132 yX0_lieNested ∈ pm_tbl := List.mem_filter.mpr ⟨List.mem_of_getElem? (i := 385) (by decide +kernel), by decide +kernel⟩
theorem kl_X9_138 : Cond.methodLink RX9 138 yX7_breaksLaw ∈ pm_tbl := List.mem_filter.mpr ⟨List.mem_of_getElem? (i := 389) (by decide +kernel), by decide +kernel⟩
theorem kl_X7_29 : Cond.methodLink RX7 29 yX7_listSets ∈ pm_tbl := List.mem_filter.mpr ⟨List.mem_of_getElem? (i := 393) (by decide +kernel), by decide +kernel⟩
theorem kl_X7_33 : Cond.methodLink RX7 33 yX7_fits ∈ pm_tbl := List.mem_filter.mpr ⟨List.mem_of_getElem? (i := 397) (by decide +kernel), by decide +kernel⟩
theorem kl_X7_37 : Cond.methodLink RX7 37 yX7_lacksPart ∈ pm_tbl := List.mem_filter.mpr ⟨List.mem_of_getElem? (i := 401) (by decide +kernel), by decide +kernel⟩
theorem kl_X7_57 : Cond.methodLink RX7 57 yX7_leastPartNotTold ∈ pm_tbl := List.mem_filter.mpr ⟨List.mem_of_getElem? (i := 405) (by decide +kernel), by decide +kernel⟩
theorem kl_X7_41 : Cond.methodLink RX7 41 yX7_lacksExchange ∈ pm_tbl := List.mem_filter.mpr ⟨List.mem_of_getElem? (i := 409) (by decide +kernel), by decide +kernel⟩
theorem kl_X7_61 : Cond.methodLink RX7 61 yX7_leastWithNoneToCome ∈ pm_tbl := List.mem_filter.mpr ⟨List.mem_of_getElem? (i := 413) (by decide +kernel), by decide +kernel⟩
theorem kl_X7_64 : Cond.methodLink RX7 64 yX7_thingsThatMayCome ∈ pm_tbl := List.mem_filter.mpr ⟨List.mem_of_getElem? (i := 417) (by decide +kernel), by decide +kernel⟩
theorem kl_X7_67 : Cond.methodLink RX7 67 yJ6_bitCount_0f7a4 ∈ pm_tbl := List.mem_filter.mpr ⟨List.mem_of_getElem? (i := 421) (by decide +kernel), by decide +kernel⟩
theorem kl_J6_265 : Cond.constant RJ6 265 (1431655765) ∈ pm_tbl := List.mem_filter.mpr ⟨List.mem_of_getElem? (i := 424) (by decide +kernel), by decide +kernel⟩
theorem kl_J6_266 : Cond.constant RJ6 266 (858993459) ∈ pm_tbl := List.mem_filter.mpr ⟨List.mem_of_getElem? (i := 425) (by decide +kernel), by decide +kernel⟩
theorem kl_J6_267 : Cond.constant RJ6 267 (252645135) ∈ pm_tbl := List.mem_filter.mpr ⟨List.mem_of_getElem? (i := 426) (by decide +kernel), by decide +kernel⟩
theorem kl_X9_141 : Cond.methodLink RX9 141 yX9_addRule ∈ pm_tbl := List.mem_filter.mpr ⟨List.mem_of_getElem? (i := 427) (by decide +kernel), by decide +kernel⟩
theorem kl_X9_266 : Cond.methodLinkNest RX9 266 yX5_init "IndependenceDesk" ∈ lw_tbl := List.mem_of_getElem? (i := 432) (by decide +kernel)
theorem kl_X5_3 : Cond.methodLink RX5 3 Lib.objectInit ∈ pm_tbl := List.mem_filter.mpr ⟨List.mem_of_getElem? (i := 435) (by decide +kernel), by decide +kernel⟩
theorem kl_X9_162 : Cond.fieldLinkNest RX9 162 "IndependenceDesk$Rule" "kind" "I" "IndependenceDesk" ∈ lw_tbl := List.mem_of_getElem? (i := 436) (by decide +kernel)
theorem kl_X9_172 : Cond.fieldLinkNest RX9 172 "IndependenceDesk$Rule" "first" "I" "IndependenceDesk" ∈ lw_tbl := List.mem_of_getElem? (i := 437) (by decide +kernel)
theorem kl_X9_175 : Cond.fieldLinkNest RX9 175 "IndependenceDesk$Rule" "second" "I" "IndependenceDesk" ∈ lw_tbl := List.mem_of_getElem? (i := 438) (by decide +kernel)
theorem kl_X9_178 : Cond.fieldLinkNest RX9 178 "IndependenceDesk$Rule" "depth" "I" "IndependenceDesk" ∈ lw_tbl := List.mem_of_getElem? (i := 439) (by decide +kernel)
theorem kl_X5_9 : Cond.fieldLink RX5 9 "IndependenceDesk$Rule" "ranks" "[B" ∈ pm_tbl := List.mem_filter.mpr ⟨List.mem_of_getElem? (i := 440) (by decide +kernel), by decide +kernel⟩
theorem kl_X9_267 : Cond.methodLink RX9 267 yX5_fill ∈ pm_tbl := List.mem_filter.mpr ⟨List.mem_of_getElem? (i := 453) (by decide +kernel), by decide +kernel⟩
theorem kl_X5_15 : Cond.methodLink RX5 15 yX5_rankByParts ∈ pm_tbl := List.mem_filter.mpr ⟨List.mem_of_getElem? (i := 457) (by decide +kernel), by decide +kernel⟩
theorem kl_X5_19 : Cond.methodLink RX5 19 yJ6_bitCount_0f7a4 ∈ pm_tbl := List.mem_filter.mpr ⟨List.mem_of_getElem? (i := 461) (by decide +kernel), by decide +kernel⟩
theorem kl_X5_25 : Cond.methodLink RX5 25 yX5_rankOf ∈ pm_tbl := List.mem_filter.mpr ⟨List.mem_of_getElem? (i := 462) (by decide +kernel), by decide +kernel⟩
theorem kl_X5_28 : Cond.methodLink RX5 28 yJ9_max_7cf53 ∈ pm_tbl := List.mem_filter.mpr ⟨List.mem_of_getElem? (i := 466) (by decide +kernel), by decide +kernel⟩
theorem kl_X5_34 : Cond.methodLink RX5 34 yJ9_min_7cf53 ∈ pm_tbl := List.mem_filter.mpr ⟨List.mem_of_getElem? (i := 467) (by decide +kernel), by decide +kernel⟩
theorem kl_X5_37 : Cond.methodLink RX5 37 yX1_fits ∈ pm_tbl := List.mem_filter.mpr ⟨List.mem_of_getElem? (i := 469) (by decide +kernel), by decide +kernel⟩
theorem kl_X0_33 : Cond.methodLink RX0 33 yJ6_bitCount_0f7a4 ∈ pm_tbl := List.mem_filter.mpr ⟨List.mem_of_getElem? (i := 478) (by decide +kernel), by decide +kernel⟩
theorem kl_X2_28 : Cond.methodLink RX2 28 yJ6_bitCount_0f7a4 ∈ pm_tbl := List.mem_filter.mpr ⟨List.mem_of_getElem? (i := 485) (by decide +kernel), by decide +kernel⟩
theorem kl_X2_34 : Cond.methodLink RX2 34 yX5_rankOf ∈ pm_tbl := List.mem_filter.mpr ⟨List.mem_of_getElem? (i := 486) (by decide +kernel), by decide +kernel⟩
theorem kl_X3_25 : Cond.methodLink RX3 25 yJ6_bitCount_0f7a4 ∈ pm_tbl := List.mem_filter.mpr ⟨List.mem_of_getElem? (i := 493) (by decide +kernel), by decide +kernel⟩
theorem kl_X8_39 : Cond.methodLink RX8 39 yJ6_bitCount_0f7a4 ∈ pm_tbl := List.mem_filter.mpr ⟨List.mem_of_getElem? (i := 504) (by decide +kernel), by decide +kernel⟩
theorem kl_X8_45 : Cond.methodLink RX8 45 yX8_clearLead ∈ pm_tbl := List.mem_filter.mpr ⟨List.mem_of_getElem? (i := 505) (by decide +kernel), by decide +kernel⟩
theorem kl_X8_53 : Cond.methodLink RX8 53 yX8_modulo ∈ pm_tbl := List.mem_filter.mpr ⟨List.mem_of_getElem? (i := 509) (by decide +kernel), by decide +kernel⟩
theorem kl_X8_49 : Cond.methodLink RX8 49 yX8_firstNotZero ∈ pm_tbl := List.mem_filter.mpr ⟨List.mem_of_getElem? (i := 513) (by decide +kernel), by decide +kernel⟩
theorem kl_L_53 : Cond.methodLink RL 53 yX9_less ∈ pm_tbl := List.mem_filter.mpr ⟨List.mem_of_getElem? (i := 517) (by decide +kernel), by decide +kernel⟩
theorem kl_X9_145 : Cond.methodLink RX9 145 yX9_addDerived ∈ pm_tbl := List.mem_filter.mpr ⟨List.mem_of_getElem? (i := 521) (by decide +kernel), by decide +kernel⟩
theorem kl_X9_158 : Cond.methodLink RX9 158 yX9_ruleAt ∈ pm_tbl := List.mem_filter.mpr ⟨List.mem_of_getElem? (i := 525) (by decide +kernel), by decide +kernel⟩
theorem kl_X9_181 : Cond.methodLink RX9 181 yX9_isSet ∈ pm_tbl := List.mem_filter.mpr ⟨List.mem_of_getElem? (i := 529) (by decide +kernel), by decide +kernel⟩
theorem kl_X9_210 : Cond.methodLink RX9 210 yJ9_max_7cf53 ∈ pm_tbl := List.mem_filter.mpr ⟨List.mem_of_getElem? (i := 533) (by decide +kernel), by decide +kernel⟩
theorem kl_X9_261 : Cond.classLink RX9 261 "IndependenceDesk$Derived" ∈ pm_tbl := List.mem_filter.mpr ⟨List.mem_of_getElem? (i := 534) (by decide +kernel), by decide +kernel⟩
theorem kl_X9_263 : Cond.methodLink RX9 263 yX2_init ∈ pm_tbl := List.mem_filter.mpr ⟨List.mem_of_getElem? (i := 536) (by decide +kernel), by decide +kernel⟩
theorem kl_X2_3 : Cond.methodLink RX2 3 Lib.objectInit ∈ pm_tbl := List.mem_filter.mpr ⟨List.mem_of_getElem? (i := 539) (by decide +kernel), by decide +kernel⟩
theorem kl_X2_9 : Cond.fieldLink RX2 9 "IndependenceDesk$Derived" "kind" "I" ∈ pm_tbl := List.mem_filter.mpr ⟨List.mem_of_getElem? (i := 540) (by decide +kernel), by decide +kernel⟩
theorem kl_X2_15 : Cond.fieldLink RX2 15 "IndependenceDesk$Derived" "first" "LIndependenceDesk$Rule;" ∈ pm_tbl := List.mem_filter.mpr ⟨List.mem_of_getElem? (i := 541) (by decide +kernel), by decide +kernel⟩
theorem kl_X2_19 : Cond.fieldLink RX2 19 "IndependenceDesk$Derived" "second" "LIndependenceDesk$Rule;" ∈ pm_tbl := List.mem_filter.mpr ⟨List.mem_of_getElem? (i := 542) (by decide +kernel), by decide +kernel⟩
theorem kl_X2_22 : Cond.fieldLink RX2 22 "IndependenceDesk$Derived" "t" "I" ∈ pm_tbl := List.mem_filter.mpr ⟨List.mem_of_getElem? (i := 543) (by decide +kernel), by decide +kernel⟩
theorem kl_X2_25 : Cond.fieldLink RX2 25 "IndependenceDesk$Derived" "all" "I" ∈ pm_tbl := List.mem_filter.mpr ⟨List.mem_of_getElem? (i := 544) (by decide +kernel), by decide +kernel⟩
theorem kl_L_57 : Cond.methodLink RL 57 yX9_take ∈ pm_tbl := List.mem_filter.mpr ⟨List.mem_of_getElem? (i := 556) (by decide +kernel), by decide +kernel⟩
theorem kl_L_61 : Cond.methodLink RL 61 yX9_turn ∈ pm_tbl := List.mem_filter.mpr ⟨List.mem_of_getElem? (i := 560) (by decide +kernel), by decide +kernel⟩
theorem kl_L_66 : Cond.methodLink RL 66 yX9_join ∈ pm_tbl := List.mem_filter.mpr ⟨List.mem_of_getElem? (i := 564) (by decide +kernel), by decide +kernel⟩
theorem kl_L_70 : Cond.methodLink RL 70 yX9_broken ∈ pm_tbl := List.mem_filter.mpr ⟨List.mem_of_getElem? (i := 568) (by decide +kernel), by decide +kernel⟩
theorem kl_L_74 : Cond.methodLink RL 74 yX9_look ∈ pm_tbl := List.mem_filter.mpr ⟨List.mem_of_getElem? (i := 572) (by decide +kernel), by decide +kernel⟩
theorem kl_X9_165 : Cond.methodLink RX9 165 yX5_rankOf ∈ pm_tbl := List.mem_filter.mpr ⟨List.mem_of_getElem? (i := 576) (by decide +kernel), by decide +kernel⟩
theorem kl_X9_169 : Cond.methodLink RX9 169 yX5_allowedSets ∈ pm_tbl := List.mem_filter.mpr ⟨List.mem_of_getElem? (i := 577) (by decide +kernel), by decide +kernel⟩
theorem kl_X5_43 : Cond.methodLink RX5 43 yX5_permits ∈ pm_tbl := List.mem_filter.mpr ⟨List.mem_of_getElem? (i := 581) (by decide +kernel), by decide +kernel⟩
theorem kl_L_78 : Cond.methodLink RL 78 yX9_allows ∈ pm_tbl := List.mem_filter.mpr ⟨List.mem_of_getElem? (i := 585) (by decide +kernel), by decide +kernel⟩
theorem kl_X9_184 : Cond.methodLink RX9 184 yX5_permits ∈ pm_tbl := List.mem_filter.mpr ⟨List.mem_of_getElem? (i := 589) (by decide +kernel), by decide +kernel⟩
theorem kl_L_82 : Cond.methodLink RL 82 yX9_rank ∈ pm_tbl := List.mem_filter.mpr ⟨List.mem_of_getElem? (i := 590) (by decide +kernel), by decide +kernel⟩
theorem kl_L_86 : Cond.methodLink RL 86 yX9_span ∈ pm_tbl := List.mem_filter.mpr ⟨List.mem_of_getElem? (i := 594) (by decide +kernel), by decide +kernel⟩
theorem kl_L_90 : Cond.methodLink RL 90 yX9_ring ∈ pm_tbl := List.mem_filter.mpr ⟨List.mem_of_getElem? (i := 598) (by decide +kernel), by decide +kernel⟩
theorem kl_L_94 : Cond.methodLink RL 94 yX9_exchange ∈ pm_tbl := List.mem_filter.mpr ⟨List.mem_of_getElem? (i := 602) (by decide +kernel), by decide +kernel⟩
theorem kl_X9_190 : Cond.methodLink RX9 190 yX9_thingsThatMayGo ∈ pm_tbl := List.mem_filter.mpr ⟨List.mem_of_getElem? (i := 606) (by decide +kernel), by decide +kernel⟩
theorem kl_L_98 : Cond.methodLink RL 98 yX9_full ∈ pm_tbl := List.mem_filter.mpr ⟨List.mem_of_getElem? (i := 610) (by decide +kernel), by decide +kernel⟩
theorem kl_X9_194 : Cond.methodLink RX9 194 yX9_nextByWeight ∈ pm_tbl := List.mem_filter.mpr ⟨List.mem_of_getElem? (i := 614) (by decide +kernel), by decide +kernel⟩
theorem kl_X9_271 : Cond.methodLink RX9 271 yX9_goesAhead ∈ pm_tbl := List.mem_filter.mpr ⟨List.mem_of_getElem? (i := 618) (by decide +kernel), by decide +kernel⟩
theorem kl_L_103 : Cond.methodLink RL 103 yX9_both ∈ pm_tbl := List.mem_filter.mpr ⟨List.mem_of_getElem? (i := 622) (by decide +kernel), by decide +kernel⟩
theorem kl_X9_198 : Cond.methodLink RX9 198 yX9_mostCommon ∈ pm_tbl := List.mem_filter.mpr ⟨List.mem_of_getElem? (i := 626) (by decide +kernel), by decide +kernel⟩
theorem kl_X9_202 : Cond.methodLink RX9 202 yJ6_bitCount_0f7a4 ∈ pm_tbl := List.mem_filter.mpr ⟨List.mem_of_getElem? (i := 630) (by decide +kernel), by decide +kernel⟩
theorem kl_L_107 : Cond.methodLink RL 107 yX9_split ∈ pm_tbl := List.mem_filter.mpr ⟨List.mem_of_getElem? (i := 631) (by decide +kernel), by decide +kernel⟩
theorem kl_L_111 : Cond.methodLink RL 111 yX9_most ∈ pm_tbl := List.mem_filter.mpr ⟨List.mem_of_getElem? (i := 635) (by decide +kernel), by decide +kernel⟩
theorem kl_X9_207 : Cond.methodLink RX9 207 yX9_weightOf ∈ pm_tbl := List.mem_filter.mpr ⟨List.mem_of_getElem? (i := 639) (by decide +kernel), by decide +kernel⟩
theorem kl_L_115 : Cond.methodLink RL 115 yX9_three ∈ pm_tbl := List.mem_filter.mpr ⟨List.mem_of_getElem? (i := 643) (by decide +kernel), by decide +kernel⟩
theorem kl_L_119 : Cond.methodLink RL 119 yX9_fewest ∈ pm_tbl := List.mem_filter.mpr ⟨List.mem_of_getElem? (i := 647) (by decide +kernel), by decide +kernel⟩
theorem kl_X9_215 : Cond.methodLink RX9 215 yX5_permitsEachAlone ∈ pm_tbl := List.mem_filter.mpr ⟨List.mem_of_getElem? (i := 651) (by decide +kernel), by decide +kernel⟩
theorem kl_X9_218 : Cond.methodLink RX9 218 yX9_mostCrowded ∈ pm_tbl := List.mem_filter.mpr ⟨List.mem_of_getElem? (i := 655) (by decide +kernel), by decide +kernel⟩
theorem kl_X9_222 : Cond.methodLink RX9 222 yX9_heapsNeeded ∈ pm_tbl := List.mem_filter.mpr ⟨List.mem_of_getElem? (i := 659) (by decide +kernel), by decide +kernel⟩
theorem kl_L_123 : Cond.methodLink RL 123 yX9_dealt ∈ pm_tbl := List.mem_filter.mpr ⟨List.mem_of_getElem? (i := 663) (by decide +kernel), by decide +kernel⟩
theorem kl_X9_226 : Cond.methodLink RX9 226 yX9_numberInDeal ∈ pm_tbl := List.mem_filter.mpr ⟨List.mem_of_getElem? (i := 667) (by decide +kernel), by decide +kernel⟩
theorem kl_X9_275 : Cond.methodLink RX9 275 yX9_heapThatMayTake ∈ pm_tbl := List.mem_filter.mpr ⟨List.mem_of_getElem? (i := 671) (by decide +kernel), by decide +kernel⟩
theorem kl_X9_279 : Cond.methodLink RX9 279 yX9_restCanBeDealt ∈ pm_tbl := List.mem_filter.mpr ⟨List.mem_of_getElem? (i := 675) (by decide +kernel), by decide +kernel⟩
theorem kl_X9_283 : Cond.methodLink RX9 283 yX9_roomFor ∈ pm_tbl := List.mem_filter.mpr ⟨List.mem_of_getElem? (i := 679) (by decide +kernel), by decide +kernel⟩
theorem kl_L_127 : Cond.methodLink RL 127 yX9_crowd ∈ pm_tbl := List.mem_filter.mpr ⟨List.mem_of_getElem? (i := 683) (by decide +kernel), by decide +kernel⟩
theorem kl_L_131 : Cond.methodLink RL 131 yX9_pack ∈ pm_tbl := List.mem_filter.mpr ⟨List.mem_of_getElem? (i := 687) (by decide +kernel), by decide +kernel⟩
theorem kl_X9_229 : Cond.methodLink RX9 229 yJ9_min_7cf53 ∈ pm_tbl := List.mem_filter.mpr ⟨List.mem_of_getElem? (i := 691) (by decide +kernel), by decide +kernel⟩
theorem kl_L_135 : Cond.methodLink RL 135 yX9_same ∈ pm_tbl := List.mem_filter.mpr ⟨List.mem_of_getElem? (i := 692) (by decide +kernel), by decide +kernel⟩
theorem kl_L_139 : Cond.methodLink RL 139 yX9_count ∈ pm_tbl := List.mem_filter.mpr ⟨List.mem_of_getElem? (i := 696) (by decide +kernel), by decide +kernel⟩
theorem kl_X9_232 : Cond.methodLink RX9 232 yX9_slotsWithRow ∈ pm_tbl := List.mem_filter.mpr ⟨List.mem_of_getElem? (i := 700) (by decide +kernel), by decide +kernel⟩
theorem kl_L_10 : Cond.classLink RL 10 "IndependenceDeskModel" ∈ pm_tbl := List.mem_filter.mpr ⟨List.mem_of_getElem? (i := 704) (by decide +kernel), by decide +kernel⟩
theorem kl_L_12 : Cond.methodLink RL 12 yX10_init ∈ pm_tbl := List.mem_filter.mpr ⟨List.mem_of_getElem? (i := 706) (by decide +kernel), by decide +kernel⟩
theorem kl_X10_1 : Cond.methodLink RX10 1 Lib.objectInit ∈ pm_tbl := List.mem_filter.mpr ⟨List.mem_of_getElem? (i := 709) (by decide +kernel), by decide +kernel⟩
theorem kl_X10_20 : Cond.constant RX10 20 (98304) ∈ pm_tbl := List.mem_filter.mpr ⟨List.mem_of_getElem? (i := 710) (by decide +kernel), by decide +kernel⟩
theorem kl_X10_81 : Cond.methodLink RX10 81 yX10_anew ∈ pm_tbl := List.mem_filter.mpr ⟨List.mem_of_getElem? (i := 711) (by decide +kernel), by decide +kernel⟩
theorem kl_X10_7 : Cond.fieldLink RX10 7 "IndependenceDeskModel" "n" "I" ∈ pm_tbl := List.mem_filter.mpr ⟨List.mem_of_getElem? (i := 715) (by decide +kernel), by decide +kernel⟩
theorem kl_X10_13 : Cond.fieldLink RX10 13 "IndependenceDeskModel" "all" "I" ∈ pm_tbl := List.mem_filter.mpr ⟨List.mem_of_getElem? (i := 716) (by decide +kernel), by decide +kernel⟩
theorem kl_X10_16 : Cond.fieldLink RX10 16 "IndependenceDeskModel" "weights" "[I" ∈ pm_tbl := List.mem_filter.mpr ⟨List.mem_of_getElem? (i := 717) (by decide +kernel), by decide +kernel⟩
theorem kl_X10_85 : Cond.fieldLink RX10 85 "IndependenceDeskModel" "rules" "I" ∈ pm_tbl := List.mem_filter.mpr ⟨List.mem_of_getElem? (i := 718) (by decide +kernel), by decide +kernel⟩
theorem kl_X10_21 : Cond.fieldLink RX10 21 "IndependenceDeskModel" "allowed" "[Z" ∈ pm_tbl := List.mem_filter.mpr ⟨List.mem_of_getElem? (i := 719) (by decide +kernel), by decide +kernel⟩
theorem kl_X10_25 : Cond.fieldLink RX10 25 "IndependenceDeskModel" "ranks" "[B" ∈ pm_tbl := List.mem_filter.mpr ⟨List.mem_of_getElem? (i := 720) (by decide +kernel), by decide +kernel⟩
theorem kl_X10_29 : Cond.fieldLink RX10 29 "IndependenceDeskModel" "kinds" "[I" ∈ pm_tbl := List.mem_filter.mpr ⟨List.mem_of_getElem? (i := 721) (by decide +kernel), by decide +kernel⟩
theorem kl_X10_32 : Cond.fieldLink RX10 32 "IndependenceDeskModel" "firstOf" "[I" ∈ pm_tbl := List.mem_filter.mpr ⟨List.mem_of_getElem? (i := 722) (by decide +kernel), by decide +kernel⟩
theorem kl_X10_35 : Cond.fieldLink RX10 35 "IndependenceDeskModel" "secondOf" "[I" ∈ pm_tbl := List.mem_filter.mpr ⟨List.mem_of_getElem? (i := 723) (by decide +kernel), by decide +kernel⟩
theorem kl_X10_38 : Cond.fieldLink RX10 38 "IndependenceDeskModel" "deep" "[I" ∈ pm_tbl := List.mem_filter.mpr ⟨List.mem_of_getElem? (i := 724) (by decide +kernel), by decide +kernel⟩
theorem kl_X10_41 : Cond.fieldLink RX10 41 "IndependenceDeskModel" "broken" "[I" ∈ pm_tbl := List.mem_filter.mpr ⟨List.mem_of_getElem? (i := 725) (by decide +kernel), by decide +kernel⟩
theorem kl_X10_44 : Cond.fieldLink RX10 44 "IndependenceDeskModel" "ends" "[I" ∈ pm_tbl := List.mem_filter.mpr ⟨List.mem_of_getElem? (i := 726) (by decide +kernel), by decide +kernel⟩
theorem kl_X10_47 : Cond.fieldLink RX10 47 "IndependenceDeskModel" "widths" "[I" ∈ pm_tbl := List.mem_filter.mpr ⟨List.mem_of_getElem? (i := 727) (by decide +kernel), by decide +kernel⟩
theorem kl_X10_50 : Cond.fieldLink RX10 50 "IndependenceDeskModel" "numbers" "[J" ∈ pm_tbl := List.mem_filter.mpr ⟨List.mem_of_getElem? (i := 728) (by decide +kernel), by decide +kernel⟩
theorem kl_X10_54 : Cond.fieldLink RX10 54 "IndependenceDeskModel" "taken" "[J" ∈ pm_tbl := List.mem_filter.mpr ⟨List.mem_of_getElem? (i := 729) (by decide +kernel), by decide +kernel⟩
theorem kl_X10_122 : Cond.fieldLink RX10 122 "IndependenceDeskModel" "slot" "I" ∈ pm_tbl := List.mem_filter.mpr ⟨List.mem_of_getElem? (i := 730) (by decide +kernel), by decide +kernel⟩
theorem kl_X10_119 : Cond.fieldLink RX10 119 "IndependenceDeskModel" "read" "I" ∈ pm_tbl := List.mem_filter.mpr ⟨List.mem_of_getElem? (i := 731) (by decide +kernel), by decide +kernel⟩
theorem kl_X10_116 : Cond.fieldLink RX10 116 "IndependenceDeskModel" "status" "I" ∈ pm_tbl := List.mem_filter.mpr ⟨List.mem_of_getElem? (i := 732) (by decide +kernel), by decide +kernel⟩
theorem kl_X10_57 : Cond.fieldLink RX10 57 "IndependenceDeskModel" "told" "[I" ∈ pm_tbl := List.mem_filter.mpr ⟨List.mem_of_getElem? (i := 733) (by decide +kernel), by decide +kernel⟩
theorem kl_X10_60 : Cond.fieldLink RX10 60 "IndependenceDeskModel" "bounds" "[I" ∈ pm_tbl := List.mem_filter.mpr ⟨List.mem_of_getElem? (i := 734) (by decide +kernel), by decide +kernel⟩
theorem kl_X10_63 : Cond.fieldLink RX10 63 "IndependenceDeskModel" "group" "[I" ∈ pm_tbl := List.mem_filter.mpr ⟨List.mem_of_getElem? (i := 735) (by decide +kernel), by decide +kernel⟩
theorem kl_X10_66 : Cond.fieldLink RX10 66 "IndependenceDeskModel" "cells" "[I" ∈ pm_tbl := List.mem_filter.mpr ⟨List.mem_of_getElem? (i := 736) (by decide +kernel), by decide +kernel⟩
theorem kl_X10_69 : Cond.fieldLink RX10 69 "IndependenceDeskModel" "work" "[I" ∈ pm_tbl := List.mem_filter.mpr ⟨List.mem_of_getElem? (i := 737) (by decide +kernel), by decide +kernel⟩
theorem kl_X10_72 : Cond.fieldLink RX10 72 "IndependenceDeskModel" "few" "[B" ∈ pm_tbl := List.mem_filter.mpr ⟨List.mem_of_getElem? (i := 738) (by decide +kernel), by decide +kernel⟩
theorem kl_X10_75 : Cond.fieldLink RX10 75 "IndependenceDeskModel" "deal" "[I" ∈ pm_tbl := List.mem_filter.mpr ⟨List.mem_of_getElem? (i := 739) (by decide +kernel), by decide +kernel⟩
theorem kl_X10_78 : Cond.fieldLink RX10 78 "IndependenceDeskModel" "heap" "[I" ∈ pm_tbl := List.mem_filter.mpr ⟨List.mem_of_getElem? (i := 740) (by decide +kernel), by decide +kernel⟩
theorem kl_L_17 : Cond.methodLink RL 17 yX10_fresh ∈ pm_tbl := List.mem_filter.mpr ⟨List.mem_of_getElem? (i := 795) (by decide +kernel), by decide +kernel⟩
theorem kl_L_22 : Cond.methodLink RL 22 yX10_weight ∈ pm_tbl := List.mem_filter.mpr ⟨List.mem_of_getElem? (i := 799) (by decide +kernel), by decide +kernel⟩
theorem kl_X10_88 : Cond.methodLink RX10 88 yX10_isThing ∈ pm_tbl := List.mem_filter.mpr ⟨List.mem_of_getElem? (i := 803) (by decide +kernel), by decide +kernel⟩
theorem kl_X10_92 : Cond.constant RX10 92 (1000000) ∈ pm_tbl := List.mem_filter.mpr ⟨List.mem_of_getElem? (i := 807) (by decide +kernel), by decide +kernel⟩
theorem kl_L_27 : Cond.methodLink RL 27 yX10_row ∈ pm_tbl := List.mem_filter.mpr ⟨List.mem_of_getElem? (i := 808) (by decide +kernel), by decide +kernel⟩
theorem kl_X10_93 : Cond.methodLink RX10 93 yX10_isSlot ∈ pm_tbl := List.mem_filter.mpr ⟨List.mem_of_getElem? (i := 812) (by decide +kernel), by decide +kernel⟩
theorem kl_L_31 : Cond.methodLink RL 31 yX10_tear ∈ pm_tbl := List.mem_filter.mpr ⟨List.mem_of_getElem? (i := 815) (by decide +kernel), by decide +kernel⟩
theorem kl_L_38 : Cond.methodLink RL 38 yX10_write ∈ pm_tbl := List.mem_filter.mpr ⟨List.mem_of_getElem? (i := 819) (by decide +kernel), by decide +kernel⟩
theorem kl_X10_96 : Cond.methodLink RX10 96 yX10_wrong ∈ pm_tbl := List.mem_filter.mpr ⟨List.mem_of_getElem? (i := 823) (by decide +kernel), by decide +kernel⟩
theorem kl_L_43 : Cond.methodLink RL 43 yX10_read ∈ pm_tbl := List.mem_filter.mpr ⟨List.mem_of_getElem? (i := 827) (by decide +kernel), by decide +kernel⟩
theorem kl_L_48 : Cond.methodLink RL 48 yX10_copy ∈ pm_tbl := List.mem_filter.mpr ⟨List.mem_of_getElem? (i := 831) (by decide +kernel), by decide +kernel⟩
theorem kl_L_52 : Cond.methodLink RL 52 yX10_rule ∈ pm_tbl := List.mem_filter.mpr ⟨List.mem_of_getElem? (i := 835) (by decide +kernel), by decide +kernel⟩
theorem kl_X10_125 : Cond.methodLink RX10 125 yX10_readsTold ∈ pm_tbl := List.mem_filter.mpr ⟨List.mem_of_getElem? (i := 839) (by decide +kernel), by decide +kernel⟩
theorem kl_X10_150 : Cond.constantLong RX10 150 (150) ∈ pm_tbl := List.mem_filter.mpr ⟨List.mem_of_getElem? (i := 843) (by decide +kernel), by decide +kernel⟩
theorem kl_X10_152 : Cond.methodLink RX10 152 yX10_next ∈ pm_tbl := List.mem_filter.mpr ⟨List.mem_of_getElem? (i := 844) (by decide +kernel), by decide +kernel⟩
theorem kl_X10_156 : Cond.methodLink RX10 156 yX10_allow ∈ pm_tbl := List.mem_filter.mpr ⟨List.mem_of_getElem? (i := 848) (by decide +kernel), by decide +kernel⟩
theorem kl_X10_159 : Cond.methodLink RX10 159 yX10_breaks_ ∈ pm_tbl := List.mem_filter.mpr ⟨List.mem_of_getElem? (i := 852) (by decide +kernel), by decide +kernel⟩
theorem kl_X10_100 : Cond.methodLink RX10 100 yX10_isAllowed ∈ pm_tbl := List.mem_filter.mpr ⟨List.mem_of_getElem? (i := 856) (by decide +kernel), by decide +kernel⟩
theorem kl_X10_163 : Cond.methodLink RX10 163 yX10_breaks ∈ pm_tbl := List.mem_filter.mpr ⟨List.mem_of_getElem? (i := 860) (by decide +kernel), by decide +kernel⟩
theorem kl_X10_104 : Cond.methodLink RX10 104 yX10_bitsOf ∈ pm_tbl := List.mem_filter.mpr ⟨List.mem_of_getElem? (i := 864) (by decide +kernel), by decide +kernel⟩
theorem kl_X10_128 : Cond.methodLink RX10 128 yX10_readsEven ∈ pm_tbl := List.mem_filter.mpr ⟨List.mem_of_getElem? (i := 867) (by decide +kernel), by decide +kernel⟩
theorem kl_X10_166 : Cond.constantLong RX10 166 (12) ∈ pm_tbl := List.mem_filter.mpr ⟨List.mem_of_getElem? (i := 871) (by decide +kernel), by decide +kernel⟩
theorem kl_X10_131 : Cond.methodLink RX10 131 yX10_readsParts ∈ pm_tbl := List.mem_filter.mpr ⟨List.mem_of_getElem? (i := 872) (by decide +kernel), by decide +kernel⟩
theorem kl_X10_168 : Cond.constantLong RX10 168 (11) ∈ pm_tbl := List.mem_filter.mpr ⟨List.mem_of_getElem? (i := 876) (by decide +kernel), by decide +kernel⟩
theorem kl_X10_111 : Cond.methodLink RX10 111 yJ9_max_7cf53 ∈ pm_tbl := List.mem_filter.mpr ⟨List.mem_of_getElem? (i := 877) (by decide +kernel), by decide +kernel⟩
theorem kl_X10_134 : Cond.methodLink RX10 134 yX10_readsNested ∈ pm_tbl := List.mem_filter.mpr ⟨List.mem_of_getElem? (i := 878) (by decide +kernel), by decide +kernel⟩
theorem kl_X10_170 : Cond.constantLong RX10 170 (40) ∈ pm_tbl := List.mem_filter.mpr ⟨List.mem_of_getElem? (i := 882) (by decide +kernel), by decide +kernel⟩
theorem kl_X10_137 : Cond.methodLink RX10 137 yX10_readsEdges ∈ pm_tbl := List.mem_filter.mpr ⟨List.mem_of_getElem? (i := 883) (by decide +kernel), by decide +kernel⟩
theorem kl_X10_172 : Cond.constantLong RX10 172 (15) ∈ pm_tbl := List.mem_filter.mpr ⟨List.mem_of_getElem? (i := 887) (by decide +kernel), by decide +kernel⟩
theorem kl_X10_140 : Cond.methodLink RX10 140 yX10_readsRows ∈ pm_tbl := List.mem_filter.mpr ⟨List.mem_of_getElem? (i := 888) (by decide +kernel), by decide +kernel⟩
theorem kl_X10_174 : Cond.constantLong RX10 174 (2) ∈ pm_tbl := List.mem_filter.mpr ⟨List.mem_of_getElem? (i := 892) (by decide +kernel), by decide +kernel⟩
theorem kl_X10_176 : Cond.constantLong RX10 176 (7) ∈ pm_tbl := List.mem_filter.mpr ⟨List.mem_of_getElem? (i := 893) (by decide +kernel), by decide +kernel⟩
theorem kl_X10_178 : Cond.constantLong RX10 178 (6) ∈ pm_tbl := List.mem_filter.mpr ⟨List.mem_of_getElem? (i := 894) (by decide +kernel), by decide +kernel⟩
theorem kl_X10_180 : Cond.methodLink RX10 180 yX10_isFree ∈ pm_tbl := List.mem_filter.mpr ⟨List.mem_of_getElem? (i := 895) (by decide +kernel), by decide +kernel⟩
theorem kl_X10_183 : Cond.methodLink RX10 183 yX10_lead ∈ pm_tbl := List.mem_filter.mpr ⟨List.mem_of_getElem? (i := 899) (by decide +kernel), by decide +kernel⟩
theorem kl_X10_186 : Cond.methodLink RX10 186 yJ9_floorMod_7cf53 ∈ pm_tbl := List.mem_filter.mpr ⟨List.mem_of_getElem? (i := 903) (by decide +kernel), by decide +kernel⟩
theorem kl_X10_143 : Cond.methodLink RX10 143 yX10_readsPlaces ∈ pm_tbl := List.mem_filter.mpr ⟨List.mem_of_getElem? (i := 906) (by decide +kernel), by decide +kernel⟩
theorem kl_X10_189 : Cond.constantLong RX10 189 (4095) ∈ pm_tbl := List.mem_filter.mpr ⟨List.mem_of_getElem? (i := 910) (by decide +kernel), by decide +kernel⟩
theorem kl_X10_146 : Cond.methodLink RX10 146 yX10_made ∈ pm_tbl := List.mem_filter.mpr ⟨List.mem_of_getElem? (i := 911) (by decide +kernel), by decide +kernel⟩
theorem kl_X10_108 : Cond.methodLink RX10 108 yX10_rankOf ∈ pm_tbl := List.mem_filter.mpr ⟨List.mem_of_getElem? (i := 915) (by decide +kernel), by decide +kernel⟩
theorem kl_L_56 : Cond.methodLink RL 56 yX10_less ∈ pm_tbl := List.mem_filter.mpr ⟨List.mem_of_getElem? (i := 919) (by decide +kernel), by decide +kernel⟩
theorem kl_X10_197 : Cond.methodLink RX10 197 yX10_refused ∈ pm_tbl := List.mem_filter.mpr ⟨List.mem_of_getElem? (i := 923) (by decide +kernel), by decide +kernel⟩
theorem kl_X10_191 : Cond.methodLink RX10 191 yX10_isRule ∈ pm_tbl := List.mem_filter.mpr ⟨List.mem_of_getElem? (i := 927) (by decide +kernel), by decide +kernel⟩
theorem kl_X10_194 : Cond.methodLink RX10 194 yX10_isSet ∈ pm_tbl := List.mem_filter.mpr ⟨List.mem_of_getElem? (i := 931) (by decide +kernel), by decide +kernel⟩
theorem kl_X10_200 : Cond.methodLink RX10 200 yX10_table ∈ pm_tbl := List.mem_filter.mpr ⟨List.mem_of_getElem? (i := 935) (by decide +kernel), by decide +kernel⟩
theorem kl_L_60 : Cond.methodLink RL 60 yX10_take ∈ pm_tbl := List.mem_filter.mpr ⟨List.mem_of_getElem? (i := 939) (by decide +kernel), by decide +kernel⟩
theorem kl_L_65 : Cond.methodLink RL 65 yX10_turn ∈ pm_tbl := List.mem_filter.mpr ⟨List.mem_of_getElem? (i := 943) (by decide +kernel), by decide +kernel⟩
theorem kl_L_69 : Cond.methodLink RL 69 yX10_join ∈ pm_tbl := List.mem_filter.mpr ⟨List.mem_of_getElem? (i := 947) (by decide +kernel), by decide +kernel⟩
theorem kl_L_73 : Cond.methodLink RL 73 yX10_broken ∈ pm_tbl := List.mem_filter.mpr ⟨List.mem_of_getElem? (i := 951) (by decide +kernel), by decide +kernel⟩
theorem kl_L_77 : Cond.methodLink RL 77 yX10_look ∈ pm_tbl := List.mem_filter.mpr ⟨List.mem_of_getElem? (i := 955) (by decide +kernel), by decide +kernel⟩
theorem kl_L_81 : Cond.methodLink RL 81 yX10_allows ∈ pm_tbl := List.mem_filter.mpr ⟨List.mem_of_getElem? (i := 959) (by decide +kernel), by decide +kernel⟩
theorem kl_L_85 : Cond.methodLink RL 85 yX10_rank ∈ pm_tbl := List.mem_filter.mpr ⟨List.mem_of_getElem? (i := 963) (by decide +kernel), by decide +kernel⟩
theorem kl_L_89 : Cond.methodLink RL 89 yX10_span ∈ pm_tbl := List.mem_filter.mpr ⟨List.mem_of_getElem? (i := 967) (by decide +kernel), by decide +kernel⟩
theorem kl_L_93 : Cond.methodLink RL 93 yX10_ring ∈ pm_tbl := List.mem_filter.mpr ⟨List.mem_of_getElem? (i := 971) (by decide +kernel), by decide +kernel⟩
theorem kl_L_97 : Cond.methodLink RL 97 yX10_exchange ∈ pm_tbl := List.mem_filter.mpr ⟨List.mem_of_getElem? (i := 975) (by decide +kernel), by decide +kernel⟩
theorem kl_L_102 : Cond.methodLink RL 102 yX10_full ∈ pm_tbl := List.mem_filter.mpr ⟨List.mem_of_getElem? (i := 979) (by decide +kernel), by decide +kernel⟩
theorem kl_X10_207 : Cond.methodLink RX10 207 yX10_isFull ∈ pm_tbl := List.mem_filter.mpr ⟨List.mem_of_getElem? (i := 983) (by decide +kernel), by decide +kernel⟩
theorem kl_X10_210 : Cond.methodLink RX10 210 yX10_isBetter ∈ pm_tbl := List.mem_filter.mpr ⟨List.mem_of_getElem? (i := 987) (by decide +kernel), by decide +kernel⟩
theorem kl_X10_204 : Cond.methodLink RX10 204 yX10_weightOf ∈ pm_tbl := List.mem_filter.mpr ⟨List.mem_of_getElem? (i := 991) (by decide +kernel), by decide +kernel⟩
theorem kl_L_106 : Cond.methodLink RL 106 yX10_both ∈ pm_tbl := List.mem_filter.mpr ⟨List.mem_of_getElem? (i := 995) (by decide +kernel), by decide +kernel⟩
theorem kl_L_110 : Cond.methodLink RL 110 yX10_split ∈ pm_tbl := List.mem_filter.mpr ⟨List.mem_of_getElem? (i := 999) (by decide +kernel), by decide +kernel⟩
theorem kl_X10_214 : Cond.methodLink RX10 214 yX10_both ∈ pm_tbl := List.mem_filter.mpr ⟨List.mem_of_getElem? (i := 1003) (by decide +kernel), by decide +kernel⟩
theorem kl_L_114 : Cond.methodLink RL 114 yX10_most ∈ pm_tbl := List.mem_filter.mpr ⟨List.mem_of_getElem? (i := 1004) (by decide +kernel), by decide +kernel⟩
theorem kl_L_118 : Cond.methodLink RL 118 yX10_three ∈ pm_tbl := List.mem_filter.mpr ⟨List.mem_of_getElem? (i := 1008) (by decide +kernel), by decide +kernel⟩
theorem kl_L_122 : Cond.methodLink RL 122 yX10_fewest ∈ pm_tbl := List.mem_filter.mpr ⟨List.mem_of_getElem? (i := 1012) (by decide +kernel), by decide +kernel⟩
theorem kl_X10_220 : Cond.methodLink RX10 220 yX10_undealt ∈ pm_tbl := List.mem_filter.mpr ⟨List.mem_of_getElem? (i := 1016) (by decide +kernel), by decide +kernel⟩
theorem kl_X10_223 : Cond.methodLink RX10 223 yX10_fewestOf ∈ pm_tbl := List.mem_filter.mpr ⟨List.mem_of_getElem? (i := 1020) (by decide +kernel), by decide +kernel⟩
theorem kl_X10_217 : Cond.methodLink RX10 217 yJ9_min_7cf53 ∈ pm_tbl := List.mem_filter.mpr ⟨List.mem_of_getElem? (i := 1024) (by decide +kernel), by decide +kernel⟩
theorem kl_L_126 : Cond.methodLink RL 126 yX10_dealt ∈ pm_tbl := List.mem_filter.mpr ⟨List.mem_of_getElem? (i := 1025) (by decide +kernel), by decide +kernel⟩
theorem kl_X10_226 : Cond.methodLink RX10 226 yX10_deals ∈ pm_tbl := List.mem_filter.mpr ⟨List.mem_of_getElem? (i := 1029) (by decide +kernel), by decide +kernel⟩
theorem kl_L_130 : Cond.methodLink RL 130 yX10_crowd ∈ pm_tbl := List.mem_filter.mpr ⟨List.mem_of_getElem? (i := 1033) (by decide +kernel), by decide +kernel⟩
theorem kl_L_134 : Cond.methodLink RL 134 yX10_pack ∈ pm_tbl := List.mem_filter.mpr ⟨List.mem_of_getElem? (i := 1037) (by decide +kernel), by decide +kernel⟩
theorem kl_L_138 : Cond.methodLink RL 138 yX10_same ∈ pm_tbl := List.mem_filter.mpr ⟨List.mem_of_getElem? (i := 1041) (by decide +kernel), by decide +kernel⟩
theorem kl_L_142 : Cond.methodLink RL 142 yX10_count ∈ pm_tbl := List.mem_filter.mpr ⟨List.mem_of_getElem? (i := 1045) (by decide +kernel), by decide +kernel⟩
theorem kl_L_32 : Cond.constantLong RL 32 (4294967295) ∈ pm_tbl := List.mem_filter.mpr ⟨List.mem_of_getElem? (i := 1049) (by decide +kernel), by decide +kernel⟩
theorem ko_init : Cond.instanceMethod Lib.objectInit ∈ pm_tbl := List.mem_filter.mpr ⟨by decide +kernel, by decide +kernel⟩
theorem ko_code : Cond.code Lib.objectInit ⟨#[0xb1]⟩ 1 none ∈ pm_tbl := List.mem_filter.mpr ⟨by decide +kernel, by decide +kernel⟩
theorem ka_nat : Cond.native arraycopyName ∈ pm_tbl := List.mem_filter.mpr ⟨by decide +kernel, by decide +kernel⟩
theorem ka_st : Cond.static arraycopyName ∈ pm_tbl := List.mem_filter.mpr ⟨by decide +kernel, by decide +kernel⟩
theorem ka_ini : Cond.initialized "java/lang/System" ∈ pm_tbl := List.mem_filter.mpr ⟨by decide +kernel, by decide +kernel⟩
theorem kA_byte : Cond.arrayClass .byte ∈ pm_tbl := List.mem_filter.mpr ⟨by decide +kernel, by decide +kernel⟩
theorem kA_int : Cond.arrayClass .int ∈ pm_tbl := List.mem_filter.mpr ⟨by decide +kernel, by decide +kernel⟩
theorem kA_long : Cond.arrayClass .long ∈ pm_tbl := List.mem_filter.mpr ⟨by decide +kernel, by decide +kernel⟩
theorem kA_boolean : Cond.arrayClass .boolean ∈ pm_tbl := List.mem_filter.mpr ⟨by decide +kernel, by decide +kernel⟩
theorem kf_X0 : Cond.selects RX0 yX1_fits yX0_fits ∈ pm_tbl := List.mem_filter.mpr ⟨by decide +kernel, by decide +kernel⟩
theorem kf_X2 : Cond.selects RX2 yX1_fits yX2_fits ∈ pm_tbl := List.mem_filter.mpr ⟨by decide +kernel, by decide +kernel⟩
theorem kf_X3 : Cond.selects RX3 yX1_fits yX3_fits ∈ pm_tbl := List.mem_filter.mpr ⟨by decide +kernel, by decide +kernel⟩
theorem kf_X7 : Cond.selects RX7 yX1_fits yX7_fits ∈ pm_tbl := List.mem_filter.mpr ⟨by decide +kernel, by decide +kernel⟩
theorem kf_X8 : Cond.selects RX8 yX1_fits yX8_fits ∈ pm_tbl := List.mem_filter.mpr ⟨by decide +kernel, by decide +kernel⟩
