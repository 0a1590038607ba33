/-! words of methods, fields, calls -/
theorem e_memtN {w : Cond} (h : w ∈ lw_tbl) (hg : e_isN w = true) : w ∈ e_nest := List.mem_filter.mpr ⟨h, hg⟩
theorem e_memt {w : Cond} (h : w ∈ lw_tbl) (hg : goodWord w = true) : w ∈ e_gd := List.mem_filter.mpr ⟨h, hg⟩
theorem lay0 : e_Lay (e_R0, e_T0, 7) 0 := ⟨e_mems [906, 908, 910, 912, 914, 916, 918] (by decide +kernel) (by decide +kernel), ⟨e_ty0, e_ty0_ok, by decide +kernel⟩, e_nm0⟩
theorem lay1 : e_Lay (e_R1, e_T1, 7) 1 := ⟨e_mems [937, 939, 941, 943, 945, 947, 949] (by decide +kernel) (by decide +kernel), ⟨e_ty1, e_ty1_ok, by decide +kernel⟩, e_nm1⟩
theorem lay2 : e_Lay (e_R2, e_T2, 19) 2 := ⟨e_mems [383, 385, 387, 389, 391, 393, 395, 397, 399, 401, 403, 405, 407, 409, 411, 413, 415, 417, 419] (by decide +kernel) (by decide +kernel), ⟨e_ty2, e_ty2_ok, by decide +kernel⟩, e_nm2⟩
theorem lay3 : e_Lay (e_R3, e_T3, 3) 3 := ⟨e_mems [618, 620, 622] (by decide +kernel) (by decide +kernel), ⟨e_ty3, e_ty3_ok, by decide +kernel⟩, e_nm3⟩
theorem lay4 : e_Lay (e_R4, e_T4, 9) 4 := ⟨e_mems [679, 681, 683, 685, 687, 689, 691, 693, 695] (by decide +kernel) (by decide +kernel), ⟨e_ty4, e_ty4_ok, by decide +kernel⟩, e_nm4⟩
theorem lay5 : e_Lay (e_R5, e_T5, 12) 5 := ⟨e_mems [871, 873, 875, 877, 879, 881, 883, 885, 887, 889, 891, 893] (by decide +kernel) (by decide +kernel), ⟨e_ty5, e_ty5_ok, by decide +kernel⟩, e_nm5⟩
theorem lay6 : e_Lay (e_R6, e_T6, 11) 6 := ⟨e_mems [557, 559, 561, 563, 565, 567, 569, 571, 573, 575, 577] (by decide +kernel) (by decide +kernel), ⟨e_ty6, e_ty6_ok, by decide +kernel⟩, e_nm6⟩
theorem lay7 : e_Lay (e_R7, e_T7, 12) 7 := ⟨e_mems [506, 508, 510, 512, 514, 516, 518, 520, 522, 524, 526, 528] (by decide +kernel) (by decide +kernel), ⟨e_ty7, e_ty7_ok, by decide +kernel⟩, e_nm7⟩
theorem lay8 : e_Lay (e_R8, e_T8, 2) 8 := ⟨e_mems [637, 639] (by decide +kernel) (by decide +kernel), ⟨e_ty8, e_ty8_ok, by decide +kernel⟩, e_nm8⟩
theorem lay9 : e_Lay (e_R9, e_T9, 14) 9 := ⟨e_mems [753, 755, 757, 759, 761, 763, 765, 767, 769, 771, 773, 775, 777, 779] (by decide +kernel) (by decide +kernel), ⟨e_ty9, e_ty9_ok, by decide +kernel⟩, e_nm9⟩
theorem lay10 : e_Lay (e_R10, e_T10, 15) 10 := ⟨e_mems [811, 813, 815, 817, 819, 821, 823, 825, 827, 829, 831, 833, 835, 837, 839] (by decide +kernel) (by decide +kernel), ⟨e_ty10, e_ty10_ok, by decide +kernel⟩, e_nm10⟩
theorem lay11 : e_Lay (e_R11, e_T11, 15) 11 := ⟨e_mems [967, 969, 971, 973, 975, 977, 979, 981, 983, 985, 987, 989, 991, 993, 995] (by decide +kernel) (by decide +kernel), ⟨e_ty11, e_ty11_ok, by decide +kernel⟩, e_nm11⟩
theorem lay12 : e_Lay (e_R12, e_T12, 123) 12 := ⟨e_mems [2259, 2261, 2263, 2265, 2267, 2269, 2271, 2273, 2275, 2277, 2279, 2281, 2283, 2285, 2287, 2289, 2291, 2293, 2295, 2297, 2299, 2301, 2303, 2305, 2307, 2309, 2311, 2313, 2315, 2317, 2319, 2321, 2323, 2325, 2327, 2329, 2331, 2333, 2335, 2337, 2339, 2341, 2343, 2345, 2347, 2349, 2351, 2353, 2355, 2357, 2359, 2361, 2363, 2365, 2367, 2369, 2371, 2373, 2375, 2377, 2379, 2381, 2383, 2385, 2387, 2389, 2391, 2393, 2395, 2397, 2399, 2401, 2403, 2405, 2407, 2409, 2411, 2413, 2415, 2417, 2419, 2421, 2423, 2425, 2427, 2429, 2431, 2433, 2435, 2437, 2439, 2441, 2443, 2445, 2447, 2449, 2451, 2453, 2455, 2457, 2459, 2461, 2463, 2465, 2467, 2469, 2471, 2473, 2475, 2477, 2479, 2481, 2483, 2485, 2487, 2489, 2491, 2493, 2495, 2497, 2499, 2501, 2503] (by decide +kernel) (by decide +kernel), ⟨e_ty12, e_ty12_ok, by decide +kernel⟩, e_nm12⟩
theorem awI : Cond.arrayClass .int ∈ e_gd := e_memt t424 rfl
theorem awJ : Cond.arrayClass .long ∈ e_gd := e_memt t423 rfl
theorem awB : Cond.arrayClass .byte ∈ e_gd := e_memt t422 rfl
theorem awZ : Cond.arrayClass .boolean ∈ e_gd := e_memt t896 rfl
theorem ow1 : Cond.instanceMethod Lib.objectInit ∈ e_gd := e_memt t313 rfl
theorem ow2 : Cond.code Lib.objectInit ⟨#[0xb1]⟩ 1 none ∈ e_gd := e_memt t314 rfl
theorem mwX0_init : e_MW YX0_init 2 := ⟨e_memt t846 rfl, e_memt t297 rfl, by decide, ⟨by decide, by decide⟩, by decide +kernel⟩
theorem iwX0_init : Cond.instanceMethod (⟨"LandHouse$Acts", "<init>", "(LLandHouse$World;LLandHouse$Deed;)V"⟩ : MethodName) ∈ e_gd := e_memt t845 rfl
theorem mwX0_perform : e_MW YX0_perform 3 := ⟨e_memt t1273 rfl, e_memt t297 rfl, by decide, ⟨by decide, by decide⟩, by decide +kernel⟩
theorem iwX0_perform : Cond.instanceMethod (⟨"LandHouse$Acts", "perform", "(LLandHouse$World;LLandHouse$Deed;I)I"⟩ : MethodName) ∈ e_gd := e_memt t1271 rfl
theorem vwX0_perform : e_VW YX0_perform 0 := ⟨iwX0_perform, e_memt t1272 rfl, rfl⟩
theorem mwX0_findNames : e_MW YX0_findNames 0 := ⟨e_memt t1277 rfl, e_memt t297 rfl, by decide, ⟨by decide, by decide⟩, by decide +kernel⟩
theorem iwX0_findNames : Cond.instanceMethod (⟨"LandHouse$Acts", "findNames", "()Z"⟩ : MethodName) ∈ e_gd := e_memt t1276 rfl
theorem vwX0_findNames : e_VW YX0_findNames 0 := ⟨iwX0_findNames, e_mem (i := 24) (by decide +kernel) rfl, rfl⟩
theorem mwX0_fits : e_MW YX0_fits 3 := ⟨e_memt t1289 rfl, e_memt t297 rfl, by decide, ⟨by decide, by decide⟩, by decide +kernel⟩
theorem iwX0_fits : Cond.instanceMethod (⟨"LandHouse$Acts", "fits", "(III)Z"⟩ : MethodName) ∈ e_gd := e_memt t1288 rfl
theorem vwX0_fits : e_VW YX0_fits 0 := ⟨iwX0_fits, e_mem (i := 25) (by decide +kernel) rfl, rfl⟩
theorem mwX0_areOwnersAble : e_MW YX0_areOwnersAble 1 := ⟨e_memt t1408 rfl, e_memt t297 rfl, by decide, ⟨by decide, by decide⟩, by decide +kernel⟩
theorem iwX0_areOwnersAble : Cond.instanceMethod (⟨"LandHouse$Acts", "areOwnersAble", "(I)Z"⟩ : MethodName) ∈ e_gd := e_memt t1407 rfl
theorem vwX0_areOwnersAble : e_VW YX0_areOwnersAble 0 := ⟨iwX0_areOwnersAble, e_mem (i := 39) (by decide +kernel) rfl, rfl⟩
theorem mwX0_isBarred : e_MW YX0_isBarred 2 := ⟨e_memt t1380 rfl, e_memt t297 rfl, by decide, ⟨by decide, by decide⟩, by decide +kernel⟩
theorem iwX0_isBarred : Cond.instanceMethod (⟨"LandHouse$Acts", "isBarred", "(II)Z"⟩ : MethodName) ∈ e_gd := e_memt t1379 rfl
theorem vwX0_isBarred : e_VW YX0_isBarred 0 := ⟨iwX0_isBarred, e_mem (i := 36) (by decide +kernel) rfl, rfl⟩
theorem mwX0_makePerson : e_MW YX0_makePerson 0 := ⟨e_memt t1302 rfl, e_memt t297 rfl, by decide, ⟨by decide, by decide⟩, by decide +kernel⟩
theorem iwX0_makePerson : Cond.instanceMethod (⟨"LandHouse$Acts", "makePerson", "()I"⟩ : MethodName) ∈ e_gd := e_memt t1301 rfl
theorem vwX0_makePerson : e_VW YX0_makePerson 0 := ⟨iwX0_makePerson, e_mem (i := 26) (by decide +kernel) rfl, rfl⟩
theorem mwX0_makeFirm : e_MW YX0_makeFirm 0 := ⟨e_memt t1317 rfl, e_memt t297 rfl, by decide, ⟨by decide, by decide⟩, by decide +kernel⟩
theorem iwX0_makeFirm : Cond.instanceMethod (⟨"LandHouse$Acts", "makeFirm", "()I"⟩ : MethodName) ∈ e_gd := e_memt t1316 rfl
theorem vwX0_makeFirm : e_VW YX0_makeFirm 0 := ⟨iwX0_makeFirm, e_mem (i := 28) (by decide +kernel) rfl, rfl⟩
theorem mwX0_guard : e_MW YX0_guard 0 := ⟨e_memt t1325 rfl, e_memt t297 rfl, by decide, ⟨by decide, by decide⟩, by decide +kernel⟩
theorem iwX0_guard : Cond.instanceMethod (⟨"LandHouse$Acts", "guard", "()I"⟩ : MethodName) ∈ e_gd := e_memt t1324 rfl
theorem vwX0_guard : e_VW YX0_guard 0 := ⟨iwX0_guard, e_mem (i := 29) (by decide +kernel) rfl, rfl⟩
theorem mwX0_arePartsMixed : e_MW YX0_arePartsMixed 2 := ⟨e_memt t1333 rfl, e_memt t297 rfl, by decide, ⟨by decide, by decide⟩, by decide +kernel⟩
theorem iwX0_arePartsMixed : Cond.instanceMethod (⟨"LandHouse$Acts", "arePartsMixed", "(II)Z"⟩ : MethodName) ∈ e_gd := e_memt t1332 rfl
theorem vwX0_arePartsMixed : e_VW YX0_arePartsMixed 0 := ⟨iwX0_arePartsMixed, e_mem (i := 31) (by decide +kernel) rfl, rfl⟩
theorem mwX0_die : e_MW YX0_die 0 := ⟨e_memt t1329 rfl, e_memt t297 rfl, by decide, ⟨by decide, by decide⟩, by decide +kernel⟩
theorem iwX0_die : Cond.instanceMethod (⟨"LandHouse$Acts", "die", "()I"⟩ : MethodName) ∈ e_gd := e_memt t1328 rfl
theorem vwX0_die : e_VW YX0_die 0 := ⟨iwX0_die, e_mem (i := 30) (by decide +kernel) rfl, rfl⟩
theorem mwX0_draftHeirs : e_MW YX0_draftHeirs 2 := ⟨e_memt t1342 rfl, e_memt t297 rfl, by decide, ⟨by decide, by decide⟩, by decide +kernel⟩
theorem iwX0_draftHeirs : Cond.instanceMethod (⟨"LandHouse$Acts", "draftHeirs", "(II)Z"⟩ : MethodName) ∈ e_gd := e_memt t1341 rfl
theorem vwX0_draftHeirs : e_VW YX0_draftHeirs 0 := ⟨iwX0_draftHeirs, e_mem (i := 32) (by decide +kernel) rfl, rfl⟩
theorem mwX0_endRightsOf : e_MW YX0_endRightsOf 2 := ⟨e_memt t1362 rfl, e_memt t297 rfl, by decide, ⟨by decide, by decide⟩, by decide +kernel⟩
theorem iwX0_endRightsOf : Cond.instanceMethod (⟨"LandHouse$Acts", "endRightsOf", "(II)V"⟩ : MethodName) ∈ e_gd := e_memt t1361 rfl
theorem vwX0_endRightsOf : e_VW YX0_endRightsOf 0 := ⟨iwX0_endRightsOf, e_mem (i := 33) (by decide +kernel) rfl, rfl⟩
theorem mwX0_closeFirm : e_MW YX0_closeFirm 0 := ⟨e_memt t1366 rfl, e_memt t297 rfl, by decide, ⟨by decide, by decide⟩, by decide +kernel⟩
theorem iwX0_closeFirm : Cond.instanceMethod (⟨"LandHouse$Acts", "closeFirm", "()I"⟩ : MethodName) ∈ e_gd := e_memt t1365 rfl
theorem vwX0_closeFirm : e_VW YX0_closeFirm 0 := ⟨iwX0_closeFirm, e_mem (i := 34) (by decide +kernel) rfl, rfl⟩
theorem mwX0_sell : e_MW YX0_sell 0 := ⟨e_memt t1371 rfl, e_memt t297 rfl, by decide, ⟨by decide, by decide⟩, by decide +kernel⟩
theorem iwX0_sell : Cond.instanceMethod (⟨"LandHouse$Acts", "sell", "()I"⟩ : MethodName) ∈ e_gd := e_memt t1370 rfl
theorem vwX0_sell : e_VW YX0_sell 0 := ⟨iwX0_sell, e_mem (i := 35) (by decide +kernel) rfl, rfl⟩
theorem mwX0_recordSale : e_MW YX0_recordSale 2 := ⟨e_memt t1392 rfl, e_memt t297 rfl, by decide, ⟨by decide, by decide⟩, by decide +kernel⟩
theorem iwX0_recordSale : Cond.instanceMethod (⟨"LandHouse$Acts", "recordSale", "(JJ)V"⟩ : MethodName) ∈ e_gd := e_memt t1391 rfl
theorem vwX0_recordSale : e_VW YX0_recordSale 0 := ⟨iwX0_recordSale, e_mem (i := 37) (by decide +kernel) rfl, rfl⟩
theorem mwX0_split : e_MW YX0_split 0 := ⟨e_memt t1404 rfl, e_memt t297 rfl, by decide, ⟨by decide, by decide⟩, by decide +kernel⟩
theorem iwX0_split : Cond.instanceMethod (⟨"LandHouse$Acts", "split", "()I"⟩ : MethodName) ∈ e_gd := e_memt t1403 rfl
theorem vwX0_split : e_VW YX0_split 0 := ⟨iwX0_split, e_mem (i := 38) (by decide +kernel) rfl, rfl⟩
theorem mwX0_partOver : e_MW YX0_partOver 5 := ⟨e_memt t1508 rfl, e_memt t297 rfl, by decide, ⟨by decide, by decide⟩, by decide +kernel⟩
theorem iwX0_partOver : Cond.instanceMethod (⟨"LandHouse$Acts", "partOver", "(LLandHouse$Row;LLandHouse$Deed;III)V"⟩ : MethodName) ∈ e_gd := e_memt t1507 rfl
theorem vwX0_partOver : e_VW YX0_partOver 0 := ⟨iwX0_partOver, e_mem (i := 47) (by decide +kernel) rfl, rfl⟩
theorem mwX0_isSplitTooMany : e_MW YX0_isSplitTooMany 1 := ⟨e_memt t1475 rfl, e_memt t297 rfl, by decide, ⟨by decide, by decide⟩, by decide +kernel⟩
theorem iwX0_isSplitTooMany : Cond.instanceMethod (⟨"LandHouse$Acts", "isSplitTooMany", "(I)Z"⟩ : MethodName) ∈ e_gd := e_memt t1474 rfl
theorem vwX0_isSplitTooMany : e_VW YX0_isSplitTooMany 0 := ⟨iwX0_isSplitTooMany, e_mem (i := 45) (by decide +kernel) rfl, rfl⟩
theorem mwX0_makeLot : e_MW YX0_makeLot 3 := ⟨e_memt t1484 rfl, e_memt t297 rfl, by decide, ⟨by decide, by decide⟩, by decide +kernel⟩
theorem iwX0_makeLot : Cond.instanceMethod (⟨"LandHouse$Acts", "makeLot", "(JLLandHouse$Lot;LLandHouse$Figure;)I"⟩ : MethodName) ∈ e_gd := e_memt t1483 rfl
theorem vwX0_makeLot : e_VW YX0_makeLot 0 := ⟨iwX0_makeLot, e_mem (i := 46) (by decide +kernel) rfl, rfl⟩
theorem mwX0_join : e_MW YX0_join 0 := ⟨e_memt t1512 rfl, e_memt t297 rfl, by decide, ⟨by decide, by decide⟩, by decide +kernel⟩
theorem iwX0_join : Cond.instanceMethod (⟨"LandHouse$Acts", "join", "()I"⟩ : MethodName) ∈ e_gd := e_memt t1511 rfl
theorem vwX0_join : e_VW YX0_join 0 := ⟨iwX0_join, e_mem (i := 48) (by decide +kernel) rfl, rfl⟩
theorem mwX0_areOnBoth : e_MW YX0_areOnBoth 3 := ⟨e_memt t1524 rfl, e_memt t297 rfl, by decide, ⟨by decide, by decide⟩, by decide +kernel⟩
theorem iwX0_areOnBoth : Cond.instanceMethod (⟨"LandHouse$Acts", "areOnBoth", "(III)Z"⟩ : MethodName) ∈ e_gd := e_memt t1523 rfl
theorem vwX0_areOnBoth : e_VW YX0_areOnBoth 0 := ⟨iwX0_areOnBoth, e_mem (i := 49) (by decide +kernel) rfl, rfl⟩
theorem mwX0_mergeRows : e_MW YX0_mergeRows 3 := ⟨e_memt t1551 rfl, e_memt t297 rfl, by decide, ⟨by decide, by decide⟩, by decide +kernel⟩
theorem iwX0_mergeRows : Cond.instanceMethod (⟨"LandHouse$Acts", "mergeRows", "(III)V"⟩ : MethodName) ∈ e_gd := e_memt t1550 rfl
theorem vwX0_mergeRows : e_VW YX0_mergeRows 0 := ⟨iwX0_mergeRows, e_mem (i := 54) (by decide +kernel) rfl, rfl⟩
theorem mwX0_moveBorder : e_MW YX0_moveBorder 0 := ⟨e_memt t1560 rfl, e_memt t297 rfl, by decide, ⟨by decide, by decide⟩, by decide +kernel⟩
theorem iwX0_moveBorder : Cond.instanceMethod (⟨"LandHouse$Acts", "moveBorder", "()I"⟩ : MethodName) ∈ e_gd := e_memt t1559 rfl
theorem vwX0_moveBorder : e_VW YX0_moveBorder 0 := ⟨iwX0_moveBorder, e_mem (i := 55) (by decide +kernel) rfl, rfl⟩
theorem mwX0_charge : e_MW YX0_charge 0 := ⟨e_memt t1564 rfl, e_memt t297 rfl, by decide, ⟨by decide, by decide⟩, by decide +kernel⟩
theorem iwX0_charge : Cond.instanceMethod (⟨"LandHouse$Acts", "charge", "()I"⟩ : MethodName) ∈ e_gd := e_memt t1563 rfl
theorem vwX0_charge : e_VW YX0_charge 0 := ⟨iwX0_charge, e_mem (i := 56) (by decide +kernel) rfl, rfl⟩
theorem mwX0_pay : e_MW YX0_pay 0 := ⟨e_memt t1568 rfl, e_memt t297 rfl, by decide, ⟨by decide, by decide⟩, by decide +kernel⟩
theorem iwX0_pay : Cond.instanceMethod (⟨"LandHouse$Acts", "pay", "()I"⟩ : MethodName) ∈ e_gd := e_memt t1567 rfl
theorem vwX0_pay : e_VW YX0_pay 0 := ⟨iwX0_pay, e_mem (i := 57) (by decide +kernel) rfl, rfl⟩
theorem mwX0_endCharge : e_MW YX0_endCharge 1 := ⟨e_memt t1572 rfl, e_memt t297 rfl, by decide, ⟨by decide, by decide⟩, by decide +kernel⟩
theorem iwX0_endCharge : Cond.instanceMethod (⟨"LandHouse$Acts", "endCharge", "(I)V"⟩ : MethodName) ∈ e_gd := e_memt t1571 rfl
theorem vwX0_endCharge : e_VW YX0_endCharge 0 := ⟨iwX0_endCharge, e_mem (i := 58) (by decide +kernel) rfl, rfl⟩
theorem mwX0_freeLot : e_MW YX0_freeLot 2 := ⟨e_memt t1595 rfl, e_memt t297 rfl, by decide, ⟨by decide, by decide⟩, by decide +kernel⟩
theorem iwX0_freeLot : Cond.instanceMethod (⟨"LandHouse$Acts", "freeLot", "(II)V"⟩ : MethodName) ∈ e_gd := e_memt t1594 rfl
theorem vwX0_freeLot : e_VW YX0_freeLot 0 := ⟨iwX0_freeLot, e_mem (i := 62) (by decide +kernel) rfl, rfl⟩
theorem mwX0_leaveLot : e_MW YX0_leaveLot 2 := ⟨e_memt t1599 rfl, e_memt t297 rfl, by decide, ⟨by decide, by decide⟩, by decide +kernel⟩
theorem iwX0_leaveLot : Cond.instanceMethod (⟨"LandHouse$Acts", "leaveLot", "(LLandHouse$Thing;I)V"⟩ : MethodName) ∈ e_gd := e_memt t1598 rfl
theorem vwX0_leaveLot : e_VW YX0_leaveLot 0 := ⟨iwX0_leaveLot, e_mem (i := 63) (by decide +kernel) rfl, rfl⟩
theorem mwX0_assign : e_MW YX0_assign 0 := ⟨e_memt t1581 rfl, e_memt t297 rfl, by decide, ⟨by decide, by decide⟩, by decide +kernel⟩
theorem iwX0_assign : Cond.instanceMethod (⟨"LandHouse$Acts", "assign", "()I"⟩ : MethodName) ∈ e_gd := e_memt t1580 rfl
theorem vwX0_assign : e_VW YX0_assign 0 := ⟨iwX0_assign, e_mem (i := 59) (by decide +kernel) rfl, rfl⟩
theorem mwX0_rank : e_MW YX0_rank 0 := ⟨e_memt t1585 rfl, e_memt t297 rfl, by decide, ⟨by decide, by decide⟩, by decide +kernel⟩
theorem iwX0_rank : Cond.instanceMethod (⟨"LandHouse$Acts", "rank", "()I"⟩ : MethodName) ∈ e_gd := e_memt t1584 rfl
theorem vwX0_rank : e_VW YX0_rank 0 := ⟨iwX0_rank, e_mem (i := 60) (by decide +kernel) rfl, rfl⟩
theorem mwX0_free : e_MW YX0_free 0 := ⟨e_memt t1591 rfl, e_memt t297 rfl, by decide, ⟨by decide, by decide⟩, by decide +kernel⟩
theorem iwX0_free : Cond.instanceMethod (⟨"LandHouse$Acts", "free", "()I"⟩ : MethodName) ∈ e_gd := e_memt t1590 rfl
theorem vwX0_free : e_VW YX0_free 0 := ⟨iwX0_free, e_mem (i := 61) (by decide +kernel) rfl, rfl⟩
theorem mwX0_auction : e_MW YX0_auction 0 := ⟨e_memt t1603 rfl, e_memt t297 rfl, by decide, ⟨by decide, by decide⟩, by decide +kernel⟩
theorem iwX0_auction : Cond.instanceMethod (⟨"LandHouse$Acts", "auction", "()I"⟩ : MethodName) ∈ e_gd := e_memt t1602 rfl
theorem vwX0_auction : e_VW YX0_auction 0 := ⟨iwX0_auction, e_mem (i := 64) (by decide +kernel) rfl, rfl⟩
theorem mwX0_clearLot : e_MW YX0_clearLot 2 := ⟨e_memt t1609 rfl, e_memt t297 rfl, by decide, ⟨by decide, by decide⟩, by decide +kernel⟩
theorem iwX0_clearLot : Cond.instanceMethod (⟨"LandHouse$Acts", "clearLot", "(II)V"⟩ : MethodName) ∈ e_gd := e_memt t1608 rfl
theorem vwX0_clearLot : e_VW YX0_clearLot 0 := ⟨iwX0_clearLot, e_mem (i := 65) (by decide +kernel) rfl, rfl⟩
theorem mwX0_serve : e_MW YX0_serve 0 := ⟨e_memt t1613 rfl, e_memt t297 rfl, by decide, ⟨by decide, by decide⟩, by decide +kernel⟩
theorem iwX0_serve : Cond.instanceMethod (⟨"LandHouse$Acts", "serve", "()I"⟩ : MethodName) ∈ e_gd := e_memt t1612 rfl
theorem vwX0_serve : e_VW YX0_serve 0 := ⟨iwX0_serve, e_mem (i := 66) (by decide +kernel) rfl, rfl⟩
theorem mwX0_waive : e_MW YX0_waive 0 := ⟨e_memt t1618 rfl, e_memt t297 rfl, by decide, ⟨by decide, by decide⟩, by decide +kernel⟩
theorem iwX0_waive : Cond.instanceMethod (⟨"LandHouse$Acts", "waive", "()I"⟩ : MethodName) ∈ e_gd := e_memt t1617 rfl
theorem vwX0_waive : e_VW YX0_waive 0 := ⟨iwX0_waive, e_mem (i := 67) (by decide +kernel) rfl, rfl⟩
theorem mwX0_lease : e_MW YX0_lease 0 := ⟨e_memt t1622 rfl, e_memt t297 rfl, by decide, ⟨by decide, by decide⟩, by decide +kernel⟩
theorem iwX0_lease : Cond.instanceMethod (⟨"LandHouse$Acts", "lease", "()I"⟩ : MethodName) ∈ e_gd := e_memt t1621 rfl
theorem vwX0_lease : e_VW YX0_lease 0 := ⟨iwX0_lease, e_mem (i := 68) (by decide +kernel) rfl, rfl⟩
theorem mwX0_caution : e_MW YX0_caution 0 := ⟨e_memt t1630 rfl, e_memt t297 rfl, by decide, ⟨by decide, by decide⟩, by decide +kernel⟩
theorem iwX0_caution : Cond.instanceMethod (⟨"LandHouse$Acts", "caution", "()I"⟩ : MethodName) ∈ e_gd := e_memt t1629 rfl
theorem vwX0_caution : e_VW YX0_caution 0 := ⟨iwX0_caution, e_mem (i := 70) (by decide +kernel) rfl, rfl⟩
theorem mwX0_option : e_MW YX0_option 0 := ⟨e_memt t1634 rfl, e_memt t297 rfl, by decide, ⟨by decide, by decide⟩, by decide +kernel⟩
theorem iwX0_option : Cond.instanceMethod (⟨"LandHouse$Acts", "option", "()I"⟩ : MethodName) ∈ e_gd := e_memt t1633 rfl
theorem vwX0_option : e_VW YX0_option 0 := ⟨iwX0_option, e_mem (i := 71) (by decide +kernel) rfl, rfl⟩
theorem mwX0_takeSale : e_MW YX0_takeSale 0 := ⟨e_memt t1638 rfl, e_memt t297 rfl, by decide, ⟨by decide, by decide⟩, by decide +kernel⟩
theorem iwX0_takeSale : Cond.instanceMethod (⟨"LandHouse$Acts", "takeSale", "()I"⟩ : MethodName) ∈ e_gd := e_memt t1637 rfl
theorem vwX0_takeSale : e_VW YX0_takeSale 0 := ⟨iwX0_takeSale, e_mem (i := 72) (by decide +kernel) rfl, rfl⟩
theorem mwX0_latestSale : e_MW YX0_latestSale 1 := ⟨e_memt t1642 rfl, e_memt t297 rfl, by decide, ⟨by decide, by decide⟩, by decide +kernel⟩
theorem iwX0_latestSale : Cond.instanceMethod (⟨"LandHouse$Acts", "latestSale", "(LLandHouse$Thing;)I"⟩ : MethodName) ∈ e_gd := e_memt t1641 rfl
theorem vwX0_latestSale : e_VW YX0_latestSale 0 := ⟨iwX0_latestSale, e_mem (i := 73) (by decide +kernel) rfl, rfl⟩
theorem mwX0_endTerm : e_MW YX0_endTerm 0 := ⟨e_memt t1646 rfl, e_memt t297 rfl, by decide, ⟨by decide, by decide⟩, by decide +kernel⟩
theorem iwX0_endTerm : Cond.instanceMethod (⟨"LandHouse$Acts", "endTerm", "()I"⟩ : MethodName) ∈ e_gd := e_memt t1645 rfl
theorem vwX0_endTerm : e_VW YX0_endTerm 0 := ⟨iwX0_endTerm, e_mem (i := 74) (by decide +kernel) rfl, rfl⟩
theorem mwX1_init : e_MW YX1_init 2 := ⟨e_memt t925 rfl, e_memt t299 rfl, by decide, ⟨by decide, by decide⟩, by decide +kernel⟩
theorem iwX1_init : Cond.instanceMethod (⟨"LandHouse$Asker", "<init>", "(LLandHouse$World;LLandHouse$Question;)V"⟩ : MethodName) ∈ e_gd := e_memt t924 rfl
theorem mwX1_reply : e_MW YX1_reply 2 := ⟨e_memt t1728 rfl, e_memt t299 rfl, by decide, ⟨by decide, by decide⟩, by decide +kernel⟩
theorem iwX1_reply : Cond.instanceMethod (⟨"LandHouse$Asker", "reply", "(LLandHouse$World;LLandHouse$Question;)V"⟩ : MethodName) ∈ e_gd := e_memt t1726 rfl
theorem vwX1_reply : e_VW YX1_reply 1 := ⟨iwX1_reply, e_memt t1727 rfl, rfl⟩
theorem mwX1_trace : e_MW YX1_trace 0 := ⟨e_memt t1861 rfl, e_memt t299 rfl, by decide, ⟨by decide, by decide⟩, by decide +kernel⟩
theorem iwX1_trace : Cond.instanceMethod (⟨"LandHouse$Asker", "trace", "()V"⟩ : MethodName) ∈ e_gd := e_memt t1860 rfl
theorem vwX1_trace : e_VW YX1_trace 1 := ⟨iwX1_trace, e_mem (i := 105) (by decide +kernel) rfl, rfl⟩
theorem mwX1_survey : e_MW YX1_survey 1 := ⟨e_memt t1869 rfl, e_memt t299 rfl, by decide, ⟨by decide, by decide⟩, by decide +kernel⟩
theorem iwX1_survey : Cond.instanceMethod (⟨"LandHouse$Asker", "survey", "(I)V"⟩ : MethodName) ∈ e_gd := e_memt t1868 rfl
theorem vwX1_survey : e_VW YX1_survey 1 := ⟨iwX1_survey, e_mem (i := 106) (by decide +kernel) rfl, rfl⟩
theorem mwX1_reckon : e_MW YX1_reckon 4 := ⟨e_memt t1873 rfl, e_memt t299 rfl, by decide, ⟨by decide, by decide⟩, by decide +kernel⟩
theorem iwX1_reckon : Cond.instanceMethod (⟨"LandHouse$Asker", "reckon", "(IIII)J"⟩ : MethodName) ∈ e_gd := e_memt t1872 rfl
theorem vwX1_reckon : e_VW YX1_reckon 1 := ⟨iwX1_reckon, e_mem (i := 107) (by decide +kernel) rfl, rfl⟩
theorem mwX1_isSign : e_MW YX1_isSign 1 := ⟨e_memt t1876 rfl, e_memt t299 rfl, by decide, ⟨by decide, by decide⟩, by decide +kernel⟩
theorem swX1_isSign : Cond.static (⟨"LandHouse$Asker", "isSign", "(I)Z"⟩ : MethodName) ∈ e_gd := e_memt t1875 rfl
theorem mwX1_combine : e_MW YX1_combine 3 := ⟨e_memt t1879 rfl, e_memt t299 rfl, by decide, ⟨by decide, by decide⟩, by decide +kernel⟩
theorem swX1_combine : Cond.static (⟨"LandHouse$Asker", "combine", "(IJJ)J"⟩ : MethodName) ∈ e_gd := e_memt t1878 rfl
theorem mwX1_look : e_MW YX1_look 3 := ⟨e_memt t1883 rfl, e_memt t299 rfl, by decide, ⟨by decide, by decide⟩, by decide +kernel⟩
theorem iwX1_look : Cond.instanceMethod (⟨"LandHouse$Asker", "look", "(III)J"⟩ : MethodName) ∈ e_gd := e_memt t1882 rfl
theorem vwX1_look : e_VW YX1_look 1 := ⟨iwX1_look, e_mem (i := 108) (by decide +kernel) rfl, rfl⟩
theorem mwX1_isOwner : e_MW YX1_isOwner 3 := ⟨e_memt t1906 rfl, e_memt t299 rfl, by decide, ⟨by decide, by decide⟩, by decide +kernel⟩
theorem iwX1_isOwner : Cond.instanceMethod (⟨"LandHouse$Asker", "isOwner", "(III)Z"⟩ : MethodName) ∈ e_gd := e_memt t1905 rfl
theorem vwX1_isOwner : e_VW YX1_isOwner 1 := ⟨iwX1_isOwner, e_mem (i := 113) (by decide +kernel) rfl, rfl⟩
theorem mwX1_isOnLot : e_MW YX1_isOnLot 3 := ⟨e_memt t1910 rfl, e_memt t299 rfl, by decide, ⟨by decide, by decide⟩, by decide +kernel⟩
theorem iwX1_isOnLot : Cond.instanceMethod (⟨"LandHouse$Asker", "isOnLot", "(III)Z"⟩ : MethodName) ∈ e_gd := e_memt t1909 rfl
theorem vwX1_isOnLot : e_VW YX1_isOnLot 1 := ⟨iwX1_isOnLot, e_mem (i := 114) (by decide +kernel) rfl, rfl⟩
theorem mwX1_isNearLot : e_MW YX1_isNearLot 3 := ⟨e_memt t1914 rfl, e_memt t299 rfl, by decide, ⟨by decide, by decide⟩, by decide +kernel⟩
theorem iwX1_isNearLot : Cond.instanceMethod (⟨"LandHouse$Asker", "isNearLot", "(III)Z"⟩ : MethodName) ∈ e_gd := e_memt t1913 rfl
theorem vwX1_isNearLot : e_VW YX1_isNearLot 1 := ⟨iwX1_isNearLot, e_mem (i := 115) (by decide +kernel) rfl, rfl⟩
theorem mwX1_hasPoint : e_MW YX1_hasPoint 2 := ⟨e_memt t1927 rfl, e_memt t299 rfl, by decide, ⟨by decide, by decide⟩, by decide +kernel⟩
theorem swX1_hasPoint : Cond.static (⟨"LandHouse$Asker", "hasPoint", "(LLandHouse$Lot;J)Z"⟩ : MethodName) ∈ e_gd := e_memt t1926 rfl
theorem mwX1_factOfLot : e_MW YX1_factOfLot 2 := ⟨e_memt t1887 rfl, e_memt t299 rfl, by decide, ⟨by decide, by decide⟩, by decide +kernel⟩
theorem iwX1_factOfLot : Cond.instanceMethod (⟨"LandHouse$Asker", "factOfLot", "(ILLandHouse$Lot;)J"⟩ : MethodName) ∈ e_gd := e_memt t1886 rfl
theorem vwX1_factOfLot : e_VW YX1_factOfLot 1 := ⟨iwX1_factOfLot, e_mem (i := 109) (by decide +kernel) rfl, rfl⟩
theorem mwX1_factOf : e_MW YX1_factOf 3 := ⟨e_memt t1891 rfl, e_memt t299 rfl, by decide, ⟨by decide, by decide⟩, by decide +kernel⟩
theorem iwX1_factOf : Cond.instanceMethod (⟨"LandHouse$Asker", "factOf", "(III)J"⟩ : MethodName) ∈ e_gd := e_memt t1890 rfl
theorem vwX1_factOf : e_VW YX1_factOf 1 := ⟨iwX1_factOf, e_mem (i := 110) (by decide +kernel) rfl, rfl⟩
theorem mwX1_debtsTo : e_MW YX1_debtsTo 1 := ⟨e_memt t1895 rfl, e_memt t299 rfl, by decide, ⟨by decide, by decide⟩, by decide +kernel⟩
theorem iwX1_debtsTo : Cond.instanceMethod (⟨"LandHouse$Asker", "debtsTo", "(I)J"⟩ : MethodName) ∈ e_gd := e_memt t1894 rfl
theorem vwX1_debtsTo : e_VW YX1_debtsTo 1 := ⟨iwX1_debtsTo, e_mem (i := 111) (by decide +kernel) rfl, rfl⟩
theorem mwX1_lotsOf : e_MW YX1_lotsOf 1 := ⟨e_memt t1902 rfl, e_memt t299 rfl, by decide, ⟨by decide, by decide⟩, by decide +kernel⟩
theorem iwX1_lotsOf : Cond.instanceMethod (⟨"LandHouse$Asker", "lotsOf", "(I)I"⟩ : MethodName) ∈ e_gd := e_memt t1901 rfl
theorem vwX1_lotsOf : e_VW YX1_lotsOf 1 := ⟨iwX1_lotsOf, e_mem (i := 112) (by decide +kernel) rfl, rfl⟩
theorem mwX1_show : e_MW YX1_show 1 := ⟨e_memt t1733 rfl, e_memt t299 rfl, by decide, ⟨by decide, by decide⟩, by decide +kernel⟩
theorem iwX1_show : Cond.instanceMethod (⟨"LandHouse$Asker", "show", "(I)V"⟩ : MethodName) ∈ e_gd := e_memt t1732 rfl
theorem vwX1_show : e_VW YX1_show 1 := ⟨iwX1_show, e_mem (i := 84) (by decide +kernel) rfl, rfl⟩
theorem mwX1_showLot : e_MW YX1_showLot 1 := ⟨e_memt t1778 rfl, e_memt t299 rfl, by decide, ⟨by decide, by decide⟩, by decide +kernel⟩
theorem iwX1_showLot : Cond.instanceMethod (⟨"LandHouse$Asker", "showLot", "(I)V"⟩ : MethodName) ∈ e_gd := e_memt t1777 rfl
theorem vwX1_showLot : e_VW YX1_showLot 1 := ⟨iwX1_showLot, e_mem (i := 90) (by decide +kernel) rfl, rfl⟩
theorem mwX1_putCharge : e_MW YX1_putCharge 1 := ⟨e_memt t1803 rfl, e_memt t299 rfl, by decide, ⟨by decide, by decide⟩, by decide +kernel⟩
theorem iwX1_putCharge : Cond.instanceMethod (⟨"LandHouse$Asker", "putCharge", "(LLandHouse$Thing;)V"⟩ : MethodName) ∈ e_gd := e_memt t1802 rfl
theorem vwX1_putCharge : e_VW YX1_putCharge 1 := ⟨iwX1_putCharge, e_mem (i := 94) (by decide +kernel) rfl, rfl⟩
theorem mwX1_putServes : e_MW YX1_putServes 2 := ⟨e_memt t1807 rfl, e_memt t299 rfl, by decide, ⟨by decide, by decide⟩, by decide +kernel⟩
theorem iwX1_putServes : Cond.instanceMethod (⟨"LandHouse$Asker", "putServes", "(IZ)V"⟩ : MethodName) ∈ e_gd := e_memt t1806 rfl
theorem vwX1_putServes : e_VW YX1_putServes 1 := ⟨iwX1_putServes, e_mem (i := 95) (by decide +kernel) rfl, rfl⟩
theorem mwX1_putTerms : e_MW YX1_putTerms 2 := ⟨e_memt t1822 rfl, e_memt t299 rfl, by decide, ⟨by decide, by decide⟩, by decide +kernel⟩
theorem iwX1_putTerms : Cond.instanceMethod (⟨"LandHouse$Asker", "putTerms", "(II)V"⟩ : MethodName) ∈ e_gd := e_memt t1821 rfl
theorem vwX1_putTerms : e_VW YX1_putTerms 1 := ⟨iwX1_putTerms, e_mem (i := 97) (by decide +kernel) rfl, rfl⟩
theorem mwX1_showPerson : e_MW YX1_showPerson 1 := ⟨e_memt t1836 rfl, e_memt t299 rfl, by decide, ⟨by decide, by decide⟩, by decide +kernel⟩
theorem iwX1_showPerson : Cond.instanceMethod (⟨"LandHouse$Asker", "showPerson", "(I)V"⟩ : MethodName) ∈ e_gd := e_memt t1835 rfl
theorem vwX1_showPerson : e_VW YX1_showPerson 1 := ⟨iwX1_showPerson, e_mem (i := 100) (by decide +kernel) rfl, rfl⟩
theorem mwX1_showCharge : e_MW YX1_showCharge 1 := ⟨e_memt t1841 rfl, e_memt t299 rfl, by decide, ⟨by decide, by decide⟩, by decide +kernel⟩
theorem iwX1_showCharge : Cond.instanceMethod (⟨"LandHouse$Asker", "showCharge", "(I)V"⟩ : MethodName) ∈ e_gd := e_memt t1840 rfl
theorem vwX1_showCharge : e_VW YX1_showCharge 1 := ⟨iwX1_showCharge, e_mem (i := 101) (by decide +kernel) rfl, rfl⟩
theorem mwX1_showServe : e_MW YX1_showServe 1 := ⟨e_memt t1847 rfl, e_memt t299 rfl, by decide, ⟨by decide, by decide⟩, by decide +kernel⟩
theorem iwX1_showServe : Cond.instanceMethod (⟨"LandHouse$Asker", "showServe", "(LLandHouse$Thing;)V"⟩ : MethodName) ∈ e_gd := e_memt t1846 rfl
theorem vwX1_showServe : e_VW YX1_showServe 1 := ⟨iwX1_showServe, e_mem (i := 102) (by decide +kernel) rfl, rfl⟩
theorem mwX1_showTerm : e_MW YX1_showTerm 2 := ⟨e_memt t1857 rfl, e_memt t299 rfl, by decide, ⟨by decide, by decide⟩, by decide +kernel⟩
theorem iwX1_showTerm : Cond.instanceMethod (⟨"LandHouse$Asker", "showTerm", "(ILLandHouse$Thing;)V"⟩ : MethodName) ∈ e_gd := e_memt t1856 rfl
theorem vwX1_showTerm : e_VW YX1_showTerm 1 := ⟨iwX1_showTerm, e_mem (i := 104) (by decide +kernel) rfl, rfl⟩
theorem mwX1_putLots : e_MW YX1_putLots 2 := ⟨e_memt t1852 rfl, e_memt t299 rfl, by decide, ⟨by decide, by decide⟩, by decide +kernel⟩
theorem iwX1_putLots : Cond.instanceMethod (⟨"LandHouse$Asker", "putLots", "(Ljava/lang/String;LLandHouse$Row;)V"⟩ : MethodName) ∈ e_gd := e_memt t1851 rfl
theorem vwX1_putLots : e_VW YX1_putLots 1 := ⟨iwX1_putLots, e_mem (i := 103) (by decide +kernel) rfl, rfl⟩
theorem mwX1_thenKind : e_MW YX1_thenKind 1 := ⟨e_memt t1813 rfl, e_memt t299 rfl, by decide, ⟨by decide, by decide⟩, by decide +kernel⟩
theorem iwX1_thenKind : Cond.instanceMethod (⟨"LandHouse$Asker", "thenKind", "(I)V"⟩ : MethodName) ∈ e_gd := e_memt t1812 rfl
theorem vwX1_thenKind : e_VW YX1_thenKind 1 := ⟨iwX1_thenKind, e_mem (i := 96) (by decide +kernel) rfl, rfl⟩
theorem mwX1_thenWord : e_MW YX1_thenWord 1 := ⟨e_memt t1764 rfl, e_memt t299 rfl, by decide, ⟨by decide, by decide⟩, by decide +kernel⟩
theorem iwX1_thenWord : Cond.instanceMethod (⟨"LandHouse$Asker", "thenWord", "(J)V"⟩ : MethodName) ∈ e_gd := e_memt t1763 rfl
theorem vwX1_thenWord : e_VW YX1_thenWord 1 := ⟨iwX1_thenWord, e_mem (i := 87) (by decide +kernel) rfl, rfl⟩
theorem mwX1_thenNumber : e_MW YX1_thenNumber 1 := ⟨e_memt t1787 rfl, e_memt t299 rfl, by decide, ⟨by decide, by decide⟩, by decide +kernel⟩
theorem iwX1_thenNumber : Cond.instanceMethod (⟨"LandHouse$Asker", "thenNumber", "(J)V"⟩ : MethodName) ∈ e_gd := e_memt t1786 rfl
theorem vwX1_thenNumber : e_VW YX1_thenNumber 1 := ⟨iwX1_thenNumber, e_mem (i := 91) (by decide +kernel) rfl, rfl⟩
theorem mwX1_thenShare : e_MW YX1_thenShare 2 := ⟨e_memt t1798 rfl, e_memt t299 rfl, by decide, ⟨by decide, by decide⟩, by decide +kernel⟩
theorem iwX1_thenShare : Cond.instanceMethod (⟨"LandHouse$Asker", "thenShare", "(LLandHouse$Lot;I)V"⟩ : MethodName) ∈ e_gd := e_memt t1797 rfl
theorem vwX1_thenShare : e_VW YX1_thenShare 1 := ⟨iwX1_thenShare, e_mem (i := 93) (by decide +kernel) rfl, rfl⟩
theorem mwX1_thenDate : e_MW YX1_thenDate 1 := ⟨e_memt t1826 rfl, e_memt t299 rfl, by decide, ⟨by decide, by decide⟩, by decide +kernel⟩
theorem iwX1_thenDate : Cond.instanceMethod (⟨"LandHouse$Asker", "thenDate", "(I)V"⟩ : MethodName) ∈ e_gd := e_memt t1825 rfl
theorem vwX1_thenDate : e_VW YX1_thenDate 1 := ⟨iwX1_thenDate, e_mem (i := 98) (by decide +kernel) rfl, rfl⟩
theorem mwX1_endLine : e_MW YX1_endLine 0 := ⟨e_memt t1774 rfl, e_memt t299 rfl, by decide, ⟨by decide, by decide⟩, by decide +kernel⟩
theorem iwX1_endLine : Cond.instanceMethod (⟨"LandHouse$Asker", "endLine", "()V"⟩ : MethodName) ∈ e_gd := e_memt t1773 rfl
theorem vwX1_endLine : e_VW YX1_endLine 1 := ⟨iwX1_endLine, e_mem (i := 89) (by decide +kernel) rfl, rfl⟩
theorem mwX1_putText : e_MW YX1_putText 1 := ⟨e_memt t1750 rfl, e_memt t299 rfl, by decide, ⟨by decide, by decide⟩, by decide +kernel⟩
theorem iwX1_putText : Cond.instanceMethod (⟨"LandHouse$Asker", "putText", "(Ljava/lang/String;)V"⟩ : MethodName) ∈ e_gd := e_memt t1749 rfl
theorem vwX1_putText : e_VW YX1_putText 1 := ⟨iwX1_putText, e_mem (i := 85) (by decide +kernel) rfl, rfl⟩
theorem mwX1_putWord : e_MW YX1_putWord 1 := ⟨e_memt t1768 rfl, e_memt t299 rfl, by decide, ⟨by decide, by decide⟩, by decide +kernel⟩
theorem iwX1_putWord : Cond.instanceMethod (⟨"LandHouse$Asker", "putWord", "(J)V"⟩ : MethodName) ∈ e_gd := e_memt t1767 rfl
theorem vwX1_putWord : e_VW YX1_putWord 1 := ⟨iwX1_putWord, e_mem (i := 88) (by decide +kernel) rfl, rfl⟩
theorem mwX1_putNumber : e_MW YX1_putNumber 1 := ⟨e_memt t1791 rfl, e_memt t299 rfl, by decide, ⟨by decide, by decide⟩, by decide +kernel⟩
theorem iwX1_putNumber : Cond.instanceMethod (⟨"LandHouse$Asker", "putNumber", "(J)V"⟩ : MethodName) ∈ e_gd := e_memt t1790 rfl
theorem vwX1_putNumber : e_VW YX1_putNumber 1 := ⟨iwX1_putNumber, e_mem (i := 92) (by decide +kernel) rfl, rfl⟩
theorem mwX1_putTwo : e_MW YX1_putTwo 1 := ⟨e_memt t1832 rfl, e_memt t299 rfl, by decide, ⟨by decide, by decide⟩, by decide +kernel⟩
theorem iwX1_putTwo : Cond.instanceMethod (⟨"LandHouse$Asker", "putTwo", "(I)V"⟩ : MethodName) ∈ e_gd := e_memt t1831 rfl
theorem vwX1_putTwo : e_VW YX1_putTwo 1 := ⟨iwX1_putTwo, e_mem (i := 99) (by decide +kernel) rfl, rfl⟩
theorem mwX1_put : e_MW YX1_put 1 := ⟨e_memt t1756 rfl, e_memt t299 rfl, by decide, ⟨by decide, by decide⟩, by decide +kernel⟩
theorem iwX1_put : Cond.instanceMethod (⟨"LandHouse$Asker", "put", "(I)V"⟩ : MethodName) ∈ e_gd := e_memt t1755 rfl
theorem vwX1_put : e_VW YX1_put 1 := ⟨iwX1_put, e_mem (i := 86) (by decide +kernel) rfl, rfl⟩
theorem mwX2_init : e_MW YX2_init 0 := ⟨e_memt t320 rfl, e_memt t285 rfl, by decide, ⟨by decide, by decide⟩, by decide +kernel⟩
theorem iwX2_init : Cond.instanceMethod (⟨"LandHouse$Deed", "<init>", "()V"⟩ : MethodName) ∈ e_gd := e_memt t319 rfl
theorem mwX2_clear : e_MW YX2_clear 0 := ⟨e_memt t1079 rfl, e_memt t285 rfl, by decide, ⟨by decide, by decide⟩, by decide +kernel⟩
theorem iwX2_clear : Cond.instanceMethod (⟨"LandHouse$Deed", "clear", "()V"⟩ : MethodName) ∈ e_gd := e_memt t1077 rfl
theorem vwX2_clear : e_VW YX2_clear 2 := ⟨iwX2_clear, e_memt t1078 rfl, rfl⟩
theorem mwX2_addName : e_MW YX2_addName 2 := ⟨e_memt t1115 rfl, e_memt t285 rfl, by decide, ⟨by decide, by decide⟩, by decide +kernel⟩
theorem iwX2_addName : Cond.instanceMethod (⟨"LandHouse$Deed", "addName", "(JI)V"⟩ : MethodName) ∈ e_gd := e_memt t1113 rfl
theorem vwX2_addName : e_VW YX2_addName 2 := ⟨iwX2_addName, e_memt t1114 rfl, rfl⟩
theorem mwX2_addPart : e_MW YX2_addPart 2 := ⟨e_memt t1135 rfl, e_memt t285 rfl, by decide, ⟨by decide, by decide⟩, by decide +kernel⟩
theorem iwX2_addPart : Cond.instanceMethod (⟨"LandHouse$Deed", "addPart", "(JJ)V"⟩ : MethodName) ∈ e_gd := e_memt t1133 rfl
theorem vwX2_addPart : e_VW YX2_addPart 2 := ⟨iwX2_addPart, e_memt t1134 rfl, rfl⟩
theorem mwX2_addPoint : e_MW YX2_addPoint 2 := ⟨e_memt t1155 rfl, e_memt t285 rfl, by decide, ⟨by decide, by decide⟩, by decide +kernel⟩
theorem iwX2_addPoint : Cond.instanceMethod (⟨"LandHouse$Deed", "addPoint", "(II)V"⟩ : MethodName) ∈ e_gd := e_memt t1153 rfl
theorem vwX2_addPoint : e_VW YX2_addPoint 2 := ⟨iwX2_addPoint, e_memt t1154 rfl, rfl⟩
theorem mwX2_tells : e_MW YX2_tells 1 := ⟨e_memt t1865 rfl, e_memt t285 rfl, by decide, ⟨by decide, by decide⟩, by decide +kernel⟩
theorem iwX2_tells : Cond.instanceMethod (⟨"LandHouse$Deed", "tells", "(J)Z"⟩ : MethodName) ∈ e_gd := e_memt t1863 rfl
theorem vwX2_tells : e_VW YX2_tells 2 := ⟨iwX2_tells, e_memt t1864 rfl, rfl⟩
theorem mwX2_isToldBefore : e_MW YX2_isToldBefore 1 := ⟨e_memt t1285 rfl, e_memt t285 rfl, by decide, ⟨by decide, by decide⟩, by decide +kernel⟩
theorem iwX2_isToldBefore : Cond.instanceMethod (⟨"LandHouse$Deed", "isToldBefore", "(I)Z"⟩ : MethodName) ∈ e_gd := e_memt t1283 rfl
theorem vwX2_isToldBefore : e_VW YX2_isToldBefore 2 := ⟨iwX2_isToldBefore, e_memt t1284 rfl, rfl⟩
theorem mwX2_isWhole : e_MW YX2_isWhole 0 := ⟨e_memt t1337 rfl, e_memt t285 rfl, by decide, ⟨by decide, by decide⟩, by decide +kernel⟩
theorem iwX2_isWhole : Cond.instanceMethod (⟨"LandHouse$Deed", "isWhole", "()Z"⟩ : MethodName) ∈ e_gd := e_memt t1335 rfl
theorem vwX2_isWhole : e_VW YX2_isWhole 2 := ⟨iwX2_isWhole, e_memt t1336 rfl, rfl⟩
theorem mwX3_init : e_MW YX3_init 0 := ⟨e_memt t601 rfl, e_memt t294 rfl, by decide, ⟨by decide, by decide⟩, by decide +kernel⟩
theorem iwX3_init : Cond.instanceMethod (⟨"LandHouse$Figure", "<init>", "()V"⟩ : MethodName) ∈ e_gd := e_memt t600 rfl
theorem mwX3_clear : e_MW YX3_clear 0 := ⟨e_memt t1232 rfl, e_memt t294 rfl, by decide, ⟨by decide, by decide⟩, by decide +kernel⟩
theorem iwX3_clear : Cond.instanceMethod (⟨"LandHouse$Figure", "clear", "()V"⟩ : MethodName) ∈ e_gd := e_memt t1230 rfl
theorem vwX3_clear : e_VW YX3_clear 3 := ⟨iwX3_clear, e_memt t1231 rfl, rfl⟩
theorem mwX3_add : e_MW YX3_add 2 := ⟨e_memt t1261 rfl, e_memt t294 rfl, by decide, ⟨by decide, by decide⟩, by decide +kernel⟩
theorem iwX3_add : Cond.instanceMethod (⟨"LandHouse$Figure", "add", "(II)V"⟩ : MethodName) ∈ e_gd := e_memt t1259 rfl
theorem vwX3_add : e_VW YX3_add 3 := ⟨iwX3_add, e_memt t1260 rfl, rfl⟩
theorem mwX3_copy : e_MW YX3_copy 1 := ⟨e_memt t1494 rfl, e_memt t294 rfl, by decide, ⟨by decide, by decide⟩, by decide +kernel⟩
theorem iwX3_copy : Cond.instanceMethod (⟨"LandHouse$Figure", "copy", "(LLandHouse$Figure;)V"⟩ : MethodName) ∈ e_gd := e_memt t1492 rfl
theorem vwX3_copy : e_VW YX3_copy 3 := ⟨iwX3_copy, e_memt t1493 rfl, rfl⟩
theorem mwX3_next : e_MW YX3_next 1 := ⟨e_memt t1420 rfl, e_memt t294 rfl, by decide, ⟨by decide, by decide⟩, by decide +kernel⟩
theorem iwX3_next : Cond.instanceMethod (⟨"LandHouse$Figure", "next", "(I)I"⟩ : MethodName) ∈ e_gd := e_memt t1418 rfl
theorem vwX3_next : e_VW YX3_next 3 := ⟨iwX3_next, e_memt t1419 rfl, rfl⟩
theorem mwX3_area : e_MW YX3_area 0 := ⟨e_memt t1783 rfl, e_memt t294 rfl, by decide, ⟨by decide, by decide⟩, by decide +kernel⟩
theorem iwX3_area : Cond.instanceMethod (⟨"LandHouse$Figure", "area", "()I"⟩ : MethodName) ∈ e_gd := e_memt t1781 rfl
theorem vwX3_area : e_VW YX3_area 3 := ⟨iwX3_area, e_memt t1782 rfl, rfl⟩
theorem mwX3_where : e_MW YX3_where 3 := ⟨e_memt t1416 rfl, e_memt t294 rfl, by decide, ⟨by decide, by decide⟩, by decide +kernel⟩
theorem iwX3_where : Cond.instanceMethod (⟨"LandHouse$Figure", "where", "(JJI)I"⟩ : MethodName) ∈ e_gd := e_memt t1414 rfl
theorem vwX3_where : e_VW YX3_where 3 := ⟨iwX3_where, e_memt t1415 rfl, rfl⟩
theorem mwX3_stretchOf : e_MW YX3_stretchOf 2 := ⟨e_memt t1460 rfl, e_memt t294 rfl, by decide, ⟨by decide, by decide⟩, by decide +kernel⟩
theorem iwX3_stretchOf : Cond.instanceMethod (⟨"LandHouse$Figure", "stretchOf", "(II)I"⟩ : MethodName) ∈ e_gd := e_memt t1458 rfl
theorem vwX3_stretchOf : e_VW YX3_stretchOf 3 := ⟨iwX3_stretchOf, e_memt t1459 rfl, rfl⟩
theorem mwX3_holdsAny : e_MW YX3_holdsAny 1 := ⟨e_memt t1479 rfl, e_memt t294 rfl, by decide, ⟨by decide, by decide⟩, by decide +kernel⟩
theorem iwX3_holdsAny : Cond.instanceMethod (⟨"LandHouse$Figure", "holdsAny", "(LLandHouse$Deed;)Z"⟩ : MethodName) ∈ e_gd := e_memt t1477 rfl
theorem vwX3_holdsAny : e_VW YX3_holdsAny 3 := ⟨iwX3_holdsAny, e_memt t1478 rfl, rfl⟩
theorem mwX3_isNear : e_MW YX3_isNear 1 := ⟨e_memt t1918 rfl, e_memt t294 rfl, by decide, ⟨by decide, by decide⟩, by decide +kernel⟩
theorem iwX3_isNear : Cond.instanceMethod (⟨"LandHouse$Figure", "isNear", "(LLandHouse$Figure;)Z"⟩ : MethodName) ∈ e_gd := e_memt t1916 rfl
theorem vwX3_isNear : e_VW YX3_isNear 3 := ⟨iwX3_isNear, e_memt t1917 rfl, rfl⟩
theorem mwX3_overlap : e_MW YX3_overlap 4 := ⟨e_memt t1922 rfl, e_memt t294 rfl, by decide, ⟨by decide, by decide⟩, by decide +kernel⟩
theorem swX3_overlap : Cond.static (⟨"LandHouse$Figure", "overlap", "(IIII)Z"⟩ : MethodName) ∈ e_gd := e_memt t1921 rfl
theorem mwX4_init : e_MW YX4_init 0 := ⟨e_memt t595 rfl, e_memt t293 rfl, by decide, ⟨by decide, by decide⟩, by decide +kernel⟩
theorem iwX4_init : Cond.instanceMethod (⟨"LandHouse$Lot", "<init>", "()V"⟩ : MethodName) ∈ e_gd := e_memt t594 rfl
theorem mwX4_begin : e_MW YX4_begin 1 := ⟨e_memt t1228 rfl, e_memt t293 rfl, by decide, ⟨by decide, by decide⟩, by decide +kernel⟩
theorem iwX4_begin : Cond.instanceMethod (⟨"LandHouse$Lot", "begin", "(J)V"⟩ : MethodName) ∈ e_gd := e_memt t1226 rfl
theorem vwX4_begin : e_VW YX4_begin 4 := ⟨iwX4_begin, e_memt t1227 rfl, rfl⟩
theorem mwX4_placeOf : e_MW YX4_placeOf 1 := ⟨e_memt t1252 rfl, e_memt t293 rfl, by decide, ⟨by decide, by decide⟩, by decide +kernel⟩
theorem iwX4_placeOf : Cond.instanceMethod (⟨"LandHouse$Lot", "placeOf", "(I)I"⟩ : MethodName) ∈ e_gd := e_memt t1250 rfl
theorem vwX4_placeOf : e_VW YX4_placeOf 4 := ⟨iwX4_placeOf, e_memt t1251 rfl, rfl⟩
theorem mwX4_copyOwners : e_MW YX4_copyOwners 1 := ⟨e_memt t1348 rfl, e_memt t293 rfl, by decide, ⟨by decide, by decide⟩, by decide +kernel⟩
theorem iwX4_copyOwners : Cond.instanceMethod (⟨"LandHouse$Lot", "copyOwners", "(LLandHouse$Lot;)V"⟩ : MethodName) ∈ e_gd := e_memt t1346 rfl
theorem vwX4_copyOwners : e_VW YX4_copyOwners 4 := ⟨iwX4_copyOwners, e_memt t1347 rfl, rfl⟩
theorem mwX4_own : e_MW YX4_own 1 := ⟨e_memt t1244 rfl, e_memt t293 rfl, by decide, ⟨by decide, by decide⟩, by decide +kernel⟩
theorem iwX4_own : Cond.instanceMethod (⟨"LandHouse$Lot", "own", "(I)V"⟩ : MethodName) ∈ e_gd := e_memt t1242 rfl
theorem vwX4_own : e_VW YX4_own 4 := ⟨iwX4_own, e_memt t1243 rfl, rfl⟩
theorem mwX4_give : e_MW YX4_give 3 := ⟨e_memt t1248 rfl, e_memt t293 rfl, by decide, ⟨by decide, by decide⟩, by decide +kernel⟩
theorem iwX4_give : Cond.instanceMethod (⟨"LandHouse$Lot", "give", "(IJJ)V"⟩ : MethodName) ∈ e_gd := e_memt t1246 rfl
theorem vwX4_give : e_VW YX4_give 4 := ⟨iwX4_give, e_memt t1247 rfl, rfl⟩
theorem mwX4_takeOff : e_MW YX4_takeOff 3 := ⟨e_memt t1352 rfl, e_memt t293 rfl, by decide, ⟨by decide, by decide⟩, by decide +kernel⟩
theorem iwX4_takeOff : Cond.instanceMethod (⟨"LandHouse$Lot", "takeOff", "(IJJ)Z"⟩ : MethodName) ∈ e_gd := e_memt t1350 rfl
theorem vwX4_takeOff : e_VW YX4_takeOff 4 := ⟨iwX4_takeOff, e_memt t1351 rfl, rfl⟩
theorem mwX4_put : e_MW YX4_put 3 := ⟨e_memt t1256 rfl, e_memt t293 rfl, by decide, ⟨by decide, by decide⟩, by decide +kernel⟩
theorem iwX4_put : Cond.instanceMethod (⟨"LandHouse$Lot", "put", "(IJJ)V"⟩ : MethodName) ∈ e_gd := e_memt t1255 rfl
theorem vwX4_put : e_VW YX4_put 4 := ⟨iwX4_put, e_mem (i := 23) (by decide +kernel) rfl, rfl⟩
theorem mwX4_isTooFine : e_MW YX4_isTooFine 0 := ⟨e_memt t1357 rfl, e_memt t293 rfl, by decide, ⟨by decide, by decide⟩, by decide +kernel⟩
theorem iwX4_isTooFine : Cond.instanceMethod (⟨"LandHouse$Lot", "isTooFine", "()Z"⟩ : MethodName) ∈ e_gd := e_memt t1355 rfl
theorem vwX4_isTooFine : e_VW YX4_isTooFine 4 := ⟨iwX4_isTooFine, e_memt t1356 rfl, rfl⟩
theorem mwX4_hasSameOwners : e_MW YX4_hasSameOwners 1 := ⟨e_memt t1516 rfl, e_memt t293 rfl, by decide, ⟨by decide, by decide⟩, by decide +kernel⟩
theorem iwX4_hasSameOwners : Cond.instanceMethod (⟨"LandHouse$Lot", "hasSameOwners", "(LLandHouse$Lot;)Z"⟩ : MethodName) ∈ e_gd := e_memt t1514 rfl
theorem vwX4_hasSameOwners : e_VW YX4_hasSameOwners 4 := ⟨iwX4_hasSameOwners, e_memt t1515 rfl, rfl⟩
theorem mwX5_init : e_MW YX5_init 0 := ⟨e_memt t852 rfl, e_memt t298 rfl, by decide, ⟨by decide, by decide⟩, by decide +kernel⟩
theorem iwX5_init : Cond.instanceMethod (⟨"LandHouse$Plane", "<init>", "()V"⟩ : MethodName) ∈ e_gd := e_memt t851 rfl
theorem mwX5_cut : e_MW YX5_cut 2 := ⟨e_memt t1412 rfl, e_memt t298 rfl, by decide, ⟨by decide, by decide⟩, by decide +kernel⟩
theorem iwX5_cut : Cond.instanceMethod (⟨"LandHouse$Plane", "cut", "(LLandHouse$Figure;LLandHouse$Deed;)Z"⟩ : MethodName) ∈ e_gd := e_memt t1410 rfl
theorem vwX5_cut : e_VW YX5_cut 5 := ⟨iwX5_cut, e_memt t1411 rfl, rfl⟩
theorem mwX5_isInside : e_MW YX5_isInside 3 := ⟨e_memt t1430 rfl, e_memt t298 rfl, by decide, ⟨by decide, by decide⟩, by decide +kernel⟩
theorem iwX5_isInside : Cond.instanceMethod (⟨"LandHouse$Plane", "isInside", "(LLandHouse$Figure;LLandHouse$Deed;I)Z"⟩ : MethodName) ∈ e_gd := e_memt t1429 rfl
theorem vwX5_isInside : e_VW YX5_isInside 5 := ⟨iwX5_isInside, e_mem (i := 40) (by decide +kernel) rfl, rfl⟩
theorem mwX5_meetsLater : e_MW YX5_meetsLater 2 := ⟨e_memt t1444 rfl, e_memt t298 rfl, by decide, ⟨by decide, by decide⟩, by decide +kernel⟩
theorem swX5_meetsLater : Cond.static (⟨"LandHouse$Plane", "meetsLater", "(LLandHouse$Deed;I)Z"⟩ : MethodName) ∈ e_gd := e_memt t1443 rfl
theorem mwX5_lay : e_MW YX5_lay 2 := ⟨e_memt t1452 rfl, e_memt t298 rfl, by decide, ⟨by decide, by decide⟩, by decide +kernel⟩
theorem iwX5_lay : Cond.instanceMethod (⟨"LandHouse$Plane", "lay", "(II)V"⟩ : MethodName) ∈ e_gd := e_memt t1451 rfl
theorem vwX5_lay : e_VW YX5_lay 5 := ⟨iwX5_lay, e_mem (i := 42) (by decide +kernel) rfl, rfl⟩
theorem mwX5_layCut : e_MW YX5_layCut 3 := ⟨e_memt t1448 rfl, e_memt t298 rfl, by decide, ⟨by decide, by decide⟩, by decide +kernel⟩
theorem iwX5_layCut : Cond.instanceMethod (⟨"LandHouse$Plane", "layCut", "(LLandHouse$Deed;II)V"⟩ : MethodName) ∈ e_gd := e_memt t1447 rfl
theorem vwX5_layCut : e_VW YX5_layCut 5 := ⟨iwX5_layCut, e_mem (i := 41) (by decide +kernel) rfl, rfl⟩
theorem mwX5_layBorder : e_MW YX5_layBorder 5 := ⟨e_memt t1456 rfl, e_memt t298 rfl, by decide, ⟨by decide, by decide⟩, by decide +kernel⟩
theorem iwX5_layBorder : Cond.instanceMethod (⟨"LandHouse$Plane", "layBorder", "(LLandHouse$Figure;IIII)V"⟩ : MethodName) ∈ e_gd := e_memt t1455 rfl
theorem vwX5_layBorder : e_VW YX5_layBorder 5 := ⟨iwX5_layBorder, e_mem (i := 43) (by decide +kernel) rfl, rfl⟩
theorem mwX5_close : e_MW YX5_close 1 := ⟨e_memt t1468 rfl, e_memt t298 rfl, by decide, ⟨by decide, by decide⟩, by decide +kernel⟩
theorem iwX5_close : Cond.instanceMethod (⟨"LandHouse$Plane", "close", "(LLandHouse$Figure;)Z"⟩ : MethodName) ∈ e_gd := e_memt t1467 rfl
theorem vwX5_close : e_VW YX5_close 5 := ⟨iwX5_close, e_mem (i := 44) (by decide +kernel) rfl, rfl⟩
theorem mwX5_join : e_MW YX5_join 2 := ⟨e_memt t1528 rfl, e_memt t298 rfl, by decide, ⟨by decide, by decide⟩, by decide +kernel⟩
theorem iwX5_join : Cond.instanceMethod (⟨"LandHouse$Plane", "join", "(LLandHouse$Figure;LLandHouse$Figure;)Z"⟩ : MethodName) ∈ e_gd := e_memt t1526 rfl
theorem vwX5_join : e_VW YX5_join 5 := ⟨iwX5_join, e_memt t1527 rfl, rfl⟩
theorem mwX5_layEdges : e_MW YX5_layEdges 2 := ⟨e_memt t1532 rfl, e_memt t298 rfl, by decide, ⟨by decide, by decide⟩, by decide +kernel⟩
theorem iwX5_layEdges : Cond.instanceMethod (⟨"LandHouse$Plane", "layEdges", "(LLandHouse$Figure;LLandHouse$Figure;)V"⟩ : MethodName) ∈ e_gd := e_memt t1531 rfl
theorem vwX5_layEdges : e_VW YX5_layEdges 5 := ⟨iwX5_layEdges, e_mem (i := 50) (by decide +kernel) rfl, rfl⟩
theorem mwX5_layEdge : e_MW YX5_layEdge 4 := ⟨e_memt t1539 rfl, e_memt t298 rfl, by decide, ⟨by decide, by decide⟩, by decide +kernel⟩
theorem iwX5_layEdge : Cond.instanceMethod (⟨"LandHouse$Plane", "layEdge", "(IIII)V"⟩ : MethodName) ∈ e_gd := e_memt t1538 rfl
theorem vwX5_layEdge : e_VW YX5_layEdge 5 := ⟨iwX5_layEdge, e_mem (i := 51) (by decide +kernel) rfl, rfl⟩
theorem mwX5_nearestOn : e_MW YX5_nearestOn 5 := ⟨e_memt t1535 rfl, e_memt t298 rfl, by decide, ⟨by decide, by decide⟩, by decide +kernel⟩
theorem swX5_nearestOn : Cond.static (⟨"LandHouse$Plane", "nearestOn", "(LLandHouse$Figure;IIII)I"⟩ : MethodName) ∈ e_gd := e_memt t1534 rfl
theorem mwX5_dropShared : e_MW YX5_dropShared 1 := ⟨e_memt t1543 rfl, e_memt t298 rfl, by decide, ⟨by decide, by decide⟩, by decide +kernel⟩
theorem iwX5_dropShared : Cond.instanceMethod (⟨"LandHouse$Plane", "dropShared", "(I)I"⟩ : MethodName) ∈ e_gd := e_memt t1542 rfl
theorem vwX5_dropShared : e_VW YX5_dropShared 5 := ⟨iwX5_dropShared, e_mem (i := 52) (by decide +kernel) rfl, rfl⟩
theorem mwX5_onlyEdgeFrom : e_MW YX5_onlyEdgeFrom 2 := ⟨e_memt t1547 rfl, e_memt t298 rfl, by decide, ⟨by decide, by decide⟩, by decide +kernel⟩
theorem iwX5_onlyEdgeFrom : Cond.instanceMethod (⟨"LandHouse$Plane", "onlyEdgeFrom", "(II)I"⟩ : MethodName) ∈ e_gd := e_memt t1546 rfl
theorem vwX5_onlyEdgeFrom : e_VW YX5_onlyEdgeFrom 5 := ⟨iwX5_onlyEdgeFrom, e_mem (i := 53) (by decide +kernel) rfl, rfl⟩
theorem mwX6_init : e_MW YX6_init 1 := ⟨e_memt t535 rfl, e_memt t291 rfl, by decide, ⟨by decide, by decide⟩, by decide +kernel⟩
theorem iwX6_init : Cond.instanceMethod (⟨"LandHouse$Question", "<init>", "(LLandHouse$Reader;)V"⟩ : MethodName) ∈ e_gd := e_memt t534 rfl
theorem mwX6_read : e_MW YX6_read 0 := ⟨e_memt t1670 rfl, e_memt t291 rfl, by decide, ⟨by decide, by decide⟩, by decide +kernel⟩
theorem iwX6_read : Cond.instanceMethod (⟨"LandHouse$Question", "read", "()Z"⟩ : MethodName) ∈ e_gd := e_memt t1668 rfl
theorem vwX6_read : e_VW YX6_read 6 := ⟨iwX6_read, e_memt t1669 rfl, rfl⟩
theorem mwX6_readAsk : e_MW YX6_readAsk 0 := ⟨e_memt t1676 rfl, e_memt t291 rfl, by decide, ⟨by decide, by decide⟩, by decide +kernel⟩
theorem iwX6_readAsk : Cond.instanceMethod (⟨"LandHouse$Question", "readAsk", "()V"⟩ : MethodName) ∈ e_gd := e_memt t1675 rfl
theorem vwX6_readAsk : e_VW YX6_readAsk 6 := ⟨iwX6_readAsk, e_mem (i := 75) (by decide +kernel) rfl, rfl⟩
theorem mwX6_readSet : e_MW YX6_readSet 0 := ⟨e_memt t1706 rfl, e_memt t291 rfl, by decide, ⟨by decide, by decide⟩, by decide +kernel⟩
theorem iwX6_readSet : Cond.instanceMethod (⟨"LandHouse$Question", "readSet", "()Z"⟩ : MethodName) ∈ e_gd := e_memt t1705 rfl
theorem vwX6_readSet : e_VW YX6_readSet 6 := ⟨iwX6_readSet, e_mem (i := 80) (by decide +kernel) rfl, rfl⟩
theorem mwX6_step : e_MW YX6_step 2 := ⟨e_memt t1698 rfl, e_memt t291 rfl, by decide, ⟨by decide, by decide⟩, by decide +kernel⟩
theorem iwX6_step : Cond.instanceMethod (⟨"LandHouse$Question", "step", "(IJ)V"⟩ : MethodName) ∈ e_gd := e_memt t1697 rfl
theorem vwX6_step : e_VW YX6_step 6 := ⟨iwX6_step, e_mem (i := 79) (by decide +kernel) rfl, rfl⟩
theorem mwX6_opens : e_MW YX6_opens 0 := ⟨e_memt t1689 rfl, e_memt t291 rfl, by decide, ⟨by decide, by decide⟩, by decide +kernel⟩
theorem iwX6_opens : Cond.instanceMethod (⟨"LandHouse$Question", "opens", "()Z"⟩ : MethodName) ∈ e_gd := e_memt t1688 rfl
theorem vwX6_opens : e_VW YX6_opens 6 := ⟨iwX6_opens, e_mem (i := 78) (by decide +kernel) rfl, rfl⟩
theorem mwX6_readCond : e_MW YX6_readCond 0 := ⟨e_memt t1710 rfl, e_memt t291 rfl, by decide, ⟨by decide, by decide⟩, by decide +kernel⟩
theorem iwX6_readCond : Cond.instanceMethod (⟨"LandHouse$Question", "readCond", "()V"⟩ : MethodName) ∈ e_gd := e_memt t1709 rfl
theorem vwX6_readCond : e_VW YX6_readCond 6 := ⟨iwX6_readCond, e_mem (i := 81) (by decide +kernel) rfl, rfl⟩
theorem mwX6_readOne : e_MW YX6_readOne 0 := ⟨e_memt t1714 rfl, e_memt t291 rfl, by decide, ⟨by decide, by decide⟩, by decide +kernel⟩
theorem iwX6_readOne : Cond.instanceMethod (⟨"LandHouse$Question", "readOne", "()V"⟩ : MethodName) ∈ e_gd := e_memt t1713 rfl
theorem vwX6_readOne : e_VW YX6_readOne 6 := ⟨iwX6_readOne, e_mem (i := 82) (by decide +kernel) rfl, rfl⟩
theorem mwX6_isComparison : e_MW YX6_isComparison 1 := ⟨e_memt t1723 rfl, e_memt t291 rfl, by decide, ⟨by decide, by decide⟩, by decide +kernel⟩
theorem swX6_isComparison : Cond.static (⟨"LandHouse$Question", "isComparison", "(I)Z"⟩ : MethodName) ∈ e_gd := e_memt t1722 rfl
theorem mwX6_readPoint : e_MW YX6_readPoint 0 := ⟨e_memt t1718 rfl, e_memt t291 rfl, by decide, ⟨by decide, by decide⟩, by decide +kernel⟩
theorem iwX6_readPoint : Cond.instanceMethod (⟨"LandHouse$Question", "readPoint", "()V"⟩ : MethodName) ∈ e_gd := e_memt t1717 rfl
theorem vwX6_readPoint : e_VW YX6_readPoint 6 := ⟨iwX6_readPoint, e_mem (i := 83) (by decide +kernel) rfl, rfl⟩
theorem mwX6_readValue : e_MW YX6_readValue 0 := ⟨e_memt t1681 rfl, e_memt t291 rfl, by decide, ⟨by decide, by decide⟩, by decide +kernel⟩
theorem iwX6_readValue : Cond.instanceMethod (⟨"LandHouse$Question", "readValue", "()V"⟩ : MethodName) ∈ e_gd := e_memt t1680 rfl
theorem vwX6_readValue : e_VW YX6_readValue 6 := ⟨iwX6_readValue, e_mem (i := 76) (by decide +kernel) rfl, rfl⟩
theorem mwX6_readFactor : e_MW YX6_readFactor 0 := ⟨e_memt t1685 rfl, e_memt t291 rfl, by decide, ⟨by decide, by decide⟩, by decide +kernel⟩
theorem iwX6_readFactor : Cond.instanceMethod (⟨"LandHouse$Question", "readFactor", "()V"⟩ : MethodName) ∈ e_gd := e_memt t1684 rfl
theorem vwX6_readFactor : e_VW YX6_readFactor 6 := ⟨iwX6_readFactor, e_mem (i := 77) (by decide +kernel) rfl, rfl⟩
theorem mwX7_init : e_MW YX7_init 0 := ⟨e_memt t429 rfl, e_memt t286 rfl, by decide, ⟨by decide, by decide⟩, by decide +kernel⟩
theorem iwX7_init : Cond.instanceMethod (⟨"LandHouse$Reader", "<init>", "()V"⟩ : MethodName) ∈ e_gd := e_memt t428 rfl
theorem mwX7_learn : e_MW YX7_learn 2 := ⟨e_memt t437 rfl, e_memt t286 rfl, by decide, ⟨by decide, by decide⟩, by decide +kernel⟩
theorem iwX7_learn : Cond.instanceMethod (⟨"LandHouse$Reader", "learn", "(Ljava/lang/String;I)I"⟩ : MethodName) ∈ e_gd := e_memt t436 rfl
theorem vwX7_learn : e_VW YX7_learn 7 := ⟨iwX7_learn, e_mem (i := 0) (by decide +kernel) rfl, rfl⟩
theorem mwX7_scan : e_MW YX7_scan 2 := ⟨e_memt t1026 rfl, e_memt t286 rfl, by decide, ⟨by decide, by decide⟩, by decide +kernel⟩
theorem iwX7_scan : Cond.instanceMethod (⟨"LandHouse$Reader", "scan", "([BI)V"⟩ : MethodName) ∈ e_gd := e_memt t1024 rfl
theorem vwX7_scan : e_VW YX7_scan 7 := ⟨iwX7_scan, e_memt t1025 rfl, rfl⟩
theorem mwX7_push : e_MW YX7_push 3 := ⟨e_memt t1059 rfl, e_memt t286 rfl, by decide, ⟨by decide, by decide⟩, by decide +kernel⟩
theorem iwX7_push : Cond.instanceMethod (⟨"LandHouse$Reader", "push", "(IIJ)V"⟩ : MethodName) ∈ e_gd := e_memt t1058 rfl
theorem vwX7_push : e_VW YX7_push 7 := ⟨iwX7_push, e_mem (i := 4) (by decide +kernel) rfl, rfl⟩
theorem mwX7_scanToken : e_MW YX7_scanToken 3 := ⟨e_memt t1033 rfl, e_memt t286 rfl, by decide, ⟨by decide, by decide⟩, by decide +kernel⟩
theorem iwX7_scanToken : Cond.instanceMethod (⟨"LandHouse$Reader", "scanToken", "([BII)I"⟩ : MethodName) ∈ e_gd := e_memt t1032 rfl
theorem vwX7_scanToken : e_VW YX7_scanToken 7 := ⟨iwX7_scanToken, e_mem (i := 3) (by decide +kernel) rfl, rfl⟩
theorem mwX7_scanNumber : e_MW YX7_scanNumber 3 := ⟨e_memt t1067 rfl, e_memt t286 rfl, by decide, ⟨by decide, by decide⟩, by decide +kernel⟩
theorem iwX7_scanNumber : Cond.instanceMethod (⟨"LandHouse$Reader", "scanNumber", "([BII)V"⟩ : MethodName) ∈ e_gd := e_memt t1066 rfl
theorem vwX7_scanNumber : e_VW YX7_scanNumber 7 := ⟨iwX7_scanNumber, e_mem (i := 6) (by decide +kernel) rfl, rfl⟩
theorem mwX7_scanWord : e_MW YX7_scanWord 3 := ⟨e_memt t1071 rfl, e_memt t286 rfl, by decide, ⟨by decide, by decide⟩, by decide +kernel⟩
theorem iwX7_scanWord : Cond.instanceMethod (⟨"LandHouse$Reader", "scanWord", "([BII)V"⟩ : MethodName) ∈ e_gd := e_memt t1070 rfl
theorem vwX7_scanWord : e_VW YX7_scanWord 7 := ⟨iwX7_scanWord, e_mem (i := 7) (by decide +kernel) rfl, rfl⟩
theorem mwX7_scanSign : e_MW YX7_scanSign 3 := ⟨e_memt t1063 rfl, e_memt t286 rfl, by decide, ⟨by decide, by decide⟩, by decide +kernel⟩
theorem iwX7_scanSign : Cond.instanceMethod (⟨"LandHouse$Reader", "scanSign", "([BII)I"⟩ : MethodName) ∈ e_gd := e_memt t1062 rfl
theorem vwX7_scanSign : e_VW YX7_scanSign 7 := ⟨iwX7_scanSign, e_mem (i := 5) (by decide +kernel) rfl, rfl⟩
theorem mwX7_isDigit : e_MW YX7_isDigit 1 := ⟨e_memt t1042 rfl, e_memt t286 rfl, by decide, ⟨by decide, by decide⟩, by decide +kernel⟩
theorem swX7_isDigit : Cond.static (⟨"LandHouse$Reader", "isDigit", "(I)Z"⟩ : MethodName) ∈ e_gd := e_memt t1041 rfl
theorem mwX7_isWordByte : e_MW YX7_isWordByte 1 := ⟨e_memt t1039 rfl, e_memt t286 rfl, by decide, ⟨by decide, by decide⟩, by decide +kernel⟩
theorem swX7_isWordByte : Cond.static (⟨"LandHouse$Reader", "isWordByte", "(I)Z"⟩ : MethodName) ∈ e_gd := e_memt t1038 rfl
theorem mwX7_isDate : e_MW YX7_isDate 3 := ⟨e_memt t1036 rfl, e_memt t286 rfl, by decide, ⟨by decide, by decide⟩, by decide +kernel⟩
theorem swX7_isDate : Cond.static (⟨"LandHouse$Reader", "isDate", "([BII)Z"⟩ : MethodName) ∈ e_gd := e_memt t1035 rfl
theorem mwX7_digits : e_MW YX7_digits 3 := ⟨e_memt t1045 rfl, e_memt t286 rfl, by decide, ⟨by decide, by decide⟩, by decide +kernel⟩
theorem swX7_digits : Cond.static (⟨"LandHouse$Reader", "digits", "([BII)I"⟩ : MethodName) ∈ e_gd := e_memt t1044 rfl
theorem mwX7_note : e_MW YX7_note 1 := ⟨e_memt t1091 rfl, e_memt t286 rfl, by decide, ⟨by decide, by decide⟩, by decide +kernel⟩
theorem iwX7_note : Cond.instanceMethod (⟨"LandHouse$Reader", "note", "(I)V"⟩ : MethodName) ∈ e_gd := e_memt t1089 rfl
theorem vwX7_note : e_VW YX7_note 7 := ⟨iwX7_note, e_memt t1090 rfl, rfl⟩
theorem mwX7_take : e_MW YX7_take 0 := ⟨e_memt t1083 rfl, e_memt t286 rfl, by decide, ⟨by decide, by decide⟩, by decide +kernel⟩
theorem iwX7_take : Cond.instanceMethod (⟨"LandHouse$Reader", "take", "()V"⟩ : MethodName) ∈ e_gd := e_memt t1081 rfl
theorem vwX7_take : e_VW YX7_take 7 := ⟨iwX7_take, e_memt t1082 rfl, rfl⟩
theorem mwX7_expect : e_MW YX7_expect 1 := ⟨e_memt t1087 rfl, e_memt t286 rfl, by decide, ⟨by decide, by decide⟩, by decide +kernel⟩
theorem iwX7_expect : Cond.instanceMethod (⟨"LandHouse$Reader", "expect", "(I)V"⟩ : MethodName) ∈ e_gd := e_memt t1085 rfl
theorem vwX7_expect : e_VW YX7_expect 7 := ⟨iwX7_expect, e_memt t1086 rfl, rfl⟩
theorem mwX7_told : e_MW YX7_told 0 := ⟨e_memt t1694 rfl, e_memt t286 rfl, by decide, ⟨by decide, by decide⟩, by decide +kernel⟩
theorem iwX7_told : Cond.instanceMethod (⟨"LandHouse$Reader", "told", "()J"⟩ : MethodName) ∈ e_gd := e_memt t1692 rfl
theorem vwX7_told : e_VW YX7_told 7 := ⟨iwX7_told, e_memt t1693 rfl, rfl⟩
theorem mwX7_takeName : e_MW YX7_takeName 0 := ⟨e_memt t1702 rfl, e_memt t286 rfl, by decide, ⟨by decide, by decide⟩, by decide +kernel⟩
theorem iwX7_takeName : Cond.instanceMethod (⟨"LandHouse$Reader", "takeName", "()J"⟩ : MethodName) ∈ e_gd := e_memt t1700 rfl
theorem vwX7_takeName : e_VW YX7_takeName 7 := ⟨iwX7_takeName, e_memt t1701 rfl, rfl⟩
theorem mwX7_takeNumber : e_MW YX7_takeNumber 0 := ⟨e_memt t1147 rfl, e_memt t286 rfl, by decide, ⟨by decide, by decide⟩, by decide +kernel⟩
theorem iwX7_takeNumber : Cond.instanceMethod (⟨"LandHouse$Reader", "takeNumber", "()I"⟩ : MethodName) ∈ e_gd := e_memt t1145 rfl
theorem vwX7_takeNumber : e_VW YX7_takeNumber 7 := ⟨iwX7_takeNumber, e_memt t1146 rfl, rfl⟩
theorem mwX7_takeDate : e_MW YX7_takeDate 0 := ⟨e_memt t1103 rfl, e_memt t286 rfl, by decide, ⟨by decide, by decide⟩, by decide +kernel⟩
theorem iwX7_takeDate : Cond.instanceMethod (⟨"LandHouse$Reader", "takeDate", "()I"⟩ : MethodName) ∈ e_gd := e_memt t1101 rfl
theorem vwX7_takeDate : e_VW YX7_takeDate 7 := ⟨iwX7_takeDate, e_memt t1102 rfl, rfl⟩
theorem mwX7_finish : e_MW YX7_finish 0 := ⟨e_memt t1175 rfl, e_memt t286 rfl, by decide, ⟨by decide, by decide⟩, by decide +kernel⟩
theorem iwX7_finish : Cond.instanceMethod (⟨"LandHouse$Reader", "finish", "()V"⟩ : MethodName) ∈ e_gd := e_memt t1173 rfl
theorem vwX7_finish : e_VW YX7_finish 7 := ⟨iwX7_finish, e_memt t1174 rfl, rfl⟩
theorem mwX7_readEntry : e_MW YX7_readEntry 3 := ⟨e_memt t1075 rfl, e_memt t286 rfl, by decide, ⟨by decide, by decide⟩, by decide +kernel⟩
theorem iwX7_readEntry : Cond.instanceMethod (⟨"LandHouse$Reader", "readEntry", "(LLandHouse$Deed;[LLandHouse$Deed;I)Z"⟩ : MethodName) ∈ e_gd := e_memt t1073 rfl
theorem vwX7_readEntry : e_VW YX7_readEntry 7 := ⟨iwX7_readEntry, e_memt t1074 rfl, rfl⟩
theorem mwX7_readDeedAlone : e_MW YX7_readDeedAlone 1 := ⟨e_memt t1187 rfl, e_memt t286 rfl, by decide, ⟨by decide, by decide⟩, by decide +kernel⟩
theorem iwX7_readDeedAlone : Cond.instanceMethod (⟨"LandHouse$Reader", "readDeedAlone", "(LLandHouse$Deed;)Z"⟩ : MethodName) ∈ e_gd := e_memt t1185 rfl
theorem vwX7_readDeedAlone : e_VW YX7_readDeedAlone 7 := ⟨iwX7_readDeedAlone, e_memt t1186 rfl, rfl⟩
theorem mwX7_readTarget : e_MW YX7_readTarget 2 := ⟨e_memt t1095 rfl, e_memt t286 rfl, by decide, ⟨by decide, by decide⟩, by decide +kernel⟩
theorem iwX7_readTarget : Cond.instanceMethod (⟨"LandHouse$Reader", "readTarget", "([LLandHouse$Deed;I)V"⟩ : MethodName) ∈ e_gd := e_memt t1094 rfl
theorem vwX7_readTarget : e_VW YX7_readTarget 7 := ⟨iwX7_readTarget, e_mem (i := 8) (by decide +kernel) rfl, rfl⟩
theorem mwX7_readDeed : e_MW YX7_readDeed 0 := ⟨e_memt t1099 rfl, e_memt t286 rfl, by decide, ⟨by decide, by decide⟩, by decide +kernel⟩
theorem iwX7_readDeed : Cond.instanceMethod (⟨"LandHouse$Reader", "readDeed", "()V"⟩ : MethodName) ∈ e_gd := e_memt t1098 rfl
theorem vwX7_readDeed : e_VW YX7_readDeed 7 := ⟨iwX7_readDeed, e_mem (i := 9) (by decide +kernel) rfl, rfl⟩
theorem mwX7_named : e_MW YX7_named 1 := ⟨e_memt t1111 rfl, e_memt t286 rfl, by decide, ⟨by decide, by decide⟩, by decide +kernel⟩
theorem iwX7_named : Cond.instanceMethod (⟨"LandHouse$Reader", "named", "(I)V"⟩ : MethodName) ∈ e_gd := e_memt t1110 rfl
theorem vwX7_named : e_VW YX7_named 7 := ⟨iwX7_named, e_mem (i := 11) (by decide +kernel) rfl, rfl⟩
theorem mwX7_readOfPersons : e_MW YX7_readOfPersons 1 := ⟨e_memt t1107 rfl, e_memt t286 rfl, by decide, ⟨by decide, by decide⟩, by decide +kernel⟩
theorem iwX7_readOfPersons : Cond.instanceMethod (⟨"LandHouse$Reader", "readOfPersons", "(I)V"⟩ : MethodName) ∈ e_gd := e_memt t1106 rfl
theorem vwX7_readOfPersons : e_VW YX7_readOfPersons 7 := ⟨iwX7_readOfPersons, e_mem (i := 10) (by decide +kernel) rfl, rfl⟩
theorem mwX7_readOfLots : e_MW YX7_readOfLots 1 := ⟨e_memt t1139 rfl, e_memt t286 rfl, by decide, ⟨by decide, by decide⟩, by decide +kernel⟩
theorem iwX7_readOfLots : Cond.instanceMethod (⟨"LandHouse$Reader", "readOfLots", "(I)V"⟩ : MethodName) ∈ e_gd := e_memt t1138 rfl
theorem vwX7_readOfLots : e_VW YX7_readOfLots 7 := ⟨iwX7_readOfLots, e_mem (i := 15) (by decide +kernel) rfl, rfl⟩
theorem mwX7_readOfCharges : e_MW YX7_readOfCharges 1 := ⟨e_memt t1159 rfl, e_memt t286 rfl, by decide, ⟨by decide, by decide⟩, by decide +kernel⟩
theorem iwX7_readOfCharges : Cond.instanceMethod (⟨"LandHouse$Reader", "readOfCharges", "(I)V"⟩ : MethodName) ∈ e_gd := e_memt t1158 rfl
theorem vwX7_readOfCharges : e_VW YX7_readOfCharges 7 := ⟨iwX7_readOfCharges, e_mem (i := 18) (by decide +kernel) rfl, rfl⟩
theorem mwX7_readOfServes : e_MW YX7_readOfServes 1 := ⟨e_memt t1167 rfl, e_memt t286 rfl, by decide, ⟨by decide, by decide⟩, by decide +kernel⟩
theorem iwX7_readOfServes : Cond.instanceMethod (⟨"LandHouse$Reader", "readOfServes", "(I)V"⟩ : MethodName) ∈ e_gd := e_memt t1166 rfl
theorem vwX7_readOfServes : e_VW YX7_readOfServes 7 := ⟨iwX7_readOfServes, e_mem (i := 20) (by decide +kernel) rfl, rfl⟩
theorem mwX7_readOfTerms : e_MW YX7_readOfTerms 1 := ⟨e_memt t1171 rfl, e_memt t286 rfl, by decide, ⟨by decide, by decide⟩, by decide +kernel⟩
theorem iwX7_readOfTerms : Cond.instanceMethod (⟨"LandHouse$Reader", "readOfTerms", "(I)V"⟩ : MethodName) ∈ e_gd := e_memt t1170 rfl
theorem vwX7_readOfTerms : e_VW YX7_readOfTerms 7 := ⟨iwX7_readOfTerms, e_mem (i := 21) (by decide +kernel) rfl, rfl⟩
theorem mwX7_readPrice : e_MW YX7_readPrice 0 := ⟨e_memt t1143 rfl, e_memt t286 rfl, by decide, ⟨by decide, by decide⟩, by decide +kernel⟩
theorem iwX7_readPrice : Cond.instanceMethod (⟨"LandHouse$Reader", "readPrice", "()V"⟩ : MethodName) ∈ e_gd := e_memt t1142 rfl
theorem vwX7_readPrice : e_VW YX7_readPrice 7 := ⟨iwX7_readPrice, e_mem (i := 16) (by decide +kernel) rfl, rfl⟩
theorem mwX7_readParts : e_MW YX7_readParts 0 := ⟨e_memt t1119 rfl, e_memt t286 rfl, by decide, ⟨by decide, by decide⟩, by decide +kernel⟩
theorem iwX7_readParts : Cond.instanceMethod (⟨"LandHouse$Reader", "readParts", "()V"⟩ : MethodName) ∈ e_gd := e_memt t1118 rfl
theorem vwX7_readParts : e_VW YX7_readParts 7 := ⟨iwX7_readParts, e_mem (i := 12) (by decide +kernel) rfl, rfl⟩
theorem mwX7_readShare : e_MW YX7_readShare 0 := ⟨e_memt t1123 rfl, e_memt t286 rfl, by decide, ⟨by decide, by decide⟩, by decide +kernel⟩
theorem iwX7_readShare : Cond.instanceMethod (⟨"LandHouse$Reader", "readShare", "()V"⟩ : MethodName) ∈ e_gd := e_memt t1122 rfl
theorem vwX7_readShare : e_VW YX7_readShare 7 := ⟨iwX7_readShare, e_mem (i := 13) (by decide +kernel) rfl, rfl⟩
theorem mwX7_checkShareNumber : e_MW YX7_checkShareNumber 0 := ⟨e_memt t1127 rfl, e_memt t286 rfl, by decide, ⟨by decide, by decide⟩, by decide +kernel⟩
theorem iwX7_checkShareNumber : Cond.instanceMethod (⟨"LandHouse$Reader", "checkShareNumber", "()V"⟩ : MethodName) ∈ e_gd := e_memt t1126 rfl
theorem vwX7_checkShareNumber : e_VW YX7_checkShareNumber 7 := ⟨iwX7_checkShareNumber, e_mem (i := 14) (by decide +kernel) rfl, rfl⟩
theorem mwX7_readLots : e_MW YX7_readLots 0 := ⟨e_memt t1163 rfl, e_memt t286 rfl, by decide, ⟨by decide, by decide⟩, by decide +kernel⟩
theorem iwX7_readLots : Cond.instanceMethod (⟨"LandHouse$Reader", "readLots", "()V"⟩ : MethodName) ∈ e_gd := e_memt t1162 rfl
theorem vwX7_readLots : e_VW YX7_readLots 7 := ⟨iwX7_readLots, e_mem (i := 19) (by decide +kernel) rfl, rfl⟩
theorem mwX7_readPoints : e_MW YX7_readPoints 0 := ⟨e_memt t1151 rfl, e_memt t286 rfl, by decide, ⟨by decide, by decide⟩, by decide +kernel⟩
theorem iwX7_readPoints : Cond.instanceMethod (⟨"LandHouse$Reader", "readPoints", "()V"⟩ : MethodName) ∈ e_gd := e_memt t1150 rfl
theorem vwX7_readPoints : e_VW YX7_readPoints 7 := ⟨iwX7_readPoints, e_mem (i := 17) (by decide +kernel) rfl, rfl⟩
theorem mwX8_init : e_MW YX8_init 0 := ⟨e_memt t629 rfl, e_memt t295 rfl, by decide, ⟨by decide, by decide⟩, by decide +kernel⟩
theorem iwX8_init : Cond.instanceMethod (⟨"LandHouse$Row", "<init>", "()V"⟩ : MethodName) ∈ e_gd := e_memt t628 rfl
theorem mwX8_clear : e_MW YX8_clear 0 := ⟨e_memt t1236 rfl, e_memt t295 rfl, by decide, ⟨by decide, by decide⟩, by decide +kernel⟩
theorem iwX8_clear : Cond.instanceMethod (⟨"LandHouse$Row", "clear", "()V"⟩ : MethodName) ∈ e_gd := e_memt t1234 rfl
theorem vwX8_clear : e_VW YX8_clear 8 := ⟨iwX8_clear, e_memt t1235 rfl, rfl⟩
theorem mwX8_get : e_MW YX8_get 1 := ⟨e_memt t1576 rfl, e_memt t295 rfl, by decide, ⟨by decide, by decide⟩, by decide +kernel⟩
theorem iwX8_get : Cond.instanceMethod (⟨"LandHouse$Row", "get", "(I)I"⟩ : MethodName) ∈ e_gd := e_memt t1574 rfl
theorem vwX8_get : e_VW YX8_get 8 := ⟨iwX8_get, e_memt t1575 rfl, rfl⟩
theorem mwX8_find : e_MW YX8_find 1 := ⟨e_memt t1388 rfl, e_memt t295 rfl, by decide, ⟨by decide, by decide⟩, by decide +kernel⟩
theorem iwX8_find : Cond.instanceMethod (⟨"LandHouse$Row", "find", "(I)I"⟩ : MethodName) ∈ e_gd := e_memt t1386 rfl
theorem vwX8_find : e_VW YX8_find 8 := ⟨iwX8_find, e_memt t1387 rfl, rfl⟩
theorem mwX8_has : e_MW YX8_has 1 := ⟨e_memt t1384 rfl, e_memt t295 rfl, by decide, ⟨by decide, by decide⟩, by decide +kernel⟩
theorem iwX8_has : Cond.instanceMethod (⟨"LandHouse$Row", "has", "(I)Z"⟩ : MethodName) ∈ e_gd := e_memt t1382 rfl
theorem vwX8_has : e_VW YX8_has 8 := ⟨iwX8_has, e_memt t1383 rfl, rfl⟩
theorem mwX8_insert : e_MW YX8_insert 2 := ⟨e_memt t1400 rfl, e_memt t295 rfl, by decide, ⟨by decide, by decide⟩, by decide +kernel⟩
theorem iwX8_insert : Cond.instanceMethod (⟨"LandHouse$Row", "insert", "(II)V"⟩ : MethodName) ∈ e_gd := e_memt t1398 rfl
theorem vwX8_insert : e_VW YX8_insert 8 := ⟨iwX8_insert, e_memt t1399 rfl, rfl⟩
theorem mwX8_add : e_MW YX8_add 1 := ⟨e_memt t1396 rfl, e_memt t295 rfl, by decide, ⟨by decide, by decide⟩, by decide +kernel⟩
theorem iwX8_add : Cond.instanceMethod (⟨"LandHouse$Row", "add", "(I)V"⟩ : MethodName) ∈ e_gd := e_memt t1394 rfl
theorem vwX8_add : e_VW YX8_add 8 := ⟨iwX8_add, e_memt t1395 rfl, rfl⟩
theorem mwX8_remove : e_MW YX8_remove 1 := ⟨e_memt t1504 rfl, e_memt t295 rfl, by decide, ⟨by decide, by decide⟩, by decide +kernel⟩
theorem iwX8_remove : Cond.instanceMethod (⟨"LandHouse$Row", "remove", "(I)V"⟩ : MethodName) ∈ e_gd := e_memt t1502 rfl
theorem vwX8_remove : e_VW YX8_remove 8 := ⟨iwX8_remove, e_memt t1503 rfl, rfl⟩
theorem mwX8_copy : e_MW YX8_copy 1 := ⟨e_memt t1489 rfl, e_memt t295 rfl, by decide, ⟨by decide, by decide⟩, by decide +kernel⟩
theorem iwX8_copy : Cond.instanceMethod (⟨"LandHouse$Row", "copy", "(LLandHouse$Row;)V"⟩ : MethodName) ∈ e_gd := e_memt t1487 rfl
theorem vwX8_copy : e_VW YX8_copy 8 := ⟨iwX8_copy, e_memt t1488 rfl, rfl⟩
theorem mwX8_isSame : e_MW YX8_isSame 1 := ⟨e_memt t1520 rfl, e_memt t295 rfl, by decide, ⟨by decide, by decide⟩, by decide +kernel⟩
theorem iwX8_isSame : Cond.instanceMethod (⟨"LandHouse$Row", "isSame", "(LLandHouse$Row;)Z"⟩ : MethodName) ∈ e_gd := e_memt t1518 rfl
theorem vwX8_isSame : e_VW YX8_isSame 8 := ⟨iwX8_isSame, e_memt t1519 rfl, rfl⟩
theorem mwX8_part : e_MW YX8_part 3 := ⟨e_memt t1500 rfl, e_memt t295 rfl, by decide, ⟨by decide, by decide⟩, by decide +kernel⟩
theorem iwX8_part : Cond.instanceMethod (⟨"LandHouse$Row", "part", "(III)V"⟩ : MethodName) ∈ e_gd := e_memt t1498 rfl
theorem vwX8_part : e_VW YX8_part 8 := ⟨iwX8_part, e_memt t1499 rfl, rfl⟩
theorem mwX8_merge : e_MW YX8_merge 3 := ⟨e_memt t1555 rfl, e_memt t295 rfl, by decide, ⟨by decide, by decide⟩, by decide +kernel⟩
theorem iwX8_merge : Cond.instanceMethod (⟨"LandHouse$Row", "merge", "(III)V"⟩ : MethodName) ∈ e_gd := e_memt t1553 rfl
theorem vwX8_merge : e_VW YX8_merge 8 := ⟨iwX8_merge, e_memt t1554 rfl, rfl⟩
theorem mwX9_init : e_MW YX9_init 1 := ⟨e_memt t703 rfl, e_memt t296 rfl, by decide, ⟨by decide, by decide⟩, by decide +kernel⟩
theorem iwX9_init : Cond.instanceMethod (⟨"LandHouse$Thing", "<init>", "(LLandHouse$Deed;)V"⟩ : MethodName) ∈ e_gd := e_memt t702 rfl
theorem mwX9_begin : e_MW YX9_begin 3 := ⟨e_memt t1215 rfl, e_memt t296 rfl, by decide, ⟨by decide, by decide⟩, by decide +kernel⟩
theorem iwX9_begin : Cond.instanceMethod (⟨"LandHouse$Thing", "begin", "(JLLandHouse$Deed;I)V"⟩ : MethodName) ∈ e_gd := e_memt t1213 rfl
theorem vwX9_begin : e_VW YX9_begin 9 := ⟨iwX9_begin, e_memt t1214 rfl, rfl⟩
theorem mwX9_isThere : e_MW YX9_isThere 1 := ⟨e_memt t1297 rfl, e_memt t296 rfl, by decide, ⟨by decide, by decide⟩, by decide +kernel⟩
theorem iwX9_isThere : Cond.instanceMethod (⟨"LandHouse$Thing", "isThere", "(I)Z"⟩ : MethodName) ∈ e_gd := e_memt t1295 rfl
theorem vwX9_isThere : e_VW YX9_isThere 9 := ⟨iwX9_isThere, e_memt t1296 rfl, rfl⟩
theorem mwX10_init : e_MW YX10_init 0 := ⟨e_memt t584 rfl, e_memt t292 rfl, by decide, ⟨by decide, by decide⟩, by decide +kernel⟩
theorem iwX10_init : Cond.instanceMethod (⟨"LandHouse$World", "<init>", "()V"⟩ : MethodName) ∈ e_gd := e_memt t583 rfl
theorem mwX10_isOf : e_MW YX10_isOf 3 := ⟨e_memt t1195 rfl, e_memt t292 rfl, by decide, ⟨by decide, by decide⟩, by decide +kernel⟩
theorem iwX10_isOf : Cond.instanceMethod (⟨"LandHouse$World", "isOf", "(III)Z"⟩ : MethodName) ∈ e_gd := e_memt t1193 rfl
theorem vwX10_isOf : e_VW YX10_isOf 10 := ⟨iwX10_isOf, e_memt t1194 rfl, rfl⟩
theorem mwX10_forget : e_MW YX10_forget 0 := ⟨e_memt t1654 rfl, e_memt t292 rfl, by decide, ⟨by decide, by decide⟩, by decide +kernel⟩
theorem iwX10_forget : Cond.instanceMethod (⟨"LandHouse$World", "forget", "()V"⟩ : MethodName) ∈ e_gd := e_memt t1652 rfl
theorem vwX10_forget : e_VW YX10_forget 10 := ⟨iwX10_forget, e_memt t1653 rfl, rfl⟩
theorem mwX10_begin : e_MW YX10_begin 3 := ⟨e_memt t1199 rfl, e_memt t292 rfl, by decide, ⟨by decide, by decide⟩, by decide +kernel⟩
theorem iwX10_begin : Cond.instanceMethod (⟨"LandHouse$World", "begin", "(III)V"⟩ : MethodName) ∈ e_gd := e_memt t1197 rfl
theorem vwX10_begin : e_VW YX10_begin 10 := ⟨iwX10_begin, e_memt t1198 rfl, rfl⟩
theorem mwX10_weighOrders : e_MW YX10_weighOrders 1 := ⟨e_memt t1265 rfl, e_memt t292 rfl, by decide, ⟨by decide, by decide⟩, by decide +kernel⟩
theorem iwX10_weighOrders : Cond.instanceMethod (⟨"LandHouse$World", "weighOrders", "([LLandHouse$Deed;)V"⟩ : MethodName) ∈ e_gd := e_memt t1263 rfl
theorem vwX10_weighOrders : e_VW YX10_weighOrders 10 := ⟨iwX10_weighOrders, e_memt t1264 rfl, rfl⟩
theorem mwX10_lineUp : e_MW YX10_lineUp 1 := ⟨e_memt t1269 rfl, e_memt t292 rfl, by decide, ⟨by decide, by decide⟩, by decide +kernel⟩
theorem iwX10_lineUp : Cond.instanceMethod (⟨"LandHouse$World", "lineUp", "([LLandHouse$Deed;)V"⟩ : MethodName) ∈ e_gd := e_memt t1267 rfl
theorem vwX10_lineUp : e_VW YX10_lineUp 10 := ⟨iwX10_lineUp, e_memt t1268 rfl, rfl⟩
theorem mwX10_settle : e_MW YX10_settle 2 := ⟨e_memt t1650 rfl, e_memt t292 rfl, by decide, ⟨by decide, by decide⟩, by decide +kernel⟩
theorem iwX10_settle : Cond.instanceMethod (⟨"LandHouse$World", "settle", "(II)V"⟩ : MethodName) ∈ e_gd := e_memt t1648 rfl
theorem vwX10_settle : e_VW YX10_settle 10 := ⟨iwX10_settle, e_memt t1649 rfl, rfl⟩
theorem mwX10_isFull : e_MW YX10_isFull 1 := ⟨e_memt t1209 rfl, e_memt t292 rfl, by decide, ⟨by decide, by decide⟩, by decide +kernel⟩
theorem iwX10_isFull : Cond.instanceMethod (⟨"LandHouse$World", "isFull", "(I)Z"⟩ : MethodName) ∈ e_gd := e_memt t1207 rfl
theorem vwX10_isFull : e_VW YX10_isFull 10 := ⟨iwX10_isFull, e_memt t1208 rfl, rfl⟩
theorem mwX10_addLot : e_MW YX10_addLot 1 := ⟨e_memt t1224 rfl, e_memt t292 rfl, by decide, ⟨by decide, by decide⟩, by decide +kernel⟩
theorem iwX10_addLot : Cond.instanceMethod (⟨"LandHouse$World", "addLot", "(J)I"⟩ : MethodName) ∈ e_gd := e_memt t1222 rfl
theorem vwX10_addLot : e_VW YX10_addLot 10 := ⟨iwX10_addLot, e_memt t1223 rfl, rfl⟩
theorem mwX10_isThere : e_MW YX10_isThere 2 := ⟨e_memt t1293 rfl, e_memt t292 rfl, by decide, ⟨by decide, by decide⟩, by decide +kernel⟩
theorem iwX10_isThere : Cond.instanceMethod (⟨"LandHouse$World", "isThere", "(II)Z"⟩ : MethodName) ∈ e_gd := e_memt t1291 rfl
theorem vwX10_isThere : e_VW YX10_isThere 10 := ⟨iwX10_isThere, e_memt t1292 rfl, rfl⟩
theorem mwX10_nameOf : e_MW YX10_nameOf 2 := ⟨e_memt t1760 rfl, e_memt t292 rfl, by decide, ⟨by decide, by decide⟩, by decide +kernel⟩
theorem iwX10_nameOf : Cond.instanceMethod (⟨"LandHouse$World", "nameOf", "(II)J"⟩ : MethodName) ∈ e_gd := e_memt t1758 rfl
theorem vwX10_nameOf : e_VW YX10_nameOf 10 := ⟨iwX10_nameOf, e_memt t1759 rfl, rfl⟩
theorem mwX10_find : e_MW YX10_find 1 := ⟨e_memt t1281 rfl, e_memt t292 rfl, by decide, ⟨by decide, by decide⟩, by decide +kernel⟩
theorem iwX10_find : Cond.instanceMethod (⟨"LandHouse$World", "find", "(J)I"⟩ : MethodName) ∈ e_gd := e_memt t1279 rfl
theorem vwX10_find : e_VW YX10_find 10 := ⟨iwX10_find, e_memt t1280 rfl, rfl⟩
theorem mwX10_howMany : e_MW YX10_howMany 1 := ⟨e_memt t1943 rfl, e_memt t292 rfl, by decide, ⟨by decide, by decide⟩, by decide +kernel⟩
theorem iwX10_howMany : Cond.instanceMethod (⟨"LandHouse$World", "howMany", "(I)I"⟩ : MethodName) ∈ e_gd := e_memt t1941 rfl
theorem vwX10_howMany : e_VW YX10_howMany 10 := ⟨iwX10_howMany, e_memt t1942 rfl, rfl⟩
theorem mwX10_numberOf : e_MW YX10_numberOf 2 := ⟨e_memt t2081 rfl, e_memt t292 rfl, by decide, ⟨by decide, by decide⟩, by decide +kernel⟩
theorem iwX10_numberOf : Cond.instanceMethod (⟨"LandHouse$World", "numberOf", "(II)I"⟩ : MethodName) ∈ e_gd := e_memt t2079 rfl
theorem vwX10_numberOf : e_VW YX10_numberOf 10 := ⟨iwX10_numberOf, e_memt t2080 rfl, rfl⟩
theorem mwX10_isOfAge : e_MW YX10_isOfAge 1 := ⟨e_memt t1321 rfl, e_memt t292 rfl, by decide, ⟨by decide, by decide⟩, by decide +kernel⟩
theorem iwX10_isOfAge : Cond.instanceMethod (⟨"LandHouse$World", "isOfAge", "(I)Z"⟩ : MethodName) ∈ e_gd := e_memt t1319 rfl
theorem vwX10_isOfAge : e_VW YX10_isOfAge 10 := ⟨iwX10_isOfAge, e_memt t1320 rfl, rfl⟩
theorem mwX10_isAble : e_MW YX10_isAble 1 := ⟨e_memt t1375 rfl, e_memt t292 rfl, by decide, ⟨by decide, by decide⟩, by decide +kernel⟩
theorem iwX10_isAble : Cond.instanceMethod (⟨"LandHouse$World", "isAble", "(I)Z"⟩ : MethodName) ∈ e_gd := e_memt t1373 rfl
theorem vwX10_isAble : e_VW YX10_isAble 10 := ⟨iwX10_isAble, e_memt t1374 rfl, rfl⟩
theorem mwX10_lotsAt : e_MW YX10_lotsAt 3 := ⟨e_memt t1952 rfl, e_memt t292 rfl, by decide, ⟨by decide, by decide⟩, by decide +kernel⟩
theorem iwX10_lotsAt : Cond.instanceMethod (⟨"LandHouse$World", "lotsAt", "(III)I"⟩ : MethodName) ∈ e_gd := e_memt t1950 rfl
theorem vwX10_lotsAt : e_VW YX10_lotsAt 10 := ⟨iwX10_lotsAt, e_memt t1951 rfl, rfl⟩
theorem mwX10_fact : e_MW YX10_fact 3 := ⟨e_memt t1973 rfl, e_memt t292 rfl, by decide, ⟨by decide, by decide⟩, by decide +kernel⟩
theorem iwX10_fact : Cond.instanceMethod (⟨"LandHouse$World", "fact", "(III)I"⟩ : MethodName) ∈ e_gd := e_memt t1971 rfl
theorem vwX10_fact : e_VW YX10_fact 10 := ⟨iwX10_fact, e_memt t1972 rfl, rfl⟩
theorem mwX10_lotFact : e_MW YX10_lotFact 2 := ⟨e_memt t1976 rfl, e_memt t292 rfl, by decide, ⟨by decide, by decide⟩, by decide +kernel⟩
theorem swX10_lotFact : Cond.static (⟨"LandHouse$World", "lotFact", "(LLandHouse$Lot;I)I"⟩ : MethodName) ∈ e_gd := e_memt t1975 rfl
theorem mwX10_personFact : e_MW YX10_personFact 2 := ⟨e_memt t1981 rfl, e_memt t292 rfl, by decide, ⟨by decide, by decide⟩, by decide +kernel⟩
theorem iwX10_personFact : Cond.instanceMethod (⟨"LandHouse$World", "personFact", "(II)I"⟩ : MethodName) ∈ e_gd := e_memt t1980 rfl
theorem vwX10_personFact : e_VW YX10_personFact 10 := ⟨iwX10_personFact, e_mem (i := 116) (by decide +kernel) rfl, rfl⟩
theorem mwX10_serveFact : e_MW YX10_serveFact 2 := ⟨e_memt t1985 rfl, e_memt t292 rfl, by decide, ⟨by decide, by decide⟩, by decide +kernel⟩
theorem swX10_serveFact : Cond.static (⟨"LandHouse$World", "serveFact", "(LLandHouse$Thing;I)I"⟩ : MethodName) ∈ e_gd := e_memt t1984 rfl
theorem mwX10_leaseFact : e_MW YX10_leaseFact 2 := ⟨e_memt t1988 rfl, e_memt t292 rfl, by decide, ⟨by decide, by decide⟩, by decide +kernel⟩
theorem swX10_leaseFact : Cond.static (⟨"LandHouse$World", "leaseFact", "(LLandHouse$Thing;I)I"⟩ : MethodName) ∈ e_gd := e_memt t1987 rfl
theorem mwX10_ownerFact : e_MW YX10_ownerFact 3 := ⟨e_memt t1996 rfl, e_memt t292 rfl, by decide, ⟨by decide, by decide⟩, by decide +kernel⟩
theorem iwX10_ownerFact : Cond.instanceMethod (⟨"LandHouse$World", "ownerFact", "(LLandHouse$Lot;II)I"⟩ : MethodName) ∈ e_gd := e_memt t1994 rfl
theorem vwX10_ownerFact : e_VW YX10_ownerFact 10 := ⟨iwX10_ownerFact, e_memt t1995 rfl, rfl⟩
theorem mwX10_mix : e_MW YX10_mix 2 := ⟨e_memt t1966 rfl, e_memt t292 rfl, by decide, ⟨by decide, by decide⟩, by decide +kernel⟩
theorem swX10_mix : Cond.static (⟨"LandHouse$World", "mix", "(JJ)J"⟩ : MethodName) ∈ e_gd := e_memt t1965 rfl
theorem mwX10_mixIn : e_MW YX10_mixIn 3 := ⟨e_memt t1962 rfl, e_memt t292 rfl, by decide, ⟨by decide, by decide⟩, by decide +kernel⟩
theorem iwX10_mixIn : Cond.instanceMethod (⟨"LandHouse$World", "mixIn", "(JII)J"⟩ : MethodName) ∈ e_gd := e_memt t1960 rfl
theorem vwX10_mixIn : e_VW YX10_mixIn 10 := ⟨iwX10_mixIn, e_memt t1961 rfl, rfl⟩
theorem mwX10_mixLot : e_MW YX10_mixLot 2 := ⟨e_memt t1992 rfl, e_memt t292 rfl, by decide, ⟨by decide, by decide⟩, by decide +kernel⟩
theorem iwX10_mixLot : Cond.instanceMethod (⟨"LandHouse$World", "mixLot", "(JLLandHouse$Lot;)J"⟩ : MethodName) ∈ e_gd := e_memt t1991 rfl
theorem vwX10_mixLot : e_VW YX10_mixLot 10 := ⟨iwX10_mixLot, e_mem (i := 117) (by decide +kernel) rfl, rfl⟩
theorem mwX11_init : e_MW YX11_init 0 := ⟨e_memt t311 rfl, e_memt t284 rfl, by decide, ⟨by decide, by decide⟩, by decide +kernel⟩
theorem iwX11_init : Cond.instanceMethod (⟨"LandHouse", "<init>", "()V"⟩ : MethodName) ∈ e_gd := e_memt t310 rfl
theorem mwX11_feed : e_MW YX11_feed 5 := ⟨e_memt t1001 rfl, e_memt t284 rfl, by decide, ⟨by decide, by decide⟩, by decide +kernel⟩
theorem iwX11_feed : Cond.instanceMethod (⟨"LandHouse", "feed", "(IIIII)Z"⟩ : MethodName) ∈ e_gd := e_memt t999 rfl
theorem vwX11_feed : e_VW YX11_feed 11 := ⟨iwX11_feed, e_memt t1000 rfl, rfl⟩
theorem mwX11_feedFour : e_MW YX11_feedFour 1 := ⟨e_memt t1005 rfl, e_memt t284 rfl, by decide, ⟨by decide, by decide⟩, by decide +kernel⟩
theorem iwX11_feedFour : Cond.instanceMethod (⟨"LandHouse", "feedFour", "(I)V"⟩ : MethodName) ∈ e_gd := e_memt t1004 rfl
theorem vwX11_feedFour : e_VW YX11_feedFour 11 := ⟨iwX11_feedFour, e_mem (i := 1) (by decide +kernel) rfl, rfl⟩
theorem mwX11_end : e_MW YX11_end 1 := ⟨e_memt t1009 rfl, e_memt t284 rfl, by decide, ⟨by decide, by decide⟩, by decide +kernel⟩
theorem iwX11_end : Cond.instanceMethod (⟨"LandHouse", "end", "(I)Z"⟩ : MethodName) ∈ e_gd := e_memt t1007 rfl
theorem vwX11_end : e_VW YX11_end 11 := ⟨iwX11_end, e_memt t1008 rfl, rfl⟩
theorem mwX11_clock : e_MW YX11_clock 1 := ⟨e_memt t1013 rfl, e_memt t284 rfl, by decide, ⟨by decide, by decide⟩, by decide +kernel⟩
theorem iwX11_clock : Cond.instanceMethod (⟨"LandHouse", "clock", "(I)Z"⟩ : MethodName) ∈ e_gd := e_memt t1011 rfl
theorem vwX11_clock : e_VW YX11_clock 11 := ⟨iwX11_clock, e_memt t1012 rfl, rfl⟩
theorem mwX11_enter : e_MW YX11_enter 0 := ⟨e_memt t1018 rfl, e_memt t284 rfl, by decide, ⟨by decide, by decide⟩, by decide +kernel⟩
theorem iwX11_enter : Cond.instanceMethod (⟨"LandHouse", "enter", "()I"⟩ : MethodName) ∈ e_gd := e_memt t1016 rfl
theorem vwX11_enter : e_VW YX11_enter 11 := ⟨iwX11_enter, e_memt t1017 rfl, rfl⟩
theorem mwX11_fault : e_MW YX11_fault 0 := ⟨e_memt t1179 rfl, e_memt t284 rfl, by decide, ⟨by decide, by decide⟩, by decide +kernel⟩
theorem iwX11_fault : Cond.instanceMethod (⟨"LandHouse", "fault", "()I"⟩ : MethodName) ∈ e_gd := e_memt t1177 rfl
theorem vwX11_fault : e_VW YX11_fault 11 := ⟨iwX11_fault, e_memt t1178 rfl, rfl⟩
theorem mwX11_suppose : e_MW YX11_suppose 0 := ⟨e_memt t1183 rfl, e_memt t284 rfl, by decide, ⟨by decide, by decide⟩, by decide +kernel⟩
theorem iwX11_suppose : Cond.instanceMethod (⟨"LandHouse", "suppose", "()I"⟩ : MethodName) ∈ e_gd := e_memt t1181 rfl
theorem vwX11_suppose : e_VW YX11_suppose 11 := ⟨iwX11_suppose, e_memt t1182 rfl, rfl⟩
theorem mwX11_readTape : e_MW YX11_readTape 0 := ⟨e_memt t1022 rfl, e_memt t284 rfl, by decide, ⟨by decide, by decide⟩, by decide +kernel⟩
theorem iwX11_readTape : Cond.instanceMethod (⟨"LandHouse", "readTape", "()V"⟩ : MethodName) ∈ e_gd := e_memt t1021 rfl
theorem vwX11_readTape : e_VW YX11_readTape 11 := ⟨iwX11_readTape, e_mem (i := 2) (by decide +kernel) rfl, rfl⟩
theorem mwX11_view : e_MW YX11_view 2 := ⟨e_memt t1658 rfl, e_memt t284 rfl, by decide, ⟨by decide, by decide⟩, by decide +kernel⟩
theorem iwX11_view : Cond.instanceMethod (⟨"LandHouse", "view", "(II)I"⟩ : MethodName) ∈ e_gd := e_memt t1656 rfl
theorem vwX11_view : e_VW YX11_view 11 := ⟨iwX11_view, e_memt t1657 rfl, rfl⟩
theorem mwX11_came : e_MW YX11_came 1 := ⟨e_memt t1662 rfl, e_memt t284 rfl, by decide, ⟨by decide, by decide⟩, by decide +kernel⟩
theorem iwX11_came : Cond.instanceMethod (⟨"LandHouse", "came", "(I)I"⟩ : MethodName) ∈ e_gd := e_memt t1660 rfl
theorem vwX11_came : e_VW YX11_came 11 := ⟨iwX11_came, e_memt t1661 rfl, rfl⟩
theorem mwX11_ask : e_MW YX11_ask 0 := ⟨e_memt t1666 rfl, e_memt t284 rfl, by decide, ⟨by decide, by decide⟩, by decide +kernel⟩
theorem iwX11_ask : Cond.instanceMethod (⟨"LandHouse", "ask", "()I"⟩ : MethodName) ∈ e_gd := e_memt t1664 rfl
theorem vwX11_ask : e_VW YX11_ask 11 := ⟨iwX11_ask, e_memt t1665 rfl, rfl⟩
theorem mwX11_answer : e_MW YX11_answer 0 := ⟨e_memt t1935 rfl, e_memt t284 rfl, by decide, ⟨by decide, by decide⟩, by decide +kernel⟩
theorem iwX11_answer : Cond.instanceMethod (⟨"LandHouse", "answer", "()J"⟩ : MethodName) ∈ e_gd := e_memt t1933 rfl
theorem vwX11_answer : e_VW YX11_answer 11 := ⟨iwX11_answer, e_memt t1934 rfl, rfl⟩
theorem mwX11_octet : e_MW YX11_octet 1 := ⟨e_memt t2005 rfl, e_memt t284 rfl, by decide, ⟨by decide, by decide⟩, by decide +kernel⟩
theorem iwX11_octet : Cond.instanceMethod (⟨"LandHouse", "octet", "(I)I"⟩ : MethodName) ∈ e_gd := e_memt t2003 rfl
theorem vwX11_octet : e_VW YX11_octet 11 := ⟨iwX11_octet, e_memt t2004 rfl, rfl⟩
theorem mwX11_count : e_MW YX11_count 1 := ⟨e_memt t1939 rfl, e_memt t284 rfl, by decide, ⟨by decide, by decide⟩, by decide +kernel⟩
theorem iwX11_count : Cond.instanceMethod (⟨"LandHouse", "count", "(I)I"⟩ : MethodName) ∈ e_gd := e_memt t1937 rfl
theorem vwX11_count : e_VW YX11_count 11 := ⟨iwX11_count, e_memt t1938 rfl, rfl⟩
theorem mwX11_name : e_MW YX11_name 2 := ⟨e_memt t2077 rfl, e_memt t284 rfl, by decide, ⟨by decide, by decide⟩, by decide +kernel⟩
theorem iwX11_name : Cond.instanceMethod (⟨"LandHouse", "name", "(II)J"⟩ : MethodName) ∈ e_gd := e_memt t2075 rfl
theorem vwX11_name : e_VW YX11_name 11 := ⟨iwX11_name, e_memt t2076 rfl, rfl⟩
theorem mwX11_thing : e_MW YX11_thing 3 := ⟨e_memt t2090 rfl, e_memt t284 rfl, by decide, ⟨by decide, by decide⟩, by decide +kernel⟩
theorem iwX11_thing : Cond.instanceMethod (⟨"LandHouse", "thing", "(III)I"⟩ : MethodName) ∈ e_gd := e_memt t2088 rfl
theorem vwX11_thing : e_VW YX11_thing 11 := ⟨iwX11_thing, e_memt t2089 rfl, rfl⟩
theorem mwX11_corner : e_MW YX11_corner 3 := ⟨e_memt t2098 rfl, e_memt t284 rfl, by decide, ⟨by decide, by decide⟩, by decide +kernel⟩
theorem iwX11_corner : Cond.instanceMethod (⟨"LandHouse", "corner", "(III)I"⟩ : MethodName) ∈ e_gd := e_memt t2096 rfl
theorem vwX11_corner : e_VW YX11_corner 11 := ⟨iwX11_corner, e_memt t2097 rfl, rfl⟩
theorem mwX11_owner : e_MW YX11_owner 3 := ⟨e_memt t2107 rfl, e_memt t284 rfl, by decide, ⟨by decide, by decide⟩, by decide +kernel⟩
theorem iwX11_owner : Cond.instanceMethod (⟨"LandHouse", "owner", "(III)I"⟩ : MethodName) ∈ e_gd := e_memt t2105 rfl
theorem vwX11_owner : e_VW YX11_owner 11 := ⟨iwX11_owner, e_memt t2106 rfl, rfl⟩
theorem mwX11_lots : e_MW YX11_lots 3 := ⟨e_memt t1948 rfl, e_memt t284 rfl, by decide, ⟨by decide, by decide⟩, by decide +kernel⟩
theorem iwX11_lots : Cond.instanceMethod (⟨"LandHouse", "lots", "(III)I"⟩ : MethodName) ∈ e_gd := e_memt t1946 rfl
theorem vwX11_lots : e_VW YX11_lots 11 := ⟨iwX11_lots, e_memt t1947 rfl, rfl⟩
theorem mwX11_sum : e_MW YX11_sum 0 := ⟨e_memt t1957 rfl, e_memt t284 rfl, by decide, ⟨by decide, by decide⟩, by decide +kernel⟩
theorem iwX11_sum : Cond.instanceMethod (⟨"LandHouse", "sum", "()J"⟩ : MethodName) ∈ e_gd := e_memt t1955 rfl
theorem vwX11_sum : e_VW YX11_sum 11 := ⟨iwX11_sum, e_memt t1956 rfl, rfl⟩
theorem mwX11_dayOf : e_MW YX11_dayOf 3 := ⟨e_memt t1048 rfl, e_memt t284 rfl, by decide, ⟨by decide, by decide⟩, by decide +kernel⟩
theorem swX11_dayOf : Cond.static (⟨"LandHouse", "dayOf", "(III)I"⟩ : MethodName) ∈ e_gd := e_memt t1047 rfl
theorem mwX11_dateOf : e_MW YX11_dateOf 1 := ⟨e_memt t1052 rfl, e_memt t284 rfl, by decide, ⟨by decide, by decide⟩, by decide +kernel⟩
theorem swX11_dateOf : Cond.static (⟨"LandHouse", "dateOf", "(I)I"⟩ : MethodName) ∈ e_gd := e_memt t1051 rfl
theorem mwX11_yearsBetween : e_MW YX11_yearsBetween 2 := ⟨e_memt t1898 rfl, e_memt t284 rfl, by decide, ⟨by decide, by decide⟩, by decide +kernel⟩
theorem swX11_yearsBetween : Cond.static (⟨"LandHouse", "yearsBetween", "(II)I"⟩ : MethodName) ∈ e_gd := e_memt t1897 rfl
theorem mwX11_fullAgeOf : e_MW YX11_fullAgeOf 1 := ⟨e_memt t1311 rfl, e_memt t284 rfl, by decide, ⟨by decide, by decide⟩, by decide +kernel⟩
theorem swX11_fullAgeOf : Cond.static (⟨"LandHouse", "fullAgeOf", "(I)I"⟩ : MethodName) ∈ e_gd := e_memt t1310 rfl
theorem mwX11_turn : e_MW YX11_turn 6 := ⟨e_memt t1441 rfl, e_memt t284 rfl, by decide, ⟨by decide, by decide⟩, by decide +kernel⟩
theorem swX11_turn : Cond.static (⟨"LandHouse", "turn", "(IIIIII)J"⟩ : MethodName) ∈ e_gd := e_memt t1440 rfl
theorem mwX11_isOn : e_MW YX11_isOn 6 := ⟨e_memt t1434 rfl, e_memt t284 rfl, by decide, ⟨by decide, by decide⟩, by decide +kernel⟩
theorem swX11_isOn : Cond.static (⟨"LandHouse", "isOn", "(IIIIII)Z"⟩ : MethodName) ∈ e_gd := e_memt t1433 rfl
theorem mwX11_commonDivisor : e_MW YX11_commonDivisor 2 := ⟨e_memt t1131 rfl, e_memt t284 rfl, by decide, ⟨by decide, by decide⟩, by decide +kernel⟩
theorem swX11_commonDivisor : Cond.static (⟨"LandHouse", "commonDivisor", "(JJ)J"⟩ : MethodName) ∈ e_gd := e_memt t1130 rfl
theorem mwX12_leaps : e_MW YX12_leaps 1 := ⟨e_memt t2118 rfl, e_memt t300 rfl, by decide, ⟨by decide, by decide⟩, by decide +kernel⟩
theorem swX12_leaps : Cond.static (⟨"LandHouseModel", "leaps", "(I)Z"⟩ : MethodName) ∈ e_gd := e_memt t2117 rfl
theorem mwX12_init : e_MW YX12_init 0 := ⟨e_memt t2114 rfl, e_memt t300 rfl, by decide, ⟨by decide, by decide⟩, by decide +kernel⟩
theorem iwX12_init : Cond.instanceMethod (⟨"LandHouseModel", "<init>", "()V"⟩ : MethodName) ∈ e_gd := e_memt t2113 rfl
theorem mwX12_dayOf : e_MW YX12_dayOf 3 := ⟨e_memt t2559 rfl, e_memt t300 rfl, by decide, ⟨by decide, by decide⟩, by decide +kernel⟩
theorem iwX12_dayOf : Cond.instanceMethod (⟨"LandHouseModel", "dayOf", "(III)I"⟩ : MethodName) ∈ e_gd := e_memt t2558 rfl
theorem vwX12_dayOf : e_VW YX12_dayOf 12 := ⟨iwX12_dayOf, e_mem (i := 127) (by decide +kernel) rfl, rfl⟩
theorem mwX12_daysIn : e_MW YX12_daysIn 2 := ⟨e_memt t2555 rfl, e_memt t300 rfl, by decide, ⟨by decide, by decide⟩, by decide +kernel⟩
theorem swX12_daysIn : Cond.static (⟨"LandHouseModel", "daysIn", "(II)I"⟩ : MethodName) ∈ e_gd := e_memt t2554 rfl
theorem mwX12_yearOf : e_MW YX12_yearOf 1 := ⟨e_memt t2708 rfl, e_memt t300 rfl, by decide, ⟨by decide, by decide⟩, by decide +kernel⟩
theorem iwX12_yearOf : Cond.instanceMethod (⟨"LandHouseModel", "yearOf", "(I)I"⟩ : MethodName) ∈ e_gd := e_memt t2707 rfl
theorem vwX12_yearOf : e_VW YX12_yearOf 12 := ⟨iwX12_yearOf, e_mem (i := 160) (by decide +kernel) rfl, rfl⟩
theorem mwX12_monthOf : e_MW YX12_monthOf 1 := ⟨e_memt t2716 rfl, e_memt t300 rfl, by decide, ⟨by decide, by decide⟩, by decide +kernel⟩
theorem iwX12_monthOf : Cond.instanceMethod (⟨"LandHouseModel", "monthOf", "(I)I"⟩ : MethodName) ∈ e_gd := e_memt t2715 rfl
theorem vwX12_monthOf : e_VW YX12_monthOf 12 := ⟨iwX12_monthOf, e_mem (i := 162) (by decide +kernel) rfl, rfl⟩
theorem mwX12_dateOf : e_MW YX12_dateOf 1 := ⟨e_memt t2720 rfl, e_memt t300 rfl, by decide, ⟨by decide, by decide⟩, by decide +kernel⟩
theorem iwX12_dateOf : Cond.instanceMethod (⟨"LandHouseModel", "dateOf", "(I)I"⟩ : MethodName) ∈ e_gd := e_memt t2719 rfl
theorem vwX12_dateOf : e_VW YX12_dateOf 12 := ⟨iwX12_dateOf, e_mem (i := 163) (by decide +kernel) rfl, rfl⟩
theorem mwX12_anniversary : e_MW YX12_anniversary 2 := ⟨e_memt t2712 rfl, e_memt t300 rfl, by decide, ⟨by decide, by decide⟩, by decide +kernel⟩
theorem iwX12_anniversary : Cond.instanceMethod (⟨"LandHouseModel", "anniversary", "(II)I"⟩ : MethodName) ∈ e_gd := e_memt t2711 rfl
theorem vwX12_anniversary : e_VW YX12_anniversary 12 := ⟨iwX12_anniversary, e_mem (i := 161) (by decide +kernel) rfl, rfl⟩
theorem mwX12_fullYears : e_MW YX12_fullYears 2 := ⟨e_memt t3190 rfl, e_memt t300 rfl, by decide, ⟨by decide, by decide⟩, by decide +kernel⟩
theorem iwX12_fullYears : Cond.instanceMethod (⟨"LandHouseModel", "fullYears", "(II)I"⟩ : MethodName) ∈ e_gd := e_memt t3189 rfl
theorem vwX12_fullYears : e_VW YX12_fullYears 12 := ⟨iwX12_fullYears, e_mem (i := 271) (by decide +kernel) rfl, rfl⟩
theorem mwX12_byteAt : e_MW YX12_byteAt 1 := ⟨e_memt t2538 rfl, e_memt t300 rfl, by decide, ⟨by decide, by decide⟩, by decide +kernel⟩
theorem iwX12_byteAt : Cond.instanceMethod (⟨"LandHouseModel", "byteAt", "(I)I"⟩ : MethodName) ∈ e_gd := e_memt t2537 rfl
theorem vwX12_byteAt : e_VW YX12_byteAt 12 := ⟨iwX12_byteAt, e_mem (i := 124) (by decide +kernel) rfl, rfl⟩
theorem mwX12_isSmall : e_MW YX12_isSmall 1 := ⟨e_memt t2548 rfl, e_memt t300 rfl, by decide, ⟨by decide, by decide⟩, by decide +kernel⟩
theorem swX12_isSmall : Cond.static (⟨"LandHouseModel", "isSmall", "(I)Z"⟩ : MethodName) ∈ e_gd := e_memt t2547 rfl
theorem mwX12_isDigit : e_MW YX12_isDigit 1 := ⟨e_memt t2541 rfl, e_memt t300 rfl, by decide, ⟨by decide, by decide⟩, by decide +kernel⟩
theorem swX12_isDigit : Cond.static (⟨"LandHouseModel", "isDigit", "(I)Z"⟩ : MethodName) ∈ e_gd := e_memt t2540 rfl
theorem mwX12_isDate : e_MW YX12_isDate 1 := ⟨e_memt t2545 rfl, e_memt t300 rfl, by decide, ⟨by decide, by decide⟩, by decide +kernel⟩
theorem iwX12_isDate : Cond.instanceMethod (⟨"LandHouseModel", "isDate", "(I)Z"⟩ : MethodName) ∈ e_gd := e_memt t2544 rfl
theorem vwX12_isDate : e_VW YX12_isDate 12 := ⟨iwX12_isDate, e_mem (i := 125) (by decide +kernel) rfl, rfl⟩
theorem mwX12_digits : e_MW YX12_digits 2 := ⟨e_memt t2552 rfl, e_memt t300 rfl, by decide, ⟨by decide, by decide⟩, by decide +kernel⟩
theorem iwX12_digits : Cond.instanceMethod (⟨"LandHouseModel", "digits", "(II)I"⟩ : MethodName) ∈ e_gd := e_memt t2551 rfl
theorem vwX12_digits : e_VW YX12_digits 12 := ⟨iwX12_digits, e_mem (i := 126) (by decide +kernel) rfl, rfl⟩
theorem mwX12_next : e_MW YX12_next 0 := ⟨e_memt t2534 rfl, e_memt t300 rfl, by decide, ⟨by decide, by decide⟩, by decide +kernel⟩
theorem iwX12_next : Cond.instanceMethod (⟨"LandHouseModel", "next", "()V"⟩ : MethodName) ∈ e_gd := e_memt t2533 rfl
theorem vwX12_next : e_VW YX12_next 12 := ⟨iwX12_next, e_mem (i := 123) (by decide +kernel) rfl, rfl⟩
theorem mwX12_run : e_MW YX12_run 1 := ⟨e_memt t2563 rfl, e_memt t300 rfl, by decide, ⟨by decide, by decide⟩, by decide +kernel⟩
theorem iwX12_run : Cond.instanceMethod (⟨"LandHouseModel", "run", "(Z)V"⟩ : MethodName) ∈ e_gd := e_memt t2562 rfl
theorem vwX12_run : e_VW YX12_run 12 := ⟨iwX12_run, e_mem (i := 128) (by decide +kernel) rfl, rfl⟩
theorem mwX12_sign : e_MW YX12_sign 1 := ⟨e_memt t2567 rfl, e_memt t300 rfl, by decide, ⟨by decide, by decide⟩, by decide +kernel⟩
theorem iwX12_sign : Cond.instanceMethod (⟨"LandHouseModel", "sign", "(I)V"⟩ : MethodName) ∈ e_gd := e_memt t2566 rfl
theorem vwX12_sign : e_VW YX12_sign 12 := ⟨iwX12_sign, e_mem (i := 129) (by decide +kernel) rfl, rfl⟩
theorem mwX12_wrong : e_MW YX12_wrong 1 := ⟨e_memt t2583 rfl, e_memt t300 rfl, by decide, ⟨by decide, by decide⟩, by decide +kernel⟩
theorem iwX12_wrong : Cond.instanceMethod (⟨"LandHouseModel", "wrong", "(I)Z"⟩ : MethodName) ∈ e_gd := e_memt t2582 rfl
theorem vwX12_wrong : e_VW YX12_wrong 12 := ⟨iwX12_wrong, e_mem (i := 133) (by decide +kernel) rfl, rfl⟩
theorem mwX12_good : e_MW YX12_good 1 := ⟨e_memt t2579 rfl, e_memt t300 rfl, by decide, ⟨by decide, by decide⟩, by decide +kernel⟩
theorem iwX12_good : Cond.instanceMethod (⟨"LandHouseModel", "good", "(I)Z"⟩ : MethodName) ∈ e_gd := e_memt t2578 rfl
theorem vwX12_good : e_VW YX12_good 12 := ⟨iwX12_good, e_mem (i := 132) (by decide +kernel) rfl, rfl⟩
theorem mwX12_isWord : e_MW YX12_isWord 1 := ⟨e_memt t2575 rfl, e_memt t300 rfl, by decide, ⟨by decide, by decide⟩, by decide +kernel⟩
theorem iwX12_isWord : Cond.instanceMethod (⟨"LandHouseModel", "isWord", "(I)Z"⟩ : MethodName) ∈ e_gd := e_memt t2574 rfl
theorem vwX12_isWord : e_VW YX12_isWord 12 := ⟨iwX12_isWord, e_mem (i := 131) (by decide +kernel) rfl, rfl⟩
theorem mwX12_isSign : e_MW YX12_isSign 1 := ⟨e_memt t2595 rfl, e_memt t300 rfl, by decide, ⟨by decide, by decide⟩, by decide +kernel⟩
theorem iwX12_isSign : Cond.instanceMethod (⟨"LandHouseModel", "isSign", "(I)Z"⟩ : MethodName) ∈ e_gd := e_memt t2594 rfl
theorem vwX12_isSign : e_VW YX12_isSign 12 := ⟨iwX12_isSign, e_mem (i := 136) (by decide +kernel) rfl, rfl⟩
theorem mwX12_must : e_MW YX12_must 1 := ⟨e_memt t2603 rfl, e_memt t300 rfl, by decide, ⟨by decide, by decide⟩, by decide +kernel⟩
theorem iwX12_must : Cond.instanceMethod (⟨"LandHouseModel", "must", "(I)Z"⟩ : MethodName) ∈ e_gd := e_memt t2602 rfl
theorem vwX12_must : e_VW YX12_must 12 := ⟨iwX12_must, e_mem (i := 138) (by decide +kernel) rfl, rfl⟩
theorem mwX12_mustSign : e_MW YX12_mustSign 1 := ⟨e_memt t2591 rfl, e_memt t300 rfl, by decide, ⟨by decide, by decide⟩, by decide +kernel⟩
theorem iwX12_mustSign : Cond.instanceMethod (⟨"LandHouseModel", "mustSign", "(I)Z"⟩ : MethodName) ∈ e_gd := e_memt t2590 rfl
theorem vwX12_mustSign : e_VW YX12_mustSign 12 := ⟨iwX12_mustSign, e_mem (i := 135) (by decide +kernel) rfl, rfl⟩
theorem mwX12_isName : e_MW YX12_isName 0 := ⟨e_memt t2622 rfl, e_memt t300 rfl, by decide, ⟨by decide, by decide⟩, by decide +kernel⟩
theorem iwX12_isName : Cond.instanceMethod (⟨"LandHouseModel", "isName", "()Z"⟩ : MethodName) ∈ e_gd := e_memt t2621 rfl
theorem vwX12_isName : e_VW YX12_isName 12 := ⟨iwX12_isName, e_mem (i := 142) (by decide +kernel) rfl, rfl⟩
theorem mwX12_stops : e_MW YX12_stops 0 := ⟨e_memt t2599 rfl, e_memt t300 rfl, by decide, ⟨by decide, by decide⟩, by decide +kernel⟩
theorem iwX12_stops : Cond.instanceMethod (⟨"LandHouseModel", "stops", "()Z"⟩ : MethodName) ∈ e_gd := e_memt t2598 rfl
theorem vwX12_stops : e_VW YX12_stops 12 := ⟨iwX12_stops, e_mem (i := 137) (by decide +kernel) rfl, rfl⟩
theorem mwX12_begins : e_MW YX12_begins 0 := ⟨e_memt t2530 rfl, e_memt t300 rfl, by decide, ⟨by decide, by decide⟩, by decide +kernel⟩
theorem iwX12_begins : Cond.instanceMethod (⟨"LandHouseModel", "begins", "()V"⟩ : MethodName) ∈ e_gd := e_memt t2529 rfl
theorem vwX12_begins : e_VW YX12_begins 12 := ⟨iwX12_begins, e_mem (i := 122) (by decide +kernel) rfl, rfl⟩
theorem mwX12_mustName : e_MW YX12_mustName 1 := ⟨e_memt t2618 rfl, e_memt t300 rfl, by decide, ⟨by decide, by decide⟩, by decide +kernel⟩
theorem iwX12_mustName : Cond.instanceMethod (⟨"LandHouseModel", "mustName", "(I)Z"⟩ : MethodName) ∈ e_gd := e_memt t2617 rfl
theorem vwX12_mustName : e_VW YX12_mustName 12 := ⟨iwX12_mustName, e_mem (i := 141) (by decide +kernel) rfl, rfl⟩
theorem mwX12_mustDate : e_MW YX12_mustDate 0 := ⟨e_memt t2626 rfl, e_memt t300 rfl, by decide, ⟨by decide, by decide⟩, by decide +kernel⟩
theorem iwX12_mustDate : Cond.instanceMethod (⟨"LandHouseModel", "mustDate", "()Z"⟩ : MethodName) ∈ e_gd := e_memt t2625 rfl
theorem vwX12_mustDate : e_VW YX12_mustDate 12 := ⟨iwX12_mustDate, e_mem (i := 143) (by decide +kernel) rfl, rfl⟩
theorem mwX12_mustAmount : e_MW YX12_mustAmount 0 := ⟨e_memt t2641 rfl, e_memt t300 rfl, by decide, ⟨by decide, by decide⟩, by decide +kernel⟩
theorem iwX12_mustAmount : Cond.instanceMethod (⟨"LandHouseModel", "mustAmount", "()Z"⟩ : MethodName) ∈ e_gd := e_memt t2640 rfl
theorem vwX12_mustAmount : e_VW YX12_mustAmount 12 := ⟨iwX12_mustAmount, e_mem (i := 146) (by decide +kernel) rfl, rfl⟩
theorem mwX12_mustShare : e_MW YX12_mustShare 0 := ⟨e_memt t2634 rfl, e_memt t300 rfl, by decide, ⟨by decide, by decide⟩, by decide +kernel⟩
theorem iwX12_mustShare : Cond.instanceMethod (⟨"LandHouseModel", "mustShare", "()Z"⟩ : MethodName) ∈ e_gd := e_memt t2633 rfl
theorem vwX12_mustShare : e_VW YX12_mustShare 12 := ⟨iwX12_mustShare, e_mem (i := 145) (by decide +kernel) rfl, rfl⟩
theorem mwX12_mustParts : e_MW YX12_mustParts 0 := ⟨e_memt t2630 rfl, e_memt t300 rfl, by decide, ⟨by decide, by decide⟩, by decide +kernel⟩
theorem iwX12_mustParts : Cond.instanceMethod (⟨"LandHouseModel", "mustParts", "()Z"⟩ : MethodName) ∈ e_gd := e_memt t2629 rfl
theorem vwX12_mustParts : e_VW YX12_mustParts 12 := ⟨iwX12_mustParts, e_mem (i := 144) (by decide +kernel) rfl, rfl⟩
theorem mwX12_mustNames : e_MW YX12_mustNames 0 := ⟨e_memt t2653 rfl, e_memt t300 rfl, by decide, ⟨by decide, by decide⟩, by decide +kernel⟩
theorem iwX12_mustNames : Cond.instanceMethod (⟨"LandHouseModel", "mustNames", "()Z"⟩ : MethodName) ∈ e_gd := e_memt t2652 rfl
theorem vwX12_mustNames : e_VW YX12_mustNames 12 := ⟨iwX12_mustNames, e_mem (i := 149) (by decide +kernel) rfl, rfl⟩
theorem mwX12_mustPoints : e_MW YX12_mustPoints 0 := ⟨e_memt t2645 rfl, e_memt t300 rfl, by decide, ⟨by decide, by decide⟩, by decide +kernel⟩
theorem iwX12_mustPoints : Cond.instanceMethod (⟨"LandHouseModel", "mustPoints", "()Z"⟩ : MethodName) ∈ e_gd := e_memt t2644 rfl
theorem vwX12_mustPoints : e_VW YX12_mustPoints 12 := ⟨iwX12_mustPoints, e_mem (i := 147) (by decide +kernel) rfl, rfl⟩
theorem mwX12_mustAmount2 : e_MW YX12_mustAmount2 2 := ⟨e_memt t2649 rfl, e_memt t300 rfl, by decide, ⟨by decide, by decide⟩, by decide +kernel⟩
theorem iwX12_mustAmount2 : Cond.instanceMethod (⟨"LandHouseModel", "mustAmount2", "([II)Z"⟩ : MethodName) ∈ e_gd := e_memt t2648 rfl
theorem vwX12_mustAmount2 : e_VW YX12_mustAmount2 12 := ⟨iwX12_mustAmount2, e_mem (i := 148) (by decide +kernel) rfl, rfl⟩
theorem mwX12_mustDeed : e_MW YX12_mustDeed 1 := ⟨e_memt t2607 rfl, e_memt t300 rfl, by decide, ⟨by decide, by decide⟩, by decide +kernel⟩
theorem iwX12_mustDeed : Cond.instanceMethod (⟨"LandHouseModel", "mustDeed", "(I)Z"⟩ : MethodName) ∈ e_gd := e_memt t2606 rfl
theorem vwX12_mustDeed : e_VW YX12_mustDeed 12 := ⟨iwX12_mustDeed, e_mem (i := 139) (by decide +kernel) rfl, rfl⟩
theorem mwX12_isAct : e_MW YX12_isAct 1 := ⟨e_memt t2610 rfl, e_memt t300 rfl, by decide, ⟨by decide, by decide⟩, by decide +kernel⟩
theorem swX12_isAct : Cond.static (⟨"LandHouseModel", "isAct", "(I)Z"⟩ : MethodName) ∈ e_gd := e_memt t2609 rfl
theorem mwX12_first : e_MW YX12_first 1 := ⟨e_memt t2614 rfl, e_memt t300 rfl, by decide, ⟨by decide, by decide⟩, by decide +kernel⟩
theorem iwX12_first : Cond.instanceMethod (⟨"LandHouseModel", "first", "(I)Z"⟩ : MethodName) ∈ e_gd := e_memt t2613 rfl
theorem vwX12_first : e_VW YX12_first 12 := ⟨iwX12_first, e_mem (i := 140) (by decide +kernel) rfl, rfl⟩
theorem mwX12_divisor : e_MW YX12_divisor 2 := ⟨e_memt t2637 rfl, e_memt t300 rfl, by decide, ⟨by decide, by decide⟩, by decide +kernel⟩
theorem swX12_divisor : Cond.static (⟨"LandHouseModel", "divisor", "(JJ)J"⟩ : MethodName) ∈ e_gd := e_memt t2636 rfl
theorem mwX12_fraction : e_MW YX12_fraction 2 := ⟨e_memt t2744 rfl, e_memt t300 rfl, by decide, ⟨by decide, by decide⟩, by decide +kernel⟩
theorem iwX12_fraction : Cond.instanceMethod (⟨"LandHouseModel", "fraction", "(JJ)V"⟩ : MethodName) ∈ e_gd := e_memt t2743 rfl
theorem vwX12_fraction : e_VW YX12_fraction 12 := ⟨iwX12_fraction, e_mem (i := 169) (by decide +kernel) rfl, rfl⟩
theorem mwX12_plus : e_MW YX12_plus 4 := ⟨e_memt t2740 rfl, e_memt t300 rfl, by decide, ⟨by decide, by decide⟩, by decide +kernel⟩
theorem iwX12_plus : Cond.instanceMethod (⟨"LandHouseModel", "plus", "(JJJJ)V"⟩ : MethodName) ∈ e_gd := e_memt t2739 rfl
theorem vwX12_plus : e_VW YX12_plus 12 := ⟨iwX12_plus, e_mem (i := 168) (by decide +kernel) rfl, rfl⟩
theorem mwX12_less : e_MW YX12_less 4 := ⟨e_memt t2764 rfl, e_memt t300 rfl, by decide, ⟨by decide, by decide⟩, by decide +kernel⟩
theorem iwX12_less : Cond.instanceMethod (⟨"LandHouseModel", "less", "(JJJJ)V"⟩ : MethodName) ∈ e_gd := e_memt t2763 rfl
theorem vwX12_less : e_VW YX12_less 12 := ⟨iwX12_less, e_mem (i := 174) (by decide +kernel) rfl, rfl⟩
theorem mwX12_times : e_MW YX12_times 4 := ⟨e_memt t2776 rfl, e_memt t300 rfl, by decide, ⟨by decide, by decide⟩, by decide +kernel⟩
theorem iwX12_times : Cond.instanceMethod (⟨"LandHouseModel", "times", "(JJJJ)V"⟩ : MethodName) ∈ e_gd := e_memt t2775 rfl
theorem vwX12_times : e_VW YX12_times 12 := ⟨iwX12_times, e_mem (i := 177) (by decide +kernel) rfl, rfl⟩
theorem mwX12_isOne : e_MW YX12_isOne 1 := ⟨e_memt t2736 rfl, e_memt t300 rfl, by decide, ⟨by decide, by decide⟩, by decide +kernel⟩
theorem iwX12_isOne : Cond.instanceMethod (⟨"LandHouseModel", "isOne", "(I)Z"⟩ : MethodName) ∈ e_gd := e_memt t2735 rfl
theorem vwX12_isOne : e_VW YX12_isOne 12 := ⟨iwX12_isOne, e_mem (i := 167) (by decide +kernel) rfl, rfl⟩
theorem mwX12_turn : e_MW YX12_turn 6 := ⟨e_memt t2839 rfl, e_memt t300 rfl, by decide, ⟨by decide, by decide⟩, by decide +kernel⟩
theorem swX12_turn : Cond.static (⟨"LandHouseModel", "turn", "(JJJJJJ)J"⟩ : MethodName) ∈ e_gd := e_memt t2838 rfl
theorem mwX12_within : e_MW YX12_within 3 := ⟨e_memt t2842 rfl, e_memt t300 rfl, by decide, ⟨by decide, by decide⟩, by decide +kernel⟩
theorem swX12_within : Cond.static (⟨"LandHouseModel", "within", "(JJJ)Z"⟩ : MethodName) ∈ e_gd := e_memt t2841 rfl
theorem mwX12_lies : e_MW YX12_lies 6 := ⟨e_memt t2836 rfl, e_memt t300 rfl, by decide, ⟨by decide, by decide⟩, by decide +kernel⟩
theorem swX12_lies : Cond.static (⟨"LandHouseModel", "lies", "(JJJJJJ)Z"⟩ : MethodName) ∈ e_gd := e_memt t2835 rfl
theorem mwX12_lieAt : e_MW YX12_lieAt 5 := ⟨e_memt t2833 rfl, e_memt t300 rfl, by decide, ⟨by decide, by decide⟩, by decide +kernel⟩
theorem iwX12_lieAt : Cond.instanceMethod (⟨"LandHouseModel", "lieAt", "(IIJJI)I"⟩ : MethodName) ∈ e_gd := e_memt t2832 rfl
theorem vwX12_lieAt : e_VW YX12_lieAt 12 := ⟨iwX12_lieAt, e_mem (i := 191) (by decide +kernel) rfl, rfl⟩
theorem mwX12_areaOf : e_MW YX12_areaOf 2 := ⟨e_memt t2932 rfl, e_memt t300 rfl, by decide, ⟨by decide, by decide⟩, by decide +kernel⟩
theorem iwX12_areaOf : Cond.instanceMethod (⟨"LandHouseModel", "areaOf", "(II)J"⟩ : MethodName) ∈ e_gd := e_memt t2931 rfl
theorem vwX12_areaOf : e_VW YX12_areaOf 12 := ⟨iwX12_areaOf, e_mem (i := 211) (by decide +kernel) rfl, rfl⟩
theorem mwX12_tidy : e_MW YX12_tidy 2 := ⟨e_memt t2872 rfl, e_memt t300 rfl, by decide, ⟨by decide, by decide⟩, by decide +kernel⟩
theorem iwX12_tidy : Cond.instanceMethod (⟨"LandHouseModel", "tidy", "(II)I"⟩ : MethodName) ∈ e_gd := e_memt t2871 rfl
theorem vwX12_tidy : e_VW YX12_tidy 12 := ⟨iwX12_tidy, e_mem (i := 197) (by decide +kernel) rfl, rfl⟩
theorem mwX12_px : e_MW YX12_px 1 := ⟨e_memt t2825 rfl, e_memt t300 rfl, by decide, ⟨by decide, by decide⟩, by decide +kernel⟩
theorem iwX12_px : Cond.instanceMethod (⟨"LandHouseModel", "px", "(I)J"⟩ : MethodName) ∈ e_gd := e_memt t2824 rfl
theorem vwX12_px : e_VW YX12_px 12 := ⟨iwX12_px, e_mem (i := 189) (by decide +kernel) rfl, rfl⟩
theorem mwX12_py : e_MW YX12_py 1 := ⟨e_memt t2829 rfl, e_memt t300 rfl, by decide, ⟨by decide, by decide⟩, by decide +kernel⟩
theorem iwX12_py : Cond.instanceMethod (⟨"LandHouseModel", "py", "(I)J"⟩ : MethodName) ∈ e_gd := e_memt t2828 rfl
theorem vwX12_py : e_VW YX12_py 12 := ⟨iwX12_py, e_mem (i := 190) (by decide +kernel) rfl, rfl⟩
theorem mwX12_cuts : e_MW YX12_cuts 3 := ⟨e_memt t2821 rfl, e_memt t300 rfl, by decide, ⟨by decide, by decide⟩, by decide +kernel⟩
theorem iwX12_cuts : Cond.instanceMethod (⟨"LandHouseModel", "cuts", "(III)Z"⟩ : MethodName) ∈ e_gd := e_memt t2820 rfl
theorem vwX12_cuts : e_VW YX12_cuts 12 := ⟨iwX12_cuts, e_mem (i := 188) (by decide +kernel) rfl, rfl⟩
theorem mwX12_clear : e_MW YX12_clear 3 := ⟨e_memt t2846 rfl, e_memt t300 rfl, by decide, ⟨by decide, by decide⟩, by decide +kernel⟩
theorem iwX12_clear : Cond.instanceMethod (⟨"LandHouseModel", "clear", "(III)Z"⟩ : MethodName) ∈ e_gd := e_memt t2845 rfl
theorem vwX12_clear : e_VW YX12_clear 12 := ⟨iwX12_clear, e_mem (i := 192) (by decide +kernel) rfl, rfl⟩
theorem mwX12_touch : e_MW YX12_touch 2 := ⟨e_memt t2853 rfl, e_memt t300 rfl, by decide, ⟨by decide, by decide⟩, by decide +kernel⟩
theorem iwX12_touch : Cond.instanceMethod (⟨"LandHouseModel", "touch", "(II)Z"⟩ : MethodName) ∈ e_gd := e_memt t2852 rfl
theorem vwX12_touch : e_VW YX12_touch 12 := ⟨iwX12_touch, e_mem (i := 193) (by decide +kernel) rfl, rfl⟩
theorem mwX12_sideOf : e_MW YX12_sideOf 4 := ⟨e_memt t2861 rfl, e_memt t300 rfl, by decide, ⟨by decide, by decide⟩, by decide +kernel⟩
theorem iwX12_sideOf : Cond.instanceMethod (⟨"LandHouseModel", "sideOf", "(IIJJ)I"⟩ : MethodName) ∈ e_gd := e_memt t2860 rfl
theorem vwX12_sideOf : e_VW YX12_sideOf 12 := ⟨iwX12_sideOf, e_mem (i := 195) (by decide +kernel) rfl, rfl⟩
theorem mwX12_far : e_MW YX12_far 4 := ⟨e_memt t2865 rfl, e_memt t300 rfl, by decide, ⟨by decide, by decide⟩, by decide +kernel⟩
theorem iwX12_far : Cond.instanceMethod (⟨"LandHouseModel", "far", "(IIJJ)J"⟩ : MethodName) ∈ e_gd := e_memt t2864 rfl
theorem vwX12_far : e_VW YX12_far 12 := ⟨iwX12_far, e_mem (i := 196) (by decide +kernel) rfl, rfl⟩
theorem mwX12_part : e_MW YX12_part 4 := ⟨e_memt t2857 rfl, e_memt t300 rfl, by decide, ⟨by decide, by decide⟩, by decide +kernel⟩
theorem iwX12_part : Cond.instanceMethod (⟨"LandHouseModel", "part", "(IIIZ)I"⟩ : MethodName) ∈ e_gd := e_memt t2856 rfl
theorem vwX12_part : e_VW YX12_part 12 := ⟨iwX12_part, e_mem (i := 194) (by decide +kernel) rfl, rfl⟩
theorem mwX12_along : e_MW YX12_along 6 := ⟨e_memt t2925 rfl, e_memt t300 rfl, by decide, ⟨by decide, by decide⟩, by decide +kernel⟩
theorem iwX12_along : Cond.instanceMethod (⟨"LandHouseModel", "along", "(IIIIII)Z"⟩ : MethodName) ∈ e_gd := e_memt t2924 rfl
theorem vwX12_along : e_VW YX12_along 12 := ⟨iwX12_along, e_mem (i := 210) (by decide +kernel) rfl, rfl⟩
theorem mwX12_round : e_MW YX12_round 4 := ⟨e_memt t2928 rfl, e_memt t300 rfl, by decide, ⟨by decide, by decide⟩, by decide +kernel⟩
theorem swX12_round : Cond.static (⟨"LandHouseModel", "round", "(JJJJ)I"⟩ : MethodName) ∈ e_gd := e_memt t2927 rfl
theorem mwX12_joins : e_MW YX12_joins 4 := ⟨e_memt t2920 rfl, e_memt t300 rfl, by decide, ⟨by decide, by decide⟩, by decide +kernel⟩
theorem iwX12_joins : Cond.instanceMethod (⟨"LandHouseModel", "joins", "(IIII)Z"⟩ : MethodName) ∈ e_gd := e_memt t2919 rfl
theorem vwX12_joins : e_VW YX12_joins 12 := ⟨iwX12_joins, e_mem (i := 209) (by decide +kernel) rfl, rfl⟩
theorem mwX12_areNear : e_MW YX12_areNear 4 := ⟨e_memt t3202 rfl, e_memt t300 rfl, by decide, ⟨by decide, by decide⟩, by decide +kernel⟩
theorem iwX12_areNear : Cond.instanceMethod (⟨"LandHouseModel", "areNear", "(IIII)Z"⟩ : MethodName) ∈ e_gd := e_memt t3201 rfl
theorem vwX12_areNear : e_VW YX12_areNear 12 := ⟨iwX12_areNear, e_mem (i := 274) (by decide +kernel) rfl, rfl⟩
theorem mwX12_id : e_MW YX12_id 2 := ⟨e_memt t2133 rfl, e_memt t300 rfl, by decide, ⟨by decide, by decide⟩, by decide +kernel⟩
theorem swX12_id : Cond.static (⟨"LandHouseModel", "id", "(II)I"⟩ : MethodName) ∈ e_gd := e_memt t2132 rfl
theorem mwX12_empty : e_MW YX12_empty 0 := ⟨e_memt t2125 rfl, e_memt t300 rfl, by decide, ⟨by decide, by decide⟩, by decide +kernel⟩
theorem iwX12_empty : Cond.instanceMethod (⟨"LandHouseModel", "empty", "()V"⟩ : MethodName) ∈ e_gd := e_memt t2124 rfl
theorem vwX12_empty : e_VW YX12_empty 12 := ⟨iwX12_empty, e_mem (i := 119) (by decide +kernel) rfl, rfl⟩
theorem mwX12_make : e_MW YX12_make 2 := ⟨e_memt t2130 rfl, e_memt t300 rfl, by decide, ⟨by decide, by decide⟩, by decide +kernel⟩
theorem iwX12_make : Cond.instanceMethod (⟨"LandHouseModel", "make", "(IJ)I"⟩ : MethodName) ∈ e_gd := e_memt t2129 rfl
theorem vwX12_make : e_VW YX12_make 12 := ⟨iwX12_make, e_mem (i := 120) (by decide +kernel) rfl, rfl⟩
theorem mwX12_full : e_MW YX12_full 2 := ⟨e_memt t2696 rfl, e_memt t300 rfl, by decide, ⟨by decide, by decide⟩, by decide +kernel⟩
theorem iwX12_full : Cond.instanceMethod (⟨"LandHouseModel", "full", "(II)Z"⟩ : MethodName) ∈ e_gd := e_memt t2695 rfl
theorem vwX12_full : e_VW YX12_full 12 := ⟨iwX12_full, e_mem (i := 157) (by decide +kernel) rfl, rfl⟩
theorem mwX12_isThere : e_MW YX12_isThere 3 := ⟨e_memt t2688 rfl, e_memt t300 rfl, by decide, ⟨by decide, by decide⟩, by decide +kernel⟩
theorem iwX12_isThere : Cond.instanceMethod (⟨"LandHouseModel", "isThere", "(III)Z"⟩ : MethodName) ∈ e_gd := e_memt t2687 rfl
theorem vwX12_isThere : e_VW YX12_isThere 12 := ⟨iwX12_isThere, e_mem (i := 155) (by decide +kernel) rfl, rfl⟩
theorem mwX12_isAge : e_MW YX12_isAge 2 := ⟨e_memt t2704 rfl, e_memt t300 rfl, by decide, ⟨by decide, by decide⟩, by decide +kernel⟩
theorem iwX12_isAge : Cond.instanceMethod (⟨"LandHouseModel", "isAge", "(II)Z"⟩ : MethodName) ∈ e_gd := e_memt t2703 rfl
theorem vwX12_isAge : e_VW YX12_isAge 12 := ⟨iwX12_isAge, e_mem (i := 159) (by decide +kernel) rfl, rfl⟩
theorem mwX12_isAble : e_MW YX12_isAble 2 := ⟨e_memt t2801 rfl, e_memt t300 rfl, by decide, ⟨by decide, by decide⟩, by decide +kernel⟩
theorem iwX12_isAble : Cond.instanceMethod (⟨"LandHouseModel", "isAble", "(II)Z"⟩ : MethodName) ∈ e_gd := e_memt t2800 rfl
theorem vwX12_isAble : e_VW YX12_isAble 12 := ⟨iwX12_isAble, e_mem (i := 183) (by decide +kernel) rfl, rfl⟩
theorem mwX12_loads : e_MW YX12_loads 1 := ⟨e_memt t2752 rfl, e_memt t300 rfl, by decide, ⟨by decide, by decide⟩, by decide +kernel⟩
theorem iwX12_loads : Cond.instanceMethod (⟨"LandHouseModel", "loads", "(I)V"⟩ : MethodName) ∈ e_gd := e_memt t2751 rfl
theorem vwX12_loads : e_VW YX12_loads 12 := ⟨iwX12_loads, e_mem (i := 171) (by decide +kernel) rfl, rfl⟩
theorem mwX12_keeps : e_MW YX12_keeps 1 := ⟨e_memt t2785 rfl, e_memt t300 rfl, by decide, ⟨by decide, by decide⟩, by decide +kernel⟩
theorem iwX12_keeps : Cond.instanceMethod (⟨"LandHouseModel", "keeps", "(I)V"⟩ : MethodName) ∈ e_gd := e_memt t2784 rfl
theorem vwX12_keeps : e_VW YX12_keeps 12 := ⟨iwX12_keeps, e_mem (i := 179) (by decide +kernel) rfl, rfl⟩
theorem mwX12_ownAt : e_MW YX12_ownAt 1 := ⟨e_memt t2756 rfl, e_memt t300 rfl, by decide, ⟨by decide, by decide⟩, by decide +kernel⟩
theorem iwX12_ownAt : Cond.instanceMethod (⟨"LandHouseModel", "ownAt", "(I)I"⟩ : MethodName) ∈ e_gd := e_memt t2755 rfl
theorem vwX12_ownAt : e_VW YX12_ownAt 12 := ⟨iwX12_ownAt, e_mem (i := 172) (by decide +kernel) rfl, rfl⟩
theorem mwX12_gets : e_MW YX12_gets 3 := ⟨e_memt t2768 rfl, e_memt t300 rfl, by decide, ⟨by decide, by decide⟩, by decide +kernel⟩
theorem iwX12_gets : Cond.instanceMethod (⟨"LandHouseModel", "gets", "(IJJ)V"⟩ : MethodName) ∈ e_gd := e_memt t2767 rfl
theorem vwX12_gets : e_VW YX12_gets 12 := ⟨iwX12_gets, e_mem (i := 175) (by decide +kernel) rfl, rfl⟩
theorem mwX12_gives : e_MW YX12_gives 3 := ⟨e_memt t2760 rfl, e_memt t300 rfl, by decide, ⟨by decide, by decide⟩, by decide +kernel⟩
theorem iwX12_gives : Cond.instanceMethod (⟨"LandHouseModel", "gives", "(IJJ)V"⟩ : MethodName) ∈ e_gd := e_memt t2759 rfl
theorem vwX12_gives : e_VW YX12_gives 12 := ⟨iwX12_gives, e_mem (i := 173) (by decide +kernel) rfl, rfl⟩
theorem mwX12_isGreat : e_MW YX12_isGreat 0 := ⟨e_memt t2780 rfl, e_memt t300 rfl, by decide, ⟨by decide, by decide⟩, by decide +kernel⟩
theorem iwX12_isGreat : Cond.instanceMethod (⟨"LandHouseModel", "isGreat", "()Z"⟩ : MethodName) ∈ e_gd := e_memt t2779 rfl
theorem vwX12_isGreat : e_VW YX12_isGreat 12 := ⟨iwX12_isGreat, e_mem (i := 178) (by decide +kernel) rfl, rfl⟩
theorem mwX12_placeOn : e_MW YX12_placeOn 2 := ⟨e_memt t2809 rfl, e_memt t300 rfl, by decide, ⟨by decide, by decide⟩, by decide +kernel⟩
theorem iwX12_placeOn : Cond.instanceMethod (⟨"LandHouseModel", "placeOn", "(II)I"⟩ : MethodName) ∈ e_gd := e_memt t2808 rfl
theorem vwX12_placeOn : e_VW YX12_placeOn 12 := ⟨iwX12_placeOn, e_mem (i := 185) (by decide +kernel) rfl, rfl⟩
theorem mwX12_placeOf : e_MW YX12_placeOf 2 := ⟨e_memt t2884 rfl, e_memt t300 rfl, by decide, ⟨by decide, by decide⟩, by decide +kernel⟩
theorem iwX12_placeOf : Cond.instanceMethod (⟨"LandHouseModel", "placeOf", "(II)I"⟩ : MethodName) ∈ e_gd := e_memt t2883 rfl
theorem vwX12_placeOf : e_VW YX12_placeOf 12 := ⟨iwX12_placeOf, e_mem (i := 200) (by decide +kernel) rfl, rfl⟩
theorem mwX12_offOn : e_MW YX12_offOn 2 := ⟨e_memt t2892 rfl, e_memt t300 rfl, by decide, ⟨by decide, by decide⟩, by decide +kernel⟩
theorem iwX12_offOn : Cond.instanceMethod (⟨"LandHouseModel", "offOn", "(II)V"⟩ : MethodName) ∈ e_gd := e_memt t2891 rfl
theorem vwX12_offOn : e_VW YX12_offOn 12 := ⟨iwX12_offOn, e_mem (i := 202) (by decide +kernel) rfl, rfl⟩
theorem mwX12_offOf : e_MW YX12_offOf 2 := ⟨e_memt t2900 rfl, e_memt t300 rfl, by decide, ⟨by decide, by decide⟩, by decide +kernel⟩
theorem iwX12_offOf : Cond.instanceMethod (⟨"LandHouseModel", "offOf", "(II)V"⟩ : MethodName) ∈ e_gd := e_memt t2899 rfl
theorem vwX12_offOf : e_VW YX12_offOf 12 := ⟨iwX12_offOf, e_mem (i := 204) (by decide +kernel) rfl, rfl⟩
theorem mwX12_inOn : e_MW YX12_inOn 3 := ⟨e_memt t2896 rfl, e_memt t300 rfl, by decide, ⟨by decide, by decide⟩, by decide +kernel⟩
theorem iwX12_inOn : Cond.instanceMethod (⟨"LandHouseModel", "inOn", "(III)V"⟩ : MethodName) ∈ e_gd := e_memt t2895 rfl
theorem vwX12_inOn : e_VW YX12_inOn 12 := ⟨iwX12_inOn, e_mem (i := 203) (by decide +kernel) rfl, rfl⟩
theorem mwX12_inOf : e_MW YX12_inOf 3 := ⟨e_memt t2904 rfl, e_memt t300 rfl, by decide, ⟨by decide, by decide⟩, by decide +kernel⟩
theorem iwX12_inOf : Cond.instanceMethod (⟨"LandHouseModel", "inOf", "(III)V"⟩ : MethodName) ∈ e_gd := e_memt t2903 rfl
theorem vwX12_inOf : e_VW YX12_inOf 12 := ⟨iwX12_inOf, e_mem (i := 205) (by decide +kernel) rfl, rfl⟩
theorem mwX12_rankAt : e_MW YX12_rankAt 2 := ⟨e_memt t2965 rfl, e_memt t300 rfl, by decide, ⟨by decide, by decide⟩, by decide +kernel⟩
theorem iwX12_rankAt : Cond.instanceMethod (⟨"LandHouseModel", "rankAt", "(II)I"⟩ : MethodName) ∈ e_gd := e_memt t2964 rfl
theorem vwX12_rankAt : e_VW YX12_rankAt 12 := ⟨iwX12_rankAt, e_mem (i := 219) (by decide +kernel) rfl, rfl⟩
theorem mwX12_offRank : e_MW YX12_offRank 2 := ⟨e_memt t2969 rfl, e_memt t300 rfl, by decide, ⟨by decide, by decide⟩, by decide +kernel⟩
theorem iwX12_offRank : Cond.instanceMethod (⟨"LandHouseModel", "offRank", "(II)V"⟩ : MethodName) ∈ e_gd := e_memt t2968 rfl
theorem vwX12_offRank : e_VW YX12_offRank 12 := ⟨iwX12_offRank, e_mem (i := 220) (by decide +kernel) rfl, rfl⟩
theorem mwX12_offCharge : e_MW YX12_offCharge 2 := ⟨e_memt t2961 rfl, e_memt t300 rfl, by decide, ⟨by decide, by decide⟩, by decide +kernel⟩
theorem iwX12_offCharge : Cond.instanceMethod (⟨"LandHouseModel", "offCharge", "(II)V"⟩ : MethodName) ∈ e_gd := e_memt t2960 rfl
theorem vwX12_offCharge : e_VW YX12_offCharge 12 := ⟨iwX12_offCharge, e_mem (i := 218) (by decide +kernel) rfl, rfl⟩
theorem mwX12_endCharge : e_MW YX12_endCharge 1 := ⟨e_memt t2957 rfl, e_memt t300 rfl, by decide, ⟨by decide, by decide⟩, by decide +kernel⟩
theorem iwX12_endCharge : Cond.instanceMethod (⟨"LandHouseModel", "endCharge", "(I)V"⟩ : MethodName) ∈ e_gd := e_memt t2956 rfl
theorem vwX12_endCharge : e_VW YX12_endCharge 12 := ⟨iwX12_endCharge, e_mem (i := 217) (by decide +kernel) rfl, rfl⟩
theorem mwX12_offLot : e_MW YX12_offLot 2 := ⟨e_memt t2989 rfl, e_memt t300 rfl, by decide, ⟨by decide, by decide⟩, by decide +kernel⟩
theorem iwX12_offLot : Cond.instanceMethod (⟨"LandHouseModel", "offLot", "(II)V"⟩ : MethodName) ∈ e_gd := e_memt t2988 rfl
theorem vwX12_offLot : e_VW YX12_offLot 12 := ⟨iwX12_offLot, e_mem (i := 225) (by decide +kernel) rfl, rfl⟩
theorem mwX12_isBarred : e_MW YX12_isBarred 2 := ⟨e_memt t2805 rfl, e_memt t300 rfl, by decide, ⟨by decide, by decide⟩, by decide +kernel⟩
theorem iwX12_isBarred : Cond.instanceMethod (⟨"LandHouseModel", "isBarred", "(II)Z"⟩ : MethodName) ∈ e_gd := e_memt t2804 rfl
theorem vwX12_isBarred : e_VW YX12_isBarred 12 := ⟨iwX12_isBarred, e_mem (i := 184) (by decide +kernel) rfl, rfl⟩
theorem mwX12_areAble : e_MW YX12_areAble 1 := ⟨e_memt t2817 rfl, e_memt t300 rfl, by decide, ⟨by decide, by decide⟩, by decide +kernel⟩
theorem iwX12_areAble : Cond.instanceMethod (⟨"LandHouseModel", "areAble", "(I)Z"⟩ : MethodName) ∈ e_gd := e_memt t2816 rfl
theorem vwX12_areAble : e_VW YX12_areAble 12 := ⟨iwX12_areAble, e_mem (i := 187) (by decide +kernel) rfl, rfl⟩
theorem mwX12_whatIs : e_MW YX12_whatIs 1 := ⟨e_memt t2681 rfl, e_memt t300 rfl, by decide, ⟨by decide, by decide⟩, by decide +kernel⟩
theorem iwX12_whatIs : Cond.instanceMethod (⟨"LandHouseModel", "whatIs", "(J)I"⟩ : MethodName) ∈ e_gd := e_memt t2680 rfl
theorem vwX12_whatIs : e_VW YX12_whatIs 12 := ⟨iwX12_whatIs, e_mem (i := 154) (by decide +kernel) rfl, rfl⟩
theorem mwX12_wanted : e_MW YX12_wanted 3 := ⟨e_memt t2684 rfl, e_memt t300 rfl, by decide, ⟨by decide, by decide⟩, by decide +kernel⟩
theorem swX12_wanted : Cond.static (⟨"LandHouseModel", "wanted", "(III)I"⟩ : MethodName) ∈ e_gd := e_memt t2683 rfl
theorem mwX12_areNamed : e_MW YX12_areNamed 1 := ⟨e_memt t2677 rfl, e_memt t300 rfl, by decide, ⟨by decide, by decide⟩, by decide +kernel⟩
theorem iwX12_areNamed : Cond.instanceMethod (⟨"LandHouseModel", "areNamed", "(I)Z"⟩ : MethodName) ∈ e_gd := e_memt t2676 rfl
theorem vwX12_areNamed : e_VW YX12_areNamed 12 := ⟨iwX12_areNamed, e_mem (i := 153) (by decide +kernel) rfl, rfl⟩
theorem mwX12_done : e_MW YX12_done 1 := ⟨e_memt t2673 rfl, e_memt t300 rfl, by decide, ⟨by decide, by decide⟩, by decide +kernel⟩
theorem iwX12_done : Cond.instanceMethod (⟨"LandHouseModel", "done", "(I)I"⟩ : MethodName) ∈ e_gd := e_memt t2672 rfl
theorem vwX12_done : e_VW YX12_done 12 := ⟨iwX12_done, e_mem (i := 152) (by decide +kernel) rfl, rfl⟩
theorem mwX12_born : e_MW YX12_born 1 := ⟨e_memt t2692 rfl, e_memt t300 rfl, by decide, ⟨by decide, by decide⟩, by decide +kernel⟩
theorem iwX12_born : Cond.instanceMethod (⟨"LandHouseModel", "born", "(I)I"⟩ : MethodName) ∈ e_gd := e_memt t2691 rfl
theorem vwX12_born : e_VW YX12_born 12 := ⟨iwX12_born, e_mem (i := 156) (by decide +kernel) rfl, rfl⟩
theorem mwX12_firm : e_MW YX12_firm 1 := ⟨e_memt t2700 rfl, e_memt t300 rfl, by decide, ⟨by decide, by decide⟩, by decide +kernel⟩
theorem iwX12_firm : Cond.instanceMethod (⟨"LandHouseModel", "firm", "(I)I"⟩ : MethodName) ∈ e_gd := e_memt t2699 rfl
theorem vwX12_firm : e_VW YX12_firm 12 := ⟨iwX12_firm, e_mem (i := 158) (by decide +kernel) rfl, rfl⟩
theorem mwX12_guard : e_MW YX12_guard 0 := ⟨e_memt t2724 rfl, e_memt t300 rfl, by decide, ⟨by decide, by decide⟩, by decide +kernel⟩
theorem iwX12_guard : Cond.instanceMethod (⟨"LandHouseModel", "guard", "()I"⟩ : MethodName) ∈ e_gd := e_memt t2723 rfl
theorem vwX12_guard : e_VW YX12_guard 12 := ⟨iwX12_guard, e_mem (i := 164) (by decide +kernel) rfl, rfl⟩
theorem mwX12_areParts : e_MW YX12_areParts 2 := ⟨e_memt t2732 rfl, e_memt t300 rfl, by decide, ⟨by decide, by decide⟩, by decide +kernel⟩
theorem iwX12_areParts : Cond.instanceMethod (⟨"LandHouseModel", "areParts", "(II)Z"⟩ : MethodName) ∈ e_gd := e_memt t2731 rfl
theorem vwX12_areParts : e_VW YX12_areParts 12 := ⟨iwX12_areParts, e_mem (i := 166) (by decide +kernel) rfl, rfl⟩
theorem mwX12_parted : e_MW YX12_parted 3 := ⟨e_memt t2772 rfl, e_memt t300 rfl, by decide, ⟨by decide, by decide⟩, by decide +kernel⟩
theorem iwX12_parted : Cond.instanceMethod (⟨"LandHouseModel", "parted", "(IJJ)V"⟩ : MethodName) ∈ e_gd := e_memt t2771 rfl
theorem vwX12_parted : e_VW YX12_parted 12 := ⟨iwX12_parted, e_mem (i := 176) (by decide +kernel) rfl, rfl⟩
theorem mwX12_inherits : e_MW YX12_inherits 3 := ⟨e_memt t2748 rfl, e_memt t300 rfl, by decide, ⟨by decide, by decide⟩, by decide +kernel⟩
theorem iwX12_inherits : Cond.instanceMethod (⟨"LandHouseModel", "inherits", "(III)V"⟩ : MethodName) ∈ e_gd := e_memt t2747 rfl
theorem vwX12_inherits : e_VW YX12_inherits 12 := ⟨iwX12_inherits, e_mem (i := 170) (by decide +kernel) rfl, rfl⟩
theorem mwX12_death : e_MW YX12_death 1 := ⟨e_memt t2728 rfl, e_memt t300 rfl, by decide, ⟨by decide, by decide⟩, by decide +kernel⟩
theorem iwX12_death : Cond.instanceMethod (⟨"LandHouseModel", "death", "(I)I"⟩ : MethodName) ∈ e_gd := e_memt t2727 rfl
theorem vwX12_death : e_VW YX12_death 12 := ⟨iwX12_death, e_mem (i := 165) (by decide +kernel) rfl, rfl⟩
theorem mwX12_isOwner : e_MW YX12_isOwner 2 := ⟨e_memt t2793 rfl, e_memt t300 rfl, by decide, ⟨by decide, by decide⟩, by decide +kernel⟩
theorem iwX12_isOwner : Cond.instanceMethod (⟨"LandHouseModel", "isOwner", "(II)Z"⟩ : MethodName) ∈ e_gd := e_memt t2792 rfl
theorem vwX12_isOwner : e_VW YX12_isOwner 12 := ⟨iwX12_isOwner, e_mem (i := 181) (by decide +kernel) rfl, rfl⟩
theorem mwX12_close : e_MW YX12_close 0 := ⟨e_memt t2789 rfl, e_memt t300 rfl, by decide, ⟨by decide, by decide⟩, by decide +kernel⟩
theorem iwX12_close : Cond.instanceMethod (⟨"LandHouseModel", "close", "()I"⟩ : MethodName) ∈ e_gd := e_memt t2788 rfl
theorem vwX12_close : e_VW YX12_close 12 := ⟨iwX12_close, e_mem (i := 180) (by decide +kernel) rfl, rfl⟩
theorem mwX12_sell : e_MW YX12_sell 1 := ⟨e_memt t2797 rfl, e_memt t300 rfl, by decide, ⟨by decide, by decide⟩, by decide +kernel⟩
theorem iwX12_sell : Cond.instanceMethod (⟨"LandHouseModel", "sell", "(I)I"⟩ : MethodName) ∈ e_gd := e_memt t2796 rfl
theorem vwX12_sell : e_VW YX12_sell 12 := ⟨iwX12_sell, e_mem (i := 182) (by decide +kernel) rfl, rfl⟩
theorem mwX12_newLot : e_MW YX12_newLot 4 := ⟨e_memt t2888 rfl, e_memt t300 rfl, by decide, ⟨by decide, by decide⟩, by decide +kernel⟩
theorem iwX12_newLot : Cond.instanceMethod (⟨"LandHouseModel", "newLot", "(JIII)I"⟩ : MethodName) ∈ e_gd := e_memt t2887 rfl
theorem vwX12_newLot : e_VW YX12_newLot 12 := ⟨iwX12_newLot, e_mem (i := 201) (by decide +kernel) rfl, rfl⟩
theorem mwX12_hasPoint : e_MW YX12_hasPoint 3 := ⟨e_memt t2880 rfl, e_memt t300 rfl, by decide, ⟨by decide, by decide⟩, by decide +kernel⟩
theorem iwX12_hasPoint : Cond.instanceMethod (⟨"LandHouseModel", "hasPoint", "(III)Z"⟩ : MethodName) ∈ e_gd := e_memt t2879 rfl
theorem vwX12_hasPoint : e_VW YX12_hasPoint 12 := ⟨iwX12_hasPoint, e_mem (i := 199) (by decide +kernel) rfl, rfl⟩
theorem mwX12_tooLong : e_MW YX12_tooLong 1 := ⟨e_memt t2876 rfl, e_memt t300 rfl, by decide, ⟨by decide, by decide⟩, by decide +kernel⟩
theorem iwX12_tooLong : Cond.instanceMethod (⟨"LandHouseModel", "tooLong", "(I)Z"⟩ : MethodName) ∈ e_gd := e_memt t2875 rfl
theorem vwX12_tooLong : e_VW YX12_tooLong 12 := ⟨iwX12_tooLong, e_mem (i := 198) (by decide +kernel) rfl, rfl⟩
theorem mwX12_split : e_MW YX12_split 1 := ⟨e_memt t2813 rfl, e_memt t300 rfl, by decide, ⟨by decide, by decide⟩, by decide +kernel⟩
theorem iwX12_split : Cond.instanceMethod (⟨"LandHouseModel", "split", "(I)I"⟩ : MethodName) ∈ e_gd := e_memt t2812 rfl
theorem vwX12_split : e_VW YX12_split 12 := ⟨iwX12_split, e_mem (i := 186) (by decide +kernel) rfl, rfl⟩
theorem mwX12_areAlike : e_MW YX12_areAlike 2 := ⟨e_memt t2912 rfl, e_memt t300 rfl, by decide, ⟨by decide, by decide⟩, by decide +kernel⟩
theorem iwX12_areAlike : Cond.instanceMethod (⟨"LandHouseModel", "areAlike", "(II)Z"⟩ : MethodName) ∈ e_gd := e_memt t2911 rfl
theorem vwX12_areAlike : e_VW YX12_areAlike 12 := ⟨iwX12_areAlike, e_mem (i := 207) (by decide +kernel) rfl, rfl⟩
theorem mwX12_bearAlike : e_MW YX12_bearAlike 2 := ⟨e_memt t2916 rfl, e_memt t300 rfl, by decide, ⟨by decide, by decide⟩, by decide +kernel⟩
theorem iwX12_bearAlike : Cond.instanceMethod (⟨"LandHouseModel", "bearAlike", "(II)Z"⟩ : MethodName) ∈ e_gd := e_memt t2915 rfl
theorem vwX12_bearAlike : e_VW YX12_bearAlike 12 := ⟨iwX12_bearAlike, e_mem (i := 208) (by decide +kernel) rfl, rfl⟩
theorem mwX12_join : e_MW YX12_join 1 := ⟨e_memt t2908 rfl, e_memt t300 rfl, by decide, ⟨by decide, by decide⟩, by decide +kernel⟩
theorem iwX12_join : Cond.instanceMethod (⟨"LandHouseModel", "join", "(I)I"⟩ : MethodName) ∈ e_gd := e_memt t2907 rfl
theorem vwX12_join : e_VW YX12_join 12 := ⟨iwX12_join, e_mem (i := 206) (by decide +kernel) rfl, rfl⟩
theorem mwX12_onOne : e_MW YX12_onOne 4 := ⟨e_memt t2936 rfl, e_memt t300 rfl, by decide, ⟨by decide, by decide⟩, by decide +kernel⟩
theorem iwX12_onOne : Cond.instanceMethod (⟨"LandHouseModel", "onOne", "(IIII)V"⟩ : MethodName) ∈ e_gd := e_memt t2935 rfl
theorem vwX12_onOne : e_VW YX12_onOne 12 := ⟨iwX12_onOne, e_mem (i := 212) (by decide +kernel) rfl, rfl⟩
theorem mwX12_ofOne : e_MW YX12_ofOne 4 := ⟨e_memt t2941 rfl, e_memt t300 rfl, by decide, ⟨by decide, by decide⟩, by decide +kernel⟩
theorem iwX12_ofOne : Cond.instanceMethod (⟨"LandHouseModel", "ofOne", "(IIII)V"⟩ : MethodName) ∈ e_gd := e_memt t2940 rfl
theorem vwX12_ofOne : e_VW YX12_ofOne 12 := ⟨iwX12_ofOne, e_mem (i := 213) (by decide +kernel) rfl, rfl⟩
theorem mwX12_border : e_MW YX12_border 1 := ⟨e_memt t2945 rfl, e_memt t300 rfl, by decide, ⟨by decide, by decide⟩, by decide +kernel⟩
theorem iwX12_border : Cond.instanceMethod (⟨"LandHouseModel", "border", "(I)I"⟩ : MethodName) ∈ e_gd := e_memt t2944 rfl
theorem vwX12_border : e_VW YX12_border 12 := ⟨iwX12_border, e_mem (i := 214) (by decide +kernel) rfl, rfl⟩
theorem mwX12_charge : e_MW YX12_charge 1 := ⟨e_memt t2949 rfl, e_memt t300 rfl, by decide, ⟨by decide, by decide⟩, by decide +kernel⟩
theorem iwX12_charge : Cond.instanceMethod (⟨"LandHouseModel", "charge", "(I)I"⟩ : MethodName) ∈ e_gd := e_memt t2948 rfl
theorem vwX12_charge : e_VW YX12_charge 12 := ⟨iwX12_charge, e_mem (i := 215) (by decide +kernel) rfl, rfl⟩
theorem mwX12_pay : e_MW YX12_pay 1 := ⟨e_memt t2953 rfl, e_memt t300 rfl, by decide, ⟨by decide, by decide⟩, by decide +kernel⟩
theorem iwX12_pay : Cond.instanceMethod (⟨"LandHouseModel", "pay", "(I)I"⟩ : MethodName) ∈ e_gd := e_memt t2952 rfl
theorem vwX12_pay : e_VW YX12_pay 12 := ⟨iwX12_pay, e_mem (i := 216) (by decide +kernel) rfl, rfl⟩
theorem mwX12_assign : e_MW YX12_assign 0 := ⟨e_memt t2973 rfl, e_memt t300 rfl, by decide, ⟨by decide, by decide⟩, by decide +kernel⟩
theorem iwX12_assign : Cond.instanceMethod (⟨"LandHouseModel", "assign", "()I"⟩ : MethodName) ∈ e_gd := e_memt t2972 rfl
theorem vwX12_assign : e_VW YX12_assign 12 := ⟨iwX12_assign, e_mem (i := 221) (by decide +kernel) rfl, rfl⟩
theorem mwX12_ranked : e_MW YX12_ranked 0 := ⟨e_memt t2977 rfl, e_memt t300 rfl, by decide, ⟨by decide, by decide⟩, by decide +kernel⟩
theorem iwX12_ranked : Cond.instanceMethod (⟨"LandHouseModel", "ranked", "()I"⟩ : MethodName) ∈ e_gd := e_memt t2976 rfl
theorem vwX12_ranked : e_VW YX12_ranked 12 := ⟨iwX12_ranked, e_mem (i := 222) (by decide +kernel) rfl, rfl⟩
theorem mwX12_freed : e_MW YX12_freed 0 := ⟨e_memt t2981 rfl, e_memt t300 rfl, by decide, ⟨by decide, by decide⟩, by decide +kernel⟩
theorem iwX12_freed : Cond.instanceMethod (⟨"LandHouseModel", "freed", "()I"⟩ : MethodName) ∈ e_gd := e_memt t2980 rfl
theorem vwX12_freed : e_VW YX12_freed 12 := ⟨iwX12_freed, e_mem (i := 223) (by decide +kernel) rfl, rfl⟩
theorem mwX12_auction : e_MW YX12_auction 1 := ⟨e_memt t2985 rfl, e_memt t300 rfl, by decide, ⟨by decide, by decide⟩, by decide +kernel⟩
theorem iwX12_auction : Cond.instanceMethod (⟨"LandHouseModel", "auction", "(I)I"⟩ : MethodName) ∈ e_gd := e_memt t2984 rfl
theorem vwX12_auction : e_VW YX12_auction 12 := ⟨iwX12_auction, e_mem (i := 224) (by decide +kernel) rfl, rfl⟩
theorem mwX12_serve : e_MW YX12_serve 1 := ⟨e_memt t2993 rfl, e_memt t300 rfl, by decide, ⟨by decide, by decide⟩, by decide +kernel⟩
theorem iwX12_serve : Cond.instanceMethod (⟨"LandHouseModel", "serve", "(I)I"⟩ : MethodName) ∈ e_gd := e_memt t2992 rfl
theorem vwX12_serve : e_VW YX12_serve 12 := ⟨iwX12_serve, e_mem (i := 226) (by decide +kernel) rfl, rfl⟩
theorem mwX12_waive : e_MW YX12_waive 0 := ⟨e_memt t2997 rfl, e_memt t300 rfl, by decide, ⟨by decide, by decide⟩, by decide +kernel⟩
theorem iwX12_waive : Cond.instanceMethod (⟨"LandHouseModel", "waive", "()I"⟩ : MethodName) ∈ e_gd := e_memt t2996 rfl
theorem vwX12_waive : e_VW YX12_waive 12 := ⟨iwX12_waive, e_mem (i := 227) (by decide +kernel) rfl, rfl⟩
theorem mwX12_lease : e_MW YX12_lease 1 := ⟨e_memt t3001 rfl, e_memt t300 rfl, by decide, ⟨by decide, by decide⟩, by decide +kernel⟩
theorem iwX12_lease : Cond.instanceMethod (⟨"LandHouseModel", "lease", "(I)I"⟩ : MethodName) ∈ e_gd := e_memt t3000 rfl
theorem vwX12_lease : e_VW YX12_lease 12 := ⟨iwX12_lease, e_mem (i := 228) (by decide +kernel) rfl, rfl⟩
theorem mwX12_caution : e_MW YX12_caution 1 := ⟨e_memt t3005 rfl, e_memt t300 rfl, by decide, ⟨by decide, by decide⟩, by decide +kernel⟩
theorem iwX12_caution : Cond.instanceMethod (⟨"LandHouseModel", "caution", "(I)I"⟩ : MethodName) ∈ e_gd := e_memt t3004 rfl
theorem vwX12_caution : e_VW YX12_caution 12 := ⟨iwX12_caution, e_mem (i := 229) (by decide +kernel) rfl, rfl⟩
theorem mwX12_option : e_MW YX12_option 1 := ⟨e_memt t3009 rfl, e_memt t300 rfl, by decide, ⟨by decide, by decide⟩, by decide +kernel⟩
theorem iwX12_option : Cond.instanceMethod (⟨"LandHouseModel", "option", "(I)I"⟩ : MethodName) ∈ e_gd := e_memt t3008 rfl
theorem vwX12_option : e_VW YX12_option 12 := ⟨iwX12_option, e_mem (i := 230) (by decide +kernel) rfl, rfl⟩
theorem mwX12_isOthers : e_MW YX12_isOthers 2 := ⟨e_memt t3017 rfl, e_memt t300 rfl, by decide, ⟨by decide, by decide⟩, by decide +kernel⟩
theorem iwX12_isOthers : Cond.instanceMethod (⟨"LandHouseModel", "isOthers", "(II)Z"⟩ : MethodName) ∈ e_gd := e_memt t3016 rfl
theorem vwX12_isOthers : e_VW YX12_isOthers 12 := ⟨iwX12_isOthers, e_mem (i := 232) (by decide +kernel) rfl, rfl⟩
theorem mwX12_take : e_MW YX12_take 0 := ⟨e_memt t3013 rfl, e_memt t300 rfl, by decide, ⟨by decide, by decide⟩, by decide +kernel⟩
theorem iwX12_take : Cond.instanceMethod (⟨"LandHouseModel", "take", "()I"⟩ : MethodName) ∈ e_gd := e_memt t3012 rfl
theorem vwX12_take : e_VW YX12_take 12 := ⟨iwX12_take, e_mem (i := 231) (by decide +kernel) rfl, rfl⟩
theorem mwX12_ended : e_MW YX12_ended 0 := ⟨e_memt t3021 rfl, e_memt t300 rfl, by decide, ⟨by decide, by decide⟩, by decide +kernel⟩
theorem iwX12_ended : Cond.instanceMethod (⟨"LandHouseModel", "ended", "()I"⟩ : MethodName) ∈ e_gd := e_memt t3020 rfl
theorem vwX12_ended : e_VW YX12_ended 12 := ⟨iwX12_ended, e_mem (i := 233) (by decide +kernel) rfl, rfl⟩
theorem mwX12_judge : e_MW YX12_judge 1 := ⟨e_memt t2669 rfl, e_memt t300 rfl, by decide, ⟨by decide, by decide⟩, by decide +kernel⟩
theorem iwX12_judge : Cond.instanceMethod (⟨"LandHouseModel", "judge", "(I)V"⟩ : MethodName) ∈ e_gd := e_memt t2668 rfl
theorem vwX12_judge : e_VW YX12_judge 12 := ⟨iwX12_judge, e_mem (i := 151) (by decide +kernel) rfl, rfl⟩
theorem mwX12_through : e_MW YX12_through 2 := ⟨e_memt t2665 rfl, e_memt t300 rfl, by decide, ⟨by decide, by decide⟩, by decide +kernel⟩
theorem iwX12_through : Cond.instanceMethod (⟨"LandHouseModel", "through", "(II)V"⟩ : MethodName) ∈ e_gd := e_memt t2664 rfl
theorem vwX12_through : e_VW YX12_through 12 := ⟨iwX12_through, e_mem (i := 150) (by decide +kernel) rfl, rfl⟩
theorem mwX12_look : e_MW YX12_look 2 := ⟨e_memt t3029 rfl, e_memt t300 rfl, by decide, ⟨by decide, by decide⟩, by decide +kernel⟩
theorem iwX12_look : Cond.instanceMethod (⟨"LandHouseModel", "look", "(II)V"⟩ : MethodName) ∈ e_gd := e_memt t3028 rfl
theorem vwX12_look : e_VW YX12_look 12 := ⟨iwX12_look, e_mem (i := 234) (by decide +kernel) rfl, rfl⟩
theorem mwX12_isHere : e_MW YX12_isHere 2 := ⟨e_memt t3093 rfl, e_memt t300 rfl, by decide, ⟨by decide, by decide⟩, by decide +kernel⟩
theorem iwX12_isHere : Cond.instanceMethod (⟨"LandHouseModel", "isHere", "(II)Z"⟩ : MethodName) ∈ e_gd := e_memt t3092 rfl
theorem vwX12_isHere : e_VW YX12_isHere 12 := ⟨iwX12_isHere, e_mem (i := 248) (by decide +kernel) rfl, rfl⟩
theorem mwX12_feed : e_MW YX12_feed 5 := ⟨e_memt t2509 rfl, e_memt t300 rfl, by decide, ⟨by decide, by decide⟩, by decide +kernel⟩
theorem iwX12_feed : Cond.instanceMethod (⟨"LandHouseModel", "feed", "(IIIII)Z"⟩ : MethodName) ∈ e_gd := e_memt t2507 rfl
theorem vwX12_feed : e_VW YX12_feed 12 := ⟨iwX12_feed, e_memt t2508 rfl, rfl⟩
theorem mwX12_four : e_MW YX12_four 1 := ⟨e_memt t2513 rfl, e_memt t300 rfl, by decide, ⟨by decide, by decide⟩, by decide +kernel⟩
theorem iwX12_four : Cond.instanceMethod (⟨"LandHouseModel", "four", "(I)V"⟩ : MethodName) ∈ e_gd := e_memt t2512 rfl
theorem vwX12_four : e_VW YX12_four 12 := ⟨iwX12_four, e_mem (i := 121) (by decide +kernel) rfl, rfl⟩
theorem mwX12_end : e_MW YX12_end 1 := ⟨e_memt t2517 rfl, e_memt t300 rfl, by decide, ⟨by decide, by decide⟩, by decide +kernel⟩
theorem iwX12_end : Cond.instanceMethod (⟨"LandHouseModel", "end", "(I)Z"⟩ : MethodName) ∈ e_gd := e_memt t2515 rfl
theorem vwX12_end : e_VW YX12_end 12 := ⟨iwX12_end, e_memt t2516 rfl, rfl⟩
theorem mwX12_clock : e_MW YX12_clock 1 := ⟨e_memt t2521 rfl, e_memt t300 rfl, by decide, ⟨by decide, by decide⟩, by decide +kernel⟩
theorem iwX12_clock : Cond.instanceMethod (⟨"LandHouseModel", "clock", "(I)Z"⟩ : MethodName) ∈ e_gd := e_memt t2519 rfl
theorem vwX12_clock : e_VW YX12_clock 12 := ⟨iwX12_clock, e_memt t2520 rfl, rfl⟩
theorem mwX12_mustEntry : e_MW YX12_mustEntry 1 := ⟨e_memt t2587 rfl, e_memt t300 rfl, by decide, ⟨by decide, by decide⟩, by decide +kernel⟩
theorem iwX12_mustEntry : Cond.instanceMethod (⟨"LandHouseModel", "mustEntry", "(Z)I"⟩ : MethodName) ∈ e_gd := e_memt t2586 rfl
theorem vwX12_mustEntry : e_VW YX12_mustEntry 12 := ⟨iwX12_mustEntry, e_mem (i := 134) (by decide +kernel) rfl, rfl⟩
theorem mwX12_reads : e_MW YX12_reads 1 := ⟨e_memt t2571 rfl, e_memt t300 rfl, by decide, ⟨by decide, by decide⟩, by decide +kernel⟩
theorem iwX12_reads : Cond.instanceMethod (⟨"LandHouseModel", "reads", "(I)Z"⟩ : MethodName) ∈ e_gd := e_memt t2570 rfl
theorem vwX12_reads : e_VW YX12_reads 12 := ⟨iwX12_reads, e_mem (i := 130) (by decide +kernel) rfl, rfl⟩
theorem mwX12_enter : e_MW YX12_enter 0 := ⟨e_memt t2526 rfl, e_memt t300 rfl, by decide, ⟨by decide, by decide⟩, by decide +kernel⟩
theorem iwX12_enter : Cond.instanceMethod (⟨"LandHouseModel", "enter", "()I"⟩ : MethodName) ∈ e_gd := e_memt t2524 rfl
theorem vwX12_enter : e_VW YX12_enter 12 := ⟨iwX12_enter, e_memt t2525 rfl, rfl⟩
theorem mwX12_fault : e_MW YX12_fault 0 := ⟨e_memt t2657 rfl, e_memt t300 rfl, by decide, ⟨by decide, by decide⟩, by decide +kernel⟩
theorem iwX12_fault : Cond.instanceMethod (⟨"LandHouseModel", "fault", "()I"⟩ : MethodName) ∈ e_gd := e_memt t2655 rfl
theorem vwX12_fault : e_VW YX12_fault 12 := ⟨iwX12_fault, e_memt t2656 rfl, rfl⟩
theorem mwX12_suppose : e_MW YX12_suppose 0 := ⟨e_memt t2661 rfl, e_memt t300 rfl, by decide, ⟨by decide, by decide⟩, by decide +kernel⟩
theorem iwX12_suppose : Cond.instanceMethod (⟨"LandHouseModel", "suppose", "()I"⟩ : MethodName) ∈ e_gd := e_memt t2659 rfl
theorem vwX12_suppose : e_VW YX12_suppose 12 := ⟨iwX12_suppose, e_memt t2660 rfl, rfl⟩
theorem mwX12_view : e_MW YX12_view 2 := ⟨e_memt t3025 rfl, e_memt t300 rfl, by decide, ⟨by decide, by decide⟩, by decide +kernel⟩
theorem iwX12_view : Cond.instanceMethod (⟨"LandHouseModel", "view", "(II)I"⟩ : MethodName) ∈ e_gd := e_memt t3023 rfl
theorem vwX12_view : e_VW YX12_view 12 := ⟨iwX12_view, e_memt t3024 rfl, rfl⟩
theorem mwX12_came : e_MW YX12_came 1 := ⟨e_memt t3033 rfl, e_memt t300 rfl, by decide, ⟨by decide, by decide⟩, by decide +kernel⟩
theorem iwX12_came : Cond.instanceMethod (⟨"LandHouseModel", "came", "(I)I"⟩ : MethodName) ∈ e_gd := e_memt t3031 rfl
theorem vwX12_came : e_VW YX12_came 12 := ⟨iwX12_came, e_memt t3032 rfl, rfl⟩
theorem mwX12_put : e_MW YX12_put 4 := ⟨e_memt t3065 rfl, e_memt t300 rfl, by decide, ⟨by decide, by decide⟩, by decide +kernel⟩
theorem iwX12_put : Cond.instanceMethod (⟨"LandHouseModel", "put", "(IIIJ)V"⟩ : MethodName) ∈ e_gd := e_memt t3064 rfl
theorem vwX12_put : e_VW YX12_put 12 := ⟨iwX12_put, e_mem (i := 241) (by decide +kernel) rfl, rfl⟩
theorem mwX12_opens : e_MW YX12_opens 0 := ⟨e_memt t3061 rfl, e_memt t300 rfl, by decide, ⟨by decide, by decide⟩, by decide +kernel⟩
theorem iwX12_opens : Cond.instanceMethod (⟨"LandHouseModel", "opens", "()Z"⟩ : MethodName) ∈ e_gd := e_memt t3060 rfl
theorem vwX12_opens : e_VW YX12_opens 12 := ⟨iwX12_opens, e_mem (i := 240) (by decide +kernel) rfl, rfl⟩
theorem mwX12_factor : e_MW YX12_factor 0 := ⟨e_memt t3081 rfl, e_memt t300 rfl, by decide, ⟨by decide, by decide⟩, by decide +kernel⟩
theorem iwX12_factor : Cond.instanceMethod (⟨"LandHouseModel", "factor", "()Z"⟩ : MethodName) ∈ e_gd := e_memt t3080 rfl
theorem vwX12_factor : e_VW YX12_factor 12 := ⟨iwX12_factor, e_mem (i := 245) (by decide +kernel) rfl, rfl⟩
theorem mwX12_term : e_MW YX12_term 0 := ⟨e_memt t3077 rfl, e_memt t300 rfl, by decide, ⟨by decide, by decide⟩, by decide +kernel⟩
theorem iwX12_term : Cond.instanceMethod (⟨"LandHouseModel", "term", "()Z"⟩ : MethodName) ∈ e_gd := e_memt t3076 rfl
theorem vwX12_term : e_VW YX12_term 12 := ⟨iwX12_term, e_mem (i := 244) (by decide +kernel) rfl, rfl⟩
theorem mwX12_value : e_MW YX12_value 0 := ⟨e_memt t3073 rfl, e_memt t300 rfl, by decide, ⟨by decide, by decide⟩, by decide +kernel⟩
theorem iwX12_value : Cond.instanceMethod (⟨"LandHouseModel", "value", "()Z"⟩ : MethodName) ∈ e_gd := e_memt t3072 rfl
theorem vwX12_value : e_VW YX12_value 12 := ⟨iwX12_value, e_mem (i := 243) (by decide +kernel) rfl, rfl⟩
theorem mwX12_compares : e_MW YX12_compares 0 := ⟨e_memt t3085 rfl, e_memt t300 rfl, by decide, ⟨by decide, by decide⟩, by decide +kernel⟩
theorem iwX12_compares : Cond.instanceMethod (⟨"LandHouseModel", "compares", "()I"⟩ : MethodName) ∈ e_gd := e_memt t3084 rfl
theorem vwX12_compares : e_VW YX12_compares 12 := ⟨iwX12_compares, e_mem (i := 246) (by decide +kernel) rfl, rfl⟩
theorem mwX12_one : e_MW YX12_one 0 := ⟨e_memt t3057 rfl, e_memt t300 rfl, by decide, ⟨by decide, by decide⟩, by decide +kernel⟩
theorem iwX12_one : Cond.instanceMethod (⟨"LandHouseModel", "one", "()Z"⟩ : MethodName) ∈ e_gd := e_memt t3056 rfl
theorem vwX12_one : e_VW YX12_one 12 := ⟨iwX12_one, e_mem (i := 239) (by decide +kernel) rfl, rfl⟩
theorem mwX12_has : e_MW YX12_has 0 := ⟨e_memt t3069 rfl, e_memt t300 rfl, by decide, ⟨by decide, by decide⟩, by decide +kernel⟩
theorem iwX12_has : Cond.instanceMethod (⟨"LandHouseModel", "has", "()Z"⟩ : MethodName) ∈ e_gd := e_memt t3068 rfl
theorem vwX12_has : e_VW YX12_has 12 := ⟨iwX12_has, e_mem (i := 242) (by decide +kernel) rfl, rfl⟩
theorem mwX12_both : e_MW YX12_both 0 := ⟨e_memt t3053 rfl, e_memt t300 rfl, by decide, ⟨by decide, by decide⟩, by decide +kernel⟩
theorem iwX12_both : Cond.instanceMethod (⟨"LandHouseModel", "both", "()Z"⟩ : MethodName) ∈ e_gd := e_memt t3052 rfl
theorem vwX12_both : e_VW YX12_both 12 := ⟨iwX12_both, e_mem (i := 238) (by decide +kernel) rfl, rfl⟩
theorem mwX12_cond : e_MW YX12_cond 0 := ⟨e_memt t3049 rfl, e_memt t300 rfl, by decide, ⟨by decide, by decide⟩, by decide +kernel⟩
theorem iwX12_cond : Cond.instanceMethod (⟨"LandHouseModel", "cond", "()Z"⟩ : MethodName) ∈ e_gd := e_memt t3048 rfl
theorem vwX12_cond : e_VW YX12_cond 12 := ⟨iwX12_cond, e_mem (i := 237) (by decide +kernel) rfl, rfl⟩
theorem mwX12_set : e_MW YX12_set 0 := ⟨e_memt t3045 rfl, e_memt t300 rfl, by decide, ⟨by decide, by decide⟩, by decide +kernel⟩
theorem iwX12_set : Cond.instanceMethod (⟨"LandHouseModel", "set", "()Z"⟩ : MethodName) ∈ e_gd := e_memt t3044 rfl
theorem vwX12_set : e_VW YX12_set 12 := ⟨iwX12_set, e_mem (i := 236) (by decide +kernel) rfl, rfl⟩
theorem mwX12_question : e_MW YX12_question 0 := ⟨e_memt t3041 rfl, e_memt t300 rfl, by decide, ⟨by decide, by decide⟩, by decide +kernel⟩
theorem iwX12_question : Cond.instanceMethod (⟨"LandHouseModel", "question", "()Z"⟩ : MethodName) ∈ e_gd := e_memt t3040 rfl
theorem vwX12_question : e_VW YX12_question 12 := ⟨iwX12_question, e_mem (i := 235) (by decide +kernel) rfl, rfl⟩
theorem mwX12_fact : e_MW YX12_fact 3 := ⟨e_memt t3182 rfl, e_memt t300 rfl, by decide, ⟨by decide, by decide⟩, by decide +kernel⟩
theorem iwX12_fact : Cond.instanceMethod (⟨"LandHouseModel", "fact", "(III)J"⟩ : MethodName) ∈ e_gd := e_memt t3181 rfl
theorem vwX12_fact : e_VW YX12_fact 12 := ⟨iwX12_fact, e_mem (i := 269) (by decide +kernel) rfl, rfl⟩
theorem mwX12_debts : e_MW YX12_debts 2 := ⟨e_memt t3186 rfl, e_memt t300 rfl, by decide, ⟨by decide, by decide⟩, by decide +kernel⟩
theorem iwX12_debts : Cond.instanceMethod (⟨"LandHouseModel", "debts", "(II)J"⟩ : MethodName) ∈ e_gd := e_memt t3185 rfl
theorem vwX12_debts : e_VW YX12_debts 12 := ⟨iwX12_debts, e_mem (i := 270) (by decide +kernel) rfl, rfl⟩
theorem mwX12_lotsOf : e_MW YX12_lotsOf 2 := ⟨e_memt t3194 rfl, e_memt t300 rfl, by decide, ⟨by decide, by decide⟩, by decide +kernel⟩
theorem iwX12_lotsOf : Cond.instanceMethod (⟨"LandHouseModel", "lotsOf", "(II)J"⟩ : MethodName) ∈ e_gd := e_memt t3193 rfl
theorem vwX12_lotsOf : e_VW YX12_lotsOf 12 := ⟨iwX12_lotsOf, e_mem (i := 272) (by decide +kernel) rfl, rfl⟩
theorem mwX12_asked : e_MW YX12_asked 4 := ⟨e_memt t3198 rfl, e_memt t300 rfl, by decide, ⟨by decide, by decide⟩, by decide +kernel⟩
theorem iwX12_asked : Cond.instanceMethod (⟨"LandHouseModel", "asked", "(IJII)Z"⟩ : MethodName) ∈ e_gd := e_memt t3197 rfl
theorem vwX12_asked : e_VW YX12_asked 12 := ⟨iwX12_asked, e_mem (i := 273) (by decide +kernel) rfl, rfl⟩
theorem mwX12_worked : e_MW YX12_worked 4 := ⟨e_memt t3178 rfl, e_memt t300 rfl, by decide, ⟨by decide, by decide⟩, by decide +kernel⟩
theorem iwX12_worked : Cond.instanceMethod (⟨"LandHouseModel", "worked", "(IIII)J"⟩ : MethodName) ∈ e_gd := e_memt t3177 rfl
theorem vwX12_worked : e_VW YX12_worked 12 := ⟨iwX12_worked, e_mem (i := 268) (by decide +kernel) rfl, rfl⟩
theorem mwX12_two : e_MW YX12_two 3 := ⟨e_memt t3206 rfl, e_memt t300 rfl, by decide, ⟨by decide, by decide⟩, by decide +kernel⟩
theorem swX12_two : Cond.static (⟨"LandHouseModel", "two", "(IJJ)J"⟩ : MethodName) ∈ e_gd := e_memt t3205 rfl
theorem mwX12_ask : e_MW YX12_ask 0 := ⟨e_memt t3037 rfl, e_memt t300 rfl, by decide, ⟨by decide, by decide⟩, by decide +kernel⟩
theorem iwX12_ask : Cond.instanceMethod (⟨"LandHouseModel", "ask", "()I"⟩ : MethodName) ∈ e_gd := e_memt t3035 rfl
theorem vwX12_ask : e_VW YX12_ask 12 := ⟨iwX12_ask, e_memt t3036 rfl, rfl⟩
theorem mwX12_goOver : e_MW YX12_goOver 0 := ⟨e_memt t3174 rfl, e_memt t300 rfl, by decide, ⟨by decide, by decide⟩, by decide +kernel⟩
theorem iwX12_goOver : Cond.instanceMethod (⟨"LandHouseModel", "goOver", "()V"⟩ : MethodName) ∈ e_gd := e_memt t3173 rfl
theorem vwX12_goOver : e_VW YX12_goOver 12 := ⟨iwX12_goOver, e_mem (i := 267) (by decide +kernel) rfl, rfl⟩
theorem mwX12_trace : e_MW YX12_trace 0 := ⟨e_memt t3170 rfl, e_memt t300 rfl, by decide, ⟨by decide, by decide⟩, by decide +kernel⟩
theorem iwX12_trace : Cond.instanceMethod (⟨"LandHouseModel", "trace", "()V"⟩ : MethodName) ∈ e_gd := e_memt t3169 rfl
theorem vwX12_trace : e_VW YX12_trace 12 := ⟨iwX12_trace, e_mem (i := 266) (by decide +kernel) rfl, rfl⟩
theorem mwX12_write : e_MW YX12_write 1 := ⟨e_memt t3101 rfl, e_memt t300 rfl, by decide, ⟨by decide, by decide⟩, by decide +kernel⟩
theorem iwX12_write : Cond.instanceMethod (⟨"LandHouseModel", "write", "(I)V"⟩ : MethodName) ∈ e_gd := e_memt t3100 rfl
theorem vwX12_write : e_VW YX12_write 12 := ⟨iwX12_write, e_mem (i := 250) (by decide +kernel) rfl, rfl⟩
theorem mwX12_writeName : e_MW YX12_writeName 1 := ⟨e_memt t3109 rfl, e_memt t300 rfl, by decide, ⟨by decide, by decide⟩, by decide +kernel⟩
theorem iwX12_writeName : Cond.instanceMethod (⟨"LandHouseModel", "writeName", "(J)V"⟩ : MethodName) ∈ e_gd := e_memt t3108 rfl
theorem vwX12_writeName : e_VW YX12_writeName 12 := ⟨iwX12_writeName, e_mem (i := 252) (by decide +kernel) rfl, rfl⟩
theorem mwX12_writeWord : e_MW YX12_writeWord 1 := ⟨e_memt t3121 rfl, e_memt t300 rfl, by decide, ⟨by decide, by decide⟩, by decide +kernel⟩
theorem iwX12_writeWord : Cond.instanceMethod (⟨"LandHouseModel", "writeWord", "(I)V"⟩ : MethodName) ∈ e_gd := e_memt t3120 rfl
theorem vwX12_writeWord : e_VW YX12_writeWord 12 := ⟨iwX12_writeWord, e_mem (i := 254) (by decide +kernel) rfl, rfl⟩
theorem mwX12_writeNumber : e_MW YX12_writeNumber 1 := ⟨e_memt t3133 rfl, e_memt t300 rfl, by decide, ⟨by decide, by decide⟩, by decide +kernel⟩
theorem iwX12_writeNumber : Cond.instanceMethod (⟨"LandHouseModel", "writeNumber", "(J)V"⟩ : MethodName) ∈ e_gd := e_memt t3132 rfl
theorem vwX12_writeNumber : e_VW YX12_writeNumber 12 := ⟨iwX12_writeNumber, e_mem (i := 257) (by decide +kernel) rfl, rfl⟩
theorem mwX12_writeTwo : e_MW YX12_writeTwo 1 := ⟨e_memt t3158 rfl, e_memt t300 rfl, by decide, ⟨by decide, by decide⟩, by decide +kernel⟩
theorem iwX12_writeTwo : Cond.instanceMethod (⟨"LandHouseModel", "writeTwo", "(I)V"⟩ : MethodName) ∈ e_gd := e_memt t3157 rfl
theorem vwX12_writeTwo : e_VW YX12_writeTwo 12 := ⟨iwX12_writeTwo, e_mem (i := 263) (by decide +kernel) rfl, rfl⟩
theorem mwX12_writeDay : e_MW YX12_writeDay 1 := ⟨e_memt t3154 rfl, e_memt t300 rfl, by decide, ⟨by decide, by decide⟩, by decide +kernel⟩
theorem iwX12_writeDay : Cond.instanceMethod (⟨"LandHouseModel", "writeDay", "(I)V"⟩ : MethodName) ∈ e_gd := e_memt t3153 rfl
theorem vwX12_writeDay : e_VW YX12_writeDay 12 := ⟨iwX12_writeDay, e_mem (i := 262) (by decide +kernel) rfl, rfl⟩
theorem mwX12_begin : e_MW YX12_begin 2 := ⟨e_memt t3117 rfl, e_memt t300 rfl, by decide, ⟨by decide, by decide⟩, by decide +kernel⟩
theorem iwX12_begin : Cond.instanceMethod (⟨"LandHouseModel", "begin", "(II)V"⟩ : MethodName) ∈ e_gd := e_memt t3116 rfl
theorem vwX12_begin : e_VW YX12_begin 12 := ⟨iwX12_begin, e_mem (i := 253) (by decide +kernel) rfl, rfl⟩
theorem mwX12_more : e_MW YX12_more 1 := ⟨e_memt t3105 rfl, e_memt t300 rfl, by decide, ⟨by decide, by decide⟩, by decide +kernel⟩
theorem iwX12_more : Cond.instanceMethod (⟨"LandHouseModel", "more", "(I)V"⟩ : MethodName) ∈ e_gd := e_memt t3104 rfl
theorem vwX12_more : e_VW YX12_more 12 := ⟨iwX12_more, e_mem (i := 251) (by decide +kernel) rfl, rfl⟩
theorem mwX12_moreNumber : e_MW YX12_moreNumber 1 := ⟨e_memt t3129 rfl, e_memt t300 rfl, by decide, ⟨by decide, by decide⟩, by decide +kernel⟩
theorem iwX12_moreNumber : Cond.instanceMethod (⟨"LandHouseModel", "moreNumber", "(J)V"⟩ : MethodName) ∈ e_gd := e_memt t3128 rfl
theorem vwX12_moreNumber : e_VW YX12_moreNumber 12 := ⟨iwX12_moreNumber, e_mem (i := 256) (by decide +kernel) rfl, rfl⟩
theorem mwX12_moreDay : e_MW YX12_moreDay 1 := ⟨e_memt t3150 rfl, e_memt t300 rfl, by decide, ⟨by decide, by decide⟩, by decide +kernel⟩
theorem iwX12_moreDay : Cond.instanceMethod (⟨"LandHouseModel", "moreDay", "(I)V"⟩ : MethodName) ∈ e_gd := e_memt t3149 rfl
theorem vwX12_moreDay : e_VW YX12_moreDay 12 := ⟨iwX12_moreDay, e_mem (i := 261) (by decide +kernel) rfl, rfl⟩
theorem mwX12_share : e_MW YX12_share 3 := ⟨e_memt t3138 rfl, e_memt t300 rfl, by decide, ⟨by decide, by decide⟩, by decide +kernel⟩
theorem iwX12_share : Cond.instanceMethod (⟨"LandHouseModel", "share", "(IJJ)V"⟩ : MethodName) ∈ e_gd := e_memt t3137 rfl
theorem vwX12_share : e_VW YX12_share 12 := ⟨iwX12_share, e_mem (i := 258) (by decide +kernel) rfl, rfl⟩
theorem mwX12_wordOf : e_MW YX12_wordOf 1 := ⟨e_memt t3113 rfl, e_memt t300 rfl, by decide, ⟨by decide, by decide⟩, by decide +kernel⟩
theorem swX12_wordOf : Cond.static (⟨"LandHouseModel", "wordOf", "(I)I"⟩ : MethodName) ∈ e_gd := e_memt t3112 rfl
theorem mwX12_lineOf : e_MW YX12_lineOf 2 := ⟨e_memt t3097 rfl, e_memt t300 rfl, by decide, ⟨by decide, by decide⟩, by decide +kernel⟩
theorem iwX12_lineOf : Cond.instanceMethod (⟨"LandHouseModel", "lineOf", "(II)V"⟩ : MethodName) ∈ e_gd := e_memt t3096 rfl
theorem vwX12_lineOf : e_VW YX12_lineOf 12 := ⟨iwX12_lineOf, e_mem (i := 249) (by decide +kernel) rfl, rfl⟩
theorem mwX12_show : e_MW YX12_show 0 := ⟨e_memt t3089 rfl, e_memt t300 rfl, by decide, ⟨by decide, by decide⟩, by decide +kernel⟩
theorem iwX12_show : Cond.instanceMethod (⟨"LandHouseModel", "show", "()V"⟩ : MethodName) ∈ e_gd := e_memt t3088 rfl
theorem vwX12_show : e_VW YX12_show 12 := ⟨iwX12_show, e_mem (i := 247) (by decide +kernel) rfl, rfl⟩
theorem mwX12_showLot : e_MW YX12_showLot 1 := ⟨e_memt t3125 rfl, e_memt t300 rfl, by decide, ⟨by decide, by decide⟩, by decide +kernel⟩
theorem iwX12_showLot : Cond.instanceMethod (⟨"LandHouseModel", "showLot", "(I)V"⟩ : MethodName) ∈ e_gd := e_memt t3124 rfl
theorem vwX12_showLot : e_VW YX12_showLot 12 := ⟨iwX12_showLot, e_mem (i := 255) (by decide +kernel) rfl, rfl⟩
theorem mwX12_debt : e_MW YX12_debt 1 := ⟨e_memt t3142 rfl, e_memt t300 rfl, by decide, ⟨by decide, by decide⟩, by decide +kernel⟩
theorem iwX12_debt : Cond.instanceMethod (⟨"LandHouseModel", "debt", "(I)V"⟩ : MethodName) ∈ e_gd := e_memt t3141 rfl
theorem vwX12_debt : e_VW YX12_debt 12 := ⟨iwX12_debt, e_mem (i := 259) (by decide +kernel) rfl, rfl⟩
theorem mwX12_served : e_MW YX12_served 2 := ⟨e_memt t3146 rfl, e_memt t300 rfl, by decide, ⟨by decide, by decide⟩, by decide +kernel⟩
theorem iwX12_served : Cond.instanceMethod (⟨"LandHouseModel", "served", "(II)V"⟩ : MethodName) ∈ e_gd := e_memt t3145 rfl
theorem vwX12_served : e_VW YX12_served 12 := ⟨iwX12_served, e_mem (i := 260) (by decide +kernel) rfl, rfl⟩
theorem mwX12_showPerson : e_MW YX12_showPerson 1 := ⟨e_memt t3162 rfl, e_memt t300 rfl, by decide, ⟨by decide, by decide⟩, by decide +kernel⟩
theorem iwX12_showPerson : Cond.instanceMethod (⟨"LandHouseModel", "showPerson", "(I)V"⟩ : MethodName) ∈ e_gd := e_memt t3161 rfl
theorem vwX12_showPerson : e_VW YX12_showPerson 12 := ⟨iwX12_showPerson, e_mem (i := 264) (by decide +kernel) rfl, rfl⟩
theorem mwX12_showOther : e_MW YX12_showOther 2 := ⟨e_memt t3166 rfl, e_memt t300 rfl, by decide, ⟨by decide, by decide⟩, by decide +kernel⟩
theorem iwX12_showOther : Cond.instanceMethod (⟨"LandHouseModel", "showOther", "(II)V"⟩ : MethodName) ∈ e_gd := e_memt t3165 rfl
theorem vwX12_showOther : e_VW YX12_showOther 12 := ⟨iwX12_showOther, e_mem (i := 265) (by decide +kernel) rfl, rfl⟩
theorem mwX12_answer : e_MW YX12_answer 0 := ⟨e_memt t3210 rfl, e_memt t300 rfl, by decide, ⟨by decide, by decide⟩, by decide +kernel⟩
theorem iwX12_answer : Cond.instanceMethod (⟨"LandHouseModel", "answer", "()J"⟩ : MethodName) ∈ e_gd := e_memt t3208 rfl
theorem vwX12_answer : e_VW YX12_answer 12 := ⟨iwX12_answer, e_memt t3209 rfl, rfl⟩
theorem mwX12_thrown : e_MW YX12_thrown 0 := ⟨e_memt t3214 rfl, e_memt t300 rfl, by decide, ⟨by decide, by decide⟩, by decide +kernel⟩
theorem iwX12_thrown : Cond.instanceMethod (⟨"LandHouseModel", "thrown", "()I"⟩ : MethodName) ∈ e_gd := e_memt t3212 rfl
theorem vwX12_thrown : e_VW YX12_thrown 12 := ⟨iwX12_thrown, e_memt t3213 rfl, rfl⟩
theorem mwX12_throwsIf : e_MW YX12_throwsIf 1 := ⟨e_memt t3222 rfl, e_memt t300 rfl, by decide, ⟨by decide, by decide⟩, by decide +kernel⟩
theorem iwX12_throwsIf : Cond.instanceMethod (⟨"LandHouseModel", "throwsIf", "(Z)Z"⟩ : MethodName) ∈ e_gd := e_memt t3221 rfl
theorem vwX12_throwsIf : e_VW YX12_throwsIf 12 := ⟨iwX12_throwsIf, e_mem (i := 275) (by decide +kernel) rfl, rfl⟩
theorem mwX12_octet : e_MW YX12_octet 1 := ⟨e_memt t3218 rfl, e_memt t300 rfl, by decide, ⟨by decide, by decide⟩, by decide +kernel⟩
theorem iwX12_octet : Cond.instanceMethod (⟨"LandHouseModel", "octet", "(I)I"⟩ : MethodName) ∈ e_gd := e_memt t3216 rfl
theorem vwX12_octet : e_VW YX12_octet 12 := ⟨iwX12_octet, e_memt t3217 rfl, rfl⟩
theorem mwX12_here : e_MW YX12_here 1 := ⟨e_memt t3230 rfl, e_memt t300 rfl, by decide, ⟨by decide, by decide⟩, by decide +kernel⟩
theorem iwX12_here : Cond.instanceMethod (⟨"LandHouseModel", "here", "(I)I"⟩ : MethodName) ∈ e_gd := e_memt t3229 rfl
theorem vwX12_here : e_VW YX12_here 12 := ⟨iwX12_here, e_mem (i := 276) (by decide +kernel) rfl, rfl⟩
theorem mwX12_count : e_MW YX12_count 1 := ⟨e_memt t3226 rfl, e_memt t300 rfl, by decide, ⟨by decide, by decide⟩, by decide +kernel⟩
theorem iwX12_count : Cond.instanceMethod (⟨"LandHouseModel", "count", "(I)I"⟩ : MethodName) ∈ e_gd := e_memt t3224 rfl
theorem vwX12_count : e_VW YX12_count 12 := ⟨iwX12_count, e_memt t3225 rfl, rfl⟩
theorem mwX12_numbered : e_MW YX12_numbered 2 := ⟨e_memt t3238 rfl, e_memt t300 rfl, by decide, ⟨by decide, by decide⟩, by decide +kernel⟩
theorem iwX12_numbered : Cond.instanceMethod (⟨"LandHouseModel", "numbered", "(II)I"⟩ : MethodName) ∈ e_gd := e_memt t3237 rfl
theorem vwX12_numbered : e_VW YX12_numbered 12 := ⟨iwX12_numbered, e_mem (i := 277) (by decide +kernel) rfl, rfl⟩
theorem mwX12_name : e_MW YX12_name 2 := ⟨e_memt t3234 rfl, e_memt t300 rfl, by decide, ⟨by decide, by decide⟩, by decide +kernel⟩
theorem iwX12_name : Cond.instanceMethod (⟨"LandHouseModel", "name", "(II)J"⟩ : MethodName) ∈ e_gd := e_memt t3232 rfl
theorem vwX12_name : e_VW YX12_name 12 := ⟨iwX12_name, e_memt t3233 rfl, rfl⟩
theorem mwX12_thing : e_MW YX12_thing 3 := ⟨e_memt t3242 rfl, e_memt t300 rfl, by decide, ⟨by decide, by decide⟩, by decide +kernel⟩
theorem iwX12_thing : Cond.instanceMethod (⟨"LandHouseModel", "thing", "(III)I"⟩ : MethodName) ∈ e_gd := e_memt t3240 rfl
theorem vwX12_thing : e_VW YX12_thing 12 := ⟨iwX12_thing, e_memt t3241 rfl, rfl⟩
theorem mwX12_toldOf : e_MW YX12_toldOf 3 := ⟨e_memt t3246 rfl, e_memt t300 rfl, by decide, ⟨by decide, by decide⟩, by decide +kernel⟩
theorem iwX12_toldOf : Cond.instanceMethod (⟨"LandHouseModel", "toldOf", "(III)I"⟩ : MethodName) ∈ e_gd := e_memt t3245 rfl
theorem vwX12_toldOf : e_VW YX12_toldOf 12 := ⟨iwX12_toldOf, e_mem (i := 278) (by decide +kernel) rfl, rfl⟩
theorem mwX12_corner : e_MW YX12_corner 3 := ⟨e_memt t3250 rfl, e_memt t300 rfl, by decide, ⟨by decide, by decide⟩, by decide +kernel⟩
theorem iwX12_corner : Cond.instanceMethod (⟨"LandHouseModel", "corner", "(III)I"⟩ : MethodName) ∈ e_gd := e_memt t3248 rfl
theorem vwX12_corner : e_VW YX12_corner 12 := ⟨iwX12_corner, e_memt t3249 rfl, rfl⟩
theorem mwX12_amongHere : e_MW YX12_amongHere 1 := ⟨e_memt t3258 rfl, e_memt t300 rfl, by decide, ⟨by decide, by decide⟩, by decide +kernel⟩
theorem iwX12_amongHere : Cond.instanceMethod (⟨"LandHouseModel", "amongHere", "(I)I"⟩ : MethodName) ∈ e_gd := e_memt t3257 rfl
theorem vwX12_amongHere : e_VW YX12_amongHere 12 := ⟨iwX12_amongHere, e_mem (i := 279) (by decide +kernel) rfl, rfl⟩
theorem mwX12_owner : e_MW YX12_owner 3 := ⟨e_memt t3254 rfl, e_memt t300 rfl, by decide, ⟨by decide, by decide⟩, by decide +kernel⟩
theorem iwX12_owner : Cond.instanceMethod (⟨"LandHouseModel", "owner", "(III)I"⟩ : MethodName) ∈ e_gd := e_memt t3252 rfl
theorem vwX12_owner : e_VW YX12_owner 12 := ⟨iwX12_owner, e_memt t3253 rfl, rfl⟩
theorem mwX12_lots : e_MW YX12_lots 3 := ⟨e_memt t3262 rfl, e_memt t300 rfl, by decide, ⟨by decide, by decide⟩, by decide +kernel⟩
theorem iwX12_lots : Cond.instanceMethod (⟨"LandHouseModel", "lots", "(III)I"⟩ : MethodName) ∈ e_gd := e_memt t3260 rfl
theorem vwX12_lots : e_VW YX12_lots 12 := ⟨iwX12_lots, e_memt t3261 rfl, rfl⟩
theorem mwX12_mix : e_MW YX12_mix 1 := ⟨e_memt t3270 rfl, e_memt t300 rfl, by decide, ⟨by decide, by decide⟩, by decide +kernel⟩
theorem iwX12_mix : Cond.instanceMethod (⟨"LandHouseModel", "mix", "(J)V"⟩ : MethodName) ∈ e_gd := e_memt t3269 rfl
theorem vwX12_mix : e_VW YX12_mix 12 := ⟨iwX12_mix, e_mem (i := 280) (by decide +kernel) rfl, rfl⟩
theorem mwX12_sum : e_MW YX12_sum 0 := ⟨e_memt t3266 rfl, e_memt t300 rfl, by decide, ⟨by decide, by decide⟩, by decide +kernel⟩
theorem iwX12_sum : Cond.instanceMethod (⟨"LandHouseModel", "sum", "()J"⟩ : MethodName) ∈ e_gd := e_memt t3264 rfl
theorem vwX12_sum : e_VW YX12_sum 12 := ⟨iwX12_sum, e_memt t3265 rfl, rfl⟩
theorem mwX12_mixLot : e_MW YX12_mixLot 1 := ⟨e_memt t3277 rfl, e_memt t300 rfl, by decide, ⟨by decide, by decide⟩, by decide +kernel⟩
theorem iwX12_mixLot : Cond.instanceMethod (⟨"LandHouseModel", "mixLot", "(I)V"⟩ : MethodName) ∈ e_gd := e_memt t3276 rfl
theorem vwX12_mixLot : e_VW YX12_mixLot 12 := ⟨iwX12_mixLot, e_mem (i := 281) (by decide +kernel) rfl, rfl⟩
theorem mwX12_mixOther : e_MW YX12_mixOther 2 := ⟨e_memt t3281 rfl, e_memt t300 rfl, by decide, ⟨by decide, by decide⟩, by decide +kernel⟩
theorem iwX12_mixOther : Cond.instanceMethod (⟨"LandHouseModel", "mixOther", "(II)V"⟩ : MethodName) ∈ e_gd := e_memt t3280 rfl
theorem vwX12_mixOther : e_VW YX12_mixOther 12 := ⟨iwX12_mixOther, e_mem (i := 282) (by decide +kernel) rfl, rfl⟩
theorem mwJ13_signum_95d88 : e_MW YJ13_signum_95d88 1 := ⟨e_memt t2849 rfl, e_memt t302 rfl, by decide, ⟨by decide, by decide⟩, by decide +kernel⟩
theorem swJ13_signum_95d88 : Cond.static (⟨"java/lang/Long", "signum", "(J)I"⟩ : MethodName) ∈ e_gd := e_memt t2848 rfl
theorem mwJ0_length_8abf5 : e_MW YJ0_length_8abf5 0 := ⟨e_memt t441 rfl, e_memt t287 rfl, by decide, ⟨by decide, by decide⟩, by decide +kernel⟩
theorem iwJ0_length_8abf5 : Cond.instanceMethod (⟨"java/lang/String", "length", "()I"⟩ : MethodName) ∈ e_gd := e_memt t439 rfl
theorem vsJ0_length_8abf5 : Cond.instanceMethod YJ0_length_8abf5.1 ∈ e_gd ∧ Cond.selects YJ0_length_8abf5.1.cls YJ0_length_8abf5.1 YJ0_length_8abf5.1 ∈ e_gd := ⟨iwJ0_length_8abf5, e_memt t440 rfl⟩
theorem mwJ0_charAt_5068e : e_MW YJ0_charAt_5068e 1 := ⟨e_memt t451 rfl, e_memt t287 rfl, by decide, ⟨by decide, by decide⟩, by decide +kernel⟩
theorem iwJ0_charAt_5068e : Cond.instanceMethod (⟨"java/lang/String", "charAt", "(I)C"⟩ : MethodName) ∈ e_gd := e_memt t449 rfl
theorem vsJ0_charAt_5068e : Cond.instanceMethod YJ0_charAt_5068e.1 ∈ e_gd ∧ Cond.selects YJ0_charAt_5068e.1.cls YJ0_charAt_5068e.1 YJ0_charAt_5068e.1 ∈ e_gd := ⟨iwJ0_charAt_5068e, e_memt t450 rfl⟩
theorem mwJ0_coder_7d493 : e_MW YJ0_coder_7d493 0 := ⟨e_memt t445 rfl, e_memt t287 rfl, by decide, ⟨by decide, by decide⟩, by decide +kernel⟩
theorem iwJ0_coder_7d493 : Cond.instanceMethod (⟨"java/lang/String", "coder", "()B"⟩ : MethodName) ∈ e_gd := e_memt t443 rfl
theorem vsJ0_coder_7d493 : Cond.instanceMethod YJ0_coder_7d493.1 ∈ e_gd ∧ Cond.selects YJ0_coder_7d493.1.cls YJ0_coder_7d493.1 YJ0_coder_7d493.1 ∈ e_gd := ⟨iwJ0_coder_7d493, e_memt t444 rfl⟩
theorem mwJ0_isLatin1_aae02 : e_MW YJ0_isLatin1_aae02 0 := ⟨e_memt t455 rfl, e_memt t287 rfl, by decide, ⟨by decide, by decide⟩, by decide +kernel⟩
theorem iwJ0_isLatin1_aae02 : Cond.instanceMethod (⟨"java/lang/String", "isLatin1", "()Z"⟩ : MethodName) ∈ e_gd := e_memt t453 rfl
theorem vsJ0_isLatin1_aae02 : Cond.instanceMethod YJ0_isLatin1_aae02.1 ∈ e_gd ∧ Cond.selects YJ0_isLatin1_aae02.1.cls YJ0_isLatin1_aae02.1 YJ0_isLatin1_aae02.1 ∈ e_gd := ⟨iwJ0_isLatin1_aae02, e_memt t454 rfl⟩
theorem mwJ0_checkIndex_df160 : e_MW YJ0_checkIndex_df160 2 := ⟨e_memt t461 rfl, e_memt t287 rfl, by decide, ⟨by decide, by decide⟩, by decide +kernel⟩
theorem swJ0_checkIndex_df160 : Cond.static (⟨"java/lang/String", "checkIndex", "(II)V"⟩ : MethodName) ∈ e_gd := e_memt t460 rfl
theorem mwJ1_charAt_3b067 : e_MW YJ1_charAt_3b067 2 := ⟨e_memt t458 rfl, e_memt t288 rfl, by decide, ⟨by decide, by decide⟩, by decide +kernel⟩
theorem swJ1_charAt_3b067 : Cond.static (⟨"java/lang/StringLatin1", "charAt", "([BI)C"⟩ : MethodName) ∈ e_gd := e_memt t457 rfl
theorem mwJ3_checkIndex_8e157 : e_MW YJ3_checkIndex_8e157 3 := ⟨e_memt t466 rfl, e_memt t289 rfl, by decide, ⟨by decide, by decide⟩, by decide +kernel⟩
theorem swJ3_checkIndex_8e157 : Cond.static (⟨"jdk/internal/util/Preconditions", "checkIndex", "(IILjava/util/function/BiFunction;)I"⟩ : MethodName) ∈ e_gd := e_memt t465 rfl
theorem kL_8 : Cond.classLink "LandHouseLaw" 8 "LandHouse" ∈ e_gd := e_memt t307 rfl
theorem nL_8 : e_NL "LandHouseLaw" 8 11 := ⟨(e_R11, e_T11, 15), rfl, kL_8, e_memt t308 rfl, e_memt t284 rfl, lay11⟩
theorem cL_29 : Cond.methodLink "LandHouseLaw" 29 (⟨"LandHouse", "<init>", "()V"⟩ : MethodName) ∈ e_gd := e_memt t309 rfl
theorem cX11_1 : Cond.methodLink "LandHouse" 1 (⟨"java/lang/Object", "<init>", "()V"⟩ : MethodName) ∈ e_gd := e_memt t312 rfl
theorem kX11_29 : Cond.classLink "LandHouse" 29 "LandHouse$Deed" ∈ e_gd := e_memt t315 rfl
theorem nX11_29 : e_NL "LandHouse" 29 2 := ⟨(e_R2, e_T2, 19), rfl, kX11_29, e_memt t317 rfl, e_memt t285 rfl, lay2⟩
theorem cX11_38 : Cond.methodLinkNest "LandHouse" 38 (⟨"LandHouse$Deed", "<init>", "()V"⟩ : MethodName) "LandHouse" ∈ e_nest := e_memtN t318 rfl
theorem cX2_3 : Cond.methodLink "LandHouse$Deed" 3 (⟨"java/lang/Object", "<init>", "()V"⟩ : MethodName) ∈ e_gd := e_memt t321 rfl
theorem fX2_31 : e_FL "LandHouse$Deed" 31 2 0 := ⟨(e_R2, e_T2, 19), rfl, by decide, e_memt t322 rfl, lay2⟩
theorem fX10_123 : e_FL "LandHouse$World" 123 2 0 := ⟨(e_R2, e_T2, 19), rfl, by decide, e_memt t323 rfl, lay2⟩
theorem fX11_105 : e_FL "LandHouse" 105 2 0 := ⟨(e_R2, e_T2, 19), rfl, by decide, e_memt t324 rfl, lay2⟩
theorem fX2_35 : e_FL "LandHouse$Deed" 35 2 1 := ⟨(e_R2, e_T2, 19), rfl, by decide, e_memt t325 rfl, lay2⟩
theorem fX10_126 : e_FL "LandHouse$World" 126 2 1 := ⟨(e_R2, e_T2, 19), rfl, by decide, e_memt t326 rfl, lay2⟩
theorem fX7_134 : e_FL "LandHouse$Reader" 134 2 1 := ⟨(e_R2, e_T2, 19), rfl, by decide, e_memt t327 rfl, lay2⟩
theorem fX2_38 : e_FL "LandHouse$Deed" 38 2 2 := ⟨(e_R2, e_T2, 19), rfl, by decide, e_memt t328 rfl, lay2⟩
theorem fX10_128 : e_FL "LandHouse$World" 128 2 2 := ⟨(e_R2, e_T2, 19), rfl, by decide, e_memt t329 rfl, lay2⟩
theorem fX7_147 : e_FL "LandHouse$Reader" 147 2 2 := ⟨(e_R2, e_T2, 19), rfl, by decide, e_memt t330 rfl, lay2⟩
theorem fX2_41 : e_FL "LandHouse$Deed" 41 2 3 := ⟨(e_R2, e_T2, 19), rfl, by decide, e_memt t331 rfl, lay2⟩
theorem fX0_56 : e_FL "LandHouse$Acts" 56 2 3 := ⟨(e_R2, e_T2, 19), rfl, by decide, e_memt t332 rfl, lay2⟩
theorem fX7_156 : e_FL "LandHouse$Reader" 156 2 3 := ⟨(e_R2, e_T2, 19), rfl, by decide, e_memt t333 rfl, lay2⟩
theorem fX2_44 : e_FL "LandHouse$Deed" 44 2 4 := ⟨(e_R2, e_T2, 19), rfl, by decide, e_memt t334 rfl, lay2⟩
theorem fX0_44 : e_FL "LandHouse$Acts" 44 2 4 := ⟨(e_R2, e_T2, 19), rfl, by decide, e_memt t335 rfl, lay2⟩
theorem fX10_131 : e_FL "LandHouse$World" 131 2 4 := ⟨(e_R2, e_T2, 19), rfl, by decide, e_memt t336 rfl, lay2⟩
theorem fX11_112 : e_FL "LandHouse" 112 2 4 := ⟨(e_R2, e_T2, 19), rfl, by decide, e_memt t337 rfl, lay2⟩
theorem fX7_153 : e_FL "LandHouse$Reader" 153 2 4 := ⟨(e_R2, e_T2, 19), rfl, by decide, e_memt t338 rfl, lay2⟩
theorem fX2_9 : e_FL "LandHouse$Deed" 9 2 5 := ⟨(e_R2, e_T2, 19), rfl, by decide, e_memt t339 rfl, lay2⟩
theorem fX0_129 : e_FL "LandHouse$Acts" 129 2 5 := ⟨(e_R2, e_T2, 19), rfl, by decide, e_memt t340 rfl, lay2⟩
theorem fX2_15 : e_FL "LandHouse$Deed" 15 2 6 := ⟨(e_R2, e_T2, 19), rfl, by decide, e_memt t341 rfl, lay2⟩
theorem fX0_137 : e_FL "LandHouse$Acts" 137 2 6 := ⟨(e_R2, e_T2, 19), rfl, by decide, e_memt t342 rfl, lay2⟩
theorem fX2_47 : e_FL "LandHouse$Deed" 47 2 7 := ⟨(e_R2, e_T2, 19), rfl, by decide, e_memt t343 rfl, lay2⟩
theorem fX0_126 : e_FL "LandHouse$Acts" 126 2 7 := ⟨(e_R2, e_T2, 19), rfl, by decide, e_memt t344 rfl, lay2⟩
theorem fX2_50 : e_FL "LandHouse$Deed" 50 2 8 := ⟨(e_R2, e_T2, 19), rfl, by decide, e_memt t345 rfl, lay2⟩
theorem fX0_197 : e_FL "LandHouse$Acts" 197 2 8 := ⟨(e_R2, e_T2, 19), rfl, by decide, e_memt t346 rfl, lay2⟩
theorem fX7_181 : e_FL "LandHouse$Reader" 181 2 8 := ⟨(e_R2, e_T2, 19), rfl, by decide, e_memt t347 rfl, lay2⟩
theorem fX2_53 : e_FL "LandHouse$Deed" 53 2 9 := ⟨(e_R2, e_T2, 19), rfl, by decide, e_memt t348 rfl, lay2⟩
theorem fX0_278 : e_FL "LandHouse$Acts" 278 2 9 := ⟨(e_R2, e_T2, 19), rfl, by decide, e_memt t349 rfl, lay2⟩
theorem fX7_211 : e_FL "LandHouse$Reader" 211 2 9 := ⟨(e_R2, e_T2, 19), rfl, by decide, e_memt t350 rfl, lay2⟩
theorem fX2_56 : e_FL "LandHouse$Deed" 56 2 10 := ⟨(e_R2, e_T2, 19), rfl, by decide, e_memt t351 rfl, lay2⟩
theorem fX7_205 : e_FL "LandHouse$Reader" 205 2 10 := ⟨(e_R2, e_T2, 19), rfl, by decide, e_memt t352 rfl, lay2⟩
theorem fX0_426 : e_FL "LandHouse$Acts" 426 2 10 := ⟨(e_R2, e_T2, 19), rfl, by decide, e_memt t353 rfl, lay2⟩
theorem fX2_59 : e_FL "LandHouse$Deed" 59 2 11 := ⟨(e_R2, e_T2, 19), rfl, by decide, e_memt t354 rfl, lay2⟩
theorem fX0_268 : e_FL "LandHouse$Acts" 268 2 11 := ⟨(e_R2, e_T2, 19), rfl, by decide, e_memt t355 rfl, lay2⟩
theorem fX7_190 : e_FL "LandHouse$Reader" 190 2 11 := ⟨(e_R2, e_T2, 19), rfl, by decide, e_memt t356 rfl, lay2⟩
theorem fX2_63 : e_FL "LandHouse$Deed" 63 2 12 := ⟨(e_R2, e_T2, 19), rfl, by decide, e_memt t357 rfl, lay2⟩
theorem fX0_272 : e_FL "LandHouse$Acts" 272 2 12 := ⟨(e_R2, e_T2, 19), rfl, by decide, e_memt t358 rfl, lay2⟩
theorem fX7_193 : e_FL "LandHouse$Reader" 193 2 12 := ⟨(e_R2, e_T2, 19), rfl, by decide, e_memt t359 rfl, lay2⟩
theorem fX2_19 : e_FL "LandHouse$Deed" 19 2 13 := ⟨(e_R2, e_T2, 19), rfl, by decide, e_memt t360 rfl, lay2⟩
theorem fX0_262 : e_FL "LandHouse$Acts" 262 2 13 := ⟨(e_R2, e_T2, 19), rfl, by decide, e_memt t361 rfl, lay2⟩
theorem fX7_221 : e_FL "LandHouse$Reader" 221 2 13 := ⟨(e_R2, e_T2, 19), rfl, by decide, e_memt t362 rfl, lay2⟩
theorem fX2_22 : e_FL "LandHouse$Deed" 22 2 14 := ⟨(e_R2, e_T2, 19), rfl, by decide, e_memt t363 rfl, lay2⟩
theorem fX0_265 : e_FL "LandHouse$Acts" 265 2 14 := ⟨(e_R2, e_T2, 19), rfl, by decide, e_memt t364 rfl, lay2⟩
theorem fX7_224 : e_FL "LandHouse$Reader" 224 2 14 := ⟨(e_R2, e_T2, 19), rfl, by decide, e_memt t365 rfl, lay2⟩
theorem fX2_66 : e_FL "LandHouse$Deed" 66 2 15 := ⟨(e_R2, e_T2, 19), rfl, by decide, e_memt t366 rfl, lay2⟩
theorem fX0_217 : e_FL "LandHouse$Acts" 217 2 15 := ⟨(e_R2, e_T2, 19), rfl, by decide, e_memt t367 rfl, lay2⟩
theorem fX7_218 : e_FL "LandHouse$Reader" 218 2 15 := ⟨(e_R2, e_T2, 19), rfl, by decide, e_memt t368 rfl, lay2⟩
theorem fX2_25 : e_FL "LandHouse$Deed" 25 2 16 := ⟨(e_R2, e_T2, 19), rfl, by decide, e_memt t369 rfl, lay2⟩
theorem fX5_59 : e_FL "LandHouse$Plane" 59 2 16 := ⟨(e_R2, e_T2, 19), rfl, by decide, e_memt t370 rfl, lay2⟩
theorem fX3_51 : e_FL "LandHouse$Figure" 51 2 16 := ⟨(e_R2, e_T2, 19), rfl, by decide, e_memt t371 rfl, lay2⟩
theorem fX0_416 : e_FL "LandHouse$Acts" 416 2 16 := ⟨(e_R2, e_T2, 19), rfl, by decide, e_memt t372 rfl, lay2⟩
theorem fX2_28 : e_FL "LandHouse$Deed" 28 2 17 := ⟨(e_R2, e_T2, 19), rfl, by decide, e_memt t373 rfl, lay2⟩
theorem fX5_62 : e_FL "LandHouse$Plane" 62 2 17 := ⟨(e_R2, e_T2, 19), rfl, by decide, e_memt t374 rfl, lay2⟩
theorem fX3_52 : e_FL "LandHouse$Figure" 52 2 17 := ⟨(e_R2, e_T2, 19), rfl, by decide, e_memt t375 rfl, lay2⟩
theorem fX0_419 : e_FL "LandHouse$Acts" 419 2 17 := ⟨(e_R2, e_T2, 19), rfl, by decide, e_memt t376 rfl, lay2⟩
theorem fX5_54 : e_FL "LandHouse$Plane" 54 2 18 := ⟨(e_R2, e_T2, 19), rfl, by decide, e_memt t377 rfl, lay2⟩
theorem fX2_69 : e_FL "LandHouse$Deed" 69 2 18 := ⟨(e_R2, e_T2, 19), rfl, by decide, e_memt t378 rfl, lay2⟩
theorem fX3_46 : e_FL "LandHouse$Figure" 46 2 18 := ⟨(e_R2, e_T2, 19), rfl, by decide, e_memt t379 rfl, lay2⟩
theorem fX1_259 : e_FL "LandHouse$Asker" 259 2 18 := ⟨(e_R2, e_T2, 19), rfl, by decide, e_memt t380 rfl, lay2⟩
theorem fX10_224 : e_FL "LandHouse$World" 224 2 18 := ⟨(e_R2, e_T2, 19), rfl, by decide, e_memt t381 rfl, lay2⟩
theorem fX0_413 : e_FL "LandHouse$Acts" 413 2 18 := ⟨(e_R2, e_T2, 19), rfl, by decide, e_memt t382 rfl, lay2⟩
theorem kX11_43 : Cond.classLink "LandHouse" 43 "LandHouse$Reader" ∈ e_gd := e_memt t425 rfl
theorem nX11_43 : e_NL "LandHouse" 43 7 := ⟨(e_R7, e_T7, 12), rfl, kX11_43, e_memt t426 rfl, e_memt t286 rfl, lay7⟩
theorem cX11_45 : Cond.methodLink "LandHouse" 45 (⟨"LandHouse$Reader", "<init>", "()V"⟩ : MethodName) ∈ e_gd := e_memt t427 rfl
theorem cX7_3 : Cond.methodLink "LandHouse$Reader" 3 (⟨"java/lang/Object", "<init>", "()V"⟩ : MethodName) ∈ e_gd := e_memt t430 rfl
theorem kX7_41 : Cond.classLink "LandHouse$Reader" 41 "LandHouse$Deed" ∈ e_gd := e_memt t431 rfl
theorem nX7_41 : e_NL "LandHouse$Reader" 41 2 := ⟨(e_R2, e_T2, 19), rfl, kX7_41, e_memt t317 rfl, e_memt t285 rfl, lay2⟩
theorem cX7_43 : Cond.methodLinkNest "LandHouse$Reader" 43 (⟨"LandHouse$Deed", "<init>", "()V"⟩ : MethodName) "LandHouse" ∈ e_nest := e_memtN t432 rfl
theorem cX7_57 : Cond.methodLink "LandHouse$Reader" 57 (⟨"LandHouse$Reader", "learn", "(Ljava/lang/String;I)I"⟩ : MethodName) ∈ e_gd := e_memt t434 rfl
theorem cX7_69 : Cond.methodLink "LandHouse$Reader" 69 (⟨"java/lang/String", "length", "()I"⟩ : MethodName) ∈ e_gd := e_memt t438 rfl
theorem cJ0_335 : Cond.methodLink "java/lang/String" 335 (⟨"java/lang/String", "coder", "()B"⟩ : MethodName) ∈ e_gd := e_memt t442 rfl
theorem gJ0_38 : Cond.fieldLink "java/lang/String" 38 "java/lang/String" "COMPACT_STRINGS" "Z" ∈ e_gd := e_memt t446 rfl
theorem cX7_75 : Cond.methodLink "LandHouse$Reader" 75 (⟨"java/lang/String", "charAt", "(I)C"⟩ : MethodName) ∈ e_gd := e_memt t448 rfl
theorem cJ0_492 : Cond.methodLink "java/lang/String" 492 (⟨"java/lang/String", "isLatin1", "()Z"⟩ : MethodName) ∈ e_gd := e_memt t452 rfl
theorem cJ0_495 : Cond.methodLink "java/lang/String" 495 (⟨"java/lang/StringLatin1", "charAt", "([BI)C"⟩ : MethodName) ∈ e_gd := e_memt t456 rfl
theorem cJ1_9 : Cond.methodLink "java/lang/StringLatin1" 9 (⟨"java/lang/String", "checkIndex", "(II)V"⟩ : MethodName) ∈ e_gd := e_memt t459 rfl
theorem gJ0_1053 : Cond.fieldLink "java/lang/String" 1053 "jdk/internal/util/Preconditions" "SIOOBE_FORMATTER" "Ljava/util/function/BiFunction;" ∈ e_gd := e_memt t462 rfl
theorem cJ0_1059 : Cond.methodLink "java/lang/String" 1059 (⟨"jdk/internal/util/Preconditions", "checkIndex", "(IILjava/util/function/BiFunction;)I"⟩ : MethodName) ∈ e_gd := e_memt t464 rfl
theorem cJ0_498 : Cond.methodLink "java/lang/String" 498 (⟨"java/lang/StringUTF16", "charAt", "([BI)C"⟩ : MethodName) ∈ e_gd := e_memt t467 rfl
theorem fX7_9 : e_FL "LandHouse$Reader" 9 7 0 := ⟨(e_R7, e_T7, 12), rfl, by decide, e_memt t490 rfl, lay7⟩
theorem fX7_15 : e_FL "LandHouse$Reader" 15 7 1 := ⟨(e_R7, e_T7, 12), rfl, by decide, e_memt t491 rfl, lay7⟩
theorem fX7_19 : e_FL "LandHouse$Reader" 19 7 2 := ⟨(e_R7, e_T7, 12), rfl, by decide, e_memt t492 rfl, lay7⟩
theorem fX7_22 : e_FL "LandHouse$Reader" 22 7 3 := ⟨(e_R7, e_T7, 12), rfl, by decide, e_memt t493 rfl, lay7⟩
theorem fX7_25 : e_FL "LandHouse$Reader" 25 7 4 := ⟨(e_R7, e_T7, 12), rfl, by decide, e_memt t494 rfl, lay7⟩
theorem fX7_29 : e_FL "LandHouse$Reader" 29 7 5 := ⟨(e_R7, e_T7, 12), rfl, by decide, e_memt t495 rfl, lay7⟩
theorem fX7_32 : e_FL "LandHouse$Reader" 32 7 6 := ⟨(e_R7, e_T7, 12), rfl, by decide, e_memt t496 rfl, lay7⟩
theorem fX6_49 : e_FL "LandHouse$Question" 49 7 6 := ⟨(e_R7, e_T7, 12), rfl, by decide, e_memt t497 rfl, lay7⟩
theorem fX7_35 : e_FL "LandHouse$Reader" 35 7 7 := ⟨(e_R7, e_T7, 12), rfl, by decide, e_memt t498 rfl, lay7⟩
theorem fX6_74 : e_FL "LandHouse$Question" 74 7 7 := ⟨(e_R7, e_T7, 12), rfl, by decide, e_memt t499 rfl, lay7⟩
theorem fX11_99 : e_FL "LandHouse" 99 7 7 := ⟨(e_R7, e_T7, 12), rfl, by decide, e_memt t500 rfl, lay7⟩
theorem fX7_38 : e_FL "LandHouse$Reader" 38 7 8 := ⟨(e_R7, e_T7, 12), rfl, by decide, e_memt t501 rfl, lay7⟩
theorem fX11_102 : e_FL "LandHouse" 102 7 8 := ⟨(e_R7, e_T7, 12), rfl, by decide, e_memt t502 rfl, lay7⟩
theorem fX7_44 : e_FL "LandHouse$Reader" 44 7 9 := ⟨(e_R7, e_T7, 12), rfl, by decide, e_memt t503 rfl, lay7⟩
theorem fX7_48 : e_FL "LandHouse$Reader" 48 7 10 := ⟨(e_R7, e_T7, 12), rfl, by decide, e_memt t504 rfl, lay7⟩
theorem fX7_52 : e_FL "LandHouse$Reader" 52 7 11 := ⟨(e_R7, e_T7, 12), rfl, by decide, e_memt t505 rfl, lay7⟩
theorem kX11_50 : Cond.classLink "LandHouse" 50 "LandHouse$Question" ∈ e_gd := e_memt t531 rfl
theorem nX11_50 : e_NL "LandHouse" 50 6 := ⟨(e_R6, e_T6, 11), rfl, kX11_50, e_memt t532 rfl, e_memt t291 rfl, lay6⟩
theorem cX11_52 : Cond.methodLink "LandHouse" 52 (⟨"LandHouse$Question", "<init>", "(LLandHouse$Reader;)V"⟩ : MethodName) ∈ e_gd := e_memt t533 rfl
theorem cX6_3 : Cond.methodLink "LandHouse$Question" 3 (⟨"java/lang/Object", "<init>", "()V"⟩ : MethodName) ∈ e_gd := e_memt t536 rfl
theorem fX6_45 : e_FL "LandHouse$Question" 45 6 0 := ⟨(e_R6, e_T6, 11), rfl, by decide, e_memt t537 rfl, lay6⟩
theorem fX6_9 : e_FL "LandHouse$Question" 9 6 1 := ⟨(e_R6, e_T6, 11), rfl, by decide, e_memt t538 rfl, lay6⟩
theorem fX11_167 : e_FL "LandHouse" 167 6 1 := ⟨(e_R6, e_T6, 11), rfl, by decide, e_memt t539 rfl, lay6⟩
theorem fX6_15 : e_FL "LandHouse$Question" 15 6 2 := ⟨(e_R6, e_T6, 11), rfl, by decide, e_memt t540 rfl, lay6⟩
theorem fX11_168 : e_FL "LandHouse" 168 6 2 := ⟨(e_R6, e_T6, 11), rfl, by decide, e_memt t541 rfl, lay6⟩
theorem fX6_18 : e_FL "LandHouse$Question" 18 6 3 := ⟨(e_R6, e_T6, 11), rfl, by decide, e_memt t542 rfl, lay6⟩
theorem fX1_39 : e_FL "LandHouse$Asker" 39 6 3 := ⟨(e_R6, e_T6, 11), rfl, by decide, e_memt t543 rfl, lay6⟩
theorem fX6_21 : e_FL "LandHouse$Question" 21 6 4 := ⟨(e_R6, e_T6, 11), rfl, by decide, e_memt t544 rfl, lay6⟩
theorem fX1_69 : e_FL "LandHouse$Asker" 69 6 4 := ⟨(e_R6, e_T6, 11), rfl, by decide, e_memt t545 rfl, lay6⟩
theorem fX6_24 : e_FL "LandHouse$Question" 24 6 5 := ⟨(e_R6, e_T6, 11), rfl, by decide, e_memt t546 rfl, lay6⟩
theorem fX1_44 : e_FL "LandHouse$Asker" 44 6 5 := ⟨(e_R6, e_T6, 11), rfl, by decide, e_memt t547 rfl, lay6⟩
theorem fX6_28 : e_FL "LandHouse$Question" 28 6 6 := ⟨(e_R6, e_T6, 11), rfl, by decide, e_memt t548 rfl, lay6⟩
theorem fX1_63 : e_FL "LandHouse$Asker" 63 6 6 := ⟨(e_R6, e_T6, 11), rfl, by decide, e_memt t549 rfl, lay6⟩
theorem fX6_32 : e_FL "LandHouse$Question" 32 6 7 := ⟨(e_R6, e_T6, 11), rfl, by decide, e_memt t550 rfl, lay6⟩
theorem fX1_66 : e_FL "LandHouse$Asker" 66 6 7 := ⟨(e_R6, e_T6, 11), rfl, by decide, e_memt t551 rfl, lay6⟩
theorem fX6_36 : e_FL "LandHouse$Question" 36 6 8 := ⟨(e_R6, e_T6, 11), rfl, by decide, e_memt t552 rfl, lay6⟩
theorem fX1_60 : e_FL "LandHouse$Asker" 60 6 8 := ⟨(e_R6, e_T6, 11), rfl, by decide, e_memt t553 rfl, lay6⟩
theorem fX6_39 : e_FL "LandHouse$Question" 39 6 9 := ⟨(e_R6, e_T6, 11), rfl, by decide, e_memt t554 rfl, lay6⟩
theorem fX1_101 : e_FL "LandHouse$Asker" 101 6 9 := ⟨(e_R6, e_T6, 11), rfl, by decide, e_memt t555 rfl, lay6⟩
theorem fX6_42 : e_FL "LandHouse$Question" 42 6 10 := ⟨(e_R6, e_T6, 11), rfl, by decide, e_memt t556 rfl, lay6⟩
theorem kX11_59 : Cond.classLink "LandHouse" 59 "LandHouse$World" ∈ e_gd := e_memt t580 rfl
theorem nX11_59 : e_NL "LandHouse" 59 10 := ⟨(e_R10, e_T10, 15), rfl, kX11_59, e_memt t581 rfl, e_memt t292 rfl, lay10⟩
theorem cX11_61 : Cond.methodLink "LandHouse" 61 (⟨"LandHouse$World", "<init>", "()V"⟩ : MethodName) ∈ e_gd := e_memt t582 rfl
theorem cX10_3 : Cond.methodLink "LandHouse$World" 3 (⟨"java/lang/Object", "<init>", "()V"⟩ : MethodName) ∈ e_gd := e_memt t585 rfl
theorem gX10_9 : Cond.fieldLinkNest "LandHouse$World" 9 "LandHouse" "MOST" "[I" "LandHouse" ∈ e_nest := e_memtN t586 rfl
theorem kX10_13 : Cond.classLink "LandHouse$World" 13 "LandHouse$Lot" ∈ e_gd := e_memt t588 rfl
theorem nX10_13 : e_NL "LandHouse$World" 13 4 := ⟨(e_R4, e_T4, 9), rfl, kX10_13, e_memt t592 rfl, e_memt t293 rfl, lay4⟩
theorem kX10_21 : Cond.classLink "LandHouse$World" 21 "LandHouse$Thing" ∈ e_gd := e_memt t590 rfl
theorem nX10_21 : e_NL "LandHouse$World" 21 9 := ⟨(e_R9, e_T9, 14), rfl, kX10_21, e_memt t698 rfl, e_memt t296 rfl, lay9⟩
theorem cX10_27 : Cond.methodLinkNest "LandHouse$World" 27 (⟨"LandHouse$Lot", "<init>", "()V"⟩ : MethodName) "LandHouse" ∈ e_nest := e_memtN t593 rfl
theorem cX4_3 : Cond.methodLink "LandHouse$Lot" 3 (⟨"java/lang/Object", "<init>", "()V"⟩ : MethodName) ∈ e_gd := e_memt t596 rfl
theorem kX4_23 : Cond.classLink "LandHouse$Lot" 23 "LandHouse$Figure" ∈ e_gd := e_memt t597 rfl
theorem nX4_23 : e_NL "LandHouse$Lot" 23 3 := ⟨(e_R3, e_T3, 3), rfl, kX4_23, e_memt t598 rfl, e_memt t294 rfl, lay3⟩
theorem cX4_25 : Cond.methodLinkNest "LandHouse$Lot" 25 (⟨"LandHouse$Figure", "<init>", "()V"⟩ : MethodName) "LandHouse" ∈ e_nest := e_memtN t599 rfl
theorem cX3_3 : Cond.methodLink "LandHouse$Figure" 3 (⟨"java/lang/Object", "<init>", "()V"⟩ : MethodName) ∈ e_gd := e_memt t602 rfl
theorem fX3_9 : e_FL "LandHouse$Figure" 9 3 0 := ⟨(e_R3, e_T3, 3), rfl, by decide, e_memt t603 rfl, lay3⟩
theorem fX5_96 : e_FL "LandHouse$Plane" 96 3 0 := ⟨(e_R3, e_T3, 3), rfl, by decide, e_memt t604 rfl, lay3⟩
theorem fX1_323 : e_FL "LandHouse$Asker" 323 3 0 := ⟨(e_R3, e_T3, 3), rfl, by decide, e_memt t605 rfl, lay3⟩
theorem fX11_233 : e_FL "LandHouse" 233 3 0 := ⟨(e_R3, e_T3, 3), rfl, by decide, e_memt t606 rfl, lay3⟩
theorem fX10_258 : e_FL "LandHouse$World" 258 3 0 := ⟨(e_R3, e_T3, 3), rfl, by decide, e_memt t607 rfl, lay3⟩
theorem fX3_15 : e_FL "LandHouse$Figure" 15 3 1 := ⟨(e_R3, e_T3, 3), rfl, by decide, e_memt t608 rfl, lay3⟩
theorem fX5_97 : e_FL "LandHouse$Plane" 97 3 1 := ⟨(e_R3, e_T3, 3), rfl, by decide, e_memt t609 rfl, lay3⟩
theorem fX1_326 : e_FL "LandHouse$Asker" 326 3 1 := ⟨(e_R3, e_T3, 3), rfl, by decide, e_memt t610 rfl, lay3⟩
theorem fX11_236 : e_FL "LandHouse" 236 3 1 := ⟨(e_R3, e_T3, 3), rfl, by decide, e_memt t611 rfl, lay3⟩
theorem fX10_261 : e_FL "LandHouse$World" 261 3 1 := ⟨(e_R3, e_T3, 3), rfl, by decide, e_memt t612 rfl, lay3⟩
theorem fX3_18 : e_FL "LandHouse$Figure" 18 3 2 := ⟨(e_R3, e_T3, 3), rfl, by decide, e_memt t613 rfl, lay3⟩
theorem fX5_89 : e_FL "LandHouse$Plane" 89 3 2 := ⟨(e_R3, e_T3, 3), rfl, by decide, e_memt t614 rfl, lay3⟩
theorem fX1_218 : e_FL "LandHouse$Asker" 218 3 2 := ⟨(e_R3, e_T3, 3), rfl, by decide, e_memt t615 rfl, lay3⟩
theorem fX11_227 : e_FL "LandHouse" 227 3 2 := ⟨(e_R3, e_T3, 3), rfl, by decide, e_memt t616 rfl, lay3⟩
theorem fX10_205 : e_FL "LandHouse$World" 205 3 2 := ⟨(e_R3, e_T3, 3), rfl, by decide, e_memt t617 rfl, lay3⟩
theorem kX4_30 : Cond.classLink "LandHouse$Lot" 30 "LandHouse$Row" ∈ e_gd := e_memt t625 rfl
theorem nX4_30 : e_NL "LandHouse$Lot" 30 8 := ⟨(e_R8, e_T8, 2), rfl, kX4_30, e_memt t626 rfl, e_memt t295 rfl, lay8⟩
theorem cX4_32 : Cond.methodLinkNest "LandHouse$Lot" 32 (⟨"LandHouse$Row", "<init>", "()V"⟩ : MethodName) "LandHouse" ∈ e_nest := e_memtN t627 rfl
theorem cX8_3 : Cond.methodLink "LandHouse$Row" 3 (⟨"java/lang/Object", "<init>", "()V"⟩ : MethodName) ∈ e_gd := e_memt t630 rfl
theorem fX8_9 : e_FL "LandHouse$Row" 9 8 0 := ⟨(e_R8, e_T8, 2), rfl, by decide, e_memt t631 rfl, lay8⟩
theorem fX8_15 : e_FL "LandHouse$Row" 15 8 1 := ⟨(e_R8, e_T8, 2), rfl, by decide, e_memt t632 rfl, lay8⟩
theorem fX9_62 : e_FL "LandHouse$Thing" 62 8 1 := ⟨(e_R8, e_T8, 2), rfl, by decide, e_memt t633 rfl, lay8⟩
theorem fX1_228 : e_FL "LandHouse$Asker" 228 8 1 := ⟨(e_R8, e_T8, 2), rfl, by decide, e_memt t634 rfl, lay8⟩
theorem fX0_338 : e_FL "LandHouse$Acts" 338 8 1 := ⟨(e_R8, e_T8, 2), rfl, by decide, e_memt t635 rfl, lay8⟩
theorem fX10_187 : e_FL "LandHouse$World" 187 8 1 := ⟨(e_R8, e_T8, 2), rfl, by decide, e_memt t636 rfl, lay8⟩
theorem fX4_9 : e_FL "LandHouse$Lot" 9 4 0 := ⟨(e_R4, e_T4, 9), rfl, by decide, e_memt t642 rfl, lay4⟩
theorem fX10_153 : e_FL "LandHouse$World" 153 4 0 := ⟨(e_R4, e_T4, 9), rfl, by decide, e_memt t643 rfl, lay4⟩
theorem fX1_357 : e_FL "LandHouse$Asker" 357 4 0 := ⟨(e_R4, e_T4, 9), rfl, by decide, e_memt t644 rfl, lay4⟩
theorem fX4_15 : e_FL "LandHouse$Lot" 15 4 1 := ⟨(e_R4, e_T4, 9), rfl, by decide, e_memt t645 rfl, lay4⟩
theorem fX1_194 : e_FL "LandHouse$Asker" 194 4 1 := ⟨(e_R4, e_T4, 9), rfl, by decide, e_memt t646 rfl, lay4⟩
theorem fX10_146 : e_FL "LandHouse$World" 146 4 1 := ⟨(e_R4, e_T4, 9), rfl, by decide, e_memt t647 rfl, lay4⟩
theorem fX0_247 : e_FL "LandHouse$Acts" 247 4 1 := ⟨(e_R4, e_T4, 9), rfl, by decide, e_memt t648 rfl, lay4⟩
theorem fX4_19 : e_FL "LandHouse$Lot" 19 4 2 := ⟨(e_R4, e_T4, 9), rfl, by decide, e_memt t649 rfl, lay4⟩
theorem fX1_222 : e_FL "LandHouse$Asker" 222 4 2 := ⟨(e_R4, e_T4, 9), rfl, by decide, e_memt t650 rfl, lay4⟩
theorem fX0_281 : e_FL "LandHouse$Acts" 281 4 2 := ⟨(e_R4, e_T4, 9), rfl, by decide, e_memt t651 rfl, lay4⟩
theorem fX10_212 : e_FL "LandHouse$World" 212 4 2 := ⟨(e_R4, e_T4, 9), rfl, by decide, e_memt t652 rfl, lay4⟩
theorem fX4_26 : e_FL "LandHouse$Lot" 26 4 3 := ⟨(e_R4, e_T4, 9), rfl, by decide, e_memt t653 rfl, lay4⟩
theorem fX10_114 : e_FL "LandHouse$World" 114 4 3 := ⟨(e_R4, e_T4, 9), rfl, by decide, e_memt t654 rfl, lay4⟩
theorem fX1_198 : e_FL "LandHouse$Asker" 198 4 3 := ⟨(e_R4, e_T4, 9), rfl, by decide, e_memt t655 rfl, lay4⟩
theorem fX0_299 : e_FL "LandHouse$Acts" 299 4 3 := ⟨(e_R4, e_T4, 9), rfl, by decide, e_memt t656 rfl, lay4⟩
theorem fX11_221 : e_FL "LandHouse" 221 4 3 := ⟨(e_R4, e_T4, 9), rfl, by decide, e_memt t657 rfl, lay4⟩
theorem fX4_33 : e_FL "LandHouse$Lot" 33 4 4 := ⟨(e_R4, e_T4, 9), rfl, by decide, e_memt t658 rfl, lay4⟩
theorem fX1_225 : e_FL "LandHouse$Asker" 225 4 4 := ⟨(e_R4, e_T4, 9), rfl, by decide, e_memt t659 rfl, lay4⟩
theorem fX0_343 : e_FL "LandHouse$Acts" 343 4 4 := ⟨(e_R4, e_T4, 9), rfl, by decide, e_memt t660 rfl, lay4⟩
theorem fX10_209 : e_FL "LandHouse$World" 209 4 4 := ⟨(e_R4, e_T4, 9), rfl, by decide, e_memt t661 rfl, lay4⟩
theorem fX4_37 : e_FL "LandHouse$Lot" 37 4 5 := ⟨(e_R4, e_T4, 9), rfl, by decide, e_memt t662 rfl, lay4⟩
theorem fX0_168 : e_FL "LandHouse$Acts" 168 4 5 := ⟨(e_R4, e_T4, 9), rfl, by decide, e_memt t663 rfl, lay4⟩
theorem fX1_329 : e_FL "LandHouse$Asker" 329 4 5 := ⟨(e_R4, e_T4, 9), rfl, by decide, e_memt t664 rfl, lay4⟩
theorem fX10_234 : e_FL "LandHouse$World" 234 4 5 := ⟨(e_R4, e_T4, 9), rfl, by decide, e_memt t665 rfl, lay4⟩
theorem fX4_41 : e_FL "LandHouse$Lot" 41 4 6 := ⟨(e_R4, e_T4, 9), rfl, by decide, e_memt t666 rfl, lay4⟩
theorem fX0_248 : e_FL "LandHouse$Acts" 248 4 6 := ⟨(e_R4, e_T4, 9), rfl, by decide, e_memt t667 rfl, lay4⟩
theorem fX10_227 : e_FL "LandHouse$World" 227 4 6 := ⟨(e_R4, e_T4, 9), rfl, by decide, e_memt t668 rfl, lay4⟩
theorem fX1_375 : e_FL "LandHouse$Asker" 375 4 6 := ⟨(e_R4, e_T4, 9), rfl, by decide, e_memt t669 rfl, lay4⟩
theorem fX4_45 : e_FL "LandHouse$Lot" 45 4 7 := ⟨(e_R4, e_T4, 9), rfl, by decide, e_memt t670 rfl, lay4⟩
theorem fX0_251 : e_FL "LandHouse$Acts" 251 4 7 := ⟨(e_R4, e_T4, 9), rfl, by decide, e_memt t671 rfl, lay4⟩
theorem fX10_231 : e_FL "LandHouse$World" 231 4 7 := ⟨(e_R4, e_T4, 9), rfl, by decide, e_memt t672 rfl, lay4⟩
theorem fX1_378 : e_FL "LandHouse$Asker" 378 4 7 := ⟨(e_R4, e_T4, 9), rfl, by decide, e_memt t673 rfl, lay4⟩
theorem fX4_48 : e_FL "LandHouse$Lot" 48 4 8 := ⟨(e_R4, e_T4, 9), rfl, by decide, e_memt t674 rfl, lay4⟩
theorem fX0_165 : e_FL "LandHouse$Acts" 165 4 8 := ⟨(e_R4, e_T4, 9), rfl, by decide, e_memt t675 rfl, lay4⟩
theorem fX1_219 : e_FL "LandHouse$Asker" 219 4 8 := ⟨(e_R4, e_T4, 9), rfl, by decide, e_memt t676 rfl, lay4⟩
theorem fX11_239 : e_FL "LandHouse" 239 4 8 := ⟨(e_R4, e_T4, 9), rfl, by decide, e_memt t677 rfl, lay4⟩
theorem fX10_206 : e_FL "LandHouse$World" 206 4 8 := ⟨(e_R4, e_T4, 9), rfl, by decide, e_memt t678 rfl, lay4⟩
theorem kX10_32 : Cond.classLink "LandHouse$World" 32 "LandHouse$Deed" ∈ e_gd := e_memt t699 rfl
theorem nX10_32 : e_NL "LandHouse$World" 32 2 := ⟨(e_R2, e_T2, 19), rfl, kX10_32, e_memt t317 rfl, e_memt t285 rfl, lay2⟩
theorem cX10_34 : Cond.methodLinkNest "LandHouse$World" 34 (⟨"LandHouse$Deed", "<init>", "()V"⟩ : MethodName) "LandHouse" ∈ e_nest := e_memtN t700 rfl
theorem cX10_35 : Cond.methodLink "LandHouse$World" 35 (⟨"LandHouse$Thing", "<init>", "(LLandHouse$Deed;)V"⟩ : MethodName) ∈ e_gd := e_memt t701 rfl
theorem cX9_3 : Cond.methodLink "LandHouse$Thing" 3 (⟨"java/lang/Object", "<init>", "()V"⟩ : MethodName) ∈ e_gd := e_memt t704 rfl
theorem hX9_23 : Cond.constant "LandHouse$Thing" 23 (1000000 : Int32) ∈ e_gd := e_memt t705 rfl
theorem kX9_42 : Cond.classLink "LandHouse$Thing" 42 "LandHouse$Row" ∈ e_gd := e_memt t706 rfl
theorem nX9_42 : e_NL "LandHouse$Thing" 42 8 := ⟨(e_R8, e_T8, 2), rfl, kX9_42, e_memt t626 rfl, e_memt t295 rfl, lay8⟩
theorem cX9_44 : Cond.methodLinkNest "LandHouse$Thing" 44 (⟨"LandHouse$Row", "<init>", "()V"⟩ : MethodName) "LandHouse" ∈ e_nest := e_memtN t707 rfl
theorem fX9_9 : e_FL "LandHouse$Thing" 9 9 0 := ⟨(e_R9, e_T9, 14), rfl, by decide, e_memt t708 rfl, lay9⟩
theorem fX10_157 : e_FL "LandHouse$World" 157 9 0 := ⟨(e_R9, e_T9, 14), rfl, by decide, e_memt t709 rfl, lay9⟩
theorem fX1_346 : e_FL "LandHouse$Asker" 346 9 0 := ⟨(e_R9, e_T9, 14), rfl, by decide, e_memt t710 rfl, lay9⟩
theorem fX9_15 : e_FL "LandHouse$Thing" 15 9 1 := ⟨(e_R9, e_T9, 14), rfl, by decide, e_memt t711 rfl, lay9⟩
theorem fX0_409 : e_FL "LandHouse$Acts" 409 9 1 := ⟨(e_R9, e_T9, 14), rfl, by decide, e_memt t712 rfl, lay9⟩
theorem fX9_19 : e_FL "LandHouse$Thing" 19 9 2 := ⟨(e_R9, e_T9, 14), rfl, by decide, e_memt t713 rfl, lay9⟩
theorem fX0_240 : e_FL "LandHouse$Acts" 240 9 2 := ⟨(e_R9, e_T9, 14), rfl, by decide, e_memt t714 rfl, lay9⟩
theorem fX9_24 : e_FL "LandHouse$Thing" 24 9 3 := ⟨(e_R9, e_T9, 14), rfl, by decide, e_memt t715 rfl, lay9⟩
theorem fX1_252 : e_FL "LandHouse$Asker" 252 9 3 := ⟨(e_R9, e_T9, 14), rfl, by decide, e_memt t716 rfl, lay9⟩
theorem fX10_198 : e_FL "LandHouse$World" 198 9 3 := ⟨(e_R9, e_T9, 14), rfl, by decide, e_memt t717 rfl, lay9⟩
theorem fX0_430 : e_FL "LandHouse$Acts" 430 9 3 := ⟨(e_R9, e_T9, 14), rfl, by decide, e_memt t718 rfl, lay9⟩
theorem fX9_27 : e_FL "LandHouse$Thing" 27 9 4 := ⟨(e_R9, e_T9, 14), rfl, by decide, e_memt t719 rfl, lay9⟩
theorem fX0_194 : e_FL "LandHouse$Acts" 194 9 4 := ⟨(e_R9, e_T9, 14), rfl, by decide, e_memt t720 rfl, lay9⟩
theorem fX1_242 : e_FL "LandHouse$Asker" 242 9 4 := ⟨(e_R9, e_T9, 14), rfl, by decide, e_memt t721 rfl, lay9⟩
theorem fX10_215 : e_FL "LandHouse$World" 215 9 4 := ⟨(e_R9, e_T9, 14), rfl, by decide, e_memt t722 rfl, lay9⟩
theorem fX9_30 : e_FL "LandHouse$Thing" 30 9 5 := ⟨(e_R9, e_T9, 14), rfl, by decide, e_memt t723 rfl, lay9⟩
theorem fX0_188 : e_FL "LandHouse$Acts" 188 9 5 := ⟨(e_R9, e_T9, 14), rfl, by decide, e_memt t724 rfl, lay9⟩
theorem fX1_177 : e_FL "LandHouse$Asker" 177 9 5 := ⟨(e_R9, e_T9, 14), rfl, by decide, e_memt t725 rfl, lay9⟩
theorem fX10_167 : e_FL "LandHouse$World" 167 9 5 := ⟨(e_R9, e_T9, 14), rfl, by decide, e_memt t726 rfl, lay9⟩
theorem fX9_33 : e_FL "LandHouse$Thing" 33 9 6 := ⟨(e_R9, e_T9, 14), rfl, by decide, e_memt t727 rfl, lay9⟩
theorem fX0_211 : e_FL "LandHouse$Acts" 211 9 6 := ⟨(e_R9, e_T9, 14), rfl, by decide, e_memt t728 rfl, lay9⟩
theorem fX1_232 : e_FL "LandHouse$Asker" 232 9 6 := ⟨(e_R9, e_T9, 14), rfl, by decide, e_memt t729 rfl, lay9⟩
theorem fX10_161 : e_FL "LandHouse$World" 161 9 6 := ⟨(e_R9, e_T9, 14), rfl, by decide, e_memt t730 rfl, lay9⟩
theorem fX9_36 : e_FL "LandHouse$Thing" 36 9 7 := ⟨(e_R9, e_T9, 14), rfl, by decide, e_memt t731 rfl, lay9⟩
theorem fX0_156 : e_FL "LandHouse$Acts" 156 9 7 := ⟨(e_R9, e_T9, 14), rfl, by decide, e_memt t732 rfl, lay9⟩
theorem fX10_97 : e_FL "LandHouse$World" 97 9 7 := ⟨(e_R9, e_T9, 14), rfl, by decide, e_memt t733 rfl, lay9⟩
theorem fX1_239 : e_FL "LandHouse$Asker" 239 9 7 := ⟨(e_R9, e_T9, 14), rfl, by decide, e_memt t734 rfl, lay9⟩
theorem fX9_39 : e_FL "LandHouse$Thing" 39 9 8 := ⟨(e_R9, e_T9, 14), rfl, by decide, e_memt t735 rfl, lay9⟩
theorem fX0_437 : e_FL "LandHouse$Acts" 437 9 8 := ⟨(e_R9, e_T9, 14), rfl, by decide, e_memt t736 rfl, lay9⟩
theorem fX9_45 : e_FL "LandHouse$Thing" 45 9 9 := ⟨(e_R9, e_T9, 14), rfl, by decide, e_memt t737 rfl, lay9⟩
theorem fX0_179 : e_FL "LandHouse$Acts" 179 9 9 := ⟨(e_R9, e_T9, 14), rfl, by decide, e_memt t738 rfl, lay9⟩
theorem fX1_191 : e_FL "LandHouse$Asker" 191 9 9 := ⟨(e_R9, e_T9, 14), rfl, by decide, e_memt t739 rfl, lay9⟩
theorem fX10_184 : e_FL "LandHouse$World" 184 9 9 := ⟨(e_R9, e_T9, 14), rfl, by decide, e_memt t740 rfl, lay9⟩
theorem fX9_49 : e_FL "LandHouse$Thing" 49 9 10 := ⟨(e_R9, e_T9, 14), rfl, by decide, e_memt t741 rfl, lay9⟩
theorem fX1_182 : e_FL "LandHouse$Asker" 182 9 10 := ⟨(e_R9, e_T9, 14), rfl, by decide, e_memt t742 rfl, lay9⟩
theorem fX0_293 : e_FL "LandHouse$Acts" 293 9 10 := ⟨(e_R9, e_T9, 14), rfl, by decide, e_memt t743 rfl, lay9⟩
theorem fX10_221 : e_FL "LandHouse$World" 221 9 10 := ⟨(e_R9, e_T9, 14), rfl, by decide, e_memt t744 rfl, lay9⟩
theorem fX9_58 : e_FL "LandHouse$Thing" 58 9 11 := ⟨(e_R9, e_T9, 14), rfl, by decide, e_memt t745 rfl, lay9⟩
theorem fX10_77 : e_FL "LandHouse$World" 77 9 11 := ⟨(e_R9, e_T9, 14), rfl, by decide, e_memt t746 rfl, lay9⟩
theorem fX1_255 : e_FL "LandHouse$Asker" 255 9 11 := ⟨(e_R9, e_T9, 14), rfl, by decide, e_memt t747 rfl, lay9⟩
theorem fX0_327 : e_FL "LandHouse$Acts" 327 9 11 := ⟨(e_R9, e_T9, 14), rfl, by decide, e_memt t748 rfl, lay9⟩
theorem fX9_52 : e_FL "LandHouse$Thing" 52 9 12 := ⟨(e_R9, e_T9, 14), rfl, by decide, e_memt t749 rfl, lay9⟩
theorem fX0_291 : e_FL "LandHouse$Acts" 291 9 12 := ⟨(e_R9, e_T9, 14), rfl, by decide, e_memt t750 rfl, lay9⟩
theorem fX9_55 : e_FL "LandHouse$Thing" 55 9 13 := ⟨(e_R9, e_T9, 14), rfl, by decide, e_memt t751 rfl, lay9⟩
theorem fX0_292 : e_FL "LandHouse$Acts" 292 9 13 := ⟨(e_R9, e_T9, 14), rfl, by decide, e_memt t752 rfl, lay9⟩
theorem fX10_15 : e_FL "LandHouse$World" 15 10 0 := ⟨(e_R10, e_T10, 15), rfl, by decide, e_memt t782 rfl, lay10⟩
theorem fX10_23 : e_FL "LandHouse$World" 23 10 1 := ⟨(e_R10, e_T10, 15), rfl, by decide, e_memt t783 rfl, lay10⟩
theorem fX10_28 : e_FL "LandHouse$World" 28 10 2 := ⟨(e_R10, e_T10, 15), rfl, by decide, e_memt t784 rfl, lay10⟩
theorem fX10_38 : e_FL "LandHouse$World" 38 10 3 := ⟨(e_R10, e_T10, 15), rfl, by decide, e_memt t785 rfl, lay10⟩
theorem fX10_42 : e_FL "LandHouse$World" 42 10 4 := ⟨(e_R10, e_T10, 15), rfl, by decide, e_memt t786 rfl, lay10⟩
theorem fX1_104 : e_FL "LandHouse$Asker" 104 10 4 := ⟨(e_R10, e_T10, 15), rfl, by decide, e_memt t787 rfl, lay10⟩
theorem fX0_174 : e_FL "LandHouse$Acts" 174 10 4 := ⟨(e_R10, e_T10, 15), rfl, by decide, e_memt t788 rfl, lay10⟩
theorem fX11_197 : e_FL "LandHouse" 197 10 4 := ⟨(e_R10, e_T10, 15), rfl, by decide, e_memt t789 rfl, lay10⟩
theorem fX10_45 : e_FL "LandHouse$World" 45 10 5 := ⟨(e_R10, e_T10, 15), rfl, by decide, e_memt t790 rfl, lay10⟩
theorem fX1_81 : e_FL "LandHouse$Asker" 81 10 5 := ⟨(e_R10, e_T10, 15), rfl, by decide, e_memt t791 rfl, lay10⟩
theorem fX11_159 : e_FL "LandHouse" 159 10 5 := ⟨(e_R10, e_T10, 15), rfl, by decide, e_memt t792 rfl, lay10⟩
theorem fX10_48 : e_FL "LandHouse$World" 48 10 6 := ⟨(e_R10, e_T10, 15), rfl, by decide, e_memt t793 rfl, lay10⟩
theorem fX10_51 : e_FL "LandHouse$World" 51 10 7 := ⟨(e_R10, e_T10, 15), rfl, by decide, e_memt t794 rfl, lay10⟩
theorem fX1_78 : e_FL "LandHouse$Asker" 78 10 7 := ⟨(e_R10, e_T10, 15), rfl, by decide, e_memt t795 rfl, lay10⟩
theorem fX10_54 : e_FL "LandHouse$World" 54 10 8 := ⟨(e_R10, e_T10, 15), rfl, by decide, e_memt t796 rfl, lay10⟩
theorem fX1_84 : e_FL "LandHouse$Asker" 84 10 8 := ⟨(e_R10, e_T10, 15), rfl, by decide, e_memt t797 rfl, lay10⟩
theorem fX11_151 : e_FL "LandHouse" 151 10 8 := ⟨(e_R10, e_T10, 15), rfl, by decide, e_memt t798 rfl, lay10⟩
theorem fX10_58 : e_FL "LandHouse$World" 58 10 9 := ⟨(e_R10, e_T10, 15), rfl, by decide, e_memt t799 rfl, lay10⟩
theorem fX1_75 : e_FL "LandHouse$Asker" 75 10 9 := ⟨(e_R10, e_T10, 15), rfl, by decide, e_memt t800 rfl, lay10⟩
theorem fX11_119 : e_FL "LandHouse" 119 10 9 := ⟨(e_R10, e_T10, 15), rfl, by decide, e_memt t801 rfl, lay10⟩
theorem fX10_62 : e_FL "LandHouse$World" 62 10 10 := ⟨(e_R10, e_T10, 15), rfl, by decide, e_memt t802 rfl, lay10⟩
theorem fX11_133 : e_FL "LandHouse" 133 10 10 := ⟨(e_R10, e_T10, 15), rfl, by decide, e_memt t803 rfl, lay10⟩
theorem fX10_65 : e_FL "LandHouse$World" 65 10 11 := ⟨(e_R10, e_T10, 15), rfl, by decide, e_memt t804 rfl, lay10⟩
theorem fX0_49 : e_FL "LandHouse$Acts" 49 10 11 := ⟨(e_R10, e_T10, 15), rfl, by decide, e_memt t805 rfl, lay10⟩
theorem fX11_158 : e_FL "LandHouse" 158 10 11 := ⟨(e_R10, e_T10, 15), rfl, by decide, e_memt t806 rfl, lay10⟩
theorem fX1_245 : e_FL "LandHouse$Asker" 245 10 11 := ⟨(e_R10, e_T10, 15), rfl, by decide, e_memt t807 rfl, lay10⟩
theorem fX10_68 : e_FL "LandHouse$World" 68 10 12 := ⟨(e_R10, e_T10, 15), rfl, by decide, e_memt t808 rfl, lay10⟩
theorem fX10_71 : e_FL "LandHouse$World" 71 10 13 := ⟨(e_R10, e_T10, 15), rfl, by decide, e_memt t809 rfl, lay10⟩
theorem fX10_74 : e_FL "LandHouse$World" 74 10 14 := ⟨(e_R10, e_T10, 15), rfl, by decide, e_memt t810 rfl, lay10⟩
theorem kX11_69 : Cond.classLink "LandHouse" 69 "LandHouse$Acts" ∈ e_gd := e_memt t842 rfl
theorem nX11_69 : e_NL "LandHouse" 69 0 := ⟨(e_R0, e_T0, 7), rfl, kX11_69, e_memt t843 rfl, e_memt t297 rfl, lay0⟩
theorem cX11_71 : Cond.methodLink "LandHouse" 71 (⟨"LandHouse$Acts", "<init>", "(LLandHouse$World;LLandHouse$Deed;)V"⟩ : MethodName) ∈ e_gd := e_memt t844 rfl
theorem cX0_3 : Cond.methodLink "LandHouse$Acts" 3 (⟨"java/lang/Object", "<init>", "()V"⟩ : MethodName) ∈ e_gd := e_memt t847 rfl
theorem kX0_22 : Cond.classLink "LandHouse$Acts" 22 "LandHouse$Plane" ∈ e_gd := e_memt t848 rfl
theorem nX0_22 : e_NL "LandHouse$Acts" 22 5 := ⟨(e_R5, e_T5, 12), rfl, kX0_22, e_memt t849 rfl, e_memt t298 rfl, lay5⟩
theorem cX0_24 : Cond.methodLinkNest "LandHouse$Acts" 24 (⟨"LandHouse$Plane", "<init>", "()V"⟩ : MethodName) "LandHouse" ∈ e_nest := e_memtN t850 rfl
theorem cX5_3 : Cond.methodLink "LandHouse$Plane" 3 (⟨"java/lang/Object", "<init>", "()V"⟩ : MethodName) ∈ e_gd := e_memt t853 rfl
theorem kX5_9 : Cond.classLink "LandHouse$Plane" 9 "LandHouse$Figure" ∈ e_gd := e_memt t854 rfl
theorem nX5_9 : e_NL "LandHouse$Plane" 9 3 := ⟨(e_R3, e_T3, 3), rfl, kX5_9, e_memt t598 rfl, e_memt t294 rfl, lay3⟩
theorem cX5_11 : Cond.methodLinkNest "LandHouse$Plane" 11 (⟨"LandHouse$Figure", "<init>", "()V"⟩ : MethodName) "LandHouse" ∈ e_nest := e_memtN t855 rfl
theorem fX5_12 : e_FL "LandHouse$Plane" 12 5 0 := ⟨(e_R5, e_T5, 12), rfl, by decide, e_memt t856 rfl, lay5⟩
theorem fX0_313 : e_FL "LandHouse$Acts" 313 5 0 := ⟨(e_R5, e_T5, 12), rfl, by decide, e_memt t857 rfl, lay5⟩
theorem fX5_18 : e_FL "LandHouse$Plane" 18 5 1 := ⟨(e_R5, e_T5, 12), rfl, by decide, e_memt t858 rfl, lay5⟩
theorem fX0_320 : e_FL "LandHouse$Acts" 320 5 1 := ⟨(e_R5, e_T5, 12), rfl, by decide, e_memt t859 rfl, lay5⟩
theorem fX5_21 : e_FL "LandHouse$Plane" 21 5 2 := ⟨(e_R5, e_T5, 12), rfl, by decide, e_memt t860 rfl, lay5⟩
theorem fX0_367 : e_FL "LandHouse$Acts" 367 5 2 := ⟨(e_R5, e_T5, 12), rfl, by decide, e_memt t861 rfl, lay5⟩
theorem fX5_24 : e_FL "LandHouse$Plane" 24 5 3 := ⟨(e_R5, e_T5, 12), rfl, by decide, e_memt t862 rfl, lay5⟩
theorem fX5_28 : e_FL "LandHouse$Plane" 28 5 4 := ⟨(e_R5, e_T5, 12), rfl, by decide, e_memt t863 rfl, lay5⟩
theorem fX5_31 : e_FL "LandHouse$Plane" 31 5 5 := ⟨(e_R5, e_T5, 12), rfl, by decide, e_memt t864 rfl, lay5⟩
theorem fX5_35 : e_FL "LandHouse$Plane" 35 5 6 := ⟨(e_R5, e_T5, 12), rfl, by decide, e_memt t865 rfl, lay5⟩
theorem fX5_38 : e_FL "LandHouse$Plane" 38 5 7 := ⟨(e_R5, e_T5, 12), rfl, by decide, e_memt t866 rfl, lay5⟩
theorem fX5_41 : e_FL "LandHouse$Plane" 41 5 8 := ⟨(e_R5, e_T5, 12), rfl, by decide, e_memt t867 rfl, lay5⟩
theorem fX5_44 : e_FL "LandHouse$Plane" 44 5 9 := ⟨(e_R5, e_T5, 12), rfl, by decide, e_memt t868 rfl, lay5⟩
theorem fX5_47 : e_FL "LandHouse$Plane" 47 5 10 := ⟨(e_R5, e_T5, 12), rfl, by decide, e_memt t869 rfl, lay5⟩
theorem fX5_51 : e_FL "LandHouse$Plane" 51 5 11 := ⟨(e_R5, e_T5, 12), rfl, by decide, e_memt t870 rfl, lay5⟩
theorem kX0_29 : Cond.classLink "LandHouse$Acts" 29 "LandHouse$Lot" ∈ e_gd := e_memt t897 rfl
theorem nX0_29 : e_NL "LandHouse$Acts" 29 4 := ⟨(e_R4, e_T4, 9), rfl, kX0_29, e_memt t592 rfl, e_memt t293 rfl, lay4⟩
theorem cX0_31 : Cond.methodLinkNest "LandHouse$Acts" 31 (⟨"LandHouse$Lot", "<init>", "()V"⟩ : MethodName) "LandHouse" ∈ e_nest := e_memtN t898 rfl
theorem fX0_36 : e_FL "LandHouse$Acts" 36 0 0 := ⟨(e_R0, e_T0, 7), rfl, by decide, e_memt t899 rfl, lay0⟩
theorem fX0_40 : e_FL "LandHouse$Acts" 40 0 1 := ⟨(e_R0, e_T0, 7), rfl, by decide, e_memt t900 rfl, lay0⟩
theorem fX0_9 : e_FL "LandHouse$Acts" 9 0 2 := ⟨(e_R0, e_T0, 7), rfl, by decide, e_memt t901 rfl, lay0⟩
theorem fX0_15 : e_FL "LandHouse$Acts" 15 0 3 := ⟨(e_R0, e_T0, 7), rfl, by decide, e_memt t902 rfl, lay0⟩
theorem fX0_19 : e_FL "LandHouse$Acts" 19 0 4 := ⟨(e_R0, e_T0, 7), rfl, by decide, e_memt t903 rfl, lay0⟩
theorem fX0_25 : e_FL "LandHouse$Acts" 25 0 5 := ⟨(e_R0, e_T0, 7), rfl, by decide, e_memt t904 rfl, lay0⟩
theorem fX0_32 : e_FL "LandHouse$Acts" 32 0 6 := ⟨(e_R0, e_T0, 7), rfl, by decide, e_memt t905 rfl, lay0⟩
theorem kX11_78 : Cond.classLink "LandHouse" 78 "LandHouse$Asker" ∈ e_gd := e_memt t921 rfl
theorem nX11_78 : e_NL "LandHouse" 78 1 := ⟨(e_R1, e_T1, 7), rfl, kX11_78, e_memt t922 rfl, e_memt t299 rfl, lay1⟩
theorem cX11_80 : Cond.methodLink "LandHouse" 80 (⟨"LandHouse$Asker", "<init>", "(LLandHouse$World;LLandHouse$Question;)V"⟩ : MethodName) ∈ e_gd := e_memt t923 rfl
theorem cX1_3 : Cond.methodLink "LandHouse$Asker" 3 (⟨"java/lang/Object", "<init>", "()V"⟩ : MethodName) ∈ e_gd := e_memt t926 rfl
theorem fX1_9 : e_FL "LandHouse$Asker" 9 1 0 := ⟨(e_R1, e_T1, 7), rfl, by decide, e_memt t927 rfl, lay1⟩
theorem fX11_180 : e_FL "LandHouse" 180 1 0 := ⟨(e_R1, e_T1, 7), rfl, by decide, e_memt t928 rfl, lay1⟩
theorem fX1_15 : e_FL "LandHouse$Asker" 15 1 1 := ⟨(e_R1, e_T1, 7), rfl, by decide, e_memt t929 rfl, lay1⟩
theorem fX11_194 : e_FL "LandHouse" 194 1 1 := ⟨(e_R1, e_T1, 7), rfl, by decide, e_memt t930 rfl, lay1⟩
theorem fX1_19 : e_FL "LandHouse$Asker" 19 1 2 := ⟨(e_R1, e_T1, 7), rfl, by decide, e_memt t931 rfl, lay1⟩
theorem fX11_184 : e_FL "LandHouse" 184 1 2 := ⟨(e_R1, e_T1, 7), rfl, by decide, e_memt t932 rfl, lay1⟩
theorem fX1_31 : e_FL "LandHouse$Asker" 31 1 3 := ⟨(e_R1, e_T1, 7), rfl, by decide, e_memt t933 rfl, lay1⟩
theorem fX1_35 : e_FL "LandHouse$Asker" 35 1 4 := ⟨(e_R1, e_T1, 7), rfl, by decide, e_memt t934 rfl, lay1⟩
theorem fX1_23 : e_FL "LandHouse$Asker" 23 1 5 := ⟨(e_R1, e_T1, 7), rfl, by decide, e_memt t935 rfl, lay1⟩
theorem fX1_27 : e_FL "LandHouse$Asker" 27 1 6 := ⟨(e_R1, e_T1, 7), rfl, by decide, e_memt t936 rfl, lay1⟩
theorem fX11_9 : e_FL "LandHouse" 9 11 0 := ⟨(e_R11, e_T11, 15), rfl, by decide, e_memt t952 rfl, lay11⟩
theorem fX11_13 : e_FL "LandHouse" 13 11 1 := ⟨(e_R11, e_T11, 15), rfl, by decide, e_memt t953 rfl, lay11⟩
theorem fX11_17 : e_FL "LandHouse" 17 11 2 := ⟨(e_R11, e_T11, 15), rfl, by decide, e_memt t954 rfl, lay11⟩
theorem fX11_20 : e_FL "LandHouse" 20 11 3 := ⟨(e_R11, e_T11, 15), rfl, by decide, e_memt t955 rfl, lay11⟩
theorem fX11_23 : e_FL "LandHouse" 23 11 4 := ⟨(e_R11, e_T11, 15), rfl, by decide, e_memt t956 rfl, lay11⟩
theorem fX11_26 : e_FL "LandHouse" 26 11 5 := ⟨(e_R11, e_T11, 15), rfl, by decide, e_memt t957 rfl, lay11⟩
theorem fX11_31 : e_FL "LandHouse" 31 11 6 := ⟨(e_R11, e_T11, 15), rfl, by decide, e_memt t958 rfl, lay11⟩
theorem fX11_35 : e_FL "LandHouse" 35 11 7 := ⟨(e_R11, e_T11, 15), rfl, by decide, e_memt t959 rfl, lay11⟩
theorem fX11_39 : e_FL "LandHouse" 39 11 8 := ⟨(e_R11, e_T11, 15), rfl, by decide, e_memt t960 rfl, lay11⟩
theorem fX11_46 : e_FL "LandHouse" 46 11 9 := ⟨(e_R11, e_T11, 15), rfl, by decide, e_memt t961 rfl, lay11⟩
theorem fX11_55 : e_FL "LandHouse" 55 11 10 := ⟨(e_R11, e_T11, 15), rfl, by decide, e_memt t962 rfl, lay11⟩
theorem fX11_62 : e_FL "LandHouse" 62 11 11 := ⟨(e_R11, e_T11, 15), rfl, by decide, e_memt t963 rfl, lay11⟩
theorem fX11_66 : e_FL "LandHouse" 66 11 12 := ⟨(e_R11, e_T11, 15), rfl, by decide, e_memt t964 rfl, lay11⟩
theorem fX11_74 : e_FL "LandHouse" 74 11 13 := ⟨(e_R11, e_T11, 15), rfl, by decide, e_memt t965 rfl, lay11⟩
theorem fX11_83 : e_FL "LandHouse" 83 11 14 := ⟨(e_R11, e_T11, 15), rfl, by decide, e_memt t966 rfl, lay11⟩
theorem cL_33 : Cond.methodLink "LandHouseLaw" 33 (⟨"LandHouse", "feed", "(IIIII)Z"⟩ : MethodName) ∈ e_gd := e_memt t998 rfl
theorem cX11_87 : Cond.methodLink "LandHouse" 87 (⟨"LandHouse", "feedFour", "(I)V"⟩ : MethodName) ∈ e_gd := e_memt t1002 rfl
theorem cL_38 : Cond.methodLink "LandHouseLaw" 38 (⟨"LandHouse", "end", "(I)Z"⟩ : MethodName) ∈ e_gd := e_memt t1006 rfl
theorem cL_43 : Cond.methodLink "LandHouseLaw" 43 (⟨"LandHouse", "clock", "(I)Z"⟩ : MethodName) ∈ e_gd := e_memt t1010 rfl
theorem hX11_91 : Cond.constant "LandHouse" 91 (219144 : Int32) ∈ e_gd := e_memt t1014 rfl
theorem cL_47 : Cond.methodLink "LandHouseLaw" 47 (⟨"LandHouse", "enter", "()I"⟩ : MethodName) ∈ e_gd := e_memt t1015 rfl
theorem cX11_92 : Cond.methodLink "LandHouse" 92 (⟨"LandHouse", "readTape", "()V"⟩ : MethodName) ∈ e_gd := e_memt t1019 rfl
theorem cX11_129 : Cond.methodLink "LandHouse" 129 (⟨"LandHouse$Reader", "scan", "([BI)V"⟩ : MethodName) ∈ e_gd := e_memt t1023 rfl
theorem cX7_79 : Cond.methodLink "LandHouse$Reader" 79 (⟨"java/lang/Math", "min", "(II)I"⟩ : MethodName) ∈ e_gd := e_memt t1027 rfl
theorem cX7_85 : Cond.methodLink "LandHouse$Reader" 85 (⟨"LandHouse$Reader", "scanToken", "([BII)I"⟩ : MethodName) ∈ e_gd := e_memt t1030 rfl
theorem cX7_93 : Cond.methodLink "LandHouse$Reader" 93 (⟨"LandHouse$Reader", "isDate", "([BII)Z"⟩ : MethodName) ∈ e_gd := e_memt t1034 rfl
theorem cX7_104 : Cond.methodLink "LandHouse$Reader" 104 (⟨"LandHouse$Reader", "isWordByte", "(I)Z"⟩ : MethodName) ∈ e_gd := e_memt t1037 rfl
theorem cX7_111 : Cond.methodLink "LandHouse$Reader" 111 (⟨"LandHouse$Reader", "isDigit", "(I)Z"⟩ : MethodName) ∈ e_gd := e_memt t1040 rfl
theorem cX7_97 : Cond.methodLink "LandHouse$Reader" 97 (⟨"LandHouse$Reader", "digits", "([BII)I"⟩ : MethodName) ∈ e_gd := e_memt t1043 rfl
theorem cX7_100 : Cond.methodLinkNest "LandHouse$Reader" 100 (⟨"LandHouse", "dayOf", "(III)I"⟩ : MethodName) "LandHouse" ∈ e_nest := e_memtN t1046 rfl
theorem hX11_259 : Cond.constant "LandHouse" 259 (620853 : Int32) ∈ e_gd := e_memt t1049 rfl
theorem cX11_260 : Cond.methodLink "LandHouse" 260 (⟨"LandHouse", "dateOf", "(I)I"⟩ : MethodName) ∈ e_gd := e_memt t1050 rfl
theorem hX11_263 : Cond.constant "LandHouse" 263 (146097 : Int32) ∈ e_gd := e_memt t1053 rfl
theorem hX11_264 : Cond.constant "LandHouse" 264 (36524 : Int32) ∈ e_gd := e_memt t1054 rfl
theorem hX11_265 : Cond.constant "LandHouse" 265 (146096 : Int32) ∈ e_gd := e_memt t1055 rfl
theorem cX7_89 : Cond.methodLink "LandHouse$Reader" 89 (⟨"LandHouse$Reader", "push", "(IIJ)V"⟩ : MethodName) ∈ e_gd := e_memt t1056 rfl
theorem cX7_108 : Cond.methodLink "LandHouse$Reader" 108 (⟨"LandHouse$Reader", "scanSign", "([BII)I"⟩ : MethodName) ∈ e_gd := e_memt t1060 rfl
theorem cX7_114 : Cond.methodLink "LandHouse$Reader" 114 (⟨"LandHouse$Reader", "scanNumber", "([BII)V"⟩ : MethodName) ∈ e_gd := e_memt t1064 rfl
theorem cX7_118 : Cond.methodLink "LandHouse$Reader" 118 (⟨"LandHouse$Reader", "scanWord", "([BII)V"⟩ : MethodName) ∈ e_gd := e_memt t1068 rfl
theorem cX11_95 : Cond.methodLink "LandHouse" 95 (⟨"LandHouse$Reader", "readEntry", "(LLandHouse$Deed;[LLandHouse$Deed;I)Z"⟩ : MethodName) ∈ e_gd := e_memt t1072 rfl
theorem cX7_131 : Cond.methodLink "LandHouse$Reader" 131 (⟨"LandHouse$Deed", "clear", "()V"⟩ : MethodName) ∈ e_gd := e_memt t1076 rfl
theorem cX7_121 : Cond.methodLink "LandHouse$Reader" 121 (⟨"LandHouse$Reader", "take", "()V"⟩ : MethodName) ∈ e_gd := e_memt t1080 rfl
theorem cX7_128 : Cond.methodLink "LandHouse$Reader" 128 (⟨"LandHouse$Reader", "expect", "(I)V"⟩ : MethodName) ∈ e_gd := e_memt t1084 rfl
theorem cX7_124 : Cond.methodLink "LandHouse$Reader" 124 (⟨"LandHouse$Reader", "note", "(I)V"⟩ : MethodName) ∈ e_gd := e_memt t1088 rfl
theorem cX7_137 : Cond.methodLink "LandHouse$Reader" 137 (⟨"LandHouse$Reader", "readTarget", "([LLandHouse$Deed;I)V"⟩ : MethodName) ∈ e_gd := e_memt t1092 rfl
theorem cX7_141 : Cond.methodLink "LandHouse$Reader" 141 (⟨"LandHouse$Reader", "readDeed", "()V"⟩ : MethodName) ∈ e_gd := e_memt t1096 rfl
theorem cX7_150 : Cond.methodLink "LandHouse$Reader" 150 (⟨"LandHouse$Reader", "takeDate", "()I"⟩ : MethodName) ∈ e_gd := e_memt t1100 rfl
theorem cX7_159 : Cond.methodLink "LandHouse$Reader" 159 (⟨"LandHouse$Reader", "readOfPersons", "(I)V"⟩ : MethodName) ∈ e_gd := e_memt t1104 rfl
theorem cX7_178 : Cond.methodLink "LandHouse$Reader" 178 (⟨"LandHouse$Reader", "named", "(I)V"⟩ : MethodName) ∈ e_gd := e_memt t1108 rfl
theorem cX7_174 : Cond.methodLink "LandHouse$Reader" 174 (⟨"LandHouse$Deed", "addName", "(JI)V"⟩ : MethodName) ∈ e_gd := e_memt t1112 rfl
theorem cX7_184 : Cond.methodLink "LandHouse$Reader" 184 (⟨"LandHouse$Reader", "readParts", "()V"⟩ : MethodName) ∈ e_gd := e_memt t1116 rfl
theorem cX7_187 : Cond.methodLink "LandHouse$Reader" 187 (⟨"LandHouse$Reader", "readShare", "()V"⟩ : MethodName) ∈ e_gd := e_memt t1120 rfl
theorem cX7_227 : Cond.methodLink "LandHouse$Reader" 227 (⟨"LandHouse$Reader", "checkShareNumber", "()V"⟩ : MethodName) ∈ e_gd := e_memt t1124 rfl
theorem hX7_234 : Cond.constantLong "LandHouse$Reader" 234 (1000 : Int64) ∈ e_gd := e_memt t1128 rfl
theorem cX7_230 : Cond.methodLinkNest "LandHouse$Reader" 230 (⟨"LandHouse", "commonDivisor", "(JJ)J"⟩ : MethodName) "LandHouse" ∈ e_nest := e_memtN t1129 rfl
theorem cX7_214 : Cond.methodLink "LandHouse$Reader" 214 (⟨"LandHouse$Deed", "addPart", "(JJ)V"⟩ : MethodName) ∈ e_gd := e_memt t1132 rfl
theorem cX7_162 : Cond.methodLink "LandHouse$Reader" 162 (⟨"LandHouse$Reader", "readOfLots", "(I)V"⟩ : MethodName) ∈ e_gd := e_memt t1136 rfl
theorem cX7_196 : Cond.methodLink "LandHouse$Reader" 196 (⟨"LandHouse$Reader", "readPrice", "()V"⟩ : MethodName) ∈ e_gd := e_memt t1140 rfl
theorem cX7_208 : Cond.methodLink "LandHouse$Reader" 208 (⟨"LandHouse$Reader", "takeNumber", "()I"⟩ : MethodName) ∈ e_gd := e_memt t1144 rfl
theorem cX7_199 : Cond.methodLink "LandHouse$Reader" 199 (⟨"LandHouse$Reader", "readPoints", "()V"⟩ : MethodName) ∈ e_gd := e_memt t1148 rfl
theorem cX7_236 : Cond.methodLink "LandHouse$Reader" 236 (⟨"LandHouse$Deed", "addPoint", "(II)V"⟩ : MethodName) ∈ e_gd := e_memt t1152 rfl
theorem cX7_165 : Cond.methodLink "LandHouse$Reader" 165 (⟨"LandHouse$Reader", "readOfCharges", "(I)V"⟩ : MethodName) ∈ e_gd := e_memt t1156 rfl
theorem cX7_202 : Cond.methodLink "LandHouse$Reader" 202 (⟨"LandHouse$Reader", "readLots", "()V"⟩ : MethodName) ∈ e_gd := e_memt t1160 rfl
theorem cX7_168 : Cond.methodLink "LandHouse$Reader" 168 (⟨"LandHouse$Reader", "readOfServes", "(I)V"⟩ : MethodName) ∈ e_gd := e_memt t1164 rfl
theorem cX7_171 : Cond.methodLink "LandHouse$Reader" 171 (⟨"LandHouse$Reader", "readOfTerms", "(I)V"⟩ : MethodName) ∈ e_gd := e_memt t1168 rfl
theorem cX7_144 : Cond.methodLink "LandHouse$Reader" 144 (⟨"LandHouse$Reader", "finish", "()V"⟩ : MethodName) ∈ e_gd := e_memt t1172 rfl
theorem cL_52 : Cond.methodLink "LandHouseLaw" 52 (⟨"LandHouse", "fault", "()I"⟩ : MethodName) ∈ e_gd := e_memt t1176 rfl
theorem cL_56 : Cond.methodLink "LandHouseLaw" 56 (⟨"LandHouse", "suppose", "()I"⟩ : MethodName) ∈ e_gd := e_memt t1180 rfl
theorem cX11_108 : Cond.methodLink "LandHouse" 108 (⟨"LandHouse$Reader", "readDeedAlone", "(LLandHouse$Deed;)Z"⟩ : MethodName) ∈ e_gd := e_memt t1184 rfl
theorem cX11_115 : Cond.methodLink "LandHouse" 115 (⟨"LandHouse", "viewOf", "(LLandHouse$World;II)LLandHouse$World;"⟩ : MethodName) ∈ e_gd := e_memt t1188 rfl
theorem cX11_136 : Cond.methodLink "LandHouse" 136 (⟨"LandHouse$World", "isOf", "(III)Z"⟩ : MethodName) ∈ e_gd := e_memt t1192 rfl
theorem cX11_140 : Cond.methodLink "LandHouse" 140 (⟨"LandHouse$World", "begin", "(III)V"⟩ : MethodName) ∈ e_gd := e_memt t1196 rfl
theorem cX10_81 : Cond.methodLink "LandHouse$World" 81 (⟨"java/lang/Math", "min", "(II)I"⟩ : MethodName) ∈ e_gd := e_memt t1200 rfl
theorem hX10_87 : Cond.constantLong "LandHouse$World" 87 (7165912515837165568 : Int64) ∈ e_gd := e_memt t1201 rfl
theorem cX10_89 : Cond.methodLink "LandHouse$World" 89 (⟨"LandHouse$World", "add", "(IJLLandHouse$Deed;I)LLandHouse$Thing;"⟩ : MethodName) ∈ e_gd := e_memt t1202 rfl
theorem cX10_135 : Cond.methodLink "LandHouse$World" 135 (⟨"LandHouse$World", "isFull", "(I)Z"⟩ : MethodName) ∈ e_gd := e_memt t1206 rfl
theorem gX10_132 : Cond.fieldLinkNest "LandHouse$World" 132 "LandHouse" "FIRST" "[I" "LandHouse" ∈ e_nest := e_memtN t1210 rfl
theorem cX10_143 : Cond.methodLink "LandHouse$World" 143 (⟨"LandHouse$Thing", "begin", "(JLLandHouse$Deed;I)V"⟩ : MethodName) ∈ e_gd := e_memt t1212 rfl
theorem cX10_93 : Cond.methodLink "LandHouse$World" 93 (⟨"LandHouse$World", "at", "(II)LLandHouse$Thing;"⟩ : MethodName) ∈ e_gd := e_memt t1216 rfl
theorem hX10_100 : Cond.constantLong "LandHouse$World" 100 (7809644604612935680 : Int64) ∈ e_gd := e_memt t1220 rfl
theorem cX10_102 : Cond.methodLink "LandHouse$World" 102 (⟨"LandHouse$World", "addLot", "(J)I"⟩ : MethodName) ∈ e_gd := e_memt t1221 rfl
theorem cX10_139 : Cond.methodLink "LandHouse$World" 139 (⟨"LandHouse$Lot", "begin", "(J)V"⟩ : MethodName) ∈ e_gd := e_memt t1225 rfl
theorem cX4_51 : Cond.methodLink "LandHouse$Lot" 51 (⟨"LandHouse$Figure", "clear", "()V"⟩ : MethodName) ∈ e_gd := e_memt t1229 rfl
theorem cX4_54 : Cond.methodLink "LandHouse$Lot" 54 (⟨"LandHouse$Row", "clear", "()V"⟩ : MethodName) ∈ e_gd := e_memt t1233 rfl
theorem cX10_106 : Cond.methodLink "LandHouse$World" 106 (⟨"LandHouse$World", "lot", "(I)LLandHouse$Lot;"⟩ : MethodName) ∈ e_gd := e_memt t1237 rfl
theorem cX10_110 : Cond.methodLink "LandHouse$World" 110 (⟨"LandHouse$Lot", "own", "(I)V"⟩ : MethodName) ∈ e_gd := e_memt t1241 rfl
theorem cX4_55 : Cond.methodLink "LandHouse$Lot" 55 (⟨"LandHouse$Lot", "give", "(IJJ)V"⟩ : MethodName) ∈ e_gd := e_memt t1245 rfl
theorem cX4_59 : Cond.methodLink "LandHouse$Lot" 59 (⟨"LandHouse$Lot", "placeOf", "(I)I"⟩ : MethodName) ∈ e_gd := e_memt t1249 rfl
theorem cX4_63 : Cond.methodLink "LandHouse$Lot" 63 (⟨"LandHouse$Lot", "put", "(IJJ)V"⟩ : MethodName) ∈ e_gd := e_memt t1253 rfl
theorem cX4_66 : Cond.methodLinkNest "LandHouse$Lot" 66 (⟨"LandHouse", "commonDivisor", "(JJ)J"⟩ : MethodName) "LandHouse" ∈ e_nest := e_memtN t1257 rfl
theorem cX10_118 : Cond.methodLink "LandHouse$World" 118 (⟨"LandHouse$Figure", "add", "(II)V"⟩ : MethodName) ∈ e_gd := e_memt t1258 rfl
theorem cX11_144 : Cond.methodLink "LandHouse" 144 (⟨"LandHouse$World", "weighOrders", "([LLandHouse$Deed;)V"⟩ : MethodName) ∈ e_gd := e_memt t1262 rfl
theorem cX11_148 : Cond.methodLink "LandHouse" 148 (⟨"LandHouse$World", "lineUp", "([LLandHouse$Deed;)V"⟩ : MethodName) ∈ e_gd := e_memt t1266 rfl
theorem cX11_122 : Cond.methodLink "LandHouse" 122 (⟨"LandHouse$Acts", "perform", "(LLandHouse$World;LLandHouse$Deed;I)I"⟩ : MethodName) ∈ e_gd := e_memt t1270 rfl
theorem cX0_52 : Cond.methodLink "LandHouse$Acts" 52 (⟨"LandHouse$Acts", "findNames", "()Z"⟩ : MethodName) ∈ e_gd := e_memt t1274 rfl
theorem cX0_133 : Cond.methodLink "LandHouse$Acts" 133 (⟨"LandHouse$World", "find", "(J)I"⟩ : MethodName) ∈ e_gd := e_memt t1278 rfl
theorem cX0_140 : Cond.methodLink "LandHouse$Acts" 140 (⟨"LandHouse$Deed", "isToldBefore", "(I)Z"⟩ : MethodName) ∈ e_gd := e_memt t1282 rfl
theorem cX0_144 : Cond.methodLink "LandHouse$Acts" 144 (⟨"LandHouse$Acts", "fits", "(III)Z"⟩ : MethodName) ∈ e_gd := e_memt t1286 rfl
theorem cX0_148 : Cond.methodLink "LandHouse$Acts" 148 (⟨"LandHouse$World", "isThere", "(II)Z"⟩ : MethodName) ∈ e_gd := e_memt t1290 rfl
theorem cX10_150 : Cond.methodLink "LandHouse$World" 150 (⟨"LandHouse$Thing", "isThere", "(I)Z"⟩ : MethodName) ∈ e_gd := e_memt t1294 rfl
theorem cX0_152 : Cond.methodLink "LandHouse$Acts" 152 (⟨"LandHouse$World", "at", "(II)LLandHouse$Thing;"⟩ : MethodName) ∈ e_gd := e_memt t1298 rfl
theorem cX0_59 : Cond.methodLink "LandHouse$Acts" 59 (⟨"LandHouse$Acts", "makePerson", "()I"⟩ : MethodName) ∈ e_gd := e_memt t1299 rfl
theorem cX0_200 : Cond.methodLink "LandHouse$Acts" 200 (⟨"LandHouse$World", "isFull", "(I)Z"⟩ : MethodName) ∈ e_gd := e_memt t1303 rfl
theorem cX0_203 : Cond.methodLink "LandHouse$Acts" 203 (⟨"LandHouse$Acts", "make", "(I)LLandHouse$Thing;"⟩ : MethodName) ∈ e_gd := e_memt t1304 rfl
theorem cX0_190 : Cond.methodLink "LandHouse$Acts" 190 (⟨"LandHouse$World", "add", "(IJLLandHouse$Deed;I)LLandHouse$Thing;"⟩ : MethodName) ∈ e_gd := e_memt t1308 rfl
theorem cX0_207 : Cond.methodLinkNest "LandHouse$Acts" 207 (⟨"LandHouse", "fullAgeOf", "(I)I"⟩ : MethodName) "LandHouse" ∈ e_nest := e_memtN t1309 rfl
theorem cX11_266 : Cond.methodLink "LandHouse" 266 (⟨"LandHouse", "dayOf", "(III)I"⟩ : MethodName) ∈ e_gd := e_memt t1312 rfl
theorem hX11_269 : Cond.constant "LandHouse" 269 (1000000 : Int32) ∈ e_gd := e_memt t1313 rfl
theorem cX0_63 : Cond.methodLink "LandHouse$Acts" 63 (⟨"LandHouse$Acts", "makeFirm", "()I"⟩ : MethodName) ∈ e_gd := e_memt t1314 rfl
theorem cX0_214 : Cond.methodLink "LandHouse$Acts" 214 (⟨"LandHouse$World", "isOfAge", "(I)Z"⟩ : MethodName) ∈ e_gd := e_memt t1318 rfl
theorem cX0_66 : Cond.methodLink "LandHouse$Acts" 66 (⟨"LandHouse$Acts", "guard", "()I"⟩ : MethodName) ∈ e_gd := e_memt t1322 rfl
theorem cX0_69 : Cond.methodLink "LandHouse$Acts" 69 (⟨"LandHouse$Acts", "die", "()I"⟩ : MethodName) ∈ e_gd := e_memt t1326 rfl
theorem cX0_220 : Cond.methodLink "LandHouse$Acts" 220 (⟨"LandHouse$Acts", "arePartsMixed", "(II)Z"⟩ : MethodName) ∈ e_gd := e_memt t1330 rfl
theorem cX0_223 : Cond.methodLink "LandHouse$Acts" 223 (⟨"LandHouse$Deed", "isWhole", "()Z"⟩ : MethodName) ∈ e_gd := e_memt t1334 rfl
theorem cX2_72 : Cond.methodLinkNest "LandHouse$Deed" 72 (⟨"LandHouse", "commonDivisor", "(JJ)J"⟩ : MethodName) "LandHouse" ∈ e_nest := e_memtN t1338 rfl
theorem cX0_226 : Cond.methodLink "LandHouse$Acts" 226 (⟨"LandHouse$Acts", "draftHeirs", "(II)Z"⟩ : MethodName) ∈ e_gd := e_memt t1339 rfl
theorem cX0_161 : Cond.methodLink "LandHouse$Acts" 161 (⟨"LandHouse$World", "lot", "(I)LLandHouse$Lot;"⟩ : MethodName) ∈ e_gd := e_memt t1343 rfl
theorem cX0_244 : Cond.methodLink "LandHouse$Acts" 244 (⟨"LandHouse$Lot", "placeOf", "(I)I"⟩ : MethodName) ∈ e_gd := e_memt t1344 rfl
theorem cX0_232 : Cond.methodLink "LandHouse$Acts" 232 (⟨"LandHouse$Lot", "copyOwners", "(LLandHouse$Lot;)V"⟩ : MethodName) ∈ e_gd := e_memt t1345 rfl
theorem cX0_254 : Cond.methodLink "LandHouse$Acts" 254 (⟨"LandHouse$Lot", "takeOff", "(IJJ)Z"⟩ : MethodName) ∈ e_gd := e_memt t1349 rfl
theorem cX0_258 : Cond.methodLink "LandHouse$Acts" 258 (⟨"LandHouse$Lot", "give", "(IJJ)V"⟩ : MethodName) ∈ e_gd := e_memt t1353 rfl
theorem cX0_229 : Cond.methodLink "LandHouse$Acts" 229 (⟨"LandHouse$Lot", "isTooFine", "()Z"⟩ : MethodName) ∈ e_gd := e_memt t1354 rfl
theorem hX4_70 : Cond.constantLong "LandHouse$Lot" 70 (1000000 : Int64) ∈ e_gd := e_memt t1358 rfl
theorem cX0_236 : Cond.methodLink "LandHouse$Acts" 236 (⟨"LandHouse$Acts", "endRightsOf", "(II)V"⟩ : MethodName) ∈ e_gd := e_memt t1359 rfl
theorem cX0_72 : Cond.methodLink "LandHouse$Acts" 72 (⟨"LandHouse$Acts", "closeFirm", "()I"⟩ : MethodName) ∈ e_gd := e_memt t1363 rfl
theorem cX0_177 : Cond.methodLink "LandHouse$Acts" 177 (⟨"LandHouse$Thing", "isThere", "(I)Z"⟩ : MethodName) ∈ e_gd := e_memt t1367 rfl
theorem cX0_75 : Cond.methodLink "LandHouse$Acts" 75 (⟨"LandHouse$Acts", "sell", "()I"⟩ : MethodName) ∈ e_gd := e_memt t1368 rfl
theorem cX0_171 : Cond.methodLink "LandHouse$Acts" 171 (⟨"LandHouse$World", "isAble", "(I)Z"⟩ : MethodName) ∈ e_gd := e_memt t1372 rfl
theorem cX10_164 : Cond.methodLink "LandHouse$World" 164 (⟨"LandHouse$World", "isOfAge", "(I)Z"⟩ : MethodName) ∈ e_gd := e_memt t1376 rfl
theorem cX0_275 : Cond.methodLink "LandHouse$Acts" 275 (⟨"LandHouse$Acts", "isBarred", "(II)Z"⟩ : MethodName) ∈ e_gd := e_memt t1377 rfl
theorem cX0_183 : Cond.methodLink "LandHouse$Acts" 183 (⟨"LandHouse$Row", "has", "(I)Z"⟩ : MethodName) ∈ e_gd := e_memt t1381 rfl
theorem cX8_19 : Cond.methodLink "LandHouse$Row" 19 (⟨"LandHouse$Row", "find", "(I)I"⟩ : MethodName) ∈ e_gd := e_memt t1385 rfl
theorem cX0_284 : Cond.methodLink "LandHouse$Acts" 284 (⟨"LandHouse$Acts", "recordSale", "(JJ)V"⟩ : MethodName) ∈ e_gd := e_memt t1389 rfl
theorem cX0_288 : Cond.methodLink "LandHouse$Acts" 288 (⟨"LandHouse$Row", "add", "(I)V"⟩ : MethodName) ∈ e_gd := e_memt t1393 rfl
theorem cX8_23 : Cond.methodLink "LandHouse$Row" 23 (⟨"LandHouse$Row", "insert", "(II)V"⟩ : MethodName) ∈ e_gd := e_memt t1397 rfl
theorem cX0_78 : Cond.methodLink "LandHouse$Acts" 78 (⟨"LandHouse$Acts", "split", "()I"⟩ : MethodName) ∈ e_gd := e_memt t1401 rfl
theorem cX0_296 : Cond.methodLink "LandHouse$Acts" 296 (⟨"LandHouse$Acts", "areOwnersAble", "(I)Z"⟩ : MethodName) ∈ e_gd := e_memt t1405 rfl
theorem cX0_303 : Cond.methodLink "LandHouse$Acts" 303 (⟨"LandHouse$Plane", "cut", "(LLandHouse$Figure;LLandHouse$Deed;)Z"⟩ : MethodName) ∈ e_gd := e_memt t1409 rfl
theorem cX5_65 : Cond.methodLink "LandHouse$Plane" 65 (⟨"LandHouse$Figure", "where", "(JJI)I"⟩ : MethodName) ∈ e_gd := e_memt t1413 rfl
theorem cX3_29 : Cond.methodLink "LandHouse$Figure" 29 (⟨"LandHouse$Figure", "next", "(I)I"⟩ : MethodName) ∈ e_gd := e_memt t1417 rfl
theorem cX3_33 : Cond.methodLink "LandHouse$Figure" 33 (⟨"java/lang/Math", "min", "(JJ)J"⟩ : MethodName) ∈ e_gd := e_memt t1421 rfl
theorem cX3_39 : Cond.methodLink "LandHouse$Figure" 39 (⟨"java/lang/Math", "max", "(JJ)J"⟩ : MethodName) ∈ e_gd := e_memt t1424 rfl
theorem cX5_69 : Cond.methodLink "LandHouse$Plane" 69 (⟨"LandHouse$Plane", "isInside", "(LLandHouse$Figure;LLandHouse$Deed;I)Z"⟩ : MethodName) ∈ e_gd := e_memt t1427 rfl
theorem cX5_92 : Cond.methodLink "LandHouse$Plane" 92 (⟨"LandHouse$Figure", "next", "(I)I"⟩ : MethodName) ∈ e_gd := e_memt t1431 rfl
theorem cX5_98 : Cond.methodLinkNest "LandHouse$Plane" 98 (⟨"LandHouse", "isOn", "(IIIIII)Z"⟩ : MethodName) "LandHouse" ∈ e_nest := e_memtN t1432 rfl
theorem cX11_171 : Cond.methodLink "LandHouse" 171 (⟨"java/lang/Math", "min", "(II)I"⟩ : MethodName) ∈ e_gd := e_memt t1435 rfl
theorem cX11_270 : Cond.methodLink "LandHouse" 270 (⟨"java/lang/Math", "max", "(II)I"⟩ : MethodName) ∈ e_gd := e_memt t1436 rfl
theorem cX5_102 : Cond.methodLinkNest "LandHouse$Plane" 102 (⟨"LandHouse", "turn", "(IIIIII)J"⟩ : MethodName) "LandHouse" ∈ e_nest := e_memtN t1439 rfl
theorem cX5_73 : Cond.methodLink "LandHouse$Plane" 73 (⟨"LandHouse$Plane", "meetsLater", "(LLandHouse$Deed;I)Z"⟩ : MethodName) ∈ e_gd := e_memt t1442 rfl
theorem cX5_77 : Cond.methodLink "LandHouse$Plane" 77 (⟨"LandHouse$Plane", "layCut", "(LLandHouse$Deed;II)V"⟩ : MethodName) ∈ e_gd := e_memt t1445 rfl
theorem cX5_106 : Cond.methodLink "LandHouse$Plane" 106 (⟨"LandHouse$Plane", "lay", "(II)V"⟩ : MethodName) ∈ e_gd := e_memt t1449 rfl
theorem cX5_81 : Cond.methodLink "LandHouse$Plane" 81 (⟨"LandHouse$Plane", "layBorder", "(LLandHouse$Figure;IIII)V"⟩ : MethodName) ∈ e_gd := e_memt t1453 rfl
theorem cX5_110 : Cond.methodLink "LandHouse$Plane" 110 (⟨"LandHouse$Figure", "stretchOf", "(II)I"⟩ : MethodName) ∈ e_gd := e_memt t1457 rfl
theorem cX3_42 : Cond.methodLinkNest "LandHouse$Figure" 42 (⟨"LandHouse", "isOn", "(IIIIII)Z"⟩ : MethodName) "LandHouse" ∈ e_nest := e_memtN t1461 rfl
theorem cX5_114 : Cond.methodLink "LandHouse$Plane" 114 (⟨"java/lang/Math", "abs", "(I)I"⟩ : MethodName) ∈ e_gd := e_memt t1462 rfl
theorem cX5_85 : Cond.methodLink "LandHouse$Plane" 85 (⟨"LandHouse$Plane", "close", "(LLandHouse$Figure;)Z"⟩ : MethodName) ∈ e_gd := e_memt t1465 rfl
theorem cX5_119 : Cond.methodLink "LandHouse$Plane" 119 (⟨"LandHouse$Figure", "clear", "()V"⟩ : MethodName) ∈ e_gd := e_memt t1469 rfl
theorem cX5_122 : Cond.methodLink "LandHouse$Plane" 122 (⟨"LandHouse$Figure", "add", "(II)V"⟩ : MethodName) ∈ e_gd := e_memt t1470 rfl
theorem gX0_307 : Cond.fieldLinkNest "LandHouse$Acts" 307 "LandHouse" "MOST" "[I" "LandHouse" ∈ e_nest := e_memtN t1471 rfl
theorem cX0_310 : Cond.methodLink "LandHouse$Acts" 310 (⟨"LandHouse$Acts", "isSplitTooMany", "(I)Z"⟩ : MethodName) ∈ e_gd := e_memt t1472 rfl
theorem cX0_332 : Cond.methodLink "LandHouse$Acts" 332 (⟨"LandHouse$Figure", "holdsAny", "(LLandHouse$Deed;)Z"⟩ : MethodName) ∈ e_gd := e_memt t1476 rfl
theorem cX3_53 : Cond.methodLink "LandHouse$Figure" 53 (⟨"LandHouse$Figure", "where", "(JJI)I"⟩ : MethodName) ∈ e_gd := e_memt t1480 rfl
theorem cX0_316 : Cond.methodLink "LandHouse$Acts" 316 (⟨"LandHouse$Acts", "makeLot", "(JLLandHouse$Lot;LLandHouse$Figure;)I"⟩ : MethodName) ∈ e_gd := e_memt t1481 rfl
theorem cX0_340 : Cond.methodLink "LandHouse$Acts" 340 (⟨"LandHouse$World", "addLot", "(J)I"⟩ : MethodName) ∈ e_gd := e_memt t1485 rfl
theorem cX0_346 : Cond.methodLink "LandHouse$Acts" 346 (⟨"LandHouse$Row", "copy", "(LLandHouse$Row;)V"⟩ : MethodName) ∈ e_gd := e_memt t1486 rfl
theorem cX8_27 : Cond.methodLink "LandHouse$Row" 27 (⟨"LandHouse$Row", "add", "(I)V"⟩ : MethodName) ∈ e_gd := e_memt t1490 rfl
theorem cX0_350 : Cond.methodLink "LandHouse$Acts" 350 (⟨"LandHouse$Figure", "copy", "(LLandHouse$Figure;)V"⟩ : MethodName) ∈ e_gd := e_memt t1491 rfl
theorem cX3_22 : Cond.methodLink "LandHouse$Figure" 22 (⟨"LandHouse$Figure", "clear", "()V"⟩ : MethodName) ∈ e_gd := e_memt t1495 rfl
theorem cX3_25 : Cond.methodLink "LandHouse$Figure" 25 (⟨"LandHouse$Figure", "add", "(II)V"⟩ : MethodName) ∈ e_gd := e_memt t1496 rfl
theorem cX0_323 : Cond.methodLink "LandHouse$Acts" 323 (⟨"LandHouse$Row", "part", "(III)V"⟩ : MethodName) ∈ e_gd := e_memt t1497 rfl
theorem cX8_31 : Cond.methodLink "LandHouse$Row" 31 (⟨"LandHouse$Row", "remove", "(I)V"⟩ : MethodName) ∈ e_gd := e_memt t1501 rfl
theorem cX0_328 : Cond.methodLink "LandHouse$Acts" 328 (⟨"LandHouse$Acts", "partOver", "(LLandHouse$Row;LLandHouse$Deed;III)V"⟩ : MethodName) ∈ e_gd := e_memt t1505 rfl
theorem cX0_81 : Cond.methodLink "LandHouse$Acts" 81 (⟨"LandHouse$Acts", "join", "()I"⟩ : MethodName) ∈ e_gd := e_memt t1509 rfl
theorem cX0_353 : Cond.methodLink "LandHouse$Acts" 353 (⟨"LandHouse$Lot", "hasSameOwners", "(LLandHouse$Lot;)Z"⟩ : MethodName) ∈ e_gd := e_memt t1513 rfl
theorem cX0_357 : Cond.methodLink "LandHouse$Acts" 357 (⟨"LandHouse$Row", "isSame", "(LLandHouse$Row;)Z"⟩ : MethodName) ∈ e_gd := e_memt t1517 rfl
theorem cX0_361 : Cond.methodLink "LandHouse$Acts" 361 (⟨"LandHouse$Acts", "areOnBoth", "(III)Z"⟩ : MethodName) ∈ e_gd := e_memt t1521 rfl
theorem cX0_364 : Cond.methodLink "LandHouse$Acts" 364 (⟨"LandHouse$Plane", "join", "(LLandHouse$Figure;LLandHouse$Figure;)Z"⟩ : MethodName) ∈ e_gd := e_memt t1525 rfl
theorem cX5_125 : Cond.methodLink "LandHouse$Plane" 125 (⟨"LandHouse$Plane", "layEdges", "(LLandHouse$Figure;LLandHouse$Figure;)V"⟩ : MethodName) ∈ e_gd := e_memt t1529 rfl
theorem cX5_135 : Cond.methodLink "LandHouse$Plane" 135 (⟨"LandHouse$Plane", "nearestOn", "(LLandHouse$Figure;IIII)I"⟩ : MethodName) ∈ e_gd := e_memt t1533 rfl
theorem cX5_139 : Cond.methodLink "LandHouse$Plane" 139 (⟨"LandHouse$Plane", "layEdge", "(IIII)V"⟩ : MethodName) ∈ e_gd := e_memt t1536 rfl
theorem cX5_129 : Cond.methodLink "LandHouse$Plane" 129 (⟨"LandHouse$Plane", "dropShared", "(I)I"⟩ : MethodName) ∈ e_gd := e_memt t1540 rfl
theorem cX5_132 : Cond.methodLink "LandHouse$Plane" 132 (⟨"LandHouse$Plane", "onlyEdgeFrom", "(II)I"⟩ : MethodName) ∈ e_gd := e_memt t1544 rfl
theorem cX0_370 : Cond.methodLink "LandHouse$Acts" 370 (⟨"LandHouse$Acts", "mergeRows", "(III)V"⟩ : MethodName) ∈ e_gd := e_memt t1548 rfl
theorem cX0_373 : Cond.methodLink "LandHouse$Acts" 373 (⟨"LandHouse$Row", "merge", "(III)V"⟩ : MethodName) ∈ e_gd := e_memt t1552 rfl
theorem cX0_376 : Cond.methodLink "LandHouse$Acts" 376 (⟨"LandHouse$Row", "remove", "(I)V"⟩ : MethodName) ∈ e_gd := e_memt t1556 rfl
theorem cX0_84 : Cond.methodLink "LandHouse$Acts" 84 (⟨"LandHouse$Acts", "moveBorder", "()I"⟩ : MethodName) ∈ e_gd := e_memt t1557 rfl
theorem cX0_87 : Cond.methodLink "LandHouse$Acts" 87 (⟨"LandHouse$Acts", "charge", "()I"⟩ : MethodName) ∈ e_gd := e_memt t1561 rfl
theorem cX0_90 : Cond.methodLink "LandHouse$Acts" 90 (⟨"LandHouse$Acts", "pay", "()I"⟩ : MethodName) ∈ e_gd := e_memt t1565 rfl
theorem cX0_379 : Cond.methodLink "LandHouse$Acts" 379 (⟨"LandHouse$Acts", "endCharge", "(I)V"⟩ : MethodName) ∈ e_gd := e_memt t1569 rfl
theorem cX0_382 : Cond.methodLink "LandHouse$Acts" 382 (⟨"LandHouse$Row", "get", "(I)I"⟩ : MethodName) ∈ e_gd := e_memt t1573 rfl
theorem cX0_385 : Cond.methodLink "LandHouse$Acts" 385 (⟨"LandHouse$Row", "clear", "()V"⟩ : MethodName) ∈ e_gd := e_memt t1577 rfl
theorem cX0_93 : Cond.methodLink "LandHouse$Acts" 93 (⟨"LandHouse$Acts", "assign", "()I"⟩ : MethodName) ∈ e_gd := e_memt t1578 rfl
theorem cX0_96 : Cond.methodLink "LandHouse$Acts" 96 (⟨"LandHouse$Acts", "rank", "()I"⟩ : MethodName) ∈ e_gd := e_memt t1582 rfl
theorem cX0_392 : Cond.methodLink "LandHouse$Acts" 392 (⟨"LandHouse$Row", "find", "(I)I"⟩ : MethodName) ∈ e_gd := e_memt t1586 rfl
theorem cX0_394 : Cond.methodLink "LandHouse$Acts" 394 (⟨"LandHouse$Row", "insert", "(II)V"⟩ : MethodName) ∈ e_gd := e_memt t1587 rfl
theorem cX0_99 : Cond.methodLink "LandHouse$Acts" 99 (⟨"LandHouse$Acts", "free", "()I"⟩ : MethodName) ∈ e_gd := e_memt t1588 rfl
theorem cX0_397 : Cond.methodLink "LandHouse$Acts" 397 (⟨"LandHouse$Acts", "freeLot", "(II)V"⟩ : MethodName) ∈ e_gd := e_memt t1592 rfl
theorem cX0_388 : Cond.methodLink "LandHouse$Acts" 388 (⟨"LandHouse$Acts", "leaveLot", "(LLandHouse$Thing;I)V"⟩ : MethodName) ∈ e_gd := e_memt t1596 rfl
theorem cX0_102 : Cond.methodLink "LandHouse$Acts" 102 (⟨"LandHouse$Acts", "auction", "()I"⟩ : MethodName) ∈ e_gd := e_memt t1600 rfl
theorem cX0_400 : Cond.methodLink "LandHouse$Acts" 400 (⟨"LandHouse$Lot", "own", "(I)V"⟩ : MethodName) ∈ e_gd := e_memt t1604 rfl
theorem cX0_403 : Cond.methodLink "LandHouse$Acts" 403 (⟨"java/lang/Math", "min", "(II)I"⟩ : MethodName) ∈ e_gd := e_memt t1605 rfl
theorem cX0_410 : Cond.methodLink "LandHouse$Acts" 410 (⟨"LandHouse$Acts", "clearLot", "(II)V"⟩ : MethodName) ∈ e_gd := e_memt t1606 rfl
theorem cX0_105 : Cond.methodLink "LandHouse$Acts" 105 (⟨"LandHouse$Acts", "serve", "()I"⟩ : MethodName) ∈ e_gd := e_memt t1610 rfl
theorem cX0_422 : Cond.methodLink "LandHouse$Acts" 422 (⟨"LandHouse$Figure", "where", "(JJI)I"⟩ : MethodName) ∈ e_gd := e_memt t1614 rfl
theorem cX0_108 : Cond.methodLink "LandHouse$Acts" 108 (⟨"LandHouse$Acts", "waive", "()I"⟩ : MethodName) ∈ e_gd := e_memt t1615 rfl
theorem cX0_111 : Cond.methodLink "LandHouse$Acts" 111 (⟨"LandHouse$Acts", "lease", "()I"⟩ : MethodName) ∈ e_gd := e_memt t1619 rfl
theorem cX0_427 : Cond.methodLink "LandHouse$Acts" 427 (⟨"LandHouse$Acts", "makeTerm", "(II)LLandHouse$Thing;"⟩ : MethodName) ∈ e_gd := e_memt t1623 rfl
theorem cX0_114 : Cond.methodLink "LandHouse$Acts" 114 (⟨"LandHouse$Acts", "caution", "()I"⟩ : MethodName) ∈ e_gd := e_memt t1627 rfl
theorem cX0_117 : Cond.methodLink "LandHouse$Acts" 117 (⟨"LandHouse$Acts", "option", "()I"⟩ : MethodName) ∈ e_gd := e_memt t1631 rfl
theorem cX0_120 : Cond.methodLink "LandHouse$Acts" 120 (⟨"LandHouse$Acts", "takeSale", "()I"⟩ : MethodName) ∈ e_gd := e_memt t1635 rfl
theorem cX0_433 : Cond.methodLink "LandHouse$Acts" 433 (⟨"LandHouse$Acts", "latestSale", "(LLandHouse$Thing;)I"⟩ : MethodName) ∈ e_gd := e_memt t1639 rfl
theorem cX0_123 : Cond.methodLink "LandHouse$Acts" 123 (⟨"LandHouse$Acts", "endTerm", "()I"⟩ : MethodName) ∈ e_gd := e_memt t1643 rfl
theorem cX11_154 : Cond.methodLink "LandHouse" 154 (⟨"LandHouse$World", "settle", "(II)V"⟩ : MethodName) ∈ e_gd := e_memt t1647 rfl
theorem cX11_126 : Cond.methodLink "LandHouse" 126 (⟨"LandHouse$World", "forget", "()V"⟩ : MethodName) ∈ e_gd := e_memt t1651 rfl
theorem cL_60 : Cond.methodLink "LandHouseLaw" 60 (⟨"LandHouse", "view", "(II)I"⟩ : MethodName) ∈ e_gd := e_memt t1655 rfl
theorem cL_65 : Cond.methodLink "LandHouseLaw" 65 (⟨"LandHouse", "came", "(I)I"⟩ : MethodName) ∈ e_gd := e_memt t1659 rfl
theorem cL_69 : Cond.methodLink "LandHouseLaw" 69 (⟨"LandHouse", "ask", "()I"⟩ : MethodName) ∈ e_gd := e_memt t1663 rfl
theorem cX11_163 : Cond.methodLink "LandHouse" 163 (⟨"LandHouse$Question", "read", "()Z"⟩ : MethodName) ∈ e_gd := e_memt t1667 rfl
theorem cX6_54 : Cond.methodLink "LandHouse$Question" 54 (⟨"LandHouse$Reader", "take", "()V"⟩ : MethodName) ∈ e_gd := e_memt t1671 rfl
theorem cX6_57 : Cond.methodLink "LandHouse$Question" 57 (⟨"LandHouse$Reader", "takeDate", "()I"⟩ : MethodName) ∈ e_gd := e_memt t1672 rfl
theorem cX6_61 : Cond.methodLink "LandHouse$Question" 61 (⟨"LandHouse$Question", "readAsk", "()V"⟩ : MethodName) ∈ e_gd := e_memt t1673 rfl
theorem cX6_77 : Cond.methodLink "LandHouse$Question" 77 (⟨"LandHouse$Reader", "note", "(I)V"⟩ : MethodName) ∈ e_gd := e_memt t1677 rfl
theorem cX6_81 : Cond.methodLink "LandHouse$Question" 81 (⟨"LandHouse$Question", "readValue", "()V"⟩ : MethodName) ∈ e_gd := e_memt t1678 rfl
theorem cX6_113 : Cond.methodLink "LandHouse$Question" 113 (⟨"LandHouse$Question", "readFactor", "()V"⟩ : MethodName) ∈ e_gd := e_memt t1682 rfl
theorem cX6_98 : Cond.methodLink "LandHouse$Question" 98 (⟨"LandHouse$Question", "opens", "()Z"⟩ : MethodName) ∈ e_gd := e_memt t1686 rfl
theorem cX6_84 : Cond.methodLink "LandHouse$Question" 84 (⟨"LandHouse$Reader", "expect", "(I)V"⟩ : MethodName) ∈ e_gd := e_memt t1690 rfl
theorem cX6_116 : Cond.methodLink "LandHouse$Question" 116 (⟨"LandHouse$Reader", "told", "()J"⟩ : MethodName) ∈ e_gd := e_memt t1691 rfl
theorem cX6_94 : Cond.methodLink "LandHouse$Question" 94 (⟨"LandHouse$Question", "step", "(IJ)V"⟩ : MethodName) ∈ e_gd := e_memt t1695 rfl
theorem cX6_87 : Cond.methodLink "LandHouse$Question" 87 (⟨"LandHouse$Reader", "takeName", "()J"⟩ : MethodName) ∈ e_gd := e_memt t1699 rfl
theorem cX6_64 : Cond.methodLink "LandHouse$Question" 64 (⟨"LandHouse$Question", "readSet", "()Z"⟩ : MethodName) ∈ e_gd := e_memt t1703 rfl
theorem cX6_68 : Cond.methodLink "LandHouse$Question" 68 (⟨"LandHouse$Question", "readCond", "()V"⟩ : MethodName) ∈ e_gd := e_memt t1707 rfl
theorem cX6_91 : Cond.methodLink "LandHouse$Question" 91 (⟨"LandHouse$Question", "readOne", "()V"⟩ : MethodName) ∈ e_gd := e_memt t1711 rfl
theorem cX6_101 : Cond.methodLink "LandHouse$Question" 101 (⟨"LandHouse$Question", "readPoint", "()V"⟩ : MethodName) ∈ e_gd := e_memt t1715 rfl
theorem cX6_108 : Cond.methodLink "LandHouse$Question" 108 (⟨"LandHouse$Reader", "takeNumber", "()I"⟩ : MethodName) ∈ e_gd := e_memt t1719 rfl
theorem hX6_111 : Cond.constantLong "LandHouse$Question" 111 (1000000 : Int64) ∈ e_gd := e_memt t1720 rfl
theorem cX6_104 : Cond.methodLink "LandHouse$Question" 104 (⟨"LandHouse$Question", "isComparison", "(I)Z"⟩ : MethodName) ∈ e_gd := e_memt t1721 rfl
theorem cX6_71 : Cond.methodLink "LandHouse$Question" 71 (⟨"LandHouse$Reader", "finish", "()V"⟩ : MethodName) ∈ e_gd := e_memt t1724 rfl
theorem cX11_177 : Cond.methodLink "LandHouse" 177 (⟨"LandHouse$Asker", "reply", "(LLandHouse$World;LLandHouse$Question;)V"⟩ : MethodName) ∈ e_gd := e_memt t1725 rfl
theorem cX1_47 : Cond.methodLink "LandHouse$Asker" 47 (⟨"LandHouse$World", "find", "(J)I"⟩ : MethodName) ∈ e_gd := e_memt t1729 rfl
theorem cX1_53 : Cond.methodLink "LandHouse$Asker" 53 (⟨"LandHouse$Asker", "show", "(I)V"⟩ : MethodName) ∈ e_gd := e_memt t1730 rfl
theorem hX1_267 : Cond.constantLong "LandHouse$Asker" 267 (-1 : Int64) ∈ e_gd := e_memt t1734 rfl
theorem cX1_173 : Cond.methodLink "LandHouse$Asker" 173 (⟨"LandHouse$World", "at", "(II)LLandHouse$Thing;"⟩ : MethodName) ∈ e_gd := e_memt t1735 rfl
theorem cX1_269 : Cond.methodLink "LandHouse$Asker" 269 (⟨"LandHouse$Asker", "firstWord", "(ILLandHouse$Thing;)Ljava/lang/String;"⟩ : MethodName) ∈ e_gd := e_memt t1736 rfl
theorem cX1_273 : Cond.methodLink "LandHouse$Asker" 273 (⟨"LandHouse$Asker", "putText", "(Ljava/lang/String;)V"⟩ : MethodName) ∈ e_gd := e_memt t1747 rfl
theorem cX1_388 : Cond.methodLink "LandHouse$Asker" 388 (⟨"java/lang/String", "length", "()I"⟩ : MethodName) ∈ e_gd := e_memt t1751 rfl
theorem cX1_393 : Cond.methodLink "LandHouse$Asker" 393 (⟨"java/lang/String", "charAt", "(I)C"⟩ : MethodName) ∈ e_gd := e_memt t1752 rfl
theorem cX1_98 : Cond.methodLink "LandHouse$Asker" 98 (⟨"LandHouse$Asker", "put", "(I)V"⟩ : MethodName) ∈ e_gd := e_memt t1753 rfl
theorem cX1_120 : Cond.methodLink "LandHouse$Asker" 120 (⟨"LandHouse$World", "nameOf", "(II)J"⟩ : MethodName) ∈ e_gd := e_memt t1757 rfl
theorem cX1_277 : Cond.methodLink "LandHouse$Asker" 277 (⟨"LandHouse$Asker", "thenWord", "(J)V"⟩ : MethodName) ∈ e_gd := e_memt t1761 rfl
theorem cX1_124 : Cond.methodLink "LandHouse$Asker" 124 (⟨"LandHouse$Asker", "putWord", "(J)V"⟩ : MethodName) ∈ e_gd := e_memt t1765 rfl
theorem cX1_106 : Cond.methodLink "LandHouse$Asker" 106 (⟨"LandHouse$World", "isThere", "(II)Z"⟩ : MethodName) ∈ e_gd := e_memt t1769 rfl
theorem cX1_282 : Cond.methodLink "LandHouse$Asker" 282 (⟨"LandHouse$Asker", "endLine", "()V"⟩ : MethodName) ∈ e_gd := e_memt t1771 rfl
theorem cX1_285 : Cond.methodLink "LandHouse$Asker" 285 (⟨"LandHouse$Asker", "showLot", "(I)V"⟩ : MethodName) ∈ e_gd := e_memt t1775 rfl
theorem cX1_139 : Cond.methodLink "LandHouse$Asker" 139 (⟨"LandHouse$World", "lot", "(I)LLandHouse$Lot;"⟩ : MethodName) ∈ e_gd := e_memt t1779 rfl
theorem cX1_214 : Cond.methodLink "LandHouse$Asker" 214 (⟨"LandHouse$Figure", "area", "()I"⟩ : MethodName) ∈ e_gd := e_memt t1780 rfl
theorem cX1_317 : Cond.methodLink "LandHouse$Asker" 317 (⟨"LandHouse$Asker", "thenNumber", "(J)V"⟩ : MethodName) ∈ e_gd := e_memt t1784 rfl
theorem cX1_94 : Cond.methodLink "LandHouse$Asker" 94 (⟨"LandHouse$Asker", "putNumber", "(J)V"⟩ : MethodName) ∈ e_gd := e_memt t1788 rfl
theorem hX1_397 : Cond.constantLong "LandHouse$Asker" 397 (10 : Int64) ∈ e_gd := e_memt t1792 rfl
theorem cX1_331 : Cond.methodLink "LandHouse$Asker" 331 (⟨"LandHouse$Asker", "thenShare", "(LLandHouse$Lot;I)V"⟩ : MethodName) ∈ e_gd := e_memt t1795 rfl
theorem cX1_229 : Cond.methodLink "LandHouse$Asker" 229 (⟨"LandHouse$Row", "get", "(I)I"⟩ : MethodName) ∈ e_gd := e_memt t1799 rfl
theorem cX1_335 : Cond.methodLink "LandHouse$Asker" 335 (⟨"LandHouse$Asker", "putCharge", "(LLandHouse$Thing;)V"⟩ : MethodName) ∈ e_gd := e_memt t1800 rfl
theorem cX1_338 : Cond.methodLink "LandHouse$Asker" 338 (⟨"LandHouse$Asker", "putServes", "(IZ)V"⟩ : MethodName) ∈ e_gd := e_memt t1804 rfl
theorem cX1_265 : Cond.methodLink "LandHouse$Asker" 265 (⟨"LandHouse$Thing", "isThere", "(I)Z"⟩ : MethodName) ∈ e_gd := e_memt t1808 rfl
theorem cX1_186 : Cond.methodLink "LandHouse$Asker" 186 (⟨"LandHouse$Row", "has", "(I)Z"⟩ : MethodName) ∈ e_gd := e_memt t1809 rfl
theorem cX1_347 : Cond.methodLink "LandHouse$Asker" 347 (⟨"LandHouse$Asker", "thenKind", "(I)V"⟩ : MethodName) ∈ e_gd := e_memt t1810 rfl
theorem cX1_342 : Cond.methodLink "LandHouse$Asker" 342 (⟨"LandHouse$Asker", "putTerms", "(II)V"⟩ : MethodName) ∈ e_gd := e_memt t1819 rfl
theorem cX1_354 : Cond.methodLink "LandHouse$Asker" 354 (⟨"LandHouse$Asker", "thenDate", "(I)V"⟩ : MethodName) ∈ e_gd := e_memt t1823 rfl
theorem cX1_381 : Cond.methodLinkNest "LandHouse$Asker" 381 (⟨"LandHouse", "dateOf", "(I)I"⟩ : MethodName) "LandHouse" ∈ e_nest := e_memtN t1827 rfl
theorem hX1_384 : Cond.constant "LandHouse$Asker" 384 (1000000 : Int32) ∈ e_gd := e_memt t1828 rfl
theorem cX1_385 : Cond.methodLink "LandHouse$Asker" 385 (⟨"LandHouse$Asker", "putTwo", "(I)V"⟩ : MethodName) ∈ e_gd := e_memt t1829 rfl
theorem cX1_288 : Cond.methodLink "LandHouse$Asker" 288 (⟨"LandHouse$Asker", "showPerson", "(I)V"⟩ : MethodName) ∈ e_gd := e_memt t1833 rfl
theorem cX1_167 : Cond.methodLink "LandHouse$Asker" 167 (⟨"LandHouse$Lot", "placeOf", "(I)I"⟩ : MethodName) ∈ e_gd := e_memt t1837 rfl
theorem cX1_291 : Cond.methodLink "LandHouse$Asker" 291 (⟨"LandHouse$Asker", "showCharge", "(I)V"⟩ : MethodName) ∈ e_gd := e_memt t1838 rfl
theorem cX1_360 : Cond.methodLink "LandHouse$Asker" 360 (⟨"LandHouse$Row", "find", "(I)I"⟩ : MethodName) ∈ e_gd := e_memt t1843 rfl
theorem cX1_294 : Cond.methodLink "LandHouse$Asker" 294 (⟨"LandHouse$Asker", "showServe", "(LLandHouse$Thing;)V"⟩ : MethodName) ∈ e_gd := e_memt t1844 rfl
theorem cX1_364 : Cond.methodLink "LandHouse$Asker" 364 (⟨"LandHouse$Asker", "putLots", "(Ljava/lang/String;LLandHouse$Row;)V"⟩ : MethodName) ∈ e_gd := e_memt t1849 rfl
theorem cX1_298 : Cond.methodLink "LandHouse$Asker" 298 (⟨"LandHouse$Asker", "showTerm", "(ILLandHouse$Thing;)V"⟩ : MethodName) ∈ e_gd := e_memt t1854 rfl
theorem cX1_57 : Cond.methodLink "LandHouse$Asker" 57 (⟨"LandHouse$Asker", "trace", "()V"⟩ : MethodName) ∈ e_gd := e_memt t1858 rfl
theorem cX1_88 : Cond.methodLink "LandHouse$Asker" 88 (⟨"LandHouse$Deed", "tells", "(J)Z"⟩ : MethodName) ∈ e_gd := e_memt t1862 rfl
theorem cX1_72 : Cond.methodLink "LandHouse$Asker" 72 (⟨"LandHouse$Asker", "survey", "(I)V"⟩ : MethodName) ∈ e_gd := e_memt t1866 rfl
theorem cX1_110 : Cond.methodLink "LandHouse$Asker" 110 (⟨"LandHouse$Asker", "reckon", "(IIII)J"⟩ : MethodName) ∈ e_gd := e_memt t1870 rfl
theorem cX1_127 : Cond.methodLink "LandHouse$Asker" 127 (⟨"LandHouse$Asker", "isSign", "(I)Z"⟩ : MethodName) ∈ e_gd := e_memt t1874 rfl
theorem cX1_131 : Cond.methodLink "LandHouse$Asker" 131 (⟨"LandHouse$Asker", "combine", "(IJJ)J"⟩ : MethodName) ∈ e_gd := e_memt t1877 rfl
theorem cX1_135 : Cond.methodLink "LandHouse$Asker" 135 (⟨"LandHouse$Asker", "look", "(III)J"⟩ : MethodName) ∈ e_gd := e_memt t1880 rfl
theorem cX1_143 : Cond.methodLink "LandHouse$Asker" 143 (⟨"LandHouse$Asker", "factOfLot", "(ILLandHouse$Lot;)J"⟩ : MethodName) ∈ e_gd := e_memt t1884 rfl
theorem cX1_147 : Cond.methodLink "LandHouse$Asker" 147 (⟨"LandHouse$Asker", "factOf", "(III)J"⟩ : MethodName) ∈ e_gd := e_memt t1888 rfl
theorem cX1_235 : Cond.methodLink "LandHouse$Asker" 235 (⟨"LandHouse$Asker", "debtsTo", "(I)J"⟩ : MethodName) ∈ e_gd := e_memt t1892 rfl
theorem cX1_248 : Cond.methodLinkNest "LandHouse$Asker" 248 (⟨"LandHouse", "yearsBetween", "(II)I"⟩ : MethodName) "LandHouse" ∈ e_nest := e_memtN t1896 rfl
theorem cX1_262 : Cond.methodLink "LandHouse$Asker" 262 (⟨"LandHouse$Asker", "lotsOf", "(I)I"⟩ : MethodName) ∈ e_gd := e_memt t1899 rfl
theorem cX1_150 : Cond.methodLink "LandHouse$Asker" 150 (⟨"LandHouse$Asker", "isOwner", "(III)Z"⟩ : MethodName) ∈ e_gd := e_memt t1903 rfl
theorem cX1_154 : Cond.methodLink "LandHouse$Asker" 154 (⟨"LandHouse$Asker", "isOnLot", "(III)Z"⟩ : MethodName) ∈ e_gd := e_memt t1907 rfl
theorem cX1_157 : Cond.methodLink "LandHouse$Asker" 157 (⟨"LandHouse$Asker", "isNearLot", "(III)Z"⟩ : MethodName) ∈ e_gd := e_memt t1911 rfl
theorem cX1_202 : Cond.methodLink "LandHouse$Asker" 202 (⟨"LandHouse$Figure", "isNear", "(LLandHouse$Figure;)Z"⟩ : MethodName) ∈ e_gd := e_memt t1915 rfl
theorem cX3_57 : Cond.methodLinkNest "LandHouse$Figure" 57 (⟨"LandHouse", "turn", "(IIIIII)J"⟩ : MethodName) "LandHouse" ∈ e_nest := e_memtN t1919 rfl
theorem cX3_61 : Cond.methodLink "LandHouse$Figure" 61 (⟨"LandHouse$Figure", "overlap", "(IIII)Z"⟩ : MethodName) ∈ e_gd := e_memt t1920 rfl
theorem cX3_65 : Cond.methodLink "LandHouse$Figure" 65 (⟨"java/lang/Math", "min", "(II)I"⟩ : MethodName) ∈ e_gd := e_memt t1923 rfl
theorem cX3_68 : Cond.methodLink "LandHouse$Figure" 68 (⟨"java/lang/Math", "max", "(II)I"⟩ : MethodName) ∈ e_gd := e_memt t1924 rfl
theorem cX1_160 : Cond.methodLink "LandHouse$Asker" 160 (⟨"LandHouse$Asker", "hasPoint", "(LLandHouse$Lot;J)Z"⟩ : MethodName) ∈ e_gd := e_memt t1925 rfl
theorem hX1_208 : Cond.constantLong "LandHouse$Asker" 208 (1000000 : Int64) ∈ e_gd := e_memt t1928 rfl
theorem cX1_210 : Cond.methodLink "LandHouse$Asker" 210 (⟨"LandHouse$Figure", "where", "(JJI)I"⟩ : MethodName) ∈ e_gd := e_memt t1929 rfl
theorem cX1_164 : Cond.methodLink "LandHouse$Asker" 164 (⟨"LandHouse$World", "isOfAge", "(I)Z"⟩ : MethodName) ∈ e_gd := e_memt t1930 rfl
theorem cX1_114 : Cond.methodLink "LandHouse$Asker" 114 (⟨"java/lang/Math", "max", "(JJ)J"⟩ : MethodName) ∈ e_gd := e_memt t1931 rfl
theorem cL_73 : Cond.methodLink "LandHouseLaw" 73 (⟨"LandHouse", "answer", "()J"⟩ : MethodName) ∈ e_gd := e_memt t1932 rfl
theorem cL_87 : Cond.methodLink "LandHouseLaw" 87 (⟨"LandHouse", "count", "(I)I"⟩ : MethodName) ∈ e_gd := e_memt t1936 rfl
theorem cX11_200 : Cond.methodLink "LandHouse" 200 (⟨"LandHouse$World", "howMany", "(I)I"⟩ : MethodName) ∈ e_gd := e_memt t1940 rfl
theorem cX10_158 : Cond.methodLink "LandHouse$World" 158 (⟨"LandHouse$World", "isThere", "(II)Z"⟩ : MethodName) ∈ e_gd := e_memt t1944 rfl
theorem cL_105 : Cond.methodLink "LandHouseLaw" 105 (⟨"LandHouse", "lots", "(III)I"⟩ : MethodName) ∈ e_gd := e_memt t1945 rfl
theorem cX11_248 : Cond.methodLink "LandHouse" 248 (⟨"LandHouse$World", "lotsAt", "(III)I"⟩ : MethodName) ∈ e_gd := e_memt t1949 rfl
theorem cX10_170 : Cond.methodLink "LandHouse$World" 170 (⟨"LandHouse$Figure", "where", "(JJI)I"⟩ : MethodName) ∈ e_gd := e_memt t1953 rfl
theorem cL_109 : Cond.methodLink "LandHouseLaw" 109 (⟨"LandHouse", "sum", "()J"⟩ : MethodName) ∈ e_gd := e_memt t1954 rfl
theorem cX11_251 : Cond.methodLink "LandHouse" 251 (⟨"LandHouse$World", "isThere", "(II)Z"⟩ : MethodName) ∈ e_gd := e_memt t1958 rfl
theorem cX11_255 : Cond.methodLink "LandHouse" 255 (⟨"LandHouse$World", "mixIn", "(JII)J"⟩ : MethodName) ∈ e_gd := e_memt t1959 rfl
theorem cX10_238 : Cond.methodLink "LandHouse$World" 238 (⟨"LandHouse$World", "nameOf", "(II)J"⟩ : MethodName) ∈ e_gd := e_memt t1963 rfl
theorem cX10_242 : Cond.methodLink "LandHouse$World" 242 (⟨"LandHouse$World", "mix", "(JJ)J"⟩ : MethodName) ∈ e_gd := e_memt t1964 rfl
theorem hX10_236 : Cond.constantLong "LandHouse$World" 236 (1000003 : Int64) ∈ e_gd := e_memt t1967 rfl
theorem gX10_174 : Cond.fieldLinkNest "LandHouse$World" 174 "LandHouse" "FACTS" "[I" "LandHouse" ∈ e_nest := e_memtN t1968 rfl
theorem cX10_246 : Cond.methodLink "LandHouse$World" 246 (⟨"LandHouse$World", "fact", "(III)I"⟩ : MethodName) ∈ e_gd := e_memt t1970 rfl
theorem cX10_177 : Cond.methodLink "LandHouse$World" 177 (⟨"LandHouse$World", "lotFact", "(LLandHouse$Lot;I)I"⟩ : MethodName) ∈ e_gd := e_memt t1974 rfl
theorem cX10_201 : Cond.methodLink "LandHouse$World" 201 (⟨"LandHouse$Figure", "area", "()I"⟩ : MethodName) ∈ e_gd := e_memt t1977 rfl
theorem cX10_181 : Cond.methodLink "LandHouse$World" 181 (⟨"LandHouse$World", "personFact", "(II)I"⟩ : MethodName) ∈ e_gd := e_memt t1978 rfl
theorem cX10_218 : Cond.methodLink "LandHouse$World" 218 (⟨"LandHouse$World", "isAble", "(I)Z"⟩ : MethodName) ∈ e_gd := e_memt t1982 rfl
theorem cX10_191 : Cond.methodLink "LandHouse$World" 191 (⟨"LandHouse$World", "serveFact", "(LLandHouse$Thing;I)I"⟩ : MethodName) ∈ e_gd := e_memt t1983 rfl
theorem cX10_195 : Cond.methodLink "LandHouse$World" 195 (⟨"LandHouse$World", "leaseFact", "(LLandHouse$Thing;I)I"⟩ : MethodName) ∈ e_gd := e_memt t1986 rfl
theorem cX10_250 : Cond.methodLink "LandHouse$World" 250 (⟨"LandHouse$World", "mixLot", "(JLLandHouse$Lot;)J"⟩ : MethodName) ∈ e_gd := e_memt t1989 rfl
theorem cX10_264 : Cond.methodLink "LandHouse$World" 264 (⟨"LandHouse$World", "ownerFact", "(LLandHouse$Lot;II)I"⟩ : MethodName) ∈ e_gd := e_memt t1993 rfl
theorem cX10_254 : Cond.methodLink "LandHouse$World" 254 (⟨"LandHouse$Row", "get", "(I)I"⟩ : MethodName) ∈ e_gd := e_memt t1997 rfl
theorem cL_78 : Cond.methodLink "LandHouseLaw" 78 (⟨"LandHouseLaw", "octet", "(LLandHouse;I[J)I"⟩ : MethodName) ∈ e_gd := e_memt t1998 rfl
theorem cL_7 : Cond.methodLink "LandHouseLaw" 7 (⟨"LandHouse", "octet", "(I)I"⟩ : MethodName) ∈ e_gd := e_memt t2002 rfl
theorem cX11_191 : Cond.methodLink "LandHouse" 191 (⟨"java/util/NoSuchElementException", "<init>", "(Ljava/lang/String;)V"⟩ : MethodName) ∈ e_gd := e_memt t2046 rfl
theorem cL_91 : Cond.methodLink "LandHouseLaw" 91 (⟨"LandHouseLaw", "name", "(LLandHouse;II[J)I"⟩ : MethodName) ∈ e_gd := e_memt t2071 rfl
theorem cL_15 : Cond.methodLink "LandHouseLaw" 15 (⟨"LandHouse", "name", "(II)J"⟩ : MethodName) ∈ e_gd := e_memt t2074 rfl
theorem cX11_204 : Cond.methodLink "LandHouse" 204 (⟨"LandHouse$World", "numberOf", "(II)I"⟩ : MethodName) ∈ e_gd := e_memt t2078 rfl
theorem cX11_209 : Cond.methodLink "LandHouse" 209 (⟨"LandHouse$World", "nameOf", "(II)J"⟩ : MethodName) ∈ e_gd := e_memt t2083 rfl
theorem cL_95 : Cond.methodLink "LandHouseLaw" 95 (⟨"LandHouseLaw", "thing", "(LLandHouse;III[J)I"⟩ : MethodName) ∈ e_gd := e_memt t2084 rfl
theorem cL_19 : Cond.methodLink "LandHouseLaw" 19 (⟨"LandHouse", "thing", "(III)I"⟩ : MethodName) ∈ e_gd := e_memt t2087 rfl
theorem cX11_213 : Cond.methodLink "LandHouse" 213 (⟨"LandHouse$World", "fact", "(III)I"⟩ : MethodName) ∈ e_gd := e_memt t2091 rfl
theorem cL_99 : Cond.methodLink "LandHouseLaw" 99 (⟨"LandHouseLaw", "corner", "(LLandHouse;III[J)I"⟩ : MethodName) ∈ e_gd := e_memt t2092 rfl
theorem cL_23 : Cond.methodLink "LandHouseLaw" 23 (⟨"LandHouse", "corner", "(III)I"⟩ : MethodName) ∈ e_gd := e_memt t2095 rfl
theorem cX11_217 : Cond.methodLink "LandHouse" 217 (⟨"LandHouse$World", "lot", "(I)LLandHouse$Lot;"⟩ : MethodName) ∈ e_gd := e_memt t2099 rfl
theorem cL_102 : Cond.methodLink "LandHouseLaw" 102 (⟨"LandHouseLaw", "owner", "(LLandHouse;III[J)I"⟩ : MethodName) ∈ e_gd := e_memt t2101 rfl
theorem cL_26 : Cond.methodLink "LandHouseLaw" 26 (⟨"LandHouse", "owner", "(III)I"⟩ : MethodName) ∈ e_gd := e_memt t2104 rfl
theorem cX11_244 : Cond.methodLink "LandHouse" 244 (⟨"LandHouse$World", "ownerFact", "(LLandHouse$Lot;II)I"⟩ : MethodName) ∈ e_gd := e_memt t2109 rfl
theorem kL_30 : Cond.classLink "LandHouseLaw" 30 "LandHouseModel" ∈ e_gd := e_memt t2110 rfl
theorem nL_30 : e_NL "LandHouseLaw" 30 12 := ⟨(e_R12, e_T12, 123), rfl, kL_30, e_memt t2111 rfl, e_memt t300 rfl, lay12⟩
theorem cL_32 : Cond.methodLink "LandHouseLaw" 32 (⟨"LandHouseModel", "<init>", "()V"⟩ : MethodName) ∈ e_gd := e_memt t2112 rfl
theorem cX12_1 : Cond.methodLink "LandHouseModel" 1 (⟨"java/lang/Object", "<init>", "()V"⟩ : MethodName) ∈ e_gd := e_memt t2115 rfl
theorem cX12_251 : Cond.methodLink "LandHouseModel" 251 (⟨"LandHouseModel", "leaps", "(I)Z"⟩ : MethodName) ∈ e_gd := e_memt t2116 rfl
theorem cX12_257 : Cond.methodLink "LandHouseModel" 257 (⟨"java/lang/String", "length", "()I"⟩ : MethodName) ∈ e_gd := e_memt t2120 rfl
theorem cX12_263 : Cond.methodLink "LandHouseModel" 263 (⟨"java/lang/String", "charAt", "(I)C"⟩ : MethodName) ∈ e_gd := e_memt t2121 rfl
theorem cX12_267 : Cond.methodLink "LandHouseModel" 267 (⟨"LandHouseModel", "empty", "()V"⟩ : MethodName) ∈ e_gd := e_memt t2122 rfl
theorem hX12_532 : Cond.constantLong "LandHouseModel" 532 (7809644604612935680 : Int64) ∈ e_gd := e_memt t2126 rfl
theorem cX12_534 : Cond.methodLink "LandHouseModel" 534 (⟨"LandHouseModel", "make", "(IJ)I"⟩ : MethodName) ∈ e_gd := e_memt t2127 rfl
theorem cX12_540 : Cond.methodLink "LandHouseModel" 540 (⟨"LandHouseModel", "id", "(II)I"⟩ : MethodName) ∈ e_gd := e_memt t2131 rfl
theorem hX12_548 : Cond.constant "LandHouseModel" 548 (2147483647 : Int32) ∈ e_gd := e_memt t2134 rfl
theorem hX12_538 : Cond.constantLong "LandHouseModel" 538 (7165912515837165568 : Int64) ∈ e_gd := e_memt t2135 rfl
theorem fX12_7 : e_FL "LandHouseModel" 7 12 0 := ⟨(e_R12, e_T12, 123), rfl, by decide, e_memt t2136 rfl, lay12⟩
theorem fX12_13 : e_FL "LandHouseModel" 13 12 1 := ⟨(e_R12, e_T12, 123), rfl, by decide, e_memt t2137 rfl, lay12⟩
theorem fX12_16 : e_FL "LandHouseModel" 16 12 2 := ⟨(e_R12, e_T12, 123), rfl, by decide, e_memt t2138 rfl, lay12⟩
theorem fX12_20 : e_FL "LandHouseModel" 20 12 3 := ⟨(e_R12, e_T12, 123), rfl, by decide, e_memt t2139 rfl, lay12⟩
theorem fX12_357 : e_FL "LandHouseModel" 357 12 4 := ⟨(e_R12, e_T12, 123), rfl, by decide, e_memt t2140 rfl, lay12⟩
theorem fX12_288 : e_FL "LandHouseModel" 288 12 5 := ⟨(e_R12, e_T12, 123), rfl, by decide, e_memt t2141 rfl, lay12⟩
theorem fX12_300 : e_FL "LandHouseModel" 300 12 6 := ⟨(e_R12, e_T12, 123), rfl, by decide, e_memt t2142 rfl, lay12⟩
theorem fX12_309 : e_FL "LandHouseModel" 309 12 7 := ⟨(e_R12, e_T12, 123), rfl, by decide, e_memt t2143 rfl, lay12⟩
theorem fX12_303 : e_FL "LandHouseModel" 303 12 8 := ⟨(e_R12, e_T12, 123), rfl, by decide, e_memt t2144 rfl, lay12⟩
theorem fX12_321 : e_FL "LandHouseModel" 321 12 9 := ⟨(e_R12, e_T12, 123), rfl, by decide, e_memt t2145 rfl, lay12⟩
theorem fX12_306 : e_FL "LandHouseModel" 306 12 10 := ⟨(e_R12, e_T12, 123), rfl, by decide, e_memt t2146 rfl, lay12⟩
theorem fX12_332 : e_FL "LandHouseModel" 332 12 11 := ⟨(e_R12, e_T12, 123), rfl, by decide, e_memt t2147 rfl, lay12⟩
theorem fX12_336 : e_FL "LandHouseModel" 336 12 12 := ⟨(e_R12, e_T12, 123), rfl, by decide, e_memt t2148 rfl, lay12⟩
theorem fX12_339 : e_FL "LandHouseModel" 339 12 13 := ⟨(e_R12, e_T12, 123), rfl, by decide, e_memt t2149 rfl, lay12⟩
theorem fX12_24 : e_FL "LandHouseModel" 24 12 14 := ⟨(e_R12, e_T12, 123), rfl, by decide, e_memt t2150 rfl, lay12⟩
theorem fX12_27 : e_FL "LandHouseModel" 27 12 15 := ⟨(e_R12, e_T12, 123), rfl, by decide, e_memt t2151 rfl, lay12⟩
theorem fX12_30 : e_FL "LandHouseModel" 30 12 16 := ⟨(e_R12, e_T12, 123), rfl, by decide, e_memt t2152 rfl, lay12⟩
theorem fX12_33 : e_FL "LandHouseModel" 33 12 17 := ⟨(e_R12, e_T12, 123), rfl, by decide, e_memt t2153 rfl, lay12⟩
theorem fX12_36 : e_FL "LandHouseModel" 36 12 18 := ⟨(e_R12, e_T12, 123), rfl, by decide, e_memt t2154 rfl, lay12⟩
theorem fX12_39 : e_FL "LandHouseModel" 39 12 19 := ⟨(e_R12, e_T12, 123), rfl, by decide, e_memt t2155 rfl, lay12⟩
theorem fX12_42 : e_FL "LandHouseModel" 42 12 20 := ⟨(e_R12, e_T12, 123), rfl, by decide, e_memt t2156 rfl, lay12⟩
theorem fX12_45 : e_FL "LandHouseModel" 45 12 21 := ⟨(e_R12, e_T12, 123), rfl, by decide, e_memt t2157 rfl, lay12⟩
theorem fX12_48 : e_FL "LandHouseModel" 48 12 22 := ⟨(e_R12, e_T12, 123), rfl, by decide, e_memt t2158 rfl, lay12⟩
theorem fX12_51 : e_FL "LandHouseModel" 51 12 23 := ⟨(e_R12, e_T12, 123), rfl, by decide, e_memt t2159 rfl, lay12⟩
theorem fX12_54 : e_FL "LandHouseModel" 54 12 24 := ⟨(e_R12, e_T12, 123), rfl, by decide, e_memt t2160 rfl, lay12⟩
theorem fX12_57 : e_FL "LandHouseModel" 57 12 25 := ⟨(e_R12, e_T12, 123), rfl, by decide, e_memt t2161 rfl, lay12⟩
theorem fX12_60 : e_FL "LandHouseModel" 60 12 26 := ⟨(e_R12, e_T12, 123), rfl, by decide, e_memt t2162 rfl, lay12⟩
theorem fX12_63 : e_FL "LandHouseModel" 63 12 27 := ⟨(e_R12, e_T12, 123), rfl, by decide, e_memt t2163 rfl, lay12⟩
theorem fX12_66 : e_FL "LandHouseModel" 66 12 28 := ⟨(e_R12, e_T12, 123), rfl, by decide, e_memt t2164 rfl, lay12⟩
theorem fX12_69 : e_FL "LandHouseModel" 69 12 29 := ⟨(e_R12, e_T12, 123), rfl, by decide, e_memt t2165 rfl, lay12⟩
theorem fX12_72 : e_FL "LandHouseModel" 72 12 30 := ⟨(e_R12, e_T12, 123), rfl, by decide, e_memt t2166 rfl, lay12⟩
theorem fX12_75 : e_FL "LandHouseModel" 75 12 31 := ⟨(e_R12, e_T12, 123), rfl, by decide, e_memt t2167 rfl, lay12⟩
theorem fX12_78 : e_FL "LandHouseModel" 78 12 32 := ⟨(e_R12, e_T12, 123), rfl, by decide, e_memt t2168 rfl, lay12⟩
theorem fX12_755 : e_FL "LandHouseModel" 755 12 33 := ⟨(e_R12, e_T12, 123), rfl, by decide, e_memt t2169 rfl, lay12⟩
theorem fX12_779 : e_FL "LandHouseModel" 779 12 34 := ⟨(e_R12, e_T12, 123), rfl, by decide, e_memt t2170 rfl, lay12⟩
theorem fX12_363 : e_FL "LandHouseModel" 363 12 35 := ⟨(e_R12, e_T12, 123), rfl, by decide, e_memt t2171 rfl, lay12⟩
theorem fX12_366 : e_FL "LandHouseModel" 366 12 36 := ⟨(e_R12, e_T12, 123), rfl, by decide, e_memt t2172 rfl, lay12⟩
theorem fX12_372 : e_FL "LandHouseModel" 372 12 37 := ⟨(e_R12, e_T12, 123), rfl, by decide, e_memt t2173 rfl, lay12⟩
theorem fX12_413 : e_FL "LandHouseModel" 413 12 38 := ⟨(e_R12, e_T12, 123), rfl, by decide, e_memt t2174 rfl, lay12⟩
theorem fX12_416 : e_FL "LandHouseModel" 416 12 39 := ⟨(e_R12, e_T12, 123), rfl, by decide, e_memt t2175 rfl, lay12⟩
theorem fX12_82 : e_FL "LandHouseModel" 82 12 40 := ⟨(e_R12, e_T12, 123), rfl, by decide, e_memt t2176 rfl, lay12⟩
theorem fX12_85 : e_FL "LandHouseModel" 85 12 41 := ⟨(e_R12, e_T12, 123), rfl, by decide, e_memt t2177 rfl, lay12⟩
theorem fX12_468 : e_FL "LandHouseModel" 468 12 42 := ⟨(e_R12, e_T12, 123), rfl, by decide, e_memt t2178 rfl, lay12⟩
theorem fX12_471 : e_FL "LandHouseModel" 471 12 43 := ⟨(e_R12, e_T12, 123), rfl, by decide, e_memt t2179 rfl, lay12⟩
theorem fX12_439 : e_FL "LandHouseModel" 439 12 44 := ⟨(e_R12, e_T12, 123), rfl, by decide, e_memt t2180 rfl, lay12⟩
theorem fX12_442 : e_FL "LandHouseModel" 442 12 45 := ⟨(e_R12, e_T12, 123), rfl, by decide, e_memt t2181 rfl, lay12⟩
theorem fX12_517 : e_FL "LandHouseModel" 517 12 46 := ⟨(e_R12, e_T12, 123), rfl, by decide, e_memt t2182 rfl, lay12⟩
theorem fX12_497 : e_FL "LandHouseModel" 497 12 47 := ⟨(e_R12, e_T12, 123), rfl, by decide, e_memt t2183 rfl, lay12⟩
theorem fX12_500 : e_FL "LandHouseModel" 500 12 48 := ⟨(e_R12, e_T12, 123), rfl, by decide, e_memt t2184 rfl, lay12⟩
theorem fX12_88 : e_FL "LandHouseModel" 88 12 49 := ⟨(e_R12, e_T12, 123), rfl, by decide, e_memt t2185 rfl, lay12⟩
theorem fX12_91 : e_FL "LandHouseModel" 91 12 50 := ⟨(e_R12, e_T12, 123), rfl, by decide, e_memt t2186 rfl, lay12⟩
theorem fX12_94 : e_FL "LandHouseModel" 94 12 51 := ⟨(e_R12, e_T12, 123), rfl, by decide, e_memt t2187 rfl, lay12⟩
theorem fX12_97 : e_FL "LandHouseModel" 97 12 52 := ⟨(e_R12, e_T12, 123), rfl, by decide, e_memt t2188 rfl, lay12⟩
theorem fX12_100 : e_FL "LandHouseModel" 100 12 53 := ⟨(e_R12, e_T12, 123), rfl, by decide, e_memt t2189 rfl, lay12⟩
theorem fX12_103 : e_FL "LandHouseModel" 103 12 54 := ⟨(e_R12, e_T12, 123), rfl, by decide, e_memt t2190 rfl, lay12⟩
theorem fX12_106 : e_FL "LandHouseModel" 106 12 55 := ⟨(e_R12, e_T12, 123), rfl, by decide, e_memt t2191 rfl, lay12⟩
theorem fX12_109 : e_FL "LandHouseModel" 109 12 56 := ⟨(e_R12, e_T12, 123), rfl, by decide, e_memt t2192 rfl, lay12⟩
theorem fX12_112 : e_FL "LandHouseModel" 112 12 57 := ⟨(e_R12, e_T12, 123), rfl, by decide, e_memt t2193 rfl, lay12⟩
theorem fX12_115 : e_FL "LandHouseModel" 115 12 58 := ⟨(e_R12, e_T12, 123), rfl, by decide, e_memt t2194 rfl, lay12⟩
theorem fX12_118 : e_FL "LandHouseModel" 118 12 59 := ⟨(e_R12, e_T12, 123), rfl, by decide, e_memt t2195 rfl, lay12⟩
theorem fX12_121 : e_FL "LandHouseModel" 121 12 60 := ⟨(e_R12, e_T12, 123), rfl, by decide, e_memt t2196 rfl, lay12⟩
theorem fX12_124 : e_FL "LandHouseModel" 124 12 61 := ⟨(e_R12, e_T12, 123), rfl, by decide, e_memt t2197 rfl, lay12⟩
theorem fX12_127 : e_FL "LandHouseModel" 127 12 62 := ⟨(e_R12, e_T12, 123), rfl, by decide, e_memt t2198 rfl, lay12⟩
theorem fX12_130 : e_FL "LandHouseModel" 130 12 63 := ⟨(e_R12, e_T12, 123), rfl, by decide, e_memt t2199 rfl, lay12⟩
theorem fX12_133 : e_FL "LandHouseModel" 133 12 64 := ⟨(e_R12, e_T12, 123), rfl, by decide, e_memt t2200 rfl, lay12⟩
theorem fX12_136 : e_FL "LandHouseModel" 136 12 65 := ⟨(e_R12, e_T12, 123), rfl, by decide, e_memt t2201 rfl, lay12⟩
theorem fX12_139 : e_FL "LandHouseModel" 139 12 66 := ⟨(e_R12, e_T12, 123), rfl, by decide, e_memt t2202 rfl, lay12⟩
theorem fX12_142 : e_FL "LandHouseModel" 142 12 67 := ⟨(e_R12, e_T12, 123), rfl, by decide, e_memt t2203 rfl, lay12⟩
theorem fX12_145 : e_FL "LandHouseModel" 145 12 68 := ⟨(e_R12, e_T12, 123), rfl, by decide, e_memt t2204 rfl, lay12⟩
theorem fX12_148 : e_FL "LandHouseModel" 148 12 69 := ⟨(e_R12, e_T12, 123), rfl, by decide, e_memt t2205 rfl, lay12⟩
theorem fX12_151 : e_FL "LandHouseModel" 151 12 70 := ⟨(e_R12, e_T12, 123), rfl, by decide, e_memt t2206 rfl, lay12⟩
theorem fX12_154 : e_FL "LandHouseModel" 154 12 71 := ⟨(e_R12, e_T12, 123), rfl, by decide, e_memt t2207 rfl, lay12⟩
theorem fX12_157 : e_FL "LandHouseModel" 157 12 72 := ⟨(e_R12, e_T12, 123), rfl, by decide, e_memt t2208 rfl, lay12⟩
theorem fX12_526 : e_FL "LandHouseModel" 526 12 73 := ⟨(e_R12, e_T12, 123), rfl, by decide, e_memt t2209 rfl, lay12⟩
theorem fX12_160 : e_FL "LandHouseModel" 160 12 74 := ⟨(e_R12, e_T12, 123), rfl, by decide, e_memt t2210 rfl, lay12⟩
theorem fX12_163 : e_FL "LandHouseModel" 163 12 75 := ⟨(e_R12, e_T12, 123), rfl, by decide, e_memt t2211 rfl, lay12⟩
theorem fX12_166 : e_FL "LandHouseModel" 166 12 76 := ⟨(e_R12, e_T12, 123), rfl, by decide, e_memt t2212 rfl, lay12⟩
theorem fX12_169 : e_FL "LandHouseModel" 169 12 77 := ⟨(e_R12, e_T12, 123), rfl, by decide, e_memt t2213 rfl, lay12⟩
theorem fX12_172 : e_FL "LandHouseModel" 172 12 78 := ⟨(e_R12, e_T12, 123), rfl, by decide, e_memt t2214 rfl, lay12⟩
theorem fX12_175 : e_FL "LandHouseModel" 175 12 79 := ⟨(e_R12, e_T12, 123), rfl, by decide, e_memt t2215 rfl, lay12⟩
theorem fX12_178 : e_FL "LandHouseModel" 178 12 80 := ⟨(e_R12, e_T12, 123), rfl, by decide, e_memt t2216 rfl, lay12⟩
theorem fX12_181 : e_FL "LandHouseModel" 181 12 81 := ⟨(e_R12, e_T12, 123), rfl, by decide, e_memt t2217 rfl, lay12⟩
theorem fX12_184 : e_FL "LandHouseModel" 184 12 82 := ⟨(e_R12, e_T12, 123), rfl, by decide, e_memt t2218 rfl, lay12⟩
theorem fX12_187 : e_FL "LandHouseModel" 187 12 83 := ⟨(e_R12, e_T12, 123), rfl, by decide, e_memt t2219 rfl, lay12⟩
theorem fX12_190 : e_FL "LandHouseModel" 190 12 84 := ⟨(e_R12, e_T12, 123), rfl, by decide, e_memt t2220 rfl, lay12⟩
theorem fX12_529 : e_FL "LandHouseModel" 529 12 85 := ⟨(e_R12, e_T12, 123), rfl, by decide, e_memt t2221 rfl, lay12⟩
theorem fX12_543 : e_FL "LandHouseModel" 543 12 86 := ⟨(e_R12, e_T12, 123), rfl, by decide, e_memt t2222 rfl, lay12⟩
theorem fX12_555 : e_FL "LandHouseModel" 555 12 87 := ⟨(e_R12, e_T12, 123), rfl, by decide, e_memt t2223 rfl, lay12⟩
theorem fX12_193 : e_FL "LandHouseModel" 193 12 88 := ⟨(e_R12, e_T12, 123), rfl, by decide, e_memt t2224 rfl, lay12⟩
theorem fX12_196 : e_FL "LandHouseModel" 196 12 89 := ⟨(e_R12, e_T12, 123), rfl, by decide, e_memt t2225 rfl, lay12⟩
theorem fX12_199 : e_FL "LandHouseModel" 199 12 90 := ⟨(e_R12, e_T12, 123), rfl, by decide, e_memt t2226 rfl, lay12⟩
theorem fX12_202 : e_FL "LandHouseModel" 202 12 91 := ⟨(e_R12, e_T12, 123), rfl, by decide, e_memt t2227 rfl, lay12⟩
theorem fX12_205 : e_FL "LandHouseModel" 205 12 92 := ⟨(e_R12, e_T12, 123), rfl, by decide, e_memt t2228 rfl, lay12⟩
theorem fX12_208 : e_FL "LandHouseModel" 208 12 93 := ⟨(e_R12, e_T12, 123), rfl, by decide, e_memt t2229 rfl, lay12⟩
theorem fX12_211 : e_FL "LandHouseModel" 211 12 94 := ⟨(e_R12, e_T12, 123), rfl, by decide, e_memt t2230 rfl, lay12⟩
theorem fX12_214 : e_FL "LandHouseModel" 214 12 95 := ⟨(e_R12, e_T12, 123), rfl, by decide, e_memt t2231 rfl, lay12⟩
theorem fX12_217 : e_FL "LandHouseModel" 217 12 96 := ⟨(e_R12, e_T12, 123), rfl, by decide, e_memt t2232 rfl, lay12⟩
theorem fX12_220 : e_FL "LandHouseModel" 220 12 97 := ⟨(e_R12, e_T12, 123), rfl, by decide, e_memt t2233 rfl, lay12⟩
theorem fX12_761 : e_FL "LandHouseModel" 761 12 98 := ⟨(e_R12, e_T12, 123), rfl, by decide, e_memt t2234 rfl, lay12⟩
theorem fX12_764 : e_FL "LandHouseModel" 764 12 99 := ⟨(e_R12, e_T12, 123), rfl, by decide, e_memt t2235 rfl, lay12⟩
theorem fX12_223 : e_FL "LandHouseModel" 223 12 100 := ⟨(e_R12, e_T12, 123), rfl, by decide, e_memt t2236 rfl, lay12⟩
theorem fX12_227 : e_FL "LandHouseModel" 227 12 101 := ⟨(e_R12, e_T12, 123), rfl, by decide, e_memt t2237 rfl, lay12⟩
theorem fX12_230 : e_FL "LandHouseModel" 230 12 102 := ⟨(e_R12, e_T12, 123), rfl, by decide, e_memt t2238 rfl, lay12⟩
theorem fX12_799 : e_FL "LandHouseModel" 799 12 103 := ⟨(e_R12, e_T12, 123), rfl, by decide, e_memt t2239 rfl, lay12⟩
theorem fX12_802 : e_FL "LandHouseModel" 802 12 104 := ⟨(e_R12, e_T12, 123), rfl, by decide, e_memt t2240 rfl, lay12⟩
theorem fX12_233 : e_FL "LandHouseModel" 233 12 105 := ⟨(e_R12, e_T12, 123), rfl, by decide, e_memt t2241 rfl, lay12⟩
theorem fX12_236 : e_FL "LandHouseModel" 236 12 106 := ⟨(e_R12, e_T12, 123), rfl, by decide, e_memt t2242 rfl, lay12⟩
theorem fX12_239 : e_FL "LandHouseModel" 239 12 107 := ⟨(e_R12, e_T12, 123), rfl, by decide, e_memt t2243 rfl, lay12⟩
theorem fX12_242 : e_FL "LandHouseModel" 242 12 108 := ⟨(e_R12, e_T12, 123), rfl, by decide, e_memt t2244 rfl, lay12⟩
theorem fX12_808 : e_FL "LandHouseModel" 808 12 109 := ⟨(e_R12, e_T12, 123), rfl, by decide, e_memt t2245 rfl, lay12⟩
theorem fX12_848 : e_FL "LandHouseModel" 848 12 110 := ⟨(e_R12, e_T12, 123), rfl, by decide, e_memt t2246 rfl, lay12⟩
theorem fX12_811 : e_FL "LandHouseModel" 811 12 111 := ⟨(e_R12, e_T12, 123), rfl, by decide, e_memt t2247 rfl, lay12⟩
theorem fX12_851 : e_FL "LandHouseModel" 851 12 112 := ⟨(e_R12, e_T12, 123), rfl, by decide, e_memt t2248 rfl, lay12⟩
theorem fX12_854 : e_FL "LandHouseModel" 854 12 113 := ⟨(e_R12, e_T12, 123), rfl, by decide, e_memt t2249 rfl, lay12⟩
theorem fX12_857 : e_FL "LandHouseModel" 857 12 114 := ⟨(e_R12, e_T12, 123), rfl, by decide, e_memt t2250 rfl, lay12⟩
theorem fX12_845 : e_FL "LandHouseModel" 845 12 115 := ⟨(e_R12, e_T12, 123), rfl, by decide, e_memt t2251 rfl, lay12⟩
theorem fX12_860 : e_FL "LandHouseModel" 860 12 116 := ⟨(e_R12, e_T12, 123), rfl, by decide, e_memt t2252 rfl, lay12⟩
theorem fX12_245 : e_FL "LandHouseModel" 245 12 117 := ⟨(e_R12, e_T12, 123), rfl, by decide, e_memt t2253 rfl, lay12⟩
theorem fX12_919 : e_FL "LandHouseModel" 919 12 118 := ⟨(e_R12, e_T12, 123), rfl, by decide, e_memt t2254 rfl, lay12⟩
theorem fX12_248 : e_FL "LandHouseModel" 248 12 119 := ⟨(e_R12, e_T12, 123), rfl, by decide, e_memt t2255 rfl, lay12⟩
theorem fX12_896 : e_FL "LandHouseModel" 896 12 120 := ⟨(e_R12, e_T12, 123), rfl, by decide, e_memt t2256 rfl, lay12⟩
theorem fX12_773 : e_FL "LandHouseModel" 773 12 121 := ⟨(e_R12, e_T12, 123), rfl, by decide, e_memt t2257 rfl, lay12⟩
theorem fX12_990 : e_FL "LandHouseModel" 990 12 122 := ⟨(e_R12, e_T12, 123), rfl, by decide, e_memt t2258 rfl, lay12⟩
theorem cL_37 : Cond.methodLink "LandHouseLaw" 37 (⟨"LandHouseModel", "feed", "(IIIII)Z"⟩ : MethodName) ∈ e_gd := e_memt t2506 rfl
theorem cX12_776 : Cond.methodLink "LandHouseModel" 776 (⟨"LandHouseModel", "four", "(I)V"⟩ : MethodName) ∈ e_gd := e_memt t2510 rfl
theorem cL_42 : Cond.methodLink "LandHouseLaw" 42 (⟨"LandHouseModel", "end", "(I)Z"⟩ : MethodName) ∈ e_gd := e_memt t2514 rfl
theorem cL_46 : Cond.methodLink "LandHouseLaw" 46 (⟨"LandHouseModel", "clock", "(I)Z"⟩ : MethodName) ∈ e_gd := e_memt t2518 rfl
theorem hX12_782 : Cond.constant "LandHouseModel" 782 (219145 : Int32) ∈ e_gd := e_memt t2522 rfl
theorem cL_51 : Cond.methodLink "LandHouseLaw" 51 (⟨"LandHouseModel", "enter", "()I"⟩ : MethodName) ∈ e_gd := e_memt t2523 rfl
theorem cX12_793 : Cond.methodLink "LandHouseModel" 793 (⟨"LandHouseModel", "begins", "()V"⟩ : MethodName) ∈ e_gd := e_memt t2527 rfl
theorem cX12_345 : Cond.methodLink "LandHouseModel" 345 (⟨"LandHouseModel", "next", "()V"⟩ : MethodName) ∈ e_gd := e_memt t2531 rfl
theorem cX12_291 : Cond.methodLink "LandHouseModel" 291 (⟨"LandHouseModel", "byteAt", "(I)I"⟩ : MethodName) ∈ e_gd := e_memt t2535 rfl
theorem cX12_294 : Cond.methodLink "LandHouseModel" 294 (⟨"LandHouseModel", "isDigit", "(I)Z"⟩ : MethodName) ∈ e_gd := e_memt t2539 rfl
theorem cX12_312 : Cond.methodLink "LandHouseModel" 312 (⟨"LandHouseModel", "isDate", "(I)Z"⟩ : MethodName) ∈ e_gd := e_memt t2542 rfl
theorem cX12_297 : Cond.methodLink "LandHouseModel" 297 (⟨"LandHouseModel", "isSmall", "(I)Z"⟩ : MethodName) ∈ e_gd := e_memt t2546 rfl
theorem cX12_315 : Cond.methodLink "LandHouseModel" 315 (⟨"LandHouseModel", "digits", "(II)I"⟩ : MethodName) ∈ e_gd := e_memt t2549 rfl
theorem cX12_318 : Cond.methodLink "LandHouseModel" 318 (⟨"LandHouseModel", "daysIn", "(II)I"⟩ : MethodName) ∈ e_gd := e_memt t2553 rfl
theorem cX12_280 : Cond.methodLink "LandHouseModel" 280 (⟨"LandHouseModel", "dayOf", "(III)I"⟩ : MethodName) ∈ e_gd := e_memt t2556 rfl
theorem cX12_324 : Cond.methodLink "LandHouseModel" 324 (⟨"LandHouseModel", "run", "(Z)V"⟩ : MethodName) ∈ e_gd := e_memt t2560 rfl
theorem cX12_328 : Cond.methodLink "LandHouseModel" 328 (⟨"LandHouseModel", "sign", "(I)V"⟩ : MethodName) ∈ e_gd := e_memt t2564 rfl
theorem cX12_796 : Cond.methodLink "LandHouseModel" 796 (⟨"LandHouseModel", "reads", "(I)Z"⟩ : MethodName) ∈ e_gd := e_memt t2568 rfl
theorem cX12_348 : Cond.methodLink "LandHouseModel" 348 (⟨"LandHouseModel", "isWord", "(I)Z"⟩ : MethodName) ∈ e_gd := e_memt t2572 rfl
theorem cX12_351 : Cond.methodLink "LandHouseModel" 351 (⟨"LandHouseModel", "good", "(I)Z"⟩ : MethodName) ∈ e_gd := e_memt t2576 rfl
theorem cX12_342 : Cond.methodLink "LandHouseModel" 342 (⟨"LandHouseModel", "wrong", "(I)Z"⟩ : MethodName) ∈ e_gd := e_memt t2580 rfl
theorem cX12_783 : Cond.methodLink "LandHouseModel" 783 (⟨"LandHouseModel", "mustEntry", "(Z)I"⟩ : MethodName) ∈ e_gd := e_memt t2584 rfl
theorem cX12_369 : Cond.methodLink "LandHouseModel" 369 (⟨"LandHouseModel", "mustSign", "(I)Z"⟩ : MethodName) ∈ e_gd := e_memt t2588 rfl
theorem cX12_354 : Cond.methodLink "LandHouseModel" 354 (⟨"LandHouseModel", "isSign", "(I)Z"⟩ : MethodName) ∈ e_gd := e_memt t2592 rfl
theorem cX12_787 : Cond.methodLink "LandHouseModel" 787 (⟨"LandHouseModel", "stops", "()Z"⟩ : MethodName) ∈ e_gd := e_memt t2596 rfl
theorem cX12_389 : Cond.methodLink "LandHouseModel" 389 (⟨"LandHouseModel", "must", "(I)Z"⟩ : MethodName) ∈ e_gd := e_memt t2600 rfl
theorem cX12_790 : Cond.methodLink "LandHouseModel" 790 (⟨"LandHouseModel", "mustDeed", "(I)Z"⟩ : MethodName) ∈ e_gd := e_memt t2604 rfl
theorem cX12_392 : Cond.methodLink "LandHouseModel" 392 (⟨"LandHouseModel", "isAct", "(I)Z"⟩ : MethodName) ∈ e_gd := e_memt t2608 rfl
theorem cX12_395 : Cond.methodLink "LandHouseModel" 395 (⟨"LandHouseModel", "first", "(I)Z"⟩ : MethodName) ∈ e_gd := e_memt t2611 rfl
theorem cX12_379 : Cond.methodLink "LandHouseModel" 379 (⟨"LandHouseModel", "mustName", "(I)Z"⟩ : MethodName) ∈ e_gd := e_memt t2615 rfl
theorem cX12_359 : Cond.methodLink "LandHouseModel" 359 (⟨"LandHouseModel", "isName", "()Z"⟩ : MethodName) ∈ e_gd := e_memt t2619 rfl
theorem cX12_398 : Cond.methodLink "LandHouseModel" 398 (⟨"LandHouseModel", "mustDate", "()Z"⟩ : MethodName) ∈ e_gd := e_memt t2623 rfl
theorem cX12_401 : Cond.methodLink "LandHouseModel" 401 (⟨"LandHouseModel", "mustParts", "()Z"⟩ : MethodName) ∈ e_gd := e_memt t2627 rfl
theorem cX12_382 : Cond.methodLink "LandHouseModel" 382 (⟨"LandHouseModel", "mustShare", "()Z"⟩ : MethodName) ∈ e_gd := e_memt t2631 rfl
theorem cX12_375 : Cond.methodLink "LandHouseModel" 375 (⟨"LandHouseModel", "divisor", "(JJ)J"⟩ : MethodName) ∈ e_gd := e_memt t2635 rfl
theorem cX12_404 : Cond.methodLink "LandHouseModel" 404 (⟨"LandHouseModel", "mustAmount", "()Z"⟩ : MethodName) ∈ e_gd := e_memt t2638 rfl
theorem cX12_407 : Cond.methodLink "LandHouseModel" 407 (⟨"LandHouseModel", "mustPoints", "()Z"⟩ : MethodName) ∈ e_gd := e_memt t2642 rfl
theorem cX12_385 : Cond.methodLink "LandHouseModel" 385 (⟨"LandHouseModel", "mustAmount2", "([II)Z"⟩ : MethodName) ∈ e_gd := e_memt t2646 rfl
theorem cX12_410 : Cond.methodLink "LandHouseModel" 410 (⟨"LandHouseModel", "mustNames", "()Z"⟩ : MethodName) ∈ e_gd := e_memt t2650 rfl
theorem cL_55 : Cond.methodLink "LandHouseLaw" 55 (⟨"LandHouseModel", "fault", "()I"⟩ : MethodName) ∈ e_gd := e_memt t2654 rfl
theorem cL_59 : Cond.methodLink "LandHouseLaw" 59 (⟨"LandHouseModel", "suppose", "()I"⟩ : MethodName) ∈ e_gd := e_memt t2658 rfl
theorem cX12_770 : Cond.methodLink "LandHouseModel" 770 (⟨"LandHouseModel", "through", "(II)V"⟩ : MethodName) ∈ e_gd := e_memt t2662 rfl
theorem cX12_758 : Cond.methodLink "LandHouseModel" 758 (⟨"LandHouseModel", "judge", "(I)V"⟩ : MethodName) ∈ e_gd := e_memt t2666 rfl
theorem cX12_767 : Cond.methodLink "LandHouseModel" 767 (⟨"LandHouseModel", "done", "(I)I"⟩ : MethodName) ∈ e_gd := e_memt t2670 rfl
theorem cX12_591 : Cond.methodLink "LandHouseModel" 591 (⟨"LandHouseModel", "areNamed", "(I)Z"⟩ : MethodName) ∈ e_gd := e_memt t2674 rfl
theorem cX12_585 : Cond.methodLink "LandHouseModel" 585 (⟨"LandHouseModel", "whatIs", "(J)I"⟩ : MethodName) ∈ e_gd := e_memt t2678 rfl
theorem cX12_588 : Cond.methodLink "LandHouseModel" 588 (⟨"LandHouseModel", "wanted", "(III)I"⟩ : MethodName) ∈ e_gd := e_memt t2682 rfl
theorem cX12_549 : Cond.methodLink "LandHouseModel" 549 (⟨"LandHouseModel", "isThere", "(III)Z"⟩ : MethodName) ∈ e_gd := e_memt t2685 rfl
theorem cX12_594 : Cond.methodLink "LandHouseModel" 594 (⟨"LandHouseModel", "born", "(I)I"⟩ : MethodName) ∈ e_gd := e_memt t2689 rfl
theorem cX12_660 : Cond.methodLink "LandHouseModel" 660 (⟨"LandHouseModel", "full", "(II)Z"⟩ : MethodName) ∈ e_gd := e_memt t2693 rfl
theorem cX12_597 : Cond.methodLink "LandHouseModel" 597 (⟨"LandHouseModel", "firm", "(I)I"⟩ : MethodName) ∈ e_gd := e_memt t2697 rfl
theorem cX12_552 : Cond.methodLink "LandHouseModel" 552 (⟨"LandHouseModel", "isAge", "(II)Z"⟩ : MethodName) ∈ e_gd := e_memt t2701 rfl
theorem cX12_270 : Cond.methodLink "LandHouseModel" 270 (⟨"LandHouseModel", "yearOf", "(I)I"⟩ : MethodName) ∈ e_gd := e_memt t2705 rfl
theorem cX12_284 : Cond.methodLink "LandHouseModel" 284 (⟨"LandHouseModel", "anniversary", "(II)I"⟩ : MethodName) ∈ e_gd := e_memt t2709 rfl
theorem cX12_274 : Cond.methodLink "LandHouseModel" 274 (⟨"LandHouseModel", "monthOf", "(I)I"⟩ : MethodName) ∈ e_gd := e_memt t2713 rfl
theorem cX12_277 : Cond.methodLink "LandHouseModel" 277 (⟨"LandHouseModel", "dateOf", "(I)I"⟩ : MethodName) ∈ e_gd := e_memt t2717 rfl
theorem cX12_600 : Cond.methodLink "LandHouseModel" 600 (⟨"LandHouseModel", "guard", "()I"⟩ : MethodName) ∈ e_gd := e_memt t2721 rfl
theorem cX12_603 : Cond.methodLink "LandHouseModel" 603 (⟨"LandHouseModel", "death", "(I)I"⟩ : MethodName) ∈ e_gd := e_memt t2725 rfl
theorem cX12_682 : Cond.methodLink "LandHouseModel" 682 (⟨"LandHouseModel", "areParts", "(II)Z"⟩ : MethodName) ∈ e_gd := e_memt t2729 rfl
theorem cX12_663 : Cond.methodLink "LandHouseModel" 663 (⟨"LandHouseModel", "isOne", "(I)Z"⟩ : MethodName) ∈ e_gd := e_memt t2733 rfl
theorem cX12_423 : Cond.methodLink "LandHouseModel" 423 (⟨"LandHouseModel", "plus", "(JJJJ)V"⟩ : MethodName) ∈ e_gd := e_memt t2737 rfl
theorem cX12_419 : Cond.methodLink "LandHouseModel" 419 (⟨"LandHouseModel", "fraction", "(JJ)V"⟩ : MethodName) ∈ e_gd := e_memt t2741 rfl
theorem cX12_685 : Cond.methodLink "LandHouseModel" 685 (⟨"LandHouseModel", "inherits", "(III)V"⟩ : MethodName) ∈ e_gd := e_memt t2745 rfl
theorem cX12_673 : Cond.methodLink "LandHouseModel" 673 (⟨"LandHouseModel", "loads", "(I)V"⟩ : MethodName) ∈ e_gd := e_memt t2749 rfl
theorem cX12_558 : Cond.methodLink "LandHouseModel" 558 (⟨"LandHouseModel", "ownAt", "(I)I"⟩ : MethodName) ∈ e_gd := e_memt t2753 rfl
theorem cX12_676 : Cond.methodLink "LandHouseModel" 676 (⟨"LandHouseModel", "gives", "(IJJ)V"⟩ : MethodName) ∈ e_gd := e_memt t2757 rfl
theorem cX12_561 : Cond.methodLink "LandHouseModel" 561 (⟨"LandHouseModel", "less", "(JJJJ)V"⟩ : MethodName) ∈ e_gd := e_memt t2761 rfl
theorem cX12_669 : Cond.methodLink "LandHouseModel" 669 (⟨"LandHouseModel", "gets", "(IJJ)V"⟩ : MethodName) ∈ e_gd := e_memt t2765 rfl
theorem cX12_679 : Cond.methodLink "LandHouseModel" 679 (⟨"LandHouseModel", "parted", "(IJJ)V"⟩ : MethodName) ∈ e_gd := e_memt t2769 rfl
theorem cX12_666 : Cond.methodLink "LandHouseModel" 666 (⟨"LandHouseModel", "times", "(JJJJ)V"⟩ : MethodName) ∈ e_gd := e_memt t2773 rfl
theorem cX12_689 : Cond.methodLink "LandHouseModel" 689 (⟨"LandHouseModel", "isGreat", "()Z"⟩ : MethodName) ∈ e_gd := e_memt t2777 rfl
theorem hX12_564 : Cond.constantLong "LandHouseModel" 564 (1000000 : Int64) ∈ e_gd := e_memt t2781 rfl
theorem cX12_692 : Cond.methodLink "LandHouseModel" 692 (⟨"LandHouseModel", "keeps", "(I)V"⟩ : MethodName) ∈ e_gd := e_memt t2782 rfl
theorem cX12_606 : Cond.methodLink "LandHouseModel" 606 (⟨"LandHouseModel", "close", "()I"⟩ : MethodName) ∈ e_gd := e_memt t2786 rfl
theorem cX12_695 : Cond.methodLink "LandHouseModel" 695 (⟨"LandHouseModel", "isOwner", "(II)Z"⟩ : MethodName) ∈ e_gd := e_memt t2790 rfl
theorem cX12_609 : Cond.methodLink "LandHouseModel" 609 (⟨"LandHouseModel", "sell", "(I)I"⟩ : MethodName) ∈ e_gd := e_memt t2794 rfl
theorem cX12_582 : Cond.methodLink "LandHouseModel" 582 (⟨"LandHouseModel", "isAble", "(II)Z"⟩ : MethodName) ∈ e_gd := e_memt t2798 rfl
theorem cX12_698 : Cond.methodLink "LandHouseModel" 698 (⟨"LandHouseModel", "isBarred", "(II)Z"⟩ : MethodName) ∈ e_gd := e_memt t2802 rfl
theorem cX12_573 : Cond.methodLink "LandHouseModel" 573 (⟨"LandHouseModel", "placeOn", "(II)I"⟩ : MethodName) ∈ e_gd := e_memt t2806 rfl
theorem cX12_612 : Cond.methodLink "LandHouseModel" 612 (⟨"LandHouseModel", "split", "(I)I"⟩ : MethodName) ∈ e_gd := e_memt t2810 rfl
theorem cX12_707 : Cond.methodLink "LandHouseModel" 707 (⟨"LandHouseModel", "areAble", "(I)Z"⟩ : MethodName) ∈ e_gd := e_memt t2814 rfl
theorem cX12_710 : Cond.methodLink "LandHouseModel" 710 (⟨"LandHouseModel", "cuts", "(III)Z"⟩ : MethodName) ∈ e_gd := e_memt t2818 rfl
theorem cX12_445 : Cond.methodLink "LandHouseModel" 445 (⟨"LandHouseModel", "px", "(I)J"⟩ : MethodName) ∈ e_gd := e_memt t2822 rfl
theorem cX12_449 : Cond.methodLink "LandHouseModel" 449 (⟨"LandHouseModel", "py", "(I)J"⟩ : MethodName) ∈ e_gd := e_memt t2826 rfl
theorem cX12_452 : Cond.methodLink "LandHouseModel" 452 (⟨"LandHouseModel", "lieAt", "(IIJJI)I"⟩ : MethodName) ∈ e_gd := e_memt t2830 rfl
theorem cX12_435 : Cond.methodLink "LandHouseModel" 435 (⟨"LandHouseModel", "lies", "(JJJJJJ)Z"⟩ : MethodName) ∈ e_gd := e_memt t2834 rfl
theorem cX12_427 : Cond.methodLink "LandHouseModel" 427 (⟨"LandHouseModel", "turn", "(JJJJJJ)J"⟩ : MethodName) ∈ e_gd := e_memt t2837 rfl
theorem cX12_431 : Cond.methodLink "LandHouseModel" 431 (⟨"LandHouseModel", "within", "(JJJ)Z"⟩ : MethodName) ∈ e_gd := e_memt t2840 rfl
theorem cX12_456 : Cond.methodLink "LandHouseModel" 456 (⟨"LandHouseModel", "clear", "(III)Z"⟩ : MethodName) ∈ e_gd := e_memt t2843 rfl
theorem cX12_474 : Cond.methodLink "LandHouseModel" 474 (⟨"java/lang/Long", "signum", "(J)I"⟩ : MethodName) ∈ e_gd := e_memt t2847 rfl
theorem cX12_460 : Cond.methodLink "LandHouseModel" 460 (⟨"LandHouseModel", "touch", "(II)Z"⟩ : MethodName) ∈ e_gd := e_memt t2850 rfl
theorem cX12_464 : Cond.methodLink "LandHouseModel" 464 (⟨"LandHouseModel", "part", "(IIIZ)I"⟩ : MethodName) ∈ e_gd := e_memt t2854 rfl
theorem cX12_486 : Cond.methodLink "LandHouseModel" 486 (⟨"LandHouseModel", "sideOf", "(IIJJ)I"⟩ : MethodName) ∈ e_gd := e_memt t2858 rfl
theorem cX12_490 : Cond.methodLink "LandHouseModel" 490 (⟨"LandHouseModel", "far", "(IIJJ)J"⟩ : MethodName) ∈ e_gd := e_memt t2862 rfl
theorem cX12_480 : Cond.methodLink "LandHouseModel" 480 (⟨"java/lang/Math", "abs", "(J)J"⟩ : MethodName) ∈ e_gd := e_memt t2866 rfl
theorem cX12_494 : Cond.methodLink "LandHouseModel" 494 (⟨"LandHouseModel", "tidy", "(II)I"⟩ : MethodName) ∈ e_gd := e_memt t2869 rfl
theorem cX12_713 : Cond.methodLink "LandHouseModel" 713 (⟨"LandHouseModel", "tooLong", "(I)Z"⟩ : MethodName) ∈ e_gd := e_memt t2873 rfl
theorem cX12_701 : Cond.methodLink "LandHouseModel" 701 (⟨"LandHouseModel", "hasPoint", "(III)Z"⟩ : MethodName) ∈ e_gd := e_memt t2877 rfl
theorem cX12_704 : Cond.methodLink "LandHouseModel" 704 (⟨"LandHouseModel", "placeOf", "(II)I"⟩ : MethodName) ∈ e_gd := e_memt t2881 rfl
theorem cX12_716 : Cond.methodLink "LandHouseModel" 716 (⟨"LandHouseModel", "newLot", "(JIII)I"⟩ : MethodName) ∈ e_gd := e_memt t2885 rfl
theorem cX12_576 : Cond.methodLink "LandHouseModel" 576 (⟨"LandHouseModel", "offOn", "(II)V"⟩ : MethodName) ∈ e_gd := e_memt t2889 rfl
theorem cX12_720 : Cond.methodLink "LandHouseModel" 720 (⟨"LandHouseModel", "inOn", "(III)V"⟩ : MethodName) ∈ e_gd := e_memt t2893 rfl
theorem cX12_723 : Cond.methodLink "LandHouseModel" 723 (⟨"LandHouseModel", "offOf", "(II)V"⟩ : MethodName) ∈ e_gd := e_memt t2897 rfl
theorem cX12_726 : Cond.methodLink "LandHouseModel" 726 (⟨"LandHouseModel", "inOf", "(III)V"⟩ : MethodName) ∈ e_gd := e_memt t2901 rfl
theorem cX12_615 : Cond.methodLink "LandHouseModel" 615 (⟨"LandHouseModel", "join", "(I)I"⟩ : MethodName) ∈ e_gd := e_memt t2905 rfl
theorem cX12_729 : Cond.methodLink "LandHouseModel" 729 (⟨"LandHouseModel", "areAlike", "(II)Z"⟩ : MethodName) ∈ e_gd := e_memt t2909 rfl
theorem cX12_732 : Cond.methodLink "LandHouseModel" 732 (⟨"LandHouseModel", "bearAlike", "(II)Z"⟩ : MethodName) ∈ e_gd := e_memt t2913 rfl
theorem cX12_735 : Cond.methodLink "LandHouseModel" 735 (⟨"LandHouseModel", "joins", "(IIII)Z"⟩ : MethodName) ∈ e_gd := e_memt t2917 rfl
theorem hX12_503 : Cond.constantLong "LandHouseModel" 503 (-1 : Int64) ∈ e_gd := e_memt t2921 rfl
theorem cX12_505 : Cond.methodLink "LandHouseModel" 505 (⟨"LandHouseModel", "along", "(IIIIII)Z"⟩ : MethodName) ∈ e_gd := e_memt t2922 rfl
theorem cX12_509 : Cond.methodLink "LandHouseModel" 509 (⟨"LandHouseModel", "round", "(JJJJ)I"⟩ : MethodName) ∈ e_gd := e_memt t2926 rfl
theorem cX12_513 : Cond.methodLink "LandHouseModel" 513 (⟨"LandHouseModel", "areaOf", "(II)J"⟩ : MethodName) ∈ e_gd := e_memt t2929 rfl
theorem cX12_739 : Cond.methodLink "LandHouseModel" 739 (⟨"LandHouseModel", "onOne", "(IIII)V"⟩ : MethodName) ∈ e_gd := e_memt t2933 rfl
theorem cX12_523 : Cond.methodLink "LandHouseModel" 523 (⟨"java/lang/Math", "min", "(II)I"⟩ : MethodName) ∈ e_gd := e_memt t2937 rfl
theorem cX12_743 : Cond.methodLink "LandHouseModel" 743 (⟨"LandHouseModel", "ofOne", "(IIII)V"⟩ : MethodName) ∈ e_gd := e_memt t2938 rfl
theorem cX12_618 : Cond.methodLink "LandHouseModel" 618 (⟨"LandHouseModel", "border", "(I)I"⟩ : MethodName) ∈ e_gd := e_memt t2942 rfl
theorem cX12_621 : Cond.methodLink "LandHouseModel" 621 (⟨"LandHouseModel", "charge", "(I)I"⟩ : MethodName) ∈ e_gd := e_memt t2946 rfl
theorem cX12_624 : Cond.methodLink "LandHouseModel" 624 (⟨"LandHouseModel", "pay", "(I)I"⟩ : MethodName) ∈ e_gd := e_memt t2950 rfl
theorem cX12_746 : Cond.methodLink "LandHouseModel" 746 (⟨"LandHouseModel", "endCharge", "(I)V"⟩ : MethodName) ∈ e_gd := e_memt t2954 rfl
theorem cX12_579 : Cond.methodLink "LandHouseModel" 579 (⟨"LandHouseModel", "offCharge", "(II)V"⟩ : MethodName) ∈ e_gd := e_memt t2958 rfl
theorem cX12_566 : Cond.methodLink "LandHouseModel" 566 (⟨"LandHouseModel", "rankAt", "(II)I"⟩ : MethodName) ∈ e_gd := e_memt t2962 rfl
theorem cX12_569 : Cond.methodLink "LandHouseModel" 569 (⟨"LandHouseModel", "offRank", "(II)V"⟩ : MethodName) ∈ e_gd := e_memt t2966 rfl
theorem cX12_627 : Cond.methodLink "LandHouseModel" 627 (⟨"LandHouseModel", "assign", "()I"⟩ : MethodName) ∈ e_gd := e_memt t2970 rfl
theorem cX12_630 : Cond.methodLink "LandHouseModel" 630 (⟨"LandHouseModel", "ranked", "()I"⟩ : MethodName) ∈ e_gd := e_memt t2974 rfl
theorem cX12_633 : Cond.methodLink "LandHouseModel" 633 (⟨"LandHouseModel", "freed", "()I"⟩ : MethodName) ∈ e_gd := e_memt t2978 rfl
theorem cX12_636 : Cond.methodLink "LandHouseModel" 636 (⟨"LandHouseModel", "auction", "(I)I"⟩ : MethodName) ∈ e_gd := e_memt t2982 rfl
theorem cX12_749 : Cond.methodLink "LandHouseModel" 749 (⟨"LandHouseModel", "offLot", "(II)V"⟩ : MethodName) ∈ e_gd := e_memt t2986 rfl
theorem cX12_639 : Cond.methodLink "LandHouseModel" 639 (⟨"LandHouseModel", "serve", "(I)I"⟩ : MethodName) ∈ e_gd := e_memt t2990 rfl
theorem cX12_642 : Cond.methodLink "LandHouseModel" 642 (⟨"LandHouseModel", "waive", "()I"⟩ : MethodName) ∈ e_gd := e_memt t2994 rfl
theorem cX12_645 : Cond.methodLink "LandHouseModel" 645 (⟨"LandHouseModel", "lease", "(I)I"⟩ : MethodName) ∈ e_gd := e_memt t2998 rfl
theorem cX12_648 : Cond.methodLink "LandHouseModel" 648 (⟨"LandHouseModel", "caution", "(I)I"⟩ : MethodName) ∈ e_gd := e_memt t3002 rfl
theorem cX12_651 : Cond.methodLink "LandHouseModel" 651 (⟨"LandHouseModel", "option", "(I)I"⟩ : MethodName) ∈ e_gd := e_memt t3006 rfl
theorem cX12_654 : Cond.methodLink "LandHouseModel" 654 (⟨"LandHouseModel", "take", "()I"⟩ : MethodName) ∈ e_gd := e_memt t3010 rfl
theorem cX12_752 : Cond.methodLink "LandHouseModel" 752 (⟨"LandHouseModel", "isOthers", "(II)Z"⟩ : MethodName) ∈ e_gd := e_memt t3014 rfl
theorem cX12_657 : Cond.methodLink "LandHouseModel" 657 (⟨"LandHouseModel", "ended", "()I"⟩ : MethodName) ∈ e_gd := e_memt t3018 rfl
theorem cL_64 : Cond.methodLink "LandHouseLaw" 64 (⟨"LandHouseModel", "view", "(II)I"⟩ : MethodName) ∈ e_gd := e_memt t3022 rfl
theorem cX12_805 : Cond.methodLink "LandHouseModel" 805 (⟨"LandHouseModel", "look", "(II)V"⟩ : MethodName) ∈ e_gd := e_memt t3026 rfl
theorem cL_68 : Cond.methodLink "LandHouseLaw" 68 (⟨"LandHouseModel", "came", "(I)I"⟩ : MethodName) ∈ e_gd := e_memt t3030 rfl
theorem cL_72 : Cond.methodLink "LandHouseLaw" 72 (⟨"LandHouseModel", "ask", "()I"⟩ : MethodName) ∈ e_gd := e_memt t3034 rfl
theorem cX12_893 : Cond.methodLink "LandHouseModel" 893 (⟨"LandHouseModel", "question", "()Z"⟩ : MethodName) ∈ e_gd := e_memt t3038 rfl
theorem cX12_863 : Cond.methodLink "LandHouseModel" 863 (⟨"LandHouseModel", "set", "()Z"⟩ : MethodName) ∈ e_gd := e_memt t3042 rfl
theorem cX12_833 : Cond.methodLink "LandHouseModel" 833 (⟨"LandHouseModel", "cond", "()Z"⟩ : MethodName) ∈ e_gd := e_memt t3046 rfl
theorem cX12_842 : Cond.methodLink "LandHouseModel" 842 (⟨"LandHouseModel", "both", "()Z"⟩ : MethodName) ∈ e_gd := e_memt t3050 rfl
theorem cX12_830 : Cond.methodLink "LandHouseModel" 830 (⟨"LandHouseModel", "one", "()Z"⟩ : MethodName) ∈ e_gd := e_memt t3054 rfl
theorem cX12_818 : Cond.methodLink "LandHouseModel" 818 (⟨"LandHouseModel", "opens", "()Z"⟩ : MethodName) ∈ e_gd := e_memt t3058 rfl
theorem cX12_814 : Cond.methodLink "LandHouseModel" 814 (⟨"LandHouseModel", "put", "(IIIJ)V"⟩ : MethodName) ∈ e_gd := e_memt t3062 rfl
theorem cX12_836 : Cond.methodLink "LandHouseModel" 836 (⟨"LandHouseModel", "has", "()Z"⟩ : MethodName) ∈ e_gd := e_memt t3066 rfl
theorem cX12_821 : Cond.methodLink "LandHouseModel" 821 (⟨"LandHouseModel", "value", "()Z"⟩ : MethodName) ∈ e_gd := e_memt t3070 rfl
theorem cX12_827 : Cond.methodLink "LandHouseModel" 827 (⟨"LandHouseModel", "term", "()Z"⟩ : MethodName) ∈ e_gd := e_memt t3074 rfl
theorem cX12_824 : Cond.methodLink "LandHouseModel" 824 (⟨"LandHouseModel", "factor", "()Z"⟩ : MethodName) ∈ e_gd := e_memt t3078 rfl
theorem cX12_839 : Cond.methodLink "LandHouseModel" 839 (⟨"LandHouseModel", "compares", "()I"⟩ : MethodName) ∈ e_gd := e_memt t3082 rfl
theorem cX12_899 : Cond.methodLink "LandHouseModel" 899 (⟨"LandHouseModel", "show", "()V"⟩ : MethodName) ∈ e_gd := e_memt t3086 rfl
theorem cX12_875 : Cond.methodLink "LandHouseModel" 875 (⟨"LandHouseModel", "isHere", "(II)Z"⟩ : MethodName) ∈ e_gd := e_memt t3090 rfl
theorem cX12_950 : Cond.methodLink "LandHouseModel" 950 (⟨"LandHouseModel", "lineOf", "(II)V"⟩ : MethodName) ∈ e_gd := e_memt t3094 rfl
theorem cX12_916 : Cond.methodLink "LandHouseModel" 916 (⟨"LandHouseModel", "write", "(I)V"⟩ : MethodName) ∈ e_gd := e_memt t3098 rfl
theorem cX12_941 : Cond.methodLink "LandHouseModel" 941 (⟨"LandHouseModel", "more", "(I)V"⟩ : MethodName) ∈ e_gd := e_memt t3102 rfl
theorem cX12_912 : Cond.methodLink "LandHouseModel" 912 (⟨"LandHouseModel", "writeName", "(J)V"⟩ : MethodName) ∈ e_gd := e_memt t3106 rfl
theorem hX12_925 : Cond.constantLong "LandHouseModel" 925 (255 : Int64) ∈ e_gd := e_memt t3110 rfl
theorem cX12_944 : Cond.methodLink "LandHouseModel" 944 (⟨"LandHouseModel", "wordOf", "(I)I"⟩ : MethodName) ∈ e_gd := e_memt t3111 rfl
theorem cX12_947 : Cond.methodLink "LandHouseModel" 947 (⟨"LandHouseModel", "begin", "(II)V"⟩ : MethodName) ∈ e_gd := e_memt t3114 rfl
theorem cX12_932 : Cond.methodLink "LandHouseModel" 932 (⟨"LandHouseModel", "writeWord", "(I)V"⟩ : MethodName) ∈ e_gd := e_memt t3118 rfl
theorem cX12_953 : Cond.methodLink "LandHouseModel" 953 (⟨"LandHouseModel", "showLot", "(I)V"⟩ : MethodName) ∈ e_gd := e_memt t3122 rfl
theorem cX12_938 : Cond.methodLink "LandHouseModel" 938 (⟨"LandHouseModel", "moreNumber", "(J)V"⟩ : MethodName) ∈ e_gd := e_memt t3126 rfl
theorem cX12_922 : Cond.methodLink "LandHouseModel" 922 (⟨"LandHouseModel", "writeNumber", "(J)V"⟩ : MethodName) ∈ e_gd := e_memt t3130 rfl
theorem hX12_927 : Cond.constantLong "LandHouseModel" 927 (10 : Int64) ∈ e_gd := e_memt t3134 rfl
theorem cX12_962 : Cond.methodLink "LandHouseModel" 962 (⟨"LandHouseModel", "share", "(IJJ)V"⟩ : MethodName) ∈ e_gd := e_memt t3135 rfl
theorem cX12_965 : Cond.methodLink "LandHouseModel" 965 (⟨"LandHouseModel", "debt", "(I)V"⟩ : MethodName) ∈ e_gd := e_memt t3139 rfl
theorem cX12_968 : Cond.methodLink "LandHouseModel" 968 (⟨"LandHouseModel", "served", "(II)V"⟩ : MethodName) ∈ e_gd := e_memt t3143 rfl
theorem cX12_971 : Cond.methodLink "LandHouseModel" 971 (⟨"LandHouseModel", "moreDay", "(I)V"⟩ : MethodName) ∈ e_gd := e_memt t3147 rfl
theorem cX12_935 : Cond.methodLink "LandHouseModel" 935 (⟨"LandHouseModel", "writeDay", "(I)V"⟩ : MethodName) ∈ e_gd := e_memt t3151 rfl
theorem cX12_929 : Cond.methodLink "LandHouseModel" 929 (⟨"LandHouseModel", "writeTwo", "(I)V"⟩ : MethodName) ∈ e_gd := e_memt t3155 rfl
theorem cX12_956 : Cond.methodLink "LandHouseModel" 956 (⟨"LandHouseModel", "showPerson", "(I)V"⟩ : MethodName) ∈ e_gd := e_memt t3159 rfl
theorem cX12_959 : Cond.methodLink "LandHouseModel" 959 (⟨"LandHouseModel", "showOther", "(II)V"⟩ : MethodName) ∈ e_gd := e_memt t3163 rfl
theorem cX12_902 : Cond.methodLink "LandHouseModel" 902 (⟨"LandHouseModel", "trace", "()V"⟩ : MethodName) ∈ e_gd := e_memt t3167 rfl
theorem cX12_905 : Cond.methodLink "LandHouseModel" 905 (⟨"LandHouseModel", "goOver", "()V"⟩ : MethodName) ∈ e_gd := e_memt t3171 rfl
theorem cX12_908 : Cond.methodLink "LandHouseModel" 908 (⟨"LandHouseModel", "worked", "(IIII)J"⟩ : MethodName) ∈ e_gd := e_memt t3175 rfl
theorem cX12_881 : Cond.methodLink "LandHouseModel" 881 (⟨"LandHouseModel", "fact", "(III)J"⟩ : MethodName) ∈ e_gd := e_memt t3179 rfl
theorem cX12_866 : Cond.methodLink "LandHouseModel" 866 (⟨"LandHouseModel", "debts", "(II)J"⟩ : MethodName) ∈ e_gd := e_memt t3183 rfl
theorem cX12_869 : Cond.methodLink "LandHouseModel" 869 (⟨"LandHouseModel", "fullYears", "(II)I"⟩ : MethodName) ∈ e_gd := e_memt t3187 rfl
theorem cX12_872 : Cond.methodLink "LandHouseModel" 872 (⟨"LandHouseModel", "lotsOf", "(II)J"⟩ : MethodName) ∈ e_gd := e_memt t3191 rfl
theorem cX12_885 : Cond.methodLink "LandHouseModel" 885 (⟨"LandHouseModel", "asked", "(IJII)Z"⟩ : MethodName) ∈ e_gd := e_memt t3195 rfl
theorem cX12_878 : Cond.methodLink "LandHouseModel" 878 (⟨"LandHouseModel", "areNear", "(IIII)Z"⟩ : MethodName) ∈ e_gd := e_memt t3199 rfl
theorem cX12_520 : Cond.methodLink "LandHouseModel" 520 (⟨"java/lang/Math", "max", "(II)I"⟩ : MethodName) ∈ e_gd := e_memt t3203 rfl
theorem cX12_889 : Cond.methodLink "LandHouseModel" 889 (⟨"LandHouseModel", "two", "(IJJ)J"⟩ : MethodName) ∈ e_gd := e_memt t3204 rfl
theorem cL_77 : Cond.methodLink "LandHouseLaw" 77 (⟨"LandHouseModel", "answer", "()J"⟩ : MethodName) ∈ e_gd := e_memt t3207 rfl
theorem cL_84 : Cond.methodLink "LandHouseLaw" 84 (⟨"LandHouseModel", "thrown", "()I"⟩ : MethodName) ∈ e_gd := e_memt t3211 rfl
theorem cL_83 : Cond.methodLink "LandHouseLaw" 83 (⟨"LandHouseModel", "octet", "(I)I"⟩ : MethodName) ∈ e_gd := e_memt t3215 rfl
theorem cX12_974 : Cond.methodLink "LandHouseModel" 974 (⟨"LandHouseModel", "throwsIf", "(Z)Z"⟩ : MethodName) ∈ e_gd := e_memt t3219 rfl
theorem cL_90 : Cond.methodLink "LandHouseLaw" 90 (⟨"LandHouseModel", "count", "(I)I"⟩ : MethodName) ∈ e_gd := e_memt t3223 rfl
theorem cX12_978 : Cond.methodLink "LandHouseModel" 978 (⟨"LandHouseModel", "here", "(I)I"⟩ : MethodName) ∈ e_gd := e_memt t3227 rfl
theorem cL_94 : Cond.methodLink "LandHouseLaw" 94 (⟨"LandHouseModel", "name", "(II)J"⟩ : MethodName) ∈ e_gd := e_memt t3231 rfl
theorem cX12_981 : Cond.methodLink "LandHouseModel" 981 (⟨"LandHouseModel", "numbered", "(II)I"⟩ : MethodName) ∈ e_gd := e_memt t3235 rfl
theorem cL_98 : Cond.methodLink "LandHouseLaw" 98 (⟨"LandHouseModel", "thing", "(III)I"⟩ : MethodName) ∈ e_gd := e_memt t3239 rfl
theorem cX12_984 : Cond.methodLink "LandHouseModel" 984 (⟨"LandHouseModel", "toldOf", "(III)I"⟩ : MethodName) ∈ e_gd := e_memt t3243 rfl
theorem cL_101 : Cond.methodLink "LandHouseLaw" 101 (⟨"LandHouseModel", "corner", "(III)I"⟩ : MethodName) ∈ e_gd := e_memt t3247 rfl
theorem cL_104 : Cond.methodLink "LandHouseLaw" 104 (⟨"LandHouseModel", "owner", "(III)I"⟩ : MethodName) ∈ e_gd := e_memt t3251 rfl
theorem cX12_987 : Cond.methodLink "LandHouseModel" 987 (⟨"LandHouseModel", "amongHere", "(I)I"⟩ : MethodName) ∈ e_gd := e_memt t3255 rfl
theorem cL_108 : Cond.methodLink "LandHouseLaw" 108 (⟨"LandHouseModel", "lots", "(III)I"⟩ : MethodName) ∈ e_gd := e_memt t3259 rfl
theorem cL_112 : Cond.methodLink "LandHouseLaw" 112 (⟨"LandHouseModel", "sum", "()J"⟩ : MethodName) ∈ e_gd := e_memt t3263 rfl
theorem cX12_995 : Cond.methodLink "LandHouseModel" 995 (⟨"LandHouseModel", "mix", "(J)V"⟩ : MethodName) ∈ e_gd := e_memt t3267 rfl
theorem hX12_993 : Cond.constantLong "LandHouseModel" 993 (1000003 : Int64) ∈ e_gd := e_memt t3271 rfl
theorem gX12_998 : Cond.fieldLink "LandHouseModel" 998 "LandHouseModel" "TOLD" "[I" ∈ e_gd := e_memt t3272 rfl
theorem cX12_1001 : Cond.methodLink "LandHouseModel" 1001 (⟨"LandHouseModel", "mixLot", "(I)V"⟩ : MethodName) ∈ e_gd := e_memt t3274 rfl
theorem cX12_1004 : Cond.methodLink "LandHouseModel" 1004 (⟨"LandHouseModel", "mixOther", "(II)V"⟩ : MethodName) ∈ e_gd := e_memt t3278 rfl
theorem gJ0_9 : Cond.fieldLink "java/lang/String" 9 "java/lang/String" "value" "[B" ∈ e_gd := e_memt t3283 rfl
theorem gJ0_15 : Cond.fieldLink "java/lang/String" 15 "java/lang/String" "coder" "B" ∈ e_gd := e_memt t3284 rfl
