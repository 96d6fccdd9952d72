theorem ml_L_13 : Cond.methodLink RL 13 yX11_feed ∈ tc_T := tc_mem (List.mem_of_getElem? (i := 619) (by decide +kernel)) (by decide +kernel)
set_option maxRecDepth 100000 in
theorem mw_X11_feed : tc_MW yX11_feed cX11_feed 6 (some .int) 5 := ⟨tc_mem (List.mem_of_getElem? (i := 622) rfl) (by decide +kernel), tc_mem (List.mem_of_getElem? (i := 98) (by decide +kernel)) (by decide +kernel), by decide +kernel⟩
theorem mv_X11_feed : tc_MV yX11_feed 11 := ⟨tc_mem (List.mem_of_getElem? (i := 620) (by decide +kernel)) (by decide +kernel), _, rfl, tc_mem (List.mem_of_getElem? (i := 621) (by decide +kernel)) (by decide +kernel)⟩
theorem ml_L_17 : Cond.methodLink RL 17 yX12_feed ∈ tc_T := tc_mem (List.mem_of_getElem? (i := 1505) (by decide +kernel)) (by decide +kernel)
set_option maxRecDepth 100000 in
theorem mw_X12_feed : tc_MW yX12_feed cX12_feed 8 (some .int) 5 := ⟨tc_mem (List.mem_of_getElem? (i := 1508) rfl) (by decide +kernel), tc_mem (List.mem_of_getElem? (i := 111) (by decide +kernel)) (by decide +kernel), by decide +kernel⟩
theorem mv_X12_feed : tc_MV yX12_feed 12 := ⟨tc_mem (List.mem_of_getElem? (i := 1506) (by decide +kernel)) (by decide +kernel), _, rfl, tc_mem (List.mem_of_getElem? (i := 1507) (by decide +kernel)) (by decide +kernel)⟩
theorem ml_L_18 : Cond.methodLink RL 18 yX11_end ∈ tc_T := tc_mem (List.mem_of_getElem? (i := 627) (by decide +kernel)) (by decide +kernel)
set_option maxRecDepth 100000 in
theorem mw_X11_end : tc_MW yX11_end cX11_end 2 (some .int) 1 := ⟨tc_mem (List.mem_of_getElem? (i := 630) rfl) (by decide +kernel), tc_mem (List.mem_of_getElem? (i := 98) (by decide +kernel)) (by decide +kernel), by decide +kernel⟩
theorem mv_X11_end : tc_MV yX11_end 11 := ⟨tc_mem (List.mem_of_getElem? (i := 628) (by decide +kernel)) (by decide +kernel), _, rfl, tc_mem (List.mem_of_getElem? (i := 629) (by decide +kernel)) (by decide +kernel)⟩
theorem ml_L_22 : Cond.methodLink RL 22 yX12_end ∈ tc_T := tc_mem (List.mem_of_getElem? (i := 1509) (by decide +kernel)) (by decide +kernel)
set_option maxRecDepth 100000 in
theorem mw_X12_end : tc_MW yX12_end cX12_end 2 (some .int) 1 := ⟨tc_mem (List.mem_of_getElem? (i := 1512) rfl) (by decide +kernel), tc_mem (List.mem_of_getElem? (i := 111) (by decide +kernel)) (by decide +kernel), by decide +kernel⟩
theorem mv_X12_end : tc_MV yX12_end 12 := ⟨tc_mem (List.mem_of_getElem? (i := 1510) (by decide +kernel)) (by decide +kernel), _, rfl, tc_mem (List.mem_of_getElem? (i := 1511) (by decide +kernel)) (by decide +kernel)⟩
theorem ml_L_23 : Cond.methodLink RL 23 yX11_text ∈ tc_T := tc_mem (List.mem_of_getElem? (i := 631) (by decide +kernel)) (by decide +kernel)
set_option maxRecDepth 100000 in
theorem mw_X11_text : tc_MW yX11_text cX11_text 2 (some .int) 0 := ⟨tc_mem (List.mem_of_getElem? (i := 634) rfl) (by decide +kernel), tc_mem (List.mem_of_getElem? (i := 98) (by decide +kernel)) (by decide +kernel), by decide +kernel⟩
theorem mv_X11_text : tc_MV yX11_text 11 := ⟨tc_mem (List.mem_of_getElem? (i := 632) (by decide +kernel)) (by decide +kernel), _, rfl, tc_mem (List.mem_of_getElem? (i := 633) (by decide +kernel)) (by decide +kernel)⟩
theorem ml_L_27 : Cond.methodLink RL 27 yX12_text ∈ tc_T := tc_mem (List.mem_of_getElem? (i := 1635) (by decide +kernel)) (by decide +kernel)
set_option maxRecDepth 100000 in
theorem mw_X12_text : tc_MW yX12_text cX12_text 2 (some .int) 0 := ⟨tc_mem (List.mem_of_getElem? (i := 1638) rfl) (by decide +kernel), tc_mem (List.mem_of_getElem? (i := 111) (by decide +kernel)) (by decide +kernel), by decide +kernel⟩
theorem mv_X12_text : tc_MV yX12_text 12 := ⟨tc_mem (List.mem_of_getElem? (i := 1636) (by decide +kernel)) (by decide +kernel), _, rfl, tc_mem (List.mem_of_getElem? (i := 1637) (by decide +kernel)) (by decide +kernel)⟩
theorem ml_L_28 : Cond.methodLink RL 28 yX11_fault ∈ tc_T := tc_mem (List.mem_of_getElem? (i := 887) (by decide +kernel)) (by decide +kernel)
set_option maxRecDepth 100000 in
theorem mw_X11_fault : tc_MW yX11_fault cX11_fault 2 (some .int) 1 := ⟨tc_mem (List.mem_of_getElem? (i := 890) rfl) (by decide +kernel), tc_mem (List.mem_of_getElem? (i := 98) (by decide +kernel)) (by decide +kernel), by decide +kernel⟩
theorem mv_X11_fault : tc_MV yX11_fault 11 := ⟨tc_mem (List.mem_of_getElem? (i := 888) (by decide +kernel)) (by decide +kernel), _, rfl, tc_mem (List.mem_of_getElem? (i := 889) (by decide +kernel)) (by decide +kernel)⟩
theorem ml_L_31 : Cond.methodLink RL 31 yX12_fault ∈ tc_T := tc_mem (List.mem_of_getElem? (i := 1513) (by decide +kernel)) (by decide +kernel)
set_option maxRecDepth 100000 in
theorem mw_X12_fault : tc_MW yX12_fault cX12_fault 2 (some .int) 1 := ⟨tc_mem (List.mem_of_getElem? (i := 1516) rfl) (by decide +kernel), tc_mem (List.mem_of_getElem? (i := 111) (by decide +kernel)) (by decide +kernel), by decide +kernel⟩
theorem mv_X12_fault : tc_MV yX12_fault 12 := ⟨tc_mem (List.mem_of_getElem? (i := 1514) (by decide +kernel)) (by decide +kernel), _, rfl, tc_mem (List.mem_of_getElem? (i := 1515) (by decide +kernel)) (by decide +kernel)⟩
theorem ml_L_32 : Cond.methodLink RL 32 yX11_put ∈ tc_T := tc_mem (List.mem_of_getElem? (i := 891) (by decide +kernel)) (by decide +kernel)
set_option maxRecDepth 100000 in
theorem mw_X11_put : tc_MW yX11_put cX11_put 3 (some .int) 2 := ⟨tc_mem (List.mem_of_getElem? (i := 894) rfl) (by decide +kernel), tc_mem (List.mem_of_getElem? (i := 98) (by decide +kernel)) (by decide +kernel), by decide +kernel⟩
theorem mv_X11_put : tc_MV yX11_put 11 := ⟨tc_mem (List.mem_of_getElem? (i := 892) (by decide +kernel)) (by decide +kernel), _, rfl, tc_mem (List.mem_of_getElem? (i := 893) (by decide +kernel)) (by decide +kernel)⟩
theorem ml_L_36 : Cond.methodLink RL 36 yX12_put ∈ tc_T := tc_mem (List.mem_of_getElem? (i := 1517) (by decide +kernel)) (by decide +kernel)
set_option maxRecDepth 100000 in
theorem mw_X12_put : tc_MW yX12_put cX12_put 3 (some .int) 2 := ⟨tc_mem (List.mem_of_getElem? (i := 1520) rfl) (by decide +kernel), tc_mem (List.mem_of_getElem? (i := 111) (by decide +kernel)) (by decide +kernel), by decide +kernel⟩
theorem mv_X12_put : tc_MV yX12_put 12 := ⟨tc_mem (List.mem_of_getElem? (i := 1518) (by decide +kernel)) (by decide +kernel), _, rfl, tc_mem (List.mem_of_getElem? (i := 1519) (by decide +kernel)) (by decide +kernel)⟩
theorem ml_L_37 : Cond.methodLink RL 37 yX11_get ∈ tc_T := tc_mem (List.mem_of_getElem? (i := 899) (by decide +kernel)) (by decide +kernel)
set_option maxRecDepth 100000 in
theorem mw_X11_get : tc_MW yX11_get cX11_get 4 (some .int) 1 := ⟨tc_mem (List.mem_of_getElem? (i := 902) rfl) (by decide +kernel), tc_mem (List.mem_of_getElem? (i := 98) (by decide +kernel)) (by decide +kernel), by decide +kernel⟩
theorem mv_X11_get : tc_MV yX11_get 11 := ⟨tc_mem (List.mem_of_getElem? (i := 900) (by decide +kernel)) (by decide +kernel), _, rfl, tc_mem (List.mem_of_getElem? (i := 901) (by decide +kernel)) (by decide +kernel)⟩
theorem ml_L_40 : Cond.methodLink RL 40 yX12_get ∈ tc_T := tc_mem (List.mem_of_getElem? (i := 1533) (by decide +kernel)) (by decide +kernel)
set_option maxRecDepth 100000 in
theorem mw_X12_get : tc_MW yX12_get cX12_get 3 (some .int) 1 := ⟨tc_mem (List.mem_of_getElem? (i := 1536) rfl) (by decide +kernel), tc_mem (List.mem_of_getElem? (i := 111) (by decide +kernel)) (by decide +kernel), by decide +kernel⟩
theorem mv_X12_get : tc_MV yX12_get 12 := ⟨tc_mem (List.mem_of_getElem? (i := 1534) (by decide +kernel)) (by decide +kernel), _, rfl, tc_mem (List.mem_of_getElem? (i := 1535) (by decide +kernel)) (by decide +kernel)⟩
theorem ml_L_41 : Cond.methodLink RL 41 yX11_drop ∈ tc_T := tc_mem (List.mem_of_getElem? (i := 912) (by decide +kernel)) (by decide +kernel)
set_option maxRecDepth 100000 in
theorem mw_X11_drop : tc_MW yX11_drop cX11_drop 2 (some .int) 1 := ⟨tc_mem (List.mem_of_getElem? (i := 915) rfl) (by decide +kernel), tc_mem (List.mem_of_getElem? (i := 98) (by decide +kernel)) (by decide +kernel), by decide +kernel⟩
theorem mv_X11_drop : tc_MV yX11_drop 11 := ⟨tc_mem (List.mem_of_getElem? (i := 913) (by decide +kernel)) (by decide +kernel), _, rfl, tc_mem (List.mem_of_getElem? (i := 914) (by decide +kernel)) (by decide +kernel)⟩
theorem ml_L_44 : Cond.methodLink RL 44 yX12_drop ∈ tc_T := tc_mem (List.mem_of_getElem? (i := 1541) (by decide +kernel)) (by decide +kernel)
set_option maxRecDepth 100000 in
theorem mw_X12_drop : tc_MW yX12_drop cX12_drop 2 (some .int) 1 := ⟨tc_mem (List.mem_of_getElem? (i := 1544) rfl) (by decide +kernel), tc_mem (List.mem_of_getElem? (i := 111) (by decide +kernel)) (by decide +kernel), by decide +kernel⟩
theorem mv_X12_drop : tc_MV yX12_drop 12 := ⟨tc_mem (List.mem_of_getElem? (i := 1542) (by decide +kernel)) (by decide +kernel), _, rfl, tc_mem (List.mem_of_getElem? (i := 1543) (by decide +kernel)) (by decide +kernel)⟩
theorem ml_L_45 : Cond.methodLink RL 45 yX11_settle ∈ tc_T := tc_mem (List.mem_of_getElem? (i := 936) (by decide +kernel)) (by decide +kernel)
set_option maxRecDepth 100000 in
theorem mw_X11_settle : tc_MW yX11_settle cX11_settle 1 (some .int) 0 := ⟨tc_mem (List.mem_of_getElem? (i := 939) rfl) (by decide +kernel), tc_mem (List.mem_of_getElem? (i := 98) (by decide +kernel)) (by decide +kernel), by decide +kernel⟩
theorem mv_X11_settle : tc_MV yX11_settle 11 := ⟨tc_mem (List.mem_of_getElem? (i := 937) (by decide +kernel)) (by decide +kernel), _, rfl, tc_mem (List.mem_of_getElem? (i := 938) (by decide +kernel)) (by decide +kernel)⟩
theorem ml_L_48 : Cond.methodLink RL 48 yX12_settle ∈ tc_T := tc_mem (List.mem_of_getElem? (i := 1304) (by decide +kernel)) (by decide +kernel)
set_option maxRecDepth 100000 in
theorem mw_X12_settle : tc_MW yX12_settle cX12_settle 6 (some .int) 0 := ⟨tc_mem (List.mem_of_getElem? (i := 1307) rfl) (by decide +kernel), tc_mem (List.mem_of_getElem? (i := 111) (by decide +kernel)) (by decide +kernel), by decide +kernel⟩
theorem mv_X12_settle : tc_MV yX12_settle 12 := ⟨tc_mem (List.mem_of_getElem? (i := 1305) (by decide +kernel)) (by decide +kernel), _, rfl, tc_mem (List.mem_of_getElem? (i := 1306) (by decide +kernel)) (by decide +kernel)⟩
theorem ml_L_49 : Cond.methodLink RL 49 yX11_rehash ∈ tc_T := tc_mem (List.mem_of_getElem? (i := 941) (by decide +kernel)) (by decide +kernel)
set_option maxRecDepth 100000 in
theorem mw_X11_rehash : tc_MW yX11_rehash cX11_rehash 5 (some .boolean) 4 := ⟨tc_mem (List.mem_of_getElem? (i := 944) rfl) (by decide +kernel), tc_mem (List.mem_of_getElem? (i := 98) (by decide +kernel)) (by decide +kernel), by decide +kernel⟩
theorem mv_X11_rehash : tc_MV yX11_rehash 11 := ⟨tc_mem (List.mem_of_getElem? (i := 942) (by decide +kernel)) (by decide +kernel), _, rfl, tc_mem (List.mem_of_getElem? (i := 943) (by decide +kernel)) (by decide +kernel)⟩
theorem ml_L_53 : Cond.methodLink RL 53 yX12_rehash ∈ tc_T := tc_mem (List.mem_of_getElem? (i := 1427) (by decide +kernel)) (by decide +kernel)
set_option maxRecDepth 100000 in
theorem mw_X12_rehash : tc_MW yX12_rehash cX12_rehash 6 (some .boolean) 4 := ⟨tc_mem (List.mem_of_getElem? (i := 1430) rfl) (by decide +kernel), tc_mem (List.mem_of_getElem? (i := 111) (by decide +kernel)) (by decide +kernel), by decide +kernel⟩
theorem mv_X12_rehash : tc_MV yX12_rehash 12 := ⟨tc_mem (List.mem_of_getElem? (i := 1428) (by decide +kernel)) (by decide +kernel), _, rfl, tc_mem (List.mem_of_getElem? (i := 1429) (by decide +kernel)) (by decide +kernel)⟩
theorem ml_L_54 : Cond.methodLink RL 54 yX11_batch ∈ tc_T := tc_mem (List.mem_of_getElem? (i := 953) (by decide +kernel)) (by decide +kernel)
set_option maxRecDepth 100000 in
theorem mw_X11_batch : tc_MW yX11_batch cX11_batch 1 (some .boolean) 0 := ⟨tc_mem (List.mem_of_getElem? (i := 956) rfl) (by decide +kernel), tc_mem (List.mem_of_getElem? (i := 98) (by decide +kernel)) (by decide +kernel), by decide +kernel⟩
theorem mv_X11_batch : tc_MV yX11_batch 11 := ⟨tc_mem (List.mem_of_getElem? (i := 954) (by decide +kernel)) (by decide +kernel), _, rfl, tc_mem (List.mem_of_getElem? (i := 955) (by decide +kernel)) (by decide +kernel)⟩
theorem ml_L_58 : Cond.methodLink RL 58 yX12_batch ∈ tc_T := tc_mem (List.mem_of_getElem? (i := 1359) (by decide +kernel)) (by decide +kernel)
set_option maxRecDepth 100000 in
theorem mw_X12_batch : tc_MW yX12_batch cX12_batch 3 (some .boolean) 0 := ⟨tc_mem (List.mem_of_getElem? (i := 1362) rfl) (by decide +kernel), tc_mem (List.mem_of_getElem? (i := 111) (by decide +kernel)) (by decide +kernel), by decide +kernel⟩
theorem mv_X12_batch : tc_MV yX12_batch 12 := ⟨tc_mem (List.mem_of_getElem? (i := 1360) (by decide +kernel)) (by decide +kernel), _, rfl, tc_mem (List.mem_of_getElem? (i := 1361) (by decide +kernel)) (by decide +kernel)⟩
theorem ml_L_59 : Cond.methodLink RL 59 yX11_peel ∈ tc_T := tc_mem (List.mem_of_getElem? (i := 983) (by decide +kernel)) (by decide +kernel)
set_option maxRecDepth 100000 in
theorem mw_X11_peel : tc_MW yX11_peel cX11_peel 3 (some .int) 2 := ⟨tc_mem (List.mem_of_getElem? (i := 986) rfl) (by decide +kernel), tc_mem (List.mem_of_getElem? (i := 98) (by decide +kernel)) (by decide +kernel), by decide +kernel⟩
theorem mv_X11_peel : tc_MV yX11_peel 11 := ⟨tc_mem (List.mem_of_getElem? (i := 984) (by decide +kernel)) (by decide +kernel), _, rfl, tc_mem (List.mem_of_getElem? (i := 985) (by decide +kernel)) (by decide +kernel)⟩
theorem ml_L_62 : Cond.methodLink RL 62 yX12_peel ∈ tc_T := tc_mem (List.mem_of_getElem? (i := 1423) (by decide +kernel)) (by decide +kernel)
set_option maxRecDepth 100000 in
theorem mw_X12_peel : tc_MW yX12_peel cX12_peel 3 (some .int) 2 := ⟨tc_mem (List.mem_of_getElem? (i := 1426) rfl) (by decide +kernel), tc_mem (List.mem_of_getElem? (i := 111) (by decide +kernel)) (by decide +kernel), by decide +kernel⟩
theorem mv_X12_peel : tc_MV yX12_peel 12 := ⟨tc_mem (List.mem_of_getElem? (i := 1424) (by decide +kernel)) (by decide +kernel), _, rfl, tc_mem (List.mem_of_getElem? (i := 1425) (by decide +kernel)) (by decide +kernel)⟩
theorem ml_L_63 : Cond.methodLink RL 63 yX11_load ∈ tc_T := tc_mem (List.mem_of_getElem? (i := 988) (by decide +kernel)) (by decide +kernel)
set_option maxRecDepth 100000 in
theorem mw_X11_load : tc_MW yX11_load cX11_load 3 (some .int) 2 := ⟨tc_mem (List.mem_of_getElem? (i := 991) rfl) (by decide +kernel), tc_mem (List.mem_of_getElem? (i := 98) (by decide +kernel)) (by decide +kernel), by decide +kernel⟩
theorem mv_X11_load : tc_MV yX11_load 11 := ⟨tc_mem (List.mem_of_getElem? (i := 989) (by decide +kernel)) (by decide +kernel), _, rfl, tc_mem (List.mem_of_getElem? (i := 990) (by decide +kernel)) (by decide +kernel)⟩
theorem ml_L_66 : Cond.methodLink RL 66 yX12_load ∈ tc_T := tc_mem (List.mem_of_getElem? (i := 1549) (by decide +kernel)) (by decide +kernel)
set_option maxRecDepth 100000 in
theorem mw_X12_load : tc_MW yX12_load cX12_load 3 (some .int) 2 := ⟨tc_mem (List.mem_of_getElem? (i := 1552) rfl) (by decide +kernel), tc_mem (List.mem_of_getElem? (i := 111) (by decide +kernel)) (by decide +kernel), by decide +kernel⟩
theorem mv_X12_load : tc_MV yX12_load 12 := ⟨tc_mem (List.mem_of_getElem? (i := 1550) (by decide +kernel)) (by decide +kernel), _, rfl, tc_mem (List.mem_of_getElem? (i := 1551) (by decide +kernel)) (by decide +kernel)⟩
theorem ml_L_67 : Cond.methodLink RL 67 yX11_find ∈ tc_T := tc_mem (List.mem_of_getElem? (i := 1002) (by decide +kernel)) (by decide +kernel)
set_option maxRecDepth 100000 in
theorem mw_X11_find : tc_MW yX11_find cX11_find 6 (some .int) 2 := ⟨tc_mem (List.mem_of_getElem? (i := 1005) rfl) (by decide +kernel), tc_mem (List.mem_of_getElem? (i := 98) (by decide +kernel)) (by decide +kernel), by decide +kernel⟩
theorem mv_X11_find : tc_MV yX11_find 11 := ⟨tc_mem (List.mem_of_getElem? (i := 1003) (by decide +kernel)) (by decide +kernel), _, rfl, tc_mem (List.mem_of_getElem? (i := 1004) (by decide +kernel)) (by decide +kernel)⟩
theorem ml_L_70 : Cond.methodLink RL 70 yX12_find ∈ tc_T := tc_mem (List.mem_of_getElem? (i := 1557) (by decide +kernel)) (by decide +kernel)
set_option maxRecDepth 100000 in
theorem mw_X12_find : tc_MW yX12_find cX12_find 4 (some .int) 2 := ⟨tc_mem (List.mem_of_getElem? (i := 1560) rfl) (by decide +kernel), tc_mem (List.mem_of_getElem? (i := 111) (by decide +kernel)) (by decide +kernel), by decide +kernel⟩
theorem mv_X12_find : tc_MV yX12_find 12 := ⟨tc_mem (List.mem_of_getElem? (i := 1558) (by decide +kernel)) (by decide +kernel), _, rfl, tc_mem (List.mem_of_getElem? (i := 1559) (by decide +kernel)) (by decide +kernel)⟩
theorem ml_L_71 : Cond.methodLink RL 71 yX11_at ∈ tc_T := tc_mem (List.mem_of_getElem? (i := 1012) (by decide +kernel)) (by decide +kernel)
set_option maxRecDepth 100000 in
theorem mw_X11_at : tc_MW yX11_at cX11_at 6 (some .int) 3 := ⟨tc_mem (List.mem_of_getElem? (i := 1015) rfl) (by decide +kernel), tc_mem (List.mem_of_getElem? (i := 98) (by decide +kernel)) (by decide +kernel), by decide +kernel⟩
theorem mv_X11_at : tc_MV yX11_at 11 := ⟨tc_mem (List.mem_of_getElem? (i := 1013) (by decide +kernel)) (by decide +kernel), _, rfl, tc_mem (List.mem_of_getElem? (i := 1014) (by decide +kernel)) (by decide +kernel)⟩
theorem ml_L_75 : Cond.methodLink RL 75 yX12_at ∈ tc_T := tc_mem (List.mem_of_getElem? (i := 1573) (by decide +kernel)) (by decide +kernel)
set_option maxRecDepth 100000 in
theorem mw_X12_at : tc_MW yX12_at cX12_at 6 (some .int) 3 := ⟨tc_mem (List.mem_of_getElem? (i := 1576) rfl) (by decide +kernel), tc_mem (List.mem_of_getElem? (i := 111) (by decide +kernel)) (by decide +kernel), by decide +kernel⟩
theorem mv_X12_at : tc_MV yX12_at 12 := ⟨tc_mem (List.mem_of_getElem? (i := 1574) (by decide +kernel)) (by decide +kernel), _, rfl, tc_mem (List.mem_of_getElem? (i := 1575) (by decide +kernel)) (by decide +kernel)⟩
theorem ml_L_76 : Cond.methodLink RL 76 yX11_hash ∈ tc_T := tc_mem (List.mem_of_getElem? (i := 1024) (by decide +kernel)) (by decide +kernel)
set_option maxRecDepth 100000 in
theorem mw_X11_hash : tc_MW yX11_hash cX11_hash 4 (some .int) 2 := ⟨tc_mem (List.mem_of_getElem? (i := 1027) rfl) (by decide +kernel), tc_mem (List.mem_of_getElem? (i := 98) (by decide +kernel)) (by decide +kernel), by decide +kernel⟩
theorem mv_X11_hash : tc_MV yX11_hash 11 := ⟨tc_mem (List.mem_of_getElem? (i := 1025) (by decide +kernel)) (by decide +kernel), _, rfl, tc_mem (List.mem_of_getElem? (i := 1026) (by decide +kernel)) (by decide +kernel)⟩
theorem ml_L_80 : Cond.methodLink RL 80 yX12_hash ∈ tc_T := tc_mem (List.mem_of_getElem? (i := 1577) (by decide +kernel)) (by decide +kernel)
set_option maxRecDepth 100000 in
theorem mw_X12_hash : tc_MW yX12_hash cX12_hash 3 (some .int) 2 := ⟨tc_mem (List.mem_of_getElem? (i := 1580) rfl) (by decide +kernel), tc_mem (List.mem_of_getElem? (i := 111) (by decide +kernel)) (by decide +kernel), by decide +kernel⟩
theorem mv_X12_hash : tc_MV yX12_hash 12 := ⟨tc_mem (List.mem_of_getElem? (i := 1578) (by decide +kernel)) (by decide +kernel), _, rfl, tc_mem (List.mem_of_getElem? (i := 1579) (by decide +kernel)) (by decide +kernel)⟩
theorem ml_L_81 : Cond.methodLink RL 81 yX11_chain ∈ tc_T := tc_mem (List.mem_of_getElem? (i := 1030) (by decide +kernel)) (by decide +kernel)
set_option maxRecDepth 100000 in
theorem mw_X11_chain : tc_MW yX11_chain cX11_chain 6 (some .int) 2 := ⟨tc_mem (List.mem_of_getElem? (i := 1033) rfl) (by decide +kernel), tc_mem (List.mem_of_getElem? (i := 98) (by decide +kernel)) (by decide +kernel), by decide +kernel⟩
theorem mv_X11_chain : tc_MV yX11_chain 11 := ⟨tc_mem (List.mem_of_getElem? (i := 1031) (by decide +kernel)) (by decide +kernel), _, rfl, tc_mem (List.mem_of_getElem? (i := 1032) (by decide +kernel)) (by decide +kernel)⟩
theorem ml_L_84 : Cond.methodLink RL 84 yX12_chain ∈ tc_T := tc_mem (List.mem_of_getElem? (i := 1581) (by decide +kernel)) (by decide +kernel)
set_option maxRecDepth 100000 in
theorem mw_X12_chain : tc_MW yX12_chain cX12_chain 4 (some .int) 2 := ⟨tc_mem (List.mem_of_getElem? (i := 1584) rfl) (by decide +kernel), tc_mem (List.mem_of_getElem? (i := 111) (by decide +kernel)) (by decide +kernel), by decide +kernel⟩
theorem mv_X12_chain : tc_MV yX12_chain 12 := ⟨tc_mem (List.mem_of_getElem? (i := 1582) (by decide +kernel)) (by decide +kernel), _, rfl, tc_mem (List.mem_of_getElem? (i := 1583) (by decide +kernel)) (by decide +kernel)⟩
theorem ml_L_85 : Cond.methodLink RL 85 yX11_would ∈ tc_T := tc_mem (List.mem_of_getElem? (i := 1035) (by decide +kernel)) (by decide +kernel)
set_option maxRecDepth 100000 in
theorem mw_X11_would : tc_MW yX11_would cX11_would 2 (some .int) 1 := ⟨tc_mem (List.mem_of_getElem? (i := 1038) rfl) (by decide +kernel), tc_mem (List.mem_of_getElem? (i := 98) (by decide +kernel)) (by decide +kernel), by decide +kernel⟩
theorem mv_X11_would : tc_MV yX11_would 11 := ⟨tc_mem (List.mem_of_getElem? (i := 1036) (by decide +kernel)) (by decide +kernel), _, rfl, tc_mem (List.mem_of_getElem? (i := 1037) (by decide +kernel)) (by decide +kernel)⟩
theorem ml_L_88 : Cond.methodLink RL 88 yX12_would ∈ tc_T := tc_mem (List.mem_of_getElem? (i := 1585) (by decide +kernel)) (by decide +kernel)
theorem ml_L_89 : Cond.methodLink RL 89 yX11_part ∈ tc_T := tc_mem (List.mem_of_getElem? (i := 1043) (by decide +kernel)) (by decide +kernel)
set_option maxRecDepth 100000 in
theorem mw_X11_part : tc_MW yX11_part cX11_part 5 (some .int) 2 := ⟨tc_mem (List.mem_of_getElem? (i := 1046) rfl) (by decide +kernel), tc_mem (List.mem_of_getElem? (i := 98) (by decide +kernel)) (by decide +kernel), by decide +kernel⟩
theorem mv_X11_part : tc_MV yX11_part 11 := ⟨tc_mem (List.mem_of_getElem? (i := 1044) (by decide +kernel)) (by decide +kernel), _, rfl, tc_mem (List.mem_of_getElem? (i := 1045) (by decide +kernel)) (by decide +kernel)⟩
theorem ml_L_92 : Cond.methodLink RL 92 yX12_part ∈ tc_T := tc_mem (List.mem_of_getElem? (i := 1486) (by decide +kernel)) (by decide +kernel)
set_option maxRecDepth 100000 in
theorem mw_X12_part : tc_MW yX12_part cX12_part 8 (some .int) 2 := ⟨tc_mem (List.mem_of_getElem? (i := 1489) rfl) (by decide +kernel), tc_mem (List.mem_of_getElem? (i := 111) (by decide +kernel)) (by decide +kernel), by decide +kernel⟩
theorem mv_X12_part : tc_MV yX12_part 12 := ⟨tc_mem (List.mem_of_getElem? (i := 1487) (by decide +kernel)) (by decide +kernel), _, rfl, tc_mem (List.mem_of_getElem? (i := 1488) (by decide +kernel)) (by decide +kernel)⟩
theorem ml_L_93 : Cond.methodLink RL 93 yX11_fits ∈ tc_T := tc_mem (List.mem_of_getElem? (i := 1067) (by decide +kernel)) (by decide +kernel)
set_option maxRecDepth 100000 in
theorem mw_X11_fits : tc_MW yX11_fits cX11_fits 3 (some .boolean) 1 := ⟨tc_mem (List.mem_of_getElem? (i := 1070) rfl) (by decide +kernel), tc_mem (List.mem_of_getElem? (i := 98) (by decide +kernel)) (by decide +kernel), by decide +kernel⟩
theorem mv_X11_fits : tc_MV yX11_fits 11 := ⟨tc_mem (List.mem_of_getElem? (i := 1068) (by decide +kernel)) (by decide +kernel), _, rfl, tc_mem (List.mem_of_getElem? (i := 1069) (by decide +kernel)) (by decide +kernel)⟩
theorem ml_L_97 : Cond.methodLink RL 97 yX12_fits ∈ tc_T := tc_mem (List.mem_of_getElem? (i := 1459) (by decide +kernel)) (by decide +kernel)
set_option maxRecDepth 100000 in
theorem mw_X12_fits : tc_MW yX12_fits cX12_fits 2 (some .boolean) 1 := ⟨tc_mem (List.mem_of_getElem? (i := 1462) rfl) (by decide +kernel), tc_mem (List.mem_of_getElem? (i := 111) (by decide +kernel)) (by decide +kernel), by decide +kernel⟩
theorem mv_X12_fits : tc_MV yX12_fits 12 := ⟨tc_mem (List.mem_of_getElem? (i := 1460) (by decide +kernel)) (by decide +kernel), _, rfl, tc_mem (List.mem_of_getElem? (i := 1461) (by decide +kernel)) (by decide +kernel)⟩
theorem ml_L_98 : Cond.methodLink RL 98 yX11_over ∈ tc_T := tc_mem (List.mem_of_getElem? (i := 1096) (by decide +kernel)) (by decide +kernel)
set_option maxRecDepth 100000 in
theorem mw_X11_over : tc_MW yX11_over cX11_over 1 (some .int) 0 := ⟨tc_mem (List.mem_of_getElem? (i := 1099) rfl) (by decide +kernel), tc_mem (List.mem_of_getElem? (i := 98) (by decide +kernel)) (by decide +kernel), by decide +kernel⟩
theorem mv_X11_over : tc_MV yX11_over 11 := ⟨tc_mem (List.mem_of_getElem? (i := 1097) (by decide +kernel)) (by decide +kernel), _, rfl, tc_mem (List.mem_of_getElem? (i := 1098) (by decide +kernel)) (by decide +kernel)⟩
theorem ml_L_101 : Cond.methodLink RL 101 yX12_over ∈ tc_T := tc_mem (List.mem_of_getElem? (i := 1435) (by decide +kernel)) (by decide +kernel)
set_option maxRecDepth 100000 in
theorem mw_X12_over : tc_MW yX12_over cX12_over 1 (some .int) 0 := ⟨tc_mem (List.mem_of_getElem? (i := 1438) rfl) (by decide +kernel), tc_mem (List.mem_of_getElem? (i := 111) (by decide +kernel)) (by decide +kernel), by decide +kernel⟩
theorem mv_X12_over : tc_MV yX12_over 12 := ⟨tc_mem (List.mem_of_getElem? (i := 1436) (by decide +kernel)) (by decide +kernel), _, rfl, tc_mem (List.mem_of_getElem? (i := 1437) (by decide +kernel)) (by decide +kernel)⟩
theorem ml_L_102 : Cond.methodLink RL 102 yX11_least ∈ tc_T := tc_mem (List.mem_of_getElem? (i := 1101) (by decide +kernel)) (by decide +kernel)
set_option maxRecDepth 100000 in
theorem mw_X11_least : tc_MW yX11_least cX11_least 2 (some .int) 1 := ⟨tc_mem (List.mem_of_getElem? (i := 1104) rfl) (by decide +kernel), tc_mem (List.mem_of_getElem? (i := 98) (by decide +kernel)) (by decide +kernel), by decide +kernel⟩
theorem mv_X11_least : tc_MV yX11_least 11 := ⟨tc_mem (List.mem_of_getElem? (i := 1102) (by decide +kernel)) (by decide +kernel), _, rfl, tc_mem (List.mem_of_getElem? (i := 1103) (by decide +kernel)) (by decide +kernel)⟩
theorem ml_L_105 : Cond.methodLink RL 105 yX12_least ∈ tc_T := tc_mem (List.mem_of_getElem? (i := 1474) (by decide +kernel)) (by decide +kernel)
set_option maxRecDepth 100000 in
theorem mw_X12_least : tc_MW yX12_least cX12_least 4 (some .int) 1 := ⟨tc_mem (List.mem_of_getElem? (i := 1477) rfl) (by decide +kernel), tc_mem (List.mem_of_getElem? (i := 111) (by decide +kernel)) (by decide +kernel), by decide +kernel⟩
theorem mv_X12_least : tc_MV yX12_least 12 := ⟨tc_mem (List.mem_of_getElem? (i := 1475) (by decide +kernel)) (by decide +kernel), _, rfl, tc_mem (List.mem_of_getElem? (i := 1476) (by decide +kernel)) (by decide +kernel)⟩
theorem ml_L_106 : Cond.methodLink RL 106 yX11_key ∈ tc_T := tc_mem (List.mem_of_getElem? (i := 1119) (by decide +kernel)) (by decide +kernel)
set_option maxRecDepth 100000 in
theorem mw_X11_key : tc_MW yX11_key cX11_key 3 (some .int) 2 := ⟨tc_mem (List.mem_of_getElem? (i := 1122) rfl) (by decide +kernel), tc_mem (List.mem_of_getElem? (i := 98) (by decide +kernel)) (by decide +kernel), by decide +kernel⟩
theorem mv_X11_key : tc_MV yX11_key 11 := ⟨tc_mem (List.mem_of_getElem? (i := 1120) (by decide +kernel)) (by decide +kernel), _, rfl, tc_mem (List.mem_of_getElem? (i := 1121) (by decide +kernel)) (by decide +kernel)⟩
theorem ml_L_109 : Cond.methodLink RL 109 yX12_key ∈ tc_T := tc_mem (List.mem_of_getElem? (i := 1594) (by decide +kernel)) (by decide +kernel)
set_option maxRecDepth 100000 in
theorem mw_X12_key : tc_MW yX12_key cX12_key 6 (some .int) 2 := ⟨tc_mem (List.mem_of_getElem? (i := 1597) rfl) (by decide +kernel), tc_mem (List.mem_of_getElem? (i := 111) (by decide +kernel)) (by decide +kernel), by decide +kernel⟩
theorem mv_X12_key : tc_MV yX12_key 12 := ⟨tc_mem (List.mem_of_getElem? (i := 1595) (by decide +kernel)) (by decide +kernel), _, rfl, tc_mem (List.mem_of_getElem? (i := 1596) (by decide +kernel)) (by decide +kernel)⟩
theorem ml_L_110 : Cond.methodLink RL 110 yX11_count ∈ tc_T := tc_mem (List.mem_of_getElem? (i := 1124) (by decide +kernel)) (by decide +kernel)
set_option maxRecDepth 100000 in
theorem mw_X11_count : tc_MW yX11_count cX11_count 2 (some .int) 1 := ⟨tc_mem (List.mem_of_getElem? (i := 1127) rfl) (by decide +kernel), tc_mem (List.mem_of_getElem? (i := 98) (by decide +kernel)) (by decide +kernel), by decide +kernel⟩
theorem mv_X11_count : tc_MV yX11_count 11 := ⟨tc_mem (List.mem_of_getElem? (i := 1125) (by decide +kernel)) (by decide +kernel), _, rfl, tc_mem (List.mem_of_getElem? (i := 1126) (by decide +kernel)) (by decide +kernel)⟩
theorem ml_L_113 : Cond.methodLink RL 113 yX12_count ∈ tc_T := tc_mem (List.mem_of_getElem? (i := 1606) (by decide +kernel)) (by decide +kernel)
theorem ml_L_114 : Cond.methodLink RL 114 yX11_filled ∈ tc_T := tc_mem (List.mem_of_getElem? (i := 1153) (by decide +kernel)) (by decide +kernel)
set_option maxRecDepth 100000 in
theorem mw_X11_filled : tc_MW yX11_filled cX11_filled 5 (some .int) 1 := ⟨tc_mem (List.mem_of_getElem? (i := 1156) rfl) (by decide +kernel), tc_mem (List.mem_of_getElem? (i := 98) (by decide +kernel)) (by decide +kernel), by decide +kernel⟩
theorem mv_X11_filled : tc_MV yX11_filled 11 := ⟨tc_mem (List.mem_of_getElem? (i := 1154) (by decide +kernel)) (by decide +kernel), _, rfl, tc_mem (List.mem_of_getElem? (i := 1155) (by decide +kernel)) (by decide +kernel)⟩
theorem ml_L_117 : Cond.methodLink RL 117 yX12_filled ∈ tc_T := tc_mem (List.mem_of_getElem? (i := 1598) (by decide +kernel)) (by decide +kernel)
set_option maxRecDepth 100000 in
theorem mw_X12_filled : tc_MW yX12_filled cX12_filled 4 (some .int) 1 := ⟨tc_mem (List.mem_of_getElem? (i := 1601) rfl) (by decide +kernel), tc_mem (List.mem_of_getElem? (i := 111) (by decide +kernel)) (by decide +kernel), by decide +kernel⟩
theorem mv_X12_filled : tc_MV yX12_filled 12 := ⟨tc_mem (List.mem_of_getElem? (i := 1599) (by decide +kernel)) (by decide +kernel), _, rfl, tc_mem (List.mem_of_getElem? (i := 1600) (by decide +kernel)) (by decide +kernel)⟩
theorem ml_L_118 : Cond.methodLink RL 118 yX11_restless ∈ tc_T := tc_mem (List.mem_of_getElem? (i := 1157) (by decide +kernel)) (by decide +kernel)
set_option maxRecDepth 100000 in
theorem mw_X11_restless : tc_MW yX11_restless cX11_restless 5 (some .int) 0 := ⟨tc_mem (List.mem_of_getElem? (i := 1160) rfl) (by decide +kernel), tc_mem (List.mem_of_getElem? (i := 98) (by decide +kernel)) (by decide +kernel), by decide +kernel⟩
theorem mv_X11_restless : tc_MV yX11_restless 11 := ⟨tc_mem (List.mem_of_getElem? (i := 1158) (by decide +kernel)) (by decide +kernel), _, rfl, tc_mem (List.mem_of_getElem? (i := 1159) (by decide +kernel)) (by decide +kernel)⟩
theorem ml_L_121 : Cond.methodLink RL 121 yX12_restless ∈ tc_T := tc_mem (List.mem_of_getElem? (i := 1602) (by decide +kernel)) (by decide +kernel)
set_option maxRecDepth 100000 in
theorem mw_X12_restless : tc_MW yX12_restless cX12_restless 5 (some .int) 0 := ⟨tc_mem (List.mem_of_getElem? (i := 1605) rfl) (by decide +kernel), tc_mem (List.mem_of_getElem? (i := 111) (by decide +kernel)) (by decide +kernel), by decide +kernel⟩
theorem mv_X12_restless : tc_MV yX12_restless 12 := ⟨tc_mem (List.mem_of_getElem? (i := 1603) (by decide +kernel)) (by decide +kernel), _, rfl, tc_mem (List.mem_of_getElem? (i := 1604) (by decide +kernel)) (by decide +kernel)⟩
theorem ml_L_122 : Cond.methodLink RL 122 yX11_which ∈ tc_T := tc_mem (List.mem_of_getElem? (i := 1161) (by decide +kernel)) (by decide +kernel)
set_option maxRecDepth 100000 in
theorem mw_X11_which : tc_MW yX11_which cX11_which 3 (some .int) 1 := ⟨tc_mem (List.mem_of_getElem? (i := 1164) rfl) (by decide +kernel), tc_mem (List.mem_of_getElem? (i := 98) (by decide +kernel)) (by decide +kernel), by decide +kernel⟩
theorem mv_X11_which : tc_MV yX11_which 11 := ⟨tc_mem (List.mem_of_getElem? (i := 1162) (by decide +kernel)) (by decide +kernel), _, rfl, tc_mem (List.mem_of_getElem? (i := 1163) (by decide +kernel)) (by decide +kernel)⟩
theorem ml_L_125 : Cond.methodLink RL 125 yX12_which ∈ tc_T := tc_mem (List.mem_of_getElem? (i := 1589) (by decide +kernel)) (by decide +kernel)
set_option maxRecDepth 100000 in
theorem mw_X12_which : tc_MW yX12_which cX12_which 3 (some .int) 1 := ⟨tc_mem (List.mem_of_getElem? (i := 1592) rfl) (by decide +kernel), tc_mem (List.mem_of_getElem? (i := 111) (by decide +kernel)) (by decide +kernel), by decide +kernel⟩
theorem mv_X12_which : tc_MV yX12_which 12 := ⟨tc_mem (List.mem_of_getElem? (i := 1590) (by decide +kernel)) (by decide +kernel), _, rfl, tc_mem (List.mem_of_getElem? (i := 1591) (by decide +kernel)) (by decide +kernel)⟩
theorem ml_L_126 : Cond.methodLink RL 126 yX11_tried ∈ tc_T := tc_mem (List.mem_of_getElem? (i := 1165) (by decide +kernel)) (by decide +kernel)
set_option maxRecDepth 100000 in
theorem mw_X11_tried : tc_MW yX11_tried cX11_tried 4 (some .int) 3 := ⟨tc_mem (List.mem_of_getElem? (i := 1168) rfl) (by decide +kernel), tc_mem (List.mem_of_getElem? (i := 98) (by decide +kernel)) (by decide +kernel), by decide +kernel⟩
theorem mv_X11_tried : tc_MV yX11_tried 11 := ⟨tc_mem (List.mem_of_getElem? (i := 1166) (by decide +kernel)) (by decide +kernel), _, rfl, tc_mem (List.mem_of_getElem? (i := 1167) (by decide +kernel)) (by decide +kernel)⟩
theorem ml_L_129 : Cond.methodLink RL 129 yX12_tried ∈ tc_T := tc_mem (List.mem_of_getElem? (i := 1630) (by decide +kernel)) (by decide +kernel)
set_option maxRecDepth 100000 in
theorem mw_X12_tried : tc_MW yX12_tried cX12_tried 6 (some .int) 3 := ⟨tc_mem (List.mem_of_getElem? (i := 1633) rfl) (by decide +kernel), tc_mem (List.mem_of_getElem? (i := 111) (by decide +kernel)) (by decide +kernel), by decide +kernel⟩
theorem mv_X12_tried : tc_MV yX12_tried 12 := ⟨tc_mem (List.mem_of_getElem? (i := 1631) (by decide +kernel)) (by decide +kernel), _, rfl, tc_mem (List.mem_of_getElem? (i := 1632) (by decide +kernel)) (by decide +kernel)⟩
theorem ml_L_130 : Cond.methodLink RL 130 yX11_lost ∈ tc_T := tc_mem (List.mem_of_getElem? (i := 1169) (by decide +kernel)) (by decide +kernel)
set_option maxRecDepth 100000 in
theorem mw_X11_lost : tc_MW yX11_lost cX11_lost 9 (some .int) 1 := ⟨tc_mem (List.mem_of_getElem? (i := 1172) rfl) (by decide +kernel), tc_mem (List.mem_of_getElem? (i := 98) (by decide +kernel)) (by decide +kernel), by decide +kernel⟩
theorem mv_X11_lost : tc_MV yX11_lost 11 := ⟨tc_mem (List.mem_of_getElem? (i := 1170) (by decide +kernel)) (by decide +kernel), _, rfl, tc_mem (List.mem_of_getElem? (i := 1171) (by decide +kernel)) (by decide +kernel)⟩
theorem ml_L_133 : Cond.methodLink RL 133 yX12_lost ∈ tc_T := tc_mem (List.mem_of_getElem? (i := 1720) (by decide +kernel)) (by decide +kernel)
set_option maxRecDepth 100000 in
theorem mw_X12_lost : tc_MW yX12_lost cX12_lost 5 (some .int) 1 := ⟨tc_mem (List.mem_of_getElem? (i := 1723) rfl) (by decide +kernel), tc_mem (List.mem_of_getElem? (i := 111) (by decide +kernel)) (by decide +kernel), by decide +kernel⟩
theorem mv_X12_lost : tc_MV yX12_lost 12 := ⟨tc_mem (List.mem_of_getElem? (i := 1721) (by decide +kernel)) (by decide +kernel), _, rfl, tc_mem (List.mem_of_getElem? (i := 1722) (by decide +kernel)) (by decide +kernel)⟩
theorem ml_L_134 : Cond.methodLink RL 134 yX11_image ∈ tc_T := tc_mem (List.mem_of_getElem? (i := 1177) (by decide +kernel)) (by decide +kernel)
set_option maxRecDepth 100000 in
theorem mw_X11_image : tc_MW yX11_image cX11_image 2 (some .boolean) 1 := ⟨tc_mem (List.mem_of_getElem? (i := 1180) rfl) (by decide +kernel), tc_mem (List.mem_of_getElem? (i := 98) (by decide +kernel)) (by decide +kernel), by decide +kernel⟩
theorem mv_X11_image : tc_MV yX11_image 11 := ⟨tc_mem (List.mem_of_getElem? (i := 1178) (by decide +kernel)) (by decide +kernel), _, rfl, tc_mem (List.mem_of_getElem? (i := 1179) (by decide +kernel)) (by decide +kernel)⟩
theorem ml_L_137 : Cond.methodLink RL 137 yX12_image ∈ tc_T := tc_mem (List.mem_of_getElem? (i := 1724) (by decide +kernel)) (by decide +kernel)
set_option maxRecDepth 100000 in
theorem mw_X12_image : tc_MW yX12_image cX12_image 4 (some .boolean) 1 := ⟨tc_mem (List.mem_of_getElem? (i := 1727) rfl) (by decide +kernel), tc_mem (List.mem_of_getElem? (i := 111) (by decide +kernel)) (by decide +kernel), by decide +kernel⟩
theorem mv_X12_image : tc_MV yX12_image 12 := ⟨tc_mem (List.mem_of_getElem? (i := 1725) (by decide +kernel)) (by decide +kernel), _, rfl, tc_mem (List.mem_of_getElem? (i := 1726) (by decide +kernel)) (by decide +kernel)⟩
theorem ml_L_138 : Cond.methodLink RL 138 yX11_again ∈ tc_T := tc_mem (List.mem_of_getElem? (i := 1187) (by decide +kernel)) (by decide +kernel)
set_option maxRecDepth 100000 in
theorem mw_X11_again : tc_MW yX11_again cX11_again 3 (some .boolean) 1 := ⟨tc_mem (List.mem_of_getElem? (i := 1190) rfl) (by decide +kernel), tc_mem (List.mem_of_getElem? (i := 98) (by decide +kernel)) (by decide +kernel), by decide +kernel⟩
theorem mv_X11_again : tc_MV yX11_again 11 := ⟨tc_mem (List.mem_of_getElem? (i := 1188) (by decide +kernel)) (by decide +kernel), _, rfl, tc_mem (List.mem_of_getElem? (i := 1189) (by decide +kernel)) (by decide +kernel)⟩
theorem ml_L_141 : Cond.methodLink RL 141 yX12_again ∈ tc_T := tc_mem (List.mem_of_getElem? (i := 1728) (by decide +kernel)) (by decide +kernel)
set_option maxRecDepth 100000 in
theorem mw_X12_again : tc_MW yX12_again cX12_again 4 (some .boolean) 1 := ⟨tc_mem (List.mem_of_getElem? (i := 1731) rfl) (by decide +kernel), tc_mem (List.mem_of_getElem? (i := 111) (by decide +kernel)) (by decide +kernel), by decide +kernel⟩
theorem mv_X12_again : tc_MV yX12_again 12 := ⟨tc_mem (List.mem_of_getElem? (i := 1729) (by decide +kernel)) (by decide +kernel), _, rfl, tc_mem (List.mem_of_getElem? (i := 1730) (by decide +kernel)) (by decide +kernel)⟩
