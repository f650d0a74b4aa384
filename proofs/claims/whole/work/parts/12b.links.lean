theorem fX10_26 : ab_fl RX10 26 10 2 true := ⟨_, rfl, by decide, rfl, List.mem_of_getElem? (i := 560) (by decide +kernel)⟩
theorem fX10_30 : ab_fl RX10 30 10 3 true := ⟨_, rfl, by decide, rfl, List.mem_of_getElem? (i := 561) (by decide +kernel)⟩
theorem fX10_36 : ab_fl RX10 36 10 4 true := ⟨_, rfl, by decide, rfl, List.mem_of_getElem? (i := 562) (by decide +kernel)⟩
theorem fX10_43 : ab_fl RX10 43 10 5 true := ⟨_, rfl, by decide, rfl, List.mem_of_getElem? (i := 563) (by decide +kernel)⟩
theorem fX10_50 : ab_fl RX10 50 10 6 true := ⟨_, rfl, by decide, rfl, List.mem_of_getElem? (i := 564) (by decide +kernel)⟩
theorem fX10_57 : ab_fl RX10 57 10 7 true := ⟨_, rfl, by decide, rfl, List.mem_of_getElem? (i := 565) (by decide +kernel)⟩
theorem fX10_64 : ab_fl RX10 64 10 8 true := ⟨_, rfl, by decide, rfl, List.mem_of_getElem? (i := 566) (by decide +kernel)⟩
theorem fX10_68 : ab_fl RX10 68 10 9 true := ⟨_, rfl, by decide, rfl, List.mem_of_getElem? (i := 567) (by decide +kernel)⟩
theorem fX10_72 : ab_fl RX10 72 10 10 false := ⟨_, rfl, by decide, rfl, List.mem_of_getElem? (i := 568) (by decide +kernel)⟩
theorem fX11_1 : ab_fl RX11 1 11 0 false := ⟨_, rfl, by decide, rfl, List.mem_of_getElem? (i := 1337) (by decide +kernel)⟩
theorem fX11_7 : ab_fl RX11 7 11 1 true := ⟨_, rfl, by decide, rfl, List.mem_of_getElem? (i := 1338) (by decide +kernel)⟩
theorem fX11_17 : ab_fl RX11 17 11 2 true := ⟨_, rfl, by decide, rfl, List.mem_of_getElem? (i := 1339) (by decide +kernel)⟩
theorem fX11_21 : ab_fl RX11 21 11 3 true := ⟨_, rfl, by decide, rfl, List.mem_of_getElem? (i := 1340) (by decide +kernel)⟩
theorem fX11_24 : ab_fl RX11 24 11 4 true := ⟨_, rfl, by decide, rfl, List.mem_of_getElem? (i := 1341) (by decide +kernel)⟩
theorem fX11_27 : ab_fl RX11 27 11 5 true := ⟨_, rfl, by decide, rfl, List.mem_of_getElem? (i := 1342) (by decide +kernel)⟩
theorem fX11_96 : ab_fl RX11 96 11 6 false := ⟨_, rfl, by decide, rfl, List.mem_of_getElem? (i := 1343) (by decide +kernel)⟩
theorem fX11_30 : ab_fl RX11 30 11 7 true := ⟨_, rfl, by decide, rfl, List.mem_of_getElem? (i := 1344) (by decide +kernel)⟩
theorem fX11_34 : ab_fl RX11 34 11 8 true := ⟨_, rfl, by decide, rfl, List.mem_of_getElem? (i := 1345) (by decide +kernel)⟩
theorem fX11_99 : ab_fl RX11 99 11 9 false := ⟨_, rfl, by decide, rfl, List.mem_of_getElem? (i := 1346) (by decide +kernel)⟩
theorem fX11_115 : ab_fl RX11 115 11 10 false := ⟨_, rfl, by decide, rfl, List.mem_of_getElem? (i := 1347) (by decide +kernel)⟩
theorem fX11_112 : ab_fl RX11 112 11 11 false := ⟨_, rfl, by decide, rfl, List.mem_of_getElem? (i := 1348) (by decide +kernel)⟩
theorem fX11_149 : ab_fl RX11 149 11 12 false := ⟨_, rfl, by decide, rfl, List.mem_of_getElem? (i := 1349) (by decide +kernel)⟩
theorem fX11_106 : ab_fl RX11 106 11 13 false := ⟨_, rfl, by decide, rfl, List.mem_of_getElem? (i := 1350) (by decide +kernel)⟩
theorem fX11_109 : ab_fl RX11 109 11 14 false := ⟨_, rfl, by decide, rfl, List.mem_of_getElem? (i := 1351) (by decide +kernel)⟩
theorem fX11_37 : ab_fl RX11 37 11 15 false := ⟨_, rfl, by decide, rfl, List.mem_of_getElem? (i := 1352) (by decide +kernel)⟩
theorem fX11_196 : ab_fl RX11 196 11 16 false := ⟨_, rfl, by decide, rfl, List.mem_of_getElem? (i := 1353) (by decide +kernel)⟩
theorem fX11_40 : ab_fl RX11 40 11 17 true := ⟨_, rfl, by decide, rfl, List.mem_of_getElem? (i := 1354) (by decide +kernel)⟩
theorem fX11_43 : ab_fl RX11 43 11 18 true := ⟨_, rfl, by decide, rfl, List.mem_of_getElem? (i := 1355) (by decide +kernel)⟩
theorem fX11_46 : ab_fl RX11 46 11 19 true := ⟨_, rfl, by decide, rfl, List.mem_of_getElem? (i := 1356) (by decide +kernel)⟩
theorem fX11_49 : ab_fl RX11 49 11 20 true := ⟨_, rfl, by decide, rfl, List.mem_of_getElem? (i := 1357) (by decide +kernel)⟩
theorem fX11_52 : ab_fl RX11 52 11 21 true := ⟨_, rfl, by decide, rfl, List.mem_of_getElem? (i := 1358) (by decide +kernel)⟩
theorem fX11_308 : ab_fl RX11 308 11 22 false := ⟨_, rfl, by decide, rfl, List.mem_of_getElem? (i := 1359) (by decide +kernel)⟩
theorem fX11_55 : ab_fl RX11 55 11 23 true := ⟨_, rfl, by decide, rfl, List.mem_of_getElem? (i := 1360) (by decide +kernel)⟩
theorem fX11_58 : ab_fl RX11 58 11 24 true := ⟨_, rfl, by decide, rfl, List.mem_of_getElem? (i := 1361) (by decide +kernel)⟩
theorem fX11_61 : ab_fl RX11 61 11 25 true := ⟨_, rfl, by decide, rfl, List.mem_of_getElem? (i := 1362) (by decide +kernel)⟩
theorem fX11_64 : ab_fl RX11 64 11 26 true := ⟨_, rfl, by decide, rfl, List.mem_of_getElem? (i := 1363) (by decide +kernel)⟩
theorem fX11_67 : ab_fl RX11 67 11 27 true := ⟨_, rfl, by decide, rfl, List.mem_of_getElem? (i := 1364) (by decide +kernel)⟩
theorem fX11_357 : ab_fl RX11 357 11 28 false := ⟨_, rfl, by decide, rfl, List.mem_of_getElem? (i := 1365) (by decide +kernel)⟩
theorem fX11_360 : ab_fl RX11 360 11 29 false := ⟨_, rfl, by decide, rfl, List.mem_of_getElem? (i := 1366) (by decide +kernel)⟩
theorem fX11_363 : ab_fl RX11 363 11 30 false := ⟨_, rfl, by decide, rfl, List.mem_of_getElem? (i := 1367) (by decide +kernel)⟩
theorem fX11_71 : ab_fl RX11 71 11 31 true := ⟨_, rfl, by decide, rfl, List.mem_of_getElem? (i := 1368) (by decide +kernel)⟩
theorem fX11_74 : ab_fl RX11 74 11 32 true := ⟨_, rfl, by decide, rfl, List.mem_of_getElem? (i := 1369) (by decide +kernel)⟩
theorem fX11_77 : ab_fl RX11 77 11 33 true := ⟨_, rfl, by decide, rfl, List.mem_of_getElem? (i := 1370) (by decide +kernel)⟩
theorem fX11_80 : ab_fl RX11 80 11 34 true := ⟨_, rfl, by decide, rfl, List.mem_of_getElem? (i := 1371) (by decide +kernel)⟩
theorem fX11_83 : ab_fl RX11 83 11 35 true := ⟨_, rfl, by decide, rfl, List.mem_of_getElem? (i := 1372) (by decide +kernel)⟩
theorem fX11_86 : ab_fl RX11 86 11 36 true := ⟨_, rfl, by decide, rfl, List.mem_of_getElem? (i := 1373) (by decide +kernel)⟩
theorem fX11_89 : ab_fl RX11 89 11 37 true := ⟨_, rfl, by decide, rfl, List.mem_of_getElem? (i := 1374) (by decide +kernel)⟩
theorem fX11_396 : ab_fl RX11 396 11 38 false := ⟨_, rfl, by decide, rfl, List.mem_of_getElem? (i := 1375) (by decide +kernel)⟩
theorem lL_76 : ab_ml RL 76 mX10_init 0 := ⟨List.mem_of_getElem? (i := 142) (by decide +kernel), List.mem_of_getElem? (i := 144) (by decide +kernel), List.mem_of_getElem? (i := 113) (by decide +kernel), ⟨by decide, by decide⟩, by decide +kernel⟩
theorem iX10_init : Cond.instanceMethod yX10_init ∈ lw_tbl := List.mem_of_getElem? (i := 143) (by decide +kernel)
theorem lX7_17 : ab_ml RX7 17 mX2_init 0 := ⟨List.mem_of_getElem? (i := 156) (by decide +kernel), List.mem_of_getElem? (i := 158) (by decide +kernel), List.mem_of_getElem? (i := 115) (by decide +kernel), ⟨by decide, by decide⟩, by decide +kernel⟩
theorem iX2_init : Cond.instanceMethod yX2_init ∈ lw_tbl := List.mem_of_getElem? (i := 157) (by decide +kernel)
theorem lX2_32 : ab_ml RX2 32 mX2_empty 0 := ⟨List.mem_of_getElem? (i := 275) (by decide +kernel), List.mem_of_getElem? (i := 278) (by decide +kernel), List.mem_of_getElem? (i := 115) (by decide +kernel), ⟨by decide, by decide⟩, by decide +kernel⟩
theorem iX2_empty : Cond.instanceMethod yX2_empty ∈ lw_tbl := List.mem_of_getElem? (i := 276) (by decide +kernel)
theorem sX2_empty : Cond.selects RX2 yX2_empty yX2_empty ∈ lw_tbl := List.mem_of_getElem? (i := 277) (by decide +kernel)
theorem lX10_18 : ab_ml RX10 18 mX1_init 0 := ⟨List.mem_of_getElem? (i := 395) (by decide +kernel), List.mem_of_getElem? (i := 397) (by decide +kernel), List.mem_of_getElem? (i := 118) (by decide +kernel), ⟨by decide, by decide⟩, by decide +kernel⟩
theorem iX1_init : Cond.instanceMethod yX1_init ∈ lw_tbl := List.mem_of_getElem? (i := 396) (by decide +kernel)
theorem lX1_17 : ab_ml RX1 17 mX2_init 0 := ⟨List.mem_of_getElem? (i := 401) (by decide +kernel), List.mem_of_getElem? (i := 158) (by decide +kernel), List.mem_of_getElem? (i := 115) (by decide +kernel), ⟨by decide, by decide⟩, by decide +kernel⟩
theorem lX10_25 : ab_ml RX10 25 mX2_init 0 := ⟨List.mem_of_getElem? (i := 414) (by decide +kernel), List.mem_of_getElem? (i := 158) (by decide +kernel), List.mem_of_getElem? (i := 115) (by decide +kernel), ⟨by decide, by decide⟩, by decide +kernel⟩
theorem lL_80 : ab_ml RL 80 mX10_feed 5 := ⟨List.mem_of_getElem? (i := 592) (by decide +kernel), List.mem_of_getElem? (i := 595) (by decide +kernel), List.mem_of_getElem? (i := 113) (by decide +kernel), ⟨by decide, by decide⟩, by decide +kernel⟩
theorem iX10_feed : Cond.instanceMethod yX10_feed ∈ lw_tbl := List.mem_of_getElem? (i := 593) (by decide +kernel)
theorem sX10_feed : Cond.selects RX10 yX10_feed yX10_feed ∈ lw_tbl := List.mem_of_getElem? (i := 594) (by decide +kernel)
theorem lX10_79 : ab_ml RX10 79 mX7_put 1 := ⟨List.mem_of_getElem? (i := 596) (by decide +kernel), List.mem_of_getElem? (i := 599) (by decide +kernel), List.mem_of_getElem? (i := 114) (by decide +kernel), ⟨by decide, by decide⟩, by decide +kernel⟩
theorem iX7_put : Cond.instanceMethod yX7_put ∈ lw_tbl := List.mem_of_getElem? (i := 597) (by decide +kernel)
theorem sX7_put : Cond.selects RX7 yX7_put yX7_put ∈ lw_tbl := List.mem_of_getElem? (i := 598) (by decide +kernel)
theorem lL_93 : ab_ml RL 93 mX10_fault 0 := ⟨List.mem_of_getElem? (i := 600) (by decide +kernel), List.mem_of_getElem? (i := 603) (by decide +kernel), List.mem_of_getElem? (i := 113) (by decide +kernel), ⟨by decide, by decide⟩, by decide +kernel⟩
theorem iX10_fault : Cond.instanceMethod yX10_fault ∈ lw_tbl := List.mem_of_getElem? (i := 601) (by decide +kernel)
theorem sX10_fault : Cond.selects RX10 yX10_fault yX10_fault ∈ lw_tbl := List.mem_of_getElem? (i := 602) (by decide +kernel)
theorem lL_115 : ab_ml RL 115 mX10_undo 0 := ⟨List.mem_of_getElem? (i := 604) (by decide +kernel), List.mem_of_getElem? (i := 607) (by decide +kernel), List.mem_of_getElem? (i := 113) (by decide +kernel), ⟨by decide, by decide⟩, by decide +kernel⟩
theorem iX10_undo : Cond.instanceMethod yX10_undo ∈ lw_tbl := List.mem_of_getElem? (i := 605) (by decide +kernel)
theorem sX10_undo : Cond.selects RX10 yX10_undo yX10_undo ∈ lw_tbl := List.mem_of_getElem? (i := 606) (by decide +kernel)
theorem lX10_165 : ab_ml RX10 165 mX1_takeBack 1 := ⟨List.mem_of_getElem? (i := 608) (by decide +kernel), List.mem_of_getElem? (i := 611) (by decide +kernel), List.mem_of_getElem? (i := 118) (by decide +kernel), ⟨by decide, by decide⟩, by decide +kernel⟩
theorem iX1_takeBack : Cond.instanceMethod yX1_takeBack ∈ lw_tbl := List.mem_of_getElem? (i := 609) (by decide +kernel)
theorem sX1_takeBack : Cond.selects RX1 yX1_takeBack yX1_takeBack ∈ lw_tbl := List.mem_of_getElem? (i := 610) (by decide +kernel)
theorem lX1_22 : ab_ml RX1 22 mX2_copyFrom 1 := ⟨List.mem_of_getElem? (i := 612) (by decide +kernel), List.mem_of_getElem? (i := 615) (by decide +kernel), List.mem_of_getElem? (i := 115) (by decide +kernel), ⟨by decide, by decide⟩, by decide +kernel⟩
theorem iX2_copyFrom : Cond.instanceMethod yX2_copyFrom ∈ lw_tbl := List.mem_of_getElem? (i := 613) (by decide +kernel)
theorem sX2_copyFrom : Cond.selects RX2 yX2_copyFrom yX2_copyFrom ∈ lw_tbl := List.mem_of_getElem? (i := 614) (by decide +kernel)
theorem lX2_61 : ab_ml RX2 61 mX0_copyFrom 1 := ⟨List.mem_of_getElem? (i := 616) (by decide +kernel), List.mem_of_getElem? (i := 619) (by decide +kernel), List.mem_of_getElem? (i := 116) (by decide +kernel), ⟨by decide, by decide⟩, by decide +kernel⟩
theorem iX0_copyFrom : Cond.instanceMethod yX0_copyFrom ∈ lw_tbl := List.mem_of_getElem? (i := 617) (by decide +kernel)
theorem sX0_copyFrom : Cond.selects RX0 yX0_copyFrom yX0_copyFrom ∈ lw_tbl := List.mem_of_getElem? (i := 618) (by decide +kernel)
theorem lX2_65 : ab_ml RX2 65 mX9_copyFrom 1 := ⟨List.mem_of_getElem? (i := 620) (by decide +kernel), List.mem_of_getElem? (i := 623) (by decide +kernel), List.mem_of_getElem? (i := 117) (by decide +kernel), ⟨by decide, by decide⟩, by decide +kernel⟩
theorem iX9_copyFrom : Cond.instanceMethod yX9_copyFrom ∈ lw_tbl := List.mem_of_getElem? (i := 621) (by decide +kernel)
theorem sX9_copyFrom : Cond.selects RX9 yX9_copyFrom yX9_copyFrom ∈ lw_tbl := List.mem_of_getElem? (i := 622) (by decide +kernel)
theorem lL_156 : ab_ml RL 156 mX10_mean 0 := ⟨List.mem_of_getElem? (i := 624) (by decide +kernel), List.mem_of_getElem? (i := 627) (by decide +kernel), List.mem_of_getElem? (i := 113) (by decide +kernel), ⟨by decide, by decide⟩, by decide +kernel⟩
theorem iX10_mean : Cond.instanceMethod yX10_mean ∈ lw_tbl := List.mem_of_getElem? (i := 625) (by decide +kernel)
theorem sX10_mean : Cond.selects RX10 yX10_mean yX10_mean ∈ lw_tbl := List.mem_of_getElem? (i := 626) (by decide +kernel)
theorem lX10_185 : ab_ml RX10 185 mX2_unitsOfFails 2 := ⟨List.mem_of_getElem? (i := 628) (by decide +kernel), List.mem_of_getElem? (i := 631) (by decide +kernel), List.mem_of_getElem? (i := 115) (by decide +kernel), ⟨by decide, by decide⟩, by decide +kernel⟩
theorem iX2_unitsOfFails : Cond.instanceMethod yX2_unitsOfFails ∈ lw_tbl := List.mem_of_getElem? (i := 629) (by decide +kernel)
theorem sX2_unitsOfFails : Cond.selects RX2 yX2_unitsOfFails yX2_unitsOfFails ∈ lw_tbl := List.mem_of_getElem? (i := 630) (by decide +kernel)
theorem lX2_99 : ab_ml RX2 99 mX2_isAsked 1 := ⟨List.mem_of_getElem? (i := 632) (by decide +kernel), List.mem_of_getElem? (i := 635) (by decide +kernel), List.mem_of_getElem? (i := 115) (by decide +kernel), ⟨by decide, by decide⟩, by decide +kernel⟩
theorem iX2_isAsked : Cond.instanceMethod yX2_isAsked ∈ lw_tbl := List.mem_of_getElem? (i := 633) (by decide +kernel)
theorem sX2_isAsked : Cond.selects RX2 yX2_isAsked yX2_isAsked ∈ lw_tbl := List.mem_of_getElem? (i := 634) (by decide +kernel)
theorem lX10_287 : ab_ml RX10 287 mX2_valueOfFails 0 := ⟨List.mem_of_getElem? (i := 636) (by decide +kernel), List.mem_of_getElem? (i := 639) (by decide +kernel), List.mem_of_getElem? (i := 115) (by decide +kernel), ⟨by decide, by decide⟩, by decide +kernel⟩
theorem iX2_valueOfFails : Cond.instanceMethod yX2_valueOfFails ∈ lw_tbl := List.mem_of_getElem? (i := 637) (by decide +kernel)
theorem sX2_valueOfFails : Cond.selects RX2 yX2_valueOfFails yX2_valueOfFails ∈ lw_tbl := List.mem_of_getElem? (i := 638) (by decide +kernel)
theorem lX10_291 : ab_ml RX10 291 mX10_bitsOf 1 := ⟨List.mem_of_getElem? (i := 640) (by decide +kernel), List.mem_of_getElem? (i := 642) (by decide +kernel), List.mem_of_getElem? (i := 113) (by decide +kernel), ⟨by decide, by decide⟩, by decide +kernel⟩
theorem tX10_bitsOf : Cond.static yX10_bitsOf ∈ lw_tbl := List.mem_of_getElem? (i := 641) (by decide +kernel)
theorem lL_161 : ab_ml RL 161 mX10_outside 0 := ⟨List.mem_of_getElem? (i := 645) (by decide +kernel), List.mem_of_getElem? (i := 648) (by decide +kernel), List.mem_of_getElem? (i := 113) (by decide +kernel), ⟨by decide, by decide⟩, by decide +kernel⟩
theorem iX10_outside : Cond.instanceMethod yX10_outside ∈ lw_tbl := List.mem_of_getElem? (i := 646) (by decide +kernel)
theorem sX10_outside : Cond.selects RX10 yX10_outside yX10_outside ∈ lw_tbl := List.mem_of_getElem? (i := 647) (by decide +kernel)
theorem lL_165 : ab_ml RL 165 mX10_print 0 := ⟨List.mem_of_getElem? (i := 649) (by decide +kernel), List.mem_of_getElem? (i := 652) (by decide +kernel), List.mem_of_getElem? (i := 113) (by decide +kernel), ⟨by decide, by decide⟩, by decide +kernel⟩
theorem iX10_print : Cond.instanceMethod yX10_print ∈ lw_tbl := List.mem_of_getElem? (i := 650) (by decide +kernel)
theorem sX10_print : Cond.selects RX10 yX10_print yX10_print ∈ lw_tbl := List.mem_of_getElem? (i := 651) (by decide +kernel)
theorem lL_169 : ab_ml RL 169 mX10_status 1 := ⟨List.mem_of_getElem? (i := 654) (by decide +kernel), List.mem_of_getElem? (i := 657) (by decide +kernel), List.mem_of_getElem? (i := 113) (by decide +kernel), ⟨by decide, by decide⟩, by decide +kernel⟩
theorem iX10_status : Cond.instanceMethod yX10_status ∈ lw_tbl := List.mem_of_getElem? (i := 655) (by decide +kernel)
theorem sX10_status : Cond.selects RX10 yX10_status yX10_status ∈ lw_tbl := List.mem_of_getElem? (i := 656) (by decide +kernel)
theorem lL_7 : ab_ml RL 7 mX10_text 1 := ⟨List.mem_of_getElem? (i := 662) (by decide +kernel), List.mem_of_getElem? (i := 665) (by decide +kernel), List.mem_of_getElem? (i := 113) (by decide +kernel), ⟨by decide, by decide⟩, by decide +kernel⟩
theorem iX10_text : Cond.instanceMethod yX10_text ∈ lw_tbl := List.mem_of_getElem? (i := 663) (by decide +kernel)
theorem sX10_text : Cond.selects RX10 yX10_text yX10_text ∈ lw_tbl := List.mem_of_getElem? (i := 664) (by decide +kernel)
theorem lX10_83 : ab_ml RX10 83 mX10_needWithin 3 := ⟨List.mem_of_getElem? (i := 666) (by decide +kernel), List.mem_of_getElem? (i := 669) (by decide +kernel), List.mem_of_getElem? (i := 113) (by decide +kernel), ⟨by decide, by decide⟩, by decide +kernel⟩
theorem iX10_needWithin : Cond.instanceMethod yX10_needWithin ∈ lw_tbl := List.mem_of_getElem? (i := 668) (by decide +kernel)
theorem sX10_needWithin : Cond.selects RX10 yX10_needWithin yX10_needWithin ∈ lw_tbl := List.mem_of_getElem? (i := 0) (by decide +kernel)
theorem lX10_110 : ab_ml RX10 110 mX10_refuseUnfit 0 := ⟨List.mem_of_getElem? (i := 670) (by decide +kernel), List.mem_of_getElem? (i := 673) (by decide +kernel), List.mem_of_getElem? (i := 113) (by decide +kernel), ⟨by decide, by decide⟩, by decide +kernel⟩
theorem iX10_refuseUnfit : Cond.instanceMethod yX10_refuseUnfit ∈ lw_tbl := List.mem_of_getElem? (i := 672) (by decide +kernel)
theorem sX10_refuseUnfit : Cond.selects RX10 yX10_refuseUnfit yX10_refuseUnfit ∈ lw_tbl := List.mem_of_getElem? (i := 1) (by decide +kernel)
theorem lX10_87 : ab_ml RX10 87 mX7_readTape 1 := ⟨List.mem_of_getElem? (i := 737) (by decide +kernel), List.mem_of_getElem? (i := 740) (by decide +kernel), List.mem_of_getElem? (i := 114) (by decide +kernel), ⟨by decide, by decide⟩, by decide +kernel⟩
theorem iX7_readTape : Cond.instanceMethod yX7_readTape ∈ lw_tbl := List.mem_of_getElem? (i := 738) (by decide +kernel)
theorem sX7_readTape : Cond.selects RX7 yX7_readTape yX7_readTape ∈ lw_tbl := List.mem_of_getElem? (i := 739) (by decide +kernel)
theorem lX7_39 : ab_ml RX7 39 mJ9_min_7cf53 2 := ⟨List.mem_of_getElem? (i := 741) (by decide +kernel), List.mem_of_getElem? (i := 743) (by decide +kernel), List.mem_of_getElem? (i := 129) (by decide +kernel), ⟨by decide, by decide⟩, by decide +kernel⟩
theorem tJ9_min_7cf53 : Cond.static yJ9_min_7cf53 ∈ lw_tbl := List.mem_of_getElem? (i := 742) (by decide +kernel)
theorem lX7_45 : ab_ml RX7 45 mX7_splitTape 1 := ⟨List.mem_of_getElem? (i := 744) (by decide +kernel), List.mem_of_getElem? (i := 747) (by decide +kernel), List.mem_of_getElem? (i := 114) (by decide +kernel), ⟨by decide, by decide⟩, by decide +kernel⟩
theorem iX7_splitTape : Cond.instanceMethod yX7_splitTape ∈ lw_tbl := List.mem_of_getElem? (i := 746) (by decide +kernel)
theorem sX7_splitTape : Cond.selects RX7 yX7_splitTape yX7_splitTape ∈ lw_tbl := List.mem_of_getElem? (i := 3) (by decide +kernel)
theorem lX7_77 : ab_ml RX7 77 mX7_passBlanks 2 := ⟨List.mem_of_getElem? (i := 748) (by decide +kernel), List.mem_of_getElem? (i := 751) (by decide +kernel), List.mem_of_getElem? (i := 114) (by decide +kernel), ⟨by decide, by decide⟩, by decide +kernel⟩
theorem iX7_passBlanks : Cond.instanceMethod yX7_passBlanks ∈ lw_tbl := List.mem_of_getElem? (i := 750) (by decide +kernel)
theorem sX7_passBlanks : Cond.selects RX7 yX7_passBlanks yX7_passBlanks ∈ lw_tbl := List.mem_of_getElem? (i := 4) (by decide +kernel)
theorem lX7_80 : ab_ml RX7 80 mX7_isLetter 1 := ⟨List.mem_of_getElem? (i := 752) (by decide +kernel), List.mem_of_getElem? (i := 754) (by decide +kernel), List.mem_of_getElem? (i := 114) (by decide +kernel), ⟨by decide, by decide⟩, by decide +kernel⟩
theorem tX7_isLetter : Cond.static yX7_isLetter ∈ lw_tbl := List.mem_of_getElem? (i := 753) (by decide +kernel)
theorem lX7_84 : ab_ml RX7 84 mX7_passLetters 2 := ⟨List.mem_of_getElem? (i := 755) (by decide +kernel), List.mem_of_getElem? (i := 758) (by decide +kernel), List.mem_of_getElem? (i := 114) (by decide +kernel), ⟨by decide, by decide⟩, by decide +kernel⟩
theorem iX7_passLetters : Cond.instanceMethod yX7_passLetters ∈ lw_tbl := List.mem_of_getElem? (i := 757) (by decide +kernel)
theorem sX7_passLetters : Cond.selects RX7 yX7_passLetters yX7_passLetters ∈ lw_tbl := List.mem_of_getElem? (i := 5) (by decide +kernel)
theorem lX7_87 : ab_ml RX7 87 mX7_wordAt 2 := ⟨List.mem_of_getElem? (i := 759) (by decide +kernel), List.mem_of_getElem? (i := 762) (by decide +kernel), List.mem_of_getElem? (i := 114) (by decide +kernel), ⟨by decide, by decide⟩, by decide +kernel⟩
theorem iX7_wordAt : Cond.instanceMethod yX7_wordAt ∈ lw_tbl := List.mem_of_getElem? (i := 761) (by decide +kernel)
theorem sX7_wordAt : Cond.selects RX7 yX7_wordAt yX7_wordAt ∈ lw_tbl := List.mem_of_getElem? (i := 6) (by decide +kernel)
theorem lX7_106 : ab_ml RX7 106 mX7_spells 3 := ⟨List.mem_of_getElem? (i := 764) (by decide +kernel), List.mem_of_getElem? (i := 767) (by decide +kernel), List.mem_of_getElem? (i := 114) (by decide +kernel), ⟨by decide, by decide⟩, by decide +kernel⟩
theorem iX7_spells : Cond.instanceMethod yX7_spells ∈ lw_tbl := List.mem_of_getElem? (i := 766) (by decide +kernel)
theorem sX7_spells : Cond.selects RX7 yX7_spells yX7_spells ∈ lw_tbl := List.mem_of_getElem? (i := 7) (by decide +kernel)
theorem lX7_141 : ab_ml RX7 141 mJ0_length_8abf5 0 := ⟨List.mem_of_getElem? (i := 768) (by decide +kernel), List.mem_of_getElem? (i := 771) (by decide +kernel), List.mem_of_getElem? (i := 130) (by decide +kernel), ⟨by decide, by decide⟩, by decide +kernel⟩
theorem iJ0_length_8abf5 : Cond.instanceMethod yJ0_length_8abf5 ∈ lw_tbl := List.mem_of_getElem? (i := 769) (by decide +kernel)
theorem sJ0_length_8abf5 : Cond.selects RJ0 yJ0_length_8abf5 yJ0_length_8abf5 ∈ lw_tbl := List.mem_of_getElem? (i := 770) (by decide +kernel)
theorem lJ0_335 : ab_ml RJ0 335 mJ0_coder_7d493 0 := ⟨List.mem_of_getElem? (i := 772) (by decide +kernel), List.mem_of_getElem? (i := 775) (by decide +kernel), List.mem_of_getElem? (i := 130) (by decide +kernel), ⟨by decide, by decide⟩, by decide +kernel⟩
theorem iJ0_coder_7d493 : Cond.instanceMethod yJ0_coder_7d493 ∈ lw_tbl := List.mem_of_getElem? (i := 773) (by decide +kernel)
theorem sJ0_coder_7d493 : Cond.selects RJ0 yJ0_coder_7d493 yJ0_coder_7d493 ∈ lw_tbl := List.mem_of_getElem? (i := 774) (by decide +kernel)
theorem lX7_147 : ab_ml RX7 147 mJ0_charAt_5068e 1 := ⟨List.mem_of_getElem? (i := 778) (by decide +kernel), List.mem_of_getElem? (i := 781) (by decide +kernel), List.mem_of_getElem? (i := 130) (by decide +kernel), ⟨by decide, by decide⟩, by decide +kernel⟩
theorem iJ0_charAt_5068e : Cond.instanceMethod yJ0_charAt_5068e ∈ lw_tbl := List.mem_of_getElem? (i := 779) (by decide +kernel)
theorem sJ0_charAt_5068e : Cond.selects RJ0 yJ0_charAt_5068e yJ0_charAt_5068e ∈ lw_tbl := List.mem_of_getElem? (i := 780) (by decide +kernel)
theorem lJ0_492 : ab_ml RJ0 492 mJ0_isLatin1_aae02 0 := ⟨List.mem_of_getElem? (i := 782) (by decide +kernel), List.mem_of_getElem? (i := 785) (by decide +kernel), List.mem_of_getElem? (i := 130) (by decide +kernel), ⟨by decide, by decide⟩, by decide +kernel⟩
theorem iJ0_isLatin1_aae02 : Cond.instanceMethod yJ0_isLatin1_aae02 ∈ lw_tbl := List.mem_of_getElem? (i := 783) (by decide +kernel)
theorem sJ0_isLatin1_aae02 : Cond.selects RJ0 yJ0_isLatin1_aae02 yJ0_isLatin1_aae02 ∈ lw_tbl := List.mem_of_getElem? (i := 784) (by decide +kernel)
theorem lJ0_495 : ab_ml RJ0 495 mJ1_charAt_3b067 2 := ⟨List.mem_of_getElem? (i := 786) (by decide +kernel), List.mem_of_getElem? (i := 788) (by decide +kernel), List.mem_of_getElem? (i := 131) (by decide +kernel), ⟨by decide, by decide⟩, by decide +kernel⟩
theorem tJ1_charAt_3b067 : Cond.static yJ1_charAt_3b067 ∈ lw_tbl := List.mem_of_getElem? (i := 787) (by decide +kernel)
theorem lJ1_9 : ab_ml RJ1 9 mJ0_checkIndex_df160 2 := ⟨List.mem_of_getElem? (i := 789) (by decide +kernel), List.mem_of_getElem? (i := 791) (by decide +kernel), List.mem_of_getElem? (i := 130) (by decide +kernel), ⟨by decide, by decide⟩, by decide +kernel⟩
theorem tJ0_checkIndex_df160 : Cond.static yJ0_checkIndex_df160 ∈ lw_tbl := List.mem_of_getElem? (i := 790) (by decide +kernel)
theorem lJ0_1059 : ab_ml RJ0 1059 mJ3_checkIndex_8e157 3 := ⟨List.mem_of_getElem? (i := 794) (by decide +kernel), List.mem_of_getElem? (i := 796) (by decide +kernel), List.mem_of_getElem? (i := 132) (by decide +kernel), ⟨by decide, by decide⟩, by decide +kernel⟩
theorem tJ3_checkIndex_8e157 : Cond.static yJ3_checkIndex_8e157 ∈ lw_tbl := List.mem_of_getElem? (i := 795) (by decide +kernel)
theorem lJ0_498 : ab_ml RJ0 498 mJ2_charAt_3b067 2 := ⟨List.mem_of_getElem? (i := 797) (by decide +kernel), List.mem_of_getElem? (i := 799) (by decide +kernel), List.mem_of_getElem? (i := 133) (by decide +kernel), ⟨by decide, by decide⟩, by decide +kernel⟩
theorem tJ2_charAt_3b067 : Cond.static yJ2_charAt_3b067 ∈ lw_tbl := List.mem_of_getElem? (i := 798) (by decide +kernel)
theorem lJ2_67 : ab_ml RJ2 67 mJ2_checkIndex_2214a 2 := ⟨List.mem_of_getElem? (i := 800) (by decide +kernel), List.mem_of_getElem? (i := 802) (by decide +kernel), List.mem_of_getElem? (i := 133) (by decide +kernel), ⟨by decide, by decide⟩, by decide +kernel⟩
theorem tJ2_checkIndex_2214a : Cond.static yJ2_checkIndex_2214a ∈ lw_tbl := List.mem_of_getElem? (i := 801) (by decide +kernel)
theorem lJ2_48 : ab_ml RJ2 48 mJ2_length_9d52b 1 := ⟨List.mem_of_getElem? (i := 803) (by decide +kernel), List.mem_of_getElem? (i := 805) (by decide +kernel), List.mem_of_getElem? (i := 133) (by decide +kernel), ⟨by decide, by decide⟩, by decide +kernel⟩
theorem tJ2_length_9d52b : Cond.static yJ2_length_9d52b ∈ lw_tbl := List.mem_of_getElem? (i := 804) (by decide +kernel)
theorem lJ2_414 : ab_ml RJ2 414 mJ0_checkIndex_df160 2 := ⟨List.mem_of_getElem? (i := 806) (by decide +kernel), List.mem_of_getElem? (i := 791) (by decide +kernel), List.mem_of_getElem? (i := 130) (by decide +kernel), ⟨by decide, by decide⟩, by decide +kernel⟩
theorem lJ2_71 : ab_ml RJ2 71 mJ2_getChar_3b067 2 := ⟨List.mem_of_getElem? (i := 807) (by decide +kernel), List.mem_of_getElem? (i := 809) (by decide +kernel), List.mem_of_getElem? (i := 133) (by decide +kernel), ⟨by decide, by decide⟩, by decide +kernel⟩
theorem tJ2_getChar_3b067 : Cond.static yJ2_getChar_3b067 ∈ lw_tbl := List.mem_of_getElem? (i := 808) (by decide +kernel)
theorem lX7_122 : ab_ml RX7 122 mX7_operandAt 2 := ⟨List.mem_of_getElem? (i := 822) (by decide +kernel), List.mem_of_getElem? (i := 825) (by decide +kernel), List.mem_of_getElem? (i := 114) (by decide +kernel), ⟨by decide, by decide⟩, by decide +kernel⟩
theorem iX7_operandAt : Cond.instanceMethod yX7_operandAt ∈ lw_tbl := List.mem_of_getElem? (i := 824) (by decide +kernel)
theorem sX7_operandAt : Cond.selects RX7 yX7_operandAt yX7_operandAt ∈ lw_tbl := List.mem_of_getElem? (i := 8) (by decide +kernel)
theorem lX7_90 : ab_ml RX7 90 mX7_addToken 3 := ⟨List.mem_of_getElem? (i := 833) (by decide +kernel), List.mem_of_getElem? (i := 836) (by decide +kernel), List.mem_of_getElem? (i := 114) (by decide +kernel), ⟨by decide, by decide⟩, by decide +kernel⟩
theorem iX7_addToken : Cond.instanceMethod yX7_addToken ∈ lw_tbl := List.mem_of_getElem? (i := 835) (by decide +kernel)
theorem sX7_addToken : Cond.selects RX7 yX7_addToken yX7_addToken ∈ lw_tbl := List.mem_of_getElem? (i := 9) (by decide +kernel)
theorem lX7_94 : ab_ml RX7 94 mX7_isDigit 1 := ⟨List.mem_of_getElem? (i := 837) (by decide +kernel), List.mem_of_getElem? (i := 839) (by decide +kernel), List.mem_of_getElem? (i := 114) (by decide +kernel), ⟨by decide, by decide⟩, by decide +kernel⟩
theorem tX7_isDigit : Cond.static yX7_isDigit ∈ lw_tbl := List.mem_of_getElem? (i := 838) (by decide +kernel)
theorem lX7_97 : ab_ml RX7 97 mX7_passDigits 2 := ⟨List.mem_of_getElem? (i := 840) (by decide +kernel), List.mem_of_getElem? (i := 843) (by decide +kernel), List.mem_of_getElem? (i := 114) (by decide +kernel), ⟨by decide, by decide⟩, by decide +kernel⟩
theorem iX7_passDigits : Cond.instanceMethod yX7_passDigits ∈ lw_tbl := List.mem_of_getElem? (i := 842) (by decide +kernel)
theorem sX7_passDigits : Cond.selects RX7 yX7_passDigits yX7_passDigits ∈ lw_tbl := List.mem_of_getElem? (i := 10) (by decide +kernel)
theorem lX7_100 : ab_ml RX7 100 mX7_numberAt 2 := ⟨List.mem_of_getElem? (i := 844) (by decide +kernel), List.mem_of_getElem? (i := 847) (by decide +kernel), List.mem_of_getElem? (i := 114) (by decide +kernel), ⟨by decide, by decide⟩, by decide +kernel⟩
theorem iX7_numberAt : Cond.instanceMethod yX7_numberAt ∈ lw_tbl := List.mem_of_getElem? (i := 846) (by decide +kernel)
theorem sX7_numberAt : Cond.selects RX7 yX7_numberAt yX7_numberAt ∈ lw_tbl := List.mem_of_getElem? (i := 11) (by decide +kernel)
theorem lX7_64 : ab_ml RX7 64 mX2_empty 0 := ⟨List.mem_of_getElem? (i := 849) (by decide +kernel), List.mem_of_getElem? (i := 278) (by decide +kernel), List.mem_of_getElem? (i := 115) (by decide +kernel), ⟨by decide, by decide⟩, by decide +kernel⟩
theorem lX7_67 : ab_ml RX7 67 mX7_readLine 0 := ⟨List.mem_of_getElem? (i := 850) (by decide +kernel), List.mem_of_getElem? (i := 853) (by decide +kernel), List.mem_of_getElem? (i := 114) (by decide +kernel), ⟨by decide, by decide⟩, by decide +kernel⟩
theorem iX7_readLine : Cond.instanceMethod yX7_readLine ∈ lw_tbl := List.mem_of_getElem? (i := 852) (by decide +kernel)
theorem sX7_readLine : Cond.selects RX7 yX7_readLine yX7_readLine ∈ lw_tbl := List.mem_of_getElem? (i := 12) (by decide +kernel)
theorem lX7_151 : ab_ml RX7 151 mX7_readDealer 0 := ⟨List.mem_of_getElem? (i := 854) (by decide +kernel), List.mem_of_getElem? (i := 857) (by decide +kernel), List.mem_of_getElem? (i := 114) (by decide +kernel), ⟨by decide, by decide⟩, by decide +kernel⟩
theorem iX7_readDealer : Cond.instanceMethod yX7_readDealer ∈ lw_tbl := List.mem_of_getElem? (i := 856) (by decide +kernel)
theorem sX7_readDealer : Cond.selects RX7 yX7_readDealer yX7_readDealer ∈ lw_tbl := List.mem_of_getElem? (i := 13) (by decide +kernel)
theorem lX7_179 : ab_ml RX7 179 mX7_refuse 1 := ⟨List.mem_of_getElem? (i := 858) (by decide +kernel), List.mem_of_getElem? (i := 861) (by decide +kernel), List.mem_of_getElem? (i := 114) (by decide +kernel), ⟨by decide, by decide⟩, by decide +kernel⟩
theorem iX7_refuse : Cond.instanceMethod yX7_refuse ∈ lw_tbl := List.mem_of_getElem? (i := 860) (by decide +kernel)
theorem sX7_refuse : Cond.selects RX7 yX7_refuse yX7_refuse ∈ lw_tbl := List.mem_of_getElem? (i := 14) (by decide +kernel)
theorem lX7_185 : ab_ml RX7 185 mX7_advance 0 := ⟨List.mem_of_getElem? (i := 862) (by decide +kernel), List.mem_of_getElem? (i := 865) (by decide +kernel), List.mem_of_getElem? (i := 114) (by decide +kernel), ⟨by decide, by decide⟩, by decide +kernel⟩
theorem iX7_advance : Cond.instanceMethod yX7_advance ∈ lw_tbl := List.mem_of_getElem? (i := 864) (by decide +kernel)
theorem sX7_advance : Cond.selects RX7 yX7_advance yX7_advance ∈ lw_tbl := List.mem_of_getElem? (i := 15) (by decide +kernel)
theorem lX7_188 : ab_ml RX7 188 mX7_takeNumber 3 := ⟨List.mem_of_getElem? (i := 866) (by decide +kernel), List.mem_of_getElem? (i := 869) (by decide +kernel), List.mem_of_getElem? (i := 114) (by decide +kernel), ⟨by decide, by decide⟩, by decide +kernel⟩
theorem iX7_takeNumber : Cond.instanceMethod yX7_takeNumber ∈ lw_tbl := List.mem_of_getElem? (i := 868) (by decide +kernel)
theorem sX7_takeNumber : Cond.selects RX7 yX7_takeNumber yX7_takeNumber ∈ lw_tbl := List.mem_of_getElem? (i := 16) (by decide +kernel)
theorem lX7_191 : ab_ml RX7 191 mX2_addDealer 1 := ⟨List.mem_of_getElem? (i := 870) (by decide +kernel), List.mem_of_getElem? (i := 873) (by decide +kernel), List.mem_of_getElem? (i := 115) (by decide +kernel), ⟨by decide, by decide⟩, by decide +kernel⟩
theorem iX2_addDealer : Cond.instanceMethod yX2_addDealer ∈ lw_tbl := List.mem_of_getElem? (i := 871) (by decide +kernel)
theorem sX2_addDealer : Cond.selects RX2 yX2_addDealer yX2_addDealer ∈ lw_tbl := List.mem_of_getElem? (i := 872) (by decide +kernel)
theorem lX2_68 : ab_ml RX2 68 mX0_start 1 := ⟨List.mem_of_getElem? (i := 874) (by decide +kernel), List.mem_of_getElem? (i := 877) (by decide +kernel), List.mem_of_getElem? (i := 116) (by decide +kernel), ⟨by decide, by decide⟩, by decide +kernel⟩
theorem iX0_start : Cond.instanceMethod yX0_start ∈ lw_tbl := List.mem_of_getElem? (i := 875) (by decide +kernel)
theorem sX0_start : Cond.selects RX0 yX0_start yX0_start ∈ lw_tbl := List.mem_of_getElem? (i := 876) (by decide +kernel)
theorem lX7_154 : ab_ml RX7 154 mX7_readSale 0 := ⟨List.mem_of_getElem? (i := 878) (by decide +kernel), List.mem_of_getElem? (i := 881) (by decide +kernel), List.mem_of_getElem? (i := 114) (by decide +kernel), ⟨by decide, by decide⟩, by decide +kernel⟩
theorem iX7_readSale : Cond.instanceMethod yX7_readSale ∈ lw_tbl := List.mem_of_getElem? (i := 880) (by decide +kernel)
theorem sX7_readSale : Cond.selects RX7 yX7_readSale yX7_readSale ∈ lw_tbl := List.mem_of_getElem? (i := 17) (by decide +kernel)
theorem lX7_197 : ab_ml RX7 197 mX2_addSale 5 := ⟨List.mem_of_getElem? (i := 882) (by decide +kernel), List.mem_of_getElem? (i := 885) (by decide +kernel), List.mem_of_getElem? (i := 115) (by decide +kernel), ⟨by decide, by decide⟩, by decide +kernel⟩
theorem iX2_addSale : Cond.instanceMethod yX2_addSale ∈ lw_tbl := List.mem_of_getElem? (i := 883) (by decide +kernel)
theorem sX2_addSale : Cond.selects RX2 yX2_addSale yX2_addSale ∈ lw_tbl := List.mem_of_getElem? (i := 884) (by decide +kernel)
theorem lX7_157 : ab_ml RX7 157 mX7_readOnce 3 := ⟨List.mem_of_getElem? (i := 886) (by decide +kernel), List.mem_of_getElem? (i := 889) (by decide +kernel), List.mem_of_getElem? (i := 114) (by decide +kernel), ⟨by decide, by decide⟩, by decide +kernel⟩
theorem iX7_readOnce : Cond.instanceMethod yX7_readOnce ∈ lw_tbl := List.mem_of_getElem? (i := 888) (by decide +kernel)
theorem sX7_readOnce : Cond.selects RX7 yX7_readOnce yX7_readOnce ∈ lw_tbl := List.mem_of_getElem? (i := 18) (by decide +kernel)
theorem lX7_170 : ab_ml RX7 170 mX7_takeOnce 1 := ⟨List.mem_of_getElem? (i := 890) (by decide +kernel), List.mem_of_getElem? (i := 893) (by decide +kernel), List.mem_of_getElem? (i := 114) (by decide +kernel), ⟨by decide, by decide⟩, by decide +kernel⟩
theorem iX7_takeOnce : Cond.instanceMethod yX7_takeOnce ∈ lw_tbl := List.mem_of_getElem? (i := 892) (by decide +kernel)
theorem sX7_takeOnce : Cond.selects RX7 yX7_takeOnce yX7_takeOnce ∈ lw_tbl := List.mem_of_getElem? (i := 19) (by decide +kernel)
theorem lX7_173 : ab_ml RX7 173 mX7_readSum 1 := ⟨List.mem_of_getElem? (i := 894) (by decide +kernel), List.mem_of_getElem? (i := 897) (by decide +kernel), List.mem_of_getElem? (i := 114) (by decide +kernel), ⟨by decide, by decide⟩, by decide +kernel⟩
theorem iX7_readSum : Cond.instanceMethod yX7_readSum ∈ lw_tbl := List.mem_of_getElem? (i := 896) (by decide +kernel)
theorem sX7_readSum : Cond.selects RX7 yX7_readSum yX7_readSum ∈ lw_tbl := List.mem_of_getElem? (i := 20) (by decide +kernel)
theorem lX7_208 : ab_ml RX7 208 mX7_readProduct 1 := ⟨List.mem_of_getElem? (i := 898) (by decide +kernel), List.mem_of_getElem? (i := 901) (by decide +kernel), List.mem_of_getElem? (i := 114) (by decide +kernel), ⟨by decide, by decide⟩, by decide +kernel⟩
theorem iX7_readProduct : Cond.instanceMethod yX7_readProduct ∈ lw_tbl := List.mem_of_getElem? (i := 900) (by decide +kernel)
theorem sX7_readProduct : Cond.selects RX7 yX7_readProduct yX7_readProduct ∈ lw_tbl := List.mem_of_getElem? (i := 21) (by decide +kernel)
theorem lX7_218 : ab_ml RX7 218 mX7_readFactor 1 := ⟨List.mem_of_getElem? (i := 902) (by decide +kernel), List.mem_of_getElem? (i := 905) (by decide +kernel), List.mem_of_getElem? (i := 114) (by decide +kernel), ⟨by decide, by decide⟩, by decide +kernel⟩
theorem iX7_readFactor : Cond.instanceMethod yX7_readFactor ∈ lw_tbl := List.mem_of_getElem? (i := 904) (by decide +kernel)
theorem sX7_readFactor : Cond.selects RX7 yX7_readFactor yX7_readFactor ∈ lw_tbl := List.mem_of_getElem? (i := 22) (by decide +kernel)
theorem lX7_215 : ab_ml RX7 215 mX7_write 1 := ⟨List.mem_of_getElem? (i := 906) (by decide +kernel), List.mem_of_getElem? (i := 909) (by decide +kernel), List.mem_of_getElem? (i := 114) (by decide +kernel), ⟨by decide, by decide⟩, by decide +kernel⟩
theorem iX7_write : Cond.instanceMethod yX7_write ∈ lw_tbl := List.mem_of_getElem? (i := 908) (by decide +kernel)
theorem sX7_write : Cond.selects RX7 yX7_write yX7_write ∈ lw_tbl := List.mem_of_getElem? (i := 23) (by decide +kernel)
theorem lX7_211 : ab_ml RX7 211 mX7_isNext 1 := ⟨List.mem_of_getElem? (i := 910) (by decide +kernel), List.mem_of_getElem? (i := 913) (by decide +kernel), List.mem_of_getElem? (i := 114) (by decide +kernel), ⟨by decide, by decide⟩, by decide +kernel⟩
theorem iX7_isNext : Cond.instanceMethod yX7_isNext ∈ lw_tbl := List.mem_of_getElem? (i := 912) (by decide +kernel)
theorem sX7_isNext : Cond.selects RX7 yX7_isNext yX7_isNext ∈ lw_tbl := List.mem_of_getElem? (i := 24) (by decide +kernel)
theorem lX7_70 : ab_ml RX7 70 mX7_take 1 := ⟨List.mem_of_getElem? (i := 914) (by decide +kernel), List.mem_of_getElem? (i := 917) (by decide +kernel), List.mem_of_getElem? (i := 114) (by decide +kernel), ⟨by decide, by decide⟩, by decide +kernel⟩
theorem iX7_take : Cond.instanceMethod yX7_take ∈ lw_tbl := List.mem_of_getElem? (i := 916) (by decide +kernel)
theorem sX7_take : Cond.selects RX7 yX7_take yX7_take ∈ lw_tbl := List.mem_of_getElem? (i := 25) (by decide +kernel)
theorem lX7_176 : ab_ml RX7 176 mX7_keepRule 0 := ⟨List.mem_of_getElem? (i := 918) (by decide +kernel), List.mem_of_getElem? (i := 921) (by decide +kernel), List.mem_of_getElem? (i := 114) (by decide +kernel), ⟨by decide, by decide⟩, by decide +kernel⟩
theorem iX7_keepRule : Cond.instanceMethod yX7_keepRule ∈ lw_tbl := List.mem_of_getElem? (i := 920) (by decide +kernel)
theorem sX7_keepRule : Cond.selects RX7 yX7_keepRule yX7_keepRule ∈ lw_tbl := List.mem_of_getElem? (i := 26) (by decide +kernel)
theorem lX7_201 : ab_ml RX7 201 mJ7_copyOf_59c91 2 := ⟨List.mem_of_getElem? (i := 922) (by decide +kernel), List.mem_of_getElem? (i := 924) (by decide +kernel), List.mem_of_getElem? (i := 134) (by decide +kernel), ⟨by decide, by decide⟩, by decide +kernel⟩
theorem tJ7_copyOf_59c91 : Cond.static yJ7_copyOf_59c91 ∈ lw_tbl := List.mem_of_getElem? (i := 923) (by decide +kernel)
theorem lJ7_304 : ab_ml RJ7 304 mJ9_min_7cf53 2 := ⟨List.mem_of_getElem? (i := 932) (by decide +kernel), List.mem_of_getElem? (i := 743) (by decide +kernel), List.mem_of_getElem? (i := 129) (by decide +kernel), ⟨by decide, by decide⟩, by decide +kernel⟩
theorem lX10_94 : ab_ml RX10 94 mX1_keep 1 := ⟨List.mem_of_getElem? (i := 936) (by decide +kernel), List.mem_of_getElem? (i := 939) (by decide +kernel), List.mem_of_getElem? (i := 118) (by decide +kernel), ⟨by decide, by decide⟩, by decide +kernel⟩
theorem iX1_keep : Cond.instanceMethod yX1_keep ∈ lw_tbl := List.mem_of_getElem? (i := 937) (by decide +kernel)
theorem sX1_keep : Cond.selects RX1 yX1_keep yX1_keep ∈ lw_tbl := List.mem_of_getElem? (i := 938) (by decide +kernel)
theorem lX1_29 : ab_ml RX1 29 mJ9_min_7cf53 2 := ⟨List.mem_of_getElem? (i := 940) (by decide +kernel), List.mem_of_getElem? (i := 743) (by decide +kernel), List.mem_of_getElem? (i := 129) (by decide +kernel), ⟨by decide, by decide⟩, by decide +kernel⟩
theorem lX10_101 : ab_ml RX10 101 mX2_copyFrom 1 := ⟨List.mem_of_getElem? (i := 941) (by decide +kernel), List.mem_of_getElem? (i := 615) (by decide +kernel), List.mem_of_getElem? (i := 115) (by decide +kernel), ⟨by decide, by decide⟩, by decide +kernel⟩
theorem lL_15 : ab_ml RL 15 mX10_sale 5 := ⟨List.mem_of_getElem? (i := 947) (by decide +kernel), List.mem_of_getElem? (i := 950) (by decide +kernel), List.mem_of_getElem? (i := 113) (by decide +kernel), ⟨by decide, by decide⟩, by decide +kernel⟩
theorem iX10_sale : Cond.instanceMethod yX10_sale ∈ lw_tbl := List.mem_of_getElem? (i := 948) (by decide +kernel)
theorem sX10_sale : Cond.selects RX10 yX10_sale yX10_sale ∈ lw_tbl := List.mem_of_getElem? (i := 949) (by decide +kernel)
theorem lX10_107 : ab_ml RX10 107 mX10_needDealer 1 := ⟨List.mem_of_getElem? (i := 951) (by decide +kernel), List.mem_of_getElem? (i := 954) (by decide +kernel), List.mem_of_getElem? (i := 113) (by decide +kernel), ⟨by decide, by decide⟩, by decide +kernel⟩
theorem iX10_needDealer : Cond.instanceMethod yX10_needDealer ∈ lw_tbl := List.mem_of_getElem? (i := 953) (by decide +kernel)
theorem sX10_needDealer : Cond.selects RX10 yX10_needDealer yX10_needDealer ∈ lw_tbl := List.mem_of_getElem? (i := 27) (by decide +kernel)
theorem lX10_249 : ab_ml RX10 249 mX10_refuseMissing 0 := ⟨List.mem_of_getElem? (i := 955) (by decide +kernel), List.mem_of_getElem? (i := 958) (by decide +kernel), List.mem_of_getElem? (i := 113) (by decide +kernel), ⟨by decide, by decide⟩, by decide +kernel⟩
theorem iX10_refuseMissing : Cond.instanceMethod yX10_refuseMissing ∈ lw_tbl := List.mem_of_getElem? (i := 957) (by decide +kernel)
theorem sX10_refuseMissing : Cond.selects RX10 yX10_refuseMissing yX10_refuseMissing ∈ lw_tbl := List.mem_of_getElem? (i := 28) (by decide +kernel)
theorem lX10_113 : ab_ml RX10 113 mX10_refuseUntimely 0 := ⟨List.mem_of_getElem? (i := 974) (by decide +kernel), List.mem_of_getElem? (i := 977) (by decide +kernel), List.mem_of_getElem? (i := 113) (by decide +kernel), ⟨by decide, by decide⟩, by decide +kernel⟩
theorem iX10_refuseUntimely : Cond.instanceMethod yX10_refuseUntimely ∈ lw_tbl := List.mem_of_getElem? (i := 976) (by decide +kernel)
theorem sX10_refuseUntimely : Cond.selects RX10 yX10_refuseUntimely yX10_refuseUntimely ∈ lw_tbl := List.mem_of_getElem? (i := 29) (by decide +kernel)
theorem lX10_116 : ab_ml RX10 116 mX2_addSale 5 := ⟨List.mem_of_getElem? (i := 993) (by decide +kernel), List.mem_of_getElem? (i := 885) (by decide +kernel), List.mem_of_getElem? (i := 115) (by decide +kernel), ⟨by decide, by decide⟩, by decide +kernel⟩
theorem lL_23 : ab_ml RL 23 mX10_stock 2 := ⟨List.mem_of_getElem? (i := 997) (by decide +kernel), List.mem_of_getElem? (i := 1000) (by decide +kernel), List.mem_of_getElem? (i := 113) (by decide +kernel), ⟨by decide, by decide⟩, by decide +kernel⟩
theorem iX10_stock : Cond.instanceMethod yX10_stock ∈ lw_tbl := List.mem_of_getElem? (i := 998) (by decide +kernel)
theorem sX10_stock : Cond.selects RX10 yX10_stock yX10_stock ∈ lw_tbl := List.mem_of_getElem? (i := 999) (by decide +kernel)
theorem lL_27 : ab_ml RL 27 mX10_mark 1 := ⟨List.mem_of_getElem? (i := 1005) (by decide +kernel), List.mem_of_getElem? (i := 1008) (by decide +kernel), List.mem_of_getElem? (i := 113) (by decide +kernel), ⟨by decide, by decide⟩, by decide +kernel⟩
theorem iX10_mark : Cond.instanceMethod yX10_mark ∈ lw_tbl := List.mem_of_getElem? (i := 1006) (by decide +kernel)
theorem sX10_mark : Cond.selects RX10 yX10_mark yX10_mark ∈ lw_tbl := List.mem_of_getElem? (i := 1007) (by decide +kernel)
theorem lL_30 : ab_ml RL 30 mX10_night 0 := ⟨List.mem_of_getElem? (i := 1012) (by decide +kernel), List.mem_of_getElem? (i := 1015) (by decide +kernel), List.mem_of_getElem? (i := 113) (by decide +kernel), ⟨by decide, by decide⟩, by decide +kernel⟩
theorem iX10_night : Cond.instanceMethod yX10_night ∈ lw_tbl := List.mem_of_getElem? (i := 1013) (by decide +kernel)
theorem sX10_night : Cond.selects RX10 yX10_night yX10_night ∈ lw_tbl := List.mem_of_getElem? (i := 1014) (by decide +kernel)
theorem lX10_136 : ab_ml RX10 136 mX4_pass 1 := ⟨List.mem_of_getElem? (i := 1016) (by decide +kernel), List.mem_of_getElem? (i := 1019) (by decide +kernel), List.mem_of_getElem? (i := 123) (by decide +kernel), ⟨by decide, by decide⟩, by decide +kernel⟩
theorem iX4_pass : Cond.instanceMethod yX4_pass ∈ lw_tbl := List.mem_of_getElem? (i := 1017) (by decide +kernel)
theorem sX4_pass : Cond.selects RX4 yX4_pass yX4_pass ∈ lw_tbl := List.mem_of_getElem? (i := 1018) (by decide +kernel)
theorem lX4_32 : ab_ml RX4 32 mX5_arrange 1 := ⟨List.mem_of_getElem? (i := 1020) (by decide +kernel), List.mem_of_getElem? (i := 1023) (by decide +kernel), List.mem_of_getElem? (i := 119) (by decide +kernel), ⟨by decide, by decide⟩, by decide +kernel⟩
theorem iX5_arrange : Cond.instanceMethod yX5_arrange ∈ lw_tbl := List.mem_of_getElem? (i := 1021) (by decide +kernel)
theorem sX5_arrange : Cond.selects RX5 yX5_arrange yX5_arrange ∈ lw_tbl := List.mem_of_getElem? (i := 1022) (by decide +kernel)
theorem lX5_35 : ab_ml RX5 35 mX5_worthOf 2 := ⟨List.mem_of_getElem? (i := 1024) (by decide +kernel), List.mem_of_getElem? (i := 1027) (by decide +kernel), List.mem_of_getElem? (i := 119) (by decide +kernel), ⟨by decide, by decide⟩, by decide +kernel⟩
theorem iX5_worthOf : Cond.instanceMethod yX5_worthOf ∈ lw_tbl := List.mem_of_getElem? (i := 1025) (by decide +kernel)
theorem sX5_worthOf : Cond.selects RX5 yX5_worthOf yX5_worthOf ∈ lw_tbl := List.mem_of_getElem? (i := 1026) (by decide +kernel)
theorem lX5_46 : ab_ml RX5 46 mX5_operand 3 := ⟨List.mem_of_getElem? (i := 1028) (by decide +kernel), List.mem_of_getElem? (i := 1030) (by decide +kernel), List.mem_of_getElem? (i := 119) (by decide +kernel), ⟨by decide, by decide⟩, by decide +kernel⟩
theorem tX5_operand : Cond.static yX5_operand ∈ lw_tbl := List.mem_of_getElem? (i := 1029) (by decide +kernel)
theorem lX5_50 : ab_ml RX5 50 mX5_joined 3 := ⟨List.mem_of_getElem? (i := 1031) (by decide +kernel), List.mem_of_getElem? (i := 1033) (by decide +kernel), List.mem_of_getElem? (i := 119) (by decide +kernel), ⟨by decide, by decide⟩, by decide +kernel⟩
theorem tX5_joined : Cond.static yX5_joined ∈ lw_tbl := List.mem_of_getElem? (i := 1032) (by decide +kernel)
theorem lX5_39 : ab_ml RX5 39 mX5_insert 1 := ⟨List.mem_of_getElem? (i := 1034) (by decide +kernel), List.mem_of_getElem? (i := 1037) (by decide +kernel), List.mem_of_getElem? (i := 119) (by decide +kernel), ⟨by decide, by decide⟩, by decide +kernel⟩
theorem iX5_insert : Cond.instanceMethod yX5_insert ∈ lw_tbl := List.mem_of_getElem? (i := 1036) (by decide +kernel)
theorem sX5_insert : Cond.selects RX5 yX5_insert yX5_insert ∈ lw_tbl := List.mem_of_getElem? (i := 30) (by decide +kernel)
theorem lX4_36 : ab_ml RX4 36 mX4_settleRings 1 := ⟨List.mem_of_getElem? (i := 1038) (by decide +kernel), List.mem_of_getElem? (i := 1041) (by decide +kernel), List.mem_of_getElem? (i := 123) (by decide +kernel), ⟨by decide, by decide⟩, by decide +kernel⟩
theorem iX4_settleRings : Cond.instanceMethod yX4_settleRings ∈ lw_tbl := List.mem_of_getElem? (i := 1040) (by decide +kernel)
theorem sX4_settleRings : Cond.selects RX4 yX4_settleRings yX4_settleRings ∈ lw_tbl := List.mem_of_getElem? (i := 31) (by decide +kernel)
theorem lX4_55 : ab_ml RX4 55 mX8_find 2 := ⟨List.mem_of_getElem? (i := 1042) (by decide +kernel), List.mem_of_getElem? (i := 1045) (by decide +kernel), List.mem_of_getElem? (i := 121) (by decide +kernel), ⟨by decide, by decide⟩, by decide +kernel⟩
theorem iX8_find : Cond.instanceMethod yX8_find ∈ lw_tbl := List.mem_of_getElem? (i := 1043) (by decide +kernel)
theorem sX8_find : Cond.selects RX8 yX8_find yX8_find ∈ lw_tbl := List.mem_of_getElem? (i := 1044) (by decide +kernel)
theorem lX8_18 : ab_ml RX8 18 mX8_seeBuyers 1 := ⟨List.mem_of_getElem? (i := 1046) (by decide +kernel), List.mem_of_getElem? (i := 1049) (by decide +kernel), List.mem_of_getElem? (i := 121) (by decide +kernel), ⟨by decide, by decide⟩, by decide +kernel⟩
theorem iX8_seeBuyers : Cond.instanceMethod yX8_seeBuyers ∈ lw_tbl := List.mem_of_getElem? (i := 1048) (by decide +kernel)
theorem sX8_seeBuyers : Cond.selects RX8 yX8_seeBuyers yX8_seeBuyers ∈ lw_tbl := List.mem_of_getElem? (i := 32) (by decide +kernel)
theorem lX8_70 : ab_ml RX8 70 mJ7_fill_53178 2 := ⟨List.mem_of_getElem? (i := 1050) (by decide +kernel), List.mem_of_getElem? (i := 1052) (by decide +kernel), List.mem_of_getElem? (i := 134) (by decide +kernel), ⟨by decide, by decide⟩, by decide +kernel⟩
theorem tJ7_fill_53178 : Cond.static yJ7_fill_53178 ∈ lw_tbl := List.mem_of_getElem? (i := 1051) (by decide +kernel)
theorem lX8_31 : ab_ml RX8 31 mX8_isFit 2 := ⟨List.mem_of_getElem? (i := 1053) (by decide +kernel), List.mem_of_getElem? (i := 1055) (by decide +kernel), List.mem_of_getElem? (i := 121) (by decide +kernel), ⟨by decide, by decide⟩, by decide +kernel⟩
theorem tX8_isFit : Cond.static yX8_isFit ∈ lw_tbl := List.mem_of_getElem? (i := 1054) (by decide +kernel)
theorem lX8_35 : ab_ml RX8 35 mX8_follow 3 := ⟨List.mem_of_getElem? (i := 1056) (by decide +kernel), List.mem_of_getElem? (i := 1059) (by decide +kernel), List.mem_of_getElem? (i := 121) (by decide +kernel), ⟨by decide, by decide⟩, by decide +kernel⟩
theorem iX8_follow : Cond.instanceMethod yX8_follow ∈ lw_tbl := List.mem_of_getElem? (i := 1058) (by decide +kernel)
theorem sX8_follow : Cond.selects RX8 yX8_follow yX8_follow ∈ lw_tbl := List.mem_of_getElem? (i := 33) (by decide +kernel)
theorem lX8_86 : ab_ml RX8 86 mX8_whoReach 2 := ⟨List.mem_of_getElem? (i := 1060) (by decide +kernel), List.mem_of_getElem? (i := 1063) (by decide +kernel), List.mem_of_getElem? (i := 121) (by decide +kernel), ⟨by decide, by decide⟩, by decide +kernel⟩
theorem iX8_whoReach : Cond.instanceMethod yX8_whoReach ∈ lw_tbl := List.mem_of_getElem? (i := 1062) (by decide +kernel)
theorem sX8_whoReach : Cond.selects RX8 yX8_whoReach yX8_whoReach ∈ lw_tbl := List.mem_of_getElem? (i := 34) (by decide +kernel)
theorem lX8_90 : ab_ml RX8 90 mX8_nextOf 4 := ⟨List.mem_of_getElem? (i := 1064) (by decide +kernel), List.mem_of_getElem? (i := 1066) (by decide +kernel), List.mem_of_getElem? (i := 121) (by decide +kernel), ⟨by decide, by decide⟩, by decide +kernel⟩
theorem tX8_nextOf : Cond.static yX8_nextOf ∈ lw_tbl := List.mem_of_getElem? (i := 1065) (by decide +kernel)
theorem lX8_39 : ab_ml RX8 39 mX8_leastOpen 1 := ⟨List.mem_of_getElem? (i := 1067) (by decide +kernel), List.mem_of_getElem? (i := 1070) (by decide +kernel), List.mem_of_getElem? (i := 121) (by decide +kernel), ⟨by decide, by decide⟩, by decide +kernel⟩
theorem iX8_leastOpen : Cond.instanceMethod yX8_leastOpen ∈ lw_tbl := List.mem_of_getElem? (i := 1069) (by decide +kernel)
theorem sX8_leastOpen : Cond.selects RX8 yX8_leastOpen yX8_leastOpen ∈ lw_tbl := List.mem_of_getElem? (i := 35) (by decide +kernel)
theorem lX8_94 : ab_ml RX8 94 mJ9_min_7cf53 2 := ⟨List.mem_of_getElem? (i := 1071) (by decide +kernel), List.mem_of_getElem? (i := 743) (by decide +kernel), List.mem_of_getElem? (i := 129) (by decide +kernel), ⟨by decide, by decide⟩, by decide +kernel⟩
theorem lX8_43 : ab_ml RX8 43 mX2_wholeLots 1 := ⟨List.mem_of_getElem? (i := 1072) (by decide +kernel), List.mem_of_getElem? (i := 1075) (by decide +kernel), List.mem_of_getElem? (i := 115) (by decide +kernel), ⟨by decide, by decide⟩, by decide +kernel⟩
theorem iX2_wholeLots : Cond.instanceMethod yX2_wholeLots ∈ lw_tbl := List.mem_of_getElem? (i := 1073) (by decide +kernel)
theorem sX2_wholeLots : Cond.selects RX2 yX2_wholeLots yX2_wholeLots ∈ lw_tbl := List.mem_of_getElem? (i := 1074) (by decide +kernel)
theorem lX4_69 : ab_ml RX4 69 mX2_settleInRing 2 := ⟨List.mem_of_getElem? (i := 1076) (by decide +kernel), List.mem_of_getElem? (i := 1079) (by decide +kernel), List.mem_of_getElem? (i := 115) (by decide +kernel), ⟨by decide, by decide⟩, by decide +kernel⟩
theorem iX2_settleInRing : Cond.instanceMethod yX2_settleInRing ∈ lw_tbl := List.mem_of_getElem? (i := 1077) (by decide +kernel)
theorem sX2_settleInRing : Cond.selects RX2 yX2_settleInRing yX2_settleInRing ∈ lw_tbl := List.mem_of_getElem? (i := 1078) (by decide +kernel)
theorem lX2_110 : ab_ml RX2 110 mX2_payForUnits 2 := ⟨List.mem_of_getElem? (i := 1080) (by decide +kernel), List.mem_of_getElem? (i := 1083) (by decide +kernel), List.mem_of_getElem? (i := 115) (by decide +kernel), ⟨by decide, by decide⟩, by decide +kernel⟩
theorem iX2_payForUnits : Cond.instanceMethod yX2_payForUnits ∈ lw_tbl := List.mem_of_getElem? (i := 1081) (by decide +kernel)
theorem sX2_payForUnits : Cond.selects RX2 yX2_payForUnits yX2_payForUnits ∈ lw_tbl := List.mem_of_getElem? (i := 1082) (by decide +kernel)
theorem lX4_39 : ab_ml RX4 39 mX4_deliverAll 1 := ⟨List.mem_of_getElem? (i := 1084) (by decide +kernel), List.mem_of_getElem? (i := 1087) (by decide +kernel), List.mem_of_getElem? (i := 123) (by decide +kernel), ⟨by decide, by decide⟩, by decide +kernel⟩
theorem iX4_deliverAll : Cond.instanceMethod yX4_deliverAll ∈ lw_tbl := List.mem_of_getElem? (i := 1086) (by decide +kernel)
theorem sX4_deliverAll : Cond.selects RX4 yX4_deliverAll yX4_deliverAll ∈ lw_tbl := List.mem_of_getElem? (i := 36) (by decide +kernel)
theorem lX4_77 : ab_ml RX4 77 mX2_isAsked 1 := ⟨List.mem_of_getElem? (i := 1088) (by decide +kernel), List.mem_of_getElem? (i := 635) (by decide +kernel), List.mem_of_getElem? (i := 115) (by decide +kernel), ⟨by decide, by decide⟩, by decide +kernel⟩
theorem lX4_81 : ab_ml RX4 81 mX2_deliverable 1 := ⟨List.mem_of_getElem? (i := 1089) (by decide +kernel), List.mem_of_getElem? (i := 1092) (by decide +kernel), List.mem_of_getElem? (i := 115) (by decide +kernel), ⟨by decide, by decide⟩, by decide +kernel⟩
theorem iX2_deliverable : Cond.instanceMethod yX2_deliverable ∈ lw_tbl := List.mem_of_getElem? (i := 1090) (by decide +kernel)
theorem sX2_deliverable : Cond.selects RX2 yX2_deliverable yX2_deliverable ∈ lw_tbl := List.mem_of_getElem? (i := 1091) (by decide +kernel)
theorem lX2_117 : ab_ml RX2 117 mX2_wholeLots 1 := ⟨List.mem_of_getElem? (i := 1093) (by decide +kernel), List.mem_of_getElem? (i := 1075) (by decide +kernel), List.mem_of_getElem? (i := 115) (by decide +kernel), ⟨by decide, by decide⟩, by decide +kernel⟩
theorem lX4_85 : ab_ml RX4 85 mX2_deliver 2 := ⟨List.mem_of_getElem? (i := 1094) (by decide +kernel), List.mem_of_getElem? (i := 1097) (by decide +kernel), List.mem_of_getElem? (i := 115) (by decide +kernel), ⟨by decide, by decide⟩, by decide +kernel⟩
theorem iX2_deliver : Cond.instanceMethod yX2_deliver ∈ lw_tbl := List.mem_of_getElem? (i := 1095) (by decide +kernel)
theorem sX2_deliver : Cond.selects RX2 yX2_deliver yX2_deliver ∈ lw_tbl := List.mem_of_getElem? (i := 1096) (by decide +kernel)
theorem lX4_43 : ab_ml RX4 43 mX4_payPenalties 1 := ⟨List.mem_of_getElem? (i := 1098) (by decide +kernel), List.mem_of_getElem? (i := 1101) (by decide +kernel), List.mem_of_getElem? (i := 123) (by decide +kernel), ⟨by decide, by decide⟩, by decide +kernel⟩
theorem iX4_payPenalties : Cond.instanceMethod yX4_payPenalties ∈ lw_tbl := List.mem_of_getElem? (i := 1100) (by decide +kernel)
theorem sX4_payPenalties : Cond.selects RX4 yX4_payPenalties yX4_payPenalties ∈ lw_tbl := List.mem_of_getElem? (i := 37) (by decide +kernel)
theorem lX4_88 : ab_ml RX4 88 mX2_countFails 0 := ⟨List.mem_of_getElem? (i := 1102) (by decide +kernel), List.mem_of_getElem? (i := 1105) (by decide +kernel), List.mem_of_getElem? (i := 115) (by decide +kernel), ⟨by decide, by decide⟩, by decide +kernel⟩
theorem iX2_countFails : Cond.instanceMethod yX2_countFails ∈ lw_tbl := List.mem_of_getElem? (i := 1103) (by decide +kernel)
theorem sX2_countFails : Cond.selects RX2 yX2_countFails yX2_countFails ∈ lw_tbl := List.mem_of_getElem? (i := 1104) (by decide +kernel)
theorem lX4_95 : ab_ml RX4 95 mX2_unitsOfFails 2 := ⟨List.mem_of_getElem? (i := 1106) (by decide +kernel), List.mem_of_getElem? (i := 631) (by decide +kernel), List.mem_of_getElem? (i := 115) (by decide +kernel), ⟨by decide, by decide⟩, by decide +kernel⟩
theorem lX4_109 : ab_ml RX4 109 mX2_penaltyOf 1 := ⟨List.mem_of_getElem? (i := 1107) (by decide +kernel), List.mem_of_getElem? (i := 1110) (by decide +kernel), List.mem_of_getElem? (i := 115) (by decide +kernel), ⟨by decide, by decide⟩, by decide +kernel⟩
theorem iX2_penaltyOf : Cond.instanceMethod yX2_penaltyOf ∈ lw_tbl := List.mem_of_getElem? (i := 1108) (by decide +kernel)
theorem sX2_penaltyOf : Cond.selects RX2 yX2_penaltyOf yX2_penaltyOf ∈ lw_tbl := List.mem_of_getElem? (i := 1109) (by decide +kernel)
theorem lX4_113 : ab_ml RX4 113 mX2_payPenalty 2 := ⟨List.mem_of_getElem? (i := 1112) (by decide +kernel), List.mem_of_getElem? (i := 1115) (by decide +kernel), List.mem_of_getElem? (i := 115) (by decide +kernel), ⟨by decide, by decide⟩, by decide +kernel⟩
theorem iX2_payPenalty : Cond.instanceMethod yX2_payPenalty ∈ lw_tbl := List.mem_of_getElem? (i := 1113) (by decide +kernel)
theorem sX2_payPenalty : Cond.selects RX2 yX2_payPenalty yX2_payPenalty ∈ lw_tbl := List.mem_of_getElem? (i := 1114) (by decide +kernel)
theorem lX4_46 : ab_ml RX4 46 mX4_buyInLate 1 := ⟨List.mem_of_getElem? (i := 1116) (by decide +kernel), List.mem_of_getElem? (i := 1119) (by decide +kernel), List.mem_of_getElem? (i := 123) (by decide +kernel), ⟨by decide, by decide⟩, by decide +kernel⟩
theorem iX4_buyInLate : Cond.instanceMethod yX4_buyInLate ∈ lw_tbl := List.mem_of_getElem? (i := 1118) (by decide +kernel)
theorem sX4_buyInLate : Cond.selects RX4 yX4_buyInLate yX4_buyInLate ∈ lw_tbl := List.mem_of_getElem? (i := 38) (by decide +kernel)
theorem lX4_132 : ab_ml RX4 132 mX2_sellsAsked 1 := ⟨List.mem_of_getElem? (i := 1120) (by decide +kernel), List.mem_of_getElem? (i := 1123) (by decide +kernel), List.mem_of_getElem? (i := 115) (by decide +kernel), ⟨by decide, by decide⟩, by decide +kernel⟩
theorem iX2_sellsAsked : Cond.instanceMethod yX2_sellsAsked ∈ lw_tbl := List.mem_of_getElem? (i := 1121) (by decide +kernel)
theorem sX2_sellsAsked : Cond.selects RX2 yX2_sellsAsked yX2_sellsAsked ∈ lw_tbl := List.mem_of_getElem? (i := 1122) (by decide +kernel)
theorem lX2_103 : ab_ml RX2 103 mX2_unitsOfFails 2 := ⟨List.mem_of_getElem? (i := 1124) (by decide +kernel), List.mem_of_getElem? (i := 631) (by decide +kernel), List.mem_of_getElem? (i := 115) (by decide +kernel), ⟨by decide, by decide⟩, by decide +kernel⟩
theorem lX4_138 : ab_ml RX4 138 mX6_buyIn 4 := ⟨List.mem_of_getElem? (i := 1125) (by decide +kernel), List.mem_of_getElem? (i := 1128) (by decide +kernel), List.mem_of_getElem? (i := 120) (by decide +kernel), ⟨by decide, by decide⟩, by decide +kernel⟩
theorem iX6_buyIn : Cond.instanceMethod yX6_buyIn ∈ lw_tbl := List.mem_of_getElem? (i := 1126) (by decide +kernel)
theorem sX6_buyIn : Cond.selects RX6 yX6_buyIn yX6_buyIn ∈ lw_tbl := List.mem_of_getElem? (i := 1127) (by decide +kernel)
theorem lX6_89 : ab_ml RX6 89 mX6_stand 2 := ⟨List.mem_of_getElem? (i := 1129) (by decide +kernel), List.mem_of_getElem? (i := 1132) (by decide +kernel), List.mem_of_getElem? (i := 120) (by decide +kernel), ⟨by decide, by decide⟩, by decide +kernel⟩
theorem iX6_stand : Cond.instanceMethod yX6_stand ∈ lw_tbl := List.mem_of_getElem? (i := 1130) (by decide +kernel)
theorem sX6_stand : Cond.selects RX6 yX6_stand yX6_stand ∈ lw_tbl := List.mem_of_getElem? (i := 1131) (by decide +kernel)
theorem lX6_37 : ab_ml RX6 37 mJ7_fill_53178 2 := ⟨List.mem_of_getElem? (i := 1133) (by decide +kernel), List.mem_of_getElem? (i := 1052) (by decide +kernel), List.mem_of_getElem? (i := 134) (by decide +kernel), ⟨by decide, by decide⟩, by decide +kernel⟩
theorem lX6_48 : ab_ml RX6 48 mX2_isAsked 1 := ⟨List.mem_of_getElem? (i := 1134) (by decide +kernel), List.mem_of_getElem? (i := 635) (by decide +kernel), List.mem_of_getElem? (i := 115) (by decide +kernel), ⟨by decide, by decide⟩, by decide +kernel⟩
theorem lX6_69 : ab_ml RX6 69 mX6_standOne 3 := ⟨List.mem_of_getElem? (i := 1135) (by decide +kernel), List.mem_of_getElem? (i := 1138) (by decide +kernel), List.mem_of_getElem? (i := 120) (by decide +kernel), ⟨by decide, by decide⟩, by decide +kernel⟩
theorem iX6_standOne : Cond.instanceMethod yX6_standOne ∈ lw_tbl := List.mem_of_getElem? (i := 1137) (by decide +kernel)
theorem sX6_standOne : Cond.selects RX6 yX6_standOne yX6_standOne ∈ lw_tbl := List.mem_of_getElem? (i := 39) (by decide +kernel)
theorem lX6_79 : ab_ml RX6 79 mJ9_min_7cf53 2 := ⟨List.mem_of_getElem? (i := 1139) (by decide +kernel), List.mem_of_getElem? (i := 743) (by decide +kernel), List.mem_of_getElem? (i := 129) (by decide +kernel), ⟨by decide, by decide⟩, by decide +kernel⟩
theorem lX6_85 : ab_ml RX6 85 mX6_add 2 := ⟨List.mem_of_getElem? (i := 1140) (by decide +kernel), List.mem_of_getElem? (i := 1143) (by decide +kernel), List.mem_of_getElem? (i := 120) (by decide +kernel), ⟨by decide, by decide⟩, by decide +kernel⟩
theorem iX6_add : Cond.instanceMethod yX6_add ∈ lw_tbl := List.mem_of_getElem? (i := 1142) (by decide +kernel)
theorem sX6_add : Cond.selects RX6 yX6_add yX6_add ∈ lw_tbl := List.mem_of_getElem? (i := 40) (by decide +kernel)
theorem lX6_93 : ab_ml RX6 93 mX2_buyOutside 2 := ⟨List.mem_of_getElem? (i := 1144) (by decide +kernel), List.mem_of_getElem? (i := 1147) (by decide +kernel), List.mem_of_getElem? (i := 115) (by decide +kernel), ⟨by decide, by decide⟩, by decide +kernel⟩
theorem iX2_buyOutside : Cond.instanceMethod yX2_buyOutside ∈ lw_tbl := List.mem_of_getElem? (i := 1145) (by decide +kernel)
theorem sX2_buyOutside : Cond.selects RX2 yX2_buyOutside yX2_buyOutside ∈ lw_tbl := List.mem_of_getElem? (i := 1146) (by decide +kernel)
theorem lX6_96 : ab_ml RX6 96 mX6_closeDown 5 := ⟨List.mem_of_getElem? (i := 1148) (by decide +kernel), List.mem_of_getElem? (i := 1151) (by decide +kernel), List.mem_of_getElem? (i := 120) (by decide +kernel), ⟨by decide, by decide⟩, by decide +kernel⟩
theorem iX6_closeDown : Cond.instanceMethod yX6_closeDown ∈ lw_tbl := List.mem_of_getElem? (i := 1150) (by decide +kernel)
theorem sX6_closeDown : Cond.selects RX6 yX6_closeDown yX6_closeDown ∈ lw_tbl := List.mem_of_getElem? (i := 41) (by decide +kernel)
theorem lX6_100 : ab_ml RX6 100 mX2_close 2 := ⟨List.mem_of_getElem? (i := 1152) (by decide +kernel), List.mem_of_getElem? (i := 1155) (by decide +kernel), List.mem_of_getElem? (i := 115) (by decide +kernel), ⟨by decide, by decide⟩, by decide +kernel⟩
theorem iX2_close : Cond.instanceMethod yX2_close ∈ lw_tbl := List.mem_of_getElem? (i := 1153) (by decide +kernel)
theorem sX2_close : Cond.selects RX2 yX2_close yX2_close ∈ lw_tbl := List.mem_of_getElem? (i := 1154) (by decide +kernel)
theorem lX2_132 : ab_ml RX2 132 mJ9_max_7cf53 2 := ⟨List.mem_of_getElem? (i := 1156) (by decide +kernel), List.mem_of_getElem? (i := 1158) (by decide +kernel), List.mem_of_getElem? (i := 129) (by decide +kernel), ⟨by decide, by decide⟩, by decide +kernel⟩
theorem tJ9_max_7cf53 : Cond.static yJ9_max_7cf53 ∈ lw_tbl := List.mem_of_getElem? (i := 1157) (by decide +kernel)
theorem lL_34 : ab_ml RL 34 mX10_buyin 2 := ⟨List.mem_of_getElem? (i := 1162) (by decide +kernel), List.mem_of_getElem? (i := 1165) (by decide +kernel), List.mem_of_getElem? (i := 113) (by decide +kernel), ⟨by decide, by decide⟩, by decide +kernel⟩
theorem iX10_buyin : Cond.instanceMethod yX10_buyin ∈ lw_tbl := List.mem_of_getElem? (i := 1163) (by decide +kernel)
theorem sX10_buyin : Cond.selects RX10 yX10_buyin yX10_buyin ∈ lw_tbl := List.mem_of_getElem? (i := 1164) (by decide +kernel)
theorem lX10_142 : ab_ml RX10 142 mX10_needSale 1 := ⟨List.mem_of_getElem? (i := 1166) (by decide +kernel), List.mem_of_getElem? (i := 1169) (by decide +kernel), List.mem_of_getElem? (i := 113) (by decide +kernel), ⟨by decide, by decide⟩, by decide +kernel⟩
theorem iX10_needSale : Cond.instanceMethod yX10_needSale ∈ lw_tbl := List.mem_of_getElem? (i := 1168) (by decide +kernel)
theorem sX10_needSale : Cond.selects RX10 yX10_needSale yX10_needSale ∈ lw_tbl := List.mem_of_getElem? (i := 42) (by decide +kernel)
theorem lX10_145 : ab_ml RX10 145 mX2_isAsked 1 := ⟨List.mem_of_getElem? (i := 1170) (by decide +kernel), List.mem_of_getElem? (i := 635) (by decide +kernel), List.mem_of_getElem? (i := 115) (by decide +kernel), ⟨by decide, by decide⟩, by decide +kernel⟩
theorem lX10_158 : ab_ml RX10 158 mX5_arrange 1 := ⟨List.mem_of_getElem? (i := 1171) (by decide +kernel), List.mem_of_getElem? (i := 1023) (by decide +kernel), List.mem_of_getElem? (i := 119) (by decide +kernel), ⟨by decide, by decide⟩, by decide +kernel⟩
theorem lX10_161 : ab_ml RX10 161 mX6_buyIn 4 := ⟨List.mem_of_getElem? (i := 1172) (by decide +kernel), List.mem_of_getElem? (i := 1128) (by decide +kernel), List.mem_of_getElem? (i := 120) (by decide +kernel), ⟨by decide, by decide⟩, by decide +kernel⟩
theorem lL_37 : ab_ml RL 37 mX10_told 1 := ⟨List.mem_of_getElem? (i := 1176) (by decide +kernel), List.mem_of_getElem? (i := 1179) (by decide +kernel), List.mem_of_getElem? (i := 113) (by decide +kernel), ⟨by decide, by decide⟩, by decide +kernel⟩
theorem iX10_told : Cond.instanceMethod yX10_told ∈ lw_tbl := List.mem_of_getElem? (i := 1177) (by decide +kernel)
theorem sX10_told : Cond.selects RX10 yX10_told yX10_told ∈ lw_tbl := List.mem_of_getElem? (i := 1178) (by decide +kernel)
theorem lX10_181 : ab_ml RX10 181 mX2_countFails 0 := ⟨List.mem_of_getElem? (i := 1180) (by decide +kernel), List.mem_of_getElem? (i := 1105) (by decide +kernel), List.mem_of_getElem? (i := 115) (by decide +kernel), ⟨by decide, by decide⟩, by decide +kernel⟩
theorem lL_40 : ab_ml RL 40 mX10_dealer 2 := ⟨List.mem_of_getElem? (i := 1184) (by decide +kernel), List.mem_of_getElem? (i := 1187) (by decide +kernel), List.mem_of_getElem? (i := 113) (by decide +kernel), ⟨by decide, by decide⟩, by decide +kernel⟩
theorem iX10_dealer : Cond.instanceMethod yX10_dealer ∈ lw_tbl := List.mem_of_getElem? (i := 1185) (by decide +kernel)
theorem sX10_dealer : Cond.selects RX10 yX10_dealer yX10_dealer ∈ lw_tbl := List.mem_of_getElem? (i := 1186) (by decide +kernel)
theorem lX10_202 : ab_ml RX10 202 mX10_ownFaultOf 1 := ⟨List.mem_of_getElem? (i := 1188) (by decide +kernel), List.mem_of_getElem? (i := 1191) (by decide +kernel), List.mem_of_getElem? (i := 113) (by decide +kernel), ⟨by decide, by decide⟩, by decide +kernel⟩
theorem iX10_ownFaultOf : Cond.instanceMethod yX10_ownFaultOf ∈ lw_tbl := List.mem_of_getElem? (i := 1190) (by decide +kernel)
theorem sX10_ownFaultOf : Cond.selects RX10 yX10_ownFaultOf yX10_ownFaultOf ∈ lw_tbl := List.mem_of_getElem? (i := 43) (by decide +kernel)
theorem lX10_243 : ab_ml RX10 243 mX10_standNow 0 := ⟨List.mem_of_getElem? (i := 1192) (by decide +kernel), List.mem_of_getElem? (i := 1195) (by decide +kernel), List.mem_of_getElem? (i := 113) (by decide +kernel), ⟨by decide, by decide⟩, by decide +kernel⟩
theorem iX10_standNow : Cond.instanceMethod yX10_standNow ∈ lw_tbl := List.mem_of_getElem? (i := 1194) (by decide +kernel)
theorem sX10_standNow : Cond.selects RX10 yX10_standNow yX10_standNow ∈ lw_tbl := List.mem_of_getElem? (i := 44) (by decide +kernel)
theorem lX10_300 : ab_ml RX10 300 mX6_stand 2 := ⟨List.mem_of_getElem? (i := 1196) (by decide +kernel), List.mem_of_getElem? (i := 1132) (by decide +kernel), List.mem_of_getElem? (i := 120) (by decide +kernel), ⟨by decide, by decide⟩, by decide +kernel⟩
theorem lL_44 : ab_ml RL 44 mX10_of 2 := ⟨List.mem_of_getElem? (i := 1200) (by decide +kernel), List.mem_of_getElem? (i := 1203) (by decide +kernel), List.mem_of_getElem? (i := 113) (by decide +kernel), ⟨by decide, by decide⟩, by decide +kernel⟩
theorem iX10_of : Cond.instanceMethod yX10_of ∈ lw_tbl := List.mem_of_getElem? (i := 1201) (by decide +kernel)
theorem sX10_of : Cond.selects RX10 yX10_of yX10_of ∈ lw_tbl := List.mem_of_getElem? (i := 1202) (by decide +kernel)
theorem lX10_236 : ab_ml RX10 236 mX10_placeOf 1 := ⟨List.mem_of_getElem? (i := 1204) (by decide +kernel), List.mem_of_getElem? (i := 1207) (by decide +kernel), List.mem_of_getElem? (i := 113) (by decide +kernel), ⟨by decide, by decide⟩, by decide +kernel⟩
theorem iX10_placeOf : Cond.instanceMethod yX10_placeOf ∈ lw_tbl := List.mem_of_getElem? (i := 1206) (by decide +kernel)
theorem sX10_placeOf : Cond.selects RX10 yX10_placeOf yX10_placeOf ∈ lw_tbl := List.mem_of_getElem? (i := 45) (by decide +kernel)
theorem lX10_307 : ab_ml RX10 307 mX5_placeOf 1 := ⟨List.mem_of_getElem? (i := 1208) (by decide +kernel), List.mem_of_getElem? (i := 1211) (by decide +kernel), List.mem_of_getElem? (i := 119) (by decide +kernel), ⟨by decide, by decide⟩, by decide +kernel⟩
theorem iX5_placeOf : Cond.instanceMethod yX5_placeOf ∈ lw_tbl := List.mem_of_getElem? (i := 1209) (by decide +kernel)
theorem sX5_placeOf : Cond.selects RX5 yX5_placeOf yX5_placeOf ∈ lw_tbl := List.mem_of_getElem? (i := 1210) (by decide +kernel)
theorem lL_47 : ab_ml RL 47 mX10_rule 1 := ⟨List.mem_of_getElem? (i := 1215) (by decide +kernel), List.mem_of_getElem? (i := 1218) (by decide +kernel), List.mem_of_getElem? (i := 113) (by decide +kernel), ⟨by decide, by decide⟩, by decide +kernel⟩
theorem iX10_rule : Cond.instanceMethod yX10_rule ∈ lw_tbl := List.mem_of_getElem? (i := 1216) (by decide +kernel)
theorem sX10_rule : Cond.selects RX10 yX10_rule yX10_rule ∈ lw_tbl := List.mem_of_getElem? (i := 1217) (by decide +kernel)
theorem lX10_239 : ab_ml RX10 239 mX5_worthOf 2 := ⟨List.mem_of_getElem? (i := 1219) (by decide +kernel), List.mem_of_getElem? (i := 1027) (by decide +kernel), List.mem_of_getElem? (i := 119) (by decide +kernel), ⟨by decide, by decide⟩, by decide +kernel⟩
theorem lL_51 : ab_ml RL 51 mX10_part 3 := ⟨List.mem_of_getElem? (i := 1223) (by decide +kernel), List.mem_of_getElem? (i := 1226) (by decide +kernel), List.mem_of_getElem? (i := 113) (by decide +kernel), ⟨by decide, by decide⟩, by decide +kernel⟩
theorem iX10_part : Cond.instanceMethod yX10_part ∈ lw_tbl := List.mem_of_getElem? (i := 1224) (by decide +kernel)
theorem sX10_part : Cond.selects RX10 yX10_part yX10_part ∈ lw_tbl := List.mem_of_getElem? (i := 1225) (by decide +kernel)
theorem lL_55 : ab_ml RL 55 mX10_parts 1 := ⟨List.mem_of_getElem? (i := 1230) (by decide +kernel), List.mem_of_getElem? (i := 1233) (by decide +kernel), List.mem_of_getElem? (i := 113) (by decide +kernel), ⟨by decide, by decide⟩, by decide +kernel⟩
theorem iX10_parts : Cond.instanceMethod yX10_parts ∈ lw_tbl := List.mem_of_getElem? (i := 1231) (by decide +kernel)
theorem sX10_parts : Cond.selects RX10 yX10_parts yX10_parts ∈ lw_tbl := List.mem_of_getElem? (i := 1232) (by decide +kernel)
theorem lL_58 : ab_ml RL 58 mX10_chain 2 := ⟨List.mem_of_getElem? (i := 1237) (by decide +kernel), List.mem_of_getElem? (i := 1240) (by decide +kernel), List.mem_of_getElem? (i := 113) (by decide +kernel), ⟨by decide, by decide⟩, by decide +kernel⟩
theorem iX10_chain : Cond.instanceMethod yX10_chain ∈ lw_tbl := List.mem_of_getElem? (i := 1238) (by decide +kernel)
theorem sX10_chain : Cond.selects RX10 yX10_chain yX10_chain ∈ lw_tbl := List.mem_of_getElem? (i := 1239) (by decide +kernel)
theorem lX10_260 : ab_ml RX10 260 mX6_linkOf 2 := ⟨List.mem_of_getElem? (i := 1241) (by decide +kernel), List.mem_of_getElem? (i := 1244) (by decide +kernel), List.mem_of_getElem? (i := 120) (by decide +kernel), ⟨by decide, by decide⟩, by decide +kernel⟩
theorem iX6_linkOf : Cond.instanceMethod yX6_linkOf ∈ lw_tbl := List.mem_of_getElem? (i := 1242) (by decide +kernel)
theorem sX6_linkOf : Cond.selects RX6 yX6_linkOf yX6_linkOf ∈ lw_tbl := List.mem_of_getElem? (i := 1243) (by decide +kernel)
theorem lL_61 : ab_ml RL 61 mX10_ring 1 := ⟨List.mem_of_getElem? (i := 1248) (by decide +kernel), List.mem_of_getElem? (i := 1251) (by decide +kernel), List.mem_of_getElem? (i := 113) (by decide +kernel), ⟨by decide, by decide⟩, by decide +kernel⟩
theorem iX10_ring : Cond.instanceMethod yX10_ring ∈ lw_tbl := List.mem_of_getElem? (i := 1249) (by decide +kernel)
