theorem sX10_ring : Cond.selects RX10 yX10_ring yX10_ring ∈ lw_tbl := List.mem_of_getElem? (i := 1250) (by decide +kernel)
theorem lX10_263 : ab_ml RX10 263 mX8_find 2 := ⟨List.mem_of_getElem? (i := 1252) (by decide +kernel), List.mem_of_getElem? (i := 1045) (by decide +kernel), List.mem_of_getElem? (i := 121) (by decide +kernel), ⟨by decide, by decide⟩, by decide +kernel⟩
theorem lL_64 : ab_ml RL 64 mX10_most 1 := ⟨List.mem_of_getElem? (i := 1256) (by decide +kernel), List.mem_of_getElem? (i := 1259) (by decide +kernel), List.mem_of_getElem? (i := 113) (by decide +kernel), ⟨by decide, by decide⟩, by decide +kernel⟩
theorem iX10_most : Cond.instanceMethod yX10_most ∈ lw_tbl := List.mem_of_getElem? (i := 1257) (by decide +kernel)
theorem sX10_most : Cond.selects RX10 yX10_most yX10_most ∈ lw_tbl := List.mem_of_getElem? (i := 1258) (by decide +kernel)
theorem lX10_274 : ab_ml RX10 274 mX3_sum 2 := ⟨List.mem_of_getElem? (i := 1260) (by decide +kernel), List.mem_of_getElem? (i := 1263) (by decide +kernel), List.mem_of_getElem? (i := 122) (by decide +kernel), ⟨by decide, by decide⟩, by decide +kernel⟩
theorem iX3_sum : Cond.instanceMethod yX3_sum ∈ lw_tbl := List.mem_of_getElem? (i := 1261) (by decide +kernel)
theorem sX3_sum : Cond.selects RX3 yX3_sum yX3_sum ∈ lw_tbl := List.mem_of_getElem? (i := 1262) (by decide +kernel)
theorem lX3_28 : ab_ml RX3 28 mX3_settleAll 1 := ⟨List.mem_of_getElem? (i := 1264) (by decide +kernel), List.mem_of_getElem? (i := 1267) (by decide +kernel), List.mem_of_getElem? (i := 122) (by decide +kernel), ⟨by decide, by decide⟩, by decide +kernel⟩
theorem iX3_settleAll : Cond.instanceMethod yX3_settleAll ∈ lw_tbl := List.mem_of_getElem? (i := 1266) (by decide +kernel)
theorem sX3_settleAll : Cond.selects RX3 yX3_settleAll yX3_settleAll ∈ lw_tbl := List.mem_of_getElem? (i := 46) (by decide +kernel)
theorem lX3_79 : ab_ml RX3 79 mX2_isAsked 1 := ⟨List.mem_of_getElem? (i := 1268) (by decide +kernel), List.mem_of_getElem? (i := 635) (by decide +kernel), List.mem_of_getElem? (i := 115) (by decide +kernel), ⟨by decide, by decide⟩, by decide +kernel⟩
theorem lX3_32 : ab_ml RX3 32 mX3_isShort 1 := ⟨List.mem_of_getElem? (i := 1269) (by decide +kernel), List.mem_of_getElem? (i := 1272) (by decide +kernel), List.mem_of_getElem? (i := 122) (by decide +kernel), ⟨by decide, by decide⟩, by decide +kernel⟩
theorem iX3_isShort : Cond.instanceMethod yX3_isShort ∈ lw_tbl := List.mem_of_getElem? (i := 1271) (by decide +kernel)
theorem sX3_isShort : Cond.selects RX3 yX3_isShort yX3_isShort ∈ lw_tbl := List.mem_of_getElem? (i := 47) (by decide +kernel)
theorem lX3_36 : ab_ml RX3 36 mX3_weighLosses 2 := ⟨List.mem_of_getElem? (i := 1273) (by decide +kernel), List.mem_of_getElem? (i := 1276) (by decide +kernel), List.mem_of_getElem? (i := 122) (by decide +kernel), ⟨by decide, by decide⟩, by decide +kernel⟩
theorem iX3_weighLosses : Cond.instanceMethod yX3_weighLosses ∈ lw_tbl := List.mem_of_getElem? (i := 1275) (by decide +kernel)
theorem sX3_weighLosses : Cond.selects RX3 yX3_weighLosses yX3_weighLosses ∈ lw_tbl := List.mem_of_getElem? (i := 48) (by decide +kernel)
theorem lX3_58 : ab_ml RX3 58 mX3_gain 2 := ⟨List.mem_of_getElem? (i := 1278) (by decide +kernel), List.mem_of_getElem? (i := 1280) (by decide +kernel), List.mem_of_getElem? (i := 122) (by decide +kernel), ⟨by decide, by decide⟩, by decide +kernel⟩
theorem tX3_gain : Cond.static yX3_gain ∈ lw_tbl := List.mem_of_getElem? (i := 1279) (by decide +kernel)
theorem lX3_94 : ab_ml RX3 94 mX3_weigh 3 := ⟨List.mem_of_getElem? (i := 1281) (by decide +kernel), List.mem_of_getElem? (i := 1284) (by decide +kernel), List.mem_of_getElem? (i := 122) (by decide +kernel), ⟨by decide, by decide⟩, by decide +kernel⟩
theorem iX3_weigh : Cond.instanceMethod yX3_weigh ∈ lw_tbl := List.mem_of_getElem? (i := 1283) (by decide +kernel)
theorem sX3_weigh : Cond.selects RX3 yX3_weigh yX3_weigh ∈ lw_tbl := List.mem_of_getElem? (i := 49) (by decide +kernel)
theorem lX3_40 : ab_ml RX3 40 mX3_cheapestEnd 1 := ⟨List.mem_of_getElem? (i := 1285) (by decide +kernel), List.mem_of_getElem? (i := 1288) (by decide +kernel), List.mem_of_getElem? (i := 122) (by decide +kernel), ⟨by decide, by decide⟩, by decide +kernel⟩
theorem iX3_cheapestEnd : Cond.instanceMethod yX3_cheapestEnd ∈ lw_tbl := List.mem_of_getElem? (i := 1287) (by decide +kernel)
theorem sX3_cheapestEnd : Cond.selects RX3 yX3_cheapestEnd yX3_cheapestEnd ∈ lw_tbl := List.mem_of_getElem? (i := 50) (by decide +kernel)
theorem lX3_44 : ab_ml RX3 44 mX3_takeBack 2 := ⟨List.mem_of_getElem? (i := 1289) (by decide +kernel), List.mem_of_getElem? (i := 1292) (by decide +kernel), List.mem_of_getElem? (i := 122) (by decide +kernel), ⟨by decide, by decide⟩, by decide +kernel⟩
theorem iX3_takeBack : Cond.instanceMethod yX3_takeBack ∈ lw_tbl := List.mem_of_getElem? (i := 1291) (by decide +kernel)
theorem sX3_takeBack : Cond.selects RX3 yX3_takeBack yX3_takeBack ∈ lw_tbl := List.mem_of_getElem? (i := 51) (by decide +kernel)
theorem lX3_98 : ab_ml RX3 98 mJ9_min_f86c9 2 := ⟨List.mem_of_getElem? (i := 1293) (by decide +kernel), List.mem_of_getElem? (i := 1295) (by decide +kernel), List.mem_of_getElem? (i := 129) (by decide +kernel), ⟨by decide, by decide⟩, by decide +kernel⟩
theorem tJ9_min_f86c9 : Cond.static yJ9_min_f86c9 ∈ lw_tbl := List.mem_of_getElem? (i := 1294) (by decide +kernel)
theorem lX3_104 : ab_ml RX3 104 mX3_change 3 := ⟨List.mem_of_getElem? (i := 1296) (by decide +kernel), List.mem_of_getElem? (i := 1299) (by decide +kernel), List.mem_of_getElem? (i := 122) (by decide +kernel), ⟨by decide, by decide⟩, by decide +kernel⟩
theorem iX3_change : Cond.instanceMethod yX3_change ∈ lw_tbl := List.mem_of_getElem? (i := 1298) (by decide +kernel)
theorem sX3_change : Cond.selects RX3 yX3_change yX3_change ∈ lw_tbl := List.mem_of_getElem? (i := 52) (by decide +kernel)
theorem lL_67 : ab_ml RL 67 mX10_foretold 1 := ⟨List.mem_of_getElem? (i := 1303) (by decide +kernel), List.mem_of_getElem? (i := 1306) (by decide +kernel), List.mem_of_getElem? (i := 113) (by decide +kernel), ⟨by decide, by decide⟩, by decide +kernel⟩
theorem iX10_foretold : Cond.instanceMethod yX10_foretold ∈ lw_tbl := List.mem_of_getElem? (i := 1304) (by decide +kernel)
theorem sX10_foretold : Cond.selects RX10 yX10_foretold yX10_foretold ∈ lw_tbl := List.mem_of_getElem? (i := 1305) (by decide +kernel)
theorem lL_70 : ab_ml RL 70 mX10_without 1 := ⟨List.mem_of_getElem? (i := 1310) (by decide +kernel), List.mem_of_getElem? (i := 1313) (by decide +kernel), List.mem_of_getElem? (i := 113) (by decide +kernel), ⟨by decide, by decide⟩, by decide +kernel⟩
theorem iX10_without : Cond.instanceMethod yX10_without ∈ lw_tbl := List.mem_of_getElem? (i := 1311) (by decide +kernel)
theorem sX10_without : Cond.selects RX10 yX10_without yX10_without ∈ lw_tbl := List.mem_of_getElem? (i := 1312) (by decide +kernel)
theorem lX10_281 : ab_ml RX10 281 mX2_leaveOut 1 := ⟨List.mem_of_getElem? (i := 1314) (by decide +kernel), List.mem_of_getElem? (i := 1317) (by decide +kernel), List.mem_of_getElem? (i := 115) (by decide +kernel), ⟨by decide, by decide⟩, by decide +kernel⟩
theorem iX2_leaveOut : Cond.instanceMethod yX2_leaveOut ∈ lw_tbl := List.mem_of_getElem? (i := 1315) (by decide +kernel)
theorem sX2_leaveOut : Cond.selects RX2 yX2_leaveOut yX2_leaveOut ∈ lw_tbl := List.mem_of_getElem? (i := 1316) (by decide +kernel)
theorem lL_73 : ab_ml RL 73 mX10_between 2 := ⟨List.mem_of_getElem? (i := 1321) (by decide +kernel), List.mem_of_getElem? (i := 1324) (by decide +kernel), List.mem_of_getElem? (i := 113) (by decide +kernel), ⟨by decide, by decide⟩, by decide +kernel⟩
theorem iX10_between : Cond.instanceMethod yX10_between ∈ lw_tbl := List.mem_of_getElem? (i := 1322) (by decide +kernel)
theorem sX10_between : Cond.selects RX10 yX10_between yX10_between ∈ lw_tbl := List.mem_of_getElem? (i := 1323) (by decide +kernel)
theorem lL_90 : ab_ml RL 90 mX11_thrown 0 := ⟨List.mem_of_getElem? (i := 1325) (by decide +kernel), List.mem_of_getElem? (i := 1328) (by decide +kernel), List.mem_of_getElem? (i := 124) (by decide +kernel), ⟨by decide, by decide⟩, by decide +kernel⟩
theorem iX11_thrown : Cond.instanceMethod yX11_thrown ∈ lw_tbl := List.mem_of_getElem? (i := 1326) (by decide +kernel)
theorem sX11_thrown : Cond.selects RX11 yX11_thrown yX11_thrown ∈ lw_tbl := List.mem_of_getElem? (i := 1327) (by decide +kernel)
theorem lL_79 : ab_ml RL 79 mX11_init 0 := ⟨List.mem_of_getElem? (i := 1331) (by decide +kernel), List.mem_of_getElem? (i := 1333) (by decide +kernel), List.mem_of_getElem? (i := 124) (by decide +kernel), ⟨by decide, by decide⟩, by decide +kernel⟩
theorem iX11_init : Cond.instanceMethod yX11_init ∈ lw_tbl := List.mem_of_getElem? (i := 1332) (by decide +kernel)
theorem lL_118 : ab_ml RL 118 mX11_undo 0 := ⟨List.mem_of_getElem? (i := 1456) (by decide +kernel), List.mem_of_getElem? (i := 1459) (by decide +kernel), List.mem_of_getElem? (i := 124) (by decide +kernel), ⟨by decide, by decide⟩, by decide +kernel⟩
theorem iX11_undo : Cond.instanceMethod yX11_undo ∈ lw_tbl := List.mem_of_getElem? (i := 1457) (by decide +kernel)
theorem sX11_undo : Cond.selects RX11 yX11_undo yX11_undo ∈ lw_tbl := List.mem_of_getElem? (i := 1458) (by decide +kernel)
theorem lL_83 : ab_ml RL 83 mX11_feed 5 := ⟨List.mem_of_getElem? (i := 1460) (by decide +kernel), List.mem_of_getElem? (i := 1463) (by decide +kernel), List.mem_of_getElem? (i := 124) (by decide +kernel), ⟨by decide, by decide⟩, by decide +kernel⟩
theorem iX11_feed : Cond.instanceMethod yX11_feed ∈ lw_tbl := List.mem_of_getElem? (i := 1461) (by decide +kernel)
theorem sX11_feed : Cond.selects RX11 yX11_feed yX11_feed ∈ lw_tbl := List.mem_of_getElem? (i := 1462) (by decide +kernel)
theorem lX11_102 : ab_ml RX11 102 mX11_puts 1 := ⟨List.mem_of_getElem? (i := 1464) (by decide +kernel), List.mem_of_getElem? (i := 1467) (by decide +kernel), List.mem_of_getElem? (i := 124) (by decide +kernel), ⟨by decide, by decide⟩, by decide +kernel⟩
theorem iX11_puts : Cond.instanceMethod yX11_puts ∈ lw_tbl := List.mem_of_getElem? (i := 1466) (by decide +kernel)
theorem sX11_puts : Cond.selects RX11 yX11_puts yX11_puts ∈ lw_tbl := List.mem_of_getElem? (i := 53) (by decide +kernel)
theorem lL_89 : ab_ml RL 89 mX11_text 1 := ⟨List.mem_of_getElem? (i := 1468) (by decide +kernel), List.mem_of_getElem? (i := 1471) (by decide +kernel), List.mem_of_getElem? (i := 124) (by decide +kernel), ⟨by decide, by decide⟩, by decide +kernel⟩
theorem iX11_text : Cond.instanceMethod yX11_text ∈ lw_tbl := List.mem_of_getElem? (i := 1469) (by decide +kernel)
theorem sX11_text : Cond.selects RX11 yX11_text yX11_text ∈ lw_tbl := List.mem_of_getElem? (i := 1470) (by decide +kernel)
theorem lX11_164 : ab_ml RX11 164 mX11_lies 3 := ⟨List.mem_of_getElem? (i := 1472) (by decide +kernel), List.mem_of_getElem? (i := 1474) (by decide +kernel), List.mem_of_getElem? (i := 124) (by decide +kernel), ⟨by decide, by decide⟩, by decide +kernel⟩
theorem tX11_lies : Cond.static yX11_lies ∈ lw_tbl := List.mem_of_getElem? (i := 1473) (by decide +kernel)
theorem lX11_264 : ab_ml RX11 264 mX11_isFine 3 := ⟨List.mem_of_getElem? (i := 1475) (by decide +kernel), List.mem_of_getElem? (i := 1478) (by decide +kernel), List.mem_of_getElem? (i := 124) (by decide +kernel), ⟨by decide, by decide⟩, by decide +kernel⟩
theorem iX11_isFine : Cond.instanceMethod yX11_isFine ∈ lw_tbl := List.mem_of_getElem? (i := 1477) (by decide +kernel)
theorem sX11_isFine : Cond.selects RX11 yX11_isFine yX11_isFine ∈ lw_tbl := List.mem_of_getElem? (i := 54) (by decide +kernel)
theorem lX11_118 : ab_ml RX11 118 mX11_sign 0 := ⟨List.mem_of_getElem? (i := 1480) (by decide +kernel), List.mem_of_getElem? (i := 1483) (by decide +kernel), List.mem_of_getElem? (i := 124) (by decide +kernel), ⟨by decide, by decide⟩, by decide +kernel⟩
theorem iX11_sign : Cond.instanceMethod yX11_sign ∈ lw_tbl := List.mem_of_getElem? (i := 1482) (by decide +kernel)
theorem sX11_sign : Cond.selects RX11 yX11_sign yX11_sign ∈ lw_tbl := List.mem_of_getElem? (i := 55) (by decide +kernel)
theorem lX11_268 : ab_ml RX11 268 mX11_line 0 := ⟨List.mem_of_getElem? (i := 1484) (by decide +kernel), List.mem_of_getElem? (i := 1487) (by decide +kernel), List.mem_of_getElem? (i := 124) (by decide +kernel), ⟨by decide, by decide⟩, by decide +kernel⟩
theorem iX11_line : Cond.instanceMethod yX11_line ∈ lw_tbl := List.mem_of_getElem? (i := 1486) (by decide +kernel)
theorem sX11_line : Cond.selects RX11 yX11_line yX11_line ∈ lw_tbl := List.mem_of_getElem? (i := 56) (by decide +kernel)
theorem lX11_135 : ab_ml RX11 135 mX11_isHere 1 := ⟨List.mem_of_getElem? (i := 1489) (by decide +kernel), List.mem_of_getElem? (i := 1492) (by decide +kernel), List.mem_of_getElem? (i := 124) (by decide +kernel), ⟨by decide, by decide⟩, by decide +kernel⟩
theorem iX11_isHere : Cond.instanceMethod yX11_isHere ∈ lw_tbl := List.mem_of_getElem? (i := 1491) (by decide +kernel)
theorem sX11_isHere : Cond.selects RX11 yX11_isHere yX11_isHere ∈ lw_tbl := List.mem_of_getElem? (i := 57) (by decide +kernel)
theorem lX11_122 : ab_ml RX11 122 mJ0_length_8abf5 0 := ⟨List.mem_of_getElem? (i := 1493) (by decide +kernel), List.mem_of_getElem? (i := 771) (by decide +kernel), List.mem_of_getElem? (i := 130) (by decide +kernel), ⟨by decide, by decide⟩, by decide +kernel⟩
theorem lX11_127 : ab_ml RX11 127 mX11_isSmall 1 := ⟨List.mem_of_getElem? (i := 1494) (by decide +kernel), List.mem_of_getElem? (i := 1497) (by decide +kernel), List.mem_of_getElem? (i := 124) (by decide +kernel), ⟨by decide, by decide⟩, by decide +kernel⟩
theorem iX11_isSmall : Cond.instanceMethod yX11_isSmall ∈ lw_tbl := List.mem_of_getElem? (i := 1496) (by decide +kernel)
theorem sX11_isSmall : Cond.selects RX11 yX11_isSmall yX11_isSmall ∈ lw_tbl := List.mem_of_getElem? (i := 58) (by decide +kernel)
theorem lX11_131 : ab_ml RX11 131 mJ0_charAt_5068e 1 := ⟨List.mem_of_getElem? (i := 1498) (by decide +kernel), List.mem_of_getElem? (i := 781) (by decide +kernel), List.mem_of_getElem? (i := 130) (by decide +kernel), ⟨by decide, by decide⟩, by decide +kernel⟩
theorem lX11_239 : ab_ml RX11 239 mX11_dealerRead 0 := ⟨List.mem_of_getElem? (i := 1499) (by decide +kernel), List.mem_of_getElem? (i := 1502) (by decide +kernel), List.mem_of_getElem? (i := 124) (by decide +kernel), ⟨by decide, by decide⟩, by decide +kernel⟩
theorem iX11_dealerRead : Cond.instanceMethod yX11_dealerRead ∈ lw_tbl := List.mem_of_getElem? (i := 1501) (by decide +kernel)
theorem sX11_dealerRead : Cond.selects RX11 yX11_dealerRead yX11_dealerRead ∈ lw_tbl := List.mem_of_getElem? (i := 59) (by decide +kernel)
theorem lX11_142 : ab_ml RX11 142 mX11_wrong 2 := ⟨List.mem_of_getElem? (i := 1504) (by decide +kernel), List.mem_of_getElem? (i := 1507) (by decide +kernel), List.mem_of_getElem? (i := 124) (by decide +kernel), ⟨by decide, by decide⟩, by decide +kernel⟩
theorem iX11_wrong : Cond.instanceMethod yX11_wrong ∈ lw_tbl := List.mem_of_getElem? (i := 1506) (by decide +kernel)
theorem sX11_wrong : Cond.selects RX11 yX11_wrong yX11_wrong ∈ lw_tbl := List.mem_of_getElem? (i := 60) (by decide +kernel)
theorem lX11_201 : ab_ml RX11 201 mX11_number 2 := ⟨List.mem_of_getElem? (i := 1509) (by decide +kernel), List.mem_of_getElem? (i := 1512) (by decide +kernel), List.mem_of_getElem? (i := 124) (by decide +kernel), ⟨by decide, by decide⟩, by decide +kernel⟩
theorem iX11_number : Cond.instanceMethod yX11_number ∈ lw_tbl := List.mem_of_getElem? (i := 1511) (by decide +kernel)
theorem sX11_number : Cond.selects RX11 yX11_number yX11_number ∈ lw_tbl := List.mem_of_getElem? (i := 61) (by decide +kernel)
theorem lX11_146 : ab_ml RX11 146 mX11_isFigure 1 := ⟨List.mem_of_getElem? (i := 1513) (by decide +kernel), List.mem_of_getElem? (i := 1516) (by decide +kernel), List.mem_of_getElem? (i := 124) (by decide +kernel), ⟨by decide, by decide⟩, by decide +kernel⟩
theorem iX11_isFigure : Cond.instanceMethod yX11_isFigure ∈ lw_tbl := List.mem_of_getElem? (i := 1515) (by decide +kernel)
theorem sX11_isFigure : Cond.selects RX11 yX11_isFigure yX11_isFigure ∈ lw_tbl := List.mem_of_getElem? (i := 62) (by decide +kernel)
theorem lX11_158 : ab_ml RX11 158 mJ9_min_f86c9 2 := ⟨List.mem_of_getElem? (i := 1520) (by decide +kernel), List.mem_of_getElem? (i := 1295) (by decide +kernel), List.mem_of_getElem? (i := 129) (by decide +kernel), ⟨by decide, by decide⟩, by decide +kernel⟩
theorem lX11_244 : ab_ml RX11 244 mX11_saleRead 0 := ⟨List.mem_of_getElem? (i := 1522) (by decide +kernel), List.mem_of_getElem? (i := 1525) (by decide +kernel), List.mem_of_getElem? (i := 124) (by decide +kernel), ⟨by decide, by decide⟩, by decide +kernel⟩
theorem iX11_saleRead : Cond.instanceMethod yX11_saleRead ∈ lw_tbl := List.mem_of_getElem? (i := 1524) (by decide +kernel)
theorem sX11_saleRead : Cond.selects RX11 yX11_saleRead yX11_saleRead ∈ lw_tbl := List.mem_of_getElem? (i := 63) (by decide +kernel)
theorem lX11_249 : ab_ml RX11 249 mX11_ruleRead 0 := ⟨List.mem_of_getElem? (i := 1531) (by decide +kernel), List.mem_of_getElem? (i := 1534) (by decide +kernel), List.mem_of_getElem? (i := 124) (by decide +kernel), ⟨by decide, by decide⟩, by decide +kernel⟩
theorem iX11_ruleRead : Cond.instanceMethod yX11_ruleRead ∈ lw_tbl := List.mem_of_getElem? (i := 1533) (by decide +kernel)
theorem sX11_ruleRead : Cond.selects RX11 yX11_ruleRead yX11_ruleRead ∈ lw_tbl := List.mem_of_getElem? (i := 64) (by decide +kernel)
theorem lX11_208 : ab_ml RX11 208 mX11_expression 0 := ⟨List.mem_of_getElem? (i := 1535) (by decide +kernel), List.mem_of_getElem? (i := 1538) (by decide +kernel), List.mem_of_getElem? (i := 124) (by decide +kernel), ⟨by decide, by decide⟩, by decide +kernel⟩
theorem iX11_expression : Cond.instanceMethod yX11_expression ∈ lw_tbl := List.mem_of_getElem? (i := 1537) (by decide +kernel)
theorem sX11_expression : Cond.selects RX11 yX11_expression yX11_expression ∈ lw_tbl := List.mem_of_getElem? (i := 65) (by decide +kernel)
theorem lX11_182 : ab_ml RX11 182 mX11_term 0 := ⟨List.mem_of_getElem? (i := 1539) (by decide +kernel), List.mem_of_getElem? (i := 1542) (by decide +kernel), List.mem_of_getElem? (i := 124) (by decide +kernel), ⟨by decide, by decide⟩, by decide +kernel⟩
theorem iX11_term : Cond.instanceMethod yX11_term ∈ lw_tbl := List.mem_of_getElem? (i := 1541) (by decide +kernel)
theorem sX11_term : Cond.selects RX11 yX11_term yX11_term ∈ lw_tbl := List.mem_of_getElem? (i := 66) (by decide +kernel)
theorem lX11_191 : ab_ml RX11 191 mX11_factor 0 := ⟨List.mem_of_getElem? (i := 1543) (by decide +kernel), List.mem_of_getElem? (i := 1546) (by decide +kernel), List.mem_of_getElem? (i := 124) (by decide +kernel), ⟨by decide, by decide⟩, by decide +kernel⟩
theorem iX11_factor : Cond.instanceMethod yX11_factor ∈ lw_tbl := List.mem_of_getElem? (i := 1545) (by decide +kernel)
theorem sX11_factor : Cond.selects RX11 yX11_factor yX11_factor ∈ lw_tbl := List.mem_of_getElem? (i := 67) (by decide +kernel)
theorem lX11_187 : ab_ml RX11 187 mX11_code 1 := ⟨List.mem_of_getElem? (i := 1547) (by decide +kernel), List.mem_of_getElem? (i := 1550) (by decide +kernel), List.mem_of_getElem? (i := 124) (by decide +kernel), ⟨by decide, by decide⟩, by decide +kernel⟩
theorem iX11_code : Cond.instanceMethod yX11_code ∈ lw_tbl := List.mem_of_getElem? (i := 1549) (by decide +kernel)
theorem sX11_code : Cond.selects RX11 yX11_code yX11_code ∈ lw_tbl := List.mem_of_getElem? (i := 68) (by decide +kernel)
theorem lX11_204 : ab_ml RX11 204 mX11_opens 0 := ⟨List.mem_of_getElem? (i := 1551) (by decide +kernel), List.mem_of_getElem? (i := 1554) (by decide +kernel), List.mem_of_getElem? (i := 124) (by decide +kernel), ⟨by decide, by decide⟩, by decide +kernel⟩
theorem iX11_opens : Cond.instanceMethod yX11_opens ∈ lw_tbl := List.mem_of_getElem? (i := 1553) (by decide +kernel)
theorem sX11_opens : Cond.selects RX11 yX11_opens yX11_opens ∈ lw_tbl := List.mem_of_getElem? (i := 69) (by decide +kernel)
theorem lX11_211 : ab_ml RX11 211 mX11_needs 1 := ⟨List.mem_of_getElem? (i := 1555) (by decide +kernel), List.mem_of_getElem? (i := 1558) (by decide +kernel), List.mem_of_getElem? (i := 124) (by decide +kernel), ⟨by decide, by decide⟩, by decide +kernel⟩
theorem iX11_needs : Cond.instanceMethod yX11_needs ∈ lw_tbl := List.mem_of_getElem? (i := 1557) (by decide +kernel)
theorem sX11_needs : Cond.selects RX11 yX11_needs yX11_needs ∈ lw_tbl := List.mem_of_getElem? (i := 70) (by decide +kernel)
theorem lX11_139 : ab_ml RX11 139 mX11_passes 1 := ⟨List.mem_of_getElem? (i := 1559) (by decide +kernel), List.mem_of_getElem? (i := 1562) (by decide +kernel), List.mem_of_getElem? (i := 124) (by decide +kernel), ⟨by decide, by decide⟩, by decide +kernel⟩
theorem iX11_passes : Cond.instanceMethod yX11_passes ∈ lw_tbl := List.mem_of_getElem? (i := 1561) (by decide +kernel)
theorem sX11_passes : Cond.selects RX11 yX11_passes yX11_passes ∈ lw_tbl := List.mem_of_getElem? (i := 71) (by decide +kernel)
theorem lX11_216 : ab_ml RX11 216 mX11_partWord 1 := ⟨List.mem_of_getElem? (i := 1564) (by decide +kernel), List.mem_of_getElem? (i := 1566) (by decide +kernel), List.mem_of_getElem? (i := 124) (by decide +kernel), ⟨by decide, by decide⟩, by decide +kernel⟩
theorem tX11_partWord : Cond.static yX11_partWord ∈ lw_tbl := List.mem_of_getElem? (i := 1565) (by decide +kernel)
theorem lX11_220 : ab_ml RX11 220 mX11_passesWord 1 := ⟨List.mem_of_getElem? (i := 1574) (by decide +kernel), List.mem_of_getElem? (i := 1577) (by decide +kernel), List.mem_of_getElem? (i := 124) (by decide +kernel), ⟨by decide, by decide⟩, by decide +kernel⟩
theorem iX11_passesWord : Cond.instanceMethod yX11_passesWord ∈ lw_tbl := List.mem_of_getElem? (i := 1576) (by decide +kernel)
theorem sX11_passesWord : Cond.selects RX11 yX11_passesWord yX11_passesWord ∈ lw_tbl := List.mem_of_getElem? (i := 72) (by decide +kernel)
theorem lX11_254 : ab_ml RX11 254 mX11_isOnce 4 := ⟨List.mem_of_getElem? (i := 1582) (by decide +kernel), List.mem_of_getElem? (i := 1585) (by decide +kernel), List.mem_of_getElem? (i := 124) (by decide +kernel), ⟨by decide, by decide⟩, by decide +kernel⟩
theorem iX11_isOnce : Cond.instanceMethod yX11_isOnce ∈ lw_tbl := List.mem_of_getElem? (i := 1584) (by decide +kernel)
theorem sX11_isOnce : Cond.selects RX11 yX11_isOnce yX11_isOnce ∈ lw_tbl := List.mem_of_getElem? (i := 73) (by decide +kernel)
theorem lX11_271 : ab_ml RX11 271 mX11_plain 2 := ⟨List.mem_of_getElem? (i := 1589) (by decide +kernel), List.mem_of_getElem? (i := 1592) (by decide +kernel), List.mem_of_getElem? (i := 124) (by decide +kernel), ⟨by decide, by decide⟩, by decide +kernel⟩
theorem iX11_plain : Cond.instanceMethod yX11_plain ∈ lw_tbl := List.mem_of_getElem? (i := 1591) (by decide +kernel)
theorem sX11_plain : Cond.selects RX11 yX11_plain yX11_plain ∈ lw_tbl := List.mem_of_getElem? (i := 74) (by decide +kernel)
theorem lX11_275 : ab_ml RX11 275 mX11_keeps 0 := ⟨List.mem_of_getElem? (i := 1593) (by decide +kernel), List.mem_of_getElem? (i := 1596) (by decide +kernel), List.mem_of_getElem? (i := 124) (by decide +kernel), ⟨by decide, by decide⟩, by decide +kernel⟩
theorem iX11_keeps : Cond.instanceMethod yX11_keeps ∈ lw_tbl := List.mem_of_getElem? (i := 1595) (by decide +kernel)
theorem sX11_keeps : Cond.selects RX11 yX11_keeps yX11_keeps ∈ lw_tbl := List.mem_of_getElem? (i := 75) (by decide +kernel)
theorem lX11_278 : ab_ml RX11 278 mX11_sales 0 := ⟨List.mem_of_getElem? (i := 1597) (by decide +kernel), List.mem_of_getElem? (i := 1600) (by decide +kernel), List.mem_of_getElem? (i := 124) (by decide +kernel), ⟨by decide, by decide⟩, by decide +kernel⟩
theorem iX11_sales : Cond.instanceMethod yX11_sales ∈ lw_tbl := List.mem_of_getElem? (i := 1599) (by decide +kernel)
theorem sX11_sales : Cond.selects RX11 yX11_sales yX11_sales ∈ lw_tbl := List.mem_of_getElem? (i := 76) (by decide +kernel)
theorem lL_96 : ab_ml RL 96 mX11_fault 0 := ⟨List.mem_of_getElem? (i := 1601) (by decide +kernel), List.mem_of_getElem? (i := 1604) (by decide +kernel), List.mem_of_getElem? (i := 124) (by decide +kernel), ⟨by decide, by decide⟩, by decide +kernel⟩
theorem iX11_fault : Cond.instanceMethod yX11_fault ∈ lw_tbl := List.mem_of_getElem? (i := 1602) (by decide +kernel)
theorem sX11_fault : Cond.selects RX11 yX11_fault yX11_fault ∈ lw_tbl := List.mem_of_getElem? (i := 1603) (by decide +kernel)
theorem lL_100 : ab_ml RL 100 mX11_sale 5 := ⟨List.mem_of_getElem? (i := 1605) (by decide +kernel), List.mem_of_getElem? (i := 1608) (by decide +kernel), List.mem_of_getElem? (i := 124) (by decide +kernel), ⟨by decide, by decide⟩, by decide +kernel⟩
theorem iX11_sale : Cond.instanceMethod yX11_sale ∈ lw_tbl := List.mem_of_getElem? (i := 1606) (by decide +kernel)
theorem sX11_sale : Cond.selects RX11 yX11_sale yX11_sale ∈ lw_tbl := List.mem_of_getElem? (i := 1607) (by decide +kernel)
theorem lX11_284 : ab_ml RX11 284 mX11_isDealer 1 := ⟨List.mem_of_getElem? (i := 1609) (by decide +kernel), List.mem_of_getElem? (i := 1612) (by decide +kernel), List.mem_of_getElem? (i := 124) (by decide +kernel), ⟨by decide, by decide⟩, by decide +kernel⟩
theorem iX11_isDealer : Cond.instanceMethod yX11_isDealer ∈ lw_tbl := List.mem_of_getElem? (i := 1611) (by decide +kernel)
theorem sX11_isDealer : Cond.selects RX11 yX11_isDealer yX11_isDealer ∈ lw_tbl := List.mem_of_getElem? (i := 77) (by decide +kernel)
theorem lX11_281 : ab_ml RX11 281 mX11_dealers 0 := ⟨List.mem_of_getElem? (i := 1613) (by decide +kernel), List.mem_of_getElem? (i := 1616) (by decide +kernel), List.mem_of_getElem? (i := 124) (by decide +kernel), ⟨by decide, by decide⟩, by decide +kernel⟩
theorem iX11_dealers : Cond.instanceMethod yX11_dealers ∈ lw_tbl := List.mem_of_getElem? (i := 1615) (by decide +kernel)
theorem sX11_dealers : Cond.selects RX11 yX11_dealers yX11_dealers ∈ lw_tbl := List.mem_of_getElem? (i := 78) (by decide +kernel)
theorem lL_104 : ab_ml RL 104 mX11_stock 2 := ⟨List.mem_of_getElem? (i := 1617) (by decide +kernel), List.mem_of_getElem? (i := 1620) (by decide +kernel), List.mem_of_getElem? (i := 124) (by decide +kernel), ⟨by decide, by decide⟩, by decide +kernel⟩
theorem iX11_stock : Cond.instanceMethod yX11_stock ∈ lw_tbl := List.mem_of_getElem? (i := 1618) (by decide +kernel)
theorem sX11_stock : Cond.selects RX11 yX11_stock yX11_stock ∈ lw_tbl := List.mem_of_getElem? (i := 1619) (by decide +kernel)
theorem lL_107 : ab_ml RL 107 mX11_mark 1 := ⟨List.mem_of_getElem? (i := 1622) (by decide +kernel), List.mem_of_getElem? (i := 1625) (by decide +kernel), List.mem_of_getElem? (i := 124) (by decide +kernel), ⟨by decide, by decide⟩, by decide +kernel⟩
theorem iX11_mark : Cond.instanceMethod yX11_mark ∈ lw_tbl := List.mem_of_getElem? (i := 1623) (by decide +kernel)
theorem sX11_mark : Cond.selects RX11 yX11_mark yX11_mark ∈ lw_tbl := List.mem_of_getElem? (i := 1624) (by decide +kernel)
theorem lL_111 : ab_ml RL 111 mX11_night 0 := ⟨List.mem_of_getElem? (i := 1626) (by decide +kernel), List.mem_of_getElem? (i := 1629) (by decide +kernel), List.mem_of_getElem? (i := 124) (by decide +kernel), ⟨by decide, by decide⟩, by decide +kernel⟩
theorem iX11_night : Cond.instanceMethod yX11_night ∈ lw_tbl := List.mem_of_getElem? (i := 1627) (by decide +kernel)
theorem sX11_night : Cond.selects RX11 yX11_night yX11_night ∈ lw_tbl := List.mem_of_getElem? (i := 1628) (by decide +kernel)
theorem lX11_375 : ab_ml RX11 375 mX11_goes 0 := ⟨List.mem_of_getElem? (i := 1631) (by decide +kernel), List.mem_of_getElem? (i := 1634) (by decide +kernel), List.mem_of_getElem? (i := 124) (by decide +kernel), ⟨by decide, by decide⟩, by decide +kernel⟩
theorem iX11_goes : Cond.instanceMethod yX11_goes ∈ lw_tbl := List.mem_of_getElem? (i := 1633) (by decide +kernel)
theorem sX11_goes : Cond.selects RX11 yX11_goes yX11_goes ∈ lw_tbl := List.mem_of_getElem? (i := 79) (by decide +kernel)
theorem lX11_345 : ab_ml RX11 345 mX11_orders 0 := ⟨List.mem_of_getElem? (i := 1635) (by decide +kernel), List.mem_of_getElem? (i := 1638) (by decide +kernel), List.mem_of_getElem? (i := 124) (by decide +kernel), ⟨by decide, by decide⟩, by decide +kernel⟩
theorem iX11_orders : Cond.instanceMethod yX11_orders ∈ lw_tbl := List.mem_of_getElem? (i := 1637) (by decide +kernel)
theorem sX11_orders : Cond.selects RX11 yX11_orders yX11_orders ∈ lw_tbl := List.mem_of_getElem? (i := 80) (by decide +kernel)
theorem lX11_301 : ab_ml RX11 301 mX11_ruled 1 := ⟨List.mem_of_getElem? (i := 1639) (by decide +kernel), List.mem_of_getElem? (i := 1642) (by decide +kernel), List.mem_of_getElem? (i := 124) (by decide +kernel), ⟨by decide, by decide⟩, by decide +kernel⟩
theorem iX11_ruled : Cond.instanceMethod yX11_ruled ∈ lw_tbl := List.mem_of_getElem? (i := 1641) (by decide +kernel)
theorem sX11_ruled : Cond.selects RX11 yX11_ruled yX11_ruled ∈ lw_tbl := List.mem_of_getElem? (i := 81) (by decide +kernel)
theorem lX11_293 : ab_ml RX11 293 mX11_partOf 2 := ⟨List.mem_of_getElem? (i := 1643) (by decide +kernel), List.mem_of_getElem? (i := 1646) (by decide +kernel), List.mem_of_getElem? (i := 124) (by decide +kernel), ⟨by decide, by decide⟩, by decide +kernel⟩
theorem iX11_partOf : Cond.instanceMethod yX11_partOf ∈ lw_tbl := List.mem_of_getElem? (i := 1645) (by decide +kernel)
theorem sX11_partOf : Cond.selects RX11 yX11_partOf yX11_partOf ∈ lw_tbl := List.mem_of_getElem? (i := 82) (by decide +kernel)
theorem lX11_289 : ab_ml RX11 289 mX11_of0 2 := ⟨List.mem_of_getElem? (i := 1647) (by decide +kernel), List.mem_of_getElem? (i := 1650) (by decide +kernel), List.mem_of_getElem? (i := 124) (by decide +kernel), ⟨by decide, by decide⟩, by decide +kernel⟩
theorem iX11_of0 : Cond.instanceMethod yX11_of0 ∈ lw_tbl := List.mem_of_getElem? (i := 1649) (by decide +kernel)
theorem sX11_of0 : Cond.selects RX11 yX11_of0 yX11_of0 ∈ lw_tbl := List.mem_of_getElem? (i := 83) (by decide +kernel)
theorem lX11_348 : ab_ml RX11 348 mX11_finds 0 := ⟨List.mem_of_getElem? (i := 1653) (by decide +kernel), List.mem_of_getElem? (i := 1656) (by decide +kernel), List.mem_of_getElem? (i := 124) (by decide +kernel), ⟨by decide, by decide⟩, by decide +kernel⟩
theorem iX11_finds : Cond.instanceMethod yX11_finds ∈ lw_tbl := List.mem_of_getElem? (i := 1655) (by decide +kernel)
theorem sX11_finds : Cond.selects RX11 yX11_finds yX11_finds ∈ lw_tbl := List.mem_of_getElem? (i := 84) (by decide +kernel)
theorem lX11_317 : ab_ml RX11 317 mX11_canRing 1 := ⟨List.mem_of_getElem? (i := 1657) (by decide +kernel), List.mem_of_getElem? (i := 1660) (by decide +kernel), List.mem_of_getElem? (i := 124) (by decide +kernel), ⟨by decide, by decide⟩, by decide +kernel⟩
theorem iX11_canRing : Cond.instanceMethod yX11_canRing ∈ lw_tbl := List.mem_of_getElem? (i := 1659) (by decide +kernel)
theorem sX11_canRing : Cond.selects RX11 yX11_canRing yX11_canRing ∈ lw_tbl := List.mem_of_getElem? (i := 85) (by decide +kernel)
theorem lX11_311 : ab_ml RX11 311 mX11_isRung 1 := ⟨List.mem_of_getElem? (i := 1661) (by decide +kernel), List.mem_of_getElem? (i := 1664) (by decide +kernel), List.mem_of_getElem? (i := 124) (by decide +kernel), ⟨by decide, by decide⟩, by decide +kernel⟩
theorem iX11_isRung : Cond.instanceMethod yX11_isRung ∈ lw_tbl := List.mem_of_getElem? (i := 1663) (by decide +kernel)
theorem sX11_isRung : Cond.selects RX11 yX11_isRung yX11_isRung ∈ lw_tbl := List.mem_of_getElem? (i := 86) (by decide +kernel)
theorem lX11_305 : ab_ml RX11 305 mX11_isAsked 1 := ⟨List.mem_of_getElem? (i := 1665) (by decide +kernel), List.mem_of_getElem? (i := 1668) (by decide +kernel), List.mem_of_getElem? (i := 124) (by decide +kernel), ⟨by decide, by decide⟩, by decide +kernel⟩
theorem iX11_isAsked : Cond.instanceMethod yX11_isAsked ∈ lw_tbl := List.mem_of_getElem? (i := 1667) (by decide +kernel)
theorem sX11_isAsked : Cond.selects RX11 yX11_isAsked yX11_isAsked ∈ lw_tbl := List.mem_of_getElem? (i := 87) (by decide +kernel)
theorem lX11_314 : ab_ml RX11 314 mX11_hasSeller 1 := ⟨List.mem_of_getElem? (i := 1669) (by decide +kernel), List.mem_of_getElem? (i := 1672) (by decide +kernel), List.mem_of_getElem? (i := 124) (by decide +kernel), ⟨by decide, by decide⟩, by decide +kernel⟩
theorem iX11_hasSeller : Cond.instanceMethod yX11_hasSeller ∈ lw_tbl := List.mem_of_getElem? (i := 1671) (by decide +kernel)
theorem sX11_hasSeller : Cond.selects RX11 yX11_hasSeller yX11_hasSeller ∈ lw_tbl := List.mem_of_getElem? (i := 88) (by decide +kernel)
theorem lX11_351 : ab_ml RX11 351 mX11_ringUnits 0 := ⟨List.mem_of_getElem? (i := 1673) (by decide +kernel), List.mem_of_getElem? (i := 1676) (by decide +kernel), List.mem_of_getElem? (i := 124) (by decide +kernel), ⟨by decide, by decide⟩, by decide +kernel⟩
theorem iX11_ringUnits : Cond.instanceMethod yX11_ringUnits ∈ lw_tbl := List.mem_of_getElem? (i := 1675) (by decide +kernel)
theorem sX11_ringUnits : Cond.selects RX11 yX11_ringUnits yX11_ringUnits ∈ lw_tbl := List.mem_of_getElem? (i := 89) (by decide +kernel)
theorem lX11_320 : ab_ml RX11 320 mJ9_min_7cf53 2 := ⟨List.mem_of_getElem? (i := 1677) (by decide +kernel), List.mem_of_getElem? (i := 743) (by decide +kernel), List.mem_of_getElem? (i := 129) (by decide +kernel), ⟨by decide, by decide⟩, by decide +kernel⟩
theorem lX11_341 : ab_ml RX11 341 mX11_settles 3 := ⟨List.mem_of_getElem? (i := 1678) (by decide +kernel), List.mem_of_getElem? (i := 1681) (by decide +kernel), List.mem_of_getElem? (i := 124) (by decide +kernel), ⟨by decide, by decide⟩, by decide +kernel⟩
theorem iX11_settles : Cond.instanceMethod yX11_settles ∈ lw_tbl := List.mem_of_getElem? (i := 1680) (by decide +kernel)
theorem sX11_settles : Cond.selects RX11 yX11_settles yX11_settles ∈ lw_tbl := List.mem_of_getElem? (i := 90) (by decide +kernel)
theorem lX11_322 : ab_ml RX11 322 mX11_adds 3 := ⟨List.mem_of_getElem? (i := 1682) (by decide +kernel), List.mem_of_getElem? (i := 1685) (by decide +kernel), List.mem_of_getElem? (i := 124) (by decide +kernel), ⟨by decide, by decide⟩, by decide +kernel⟩
theorem iX11_adds : Cond.instanceMethod yX11_adds ∈ lw_tbl := List.mem_of_getElem? (i := 1684) (by decide +kernel)
theorem sX11_adds : Cond.selects RX11 yX11_adds yX11_adds ∈ lw_tbl := List.mem_of_getElem? (i := 91) (by decide +kernel)
theorem lX11_326 : ab_ml RX11 326 mX11_pays 3 := ⟨List.mem_of_getElem? (i := 1686) (by decide +kernel), List.mem_of_getElem? (i := 1689) (by decide +kernel), List.mem_of_getElem? (i := 124) (by decide +kernel), ⟨by decide, by decide⟩, by decide +kernel⟩
theorem iX11_pays : Cond.instanceMethod yX11_pays ∈ lw_tbl := List.mem_of_getElem? (i := 1688) (by decide +kernel)
theorem sX11_pays : Cond.selects RX11 yX11_pays yX11_pays ∈ lw_tbl := List.mem_of_getElem? (i := 92) (by decide +kernel)
theorem lX11_354 : ab_ml RX11 354 mX11_delivers 0 := ⟨List.mem_of_getElem? (i := 1690) (by decide +kernel), List.mem_of_getElem? (i := 1693) (by decide +kernel), List.mem_of_getElem? (i := 124) (by decide +kernel), ⟨by decide, by decide⟩, by decide +kernel⟩
theorem iX11_delivers : Cond.instanceMethod yX11_delivers ∈ lw_tbl := List.mem_of_getElem? (i := 1692) (by decide +kernel)
theorem sX11_delivers : Cond.selects RX11 yX11_delivers yX11_delivers ∈ lw_tbl := List.mem_of_getElem? (i := 93) (by decide +kernel)
theorem lX11_367 : ab_ml RX11 367 mX11_sellsAsked 1 := ⟨List.mem_of_getElem? (i := 1694) (by decide +kernel), List.mem_of_getElem? (i := 1697) (by decide +kernel), List.mem_of_getElem? (i := 124) (by decide +kernel), ⟨by decide, by decide⟩, by decide +kernel⟩
theorem iX11_sellsAsked : Cond.instanceMethod yX11_sellsAsked ∈ lw_tbl := List.mem_of_getElem? (i := 1696) (by decide +kernel)
theorem sX11_sellsAsked : Cond.selects RX11 yX11_sellsAsked yX11_sellsAsked ∈ lw_tbl := List.mem_of_getElem? (i := 94) (by decide +kernel)
theorem lX11_370 : ab_ml RX11 370 mX11_buysIn 2 := ⟨List.mem_of_getElem? (i := 1698) (by decide +kernel), List.mem_of_getElem? (i := 1701) (by decide +kernel), List.mem_of_getElem? (i := 124) (by decide +kernel), ⟨by decide, by decide⟩, by decide +kernel⟩
theorem iX11_buysIn : Cond.instanceMethod yX11_buysIn ∈ lw_tbl := List.mem_of_getElem? (i := 1700) (by decide +kernel)
theorem sX11_buysIn : Cond.selects RX11 yX11_buysIn yX11_buysIn ∈ lw_tbl := List.mem_of_getElem? (i := 95) (by decide +kernel)
theorem lX11_338 : ab_ml RX11 338 mX11_laysParts 0 := ⟨List.mem_of_getElem? (i := 1702) (by decide +kernel), List.mem_of_getElem? (i := 1705) (by decide +kernel), List.mem_of_getElem? (i := 124) (by decide +kernel), ⟨by decide, by decide⟩, by decide +kernel⟩
theorem iX11_laysParts : Cond.instanceMethod yX11_laysParts ∈ lw_tbl := List.mem_of_getElem? (i := 1704) (by decide +kernel)
theorem sX11_laysParts : Cond.selects RX11 yX11_laysParts yX11_laysParts ∈ lw_tbl := List.mem_of_getElem? (i := 96) (by decide +kernel)
theorem lX11_335 : ab_ml RX11 335 mX11_closes 2 := ⟨List.mem_of_getElem? (i := 1706) (by decide +kernel), List.mem_of_getElem? (i := 1709) (by decide +kernel), List.mem_of_getElem? (i := 124) (by decide +kernel), ⟨by decide, by decide⟩, by decide +kernel⟩
theorem iX11_closes : Cond.instanceMethod yX11_closes ∈ lw_tbl := List.mem_of_getElem? (i := 1708) (by decide +kernel)
theorem sX11_closes : Cond.selects RX11 yX11_closes yX11_closes ∈ lw_tbl := List.mem_of_getElem? (i := 97) (by decide +kernel)
theorem lX11_329 : ab_ml RX11 329 mJ9_max_f86c9 2 := ⟨List.mem_of_getElem? (i := 1710) (by decide +kernel), List.mem_of_getElem? (i := 1712) (by decide +kernel), List.mem_of_getElem? (i := 129) (by decide +kernel), ⟨by decide, by decide⟩, by decide +kernel⟩
theorem tJ9_max_f86c9 : Cond.static yJ9_max_f86c9 ∈ lw_tbl := List.mem_of_getElem? (i := 1711) (by decide +kernel)
theorem lX11_332 : ab_ml RX11 332 mX11_partAt 2 := ⟨List.mem_of_getElem? (i := 1713) (by decide +kernel), List.mem_of_getElem? (i := 1716) (by decide +kernel), List.mem_of_getElem? (i := 124) (by decide +kernel), ⟨by decide, by decide⟩, by decide +kernel⟩
theorem iX11_partAt : Cond.instanceMethod yX11_partAt ∈ lw_tbl := List.mem_of_getElem? (i := 1715) (by decide +kernel)
theorem sX11_partAt : Cond.selects RX11 yX11_partAt yX11_partAt ∈ lw_tbl := List.mem_of_getElem? (i := 98) (by decide +kernel)
theorem lL_114 : ab_ml RL 114 mX11_buyin 2 := ⟨List.mem_of_getElem? (i := 1717) (by decide +kernel), List.mem_of_getElem? (i := 1720) (by decide +kernel), List.mem_of_getElem? (i := 124) (by decide +kernel), ⟨by decide, by decide⟩, by decide +kernel⟩
theorem iX11_buyin : Cond.instanceMethod yX11_buyin ∈ lw_tbl := List.mem_of_getElem? (i := 1718) (by decide +kernel)
theorem sX11_buyin : Cond.selects RX11 yX11_buyin yX11_buyin ∈ lw_tbl := List.mem_of_getElem? (i := 1719) (by decide +kernel)
theorem lX11_378 : ab_ml RX11 378 mX11_isSale 1 := ⟨List.mem_of_getElem? (i := 1721) (by decide +kernel), List.mem_of_getElem? (i := 1724) (by decide +kernel), List.mem_of_getElem? (i := 124) (by decide +kernel), ⟨by decide, by decide⟩, by decide +kernel⟩
theorem iX11_isSale : Cond.instanceMethod yX11_isSale ∈ lw_tbl := List.mem_of_getElem? (i := 1723) (by decide +kernel)
theorem sX11_isSale : Cond.selects RX11 yX11_isSale yX11_isSale ∈ lw_tbl := List.mem_of_getElem? (i := 99) (by decide +kernel)
theorem lL_121 : ab_ml RL 121 mX11_told 1 := ⟨List.mem_of_getElem? (i := 1725) (by decide +kernel), List.mem_of_getElem? (i := 1728) (by decide +kernel), List.mem_of_getElem? (i := 124) (by decide +kernel), ⟨by decide, by decide⟩, by decide +kernel⟩
theorem iX11_told : Cond.instanceMethod yX11_told ∈ lw_tbl := List.mem_of_getElem? (i := 1726) (by decide +kernel)
theorem sX11_told : Cond.selects RX11 yX11_told yX11_told ∈ lw_tbl := List.mem_of_getElem? (i := 1727) (by decide +kernel)
theorem lX11_381 : ab_ml RX11 381 mX11_fails 0 := ⟨List.mem_of_getElem? (i := 1729) (by decide +kernel), List.mem_of_getElem? (i := 1732) (by decide +kernel), List.mem_of_getElem? (i := 124) (by decide +kernel), ⟨by decide, by decide⟩, by decide +kernel⟩
theorem iX11_fails : Cond.instanceMethod yX11_fails ∈ lw_tbl := List.mem_of_getElem? (i := 1731) (by decide +kernel)
theorem sX11_fails : Cond.selects RX11 yX11_fails yX11_fails ∈ lw_tbl := List.mem_of_getElem? (i := 100) (by decide +kernel)
theorem lX11_384 : ab_ml RX11 384 mX11_unitsOf 2 := ⟨List.mem_of_getElem? (i := 1733) (by decide +kernel), List.mem_of_getElem? (i := 1736) (by decide +kernel), List.mem_of_getElem? (i := 124) (by decide +kernel), ⟨by decide, by decide⟩, by decide +kernel⟩
theorem iX11_unitsOf : Cond.instanceMethod yX11_unitsOf ∈ lw_tbl := List.mem_of_getElem? (i := 1735) (by decide +kernel)
theorem sX11_unitsOf : Cond.selects RX11 yX11_unitsOf yX11_unitsOf ∈ lw_tbl := List.mem_of_getElem? (i := 101) (by decide +kernel)
theorem lL_124 : ab_ml RL 124 mX11_dealer 2 := ⟨List.mem_of_getElem? (i := 1737) (by decide +kernel), List.mem_of_getElem? (i := 1740) (by decide +kernel), List.mem_of_getElem? (i := 124) (by decide +kernel), ⟨by decide, by decide⟩, by decide +kernel⟩
theorem iX11_dealer : Cond.instanceMethod yX11_dealer ∈ lw_tbl := List.mem_of_getElem? (i := 1738) (by decide +kernel)
theorem sX11_dealer : Cond.selects RX11 yX11_dealer yX11_dealer ∈ lw_tbl := List.mem_of_getElem? (i := 1739) (by decide +kernel)
theorem lX11_387 : ab_ml RX11 387 mX11_faults 1 := ⟨List.mem_of_getElem? (i := 1741) (by decide +kernel), List.mem_of_getElem? (i := 1744) (by decide +kernel), List.mem_of_getElem? (i := 124) (by decide +kernel), ⟨by decide, by decide⟩, by decide +kernel⟩
theorem iX11_faults : Cond.instanceMethod yX11_faults ∈ lw_tbl := List.mem_of_getElem? (i := 1743) (by decide +kernel)
theorem sX11_faults : Cond.selects RX11 yX11_faults yX11_faults ∈ lw_tbl := List.mem_of_getElem? (i := 102) (by decide +kernel)
theorem lL_127 : ab_ml RL 127 mX11_of 2 := ⟨List.mem_of_getElem? (i := 1745) (by decide +kernel), List.mem_of_getElem? (i := 1748) (by decide +kernel), List.mem_of_getElem? (i := 124) (by decide +kernel), ⟨by decide, by decide⟩, by decide +kernel⟩
theorem iX11_of : Cond.instanceMethod yX11_of ∈ lw_tbl := List.mem_of_getElem? (i := 1746) (by decide +kernel)
theorem sX11_of : Cond.selects RX11 yX11_of yX11_of ∈ lw_tbl := List.mem_of_getElem? (i := 1747) (by decide +kernel)
theorem lL_130 : ab_ml RL 130 mX11_rule 1 := ⟨List.mem_of_getElem? (i := 1749) (by decide +kernel), List.mem_of_getElem? (i := 1752) (by decide +kernel), List.mem_of_getElem? (i := 124) (by decide +kernel), ⟨by decide, by decide⟩, by decide +kernel⟩
theorem iX11_rule : Cond.instanceMethod yX11_rule ∈ lw_tbl := List.mem_of_getElem? (i := 1750) (by decide +kernel)
theorem sX11_rule : Cond.selects RX11 yX11_rule yX11_rule ∈ lw_tbl := List.mem_of_getElem? (i := 1751) (by decide +kernel)
theorem lL_134 : ab_ml RL 134 mX11_part 3 := ⟨List.mem_of_getElem? (i := 1753) (by decide +kernel), List.mem_of_getElem? (i := 1756) (by decide +kernel), List.mem_of_getElem? (i := 124) (by decide +kernel), ⟨by decide, by decide⟩, by decide +kernel⟩
theorem iX11_part : Cond.instanceMethod yX11_part ∈ lw_tbl := List.mem_of_getElem? (i := 1754) (by decide +kernel)
theorem sX11_part : Cond.selects RX11 yX11_part yX11_part ∈ lw_tbl := List.mem_of_getElem? (i := 1755) (by decide +kernel)
theorem lX11_391 : ab_ml RX11 391 mX11_partMany 1 := ⟨List.mem_of_getElem? (i := 1757) (by decide +kernel), List.mem_of_getElem? (i := 1760) (by decide +kernel), List.mem_of_getElem? (i := 124) (by decide +kernel), ⟨by decide, by decide⟩, by decide +kernel⟩
theorem iX11_partMany : Cond.instanceMethod yX11_partMany ∈ lw_tbl := List.mem_of_getElem? (i := 1759) (by decide +kernel)
theorem sX11_partMany : Cond.selects RX11 yX11_partMany yX11_partMany ∈ lw_tbl := List.mem_of_getElem? (i := 103) (by decide +kernel)
theorem lL_137 : ab_ml RL 137 mX11_parts 1 := ⟨List.mem_of_getElem? (i := 1761) (by decide +kernel), List.mem_of_getElem? (i := 1764) (by decide +kernel), List.mem_of_getElem? (i := 124) (by decide +kernel), ⟨by decide, by decide⟩, by decide +kernel⟩
theorem iX11_parts : Cond.instanceMethod yX11_parts ∈ lw_tbl := List.mem_of_getElem? (i := 1762) (by decide +kernel)
theorem sX11_parts : Cond.selects RX11 yX11_parts yX11_parts ∈ lw_tbl := List.mem_of_getElem? (i := 1763) (by decide +kernel)
theorem lL_140 : ab_ml RL 140 mX11_chain 2 := ⟨List.mem_of_getElem? (i := 1765) (by decide +kernel), List.mem_of_getElem? (i := 1768) (by decide +kernel), List.mem_of_getElem? (i := 124) (by decide +kernel), ⟨by decide, by decide⟩, by decide +kernel⟩
theorem iX11_chain : Cond.instanceMethod yX11_chain ∈ lw_tbl := List.mem_of_getElem? (i := 1766) (by decide +kernel)
theorem sX11_chain : Cond.selects RX11 yX11_chain yX11_chain ∈ lw_tbl := List.mem_of_getElem? (i := 1767) (by decide +kernel)
theorem lL_143 : ab_ml RL 143 mX11_ring 1 := ⟨List.mem_of_getElem? (i := 1769) (by decide +kernel), List.mem_of_getElem? (i := 1772) (by decide +kernel), List.mem_of_getElem? (i := 124) (by decide +kernel), ⟨by decide, by decide⟩, by decide +kernel⟩
theorem iX11_ring : Cond.instanceMethod yX11_ring ∈ lw_tbl := List.mem_of_getElem? (i := 1770) (by decide +kernel)
theorem sX11_ring : Cond.selects RX11 yX11_ring yX11_ring ∈ lw_tbl := List.mem_of_getElem? (i := 1771) (by decide +kernel)
theorem lL_146 : ab_ml RL 146 mX11_most 1 := ⟨List.mem_of_getElem? (i := 1774) (by decide +kernel), List.mem_of_getElem? (i := 1777) (by decide +kernel), List.mem_of_getElem? (i := 124) (by decide +kernel), ⟨by decide, by decide⟩, by decide +kernel⟩
theorem iX11_most : Cond.instanceMethod yX11_most ∈ lw_tbl := List.mem_of_getElem? (i := 1775) (by decide +kernel)
theorem sX11_most : Cond.selects RX11 yX11_most yX11_most ∈ lw_tbl := List.mem_of_getElem? (i := 1776) (by decide +kernel)
theorem lX11_416 : ab_ml RX11 416 mX11_laysNet 1 := ⟨List.mem_of_getElem? (i := 1778) (by decide +kernel), List.mem_of_getElem? (i := 1781) (by decide +kernel), List.mem_of_getElem? (i := 124) (by decide +kernel), ⟨by decide, by decide⟩, by decide +kernel⟩
theorem iX11_laysNet : Cond.instanceMethod yX11_laysNet ∈ lw_tbl := List.mem_of_getElem? (i := 1780) (by decide +kernel)
theorem sX11_laysNet : Cond.selects RX11 yX11_laysNet yX11_laysNet ∈ lw_tbl := List.mem_of_getElem? (i := 104) (by decide +kernel)
theorem lX11_399 : ab_ml RX11 399 mX11_edge 4 := ⟨List.mem_of_getElem? (i := 1782) (by decide +kernel), List.mem_of_getElem? (i := 1785) (by decide +kernel), List.mem_of_getElem? (i := 124) (by decide +kernel), ⟨by decide, by decide⟩, by decide +kernel⟩
theorem iX11_edge : Cond.instanceMethod yX11_edge ∈ lw_tbl := List.mem_of_getElem? (i := 1784) (by decide +kernel)
theorem sX11_edge : Cond.selects RX11 yX11_edge yX11_edge ∈ lw_tbl := List.mem_of_getElem? (i := 105) (by decide +kernel)
theorem lX11_420 : ab_ml RX11 420 mX11_gaining 0 := ⟨List.mem_of_getElem? (i := 1787) (by decide +kernel), List.mem_of_getElem? (i := 1790) (by decide +kernel), List.mem_of_getElem? (i := 124) (by decide +kernel), ⟨by decide, by decide⟩, by decide +kernel⟩
theorem iX11_gaining : Cond.instanceMethod yX11_gaining ∈ lw_tbl := List.mem_of_getElem? (i := 1789) (by decide +kernel)
theorem sX11_gaining : Cond.selects RX11 yX11_gaining yX11_gaining ∈ lw_tbl := List.mem_of_getElem? (i := 106) (by decide +kernel)
theorem lX11_405 : ab_ml RX11 405 mX11_relaxes 3 := ⟨List.mem_of_getElem? (i := 1791) (by decide +kernel), List.mem_of_getElem? (i := 1794) (by decide +kernel), List.mem_of_getElem? (i := 124) (by decide +kernel), ⟨by decide, by decide⟩, by decide +kernel⟩
theorem iX11_relaxes : Cond.instanceMethod yX11_relaxes ∈ lw_tbl := List.mem_of_getElem? (i := 1793) (by decide +kernel)
theorem sX11_relaxes : Cond.selects RX11 yX11_relaxes yX11_relaxes ∈ lw_tbl := List.mem_of_getElem? (i := 107) (by decide +kernel)
theorem lX11_409 : ab_ml RX11 409 mX11_behindOf 1 := ⟨List.mem_of_getElem? (i := 1795) (by decide +kernel), List.mem_of_getElem? (i := 1798) (by decide +kernel), List.mem_of_getElem? (i := 124) (by decide +kernel), ⟨by decide, by decide⟩, by decide +kernel⟩
theorem iX11_behindOf : Cond.instanceMethod yX11_behindOf ∈ lw_tbl := List.mem_of_getElem? (i := 1797) (by decide +kernel)
theorem sX11_behindOf : Cond.selects RX11 yX11_behindOf yX11_behindOf ∈ lw_tbl := List.mem_of_getElem? (i := 108) (by decide +kernel)
theorem lX11_423 : ab_ml RX11 423 mX11_goesRound 1 := ⟨List.mem_of_getElem? (i := 1799) (by decide +kernel), List.mem_of_getElem? (i := 1802) (by decide +kernel), List.mem_of_getElem? (i := 124) (by decide +kernel), ⟨by decide, by decide⟩, by decide +kernel⟩
theorem iX11_goesRound : Cond.instanceMethod yX11_goesRound ∈ lw_tbl := List.mem_of_getElem? (i := 1801) (by decide +kernel)
theorem sX11_goesRound : Cond.selects RX11 yX11_goesRound yX11_goesRound ∈ lw_tbl := List.mem_of_getElem? (i := 109) (by decide +kernel)
theorem lL_149 : ab_ml RL 149 mX11_foretold 1 := ⟨List.mem_of_getElem? (i := 1804) (by decide +kernel), List.mem_of_getElem? (i := 1807) (by decide +kernel), List.mem_of_getElem? (i := 124) (by decide +kernel), ⟨by decide, by decide⟩, by decide +kernel⟩
theorem iX11_foretold : Cond.instanceMethod yX11_foretold ∈ lw_tbl := List.mem_of_getElem? (i := 1805) (by decide +kernel)
theorem sX11_foretold : Cond.selects RX11 yX11_foretold yX11_foretold ∈ lw_tbl := List.mem_of_getElem? (i := 1806) (by decide +kernel)
theorem lX11_428 : ab_ml RX11 428 mX11_putsAside 0 := ⟨List.mem_of_getElem? (i := 1809) (by decide +kernel), List.mem_of_getElem? (i := 1812) (by decide +kernel), List.mem_of_getElem? (i := 124) (by decide +kernel), ⟨by decide, by decide⟩, by decide +kernel⟩
theorem iX11_putsAside : Cond.instanceMethod yX11_putsAside ∈ lw_tbl := List.mem_of_getElem? (i := 1811) (by decide +kernel)
theorem sX11_putsAside : Cond.selects RX11 yX11_putsAside yX11_putsAside ∈ lw_tbl := List.mem_of_getElem? (i := 110) (by decide +kernel)
theorem lX11_431 : ab_ml RX11 431 mX11_takesBack 0 := ⟨List.mem_of_getElem? (i := 1813) (by decide +kernel), List.mem_of_getElem? (i := 1816) (by decide +kernel), List.mem_of_getElem? (i := 124) (by decide +kernel), ⟨by decide, by decide⟩, by decide +kernel⟩
theorem iX11_takesBack : Cond.instanceMethod yX11_takesBack ∈ lw_tbl := List.mem_of_getElem? (i := 1815) (by decide +kernel)
theorem sX11_takesBack : Cond.selects RX11 yX11_takesBack yX11_takesBack ∈ lw_tbl := List.mem_of_getElem? (i := 111) (by decide +kernel)
theorem lL_152 : ab_ml RL 152 mX11_without 1 := ⟨List.mem_of_getElem? (i := 1817) (by decide +kernel), List.mem_of_getElem? (i := 1820) (by decide +kernel), List.mem_of_getElem? (i := 124) (by decide +kernel), ⟨by decide, by decide⟩, by decide +kernel⟩
theorem iX11_without : Cond.instanceMethod yX11_without ∈ lw_tbl := List.mem_of_getElem? (i := 1818) (by decide +kernel)
theorem sX11_without : Cond.selects RX11 yX11_without yX11_without ∈ lw_tbl := List.mem_of_getElem? (i := 1819) (by decide +kernel)
theorem lL_155 : ab_ml RL 155 mX11_between 2 := ⟨List.mem_of_getElem? (i := 1821) (by decide +kernel), List.mem_of_getElem? (i := 1824) (by decide +kernel), List.mem_of_getElem? (i := 124) (by decide +kernel), ⟨by decide, by decide⟩, by decide +kernel⟩
theorem iX11_between : Cond.instanceMethod yX11_between ∈ lw_tbl := List.mem_of_getElem? (i := 1822) (by decide +kernel)
theorem sX11_between : Cond.selects RX11 yX11_between yX11_between ∈ lw_tbl := List.mem_of_getElem? (i := 1823) (by decide +kernel)
theorem lL_160 : ab_ml RL 160 mX11_mean 0 := ⟨List.mem_of_getElem? (i := 1825) (by decide +kernel), List.mem_of_getElem? (i := 1828) (by decide +kernel), List.mem_of_getElem? (i := 124) (by decide +kernel), ⟨by decide, by decide⟩, by decide +kernel⟩
theorem iX11_mean : Cond.instanceMethod yX11_mean ∈ lw_tbl := List.mem_of_getElem? (i := 1826) (by decide +kernel)
theorem sX11_mean : Cond.selects RX11 yX11_mean yX11_mean ∈ lw_tbl := List.mem_of_getElem? (i := 1827) (by decide +kernel)
theorem lX11_434 : ab_ml RX11 434 mJxe99ae_doubleToLongBits_ccdee 1 := ⟨List.mem_of_getElem? (i := 1829) (by decide +kernel), List.mem_of_getElem? (i := 1831) (by decide +kernel), List.mem_of_getElem? (i := 139) (by decide +kernel), ⟨by decide, by decide⟩, by decide +kernel⟩
theorem tJxe99ae_doubleToLongBits_ccdee : Cond.static yJxe99ae_doubleToLongBits_ccdee ∈ lw_tbl := List.mem_of_getElem? (i := 1830) (by decide +kernel)
theorem lJxe99ae_122 : ab_ml RJxe99ae 122 mJxe99ae_isNaN_b9ae7 1 := ⟨List.mem_of_getElem? (i := 1832) (by decide +kernel), List.mem_of_getElem? (i := 1834) (by decide +kernel), List.mem_of_getElem? (i := 139) (by decide +kernel), ⟨by decide, by decide⟩, by decide +kernel⟩
theorem tJxe99ae_isNaN_b9ae7 : Cond.static yJxe99ae_isNaN_b9ae7 ∈ lw_tbl := List.mem_of_getElem? (i := 1833) (by decide +kernel)
theorem lL_164 : ab_ml RL 164 mX11_outside 0 := ⟨List.mem_of_getElem? (i := 1839) (by decide +kernel), List.mem_of_getElem? (i := 1842) (by decide +kernel), List.mem_of_getElem? (i := 124) (by decide +kernel), ⟨by decide, by decide⟩, by decide +kernel⟩
theorem iX11_outside : Cond.instanceMethod yX11_outside ∈ lw_tbl := List.mem_of_getElem? (i := 1840) (by decide +kernel)
theorem sX11_outside : Cond.selects RX11 yX11_outside yX11_outside ∈ lw_tbl := List.mem_of_getElem? (i := 1841) (by decide +kernel)
theorem lL_168 : ab_ml RL 168 mX11_print 0 := ⟨List.mem_of_getElem? (i := 1843) (by decide +kernel), List.mem_of_getElem? (i := 1846) (by decide +kernel), List.mem_of_getElem? (i := 124) (by decide +kernel), ⟨by decide, by decide⟩, by decide +kernel⟩
theorem iX11_print : Cond.instanceMethod yX11_print ∈ lw_tbl := List.mem_of_getElem? (i := 1844) (by decide +kernel)
theorem sX11_print : Cond.selects RX11 yX11_print yX11_print ∈ lw_tbl := List.mem_of_getElem? (i := 1845) (by decide +kernel)
theorem lL_172 : ab_ml RL 172 mX11_status 1 := ⟨List.mem_of_getElem? (i := 1848) (by decide +kernel), List.mem_of_getElem? (i := 1851) (by decide +kernel), List.mem_of_getElem? (i := 124) (by decide +kernel), ⟨by decide, by decide⟩, by decide +kernel⟩
theorem iX11_status : Cond.instanceMethod yX11_status ∈ lw_tbl := List.mem_of_getElem? (i := 1849) (by decide +kernel)
theorem sX11_status : Cond.selects RX11 yX11_status yX11_status ∈ lw_tbl := List.mem_of_getElem? (i := 1850) (by decide +kernel)
theorem kX10_319 : Cond.constantLong RX10 319 (4503599627370496) ∈ lw_tbl := List.mem_of_getElem? (i := 644) (by decide +kernel)
theorem kX10_298 : Cond.constantLong RX10 298 (31) ∈ lw_tbl := List.mem_of_getElem? (i := 653) (by decide +kernel)
theorem kX2_121 : Cond.constantLong RX2 121 (100000) ∈ lw_tbl := List.mem_of_getElem? (i := 1111) (by decide +kernel)
theorem kX3_92 : Cond.constantLong RX3 92 (1000000000) ∈ lw_tbl := List.mem_of_getElem? (i := 1277) (by decide +kernel)
theorem kX11_92 : Cond.constantLong RX11 92 (100) ∈ lw_tbl := List.mem_of_getElem? (i := 1335) (by decide +kernel)
theorem kX11_94 : Cond.constantLong RX11 94 (4) ∈ lw_tbl := List.mem_of_getElem? (i := 1336) (by decide +kernel)
theorem kX11_225 : Cond.constantLong RX11 225 (-1) ∈ lw_tbl := List.mem_of_getElem? (i := 1479) (by decide +kernel)
theorem kX11_227 : Cond.constantLong RX11 227 (8) ∈ lw_tbl := List.mem_of_getElem? (i := 1503) (by decide +kernel)
theorem kX11_199 : Cond.constantLong RX11 199 (9999) ∈ lw_tbl := List.mem_of_getElem? (i := 1508) (by decide +kernel)
theorem kX11_152 : Cond.constantLong RX11 152 (10) ∈ lw_tbl := List.mem_of_getElem? (i := 1517) (by decide +kernel)
theorem kX11_154 : Cond.constantLong RX11 154 (48) ∈ lw_tbl := List.mem_of_getElem? (i := 1518) (by decide +kernel)
theorem kX11_156 : Cond.constantLong RX11 156 (1000000) ∈ lw_tbl := List.mem_of_getElem? (i := 1519) (by decide +kernel)
theorem kX11_229 : Cond.constantLong RX11 229 (24) ∈ lw_tbl := List.mem_of_getElem? (i := 1526) (by decide +kernel)
theorem kX11_231 : Cond.constantLong RX11 231 (1000) ∈ lw_tbl := List.mem_of_getElem? (i := 1527) (by decide +kernel)
theorem kX11_233 : Cond.constantLong RX11 233 (10000) ∈ lw_tbl := List.mem_of_getElem? (i := 1528) (by decide +kernel)
theorem kX11_235 : Cond.constantLong RX11 235 (999) ∈ lw_tbl := List.mem_of_getElem? (i := 1529) (by decide +kernel)
theorem kX11_214 : Cond.constantLong RX11 214 (2000110) ∈ lw_tbl := List.mem_of_getElem? (i := 1563) (by decide +kernel)
theorem kX11_223 : Cond.constantLong RX11 223 (3000000) ∈ lw_tbl := List.mem_of_getElem? (i := 1578) (by decide +kernel)
theorem kX11_194 : Cond.constantLong RX11 194 (2000042) ∈ lw_tbl := List.mem_of_getElem? (i := 1579) (by decide +kernel)
theorem kX11_185 : Cond.constantLong RX11 185 (2000000) ∈ lw_tbl := List.mem_of_getElem? (i := 1580) (by decide +kernel)
theorem kX11_287 : Cond.constantLong RX11 287 (100000) ∈ lw_tbl := List.mem_of_getElem? (i := 1621) (by decide +kernel)
theorem kX11_373 : Cond.constantLong RX11 373 (5000) ∈ lw_tbl := List.mem_of_getElem? (i := 1630) (by decide +kernel)
theorem kX11_297 : Cond.constantLong RX11 297 (2000043) ∈ lw_tbl := List.mem_of_getElem? (i := 1651) (by decide +kernel)
theorem kX11_299 : Cond.constantLong RX11 299 (2000045) ∈ lw_tbl := List.mem_of_getElem? (i := 1652) (by decide +kernel)
theorem kX11_394 : Cond.constantLong RX11 394 (9) ∈ lw_tbl := List.mem_of_getElem? (i := 1773) (by decide +kernel)
theorem kX11_403 : Cond.constantLong RX11 403 (1000000000) ∈ lw_tbl := List.mem_of_getElem? (i := 1786) (by decide +kernel)
theorem kX11_414 : Cond.constantLong RX11 414 (9223372036854775807) ∈ lw_tbl := List.mem_of_getElem? (i := 1803) (by decide +kernel)
theorem kX11_426 : Cond.constantLong RX11 426 (30) ∈ lw_tbl := List.mem_of_getElem? (i := 1808) (by decide +kernel)
theorem kJxe99ae_137 : Cond.constantLong RJxe99ae 137 (9221120237041090560) ∈ lw_tbl := List.mem_of_getElem? (i := 1838) (by decide +kernel)
theorem kX11_440 : Cond.constantLong RX11 440 (31) ∈ lw_tbl := List.mem_of_getElem? (i := 1847) (by decide +kernel)
theorem kX11_442 : Cond.constantLong RX11 442 (2) ∈ lw_tbl := List.mem_of_getElem? (i := 1852) (by decide +kernel)
theorem kX7_103 : Cond.constant RX7 103 (1000000) ∈ lw_tbl := List.mem_of_getElem? (i := 848) (by decide +kernel)
theorem kX10_120 : Cond.constant RX10 120 (100000) ∈ lw_tbl := List.mem_of_getElem? (i := 1001) (by decide +kernel)
theorem kX10_317 : Cond.constantDouble RX10 317 (4611686018427387904) ∈ lw_tbl := List.mem_of_getElem? (i := 643) (by decide +kernel)
theorem kX7_104 : Cond.stringRef RX7 104 (ab_tx.getD 0 "") ∈ lw_tbl := List.mem_of_getElem? (i := 763) (by decide +kernel)
theorem kX7_110 : Cond.stringRef RX7 110 (ab_tx.getD 1 "") ∈ lw_tbl := List.mem_of_getElem? (i := 816) (by decide +kernel)
theorem kX7_112 : Cond.stringRef RX7 112 (ab_tx.getD 2 "") ∈ lw_tbl := List.mem_of_getElem? (i := 817) (by decide +kernel)
theorem kX7_114 : Cond.stringRef RX7 114 (ab_tx.getD 3 "") ∈ lw_tbl := List.mem_of_getElem? (i := 818) (by decide +kernel)
theorem kX7_116 : Cond.stringRef RX7 116 (ab_tx.getD 4 "") ∈ lw_tbl := List.mem_of_getElem? (i := 819) (by decide +kernel)
theorem kX7_118 : Cond.stringRef RX7 118 (ab_tx.getD 5 "") ∈ lw_tbl := List.mem_of_getElem? (i := 820) (by decide +kernel)
theorem kX7_120 : Cond.stringRef RX7 120 (ab_tx.getD 6 "") ∈ lw_tbl := List.mem_of_getElem? (i := 821) (by decide +kernel)
theorem kX7_125 : Cond.stringRef RX7 125 (ab_tx.getD 7 "") ∈ lw_tbl := List.mem_of_getElem? (i := 826) (by decide +kernel)
theorem kX7_129 : Cond.stringRef RX7 129 (ab_tx.getD 8 "") ∈ lw_tbl := List.mem_of_getElem? (i := 827) (by decide +kernel)
theorem kX7_131 : Cond.stringRef RX7 131 (ab_tx.getD 9 "") ∈ lw_tbl := List.mem_of_getElem? (i := 828) (by decide +kernel)
theorem kX7_133 : Cond.stringRef RX7 133 (ab_tx.getD 10 "") ∈ lw_tbl := List.mem_of_getElem? (i := 829) (by decide +kernel)
theorem kX7_135 : Cond.stringRef RX7 135 (ab_tx.getD 11 "") ∈ lw_tbl := List.mem_of_getElem? (i := 830) (by decide +kernel)
theorem kX7_137 : Cond.stringRef RX7 137 (ab_tx.getD 12 "") ∈ lw_tbl := List.mem_of_getElem? (i := 831) (by decide +kernel)
theorem kX7_139 : Cond.stringRef RX7 139 (ab_tx.getD 13 "") ∈ lw_tbl := List.mem_of_getElem? (i := 832) (by decide +kernel)
theorem kX11_237 : Cond.stringRef RX11 237 (ab_tx.getD 0 "") ∈ lw_tbl := List.mem_of_getElem? (i := 1488) (by decide +kernel)
theorem kX11_242 : Cond.stringRef RX11 242 (ab_tx.getD 1 "") ∈ lw_tbl := List.mem_of_getElem? (i := 1521) (by decide +kernel)
theorem kX11_247 : Cond.stringRef RX11 247 (ab_tx.getD 6 "") ∈ lw_tbl := List.mem_of_getElem? (i := 1530) (by decide +kernel)
theorem kX11_168 : Cond.stringRef RX11 168 (ab_tx.getD 7 "") ∈ lw_tbl := List.mem_of_getElem? (i := 1567) (by decide +kernel)
theorem kX11_170 : Cond.stringRef RX11 170 (ab_tx.getD 8 "") ∈ lw_tbl := List.mem_of_getElem? (i := 1568) (by decide +kernel)
theorem kX11_172 : Cond.stringRef RX11 172 (ab_tx.getD 9 "") ∈ lw_tbl := List.mem_of_getElem? (i := 1569) (by decide +kernel)
theorem kX11_174 : Cond.stringRef RX11 174 (ab_tx.getD 10 "") ∈ lw_tbl := List.mem_of_getElem? (i := 1570) (by decide +kernel)
theorem kX11_176 : Cond.stringRef RX11 176 (ab_tx.getD 11 "") ∈ lw_tbl := List.mem_of_getElem? (i := 1571) (by decide +kernel)
theorem kX11_178 : Cond.stringRef RX11 178 (ab_tx.getD 12 "") ∈ lw_tbl := List.mem_of_getElem? (i := 1572) (by decide +kernel)
theorem kX11_180 : Cond.stringRef RX11 180 (ab_tx.getD 13 "") ∈ lw_tbl := List.mem_of_getElem? (i := 1573) (by decide +kernel)
theorem kX11_252 : Cond.stringRef RX11 252 (ab_tx.getD 2 "") ∈ lw_tbl := List.mem_of_getElem? (i := 1581) (by decide +kernel)
theorem kX11_258 : Cond.stringRef RX11 258 (ab_tx.getD 3 "") ∈ lw_tbl := List.mem_of_getElem? (i := 1586) (by decide +kernel)
theorem kX11_260 : Cond.stringRef RX11 260 (ab_tx.getD 4 "") ∈ lw_tbl := List.mem_of_getElem? (i := 1587) (by decide +kernel)
theorem kX11_262 : Cond.stringRef RX11 262 (ab_tx.getD 5 "") ∈ lw_tbl := List.mem_of_getElem? (i := 1588) (by decide +kernel)
