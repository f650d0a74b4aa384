abbrev mX10_init : ab_M := (yX10_init, cX10_init, 1, none)
abbrev mX7_init : ab_M := (yX7_init, cX7_init, 1, none)
abbrev mX2_init : ab_M := (yX2_init, cX2_init, 2, none)
abbrev mX0_init : ab_M := (yX0_init, cX0_init, 1, none)
abbrev mX9_init : ab_M := (yX9_init, cX9_init, 1, none)
abbrev mX2_empty : ab_M := (yX2_empty, cX2_empty, 1, none)
abbrev mX1_init : ab_M := (yX1_init, cX1_init, 2, none)
abbrev mX5_init : ab_M := (yX5_init, cX5_init, 1, none)
abbrev mX6_init : ab_M := (yX6_init, cX6_init, 1, none)
abbrev mX8_init : ab_M := (yX8_init, cX8_init, 1, none)
abbrev mX3_init : ab_M := (yX3_init, cX3_init, 1, none)
abbrev mX4_init : ab_M := (yX4_init, cX4_init, 1, none)
abbrev mX10_feed : ab_M := (yX10_feed, cX10_feed, 6, (some .int))
abbrev mX7_put : ab_M := (yX7_put, cX7_put, 3, none)
abbrev mX10_fault : ab_M := (yX10_fault, cX10_fault, 1, (some .int))
abbrev mX10_undo : ab_M := (yX10_undo, cX10_undo, 1, (some .int))
abbrev mX1_takeBack : ab_M := (yX1_takeBack, cX1_takeBack, 2, (some .int))
abbrev mX2_copyFrom : ab_M := (yX2_copyFrom, cX2_copyFrom, 3, none)
abbrev mX0_copyFrom : ab_M := (yX0_copyFrom, cX0_copyFrom, 2, none)
abbrev mX9_copyFrom : ab_M := (yX9_copyFrom, cX9_copyFrom, 2, none)
abbrev mX10_mean : ab_M := (yX10_mean, cX10_mean, 2, (some .long))
abbrev mX2_unitsOfFails : ab_M := (yX2_unitsOfFails, cX2_unitsOfFails, 7, (some .int))
abbrev mX2_isAsked : ab_M := (yX2_isAsked, cX2_isAsked, 2, (some .boolean))
abbrev mX2_valueOfFails : ab_M := (yX2_valueOfFails, cX2_valueOfFails, 4, (some .long))
abbrev mX10_bitsOf : ab_M := (yX10_bitsOf, cX10_bitsOf, 9, (some .long))
abbrev mX10_outside : ab_M := (yX10_outside, cX10_outside, 1, (some .long))
abbrev mX10_print : ab_M := (yX10_print, cX10_print, 4, (some .long))
abbrev mX10_status : ab_M := (yX10_status, cX10_status, 2, (some .int))
abbrev mX10_text : ab_M := (yX10_text, cX10_text, 2, (some .int))
abbrev mX10_needWithin : ab_M := (yX10_needWithin, cX10_needWithin, 4, none)
abbrev mX10_refuseUnfit : ab_M := (yX10_refuseUnfit, cX10_refuseUnfit, 1, none)
abbrev mX7_readTape : ab_M := (yX7_readTape, cX7_readTape, 3, none)
abbrev mJ9_min_7cf53 : ab_M := (yJ9_min_7cf53, cJ9_min_7cf53, 2, (some .int))
abbrev mX7_splitTape : ab_M := (yX7_splitTape, cX7_splitTape, 5, none)
abbrev mX7_passBlanks : ab_M := (yX7_passBlanks, cX7_passBlanks, 5, (some .int))
abbrev mX7_isLetter : ab_M := (yX7_isLetter, cX7_isLetter, 1, (some .boolean))
abbrev mX7_passLetters : ab_M := (yX7_passLetters, cX7_passLetters, 5, (some .int))
abbrev mX7_wordAt : ab_M := (yX7_wordAt, cX7_wordAt, 3, (some .int))
abbrev mX7_spells : ab_M := (yX7_spells, cX7_spells, 5, (some .boolean))
abbrev mJ0_length_8abf5 : ab_M := (yJ0_length_8abf5, cJ0_length_8abf5, 1, (some .int))
abbrev mJ0_coder_7d493 : ab_M := (yJ0_coder_7d493, cJ0_coder_7d493, 1, (some .byte))
abbrev mJ0_charAt_5068e : ab_M := (yJ0_charAt_5068e, cJ0_charAt_5068e, 2, (some .char))
abbrev mJ0_isLatin1_aae02 : ab_M := (yJ0_isLatin1_aae02, cJ0_isLatin1_aae02, 1, (some .boolean))
abbrev mJ1_charAt_3b067 : ab_M := (yJ1_charAt_3b067, cJ1_charAt_3b067, 2, (some .char))
abbrev mJ0_checkIndex_df160 : ab_M := (yJ0_checkIndex_df160, cJ0_checkIndex_df160, 2, none)
abbrev mJ3_checkIndex_8e157 : ab_M := (yJ3_checkIndex_8e157, cJ3_checkIndex_8e157, 3, (some .int))
abbrev mJ2_charAt_3b067 : ab_M := (yJ2_charAt_3b067, cJ2_charAt_3b067, 2, (some .char))
abbrev mJ2_checkIndex_2214a : ab_M := (yJ2_checkIndex_2214a, cJ2_checkIndex_2214a, 2, none)
abbrev mJ2_length_9d52b : ab_M := (yJ2_length_9d52b, cJ2_length_9d52b, 1, (some .int))
abbrev mJ2_getChar_3b067 : ab_M := (yJ2_getChar_3b067, cJ2_getChar_3b067, 2, (some .char))
abbrev mX7_operandAt : ab_M := (yX7_operandAt, cX7_operandAt, 3, (some .int))
abbrev mX7_addToken : ab_M := (yX7_addToken, cX7_addToken, 4, none)
abbrev mX7_isDigit : ab_M := (yX7_isDigit, cX7_isDigit, 1, (some .boolean))
abbrev mX7_passDigits : ab_M := (yX7_passDigits, cX7_passDigits, 5, (some .int))
abbrev mX7_numberAt : ab_M := (yX7_numberAt, cX7_numberAt, 5, (some .int))
abbrev mX7_readLine : ab_M := (yX7_readLine, cX7_readLine, 1, none)
abbrev mX7_readDealer : ab_M := (yX7_readDealer, cX7_readDealer, 2, none)
abbrev mX7_refuse : ab_M := (yX7_refuse, cX7_refuse, 2, none)
abbrev mX7_advance : ab_M := (yX7_advance, cX7_advance, 1, none)
abbrev mX7_takeNumber : ab_M := (yX7_takeNumber, cX7_takeNumber, 5, (some .int))
abbrev mX2_addDealer : ab_M := (yX2_addDealer, cX2_addDealer, 2, none)
abbrev mX0_start : ab_M := (yX0_start, cX0_start, 2, none)
abbrev mX7_readSale : ab_M := (yX7_readSale, cX7_readSale, 6, none)
abbrev mX2_addSale : ab_M := (yX2_addSale, cX2_addSale, 7, none)
abbrev mX7_readOnce : ab_M := (yX7_readOnce, cX7_readOnce, 4, (some .int))
abbrev mX7_takeOnce : ab_M := (yX7_takeOnce, cX7_takeOnce, 2, none)
abbrev mX7_readSum : ab_M := (yX7_readSum, cX7_readSum, 4, none)
abbrev mX7_readProduct : ab_M := (yX7_readProduct, cX7_readProduct, 3, none)
abbrev mX7_readFactor : ab_M := (yX7_readFactor, cX7_readFactor, 2, none)
abbrev mX7_write : ab_M := (yX7_write, cX7_write, 2, none)
abbrev mX7_isNext : ab_M := (yX7_isNext, cX7_isNext, 2, (some .boolean))
abbrev mX7_take : ab_M := (yX7_take, cX7_take, 2, none)
abbrev mX7_keepRule : ab_M := (yX7_keepRule, cX7_keepRule, 1, none)
abbrev mJ7_copyOf_59c91 : ab_M := (yJ7_copyOf_59c91, cJ7_copyOf_59c91, 3, (some (.array .int)))
abbrev mX1_keep : ab_M := (yX1_keep, cX1_keep, 2, none)
abbrev mX10_sale : ab_M := (yX10_sale, cX10_sale, 6, (some .int))
abbrev mX10_needDealer : ab_M := (yX10_needDealer, cX10_needDealer, 2, none)
abbrev mX10_refuseMissing : ab_M := (yX10_refuseMissing, cX10_refuseMissing, 1, none)
abbrev mX10_refuseUntimely : ab_M := (yX10_refuseUntimely, cX10_refuseUntimely, 1, none)
abbrev mX10_stock : ab_M := (yX10_stock, cX10_stock, 4, (some .int))
abbrev mX10_mark : ab_M := (yX10_mark, cX10_mark, 3, (some .int))
abbrev mX10_night : ab_M := (yX10_night, cX10_night, 1, (some .int))
abbrev mX4_pass : ab_M := (yX4_pass, cX4_pass, 4, none)
abbrev mX5_arrange : ab_M := (yX5_arrange, cX5_arrange, 3, none)
abbrev mX5_worthOf : ab_M := (yX5_worthOf, cX5_worthOf, 6, (some .long))
abbrev mX5_operand : ab_M := (yX5_operand, cX5_operand, 3, (some .long))
abbrev mX5_joined : ab_M := (yX5_joined, cX5_joined, 5, (some .long))
abbrev mX5_insert : ab_M := (yX5_insert, cX5_insert, 4, none)
abbrev mX4_settleRings : ab_M := (yX4_settleRings, cX4_settleRings, 4, none)
abbrev mX8_find : ab_M := (yX8_find, cX8_find, 5, (some .boolean))
abbrev mX8_seeBuyers : ab_M := (yX8_seeBuyers, cX8_seeBuyers, 3, none)
abbrev mJ7_fill_53178 : ab_M := (yJ7_fill_53178, cJ7_fill_53178, 4, none)
abbrev mX8_isFit : ab_M := (yX8_isFit, cX8_isFit, 2, (some .boolean))
abbrev mX8_follow : ab_M := (yX8_follow, cX8_follow, 9, (some .boolean))
abbrev mX8_whoReach : ab_M := (yX8_whoReach, cX8_whoReach, 7, (some .int))
abbrev mX8_nextOf : ab_M := (yX8_nextOf, cX8_nextOf, 6, (some .int))
abbrev mX8_leastOpen : ab_M := (yX8_leastOpen, cX8_leastOpen, 4, (some .int))
abbrev mX2_wholeLots : ab_M := (yX2_wholeLots, cX2_wholeLots, 2, (some .int))
abbrev mX2_settleInRing : ab_M := (yX2_settleInRing, cX2_settleInRing, 3, none)
abbrev mX2_payForUnits : ab_M := (yX2_payForUnits, cX2_payForUnits, 5, none)
abbrev mX4_deliverAll : ab_M := (yX4_deliverAll, cX4_deliverAll, 6, (some .boolean))
abbrev mX2_deliverable : ab_M := (yX2_deliverable, cX2_deliverable, 3, (some .int))
abbrev mX2_deliver : ab_M := (yX2_deliver, cX2_deliver, 3, none)
abbrev mX4_payPenalties : ab_M := (yX4_payPenalties, cX4_payPenalties, 5, none)
abbrev mX2_countFails : ab_M := (yX2_countFails, cX2_countFails, 3, (some .int))
abbrev mX2_penaltyOf : ab_M := (yX2_penaltyOf, cX2_penaltyOf, 2, (some .long))
abbrev mX2_payPenalty : ab_M := (yX2_payPenalty, cX2_payPenalty, 6, none)
abbrev mX4_buyInLate : ab_M := (yX4_buyInLate, cX4_buyInLate, 5, none)
abbrev mX2_sellsAsked : ab_M := (yX2_sellsAsked, cX2_sellsAsked, 2, (some .boolean))
abbrev mX6_buyIn : ab_M := (yX6_buyIn, cX6_buyIn, 5, none)
abbrev mX6_stand : ab_M := (yX6_stand, cX6_stand, 4, none)
abbrev mX6_standOne : ab_M := (yX6_standOne, cX6_standOne, 9, none)
abbrev mX6_add : ab_M := (yX6_add, cX6_add, 3, none)
abbrev mX2_buyOutside : ab_M := (yX2_buyOutside, cX2_buyOutside, 6, none)
abbrev mX6_closeDown : ab_M := (yX6_closeDown, cX6_closeDown, 11, none)
abbrev mX2_close : ab_M := (yX2_close, cX2_close, 6, none)
abbrev mJ9_max_7cf53 : ab_M := (yJ9_max_7cf53, cJ9_max_7cf53, 2, (some .int))
abbrev mX10_buyin : ab_M := (yX10_buyin, cX10_buyin, 3, (some .int))
abbrev mX10_needSale : ab_M := (yX10_needSale, cX10_needSale, 2, none)
abbrev mX10_told : ab_M := (yX10_told, cX10_told, 2, (some .int))
abbrev mX10_dealer : ab_M := (yX10_dealer, cX10_dealer, 4, (some .long))
abbrev mX10_ownFaultOf : ab_M := (yX10_ownFaultOf, cX10_ownFaultOf, 2, (some .int))
abbrev mX10_standNow : ab_M := (yX10_standNow, cX10_standNow, 1, none)
abbrev mX10_of : ab_M := (yX10_of, cX10_of, 4, (some .int))
abbrev mX10_placeOf : ab_M := (yX10_placeOf, cX10_placeOf, 2, (some .int))
abbrev mX5_placeOf : ab_M := (yX5_placeOf, cX5_placeOf, 3, (some .int))
abbrev mX10_rule : ab_M := (yX10_rule, cX10_rule, 2, (some .long))
abbrev mX10_part : ab_M := (yX10_part, cX10_part, 5, (some .int))
abbrev mX10_parts : ab_M := (yX10_parts, cX10_parts, 2, (some .int))
abbrev mX10_chain : ab_M := (yX10_chain, cX10_chain, 4, (some .int))
abbrev mX6_linkOf : ab_M := (yX6_linkOf, cX6_linkOf, 6, (some .int))
abbrev mX10_ring : ab_M := (yX10_ring, cX10_ring, 3, (some .int))
abbrev mX10_most : ab_M := (yX10_most, cX10_most, 2, (some .long))
abbrev mX3_sum : ab_M := (yX3_sum, cX3_sum, 6, (some .long))
abbrev mX3_settleAll : ab_M := (yX3_settleAll, cX3_settleAll, 3, none)
abbrev mX3_isShort : ab_M := (yX3_isShort, cX3_isShort, 3, (some .boolean))
abbrev mX3_weighLosses : ab_M := (yX3_weighLosses, cX3_weighLosses, 6, none)
abbrev mX3_gain : ab_M := (yX3_gain, cX3_gain, 2, (some .long))
abbrev mX3_weigh : ab_M := (yX3_weigh, cX3_weigh, 9, (some .boolean))
abbrev mX3_cheapestEnd : ab_M := (yX3_cheapestEnd, cX3_cheapestEnd, 4, (some .int))
abbrev mX3_takeBack : ab_M := (yX3_takeBack, cX3_takeBack, 9, (some .boolean))
abbrev mJ9_min_f86c9 : ab_M := (yJ9_min_f86c9, cJ9_min_f86c9, 4, (some .long))
abbrev mX3_change : ab_M := (yX3_change, cX3_change, 7, none)
abbrev mX10_foretold : ab_M := (yX10_foretold, cX10_foretold, 3, (some .int))
abbrev mX10_without : ab_M := (yX10_without, cX10_without, 2, (some .long))
abbrev mX2_leaveOut : ab_M := (yX2_leaveOut, cX2_leaveOut, 2, none)
abbrev mX10_between : ab_M := (yX10_between, cX10_between, 3, (some .int))
abbrev mX11_thrown : ab_M := (yX11_thrown, cX11_thrown, 1, (some .int))
abbrev mX11_init : ab_M := (yX11_init, cX11_init, 1, none)
abbrev mX11_undo : ab_M := (yX11_undo, cX11_undo, 2, (some .int))
abbrev mX11_feed : ab_M := (yX11_feed, cX11_feed, 6, (some .int))
abbrev mX11_puts : ab_M := (yX11_puts, cX11_puts, 3, none)
abbrev mX11_text : ab_M := (yX11_text, cX11_text, 3, (some .int))
abbrev mX11_lies : ab_M := (yX11_lies, cX11_lies, 6, (some .boolean))
abbrev mX11_isFine : ab_M := (yX11_isFine, cX11_isFine, 4, (some .boolean))
abbrev mX11_sign : ab_M := (yX11_sign, cX11_sign, 1, (some .int))
abbrev mX11_line : ab_M := (yX11_line, cX11_line, 1, none)
abbrev mX11_isHere : ab_M := (yX11_isHere, cX11_isHere, 3, (some .boolean))
abbrev mX11_isSmall : ab_M := (yX11_isSmall, cX11_isSmall, 2, (some .boolean))
abbrev mX11_dealerRead : ab_M := (yX11_dealerRead, cX11_dealerRead, 3, none)
abbrev mX11_wrong : ab_M := (yX11_wrong, cX11_wrong, 3, none)
abbrev mX11_number : ab_M := (yX11_number, cX11_number, 7, (some .long))
abbrev mX11_isFigure : ab_M := (yX11_isFigure, cX11_isFigure, 2, (some .boolean))
abbrev mX11_saleRead : ab_M := (yX11_saleRead, cX11_saleRead, 12, none)
abbrev mX11_ruleRead : ab_M := (yX11_ruleRead, cX11_ruleRead, 1, none)
abbrev mX11_expression : ab_M := (yX11_expression, cX11_expression, 2, none)
abbrev mX11_term : ab_M := (yX11_term, cX11_term, 1, none)
abbrev mX11_factor : ab_M := (yX11_factor, cX11_factor, 3, none)
abbrev mX11_code : ab_M := (yX11_code, cX11_code, 3, none)
abbrev mX11_opens : ab_M := (yX11_opens, cX11_opens, 1, (some .boolean))
abbrev mX11_needs : ab_M := (yX11_needs, cX11_needs, 2, none)
abbrev mX11_passes : ab_M := (yX11_passes, cX11_passes, 2, (some .boolean))
abbrev mX11_partWord : ab_M := (yX11_partWord, cX11_partWord, 1, (some (.object "java/lang/String")))
abbrev mX11_passesWord : ab_M := (yX11_passesWord, cX11_passesWord, 2, (some .boolean))
abbrev mX11_isOnce : ab_M := (yX11_isOnce, cX11_isOnce, 7, (some .boolean))
abbrev mX11_plain : ab_M := (yX11_plain, cX11_plain, 4, none)
abbrev mX11_keeps : ab_M := (yX11_keeps, cX11_keeps, 2, none)
abbrev mX11_sales : ab_M := (yX11_sales, cX11_sales, 1, (some .int))
abbrev mX11_fault : ab_M := (yX11_fault, cX11_fault, 1, (some .int))
abbrev mX11_sale : ab_M := (yX11_sale, cX11_sale, 8, (some .int))
abbrev mX11_isDealer : ab_M := (yX11_isDealer, cX11_isDealer, 2, (some .boolean))
abbrev mX11_dealers : ab_M := (yX11_dealers, cX11_dealers, 1, (some .int))
abbrev mX11_stock : ab_M := (yX11_stock, cX11_stock, 4, (some .int))
abbrev mX11_mark : ab_M := (yX11_mark, cX11_mark, 3, (some .int))
abbrev mX11_night : ab_M := (yX11_night, cX11_night, 1, (some .int))
abbrev mX11_goes : ab_M := (yX11_goes, cX11_goes, 5, none)
abbrev mX11_orders : ab_M := (yX11_orders, cX11_orders, 3, none)
abbrev mX11_ruled : ab_M := (yX11_ruled, cX11_ruled, 8, (some .long))
abbrev mX11_partOf : ab_M := (yX11_partOf, cX11_partOf, 3, (some .long))
abbrev mX11_of0 : ab_M := (yX11_of0, cX11_of0, 3, (some .int))
abbrev mX11_finds : ab_M := (yX11_finds, cX11_finds, 2, (some .boolean))
abbrev mX11_canRing : ab_M := (yX11_canRing, cX11_canRing, 2, (some .boolean))
abbrev mX11_isRung : ab_M := (yX11_isRung, cX11_isRung, 2, (some .boolean))
abbrev mX11_isAsked : ab_M := (yX11_isAsked, cX11_isAsked, 2, (some .boolean))
abbrev mX11_hasSeller : ab_M := (yX11_hasSeller, cX11_hasSeller, 3, (some .boolean))
abbrev mX11_ringUnits : ab_M := (yX11_ringUnits, cX11_ringUnits, 3, (some .int))
abbrev mX11_settles : ab_M := (yX11_settles, cX11_settles, 4, none)
abbrev mX11_adds : ab_M := (yX11_adds, cX11_adds, 5, none)
abbrev mX11_pays : ab_M := (yX11_pays, cX11_pays, 5, none)
abbrev mX11_delivers : ab_M := (yX11_delivers, cX11_delivers, 8, (some .boolean))
abbrev mX11_sellsAsked : ab_M := (yX11_sellsAsked, cX11_sellsAsked, 3, (some .boolean))
abbrev mX11_buysIn : ab_M := (yX11_buysIn, cX11_buysIn, 4, none)
abbrev mX11_laysParts : ab_M := (yX11_laysParts, cX11_laysParts, 6, none)
abbrev mX11_closes : ab_M := (yX11_closes, cX11_closes, 9, none)
abbrev mJ9_max_f86c9 : ab_M := (yJ9_max_f86c9, cJ9_max_f86c9, 4, (some .long))
abbrev mX11_partAt : ab_M := (yX11_partAt, cX11_partAt, 5, (some .int))
abbrev mX11_buyin : ab_M := (yX11_buyin, cX11_buyin, 3, (some .int))
abbrev mX11_isSale : ab_M := (yX11_isSale, cX11_isSale, 2, (some .boolean))
abbrev mX11_told : ab_M := (yX11_told, cX11_told, 2, (some .int))
abbrev mX11_fails : ab_M := (yX11_fails, cX11_fails, 3, (some .int))
abbrev mX11_unitsOf : ab_M := (yX11_unitsOf, cX11_unitsOf, 5, (some .int))
abbrev mX11_dealer : ab_M := (yX11_dealer, cX11_dealer, 3, (some .long))
abbrev mX11_faults : ab_M := (yX11_faults, cX11_faults, 4, (some .int))
abbrev mX11_of : ab_M := (yX11_of, cX11_of, 4, (some .int))
abbrev mX11_rule : ab_M := (yX11_rule, cX11_rule, 2, (some .long))
abbrev mX11_part : ab_M := (yX11_part, cX11_part, 5, (some .int))
abbrev mX11_partMany : ab_M := (yX11_partMany, cX11_partMany, 3, (some .int))
abbrev mX11_parts : ab_M := (yX11_parts, cX11_parts, 2, (some .int))
abbrev mX11_chain : ab_M := (yX11_chain, cX11_chain, 7, (some .int))
abbrev mX11_ring : ab_M := (yX11_ring, cX11_ring, 2, (some .int))
abbrev mX11_most : ab_M := (yX11_most, cX11_most, 5, (some .long))
abbrev mX11_laysNet : ab_M := (yX11_laysNet, cX11_laysNet, 3, none)
abbrev mX11_edge : ab_M := (yX11_edge, cX11_edge, 7, none)
abbrev mX11_gaining : ab_M := (yX11_gaining, cX11_gaining, 4, (some .int))
abbrev mX11_relaxes : ab_M := (yX11_relaxes, cX11_relaxes, 10, (some .boolean))
abbrev mX11_behindOf : ab_M := (yX11_behindOf, cX11_behindOf, 3, (some .int))
abbrev mX11_goesRound : ab_M := (yX11_goesRound, cX11_goesRound, 6, none)
abbrev mX11_foretold : ab_M := (yX11_foretold, cX11_foretold, 3, (some .int))
abbrev mX11_putsAside : ab_M := (yX11_putsAside, cX11_putsAside, 2, none)
abbrev mX11_takesBack : ab_M := (yX11_takesBack, cX11_takesBack, 2, none)
abbrev mX11_without : ab_M := (yX11_without, cX11_without, 2, (some .long))
abbrev mX11_between : ab_M := (yX11_between, cX11_between, 3, (some .int))
abbrev mX11_mean : ab_M := (yX11_mean, cX11_mean, 6, (some .long))
abbrev mJxe99ae_doubleToLongBits_ccdee : ab_M := (yJxe99ae_doubleToLongBits_ccdee, cJxe99ae_doubleToLongBits_ccdee, 2, (some .long))
abbrev mJxe99ae_isNaN_b9ae7 : ab_M := (yJxe99ae_isNaN_b9ae7, cJxe99ae_isNaN_b9ae7, 2, (some .boolean))
abbrev mX11_outside : ab_M := (yX11_outside, cX11_outside, 1, (some .long))
abbrev mX11_print : ab_M := (yX11_print, cX11_print, 4, (some .long))
abbrev mX11_status : ab_M := (yX11_status, cX11_status, 2, (some .int))
theorem fX0_7 : ab_fl RX0 7 0 0 false := ⟨_, rfl, by decide, rfl, List.mem_of_getElem? (i := 171) (by decide +kernel)⟩
theorem fX3_74 : ab_fl RX3 74 0 0 false := ⟨_, rfl, by decide, rfl, List.mem_of_getElem? (i := 172) (by decide +kernel)⟩
theorem fX10_125 : ab_fl RX10 125 0 0 false := ⟨_, rfl, by decide, rfl, List.mem_of_getElem? (i := 173) (by decide +kernel)⟩
theorem fX2_114 : ab_fl RX2 114 0 0 false := ⟨_, rfl, by decide, rfl, List.mem_of_getElem? (i := 174) (by decide +kernel)⟩
theorem fX0_13 : ab_fl RX0 13 0 1 false := ⟨_, rfl, by decide, rfl, List.mem_of_getElem? (i := 175) (by decide +kernel)⟩
theorem fX10_192 : ab_fl RX10 192 0 1 false := ⟨_, rfl, by decide, rfl, List.mem_of_getElem? (i := 176) (by decide +kernel)⟩
theorem fX2_107 : ab_fl RX2 107 0 1 false := ⟨_, rfl, by decide, rfl, List.mem_of_getElem? (i := 177) (by decide +kernel)⟩
theorem fX0_17 : ab_fl RX0 17 0 2 false := ⟨_, rfl, by decide, rfl, List.mem_of_getElem? (i := 178) (by decide +kernel)⟩
theorem fX10_196 : ab_fl RX10 196 0 2 false := ⟨_, rfl, by decide, rfl, List.mem_of_getElem? (i := 179) (by decide +kernel)⟩
theorem fX2_123 : ab_fl RX2 123 0 2 false := ⟨_, rfl, by decide, rfl, List.mem_of_getElem? (i := 180) (by decide +kernel)⟩
theorem fX0_20 : ab_fl RX0 20 0 3 false := ⟨_, rfl, by decide, rfl, List.mem_of_getElem? (i := 181) (by decide +kernel)⟩
theorem fX10_199 : ab_fl RX10 199 0 3 false := ⟨_, rfl, by decide, rfl, List.mem_of_getElem? (i := 182) (by decide +kernel)⟩
theorem fX2_126 : ab_fl RX2 126 0 3 false := ⟨_, rfl, by decide, rfl, List.mem_of_getElem? (i := 183) (by decide +kernel)⟩
theorem fX0_23 : ab_fl RX0 23 0 4 false := ⟨_, rfl, by decide, rfl, List.mem_of_getElem? (i := 184) (by decide +kernel)⟩
theorem fX10_206 : ab_fl RX10 206 0 4 false := ⟨_, rfl, by decide, rfl, List.mem_of_getElem? (i := 185) (by decide +kernel)⟩
theorem fX2_137 : ab_fl RX2 137 0 4 false := ⟨_, rfl, by decide, rfl, List.mem_of_getElem? (i := 186) (by decide +kernel)⟩
theorem fX0_26 : ab_fl RX0 26 0 5 false := ⟨_, rfl, by decide, rfl, List.mem_of_getElem? (i := 187) (by decide +kernel)⟩
theorem fX10_209 : ab_fl RX10 209 0 5 false := ⟨_, rfl, by decide, rfl, List.mem_of_getElem? (i := 188) (by decide +kernel)⟩
theorem fX2_129 : ab_fl RX2 129 0 5 false := ⟨_, rfl, by decide, rfl, List.mem_of_getElem? (i := 189) (by decide +kernel)⟩
theorem fX9_7 : ab_fl RX9 7 9 0 false := ⟨_, rfl, by decide, rfl, List.mem_of_getElem? (i := 209) (by decide +kernel)⟩
theorem fX6_73 : ab_fl RX6 73 9 0 false := ⟨_, rfl, by decide, rfl, List.mem_of_getElem? (i := 210) (by decide +kernel)⟩
theorem fX8_79 : ab_fl RX8 79 9 0 false := ⟨_, rfl, by decide, rfl, List.mem_of_getElem? (i := 211) (by decide +kernel)⟩
theorem fX3_86 : ab_fl RX3 86 9 0 false := ⟨_, rfl, by decide, rfl, List.mem_of_getElem? (i := 212) (by decide +kernel)⟩
theorem fX2_72 : ab_fl RX2 72 9 0 false := ⟨_, rfl, by decide, rfl, List.mem_of_getElem? (i := 213) (by decide +kernel)⟩
theorem fX5_71 : ab_fl RX5 71 9 0 false := ⟨_, rfl, by decide, rfl, List.mem_of_getElem? (i := 214) (by decide +kernel)⟩
theorem fX10_212 : ab_fl RX10 212 9 0 false := ⟨_, rfl, by decide, rfl, List.mem_of_getElem? (i := 215) (by decide +kernel)⟩
theorem fX9_13 : ab_fl RX9 13 9 1 false := ⟨_, rfl, by decide, rfl, List.mem_of_getElem? (i := 216) (by decide +kernel)⟩
theorem fX6_76 : ab_fl RX6 76 9 1 false := ⟨_, rfl, by decide, rfl, List.mem_of_getElem? (i := 217) (by decide +kernel)⟩
theorem fX8_82 : ab_fl RX8 82 9 1 false := ⟨_, rfl, by decide, rfl, List.mem_of_getElem? (i := 218) (by decide +kernel)⟩
theorem fX3_89 : ab_fl RX3 89 9 1 false := ⟨_, rfl, by decide, rfl, List.mem_of_getElem? (i := 219) (by decide +kernel)⟩
theorem fX2_75 : ab_fl RX2 75 9 1 false := ⟨_, rfl, by decide, rfl, List.mem_of_getElem? (i := 220) (by decide +kernel)⟩
theorem fX4_129 : ab_fl RX4 129 9 1 false := ⟨_, rfl, by decide, rfl, List.mem_of_getElem? (i := 221) (by decide +kernel)⟩
theorem fX5_74 : ab_fl RX5 74 9 1 false := ⟨_, rfl, by decide, rfl, List.mem_of_getElem? (i := 222) (by decide +kernel)⟩
theorem fX10_215 : ab_fl RX10 215 9 1 false := ⟨_, rfl, by decide, rfl, List.mem_of_getElem? (i := 223) (by decide +kernel)⟩
theorem fX9_16 : ab_fl RX9 16 9 2 false := ⟨_, rfl, by decide, rfl, List.mem_of_getElem? (i := 224) (by decide +kernel)⟩
theorem fX2_78 : ab_fl RX2 78 9 2 false := ⟨_, rfl, by decide, rfl, List.mem_of_getElem? (i := 225) (by decide +kernel)⟩
theorem fX5_65 : ab_fl RX5 65 9 2 false := ⟨_, rfl, by decide, rfl, List.mem_of_getElem? (i := 226) (by decide +kernel)⟩
theorem fX10_218 : ab_fl RX10 218 9 2 false := ⟨_, rfl, by decide, rfl, List.mem_of_getElem? (i := 227) (by decide +kernel)⟩
theorem fX9_19 : ab_fl RX9 19 9 3 false := ⟨_, rfl, by decide, rfl, List.mem_of_getElem? (i := 228) (by decide +kernel)⟩
theorem fX3_62 : ab_fl RX3 62 9 3 false := ⟨_, rfl, by decide, rfl, List.mem_of_getElem? (i := 229) (by decide +kernel)⟩
theorem fX2_81 : ab_fl RX2 81 9 3 false := ⟨_, rfl, by decide, rfl, List.mem_of_getElem? (i := 230) (by decide +kernel)⟩
theorem fX5_68 : ab_fl RX5 68 9 3 false := ⟨_, rfl, by decide, rfl, List.mem_of_getElem? (i := 231) (by decide +kernel)⟩
theorem fX10_221 : ab_fl RX10 221 9 3 false := ⟨_, rfl, by decide, rfl, List.mem_of_getElem? (i := 232) (by decide +kernel)⟩
theorem fX9_22 : ab_fl RX9 22 9 4 false := ⟨_, rfl, by decide, rfl, List.mem_of_getElem? (i := 233) (by decide +kernel)⟩
theorem fX8_56 : ab_fl RX8 56 9 4 false := ⟨_, rfl, by decide, rfl, List.mem_of_getElem? (i := 234) (by decide +kernel)⟩
theorem fX2_84 : ab_fl RX2 84 9 4 false := ⟨_, rfl, by decide, rfl, List.mem_of_getElem? (i := 235) (by decide +kernel)⟩
theorem fX4_121 : ab_fl RX4 121 9 4 false := ⟨_, rfl, by decide, rfl, List.mem_of_getElem? (i := 236) (by decide +kernel)⟩
theorem fX5_57 : ab_fl RX5 57 9 4 false := ⟨_, rfl, by decide, rfl, List.mem_of_getElem? (i := 237) (by decide +kernel)⟩
theorem fX10_224 : ab_fl RX10 224 9 4 false := ⟨_, rfl, by decide, rfl, List.mem_of_getElem? (i := 238) (by decide +kernel)⟩
theorem fX9_25 : ab_fl RX9 25 9 5 false := ⟨_, rfl, by decide, rfl, List.mem_of_getElem? (i := 239) (by decide +kernel)⟩
theorem fX6_56 : ab_fl RX6 56 9 5 false := ⟨_, rfl, by decide, rfl, List.mem_of_getElem? (i := 240) (by decide +kernel)⟩
theorem fX8_64 : ab_fl RX8 64 9 5 false := ⟨_, rfl, by decide, rfl, List.mem_of_getElem? (i := 241) (by decide +kernel)⟩
theorem fX3_83 : ab_fl RX3 83 9 5 false := ⟨_, rfl, by decide, rfl, List.mem_of_getElem? (i := 242) (by decide +kernel)⟩
theorem fX2_87 : ab_fl RX2 87 9 5 false := ⟨_, rfl, by decide, rfl, List.mem_of_getElem? (i := 243) (by decide +kernel)⟩
theorem fX5_62 : ab_fl RX5 62 9 5 false := ⟨_, rfl, by decide, rfl, List.mem_of_getElem? (i := 244) (by decide +kernel)⟩
theorem fX4_135 : ab_fl RX4 135 9 5 false := ⟨_, rfl, by decide, rfl, List.mem_of_getElem? (i := 245) (by decide +kernel)⟩
theorem fX10_153 : ab_fl RX10 153 9 5 false := ⟨_, rfl, by decide, rfl, List.mem_of_getElem? (i := 246) (by decide +kernel)⟩
theorem fX9_28 : ab_fl RX9 28 9 6 false := ⟨_, rfl, by decide, rfl, List.mem_of_getElem? (i := 247) (by decide +kernel)⟩
theorem fX2_90 : ab_fl RX2 90 9 6 false := ⟨_, rfl, by decide, rfl, List.mem_of_getElem? (i := 248) (by decide +kernel)⟩
theorem fX10_227 : ab_fl RX10 227 9 6 false := ⟨_, rfl, by decide, rfl, List.mem_of_getElem? (i := 249) (by decide +kernel)⟩
theorem fX9_31 : ab_fl RX9 31 9 7 false := ⟨_, rfl, by decide, rfl, List.mem_of_getElem? (i := 250) (by decide +kernel)⟩
theorem fX2_93 : ab_fl RX2 93 9 7 false := ⟨_, rfl, by decide, rfl, List.mem_of_getElem? (i := 251) (by decide +kernel)⟩
theorem fX10_230 : ab_fl RX10 230 9 7 false := ⟨_, rfl, by decide, rfl, List.mem_of_getElem? (i := 252) (by decide +kernel)⟩
theorem fX9_34 : ab_fl RX9 34 9 8 false := ⟨_, rfl, by decide, rfl, List.mem_of_getElem? (i := 253) (by decide +kernel)⟩
theorem fX2_96 : ab_fl RX2 96 9 8 false := ⟨_, rfl, by decide, rfl, List.mem_of_getElem? (i := 254) (by decide +kernel)⟩
theorem fX10_233 : ab_fl RX10 233 9 8 false := ⟨_, rfl, by decide, rfl, List.mem_of_getElem? (i := 255) (by decide +kernel)⟩
theorem fX2_11 : ab_fl RX2 11 2 0 true := ⟨_, rfl, by decide, rfl, List.mem_of_getElem? (i := 279) (by decide +kernel)⟩
theorem fX3_70 : ab_fl RX3 70 2 0 true := ⟨_, rfl, by decide, rfl, List.mem_of_getElem? (i := 280) (by decide +kernel)⟩
theorem fX10_121 : ab_fl RX10 121 2 0 true := ⟨_, rfl, by decide, rfl, List.mem_of_getElem? (i := 281) (by decide +kernel)⟩
theorem fX2_19 : ab_fl RX2 19 2 1 true := ⟨_, rfl, by decide, rfl, List.mem_of_getElem? (i := 282) (by decide +kernel)⟩
theorem fX5_31 : ab_fl RX5 31 2 1 true := ⟨_, rfl, by decide, rfl, List.mem_of_getElem? (i := 283) (by decide +kernel)⟩
theorem fX6_52 : ab_fl RX6 52 2 1 true := ⟨_, rfl, by decide, rfl, List.mem_of_getElem? (i := 284) (by decide +kernel)⟩
theorem fX3_54 : ab_fl RX3 54 2 1 true := ⟨_, rfl, by decide, rfl, List.mem_of_getElem? (i := 285) (by decide +kernel)⟩
theorem fX8_52 : ab_fl RX8 52 2 1 true := ⟨_, rfl, by decide, rfl, List.mem_of_getElem? (i := 286) (by decide +kernel)⟩
theorem fX4_117 : ab_fl RX4 117 2 1 true := ⟨_, rfl, by decide, rfl, List.mem_of_getElem? (i := 287) (by decide +kernel)⟩
theorem fX10_149 : ab_fl RX10 149 2 1 true := ⟨_, rfl, by decide, rfl, List.mem_of_getElem? (i := 288) (by decide +kernel)⟩
theorem fX2_35 : ab_fl RX2 35 2 2 false := ⟨_, rfl, by decide, rfl, List.mem_of_getElem? (i := 289) (by decide +kernel)⟩
theorem fX3_67 : ab_fl RX3 67 2 2 false := ⟨_, rfl, by decide, rfl, List.mem_of_getElem? (i := 290) (by decide +kernel)⟩
theorem fX10_169 : ab_fl RX10 169 2 2 false := ⟨_, rfl, by decide, rfl, List.mem_of_getElem? (i := 291) (by decide +kernel)⟩
theorem fX7_182 : ab_fl RX7 182 2 2 false := ⟨_, rfl, by decide, rfl, List.mem_of_getElem? (i := 292) (by decide +kernel)⟩
theorem fX5_22 : ab_fl RX5 22 2 3 false := ⟨_, rfl, by decide, rfl, List.mem_of_getElem? (i := 293) (by decide +kernel)⟩
theorem fX2_39 : ab_fl RX2 39 2 3 false := ⟨_, rfl, by decide, rfl, List.mem_of_getElem? (i := 294) (by decide +kernel)⟩
theorem fX6_43 : ab_fl RX6 43 2 3 false := ⟨_, rfl, by decide, rfl, List.mem_of_getElem? (i := 295) (by decide +kernel)⟩
theorem fX3_48 : ab_fl RX3 48 2 3 false := ⟨_, rfl, by decide, rfl, List.mem_of_getElem? (i := 296) (by decide +kernel)⟩
theorem fX10_104 : ab_fl RX10 104 2 3 false := ⟨_, rfl, by decide, rfl, List.mem_of_getElem? (i := 297) (by decide +kernel)⟩
theorem fX8_76 : ab_fl RX8 76 2 3 false := ⟨_, rfl, by decide, rfl, List.mem_of_getElem? (i := 298) (by decide +kernel)⟩
theorem fX4_106 : ab_fl RX4 106 2 3 false := ⟨_, rfl, by decide, rfl, List.mem_of_getElem? (i := 299) (by decide +kernel)⟩
theorem fX7_194 : ab_fl RX7 194 2 3 false := ⟨_, rfl, by decide, rfl, List.mem_of_getElem? (i := 300) (by decide +kernel)⟩
theorem fX2_42 : ab_fl RX2 42 2 4 false := ⟨_, rfl, by decide, rfl, List.mem_of_getElem? (i := 301) (by decide +kernel)⟩
theorem fX4_49 : ab_fl RX4 49 2 4 false := ⟨_, rfl, by decide, rfl, List.mem_of_getElem? (i := 302) (by decide +kernel)⟩
theorem fX8_61 : ab_fl RX8 61 2 4 false := ⟨_, rfl, by decide, rfl, List.mem_of_getElem? (i := 303) (by decide +kernel)⟩
theorem fX5_54 : ab_fl RX5 54 2 4 false := ⟨_, rfl, by decide, rfl, List.mem_of_getElem? (i := 304) (by decide +kernel)⟩
theorem fX10_133 : ab_fl RX10 133 2 4 false := ⟨_, rfl, by decide, rfl, List.mem_of_getElem? (i := 305) (by decide +kernel)⟩
theorem fX2_45 : ab_fl RX2 45 2 5 false := ⟨_, rfl, by decide, rfl, List.mem_of_getElem? (i := 306) (by decide +kernel)⟩
theorem fX10_130 : ab_fl RX10 130 2 5 false := ⟨_, rfl, by decide, rfl, List.mem_of_getElem? (i := 307) (by decide +kernel)⟩
theorem fX7_168 : ab_fl RX7 168 2 5 false := ⟨_, rfl, by decide, rfl, List.mem_of_getElem? (i := 308) (by decide +kernel)⟩
theorem fX2_48 : ab_fl RX2 48 2 6 false := ⟨_, rfl, by decide, rfl, List.mem_of_getElem? (i := 309) (by decide +kernel)⟩
theorem fX10_172 : ab_fl RX10 172 2 6 false := ⟨_, rfl, by decide, rfl, List.mem_of_getElem? (i := 310) (by decide +kernel)⟩
theorem fX7_161 : ab_fl RX7 161 2 6 false := ⟨_, rfl, by decide, rfl, List.mem_of_getElem? (i := 311) (by decide +kernel)⟩
theorem fX2_51 : ab_fl RX2 51 2 7 false := ⟨_, rfl, by decide, rfl, List.mem_of_getElem? (i := 312) (by decide +kernel)⟩
theorem fX8_67 : ab_fl RX8 67 2 7 false := ⟨_, rfl, by decide, rfl, List.mem_of_getElem? (i := 313) (by decide +kernel)⟩
theorem fX10_175 : ab_fl RX10 175 2 7 false := ⟨_, rfl, by decide, rfl, List.mem_of_getElem? (i := 314) (by decide +kernel)⟩
theorem fX7_163 : ab_fl RX7 163 2 7 false := ⟨_, rfl, by decide, rfl, List.mem_of_getElem? (i := 315) (by decide +kernel)⟩
theorem fX2_54 : ab_fl RX2 54 2 8 false := ⟨_, rfl, by decide, rfl, List.mem_of_getElem? (i := 316) (by decide +kernel)⟩
theorem fX4_126 : ab_fl RX4 126 2 8 false := ⟨_, rfl, by decide, rfl, List.mem_of_getElem? (i := 317) (by decide +kernel)⟩
theorem fX10_178 : ab_fl RX10 178 2 8 false := ⟨_, rfl, by decide, rfl, List.mem_of_getElem? (i := 318) (by decide +kernel)⟩
theorem fX7_165 : ab_fl RX7 165 2 8 false := ⟨_, rfl, by decide, rfl, List.mem_of_getElem? (i := 319) (by decide +kernel)⟩
theorem fX2_57 : ab_fl RX2 57 2 9 false := ⟨_, rfl, by decide, rfl, List.mem_of_getElem? (i := 320) (by decide +kernel)⟩
theorem fX10_295 : ab_fl RX10 295 2 9 false := ⟨_, rfl, by decide, rfl, List.mem_of_getElem? (i := 321) (by decide +kernel)⟩
theorem fX2_27 : ab_fl RX2 27 2 10 false := ⟨_, rfl, by decide, rfl, List.mem_of_getElem? (i := 322) (by decide +kernel)⟩
theorem fX5_43 : ab_fl RX5 43 2 10 false := ⟨_, rfl, by decide, rfl, List.mem_of_getElem? (i := 323) (by decide +kernel)⟩
theorem fX7_207 : ab_fl RX7 207 2 10 false := ⟨_, rfl, by decide, rfl, List.mem_of_getElem? (i := 324) (by decide +kernel)⟩
theorem fX7_9 : ab_fl RX7 9 7 0 true := ⟨_, rfl, by decide, rfl, List.mem_of_getElem? (i := 348) (by decide +kernel)⟩
theorem fX7_18 : ab_fl RX7 18 7 1 true := ⟨_, rfl, by decide, rfl, List.mem_of_getElem? (i := 349) (by decide +kernel)⟩
theorem fX10_98 : ab_fl RX10 98 7 1 true := ⟨_, rfl, by decide, rfl, List.mem_of_getElem? (i := 350) (by decide +kernel)⟩
theorem fX10_76 : ab_fl RX10 76 7 2 false := ⟨_, rfl, by decide, rfl, List.mem_of_getElem? (i := 351) (by decide +kernel)⟩
theorem fX7_35 : ab_fl RX7 35 7 2 false := ⟨_, rfl, by decide, rfl, List.mem_of_getElem? (i := 352) (by decide +kernel)⟩
theorem fX7_49 : ab_fl RX7 49 7 3 false := ⟨_, rfl, by decide, rfl, List.mem_of_getElem? (i := 353) (by decide +kernel)⟩
theorem fX10_91 : ab_fl RX10 91 7 3 false := ⟨_, rfl, by decide, rfl, List.mem_of_getElem? (i := 354) (by decide +kernel)⟩
theorem fX7_52 : ab_fl RX7 52 7 4 false := ⟨_, rfl, by decide, rfl, List.mem_of_getElem? (i := 355) (by decide +kernel)⟩
theorem fX10_90 : ab_fl RX10 90 7 4 false := ⟨_, rfl, by decide, rfl, List.mem_of_getElem? (i := 356) (by decide +kernel)⟩
theorem fX7_22 : ab_fl RX7 22 7 5 true := ⟨_, rfl, by decide, rfl, List.mem_of_getElem? (i := 357) (by decide +kernel)⟩
theorem fX7_26 : ab_fl RX7 26 7 6 true := ⟨_, rfl, by decide, rfl, List.mem_of_getElem? (i := 358) (by decide +kernel)⟩
theorem fX7_29 : ab_fl RX7 29 7 7 true := ⟨_, rfl, by decide, rfl, List.mem_of_getElem? (i := 359) (by decide +kernel)⟩
theorem fX7_32 : ab_fl RX7 32 7 8 true := ⟨_, rfl, by decide, rfl, List.mem_of_getElem? (i := 360) (by decide +kernel)⟩
theorem fX7_61 : ab_fl RX7 61 7 9 false := ⟨_, rfl, by decide, rfl, List.mem_of_getElem? (i := 361) (by decide +kernel)⟩
theorem fX7_74 : ab_fl RX7 74 7 10 false := ⟨_, rfl, by decide, rfl, List.mem_of_getElem? (i := 362) (by decide +kernel)⟩
theorem fX7_55 : ab_fl RX7 55 7 11 false := ⟨_, rfl, by decide, rfl, List.mem_of_getElem? (i := 363) (by decide +kernel)⟩
theorem fX7_58 : ab_fl RX7 58 7 12 false := ⟨_, rfl, by decide, rfl, List.mem_of_getElem? (i := 364) (by decide +kernel)⟩
theorem fX1_11 : ab_fl RX1 11 1 0 true := ⟨_, rfl, by decide, rfl, List.mem_of_getElem? (i := 402) (by decide +kernel)⟩
theorem fX1_18 : ab_fl RX1 18 1 1 false := ⟨_, rfl, by decide, rfl, List.mem_of_getElem? (i := 403) (by decide +kernel)⟩
theorem fX1_26 : ab_fl RX1 26 1 2 false := ⟨_, rfl, by decide, rfl, List.mem_of_getElem? (i := 404) (by decide +kernel)⟩
theorem fX10_189 : ab_fl RX10 189 1 2 false := ⟨_, rfl, by decide, rfl, List.mem_of_getElem? (i := 405) (by decide +kernel)⟩
theorem fX5_9 : ab_fl RX5 9 5 0 true := ⟨_, rfl, by decide, rfl, List.mem_of_getElem? (i := 421) (by decide +kernel)⟩
theorem fX8_28 : ab_fl RX8 28 5 0 true := ⟨_, rfl, by decide, rfl, List.mem_of_getElem? (i := 422) (by decide +kernel)⟩
theorem fX6_66 : ab_fl RX6 66 5 0 true := ⟨_, rfl, by decide, rfl, List.mem_of_getElem? (i := 423) (by decide +kernel)⟩
theorem fX4_74 : ab_fl RX4 74 5 0 true := ⟨_, rfl, by decide, rfl, List.mem_of_getElem? (i := 424) (by decide +kernel)⟩
theorem fX5_15 : ab_fl RX5 15 5 1 true := ⟨_, rfl, by decide, rfl, List.mem_of_getElem? (i := 425) (by decide +kernel)⟩
theorem fX5_19 : ab_fl RX5 19 5 2 true := ⟨_, rfl, by decide, rfl, List.mem_of_getElem? (i := 426) (by decide +kernel)⟩
theorem fX5_28 : ab_fl RX5 28 5 3 false := ⟨_, rfl, by decide, rfl, List.mem_of_getElem? (i := 427) (by decide +kernel)⟩
theorem fX8_22 : ab_fl RX8 22 5 3 false := ⟨_, rfl, by decide, rfl, List.mem_of_getElem? (i := 428) (by decide +kernel)⟩
theorem fX6_61 : ab_fl RX6 61 5 3 false := ⟨_, rfl, by decide, rfl, List.mem_of_getElem? (i := 429) (by decide +kernel)⟩
theorem fX4_73 : ab_fl RX4 73 5 3 false := ⟨_, rfl, by decide, rfl, List.mem_of_getElem? (i := 430) (by decide +kernel)⟩
theorem fX6_9 : ab_fl RX6 9 6 0 true := ⟨_, rfl, by decide, rfl, List.mem_of_getElem? (i := 447) (by decide +kernel)⟩
theorem fX10_252 : ab_fl RX10 252 6 0 true := ⟨_, rfl, by decide, rfl, List.mem_of_getElem? (i := 448) (by decide +kernel)⟩
theorem fX6_15 : ab_fl RX6 15 6 1 true := ⟨_, rfl, by decide, rfl, List.mem_of_getElem? (i := 449) (by decide +kernel)⟩
theorem fX10_246 : ab_fl RX10 246 6 1 true := ⟨_, rfl, by decide, rfl, List.mem_of_getElem? (i := 450) (by decide +kernel)⟩
theorem fX6_18 : ab_fl RX6 18 6 2 true := ⟨_, rfl, by decide, rfl, List.mem_of_getElem? (i := 451) (by decide +kernel)⟩
theorem fX10_255 : ab_fl RX10 255 6 2 true := ⟨_, rfl, by decide, rfl, List.mem_of_getElem? (i := 452) (by decide +kernel)⟩
theorem fX6_21 : ab_fl RX6 21 6 3 true := ⟨_, rfl, by decide, rfl, List.mem_of_getElem? (i := 453) (by decide +kernel)⟩
theorem fX10_258 : ab_fl RX10 258 6 3 true := ⟨_, rfl, by decide, rfl, List.mem_of_getElem? (i := 454) (by decide +kernel)⟩
theorem fX6_24 : ab_fl RX6 24 6 4 true := ⟨_, rfl, by decide, rfl, List.mem_of_getElem? (i := 455) (by decide +kernel)⟩
theorem fX10_304 : ab_fl RX10 304 6 4 true := ⟨_, rfl, by decide, rfl, List.mem_of_getElem? (i := 456) (by decide +kernel)⟩
theorem fX6_27 : ab_fl RX6 27 6 5 true := ⟨_, rfl, by decide, rfl, List.mem_of_getElem? (i := 457) (by decide +kernel)⟩
theorem fX6_30 : ab_fl RX6 30 6 6 true := ⟨_, rfl, by decide, rfl, List.mem_of_getElem? (i := 458) (by decide +kernel)⟩
theorem fX6_33 : ab_fl RX6 33 6 7 false := ⟨_, rfl, by decide, rfl, List.mem_of_getElem? (i := 459) (by decide +kernel)⟩
theorem fX8_9 : ab_fl RX8 9 8 0 true := ⟨_, rfl, by decide, rfl, List.mem_of_getElem? (i := 483) (by decide +kernel)⟩
theorem fX4_62 : ab_fl RX4 62 8 0 true := ⟨_, rfl, by decide, rfl, List.mem_of_getElem? (i := 484) (by decide +kernel)⟩
theorem fX10_271 : ab_fl RX10 271 8 0 true := ⟨_, rfl, by decide, rfl, List.mem_of_getElem? (i := 485) (by decide +kernel)⟩
theorem fX4_59 : ab_fl RX4 59 8 1 false := ⟨_, rfl, by decide, rfl, List.mem_of_getElem? (i := 486) (by decide +kernel)⟩
theorem fX8_85 : ab_fl RX8 85 8 1 false := ⟨_, rfl, by decide, rfl, List.mem_of_getElem? (i := 487) (by decide +kernel)⟩
theorem fX10_267 : ab_fl RX10 267 8 1 false := ⟨_, rfl, by decide, rfl, List.mem_of_getElem? (i := 488) (by decide +kernel)⟩
theorem fX8_49 : ab_fl RX8 49 8 2 false := ⟨_, rfl, by decide, rfl, List.mem_of_getElem? (i := 489) (by decide +kernel)⟩
theorem fX4_66 : ab_fl RX4 66 8 2 false := ⟨_, rfl, by decide, rfl, List.mem_of_getElem? (i := 490) (by decide +kernel)⟩
theorem fX10_270 : ab_fl RX10 270 8 2 false := ⟨_, rfl, by decide, rfl, List.mem_of_getElem? (i := 491) (by decide +kernel)⟩
theorem fX8_15 : ab_fl RX8 15 8 3 true := ⟨_, rfl, by decide, rfl, List.mem_of_getElem? (i := 492) (by decide +kernel)⟩
theorem fX3_9 : ab_fl RX3 9 3 0 true := ⟨_, rfl, by decide, rfl, List.mem_of_getElem? (i := 508) (by decide +kernel)⟩
theorem fX3_15 : ab_fl RX3 15 3 1 true := ⟨_, rfl, by decide, rfl, List.mem_of_getElem? (i := 509) (by decide +kernel)⟩
theorem fX3_18 : ab_fl RX3 18 3 2 true := ⟨_, rfl, by decide, rfl, List.mem_of_getElem? (i := 510) (by decide +kernel)⟩
theorem fX3_22 : ab_fl RX3 22 3 3 true := ⟨_, rfl, by decide, rfl, List.mem_of_getElem? (i := 511) (by decide +kernel)⟩
theorem fX3_25 : ab_fl RX3 25 3 4 true := ⟨_, rfl, by decide, rfl, List.mem_of_getElem? (i := 512) (by decide +kernel)⟩
theorem fX4_12 : ab_fl RX4 12 4 0 true := ⟨_, rfl, by decide, rfl, List.mem_of_getElem? (i := 536) (by decide +kernel)⟩
theorem fX4_21 : ab_fl RX4 21 4 1 true := ⟨_, rfl, by decide, rfl, List.mem_of_getElem? (i := 537) (by decide +kernel)⟩
theorem fX4_28 : ab_fl RX4 28 4 2 true := ⟨_, rfl, by decide, rfl, List.mem_of_getElem? (i := 538) (by decide +kernel)⟩
theorem fX4_92 : ab_fl RX4 92 4 3 false := ⟨_, rfl, by decide, rfl, List.mem_of_getElem? (i := 539) (by decide +kernel)⟩
theorem fX10_139 : ab_fl RX10 139 4 3 false := ⟨_, rfl, by decide, rfl, List.mem_of_getElem? (i := 540) (by decide +kernel)⟩
theorem fX4_99 : ab_fl RX4 99 4 4 false := ⟨_, rfl, by decide, rfl, List.mem_of_getElem? (i := 541) (by decide +kernel)⟩
theorem fX10_278 : ab_fl RX10 278 4 4 false := ⟨_, rfl, by decide, rfl, List.mem_of_getElem? (i := 542) (by decide +kernel)⟩
theorem fX4_102 : ab_fl RX4 102 4 5 false := ⟨_, rfl, by decide, rfl, List.mem_of_getElem? (i := 543) (by decide +kernel)⟩
theorem fX10_284 : ab_fl RX10 284 4 5 false := ⟨_, rfl, by decide, rfl, List.mem_of_getElem? (i := 544) (by decide +kernel)⟩
theorem fX10_10 : ab_fl RX10 10 10 0 true := ⟨_, rfl, by decide, rfl, List.mem_of_getElem? (i := 558) (by decide +kernel)⟩
theorem fX10_19 : ab_fl RX10 19 10 1 true := ⟨_, rfl, by decide, rfl, List.mem_of_getElem? (i := 559) (by decide +kernel)⟩
