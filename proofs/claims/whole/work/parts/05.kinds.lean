/-! the kinds of cells: 0 to 11 the classes X0 to X11, from 12 on arrays: 12 History.past, 13 House.dealer, 14 House.sale, 15 House.code, 16 Most.settled, 17 Most.limit, 18 Most.spare, 19 Most.loss, 20 Most.cameBy, 21 Order.at, 22 Order.worth, 23 Order.waiting, 24 Parts.first, 25 Parts.count, 26 Parts.on, 27 Parts.units, 28 Parts.ownFault, 29 Parts.notDown, 30 Parts.free, 31 Reader.tape, 32 Reader.kind, 33 Reader.start, 34 Reader.value, 35 Reader.code, 36 Ring.member, 37 Ring.buyersOf, 38 FailDesk.refusals, 39 FailDeskModel.refused, 40 FailDeskModel.now, 41 FailDeskModel.read, 42 FailDeskModel.aside, 43 FailDeskModel.kept, 44 FailDeskModel.tape, 45 FailDeskModel.text, 46 FailDeskModel.pile, 47 FailDeskModel.order, 48 FailDeskModel.worth, 49 FailDeskModel.ring, 50 FailDeskModel.look, 51 FailDeskModel.stands, 52 FailDeskModel.went, 53 FailDeskModel.need, 54 FailDeskModel.left, 55 FailDeskModel.isAbove, 56 FailDeskModel.edgeFrom, 57 FailDeskModel.edgeTo, 58 FailDeskModel.via, 59 FailDeskModel.room, 60 FailDeskModel.flow, 61 FailDeskModel.gain, 62 FailDeskModel.far, 63 law.script, 64 law.out -/
def ab_cl : List vw_C := [(RX0, TX0, 6), (RX1, TX1, 3), (RX2, TX2, 11), (RX3, TX3, 5), (RX4, TX4, 6), (RX5, TX5, 4), (RX6, TX6, 8), (RX7, TX7, 13), (RX8, TX8, 4), (RX9, TX9, 9), (RX10, TX10, 11), (RX11, TX11, 39)]
def ab_ty (k : Nat) : Nat → FieldType := match k with
  | 0 => tyX0
  | 1 => tyX1
  | 2 => tyX2
  | 3 => tyX3
  | 4 => tyX4
  | 5 => tyX5
  | 6 => tyX6
  | 7 => tyX7
  | 8 => tyX8
  | 9 => tyX9
  | 10 => tyX10
  | _ => tyX11
def ab_etL : List FieldType := [.object "FailDesk$House", .object "FailDesk$Dealer", .object "FailDesk$Sale", .int, .int, .int, .long, .long, .int, .int, .long, .long, .int, .int, .int, .int, .int, .int, .int, .byte, .int, .int, .int, .int, .int, .int, .int, .int, .long, .long, .long, .long, .byte, .byte, .long, .int, .long, .int, .int, .int, .int, .int, .int, .boolean, .int, .int, .int, .long, .long, .long, .long, .int, .long]
def ab_et (k : Nat) : FieldType := ab_etL.getD (k - 12) .int
def ab_rtL : List (List Nat) := [[0, 0, 0, 0, 0, 0], [12, 0, 0], [13, 14, 0, 0, 0, 0, 0, 0, 0, 0, 15], [16, 17, 18, 19, 20], [5, 8, 6, 0, 0, 0], [21, 22, 23, 0], [24, 25, 26, 27, 28, 29, 30, 0], [31, 2, 0, 0, 0, 32, 33, 34, 35, 0, 0, 0, 0], [36, 0, 0, 37], [0, 0, 0, 0, 0, 0, 0, 0, 0], [7, 1, 2, 2, 5, 6, 8, 3, 4, 38, 0], [0, 39, 40, 41, 42, 43, 0, 44, 45, 0, 0, 0, 0, 0, 0, 0, 0, 46, 47, 48, 49, 50, 0, 51, 52, 53, 54, 55, 0, 0, 0, 56, 57, 58, 59, 60, 61, 62, 0]]
/-- what kind a field, or the places of an array, refer to -/
def ab_rt (k j : Nat) : Nat := if k < 12 then (ab_rtL.getD k []).getD j 0 else if k = 12 then 2 else if k = 13 then 0 else if k = 14 then 9 else 0
/-- kinds that are never written to once they are made, or that were there before -/
def ab_ro (k : Nat) : Bool := k == 15 || k == 63 || Nat.ble 65 k
theorem ab_in0 : GoodIn lw_tbl (u_ws RX0 TX0 6) := goodIn_r (u_ws RX0 TX0 6) [190, 192, 194, 196, 198, 200] (by decide +kernel) (by decide +kernel)
theorem ab_in1 : GoodIn lw_tbl (u_ws RX1 TX1 3) := goodIn_r (u_ws RX1 TX1 3) [406, 408, 410] (by decide +kernel) (by decide +kernel)
theorem ab_in2 : GoodIn lw_tbl (u_ws RX2 TX2 11) := goodIn_r (u_ws RX2 TX2 11) [325, 327, 329, 331, 333, 335, 337, 339, 341, 343, 345] (by decide +kernel) (by decide +kernel)
theorem ab_in3 : GoodIn lw_tbl (u_ws RX3 TX3 5) := goodIn_r (u_ws RX3 TX3 5) [513, 515, 517, 519, 521] (by decide +kernel) (by decide +kernel)
theorem ab_in4 : GoodIn lw_tbl (u_ws RX4 TX4 6) := goodIn_r (u_ws RX4 TX4 6) [545, 547, 549, 551, 553, 555] (by decide +kernel) (by decide +kernel)
theorem ab_in5 : GoodIn lw_tbl (u_ws RX5 TX5 4) := goodIn_r (u_ws RX5 TX5 4) [431, 433, 435, 437] (by decide +kernel) (by decide +kernel)
theorem ab_in6 : GoodIn lw_tbl (u_ws RX6 TX6 8) := goodIn_r (u_ws RX6 TX6 8) [460, 462, 464, 466, 468, 470, 472, 474] (by decide +kernel) (by decide +kernel)
theorem ab_in7 : GoodIn lw_tbl (u_ws RX7 TX7 13) := goodIn_r (u_ws RX7 TX7 13) [365, 367, 369, 371, 373, 375, 377, 379, 381, 383, 385, 387, 389] (by decide +kernel) (by decide +kernel)
theorem ab_in8 : GoodIn lw_tbl (u_ws RX8 TX8 4) := goodIn_r (u_ws RX8 TX8 4) [493, 495, 497, 499] (by decide +kernel) (by decide +kernel)
theorem ab_in9 : GoodIn lw_tbl (u_ws RX9 TX9 9) := goodIn_r (u_ws RX9 TX9 9) [256, 258, 260, 262, 264, 266, 268, 270, 272] (by decide +kernel) (by decide +kernel)
theorem ab_in10 : GoodIn lw_tbl (u_ws RX10 TX10 11) := goodIn_r (u_ws RX10 TX10 11) [569, 571, 573, 575, 577, 579, 581, 583, 585, 587, 589] (by decide +kernel) (by decide +kernel)
theorem ab_in11 : GoodIn lw_tbl (u_ws RX11 TX11 39) := goodIn_r (u_ws RX11 TX11 39) [1376, 1378, 1380, 1382, 1384, 1386, 1388, 1390, 1392, 1394, 1396, 1398, 1400, 1402, 1404, 1406, 1408, 1410, 1412, 1414, 1416, 1418, 1420, 1422, 1424, 1426, 1428, 1430, 1432, 1434, 1436, 1438, 1440, 1442, 1444, 1446, 1448, 1450, 1452] (by decide +kernel) (by decide +kernel)
theorem ab_cls : ∀ (k : Nat) (q : vw_C), ab_cl[k]? = some q → k < 12 ∧ GoodIn lw_tbl (u_ws q.1 q.2.1 q.2.2) ∧ (∀ j, j < q.2.2 → parseFieldDescriptor (q.2.1 j).2.2.1 = some (ab_ty k j)) ∧ (∀ a, a < q.2.2 → ∀ b, b < q.2.2 → a ≠ b → (q.2.1 a).2.1 ≠ (q.2.1 b).2.1) := by
  intro k q h
  match k, h with
  | 0, h => cases h; exact ⟨by decide, ab_in0, tyX0_ok, nmX0⟩
  | 1, h => cases h; exact ⟨by decide, ab_in1, tyX1_ok, nmX1⟩
  | 2, h => cases h; exact ⟨by decide, ab_in2, tyX2_ok, nmX2⟩
  | 3, h => cases h; exact ⟨by decide, ab_in3, tyX3_ok, nmX3⟩
  | 4, h => cases h; exact ⟨by decide, ab_in4, tyX4_ok, nmX4⟩
  | 5, h => cases h; exact ⟨by decide, ab_in5, tyX5_ok, nmX5⟩
  | 6, h => cases h; exact ⟨by decide, ab_in6, tyX6_ok, nmX6⟩
  | 7, h => cases h; exact ⟨by decide, ab_in7, tyX7_ok, nmX7⟩
  | 8, h => cases h; exact ⟨by decide, ab_in8, tyX8_ok, nmX8⟩
  | 9, h => cases h; exact ⟨by decide, ab_in9, tyX9_ok, nmX9⟩
  | 10, h => cases h; exact ⟨by decide, ab_in10, tyX10_ok, nmX10⟩
  | 11, h => cases h; exact ⟨by decide, ab_in11, tyX11_ok, nmX11⟩
  | k + 12, h => simp [ab_cl] at h
