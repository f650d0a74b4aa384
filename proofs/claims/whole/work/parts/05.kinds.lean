/-! the kinds of cells: 0 to 11 the classes X0 to X11, from 12 on arrays: 12 History.past, 13 House.dealer, 14 House.sale, 15 House.code, 16 Most.settled, 17 Most.limit, 18 Most.spare, 19 Most.loss, 20 Most.cameBy, 21 Order.at, 22 Order.worth, 23 Order.waiting, 24 Parts.first, 25 Parts.count, 26 Parts.on, 27 Parts.units, 28 Parts.ownFault, 29 Parts.notDown, 30 Parts.free, 31 Reader.tape, 32 Reader.kind, 33 Reader.start, 34 Reader.value, 35 Reader.code, 36 Ring.member, 37 Ring.buyersOf, 38 FailDesk.refusals, 39 FailDeskModel.refused, 40 FailDeskModel.now, 41 FailDeskModel.read, 42 FailDeskModel.aside, 43 FailDeskModel.kept, 44 FailDeskModel.tape, 45 FailDeskModel.text, 46 FailDeskModel.pile, 47 FailDeskModel.order, 48 FailDeskModel.worth, 49 FailDeskModel.ring, 50 FailDeskModel.look, 51 FailDeskModel.stands, 52 FailDeskModel.went, 53 FailDeskModel.need, 54 FailDeskModel.left, 55 FailDeskModel.isAbove, 56 FailDeskModel.edgeFrom, 57 FailDeskModel.edgeTo, 58 FailDeskModel.via, 59 FailDeskModel.room, 60 FailDeskModel.flow, 61 FailDeskModel.gain, 62 FailDeskModel.far, 63 law.script, 64 law.out -/
def ab_cl : List vw_C := [(RX0, TX0, 6), (RX1, TX1, 3), (RX2, TX2, 11), (RX3, TX3, 5), (RX4, TX4, 6), (RX5, TX5, 4), (RX6, TX6, 8), (RX7, TX7, 13), (RX8, TX8, 4), (RX9, TX9, 9), (RX10, TX10, 11), (RX11, TX11, 39)]
def ab_ty (k : Nat) : Nat → FieldType := match k with
  | 0 => tyX0
  | 1 => tyX1
  | 2 => tyX2
  | 3 => tyX3
  | 4 => tyX4
  | 5 => tyX5
  | 6 => tyX6
  | 7 => tyX7
  | 8 => tyX8
  | 9 => tyX9
  | 10 => tyX10
  | _ => tyX11
def ab_etL : List FieldType := [.object "FailDesk$House", .object "FailDesk$Dealer", .object "FailDesk$Sale", .int, .int, .int, .long, .long, .int, .int, .long, .long, .int, .int, .int, .int, .int, .int, .int, .byte, .int, .int, .int, .int, .int, .int, .int, .int, .long, .long, .long, .long, .byte, .byte, .long, .int, .long, .int, .int, .int, .int, .int, .int, .boolean, .int, .int, .int, .long, .long, .long, .long, .int, .long]
def ab_et (k : Nat) : FieldType := ab_etL.getD (k - 12) .int
def ab_rtL : List (List Nat) := [[0, 0, 0, 0, 0, 0], [12, 0, 0], [13, 14, 0, 0, 0, 0, 0, 0, 0, 0, 15], [16, 17, 18, 19, 20], [5, 8, 6, 0, 0, 0], [21, 22, 23, 0], [24, 25, 26, 27, 28, 29, 30, 0], [31, 2, 0, 0, 0, 32, 33, 34, 35, 0, 0, 0, 0], [36, 0, 0, 37], [0, 0, 0, 0, 0, 0, 0, 0, 0], [7, 1, 2, 2, 5, 6, 8, 3, 4, 38, 0], [0, 39, 40, 41, 42, 43, 0, 44, 45, 0, 0, 0, 0, 0, 0, 0, 0, 46, 47, 48, 49, 50, 0, 51, 52, 53, 54, 55, 0, 0, 0, 56, 57, 58, 59, 60, 61, 62, 0]]
/-- what kind a field, or the places of an array, refer to -/
def ab_rt (k j : Nat) : Nat := if k < 12 then (ab_rtL.getD k []).getD j 0 else if k = 12 then 2 else if k = 13 then 0 else if k = 14 then 9 else 0
/-- kinds that are never written to once they are made, or that were there before -/
def ab_ro (k : Nat) : Bool := k == 15 || k == 63 || Nat.ble 65 k
theorem ab_in0 : GoodIn lw_tbl (u_ws RX0 TX0 6) := goodIn_r (u_ws RX0 TX0 6) [191, 193, 195, 197, 199, 201] (by decide +kernel) (by decide +kernel)
theorem ab_in1 : GoodIn lw_tbl (u_ws RX1 TX1 3) := goodIn_r (u_ws RX1 TX1 3) [407, 409, 411] (by decide +kernel) (by decide +kernel)
theorem ab_in2 : GoodIn lw_tbl (u_ws RX2 TX2 11) := goodIn_r (u_ws RX2 TX2 11) [326, 328, 330, 332, 334, 336, 338, 340, 342, 344, 346] (by decide +kernel) (by decide +kernel)
theorem ab_in3 : GoodIn lw_tbl (u_ws RX3 TX3 5) := goodIn_r (u_ws RX3 TX3 5) [514, 516, 518, 520, 522] (by decide +kernel) (by decide +kernel)
theorem ab_in4 : GoodIn lw_tbl (u_ws RX4 TX4 6) := goodIn_r (u_ws RX4 TX4 6) [546, 548, 550, 552, 554, 556] (by decide +kernel) (by decide +kernel)
theorem ab_in5 : GoodIn lw_tbl (u_ws RX5 TX5 4) := goodIn_r (u_ws RX5 TX5 4) [432, 434, 436, 438] (by decide +kernel) (by decide +kernel)
theorem ab_in6 : GoodIn lw_tbl (u_ws RX6 TX6 8) := goodIn_r (u_ws RX6 TX6 8) [461, 463, 465, 467, 469, 471, 473, 475] (by decide +kernel) (by decide +kernel)
theorem ab_in7 : GoodIn lw_tbl (u_ws RX7 TX7 13) := goodIn_r (u_ws RX7 TX7 13) [366, 368, 370, 372, 374, 376, 378, 380, 382, 384, 386, 388, 390] (by decide +kernel) (by decide +kernel)
theorem ab_in8 : GoodIn lw_tbl (u_ws RX8 TX8 4) := goodIn_r (u_ws RX8 TX8 4) [494, 496, 498, 500] (by decide +kernel) (by decide +kernel)
theorem ab_in9 : GoodIn lw_tbl (u_ws RX9 TX9 9) := goodIn_r (u_ws RX9 TX9 9) [257, 259, 261, 263, 265, 267, 269, 271, 273] (by decide +kernel) (by decide +kernel)
theorem ab_in10 : GoodIn lw_tbl (u_ws RX10 TX10 11) := goodIn_r (u_ws RX10 TX10 11) [570, 572, 574, 576, 578, 580, 582, 584, 586, 588, 590] (by decide +kernel) (by decide +kernel)
theorem ab_in11 : GoodIn lw_tbl (u_ws RX11 TX11 39) := goodIn_r (u_ws RX11 TX11 39) [1381, 1383, 1385, 1387, 1389, 1391, 1393, 1395, 1397, 1399, 1401, 1403, 1405, 1407, 1409, 1411, 1413, 1415, 1417, 1419, 1421, 1423, 1425, 1427, 1429, 1431, 1433, 1435, 1437, 1439, 1441, 1443, 1445, 1447, 1449, 1451, 1453, 1455, 1457] (by decide +kernel) (by decide +kernel)
theorem ab_cls : ∀ (k : Nat) (q : vw_C), ab_cl[k]? = some q → k < 12 ∧ GoodIn lw_tbl (u_ws q.1 q.2.1 q.2.2) ∧ (∀ j, j < q.2.2 → parseFieldDescriptor (q.2.1 j).2.2.1 = some (ab_ty k j)) ∧ (∀ a, a < q.2.2 → ∀ b, b < q.2.2 → a ≠ b → (q.2.1 a).2.1 ≠ (q.2.1 b).2.1) := by
  intro k q h
  match k, h with
  | 0, h => cases h; exact ⟨by decide, ab_in0, tyX0_ok, nmX0⟩
  | 1, h => cases h; exact ⟨by decide, ab_in1, tyX1_ok, nmX1⟩
  | 2, h => cases h; exact ⟨by decide, ab_in2, tyX2_ok, nmX2⟩
  | 3, h => cases h; exact ⟨by decide, ab_in3, tyX3_ok, nmX3⟩
  | 4, h => cases h; exact ⟨by decide, ab_in4, tyX4_ok, nmX4⟩
  | 5, h => cases h; exact ⟨by decide, ab_in5, tyX5_ok, nmX5⟩
  | 6, h => cases h; exact ⟨by decide, ab_in6, tyX6_ok, nmX6⟩
  | 7, h => cases h; exact ⟨by decide, ab_in7, tyX7_ok, nmX7⟩
  | 8, h => cases h; exact ⟨by decide, ab_in8, tyX8_ok, nmX8⟩
  | 9, h => cases h; exact ⟨by decide, ab_in9, tyX9_ok, nmX9⟩
  | 10, h => cases h; exact ⟨by decide, ab_in10, tyX10_ok, nmX10⟩
  | 11, h => cases h; exact ⟨by decide, ab_in11, tyX11_ok, nmX11⟩
  | k + 12, h => simp [ab_cl] at h
