/-! CONSTRUCTORS: the last world, the words -/
def k0_I (xs : Nat → Int32) (k _ j : Nat) : Int32 := match k with
  | 2 => (match j with | 5 => 100 | 7 => 1 | 8 => 4 | _ => 0)
  | 10 => (match j with | 10 => -1 | _ => 0)
  | 11 => (match j with | 15 => -1 | _ => 0)
  | 63 => xs j
  | _ => 0
def k0_J (k _ j : Nat) : Int64 := match k with
  | 40 => (match j with | 3 => 100 | 5 => 1 | 6 => 4 | _ => 0)
  | _ => 0
/-- the world behind the constructors, with the script's ints xs, L of them -/
def k0 (xs : Nat → Int32) (L : Nat) : gd_D := (k0_I xs, k0_J, fun _ => 0, 1, fun _ => 0, L)
def T0 (xs : Nat → Int32) (L : Nat) : ab_W := gd_e (k0 xs L)
theorem kcX0 : kw_cl 0 6 RX0 := ⟨_, rfl, rfl, by decide, List.mem_of_getElem? (i := 166) (by decide +kernel), List.mem_of_getElem? (i := 116) (by decide +kernel), rfl⟩
theorem kcX1 : kw_cl 1 3 RX1 := ⟨_, rfl, rfl, by decide, List.mem_of_getElem? (i := 394) (by decide +kernel), List.mem_of_getElem? (i := 118) (by decide +kernel), rfl⟩
theorem kcX2 : kw_cl 2 11 RX2 := ⟨_, rfl, rfl, by decide, List.mem_of_getElem? (i := 155) (by decide +kernel), List.mem_of_getElem? (i := 115) (by decide +kernel), rfl⟩
theorem kcX3 : kw_cl 3 5 RX3 := ⟨_, rfl, rfl, by decide, List.mem_of_getElem? (i := 503) (by decide +kernel), List.mem_of_getElem? (i := 122) (by decide +kernel), rfl⟩
theorem kcX4 : kw_cl 4 6 RX4 := ⟨_, rfl, rfl, by decide, List.mem_of_getElem? (i := 525) (by decide +kernel), List.mem_of_getElem? (i := 123) (by decide +kernel), rfl⟩
theorem kcX5 : kw_cl 5 4 RX5 := ⟨_, rfl, rfl, by decide, List.mem_of_getElem? (i := 416) (by decide +kernel), List.mem_of_getElem? (i := 119) (by decide +kernel), rfl⟩
theorem kcX6 : kw_cl 6 8 RX6 := ⟨_, rfl, rfl, by decide, List.mem_of_getElem? (i := 442) (by decide +kernel), List.mem_of_getElem? (i := 120) (by decide +kernel), rfl⟩
theorem kcX7 : kw_cl 7 13 RX7 := ⟨_, rfl, rfl, by decide, List.mem_of_getElem? (i := 149) (by decide +kernel), List.mem_of_getElem? (i := 114) (by decide +kernel), rfl⟩
theorem kcX8 : kw_cl 8 4 RX8 := ⟨_, rfl, rfl, by decide, List.mem_of_getElem? (i := 478) (by decide +kernel), List.mem_of_getElem? (i := 121) (by decide +kernel), rfl⟩
theorem kcX9 : kw_cl 9 9 RX9 := ⟨_, rfl, rfl, by decide, List.mem_of_getElem? (i := 204) (by decide +kernel), List.mem_of_getElem? (i := 117) (by decide +kernel), rfl⟩
theorem kcX10 : kw_cl 10 11 RX10 := ⟨_, rfl, rfl, by decide, List.mem_of_getElem? (i := 141) (by decide +kernel), List.mem_of_getElem? (i := 113) (by decide +kernel), rfl⟩
theorem kcX11 : kw_cl 11 39 RX11 := ⟨_, rfl, rfl, by decide, List.mem_of_getElem? (i := 1330) (by decide +kernel), List.mem_of_getElem? (i := 124) (by decide +kernel), rfl⟩
theorem knX10_7 : Cond.classLink RX10 7 RX7 ∈ lw_tbl := List.mem_of_getElem? (i := 148) (by decide +kernel)
theorem knX10_16 : Cond.classLink RX10 16 RX1 ∈ lw_tbl := List.mem_of_getElem? (i := 393) (by decide +kernel)
theorem knX10_23 : Cond.classLink RX10 23 RX2 ∈ lw_tbl := List.mem_of_getElem? (i := 413) (by decide +kernel)
theorem knX10_33 : Cond.classLink RX10 33 RX5 ∈ lw_tbl := List.mem_of_getElem? (i := 415) (by decide +kernel)
theorem knX10_40 : Cond.classLink RX10 40 RX6 ∈ lw_tbl := List.mem_of_getElem? (i := 441) (by decide +kernel)
theorem knX10_47 : Cond.classLink RX10 47 RX8 ∈ lw_tbl := List.mem_of_getElem? (i := 477) (by decide +kernel)
theorem knX10_54 : Cond.classLink RX10 54 RX3 ∈ lw_tbl := List.mem_of_getElem? (i := 502) (by decide +kernel)
theorem knX10_61 : Cond.classLink RX10 61 RX4 ∈ lw_tbl := List.mem_of_getElem? (i := 524) (by decide +kernel)
theorem knX1_9 : Cond.classLink RX1 9 RX2 ∈ lw_tbl := List.mem_of_getElem? (i := 399) (by decide +kernel)
theorem knX2_9 : Cond.classLink RX2 9 RX0 ∈ lw_tbl := List.mem_of_getElem? (i := 160) (by decide +kernel)
theorem knX2_17 : Cond.classLink RX2 17 RX9 ∈ lw_tbl := List.mem_of_getElem? (i := 162) (by decide +kernel)
theorem knX4_9 : Cond.classLink RX4 9 RX5 ∈ lw_tbl := List.mem_of_getElem? (i := 530) (by decide +kernel)
theorem knX4_18 : Cond.classLink RX4 18 RX8 ∈ lw_tbl := List.mem_of_getElem? (i := 532) (by decide +kernel)
theorem knX4_25 : Cond.classLink RX4 25 RX6 ∈ lw_tbl := List.mem_of_getElem? (i := 534) (by decide +kernel)
theorem knX7_15 : Cond.classLink RX7 15 RX2 ∈ lw_tbl := List.mem_of_getElem? (i := 154) (by decide +kernel)
theorem knL_8 : Cond.classLink RL 8 RX10 ∈ lw_tbl := List.mem_of_getElem? (i := 140) (by decide +kernel)
theorem knL_77 : Cond.classLink RL 77 RX11 ∈ lw_tbl := List.mem_of_getElem? (i := 1329) (by decide +kernel)
theorem koX10 : Cond.methodLink RX10 1 Lib.objectInit ∈ lw_tbl := List.mem_of_getElem? (i := 145) (by decide +kernel)
theorem kmX10_9 : ab_mln RX10 9 mX7_init := ⟨"FailDesk", List.mem_of_getElem? (i := 150) (by decide +kernel), List.mem_of_getElem? (i := 152) (by decide +kernel), List.mem_of_getElem? (i := 114) (by decide +kernel), ⟨by decide, by decide⟩, by decide +kernel⟩
theorem kmX10_35 : ab_mln RX10 35 mX5_init := ⟨"FailDesk", List.mem_of_getElem? (i := 417) (by decide +kernel), List.mem_of_getElem? (i := 419) (by decide +kernel), List.mem_of_getElem? (i := 119) (by decide +kernel), ⟨by decide, by decide⟩, by decide +kernel⟩
theorem kmX10_42 : ab_mln RX10 42 mX6_init := ⟨"FailDesk", List.mem_of_getElem? (i := 443) (by decide +kernel), List.mem_of_getElem? (i := 445) (by decide +kernel), List.mem_of_getElem? (i := 120) (by decide +kernel), ⟨by decide, by decide⟩, by decide +kernel⟩
theorem kmX10_49 : ab_mln RX10 49 mX8_init := ⟨"FailDesk", List.mem_of_getElem? (i := 479) (by decide +kernel), List.mem_of_getElem? (i := 481) (by decide +kernel), List.mem_of_getElem? (i := 121) (by decide +kernel), ⟨by decide, by decide⟩, by decide +kernel⟩
theorem kmX10_56 : ab_mln RX10 56 mX3_init := ⟨"FailDesk", List.mem_of_getElem? (i := 504) (by decide +kernel), List.mem_of_getElem? (i := 506) (by decide +kernel), List.mem_of_getElem? (i := 122) (by decide +kernel), ⟨by decide, by decide⟩, by decide +kernel⟩
theorem kmX10_63 : ab_mln RX10 63 mX4_init := ⟨"FailDesk", List.mem_of_getElem? (i := 526) (by decide +kernel), List.mem_of_getElem? (i := 528) (by decide +kernel), List.mem_of_getElem? (i := 123) (by decide +kernel), ⟨by decide, by decide⟩, by decide +kernel⟩
theorem koX0 : Cond.methodLink RX0 1 Lib.objectInit ∈ lw_tbl := List.mem_of_getElem? (i := 170) (by decide +kernel)
theorem koX1 : Cond.methodLink RX1 3 Lib.objectInit ∈ lw_tbl := List.mem_of_getElem? (i := 398) (by decide +kernel)
theorem koX2 : Cond.methodLink RX2 3 Lib.objectInit ∈ lw_tbl := List.mem_of_getElem? (i := 159) (by decide +kernel)
theorem kmX2_30 : ab_mln RX2 30 mX0_init := ⟨"FailDesk", List.mem_of_getElem? (i := 167) (by decide +kernel), List.mem_of_getElem? (i := 169) (by decide +kernel), List.mem_of_getElem? (i := 116) (by decide +kernel), ⟨by decide, by decide⟩, by decide +kernel⟩
theorem kmX2_31 : ab_mln RX2 31 mX9_init := ⟨"FailDesk", List.mem_of_getElem? (i := 205) (by decide +kernel), List.mem_of_getElem? (i := 207) (by decide +kernel), List.mem_of_getElem? (i := 117) (by decide +kernel), ⟨by decide, by decide⟩, by decide +kernel⟩
theorem koX3 : Cond.methodLink RX3 3 Lib.objectInit ∈ lw_tbl := List.mem_of_getElem? (i := 507) (by decide +kernel)
theorem koX4 : Cond.methodLink RX4 3 Lib.objectInit ∈ lw_tbl := List.mem_of_getElem? (i := 529) (by decide +kernel)
theorem kmX4_11 : ab_mln RX4 11 mX5_init := ⟨"FailDesk", List.mem_of_getElem? (i := 531) (by decide +kernel), List.mem_of_getElem? (i := 419) (by decide +kernel), List.mem_of_getElem? (i := 119) (by decide +kernel), ⟨by decide, by decide⟩, by decide +kernel⟩
theorem kmX4_20 : ab_mln RX4 20 mX8_init := ⟨"FailDesk", List.mem_of_getElem? (i := 533) (by decide +kernel), List.mem_of_getElem? (i := 481) (by decide +kernel), List.mem_of_getElem? (i := 121) (by decide +kernel), ⟨by decide, by decide⟩, by decide +kernel⟩
theorem kmX4_27 : ab_mln RX4 27 mX6_init := ⟨"FailDesk", List.mem_of_getElem? (i := 535) (by decide +kernel), List.mem_of_getElem? (i := 445) (by decide +kernel), List.mem_of_getElem? (i := 120) (by decide +kernel), ⟨by decide, by decide⟩, by decide +kernel⟩
theorem koX5 : Cond.methodLink RX5 3 Lib.objectInit ∈ lw_tbl := List.mem_of_getElem? (i := 420) (by decide +kernel)
theorem koX6 : Cond.methodLink RX6 3 Lib.objectInit ∈ lw_tbl := List.mem_of_getElem? (i := 446) (by decide +kernel)
theorem koX7 : Cond.methodLink RX7 3 Lib.objectInit ∈ lw_tbl := List.mem_of_getElem? (i := 153) (by decide +kernel)
theorem koX8 : Cond.methodLink RX8 3 Lib.objectInit ∈ lw_tbl := List.mem_of_getElem? (i := 482) (by decide +kernel)
theorem koX9 : Cond.methodLink RX9 1 Lib.objectInit ∈ lw_tbl := List.mem_of_getElem? (i := 208) (by decide +kernel)
theorem koX11 : Cond.methodLink RX11 11 Lib.objectInit ∈ lw_tbl := List.mem_of_getElem? (i := 1334) (by decide +kernel)
theorem kiX0 : Cond.instanceMethod yX0_init ∈ lw_tbl := List.mem_of_getElem? (i := 168) (by decide +kernel)
theorem kiX1 : Cond.instanceMethod yX1_init ∈ lw_tbl := List.mem_of_getElem? (i := 396) (by decide +kernel)
theorem kiX2 : Cond.instanceMethod yX2_init ∈ lw_tbl := List.mem_of_getElem? (i := 157) (by decide +kernel)
theorem kiX3 : Cond.instanceMethod yX3_init ∈ lw_tbl := List.mem_of_getElem? (i := 505) (by decide +kernel)
theorem kiX4 : Cond.instanceMethod yX4_init ∈ lw_tbl := List.mem_of_getElem? (i := 527) (by decide +kernel)
theorem kiX5 : Cond.instanceMethod yX5_init ∈ lw_tbl := List.mem_of_getElem? (i := 418) (by decide +kernel)
theorem kiX6 : Cond.instanceMethod yX6_init ∈ lw_tbl := List.mem_of_getElem? (i := 444) (by decide +kernel)
theorem kiX7 : Cond.instanceMethod yX7_init ∈ lw_tbl := List.mem_of_getElem? (i := 151) (by decide +kernel)
theorem kiX8 : Cond.instanceMethod yX8_init ∈ lw_tbl := List.mem_of_getElem? (i := 480) (by decide +kernel)
theorem kiX9 : Cond.instanceMethod yX9_init ∈ lw_tbl := List.mem_of_getElem? (i := 206) (by decide +kernel)
theorem kiX10 : Cond.instanceMethod yX10_init ∈ lw_tbl := List.mem_of_getElem? (i := 143) (by decide +kernel)
theorem kiX11 : Cond.instanceMethod yX11_init ∈ lw_tbl := List.mem_of_getElem? (i := 1332) (by decide +kernel)
theorem ka_int : Cond.arrayClass .int ∈ lw_tbl := List.mem_of_getElem? (i := 392) (by decide +kernel)
theorem ka_long : Cond.arrayClass .long ∈ lw_tbl := List.mem_of_getElem? (i := 440) (by decide +kernel)
theorem ka_byte : Cond.arrayClass .byte ∈ lw_tbl := List.mem_of_getElem? (i := 203) (by decide +kernel)
theorem ka_boolean : Cond.arrayClass .boolean ∈ lw_tbl := List.mem_of_getElem? (i := 1455) (by decide +kernel)
theorem kaX0 : Cond.arrayOver (.object RX0) ∈ lw_tbl := List.mem_of_getElem? (i := 161) (by decide +kernel)
theorem kaX2 : Cond.arrayOver (.object RX2) ∈ lw_tbl := List.mem_of_getElem? (i := 400) (by decide +kernel)
theorem kaX9 : Cond.arrayOver (.object RX9) ∈ lw_tbl := List.mem_of_getElem? (i := 163) (by decide +kernel)
