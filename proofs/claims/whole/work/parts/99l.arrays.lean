/-! CONSTRUCTORS of plain objects, and of arrays alone -/
section IA
variable {g : ab_E} {d i L : Nat} {xs : Nat → Int32} {w : ab_W}
theorem n_X0 (hd : 1 ≤ d) : ab_C g mX0_init d 0 0 [zR 0 i] w (ab_gives w) := by
  refine ab_enter (by decide) (Nat.le_of_ble_eq_true rfl) rfl ?_
  refine ab_aload_n 0 dX0_init_0 rfl rfl ?_
  refine ab_objInit koX0 dX0_init_1 hd (Nat.le_of_ble_eq_true rfl) ?_
  exact ab_vret dX0_init_4 rfl ⟨rfl, rfl⟩
theorem n_X9 (hd : 1 ≤ d) : ab_C g mX9_init d 0 0 [zR 9 i] w (ab_gives w) := by
  refine ab_enter (by decide) (Nat.le_of_ble_eq_true rfl) rfl ?_
  refine ab_aload_n 0 dX9_init_0 rfl rfl ?_
  refine ab_objInit koX9 dX9_init_1 hd (Nat.le_of_ble_eq_true rfl) ?_
  exact ab_vret dX9_init_4 rfl ⟨rfl, rfl⟩
theorem n_X5 (hd : 1 ≤ d) (hb : kw_b w 5 i) (h21 : w.2.2.2.1 21 = i) (h22 : w.2.2.2.1 22 = i) (h23 : w.2.2.2.1 23 = i) : ab_C g mX5_init d 3 64 [zR 5 i] w (ab_gives (kw_e (T0 xs L) w 5 i (kw_u (kw_u (kw_u w.2.2.2.1 21) 22) 23))) := by
  refine ab_enter (by decide) (Nat.le_of_ble_eq_true rfl) rfl ?_
  refine ab_G.re (kw_begin (T := T0 xs L) hb) ?_
  refine ab_aload_n 0 dX5_init_0 rfl rfl ?_
  refine ab_objInit koX5 dX5_init_1 (by omega) (Nat.le_of_ble_eq_true rfl) ?_
  refine ab_aload_n 0 dX5_init_4 rfl rfl ?_
  refine ab_bipush (v := 24) dX5_init_5 (by decide) ?_
  refine kw_newa (k2 := 21) (i2 := i) (N := 24) (ty := .int) ⟨by decide, by decide⟩ rfl rfl (Or.inl rfl) ka_int (by decide) dX5_init_7 (by decide) (by decide) (by decide) ⟨Nat.le_of_ble_eq_true rfl, Nat.le_of_ble_eq_true rfl⟩ (by decide) h21 kw_le_rf ⟨fun _ => rfl, fun _ => rfl, fun _ => rfl, rfl⟩ ?_
  refine kw_putF fX5_9 rfl rfl rfl rfl rfl dX5_init_9 ?_
  refine ab_aload_n 0 dX5_init_12 rfl rfl ?_
  refine ab_bipush (v := 24) dX5_init_13 (by decide) ?_
  refine kw_newa (k2 := 22) (i2 := i) (N := 24) (ty := .long) ⟨by decide, by decide⟩ rfl rfl (Or.inr (Or.inl rfl)) ka_long (by decide) dX5_init_15 (by decide) (by decide) (by decide) ⟨Nat.le_of_ble_eq_true rfl, Nat.le_of_ble_eq_true rfl⟩ (by decide) h22 (kw_le_u kw_le_rf) ⟨fun _ => rfl, fun _ => rfl, fun _ => rfl, rfl⟩ ?_
  refine kw_putF fX5_15 rfl rfl rfl rfl rfl dX5_init_17 ?_
  refine ab_aload_n 0 dX5_init_20 rfl rfl ?_
  refine ab_bipush (v := 16) dX5_init_21 (by decide) ?_
  refine kw_newa (k2 := 23) (i2 := i) (N := 16) (ty := .long) ⟨by decide, by decide⟩ rfl rfl (Or.inr (Or.inl rfl)) ka_long (by decide) dX5_init_23 (by decide) (by decide) (by decide) ⟨Nat.le_of_ble_eq_true rfl, Nat.le_of_ble_eq_true rfl⟩ (by decide) h23 (kw_le_u (kw_le_u kw_le_rf)) ⟨fun _ => rfl, fun _ => rfl, fun _ => rfl, rfl⟩ ?_
  refine kw_putF fX5_19 rfl rfl rfl rfl rfl dX5_init_25 ?_
  refine kw_ret dX5_init_28 rfl (fun _ => rfl) (fun _ => rfl) (fun j => ?_)
  show _ = (match j with | 0 => some i | 1 => some i | 2 => some i | _ => none)
  split
  · rfl
  · rfl
  · rfl
  · simp_all [kw_f]
theorem n_X6 (hd : 1 ≤ d) (hb : kw_b w 6 i) (h24 : w.2.2.2.1 24 = i) (h25 : w.2.2.2.1 25 = i) (h26 : w.2.2.2.1 26 = i) (h27 : w.2.2.2.1 27 = i) (h28 : w.2.2.2.1 28 = i) (h29 : w.2.2.2.1 29 = i) (h30 : w.2.2.2.1 30 = i) : ab_C g mX6_init d 7 224 [zR 6 i] w (ab_gives (kw_e (T0 xs L) w 6 i (kw_u (kw_u (kw_u (kw_u (kw_u (kw_u (kw_u w.2.2.2.1 24) 25) 26) 27) 28) 29) 30))) := by
  refine ab_enter (by decide) (Nat.le_of_ble_eq_true rfl) rfl ?_
  refine ab_G.re (kw_begin (T := T0 xs L) hb) ?_
  refine ab_aload_n 0 dX6_init_0 rfl rfl ?_
  refine ab_objInit koX6 dX6_init_1 (by omega) (Nat.le_of_ble_eq_true rfl) ?_
  refine ab_aload_n 0 dX6_init_4 rfl rfl ?_
  refine ab_bipush (v := 24) dX6_init_5 (by decide) ?_
  refine kw_newa (k2 := 24) (i2 := i) (N := 24) (ty := .int) ⟨by decide, by decide⟩ rfl rfl (Or.inl rfl) ka_int (by decide) dX6_init_7 (by decide) (by decide) (by decide) ⟨Nat.le_of_ble_eq_true rfl, Nat.le_of_ble_eq_true rfl⟩ (by decide) h24 kw_le_rf ⟨fun _ => rfl, fun _ => rfl, fun _ => rfl, rfl⟩ ?_
  refine kw_putF fX6_9 rfl rfl rfl rfl rfl dX6_init_9 ?_
  refine ab_aload_n 0 dX6_init_12 rfl rfl ?_
  refine ab_bipush (v := 24) dX6_init_13 (by decide) ?_
  refine kw_newa (k2 := 25) (i2 := i) (N := 24) (ty := .int) ⟨by decide, by decide⟩ rfl rfl (Or.inl rfl) ka_int (by decide) dX6_init_15 (by decide) (by decide) (by decide) ⟨Nat.le_of_ble_eq_true rfl, Nat.le_of_ble_eq_true rfl⟩ (by decide) h25 (kw_le_u kw_le_rf) ⟨fun _ => rfl, fun _ => rfl, fun _ => rfl, rfl⟩ ?_
  refine kw_putF fX6_15 rfl rfl rfl rfl rfl dX6_init_17 ?_
  refine ab_aload_n 0 dX6_init_20 rfl rfl ?_
  refine ab_bipush (v := 48) dX6_init_21 (by decide) ?_
  refine kw_newa (k2 := 26) (i2 := i) (N := 48) (ty := .int) ⟨by decide, by decide⟩ rfl rfl (Or.inl rfl) ka_int (by decide) dX6_init_23 (by decide) (by decide) (by decide) ⟨Nat.le_of_ble_eq_true rfl, Nat.le_of_ble_eq_true rfl⟩ (by decide) h26 (kw_le_u (kw_le_u kw_le_rf)) ⟨fun _ => rfl, fun _ => rfl, fun _ => rfl, rfl⟩ ?_
  refine kw_putF fX6_18 rfl rfl rfl rfl rfl dX6_init_25 ?_
  refine ab_aload_n 0 dX6_init_28 rfl rfl ?_
  refine ab_bipush (v := 48) dX6_init_29 (by decide) ?_
  refine kw_newa (k2 := 27) (i2 := i) (N := 48) (ty := .int) ⟨by decide, by decide⟩ rfl rfl (Or.inl rfl) ka_int (by decide) dX6_init_31 (by decide) (by decide) (by decide) ⟨Nat.le_of_ble_eq_true rfl, Nat.le_of_ble_eq_true rfl⟩ (by decide) h27 (kw_le_u (kw_le_u (kw_le_u kw_le_rf))) ⟨fun _ => rfl, fun _ => rfl, fun _ => rfl, rfl⟩ ?_
  refine kw_putF fX6_21 rfl rfl rfl rfl rfl dX6_init_33 ?_
  refine ab_aload_n 0 dX6_init_36 rfl rfl ?_
  refine ab_bipush (v := 8) dX6_init_37 (by decide) ?_
  refine kw_newa (k2 := 28) (i2 := i) (N := 8) (ty := .int) ⟨by decide, by decide⟩ rfl rfl (Or.inl rfl) ka_int (by decide) dX6_init_39 (by decide) (by decide) (by decide) ⟨Nat.le_of_ble_eq_true rfl, Nat.le_of_ble_eq_true rfl⟩ (by decide) h28 (kw_le_u (kw_le_u (kw_le_u (kw_le_u kw_le_rf)))) ⟨fun _ => rfl, fun _ => rfl, fun _ => rfl, rfl⟩ ?_
  refine kw_putF fX6_24 rfl rfl rfl rfl rfl dX6_init_41 ?_
  refine ab_aload_n 0 dX6_init_44 rfl rfl ?_
  refine ab_bipush (v := 48) dX6_init_45 (by decide) ?_
  refine kw_newa (k2 := 29) (i2 := i) (N := 48) (ty := .int) ⟨by decide, by decide⟩ rfl rfl (Or.inl rfl) ka_int (by decide) dX6_init_47 (by decide) (by decide) (by decide) ⟨Nat.le_of_ble_eq_true rfl, Nat.le_of_ble_eq_true rfl⟩ (by decide) h29 (kw_le_u (kw_le_u (kw_le_u (kw_le_u (kw_le_u kw_le_rf))))) ⟨fun _ => rfl, fun _ => rfl, fun _ => rfl, rfl⟩ ?_
  refine kw_putF fX6_27 rfl rfl rfl rfl rfl dX6_init_49 ?_
  refine ab_aload_n 0 dX6_init_52 rfl rfl ?_
  refine ab_bipush (v := 24) dX6_init_53 (by decide) ?_
  refine kw_newa (k2 := 30) (i2 := i) (N := 24) (ty := .int) ⟨by decide, by decide⟩ rfl rfl (Or.inl rfl) ka_int (by decide) dX6_init_55 (by decide) (by decide) (by decide) ⟨Nat.le_of_ble_eq_true rfl, Nat.le_of_ble_eq_true rfl⟩ (by decide) h30 (kw_le_u (kw_le_u (kw_le_u (kw_le_u (kw_le_u (kw_le_u kw_le_rf)))))) ⟨fun _ => rfl, fun _ => rfl, fun _ => rfl, rfl⟩ ?_
  refine kw_putF fX6_30 rfl rfl rfl rfl rfl dX6_init_57 ?_
  refine kw_ret dX6_init_60 rfl (fun _ => rfl) (fun _ => rfl) (fun j => ?_)
  show _ = (match j with | 0 => some i | 1 => some i | 2 => some i | 3 => some i | 4 => some i | 5 => some i | 6 => some i | _ => none)
  split
  · rfl
  · rfl
  · rfl
  · rfl
  · rfl
  · rfl
  · rfl
  · simp_all [kw_f]
theorem n_X8 (hd : 1 ≤ d) (hb : kw_b w 8 i) (h36 : w.2.2.2.1 36 = i) (h37 : w.2.2.2.1 37 = i) : ab_C g mX8_init d 2 16 [zR 8 i] w (ab_gives (kw_e (T0 xs L) w 8 i (kw_u (kw_u w.2.2.2.1 36) 37))) := by
  refine ab_enter (by decide) (Nat.le_of_ble_eq_true rfl) rfl ?_
  refine ab_G.re (kw_begin (T := T0 xs L) hb) ?_
  refine ab_aload_n 0 dX8_init_0 rfl rfl ?_
  refine ab_objInit koX8 dX8_init_1 (by omega) (Nat.le_of_ble_eq_true rfl) ?_
  refine ab_aload_n 0 dX8_init_4 rfl rfl ?_
  refine ab_bipush (v := 8) dX8_init_5 (by decide) ?_
  refine kw_newa (k2 := 36) (i2 := i) (N := 8) (ty := .int) ⟨by decide, by decide⟩ rfl rfl (Or.inl rfl) ka_int (by decide) dX8_init_7 (by decide) (by decide) (by decide) ⟨Nat.le_of_ble_eq_true rfl, Nat.le_of_ble_eq_true rfl⟩ (by decide) h36 kw_le_rf ⟨fun _ => rfl, fun _ => rfl, fun _ => rfl, rfl⟩ ?_
  refine kw_putF fX8_9 rfl rfl rfl rfl rfl dX8_init_9 ?_
  refine ab_aload_n 0 dX8_init_12 rfl rfl ?_
  refine ab_bipush (v := 8) dX8_init_13 (by decide) ?_
  refine kw_newa (k2 := 37) (i2 := i) (N := 8) (ty := .int) ⟨by decide, by decide⟩ rfl rfl (Or.inl rfl) ka_int (by decide) dX8_init_15 (by decide) (by decide) (by decide) ⟨Nat.le_of_ble_eq_true rfl, Nat.le_of_ble_eq_true rfl⟩ (by decide) h37 (kw_le_u kw_le_rf) ⟨fun _ => rfl, fun _ => rfl, fun _ => rfl, rfl⟩ ?_
  refine kw_putF fX8_15 rfl rfl rfl rfl rfl dX8_init_17 ?_
  refine kw_ret dX8_init_20 rfl (fun _ => rfl) (fun _ => rfl) (fun j => ?_)
  show _ = (match j with | 0 => some i | 3 => some i | _ => none)
  split
  · rfl
  · rfl
  · simp_all [kw_f]
theorem n_X3 (hd : 1 ≤ d) (hb : kw_b w 3 i) (h16 : w.2.2.2.1 16 = i) (h17 : w.2.2.2.1 17 = i) (h18 : w.2.2.2.1 18 = i) (h19 : w.2.2.2.1 19 = i) (h20 : w.2.2.2.1 20 = i) : ab_C g mX3_init d 5 72 [zR 3 i] w (ab_gives (kw_e (T0 xs L) w 3 i (kw_u (kw_u (kw_u (kw_u (kw_u w.2.2.2.1 16) 17) 18) 19) 20))) := by
  refine ab_enter (by decide) (Nat.le_of_ble_eq_true rfl) rfl ?_
  refine ab_G.re (kw_begin (T := T0 xs L) hb) ?_
  refine ab_aload_n 0 dX3_init_0 rfl rfl ?_
  refine ab_objInit koX3 dX3_init_1 (by omega) (Nat.le_of_ble_eq_true rfl) ?_
  refine ab_aload_n 0 dX3_init_4 rfl rfl ?_
  refine ab_bipush (v := 24) dX3_init_5 (by decide) ?_
  refine kw_newa (k2 := 16) (i2 := i) (N := 24) (ty := .int) ⟨by decide, by decide⟩ rfl rfl (Or.inl rfl) ka_int (by decide) dX3_init_7 (by decide) (by decide) (by decide) ⟨Nat.le_of_ble_eq_true rfl, Nat.le_of_ble_eq_true rfl⟩ (by decide) h16 kw_le_rf ⟨fun _ => rfl, fun _ => rfl, fun _ => rfl, rfl⟩ ?_
  refine kw_putF fX3_9 rfl rfl rfl rfl rfl dX3_init_9 ?_
  refine ab_aload_n 0 dX3_init_12 rfl rfl ?_
  refine ab_bipush (v := 24) dX3_init_13 (by decide) ?_
  refine kw_newa (k2 := 17) (i2 := i) (N := 24) (ty := .int) ⟨by decide, by decide⟩ rfl rfl (Or.inl rfl) ka_int (by decide) dX3_init_15 (by decide) (by decide) (by decide) ⟨Nat.le_of_ble_eq_true rfl, Nat.le_of_ble_eq_true rfl⟩ (by decide) h17 (kw_le_u kw_le_rf) ⟨fun _ => rfl, fun _ => rfl, fun _ => rfl, rfl⟩ ?_
  refine kw_putF fX3_15 rfl rfl rfl rfl rfl dX3_init_17 ?_
  refine ab_aload_n 0 dX3_init_20 rfl rfl ?_
  refine ab_bipush (v := 8) dX3_init_21 (by decide) ?_
  refine kw_newa (k2 := 18) (i2 := i) (N := 8) (ty := .long) ⟨by decide, by decide⟩ rfl rfl (Or.inr (Or.inl rfl)) ka_long (by decide) dX3_init_23 (by decide) (by decide) (by decide) ⟨Nat.le_of_ble_eq_true rfl, Nat.le_of_ble_eq_true rfl⟩ (by decide) h18 (kw_le_u (kw_le_u kw_le_rf)) ⟨fun _ => rfl, fun _ => rfl, fun _ => rfl, rfl⟩ ?_
  refine kw_putF fX3_18 rfl rfl rfl rfl rfl dX3_init_25 ?_
  refine ab_aload_n 0 dX3_init_28 rfl rfl ?_
  refine ab_bipush (v := 8) dX3_init_29 (by decide) ?_
  refine kw_newa (k2 := 19) (i2 := i) (N := 8) (ty := .long) ⟨by decide, by decide⟩ rfl rfl (Or.inr (Or.inl rfl)) ka_long (by decide) dX3_init_31 (by decide) (by decide) (by decide) ⟨Nat.le_of_ble_eq_true rfl, Nat.le_of_ble_eq_true rfl⟩ (by decide) h19 (kw_le_u (kw_le_u (kw_le_u kw_le_rf))) ⟨fun _ => rfl, fun _ => rfl, fun _ => rfl, rfl⟩ ?_
  refine kw_putF fX3_22 rfl rfl rfl rfl rfl dX3_init_33 ?_
  refine ab_aload_n 0 dX3_init_36 rfl rfl ?_
  refine ab_bipush (v := 8) dX3_init_37 (by decide) ?_
  refine kw_newa (k2 := 20) (i2 := i) (N := 8) (ty := .int) ⟨by decide, by decide⟩ rfl rfl (Or.inl rfl) ka_int (by decide) dX3_init_39 (by decide) (by decide) (by decide) ⟨Nat.le_of_ble_eq_true rfl, Nat.le_of_ble_eq_true rfl⟩ (by decide) h20 (kw_le_u (kw_le_u (kw_le_u (kw_le_u kw_le_rf)))) ⟨fun _ => rfl, fun _ => rfl, fun _ => rfl, rfl⟩ ?_
  refine kw_putF fX3_25 rfl rfl rfl rfl rfl dX3_init_41 ?_
  refine kw_ret dX3_init_44 rfl (fun _ => rfl) (fun _ => rfl) (fun j => ?_)
  show _ = (match j with | 0 => some i | 1 => some i | 2 => some i | 3 => some i | 4 => some i | _ => none)
  split
  · rfl
  · rfl
  · rfl
  · rfl
  · rfl
  · simp_all [kw_f]
end IA
