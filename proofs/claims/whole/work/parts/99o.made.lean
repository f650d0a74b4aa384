/-! READER, NIGHT, THE CLASS, THE REFERENCE ARE MADE -/
def x5c (c : Nat → Nat) : Nat → Nat := kw_u (kw_u (kw_u c 21) 22) 23
theorem kw_le_x5 {v c : Nat → Nat} (h : ∀ a, v a ≤ c a) : ∀ a, v a ≤ x5c c a := (kw_le_u (kw_le_u (kw_le_u h)))
def x6c (c : Nat → Nat) : Nat → Nat := kw_u (kw_u (kw_u (kw_u (kw_u (kw_u (kw_u c 24) 25) 26) 27) 28) 29) 30
theorem kw_le_x6 {v c : Nat → Nat} (h : ∀ a, v a ≤ c a) : ∀ a, v a ≤ x6c c a := (kw_le_u (kw_le_u (kw_le_u (kw_le_u (kw_le_u (kw_le_u (kw_le_u h)))))))
def x8c (c : Nat → Nat) : Nat → Nat := kw_u (kw_u c 36) 37
theorem kw_le_x8 {v c : Nat → Nat} (h : ∀ a, v a ≤ c a) : ∀ a, v a ≤ x8c c a := (kw_le_u (kw_le_u h))
def x3c (c : Nat → Nat) : Nat → Nat := kw_u (kw_u (kw_u (kw_u (kw_u c 16) 17) 18) 19) 20
theorem kw_le_x3 {v c : Nat → Nat} (h : ∀ a, v a ≤ c a) : ∀ a, v a ≤ x3c c a := (kw_le_u (kw_le_u (kw_le_u (kw_le_u (kw_le_u h)))))
def x7c (c : Nat → Nat) : Nat → Nat := kw_u (kw_u (kw_u (kw_u (x2c (kw_u (kw_u c 31) 2)) 32) 33) 34) 35
theorem kw_le_x7 {v c : Nat → Nat} (h : ∀ a, v a ≤ c a) : ∀ a, v a ≤ x7c c a := kw_le_u (kw_le_u (kw_le_u (kw_le_u (kw_le_x2 (kw_le_u (kw_le_u h))))))
def x4c (c : Nat → Nat) : Nat → Nat := x6c (kw_u (x8c (kw_u (x5c (kw_u c 5)) 8)) 6)
theorem kw_le_x4 {v c : Nat → Nat} (h : ∀ a, v a ≤ c a) : ∀ a, v a ≤ x4c c a := kw_le_x6 (kw_le_u (kw_le_x8 (kw_le_u (kw_le_x5 (kw_le_u h)))))
def x1d (c : Nat → Nat) : Nat → Nat := x1c (kw_u c 12) 8
theorem kw_le_x1d {v c : Nat → Nat} (h : ∀ a, v a ≤ c a) : ∀ a, v a ≤ x1d c a := kw_le_x1 (kw_le_u h)
section IF
variable {g : ab_E} {d L : Nat} {xs : Nat → Int32} {w : ab_W}
theorem n_X7 (hd : 3 ≤ d) (hb : kw_b w 7 0) (h31 : w.2.2.2.1 31 = 0) (h32 : w.2.2.2.1 32 = 0) (h33 : w.2.2.2.1 33 = 0) (h34 : w.2.2.2.1 34 = 0) (h35 : w.2.2.2.1 35 = 0) (h2 : w.2.2.2.1 2 = 0) (h13 : w.2.2.2.1 13 = 0) (h14 : w.2.2.2.1 14 = 0) (h0 : w.2.2.2.1 0 = 0) (h9 : w.2.2.2.1 9 = 0) (h15 : 0 < w.2.2.2.1 15) : ab_C g mX7_init d 40 2810 [zR 7 0] w (ab_gives (kw_e (T0 xs L) w 7 0 (x7c w.2.2.2.1))) := by
  refine ab_enter (by decide) (Nat.le_of_ble_eq_true rfl) rfl ?_
  refine ab_G.re (kw_begin (T := T0 xs L) hb) ?_
  refine ab_aload_n 0 dX7_init_0 rfl rfl ?_
  refine ab_objInit koX7 dX7_init_1 (by omega) (Nat.le_of_ble_eq_true rfl) ?_
  refine ab_aload_n 0 dX7_init_4 rfl rfl ?_
  refine ab_sipush (v := 500) dX7_init_5 (by decide) ?_
  refine kw_newa (k2 := 31) (i2 := 0) (N := 500) (ty := .byte) ⟨by decide, by decide⟩ rfl rfl (Or.inr (Or.inr (Or.inl rfl))) ka_byte (by decide) dX7_init_8 (by decide) (by decide) (by decide) ⟨Nat.le_of_ble_eq_true rfl, Nat.le_of_ble_eq_true rfl⟩ (by decide) h31 kw_le_rf ⟨fun _ => rfl, fun _ => rfl, fun _ => rfl, rfl⟩ ?_
  refine kw_putF fX7_9 rfl rfl rfl rfl rfl dX7_init_10 ?_
  refine ab_aload_n 0 dX7_init_13 rfl rfl ?_
  refine kw_make (k2 := 2) (i2 := 0) (dy := 2) (my := 34) (sy := 296) (c' := _) kcX2 knX7_15 dX7_init_14 dX7_init_17 dX7_init_18 (Or.inr lX7_17) rfl kiX2 ⟨by omega, by omega⟩ ⟨⟨Nat.le_of_ble_eq_true rfl, Nat.le_of_ble_eq_true rfl⟩, Nat.le_of_ble_eq_true rfl, Nat.le_of_ble_eq_true rfl⟩ (Nat.le_of_ble_eq_true rfl) hb.1 (kw_le_u kw_le_rf) h2 rfl (n_X2' (by decide) (kw_blank' h2) h13 h14 h0 h9 h15) ?_
  refine kw_putF fX7_18 rfl rfl rfl rfl rfl dX7_init_21 ?_
  refine ab_aload_n 0 dX7_init_24 rfl rfl ?_
  refine ab_sipush (v := 501) dX7_init_25 (by decide) ?_
  refine kw_newa (k2 := 32) (i2 := 0) (N := 501) (ty := .int) ⟨by decide, by decide⟩ rfl rfl (Or.inl rfl) ka_int (by decide) dX7_init_28 (by decide) (by decide) (by decide) ⟨Nat.le_of_ble_eq_true rfl, Nat.le_of_ble_eq_true rfl⟩ (by decide) h32 (kw_le_x2 (kw_le_u (kw_le_u kw_le_rf))) ⟨fun _ => rfl, fun _ => rfl, fun _ => rfl, rfl⟩ ?_
  refine kw_putF fX7_22 rfl rfl rfl rfl rfl dX7_init_30 ?_
  refine ab_aload_n 0 dX7_init_33 rfl rfl ?_
  refine ab_sipush (v := 501) dX7_init_34 (by decide) ?_
  refine kw_newa (k2 := 33) (i2 := 0) (N := 501) (ty := .int) ⟨by decide, by decide⟩ rfl rfl (Or.inl rfl) ka_int (by decide) dX7_init_37 (by decide) (by decide) (by decide) ⟨Nat.le_of_ble_eq_true rfl, Nat.le_of_ble_eq_true rfl⟩ (by decide) h33 (kw_le_u (kw_le_x2 (kw_le_u (kw_le_u kw_le_rf)))) ⟨fun _ => rfl, fun _ => rfl, fun _ => rfl, rfl⟩ ?_
  refine kw_putF fX7_26 rfl rfl rfl rfl rfl dX7_init_39 ?_
  refine ab_aload_n 0 dX7_init_42 rfl rfl ?_
  refine ab_sipush (v := 501) dX7_init_43 (by decide) ?_
  refine kw_newa (k2 := 34) (i2 := 0) (N := 501) (ty := .int) ⟨by decide, by decide⟩ rfl rfl (Or.inl rfl) ka_int (by decide) dX7_init_46 (by decide) (by decide) (by decide) ⟨Nat.le_of_ble_eq_true rfl, Nat.le_of_ble_eq_true rfl⟩ (by decide) h34 (kw_le_u (kw_le_u (kw_le_x2 (kw_le_u (kw_le_u kw_le_rf))))) ⟨fun _ => rfl, fun _ => rfl, fun _ => rfl, rfl⟩ ?_
  refine kw_putF fX7_29 rfl rfl rfl rfl rfl dX7_init_48 ?_
  refine ab_aload_n 0 dX7_init_51 rfl rfl ?_
  refine ab_sipush (v := 500) dX7_init_52 (by decide) ?_
  refine kw_newa (k2 := 35) (i2 := 0) (N := 500) (ty := .int) ⟨by decide, by decide⟩ rfl rfl (Or.inl rfl) ka_int (by decide) dX7_init_55 (by decide) (by decide) (by decide) ⟨Nat.le_of_ble_eq_true rfl, Nat.le_of_ble_eq_true rfl⟩ (by decide) h35 (kw_le_u (kw_le_u (kw_le_u (kw_le_x2 (kw_le_u (kw_le_u kw_le_rf)))))) ⟨fun _ => rfl, fun _ => rfl, fun _ => rfl, rfl⟩ ?_
  refine kw_putF fX7_32 rfl rfl rfl rfl rfl dX7_init_57 ?_
  refine kw_ret dX7_init_60 rfl (fun j => rfl) (fun j => rfl) (fun j => ?_)
  show _ = (match j with | 0 => some 0 | 1 => some 0 | 5 => some 0 | 6 => some 0 | 7 => some 0 | 8 => some 0 | _ => none)
  split
  · rfl
  · rfl
  · rfl
  · rfl
  · rfl
  · rfl
  · simp_all [kw_f]
theorem n_X4 (hd : 2 ≤ d) (hb : kw_b w 4 0) (h5 : w.2.2.2.1 5 = 1) (h21 : w.2.2.2.1 21 = 1) (h22 : w.2.2.2.1 22 = 1) (h23 : w.2.2.2.1 23 = 1) (h8 : w.2.2.2.1 8 = 1) (h36 : w.2.2.2.1 36 = 1) (h37 : w.2.2.2.1 37 = 1) (h6 : w.2.2.2.1 6 = 1) (h24 : w.2.2.2.1 24 = 1) (h25 : w.2.2.2.1 25 = 1) (h26 : w.2.2.2.1 26 = 1) (h27 : w.2.2.2.1 27 = 1) (h28 : w.2.2.2.1 28 = 1) (h29 : w.2.2.2.1 29 = 1) (h30 : w.2.2.2.1 30 = 1) : ab_C g mX4_init d 15 320 [zR 4 0] w (ab_gives (kw_e (T0 xs L) w 4 0 (x4c w.2.2.2.1))) := by
  refine ab_enter (by decide) (Nat.le_of_ble_eq_true rfl) rfl ?_
  refine ab_G.re (kw_begin (T := T0 xs L) hb) ?_
  refine ab_aload_n 0 dX4_init_0 rfl rfl ?_
  refine ab_objInit koX4 dX4_init_1 (by omega) (Nat.le_of_ble_eq_true rfl) ?_
  refine ab_aload_n 0 dX4_init_4 rfl rfl ?_
  refine kw_make (k2 := 5) (i2 := 1) (dy := 1) (my := 3) (sy := 64) (c' := _) kcX5 knX4_9 dX4_init_5 dX4_init_8 dX4_init_9 (Or.inl kmX4_11) rfl kiX5 ⟨by omega, by omega⟩ ⟨⟨Nat.le_of_ble_eq_true rfl, Nat.le_of_ble_eq_true rfl⟩, Nat.le_of_ble_eq_true rfl, Nat.le_of_ble_eq_true rfl⟩ (Nat.le_of_ble_eq_true rfl) hb.1 kw_le_rf h5 rfl (n_X5 (by decide) (kw_blank' h5) h21 h22 h23) ?_
  refine kw_putF fX4_12 rfl rfl rfl rfl rfl dX4_init_12 ?_
  refine ab_aload_n 0 dX4_init_15 rfl rfl ?_
  refine kw_make (k2 := 8) (i2 := 1) (dy := 1) (my := 2) (sy := 16) (c' := _) kcX8 knX4_18 dX4_init_16 dX4_init_19 dX4_init_20 (Or.inl kmX4_20) rfl kiX8 ⟨by omega, by omega⟩ ⟨⟨Nat.le_of_ble_eq_true rfl, Nat.le_of_ble_eq_true rfl⟩, Nat.le_of_ble_eq_true rfl, Nat.le_of_ble_eq_true rfl⟩ (Nat.le_of_ble_eq_true rfl) hb.1 (kw_le_x5 (kw_le_u kw_le_rf)) h8 rfl (n_X8 (by decide) (kw_blank' h8) h36 h37) ?_
  refine kw_putF fX4_21 rfl rfl rfl rfl rfl dX4_init_23 ?_
  refine ab_aload_n 0 dX4_init_26 rfl rfl ?_
  refine kw_make (k2 := 6) (i2 := 1) (dy := 1) (my := 7) (sy := 224) (c' := _) kcX6 knX4_25 dX4_init_27 dX4_init_30 dX4_init_31 (Or.inl kmX4_27) rfl kiX6 ⟨by omega, by omega⟩ ⟨⟨Nat.le_of_ble_eq_true rfl, Nat.le_of_ble_eq_true rfl⟩, Nat.le_of_ble_eq_true rfl, Nat.le_of_ble_eq_true rfl⟩ (Nat.le_of_ble_eq_true rfl) hb.1 (kw_le_x8 (kw_le_u (kw_le_x5 (kw_le_u kw_le_rf)))) h6 rfl (n_X6 (by decide) (kw_blank' h6) h24 h25 h26 h27 h28 h29 h30) ?_
  refine kw_putF fX4_28 rfl rfl rfl rfl rfl dX4_init_34 ?_
  refine kw_ret dX4_init_37 rfl (fun j => rfl) (fun j => rfl) (fun j => ?_)
  show _ = (match j with | 0 => some 1 | 1 => some 1 | 2 => some 1 | _ => none)
  split
  · rfl
  · rfl
  · rfl
  · simp_all [kw_f]
end IF
/-- how many there are at the law's entry -/
def c0 (k : Nat) : Nat := match k with
  | 15 => 1
  | 63 => 1
  | 100 => 14
  | 101 => 1
  | 102 => 14
  | _ => 0
def TT (T : ab_W) (c : Nat → Nat) : ab_W := (T.1, T.2.1, T.2.2.1, c, T.2.2.2.2)
def x10c (c : Nat → Nat) : Nat → Nat := kw_u (x4c (kw_u (x3c (kw_u (x8c (kw_u (x6c (kw_u (x5c (kw_u (x2c (kw_u (x2c (kw_u (x1d (kw_u (x7c (kw_u c 7)) 1)) 2)) 2)) 5)) 6)) 8)) 3)) 4)) 38
def x11c (c : Nat → Nat) : Nat → Nat := kw_u (kw_u (kw_u (kw_u (kw_u (kw_u (kw_u (kw_u (kw_u (kw_u (kw_u (kw_u (kw_u (kw_u (kw_u (kw_u (kw_u (kw_u (kw_u (kw_u (kw_u (kw_u (kw_u (kw_u c 39) 40) 41) 42) 43) 44) 45) 46) 47) 48) 49) 50) 51) 52) 53) 54) 55) 56) 57) 58) 59) 60) 61) 62
section IG
variable {g : ab_E} {d L : Nat} {xs : Nat → Int32} {w : ab_W}
theorem n_X10 (hd : 5 ≤ d) (hb : kw_b (ab_na (TT (T0 xs L) c0) 10 0) 10 0) : ab_C g mX10_init d 431 6630 [zR 10 0] (ab_na (TT (T0 xs L) c0) 10 0) (ab_gives (kw_e (T0 xs L) (ab_na (TT (T0 xs L) c0) 10 0) 10 0 (x10c (kw_u c0 10)))) := by
  refine ab_enter (by decide) (Nat.le_of_ble_eq_true rfl) rfl ?_
  refine ab_G.re (kw_begin (T := T0 xs L) hb) ?_
  refine ab_aload_n 0 dX10_init_0 rfl rfl ?_
  refine ab_objInit koX10 dX10_init_1 (by omega) (Nat.le_of_ble_eq_true rfl) ?_
  refine ab_aload_n 0 dX10_init_4 rfl rfl ?_
  refine kw_make (k2 := 7) (i2 := 0) (dy := 4) (my := 40) (sy := 2810) (c' := _) kcX7 knX10_7 dX10_init_5 dX10_init_8 dX10_init_9 (Or.inl kmX10_9) rfl kiX7 ⟨by omega, by omega⟩ ⟨⟨Nat.le_of_ble_eq_true rfl, Nat.le_of_ble_eq_true rfl⟩, Nat.le_of_ble_eq_true rfl, Nat.le_of_ble_eq_true rfl⟩ (Nat.le_of_ble_eq_true rfl) hb.1 kw_le_rf rfl rfl (n_X7 (by decide) (kw_blank' rfl) rfl rfl rfl rfl rfl rfl rfl rfl rfl rfl (Nat.le_of_ble_eq_true rfl)) ?_
  refine kw_putF fX10_10 rfl rfl rfl rfl rfl dX10_init_12 ?_
  refine ab_aload_n 0 dX10_init_15 rfl rfl ?_
  refine kw_make (k2 := 1) (i2 := 0) (dy := 4) (my := 281) (sy := 2464) (c' := _) kcX1 knX10_16 dX10_init_16 dX10_init_19 dX10_init_20 (Or.inr lX10_18) rfl kiX1 ⟨by omega, by omega⟩ ⟨⟨Nat.le_of_ble_eq_true rfl, Nat.le_of_ble_eq_true rfl⟩, Nat.le_of_ble_eq_true rfl, Nat.le_of_ble_eq_true rfl⟩ (Nat.le_of_ble_eq_true rfl) hb.1 (kw_le_x7 (kw_le_u kw_le_rf)) rfl rfl (n_X1 (by decide) (kw_blank' rfl) rfl rfl rfl rfl rfl rfl (Nat.le_of_ble_eq_true rfl)) ?_
  refine kw_putF fX10_19 rfl rfl rfl rfl rfl dX10_init_23 ?_
  refine ab_aload_n 0 dX10_init_26 rfl rfl ?_
  refine kw_make (k2 := 2) (i2 := 9) (dy := 4) (my := 34) (sy := 296) (c' := _) kcX2 knX10_23 dX10_init_27 dX10_init_30 dX10_init_31 (Or.inr lX10_25) rfl kiX2 ⟨by omega, by omega⟩ ⟨⟨Nat.le_of_ble_eq_true rfl, Nat.le_of_ble_eq_true rfl⟩, Nat.le_of_ble_eq_true rfl, Nat.le_of_ble_eq_true rfl⟩ (Nat.le_of_ble_eq_true rfl) hb.1 (kw_le_x1d (kw_le_u (kw_le_x7 (kw_le_u kw_le_rf)))) rfl rfl (n_X2' (by decide) (kw_blank' rfl) rfl rfl rfl rfl (Nat.le_of_ble_eq_true rfl)) ?_
  refine kw_putF fX10_26 rfl rfl rfl rfl rfl dX10_init_34 ?_
  refine ab_aload_n 0 dX10_init_37 rfl rfl ?_
  refine kw_make (k2 := 2) (i2 := 10) (dy := 4) (my := 34) (sy := 296) (c' := _) kcX2 knX10_23 dX10_init_38 dX10_init_41 dX10_init_42 (Or.inr lX10_25) rfl kiX2 ⟨by omega, by omega⟩ ⟨⟨Nat.le_of_ble_eq_true rfl, Nat.le_of_ble_eq_true rfl⟩, Nat.le_of_ble_eq_true rfl, Nat.le_of_ble_eq_true rfl⟩ (Nat.le_of_ble_eq_true rfl) hb.1 (kw_le_x2 (kw_le_u (kw_le_x1d (kw_le_u (kw_le_x7 (kw_le_u kw_le_rf)))))) rfl rfl (n_X2' (by decide) (kw_blank' rfl) rfl rfl rfl rfl (Nat.le_of_ble_eq_true rfl)) ?_
  refine kw_putF fX10_30 rfl rfl rfl rfl rfl dX10_init_45 ?_
  refine ab_aload_n 0 dX10_init_48 rfl rfl ?_
  refine kw_make (k2 := 5) (i2 := 0) (dy := 4) (my := 3) (sy := 64) (c' := _) kcX5 knX10_33 dX10_init_49 dX10_init_52 dX10_init_53 (Or.inl kmX10_35) rfl kiX5 ⟨by omega, by omega⟩ ⟨⟨Nat.le_of_ble_eq_true rfl, Nat.le_of_ble_eq_true rfl⟩, Nat.le_of_ble_eq_true rfl, Nat.le_of_ble_eq_true rfl⟩ (Nat.le_of_ble_eq_true rfl) hb.1 (kw_le_x2 (kw_le_u (kw_le_x2 (kw_le_u (kw_le_x1d (kw_le_u (kw_le_x7 (kw_le_u kw_le_rf)))))))) rfl rfl (n_X5 (by decide) (kw_blank' rfl) rfl rfl rfl) ?_
  refine kw_putF fX10_36 rfl rfl rfl rfl rfl dX10_init_56 ?_
  refine ab_aload_n 0 dX10_init_59 rfl rfl ?_
  refine kw_make (k2 := 6) (i2 := 0) (dy := 4) (my := 7) (sy := 224) (c' := _) kcX6 knX10_40 dX10_init_60 dX10_init_63 dX10_init_64 (Or.inl kmX10_42) rfl kiX6 ⟨by omega, by omega⟩ ⟨⟨Nat.le_of_ble_eq_true rfl, Nat.le_of_ble_eq_true rfl⟩, Nat.le_of_ble_eq_true rfl, Nat.le_of_ble_eq_true rfl⟩ (Nat.le_of_ble_eq_true rfl) hb.1 (kw_le_x5 (kw_le_u (kw_le_x2 (kw_le_u (kw_le_x2 (kw_le_u (kw_le_x1d (kw_le_u (kw_le_x7 (kw_le_u kw_le_rf)))))))))) rfl rfl (n_X6 (by decide) (kw_blank' rfl) rfl rfl rfl rfl rfl rfl rfl) ?_
  refine kw_putF fX10_43 rfl rfl rfl rfl rfl dX10_init_67 ?_
  refine ab_aload_n 0 dX10_init_70 rfl rfl ?_
  refine kw_make (k2 := 8) (i2 := 0) (dy := 4) (my := 2) (sy := 16) (c' := _) kcX8 knX10_47 dX10_init_71 dX10_init_74 dX10_init_75 (Or.inl kmX10_49) rfl kiX8 ⟨by omega, by omega⟩ ⟨⟨Nat.le_of_ble_eq_true rfl, Nat.le_of_ble_eq_true rfl⟩, Nat.le_of_ble_eq_true rfl, Nat.le_of_ble_eq_true rfl⟩ (Nat.le_of_ble_eq_true rfl) hb.1 (kw_le_x6 (kw_le_u (kw_le_x5 (kw_le_u (kw_le_x2 (kw_le_u (kw_le_x2 (kw_le_u (kw_le_x1d (kw_le_u (kw_le_x7 (kw_le_u kw_le_rf)))))))))))) rfl rfl (n_X8 (by decide) (kw_blank' rfl) rfl rfl) ?_
  refine kw_putF fX10_50 rfl rfl rfl rfl rfl dX10_init_78 ?_
  refine ab_aload_n 0 dX10_init_81 rfl rfl ?_
  refine kw_make (k2 := 3) (i2 := 0) (dy := 4) (my := 5) (sy := 72) (c' := _) kcX3 knX10_54 dX10_init_82 dX10_init_85 dX10_init_86 (Or.inl kmX10_56) rfl kiX3 ⟨by omega, by omega⟩ ⟨⟨Nat.le_of_ble_eq_true rfl, Nat.le_of_ble_eq_true rfl⟩, Nat.le_of_ble_eq_true rfl, Nat.le_of_ble_eq_true rfl⟩ (Nat.le_of_ble_eq_true rfl) hb.1 (kw_le_x8 (kw_le_u (kw_le_x6 (kw_le_u (kw_le_x5 (kw_le_u (kw_le_x2 (kw_le_u (kw_le_x2 (kw_le_u (kw_le_x1d (kw_le_u (kw_le_x7 (kw_le_u kw_le_rf)))))))))))))) rfl rfl (n_X3 (by decide) (kw_blank' rfl) rfl rfl rfl rfl rfl) ?_
  refine kw_putF fX10_57 rfl rfl rfl rfl rfl dX10_init_89 ?_
  refine ab_aload_n 0 dX10_init_92 rfl rfl ?_
  refine kw_make (k2 := 4) (i2 := 0) (dy := 4) (my := 15) (sy := 320) (c' := _) kcX4 knX10_61 dX10_init_93 dX10_init_96 dX10_init_97 (Or.inl kmX10_63) rfl kiX4 ⟨by omega, by omega⟩ ⟨⟨Nat.le_of_ble_eq_true rfl, Nat.le_of_ble_eq_true rfl⟩, Nat.le_of_ble_eq_true rfl, Nat.le_of_ble_eq_true rfl⟩ (Nat.le_of_ble_eq_true rfl) hb.1 (kw_le_x3 (kw_le_u (kw_le_x8 (kw_le_u (kw_le_x6 (kw_le_u (kw_le_x5 (kw_le_u (kw_le_x2 (kw_le_u (kw_le_x2 (kw_le_u (kw_le_x1d (kw_le_u (kw_le_x7 (kw_le_u kw_le_rf)))))))))))))))) rfl rfl (n_X4 (by decide) (kw_blank' rfl) rfl rfl rfl rfl rfl rfl rfl rfl rfl rfl rfl rfl rfl rfl rfl) ?_
  refine kw_putF fX10_64 rfl rfl rfl rfl rfl dX10_init_100 ?_
  refine ab_aload_n 0 dX10_init_103 rfl rfl ?_
  refine ab_iconst (v := 3) dX10_init_104 (by decide) ?_
  refine kw_newa (k2 := 38) (i2 := 0) (N := 3) (ty := .int) ⟨by decide, by decide⟩ rfl rfl (Or.inl rfl) ka_int (by decide) dX10_init_105 (by decide) (by decide) (by decide) ⟨Nat.le_of_ble_eq_true rfl, Nat.le_of_ble_eq_true rfl⟩ (by decide) rfl (kw_le_x4 (kw_le_u (kw_le_x3 (kw_le_u (kw_le_x8 (kw_le_u (kw_le_x6 (kw_le_u (kw_le_x5 (kw_le_u (kw_le_x2 (kw_le_u (kw_le_x2 (kw_le_u (kw_le_x1d (kw_le_u (kw_le_x7 (kw_le_u kw_le_rf)))))))))))))))))) ⟨fun _ => rfl, fun _ => rfl, fun _ => rfl, rfl⟩ ?_
  refine kw_putF fX10_68 rfl rfl rfl rfl rfl dX10_init_107 ?_
  refine ab_aload_n 0 dX10_init_110 rfl rfl ?_
  refine ab_iconst (v := (-1)) dX10_init_111 (by decide) ?_
  refine kw_putI fX10_72 rfl rfl dX10_init_112 ?_
  refine kw_ret dX10_init_115 rfl (fun j => ?_) (fun j => rfl) (fun j => ?_)
  · show _ = (match j with | 10 => (-1 : Int32) | _ => 0)
    split
    · rfl
    · simp_all [kw_f]
  · show _ = (match j with | 0 => some 0 | 1 => some 0 | 2 => some 9 | 3 => some 10 | 4 => some 0 | 5 => some 0 | 6 => some 0 | 7 => some 0 | 8 => some 0 | 9 => some 0 | _ => none)
    split
    · rfl
    · rfl
    · rfl
    · rfl
    · rfl
    · rfl
    · rfl
    · rfl
    · rfl
    · rfl
    · simp_all [kw_f]
end IG
