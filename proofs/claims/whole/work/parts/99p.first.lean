/-! THE REFERENCE IS MADE; THE LAW BEGINS -/
section IR
variable {g : ab_E} {d L : Nat} {xs : Nat → Int32} {w : ab_W}
theorem n_X11 (hd : 1 ≤ d) (hb : kw_b w 11 0) (hA : ∀ k, 39 ≤ k → k ≤ 62 → w.2.2.2.1 k = 0) : ab_C g mX11_init d 24 11512 [zR 11 0] w (ab_gives (kw_e (T0 xs L) w 11 0 (x11c w.2.2.2.1))) := by
  have h40 : w.2.2.2.1 40 ≤ 0 := Nat.le_of_eq (hA 40 (by decide) (by decide))
  refine ab_enter (by decide) (Nat.le_of_ble_eq_true rfl) rfl ?_
  refine ab_G.re (kw_begin (T := kw_tJ (T0 xs L) 40 0 (fun _ => 0)) hb) ?_
  refine ab_aload_n 0 dX11_init_0 rfl rfl ?_
  refine ab_objInit koX11 dX11_init_1 (by omega) (Nat.le_of_ble_eq_true rfl) ?_
  refine ab_aload_n 0 dX11_init_4 rfl rfl ?_
  refine ab_iconst (v := 3) dX11_init_5 (by decide) ?_
  refine kw_newa (k2 := 39) (i2 := 0) (N := 3) (ty := .int) ⟨by decide, by decide⟩ rfl rfl (Or.inl rfl) ka_int (by decide) dX11_init_6 (by decide) (by decide) (by decide) ⟨Nat.le_of_ble_eq_true rfl, Nat.le_of_ble_eq_true rfl⟩ (by decide) (hA 39 (by decide) (by decide)) kw_le_rf ⟨fun _ => rfl, fun _ => rfl, fun _ => rfl, rfl⟩ ?_
  refine kw_putF fX11_7 rfl rfl rfl rfl rfl dX11_init_8 ?_
  refine ab_aload_n 0 dX11_init_11 rfl rfl ?_
  refine ab_sipush (v := 773) dX11_init_12 (by decide) ?_
  refine kw_newa (k2 := 40) (i2 := 0) (N := 773) (ty := .long) ⟨by decide, by decide⟩ rfl rfl (Or.inr (Or.inl rfl)) ka_long (by decide) dX11_init_15 (by decide) (by decide) (by decide) ⟨Nat.le_of_ble_eq_true rfl, Nat.le_of_ble_eq_true rfl⟩ (by decide) (hA 40 (by decide) (by decide)) (kw_le_u kw_le_rf) ⟨fun _ => rfl, fun _ => rfl, fun _ => rfl, rfl⟩ ?_
  refine kw_putF fX11_17 rfl rfl rfl rfl rfl dX11_init_17 ?_
  refine ab_aload_n 0 dX11_init_20 rfl rfl ?_
  refine ab_sipush (v := 773) dX11_init_21 (by decide) ?_
  refine kw_newa (k2 := 41) (i2 := 0) (N := 773) (ty := .long) ⟨by decide, by decide⟩ rfl rfl (Or.inr (Or.inl rfl)) ka_long (by decide) dX11_init_24 (by decide) (by decide) (by decide) ⟨Nat.le_of_ble_eq_true rfl, Nat.le_of_ble_eq_true rfl⟩ (by decide) (hA 41 (by decide) (by decide)) (kw_le_u (kw_le_u kw_le_rf)) ⟨fun _ => rfl, fun _ => rfl, fun _ => rfl, rfl⟩ ?_
  refine kw_putF fX11_21 rfl rfl rfl rfl rfl dX11_init_26 ?_
  refine ab_aload_n 0 dX11_init_29 rfl rfl ?_
  refine ab_sipush (v := 773) dX11_init_30 (by decide) ?_
  refine kw_newa (k2 := 42) (i2 := 0) (N := 773) (ty := .long) ⟨by decide, by decide⟩ rfl rfl (Or.inr (Or.inl rfl)) ka_long (by decide) dX11_init_33 (by decide) (by decide) (by decide) ⟨Nat.le_of_ble_eq_true rfl, Nat.le_of_ble_eq_true rfl⟩ (by decide) (hA 42 (by decide) (by decide)) (kw_le_u (kw_le_u (kw_le_u kw_le_rf))) ⟨fun _ => rfl, fun _ => rfl, fun _ => rfl, rfl⟩ ?_
  refine kw_putF fX11_24 rfl rfl rfl rfl rfl dX11_init_35 ?_
  refine ab_aload_n 0 dX11_init_38 rfl rfl ?_
  refine ab_sipush (v := 6184) dX11_init_39 (by decide) ?_
  refine kw_newa (k2 := 43) (i2 := 0) (N := 6184) (ty := .long) ⟨by decide, by decide⟩ rfl rfl (Or.inr (Or.inl rfl)) ka_long (by decide) dX11_init_42 (by decide) (by decide) (by decide) ⟨Nat.le_of_ble_eq_true rfl, Nat.le_of_ble_eq_true rfl⟩ (by decide) (hA 43 (by decide) (by decide)) (kw_le_u (kw_le_u (kw_le_u (kw_le_u kw_le_rf)))) ⟨fun _ => rfl, fun _ => rfl, fun _ => rfl, rfl⟩ ?_
  refine kw_putF fX11_27 rfl rfl rfl rfl rfl dX11_init_44 ?_
  refine ab_aload_n 0 dX11_init_47 rfl rfl ?_
  refine ab_sipush (v := 500) dX11_init_48 (by decide) ?_
  refine kw_newa (k2 := 44) (i2 := 0) (N := 500) (ty := .byte) ⟨by decide, by decide⟩ rfl rfl (Or.inr (Or.inr (Or.inl rfl))) ka_byte (by decide) dX11_init_51 (by decide) (by decide) (by decide) ⟨Nat.le_of_ble_eq_true rfl, Nat.le_of_ble_eq_true rfl⟩ (by decide) (hA 44 (by decide) (by decide)) (kw_le_u (kw_le_u (kw_le_u (kw_le_u (kw_le_u kw_le_rf))))) ⟨fun _ => rfl, fun _ => rfl, fun _ => rfl, rfl⟩ ?_
  refine kw_putF fX11_30 rfl rfl rfl rfl rfl dX11_init_53 ?_
  refine ab_aload_n 0 dX11_init_56 rfl rfl ?_
  refine ab_sipush (v := 500) dX11_init_57 (by decide) ?_
  refine kw_newa (k2 := 45) (i2 := 0) (N := 500) (ty := .byte) ⟨by decide, by decide⟩ rfl rfl (Or.inr (Or.inr (Or.inl rfl))) ka_byte (by decide) dX11_init_60 (by decide) (by decide) (by decide) ⟨Nat.le_of_ble_eq_true rfl, Nat.le_of_ble_eq_true rfl⟩ (by decide) (hA 45 (by decide) (by decide)) (kw_le_u (kw_le_u (kw_le_u (kw_le_u (kw_le_u (kw_le_u kw_le_rf)))))) ⟨fun _ => rfl, fun _ => rfl, fun _ => rfl, rfl⟩ ?_
  refine kw_putF fX11_34 rfl rfl rfl rfl rfl dX11_init_62 ?_
  refine ab_aload_n 0 dX11_init_65 rfl rfl ?_
  refine ab_iconst (v := (-1)) dX11_init_66 (by decide) ?_
  refine kw_putI fX11_37 rfl rfl dX11_init_67 ?_
  refine ab_aload_n 0 dX11_init_70 rfl rfl ?_
  refine ab_sipush (v := 500) dX11_init_71 (by decide) ?_
  refine kw_newa (k2 := 46) (i2 := 0) (N := 500) (ty := .long) ⟨by decide, by decide⟩ rfl rfl (Or.inr (Or.inl rfl)) ka_long (by decide) dX11_init_74 (by decide) (by decide) (by decide) ⟨Nat.le_of_ble_eq_true rfl, Nat.le_of_ble_eq_true rfl⟩ (by decide) (hA 46 (by decide) (by decide)) (kw_le_u (kw_le_u (kw_le_u (kw_le_u (kw_le_u (kw_le_u (kw_le_u kw_le_rf))))))) ⟨fun _ => rfl, fun _ => rfl, fun _ => rfl, rfl⟩ ?_
  refine kw_putF fX11_40 rfl rfl rfl rfl rfl dX11_init_76 ?_
  refine ab_aload_n 0 dX11_init_79 rfl rfl ?_
  refine ab_bipush (v := 24) dX11_init_80 (by decide) ?_
  refine kw_newa (k2 := 47) (i2 := 0) (N := 24) (ty := .int) ⟨by decide, by decide⟩ rfl rfl (Or.inl rfl) ka_int (by decide) dX11_init_82 (by decide) (by decide) (by decide) ⟨Nat.le_of_ble_eq_true rfl, Nat.le_of_ble_eq_true rfl⟩ (by decide) (hA 47 (by decide) (by decide)) (kw_le_u (kw_le_u (kw_le_u (kw_le_u (kw_le_u (kw_le_u (kw_le_u (kw_le_u kw_le_rf)))))))) ⟨fun _ => rfl, fun _ => rfl, fun _ => rfl, rfl⟩ ?_
  refine kw_putF fX11_43 rfl rfl rfl rfl rfl dX11_init_84 ?_
  refine ab_aload_n 0 dX11_init_87 rfl rfl ?_
  refine ab_bipush (v := 24) dX11_init_88 (by decide) ?_
  refine kw_newa (k2 := 48) (i2 := 0) (N := 24) (ty := .long) ⟨by decide, by decide⟩ rfl rfl (Or.inr (Or.inl rfl)) ka_long (by decide) dX11_init_90 (by decide) (by decide) (by decide) ⟨Nat.le_of_ble_eq_true rfl, Nat.le_of_ble_eq_true rfl⟩ (by decide) (hA 48 (by decide) (by decide)) (kw_le_u (kw_le_u (kw_le_u (kw_le_u (kw_le_u (kw_le_u (kw_le_u (kw_le_u (kw_le_u kw_le_rf))))))))) ⟨fun _ => rfl, fun _ => rfl, fun _ => rfl, rfl⟩ ?_
  refine kw_putF fX11_46 rfl rfl rfl rfl rfl dX11_init_92 ?_
  refine ab_aload_n 0 dX11_init_95 rfl rfl ?_
  refine ab_bipush (v := 8) dX11_init_96 (by decide) ?_
  refine kw_newa (k2 := 49) (i2 := 0) (N := 8) (ty := .int) ⟨by decide, by decide⟩ rfl rfl (Or.inl rfl) ka_int (by decide) dX11_init_98 (by decide) (by decide) (by decide) ⟨Nat.le_of_ble_eq_true rfl, Nat.le_of_ble_eq_true rfl⟩ (by decide) (hA 49 (by decide) (by decide)) (kw_le_u (kw_le_u (kw_le_u (kw_le_u (kw_le_u (kw_le_u (kw_le_u (kw_le_u (kw_le_u (kw_le_u kw_le_rf)))))))))) ⟨fun _ => rfl, fun _ => rfl, fun _ => rfl, rfl⟩ ?_
  refine kw_putF fX11_49 rfl rfl rfl rfl rfl dX11_init_100 ?_
  refine ab_aload_n 0 dX11_init_103 rfl rfl ?_
  refine ab_bipush (v := 8) dX11_init_104 (by decide) ?_
  refine kw_newa (k2 := 50) (i2 := 0) (N := 8) (ty := .int) ⟨by decide, by decide⟩ rfl rfl (Or.inl rfl) ka_int (by decide) dX11_init_106 (by decide) (by decide) (by decide) ⟨Nat.le_of_ble_eq_true rfl, Nat.le_of_ble_eq_true rfl⟩ (by decide) (hA 50 (by decide) (by decide)) (kw_le_u (kw_le_u (kw_le_u (kw_le_u (kw_le_u (kw_le_u (kw_le_u (kw_le_u (kw_le_u (kw_le_u (kw_le_u kw_le_rf))))))))))) ⟨fun _ => rfl, fun _ => rfl, fun _ => rfl, rfl⟩ ?_
  refine kw_putF fX11_52 rfl rfl rfl rfl rfl dX11_init_108 ?_
  refine ab_aload_n 0 dX11_init_111 rfl rfl ?_
  refine ab_sipush (v := 576) dX11_init_112 (by decide) ?_
  refine kw_newa (k2 := 51) (i2 := 0) (N := 576) (ty := .int) ⟨by decide, by decide⟩ rfl rfl (Or.inl rfl) ka_int (by decide) dX11_init_115 (by decide) (by decide) (by decide) ⟨Nat.le_of_ble_eq_true rfl, Nat.le_of_ble_eq_true rfl⟩ (by decide) (hA 51 (by decide) (by decide)) (kw_le_u (kw_le_u (kw_le_u (kw_le_u (kw_le_u (kw_le_u (kw_le_u (kw_le_u (kw_le_u (kw_le_u (kw_le_u (kw_le_u kw_le_rf)))))))))))) ⟨fun _ => rfl, fun _ => rfl, fun _ => rfl, rfl⟩ ?_
  refine kw_putF fX11_55 rfl rfl rfl rfl rfl dX11_init_117 ?_
  refine ab_aload_n 0 dX11_init_120 rfl rfl ?_
  refine ab_sipush (v := 576) dX11_init_121 (by decide) ?_
  refine kw_newa (k2 := 52) (i2 := 0) (N := 576) (ty := .int) ⟨by decide, by decide⟩ rfl rfl (Or.inl rfl) ka_int (by decide) dX11_init_124 (by decide) (by decide) (by decide) ⟨Nat.le_of_ble_eq_true rfl, Nat.le_of_ble_eq_true rfl⟩ (by decide) (hA 52 (by decide) (by decide)) (kw_le_u (kw_le_u (kw_le_u (kw_le_u (kw_le_u (kw_le_u (kw_le_u (kw_le_u (kw_le_u (kw_le_u (kw_le_u (kw_le_u (kw_le_u kw_le_rf))))))))))))) ⟨fun _ => rfl, fun _ => rfl, fun _ => rfl, rfl⟩ ?_
  refine kw_putF fX11_58 rfl rfl rfl rfl rfl dX11_init_126 ?_
  refine ab_aload_n 0 dX11_init_129 rfl rfl ?_
  refine ab_bipush (v := 24) dX11_init_130 (by decide) ?_
  refine kw_newa (k2 := 53) (i2 := 0) (N := 24) (ty := .int) ⟨by decide, by decide⟩ rfl rfl (Or.inl rfl) ka_int (by decide) dX11_init_132 (by decide) (by decide) (by decide) ⟨Nat.le_of_ble_eq_true rfl, Nat.le_of_ble_eq_true rfl⟩ (by decide) (hA 53 (by decide) (by decide)) (kw_le_u (kw_le_u (kw_le_u (kw_le_u (kw_le_u (kw_le_u (kw_le_u (kw_le_u (kw_le_u (kw_le_u (kw_le_u (kw_le_u (kw_le_u (kw_le_u kw_le_rf)))))))))))))) ⟨fun _ => rfl, fun _ => rfl, fun _ => rfl, rfl⟩ ?_
  refine kw_putF fX11_61 rfl rfl rfl rfl rfl dX11_init_134 ?_
  refine ab_aload_n 0 dX11_init_137 rfl rfl ?_
  refine ab_bipush (v := 24) dX11_init_138 (by decide) ?_
  refine kw_newa (k2 := 54) (i2 := 0) (N := 24) (ty := .int) ⟨by decide, by decide⟩ rfl rfl (Or.inl rfl) ka_int (by decide) dX11_init_140 (by decide) (by decide) (by decide) ⟨Nat.le_of_ble_eq_true rfl, Nat.le_of_ble_eq_true rfl⟩ (by decide) (hA 54 (by decide) (by decide)) (kw_le_u (kw_le_u (kw_le_u (kw_le_u (kw_le_u (kw_le_u (kw_le_u (kw_le_u (kw_le_u (kw_le_u (kw_le_u (kw_le_u (kw_le_u (kw_le_u (kw_le_u kw_le_rf))))))))))))))) ⟨fun _ => rfl, fun _ => rfl, fun _ => rfl, rfl⟩ ?_
  refine kw_putF fX11_64 rfl rfl rfl rfl rfl dX11_init_142 ?_
  refine ab_aload_n 0 dX11_init_145 rfl rfl ?_
  refine ab_bipush (v := 24) dX11_init_146 (by decide) ?_
  refine kw_newa (k2 := 55) (i2 := 0) (N := 24) (ty := .boolean) ⟨by decide, by decide⟩ rfl rfl (Or.inr (Or.inr (Or.inr rfl))) ka_boolean (by decide) dX11_init_148 (by decide) (by decide) (by decide) ⟨Nat.le_of_ble_eq_true rfl, Nat.le_of_ble_eq_true rfl⟩ (by decide) (hA 55 (by decide) (by decide)) (kw_le_u (kw_le_u (kw_le_u (kw_le_u (kw_le_u (kw_le_u (kw_le_u (kw_le_u (kw_le_u (kw_le_u (kw_le_u (kw_le_u (kw_le_u (kw_le_u (kw_le_u (kw_le_u kw_le_rf)))))))))))))))) ⟨fun _ => rfl, fun _ => rfl, fun _ => rfl, rfl⟩ ?_
  refine kw_putF fX11_67 rfl rfl rfl rfl rfl dX11_init_150 ?_
  refine ab_aload_n 0 dX11_init_153 rfl rfl ?_
  refine ab_bipush (v := 40) dX11_init_154 (by decide) ?_
  refine kw_newa (k2 := 56) (i2 := 0) (N := 40) (ty := .int) ⟨by decide, by decide⟩ rfl rfl (Or.inl rfl) ka_int (by decide) dX11_init_156 (by decide) (by decide) (by decide) ⟨Nat.le_of_ble_eq_true rfl, Nat.le_of_ble_eq_true rfl⟩ (by decide) (hA 56 (by decide) (by decide)) (kw_le_u (kw_le_u (kw_le_u (kw_le_u (kw_le_u (kw_le_u (kw_le_u (kw_le_u (kw_le_u (kw_le_u (kw_le_u (kw_le_u (kw_le_u (kw_le_u (kw_le_u (kw_le_u (kw_le_u kw_le_rf))))))))))))))))) ⟨fun _ => rfl, fun _ => rfl, fun _ => rfl, rfl⟩ ?_
  refine kw_putF fX11_71 rfl rfl rfl rfl rfl dX11_init_158 ?_
  refine ab_aload_n 0 dX11_init_161 rfl rfl ?_
  refine ab_bipush (v := 40) dX11_init_162 (by decide) ?_
  refine kw_newa (k2 := 57) (i2 := 0) (N := 40) (ty := .int) ⟨by decide, by decide⟩ rfl rfl (Or.inl rfl) ka_int (by decide) dX11_init_164 (by decide) (by decide) (by decide) ⟨Nat.le_of_ble_eq_true rfl, Nat.le_of_ble_eq_true rfl⟩ (by decide) (hA 57 (by decide) (by decide)) (kw_le_u (kw_le_u (kw_le_u (kw_le_u (kw_le_u (kw_le_u (kw_le_u (kw_le_u (kw_le_u (kw_le_u (kw_le_u (kw_le_u (kw_le_u (kw_le_u (kw_le_u (kw_le_u (kw_le_u (kw_le_u kw_le_rf)))))))))))))))))) ⟨fun _ => rfl, fun _ => rfl, fun _ => rfl, rfl⟩ ?_
  refine kw_putF fX11_74 rfl rfl rfl rfl rfl dX11_init_166 ?_
  refine ab_aload_n 0 dX11_init_169 rfl rfl ?_
  refine ab_bipush (v := 9) dX11_init_170 (by decide) ?_
  refine kw_newa (k2 := 58) (i2 := 0) (N := 9) (ty := .int) ⟨by decide, by decide⟩ rfl rfl (Or.inl rfl) ka_int (by decide) dX11_init_172 (by decide) (by decide) (by decide) ⟨Nat.le_of_ble_eq_true rfl, Nat.le_of_ble_eq_true rfl⟩ (by decide) (hA 58 (by decide) (by decide)) (kw_le_u (kw_le_u (kw_le_u (kw_le_u (kw_le_u (kw_le_u (kw_le_u (kw_le_u (kw_le_u (kw_le_u (kw_le_u (kw_le_u (kw_le_u (kw_le_u (kw_le_u (kw_le_u (kw_le_u (kw_le_u (kw_le_u kw_le_rf))))))))))))))))))) ⟨fun _ => rfl, fun _ => rfl, fun _ => rfl, rfl⟩ ?_
  refine kw_putF fX11_77 rfl rfl rfl rfl rfl dX11_init_174 ?_
  refine ab_aload_n 0 dX11_init_177 rfl rfl ?_
  refine ab_bipush (v := 40) dX11_init_178 (by decide) ?_
  refine kw_newa (k2 := 59) (i2 := 0) (N := 40) (ty := .long) ⟨by decide, by decide⟩ rfl rfl (Or.inr (Or.inl rfl)) ka_long (by decide) dX11_init_180 (by decide) (by decide) (by decide) ⟨Nat.le_of_ble_eq_true rfl, Nat.le_of_ble_eq_true rfl⟩ (by decide) (hA 59 (by decide) (by decide)) (kw_le_u (kw_le_u (kw_le_u (kw_le_u (kw_le_u (kw_le_u (kw_le_u (kw_le_u (kw_le_u (kw_le_u (kw_le_u (kw_le_u (kw_le_u (kw_le_u (kw_le_u (kw_le_u (kw_le_u (kw_le_u (kw_le_u (kw_le_u kw_le_rf)))))))))))))))))))) ⟨fun _ => rfl, fun _ => rfl, fun _ => rfl, rfl⟩ ?_
  refine kw_putF fX11_80 rfl rfl rfl rfl rfl dX11_init_182 ?_
  refine ab_aload_n 0 dX11_init_185 rfl rfl ?_
  refine ab_bipush (v := 40) dX11_init_186 (by decide) ?_
  refine kw_newa (k2 := 60) (i2 := 0) (N := 40) (ty := .long) ⟨by decide, by decide⟩ rfl rfl (Or.inr (Or.inl rfl)) ka_long (by decide) dX11_init_188 (by decide) (by decide) (by decide) ⟨Nat.le_of_ble_eq_true rfl, Nat.le_of_ble_eq_true rfl⟩ (by decide) (hA 60 (by decide) (by decide)) (kw_le_u (kw_le_u (kw_le_u (kw_le_u (kw_le_u (kw_le_u (kw_le_u (kw_le_u (kw_le_u (kw_le_u (kw_le_u (kw_le_u (kw_le_u (kw_le_u (kw_le_u (kw_le_u (kw_le_u (kw_le_u (kw_le_u (kw_le_u (kw_le_u kw_le_rf))))))))))))))))))))) ⟨fun _ => rfl, fun _ => rfl, fun _ => rfl, rfl⟩ ?_
  refine kw_putF fX11_83 rfl rfl rfl rfl rfl dX11_init_190 ?_
  refine ab_aload_n 0 dX11_init_193 rfl rfl ?_
  refine ab_bipush (v := 40) dX11_init_194 (by decide) ?_
  refine kw_newa (k2 := 61) (i2 := 0) (N := 40) (ty := .long) ⟨by decide, by decide⟩ rfl rfl (Or.inr (Or.inl rfl)) ka_long (by decide) dX11_init_196 (by decide) (by decide) (by decide) ⟨Nat.le_of_ble_eq_true rfl, Nat.le_of_ble_eq_true rfl⟩ (by decide) (hA 61 (by decide) (by decide)) (kw_le_u (kw_le_u (kw_le_u (kw_le_u (kw_le_u (kw_le_u (kw_le_u (kw_le_u (kw_le_u (kw_le_u (kw_le_u (kw_le_u (kw_le_u (kw_le_u (kw_le_u (kw_le_u (kw_le_u (kw_le_u (kw_le_u (kw_le_u (kw_le_u (kw_le_u kw_le_rf)))))))))))))))))))))) ⟨fun _ => rfl, fun _ => rfl, fun _ => rfl, rfl⟩ ?_
  refine kw_putF fX11_86 rfl rfl rfl rfl rfl dX11_init_198 ?_
  refine ab_aload_n 0 dX11_init_201 rfl rfl ?_
  refine ab_bipush (v := 9) dX11_init_202 (by decide) ?_
  refine kw_newa (k2 := 62) (i2 := 0) (N := 9) (ty := .long) ⟨by decide, by decide⟩ rfl rfl (Or.inr (Or.inl rfl)) ka_long (by decide) dX11_init_204 (by decide) (by decide) (by decide) ⟨Nat.le_of_ble_eq_true rfl, Nat.le_of_ble_eq_true rfl⟩ (by decide) (hA 62 (by decide) (by decide)) (kw_le_u (kw_le_u (kw_le_u (kw_le_u (kw_le_u (kw_le_u (kw_le_u (kw_le_u (kw_le_u (kw_le_u (kw_le_u (kw_le_u (kw_le_u (kw_le_u (kw_le_u (kw_le_u (kw_le_u (kw_le_u (kw_le_u (kw_le_u (kw_le_u (kw_le_u (kw_le_u kw_le_rf))))))))))))))))))))))) ⟨fun _ => rfl, fun _ => rfl, fun _ => rfl, rfl⟩ ?_
  refine kw_putF fX11_89 rfl rfl rfl rfl rfl dX11_init_206 ?_
  -- now[3], now[5], now[6]
  refine ab_aload_n 0 dX11_init_209 rfl rfl (kw_getR fX11_17 rfl rfl dX11_init_210 rfl (ab_iconst (v := nI 3) dX11_init_213 (by decide) (ab_ldc2 (v := 100) (List.mem_of_getElem? (i := 1335) (by decide +kernel)) dX11_init_214 ?_)))
  refine ab_lastore (k := 40) (i := 0) (n := 773) ⟨by decide, by decide⟩ rfl rfl dX11_init_217 ((if_pos h40).trans rfl) (vp_in_nI (by decide) (by decide)) ?_
  rw [nI_clamp (by decide), kw_stJ h40 (by decide)]
  refine ab_aload_n 0 dX11_init_218 rfl rfl (kw_getR fX11_17 rfl rfl dX11_init_219 rfl (ab_iconst (v := nI 5) dX11_init_222 (by decide) (ab_lconst (v := 1) dX11_init_223 (by decide) ?_)))
  refine ab_lastore (k := 40) (i := 0) (n := 773) ⟨by decide, by decide⟩ rfl rfl dX11_init_224 ((if_pos h40).trans rfl) (vp_in_nI (by decide) (by decide)) ?_
  rw [nI_clamp (by decide), kw_stJ h40 (by decide)]
  refine ab_aload_n 0 dX11_init_225 rfl rfl (kw_getR fX11_17 rfl rfl dX11_init_226 rfl (ab_bipush (v := nI 6) dX11_init_229 (by decide) (ab_ldc2 (v := 4) (List.mem_of_getElem? (i := 1336) (by decide +kernel)) dX11_init_231 ?_)))
  refine ab_lastore (k := 40) (i := 0) (n := 773) ⟨by decide, by decide⟩ rfl rfl dX11_init_234 ((if_pos h40).trans rfl) (vp_in_nI (by decide) (by decide)) ?_
  rw [nI_clamp (by decide), kw_stJ h40 (by decide), kw_tJ_id (T := T0 xs L) (k := 40) (i := 0) (f := kw_f (kw_f (kw_f (fun _ => 0) 3 100) 5 1) 6 4) ?_]
  · refine kw_ret dX11_init_235 rfl (fun j => ?_) (fun j => rfl) (fun j => ?_)
    · show _ = (match j with | 15 => (-1 : Int32) | _ => 0)
      split
      · rfl
      · simp_all [kw_f]
    · show _ = (match j with | 1 => some 0 | 2 => some 0 | 3 => some 0 | 4 => some 0 | 5 => some 0 | 7 => some 0 | 8 => some 0 | 17 => some 0 | 18 => some 0 | 19 => some 0 | 20 => some 0 | 21 => some 0 | 23 => some 0 | 24 => some 0 | 25 => some 0 | 26 => some 0 | 27 => some 0 | 31 => some 0 | 32 => some 0 | 33 => some 0 | 34 => some 0 | 35 => some 0 | 36 => some 0 | 37 => some 0 | _ => none)
      split
      · rfl
      · rfl
      · rfl
      · rfl
      · rfl
      · rfl
      · rfl
      · rfl
      · rfl
      · rfl
      · rfl
      · rfl
      · rfl
      · rfl
      · rfl
      · rfl
      · rfl
      · rfl
      · rfl
      · rfl
      · rfl
      · rfl
      · rfl
      · rfl
      · simp_all [kw_f]
  · intro j
    show _ = (match j with | 3 => (100 : Int64) | 5 => 1 | 6 => 4 | _ => 0)
    split
    · rfl
    · rfl
    · rfl
    · simp_all [kw_f]
/-- an object that is made in a world that is else at its last -/
theorem kw_TT {T : ab_W} {c c' : Nat → Nat} {k : Nat} (h : T.2.2.2.2 k (c k) = 0) : kw_e T (ab_na (TT T c) k 0) k (c k) c' = TT T c' := by
  refine Prod.ext (funext fun a => funext fun b => funext fun j => ?_) (Prod.ext (funext fun a => funext fun b => funext fun j => ?_) (Prod.ext (funext fun a => funext fun b => funext fun j => ?_) (Prod.ext rfl (funext fun a => funext fun b => ?_))))
  · show (if a = k ∧ b = c k then T.1 k (c k) j else if (ab_na (TT T c) k 0).2.2.2.1 a ≤ b then T.1 a b j else if a = k ∧ b = c k then 0 else T.1 a b j) = T.1 a b j
    by_cases e : a = k ∧ b = c k
    · rw [if_pos e, e.1, e.2]
    · rw [if_neg e, if_neg e, ite_self]
  · show (if a = k ∧ b = c k then T.2.1 k (c k) j else if (ab_na (TT T c) k 0).2.2.2.1 a ≤ b then T.2.1 a b j else if a = k ∧ b = c k then 0 else T.2.1 a b j) = T.2.1 a b j
    by_cases e : a = k ∧ b = c k
    · rw [if_pos e, e.1, e.2]
    · rw [if_neg e, if_neg e, ite_self]
  · show (if a = k ∧ b = c k then T.2.2.1 k (c k) j else if (ab_na (TT T c) k 0).2.2.2.1 a ≤ b then T.2.2.1 a b j else if a = k ∧ b = c k then none else T.2.2.1 a b j) = T.2.2.1 a b j
    by_cases e : a = k ∧ b = c k
    · rw [if_pos e, e.1, e.2]
    · rw [if_neg e, if_neg e, ite_self]
  · show (if (ab_na (TT T c) k 0).2.2.2.1 a ≤ b then T.2.2.2.2 a b else if a = k ∧ b = c k then 0 else T.2.2.2.2 a b) = T.2.2.2.2 a b
    by_cases e : a = k ∧ b = c k
    · rw [if_pos e, e.1, e.2, h, ite_self]
    · rw [if_neg e, ite_self]
theorem na_TT {T : ab_W} {c : Nat → Nat} {k N : Nat} (h : kw_0 T k (c k) N) : ab_na (TT T c) k N = TT T (kw_u c k) := by
  refine Prod.ext (funext fun a => funext fun b => funext fun j => ?_) (Prod.ext (funext fun a => funext fun b => funext fun j => ?_) (Prod.ext (funext fun a => funext fun b => funext fun j => ?_) (Prod.ext rfl (funext fun a => funext fun b => ?_))))
  · show (if a = k ∧ b = c k then 0 else T.1 a b j) = T.1 a b j
    by_cases e : a = k ∧ b = c k
    · rw [if_pos e, e.1, e.2, h.1 j]
    · rw [if_neg e]
  · show (if a = k ∧ b = c k then 0 else T.2.1 a b j) = T.2.1 a b j
    by_cases e : a = k ∧ b = c k
    · rw [if_pos e, e.1, e.2, h.2.1 j]
    · rw [if_neg e]
  · show (if a = k ∧ b = c k then none else T.2.2.1 a b j) = T.2.2.1 a b j
    by_cases e : a = k ∧ b = c k
    · rw [if_pos e, e.1, e.2, h.2.2.1 j]
    · rw [if_neg e]
  · show (if a = k ∧ b = c k then N else T.2.2.2.2 a b) = T.2.2.2.2 a b
    by_cases e : a = k ∧ b = c k
    · rw [if_pos e, e.1, e.2, h.2.2.2]
    · rw [if_neg e]
/-- all is there -/
theorem c_all : kw_u (x11c (kw_u (x10c (kw_u c0 10)) 11)) 64 = gd_cnt 1 := by
  funext a
  by_cases h : a < 103
  · have : ∀ a, a < 103 → kw_u (x11c (kw_u (x10c (kw_u c0 10)) 11)) 64 a = gd_cnt 1 a := by decide +kernel
    exact this a h
  · have e1 : gd_cnt 1 a = 0 := by
      unfold gd_cnt
      split <;> first | rfl | omega
    have e2 : c0 a = 0 := by
      unfold c0
      split <;> first | rfl | omega
    rw [e1]
    have n : ∀ k, k < 103 → ¬ a = k := fun k hk q => h (by omega)
    have u : ∀ (c : Nat → Nat) (k : Nat), k < 103 → kw_u c k a = c a := fun c k hk => if_neg (n k hk)
    have v : ∀ (c : Nat → Nat) (k m : Nat), k < 103 → kw_n c k m a = c a := fun c k m hk => if_neg (n k hk)
    have x : ∀ (c : Nat → Nat) (m : Nat), x1c c m a = c a := fun c m => by
      unfold x1c
      rw [if_neg (n 2 (by decide)), if_neg (n 0 (by decide)), if_neg (n 9 (by decide)), if_neg (n 13 (by decide)), if_neg (n 14 (by decide))]
    unfold x11c x10c x4c x3c x8c x6c x5c x1d x7c x2c
    simp only [u _ _ (show 64 < 103 by decide), e2, u, v, x, show ∀ k, k < 65 → k < 103 from fun k hk => by omega, Nat.reduceLT]
end IR
