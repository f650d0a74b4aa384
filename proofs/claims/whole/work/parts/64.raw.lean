/-! Double.doubleToLongBits -/
abbrev yRaw : MethodName := ⟨"java/lang/Double", "doubleToRawLongBits", "(D)J"⟩
theorem raw_l : Cond.methodLink RJxe99ae 134 yRaw ∈ lw_tbl := List.mem_of_getElem? (i := 1835) (by decide +kernel)
theorem raw_s : Cond.static yRaw ∈ lw_tbl := List.mem_of_getElem? (i := 1836) (by decide +kernel)
theorem raw_n : Cond.native yRaw ∈ lw_tbl := List.mem_of_getElem? (i := 1837) (by decide +kernel)
theorem raw_i : Cond.initialized "java/lang/Double" ∈ lw_tbl := List.mem_of_getElem? (i := 139) (by decide +kernel)
theorem gd_raw {g : ab_E} {M : ab_M} {d bc bs pc : Nat} {L : List (Nat × ab_V)} {v : gd_D} {Q : ab_O → gd_D → Prop} {b : UInt64} {idx : Nat} (hl : Cond.methodLink M.1.cls idx yRaw ∈ lw_tbl) (hd : decode M.2.1 pc = .ok (.invokestatic idx, 3)) (hd1 : 1 ≤ d) (k : gd_G g M d bc bs (pc + 3) L [zJ b.toInt64] v Q) : gd_G g M d bc bs pc L [zD b] v Q := by
  intro Z p e R s m args below meth c mc ms X φ0 w0 φ H locs cells slots ls F
  obtain ⟨f1, f2, f3, f4, f5, f6, f7⟩ := F
  obtain ⟨x1, x2, x3, x4, x5, x6, x7, x8, x9, x10, x11, x12⟩ := X
  refine vn_d2l (rest := []) x1 x2 (by rw [x3, f5.1]) x4 (ab_word Z x7 hl rfl args) (ab_word Z x7 raw_n rfl args) (ab_word Z x7 raw_s rfl args) (ab_word Z x7 raw_i rfl args) (by omega) (by show 0 + 15 ≤ _; omega) hd ?_
  exact k Z p e R s m args below meth c mc ms ⟨x1, x2, x3, x4, x5, x6, x7, x8, x9, x10, x11, x12⟩ φ0 w0 φ H locs cells slots ls ⟨f1, f2, f3, f4, f5, f6, fun x hx => by
    rw [List.mem_singleton.mp hx]; exact ab_okJ⟩
def wp_Jxe99ae_isNaN_b9ae7 (g : ab_E) (d : Nat) (a0 : UInt64) (v : gd_D) (Q : ab_O → gd_D → Prop) : Prop :=
  (((Op.cmpValue (FP.dcmp a0 a0) .l : Int32) = 0) →
    Q (Sum.inl (some (zI 0))) v) ∧
  ((¬ (Op.cmpValue (FP.dcmp a0 a0) .l : Int32) = 0) →
    Q (Sum.inl (some (zI 1))) v)
theorem w_Jxe99ae_isNaN_b9ae7 {g : ab_E} {d : Nat} {a0 : UInt64} {v : gd_D} {Q : ab_O → gd_D → Prop} (hd : 0 ≤ d) (h : wp_Jxe99ae_isNaN_b9ae7 g d a0 v Q) : gd_G g mJxe99ae_isNaN_b9ae7 d 0 0 0 [(0, zD a0)] [] v Q := by
  unfold wp_Jxe99ae_isNaN_b9ae7 at h
  refine gd_dload_n 0 dJxe99ae_isNaN_b9ae7_0 rfl rfl ?_
  refine gd_dload_n 0 dJxe99ae_isNaN_b9ae7_1 rfl rfl ?_
  refine gd_dcmp dJxe99ae_isNaN_b9ae7_2 ?_
  refine gd_if_eq (tgt := 10) dJxe99ae_isNaN_b9ae7_3 (by decide) (fun hc => ?_) (fun hc => ?_)
  · have h := h.1 hc
    refine gd_iconst (x9 := 0) dJxe99ae_isNaN_b9ae7_10 (by decide) ?_
    exact gd_iret (ty := .boolean) dJxe99ae_isNaN_b9ae7_11 rfl rfl h
  · have h := h.2 hc
    refine gd_iconst (x9 := 1) dJxe99ae_isNaN_b9ae7_6 (by decide) ?_
    refine gd_goto (tgt := 11) dJxe99ae_isNaN_b9ae7_7 (by decide) ?_
    exact gd_iret (ty := .boolean) dJxe99ae_isNaN_b9ae7_11 rfl rfl h
theorem c_isNaN {g : ab_E} {d : Nat} {a0 : UInt64} {v : gd_D} {Q : ab_O → gd_D → Prop} (h : wp_Jxe99ae_isNaN_b9ae7 g d a0 v Q) : gd_C g mJxe99ae_isNaN_b9ae7 d 0 0 [zD a0] v Q := gd_enterF (by decide +kernel) (Nat.le_of_ble_eq_true rfl) rfl (w_Jxe99ae_isNaN_b9ae7 (Nat.zero_le _) h)
theorem c_d2lb {g : ab_E} {d : Nat} {a0 : UInt64} {v : gd_D} {Q : ab_O → gd_D → Prop} (hd : 2 ≤ d) (hn : Op.cmpValue (FP.dcmp a0 a0) .l = (0 : Int32)) (h : Q (Sum.inl (some (zJ a0.toInt64))) v) : gd_C g mJxe99ae_doubleToLongBits_ccdee d 0 0 [zD a0] v Q := by
  refine gd_enterF (L0 := [(0, zD a0)]) (by decide +kernel) (Nat.le_of_ble_eq_true rfl) rfl ?_
  refine gd_dload_n 0 dJxe99ae_doubleToLongBits_ccdee_0 rfl rfl ?_
  refine gd_callSI (As := [zD a0]) (rest := []) (dy := 1) (my := 0) (sy := 0) (K := fun r v9 => r = 0 ∧ v9 = v) lJxe99ae_122 tJxe99ae_isNaN_b9ae7 dJxe99ae_doubleToLongBits_ccdee_1 rfl rfl (gd_room (by omega) (by decide)) (by decide) (Nat.le_of_ble_eq_true rfl) (c_isNaN ⟨fun _ => ⟨rfl, rfl⟩, fun q => absurd hn q⟩) (fun r v9 q => ?_)
  obtain ⟨rfl, rfl⟩ := q
  refine gd_if_ne (tgt := 12) dJxe99ae_doubleToLongBits_ccdee_4 (by decide) (fun q => absurd rfl q) (fun _ => ?_)
  refine gd_dload_n 0 dJxe99ae_doubleToLongBits_ccdee_7 rfl rfl ?_
  refine gd_raw raw_l dJxe99ae_doubleToLongBits_ccdee_8 (by omega) ?_
  exact gd_lret dJxe99ae_doubleToLongBits_ccdee_11 rfl h
