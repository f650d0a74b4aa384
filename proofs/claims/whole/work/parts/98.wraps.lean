/-! THE LAW'S WRAPPERS: one call, its throws caught and numbered -/
def gd_CH (hh : List (Nat × Nat × Nat × Nat)) (g : ab_E) (M : ab_M) (d mc ms : Nat) (args : List ab_V) (v : gd_D) (Q : ab_O → gd_D → Prop) : Prop := ab_CH hh g M d mc ms args (gd_e v) (gd_Q Q)
/-- which exceptions are not which -/
def ab_N (g : ab_E) : Prop := va_Nc "java/lang/IllegalArgumentException" "java/util/NoSuchElementException" g.2.1 ∧ va_Nc "java/lang/IllegalStateException" "java/util/NoSuchElementException" g.2.1 ∧ va_Nc "java/lang/IllegalStateException" "java/lang/IllegalArgumentException" g.2.1 ∧ va_Nc "java/lang/IllegalArgumentException" "java/lang/IllegalStateException" g.2.1
theorem zL_13 : Cond.classLink RL 13 "java/lang/IllegalArgumentException" ∈ lw_tbl := List.mem_of_getElem? (i := 661) (by decide +kernel)
theorem zL_c13 : Cond.castable "java/lang/IllegalArgumentException" "java/lang/IllegalArgumentException" ∈ lw_tbl := List.mem_of_getElem? (i := 676) (by decide +kernel)
theorem zL_19 : Cond.classLink RL 19 "java/util/NoSuchElementException" ∈ lw_tbl := List.mem_of_getElem? (i := 945) (by decide +kernel)
theorem zL_c19 : Cond.castable "java/util/NoSuchElementException" "java/util/NoSuchElementException" ∈ lw_tbl := List.mem_of_getElem? (i := 961) (by decide +kernel)
theorem zL_21 : Cond.classLink RL 21 "java/lang/IllegalStateException" ∈ lw_tbl := List.mem_of_getElem? (i := 946) (by decide +kernel)
theorem zL_c21 : Cond.castable "java/lang/IllegalStateException" "java/lang/IllegalStateException" ∈ lw_tbl := List.mem_of_getElem? (i := 980) (by decide +kernel)
theorem zL_ini : Cond.initialized RL ∈ lw_tbl := List.mem_of_getElem? (i := 112) (by decide +kernel)
abbrev mL_text : ab_M := (yL_text, cL_text, 4, some .int)
abbrev hL_text : List (Nat × Nat × Nat × Nat) := [(0, 9, 12, 13)]
theorem wL_text : Cond.codeWith yL_text cL_text 4 (some .int) hL_text ∈ lw_tbl := List.mem_of_getElem? (i := 660) (by decide +kernel)
theorem tL_text : Cond.static yL_text ∈ lw_tbl := List.mem_of_getElem? (i := 659) (by decide +kernel)
theorem lL_84 : ab_mlH hL_text RL 84 mL_text 3 := ⟨List.mem_of_getElem? (i := 658) (by decide +kernel), wL_text, zL_ini, ⟨by decide, by decide⟩, by decide +kernel⟩
theorem uL_text {g : ab_E} {d dy my sy : Nat} {v : gd_D} {Q : ab_O → gd_D → Prop} {a1 : Int32} (hN : ab_N g) (hd : dy + 1 ≤ d) (h : gd_C g mX10_text dy my sy [zR 10 0, zI a1] v (gd_rI (fun (y : Int32) v' => Q (Sum.inl (some (zI 0))) (gd_sJ v' 64 0 0 y.toInt64)) (fun E v' => (E = "java/lang/IllegalArgumentException" ∧ Q (Sum.inl (some (zI 1))) v')))) : gd_CH hL_text g mL_text d my sy [zR 10 0, zI a1, zR 64 0] v Q := by
  refine ab_enterH wL_text (by decide) (Nat.le_of_ble_eq_true rfl) rfl ?_
  refine ab_aload_nH 2 dL_text_0 rfl rfl ?_
  refine ab_iconstH (v := 0) dL_text_1 rfl ?_
  refine ab_aload_nH 0 dL_text_2 rfl rfl ?_
  refine ab_iload_nH 1 dL_text_3 rfl rfl ?_
  refine ab_callVH (N := mX10_text) (dy := dy) (my := my) (sy := sy) (k := 10) (i := 0) (As := [zI a1]) (rest := [zI 0, zR 64 0]) lL_7 iX10_text sX10_text rfl dL_text_4 rfl rfl ⟨hd, by show 8 + (2 + 11) + 60 * dy ≤ 60 * d; omega⟩ ⟨Nat.le_refl _, Nat.le_refl _⟩ (Nat.le_of_ble_eq_true rfl) h ?_ ?_
  · rintro x w' ⟨v', rfl, hq⟩
    refine gd_rI_k (P := fun x v' => ab_GH hL_text g mL_text d (my - my) (sy - sy) 7 [(0, zR 10 0), (1, zI a1), (2, zR 64 0)] (x.toList ++ [zI 0, zR 64 0]) (gd_e v') (gd_Q Q)) (fun y v' hq => ?_) x v' hq
    refine ab_i2lH dL_text_7 ?_
    refine ab_lastoreH (k := 64) (i := 0) (n := 1) ⟨by decide, by decide⟩ rfl rfl dL_text_8 rfl (nu_in (n := 0) (by decide) (by decide)) ?_
    refine ab_gotoH dL_text_9 (tgt := 15) (by decide) ?_
    exact ab_iconstH (v := 0) dL_text_15 rfl (ab_iretH dL_text_16 rfl rfl ⟨gd_sJ v' 64 0 0 y.toInt64, rfl, hq⟩)
  · rintro E w' ⟨v', rfl, hq⟩
    have hq2 : (E = "java/lang/IllegalArgumentException" ∧ Q (Sum.inl (some (zI 1))) v') := hq
    rcases hq2 with ⟨rfl, hq2⟩
    · exact ⟨[], ⟨0, 9, 12, 13⟩, [], "java/lang/IllegalArgumentException", 3, 1, rfl, (fun z hz => by cases hz), rfl, by decide, zL_13, zL_c13, Nat.le_of_ble_eq_true rfl, Or.inl ⟨3, rfl, dL_text_12, rfl⟩, ab_iconstH (v := 1) dL_text_13 rfl (ab_iretH dL_text_14 rfl rfl ⟨v', rfl, hq2⟩)⟩
abbrev mL_sale : ab_M := (yL_sale, cL_sale, 8, some .int)
abbrev hL_sale : List (Nat × Nat × Nat × Nat) := [(0, 16, 19, 19), (0, 16, 23, 13), (0, 16, 27, 21)]
theorem wL_sale : Cond.codeWith yL_sale cL_sale 8 (some .int) hL_sale ∈ lw_tbl := List.mem_of_getElem? (i := 944) (by decide +kernel)
theorem tL_sale : Cond.static yL_sale ∈ lw_tbl := List.mem_of_getElem? (i := 943) (by decide +kernel)
theorem lL_97 : ab_mlH hL_sale RL 97 mL_sale 7 := ⟨List.mem_of_getElem? (i := 942) (by decide +kernel), wL_sale, zL_ini, ⟨by decide, by decide⟩, by decide +kernel⟩
theorem uL_sale {g : ab_E} {d dy my sy : Nat} {v : gd_D} {Q : ab_O → gd_D → Prop} {a1 : Int32} {a2 : Int32} {a3 : Int32} {a4 : Int32} {a5 : Int32} (hN : ab_N g) (hd : dy + 1 ≤ d) (h : gd_C g mX10_sale dy my sy [zR 10 0, zI a1, zI a2, zI a3, zI a4, zI a5] v (gd_rI (fun (y : Int32) v' => Q (Sum.inl (some (zI 0))) (gd_sJ v' 64 0 0 y.toInt64)) (fun E v' => (E = "java/util/NoSuchElementException" ∧ Q (Sum.inl (some (zI 1))) v') ∨ (E = "java/lang/IllegalArgumentException" ∧ Q (Sum.inl (some (zI 2))) v') ∨ (E = "java/lang/IllegalStateException" ∧ Q (Sum.inl (some (zI 3))) v')))) : gd_CH hL_sale g mL_sale d my sy [zR 10 0, zI a1, zI a2, zI a3, zI a4, zI a5, zR 64 0] v Q := by
  refine ab_enterH wL_sale (by decide) (Nat.le_of_ble_eq_true rfl) rfl ?_
  refine ab_aloadH 6 dL_sale_0 rfl ?_
  refine ab_iconstH (v := 0) dL_sale_2 rfl ?_
  refine ab_aload_nH 0 dL_sale_3 rfl rfl ?_
  refine ab_iload_nH 1 dL_sale_4 rfl rfl ?_
  refine ab_iload_nH 2 dL_sale_5 rfl rfl ?_
  refine ab_iload_nH 3 dL_sale_6 rfl rfl ?_
  refine ab_iloadH 4 dL_sale_7 rfl ?_
  refine ab_iloadH 5 dL_sale_9 rfl ?_
  refine ab_callVH (N := mX10_sale) (dy := dy) (my := my) (sy := sy) (k := 10) (i := 0) (As := [zI a1, zI a2, zI a3, zI a4, zI a5]) (rest := [zI 0, zR 64 0]) lL_15 iX10_sale sX10_sale rfl dL_sale_11 rfl rfl ⟨hd, by show 8 + (6 + 11) + 60 * dy ≤ 60 * d; omega⟩ ⟨Nat.le_refl _, Nat.le_refl _⟩ (Nat.le_of_ble_eq_true rfl) h ?_ ?_
  · rintro x w' ⟨v', rfl, hq⟩
    refine gd_rI_k (P := fun x v' => ab_GH hL_sale g mL_sale d (my - my) (sy - sy) 14 [(0, zR 10 0), (1, zI a1), (2, zI a2), (3, zI a3), (4, zI a4), (5, zI a5), (6, zR 64 0)] (x.toList ++ [zI 0, zR 64 0]) (gd_e v') (gd_Q Q)) (fun y v' hq => ?_) x v' hq
    refine ab_i2lH dL_sale_14 ?_
    refine ab_lastoreH (k := 64) (i := 0) (n := 1) ⟨by decide, by decide⟩ rfl rfl dL_sale_15 rfl (nu_in (n := 0) (by decide) (by decide)) ?_
    refine ab_gotoH dL_sale_16 (tgt := 31) (by decide) ?_
    exact ab_iconstH (v := 0) dL_sale_31 rfl (ab_iretH dL_sale_32 rfl rfl ⟨gd_sJ v' 64 0 0 y.toInt64, rfl, hq⟩)
  · rintro E w' ⟨v', rfl, hq⟩
    have hq2 : (E = "java/util/NoSuchElementException" ∧ Q (Sum.inl (some (zI 1))) v') ∨ (E = "java/lang/IllegalArgumentException" ∧ Q (Sum.inl (some (zI 2))) v') ∨ (E = "java/lang/IllegalStateException" ∧ Q (Sum.inl (some (zI 3))) v') := hq
    rcases hq2 with ⟨rfl, hq2⟩ | ⟨rfl, hq2⟩ | ⟨rfl, hq2⟩
    · exact ⟨[], ⟨0, 16, 19, 19⟩, [⟨0, 16, 23, 13⟩, ⟨0, 16, 27, 21⟩], "java/util/NoSuchElementException", 7, 2, rfl, (fun z hz => by cases hz), rfl, by decide, zL_19, zL_c19, Nat.le_of_ble_eq_true rfl, Or.inr ⟨dL_sale_19, rfl⟩, ab_iconstH (v := 1) dL_sale_21 rfl (ab_iretH dL_sale_22 rfl rfl ⟨v', rfl, hq2⟩)⟩
    · exact ⟨[⟨0, 16, 19, 19⟩], ⟨0, 16, 23, 13⟩, [⟨0, 16, 27, 21⟩], "java/lang/IllegalArgumentException", 7, 2, rfl, (fun z hz => by
      simp only [List.mem_cons, List.not_mem_nil, or_false] at hz
      rcases hz with rfl
      · exact ⟨by decide, "java/util/NoSuchElementException", zL_19, hN.1⟩
      ), rfl, by decide, zL_13, zL_c13, Nat.le_of_ble_eq_true rfl, Or.inr ⟨dL_sale_23, rfl⟩, ab_iconstH (v := 2) dL_sale_25 rfl (ab_iretH dL_sale_26 rfl rfl ⟨v', rfl, hq2⟩)⟩
    · exact ⟨[⟨0, 16, 19, 19⟩, ⟨0, 16, 23, 13⟩], ⟨0, 16, 27, 21⟩, [], "java/lang/IllegalStateException", 7, 2, rfl, (fun z hz => by
      simp only [List.mem_cons, List.not_mem_nil, or_false] at hz
      rcases hz with rfl | rfl
      · exact ⟨by decide, "java/util/NoSuchElementException", zL_19, hN.2.1⟩
      · exact ⟨by decide, "java/lang/IllegalArgumentException", zL_13, hN.2.2.1⟩
      ), rfl, by decide, zL_21, zL_c21, Nat.le_of_ble_eq_true rfl, Or.inr ⟨dL_sale_27, rfl⟩, ab_iconstH (v := 3) dL_sale_29 rfl (ab_iretH dL_sale_30 rfl rfl ⟨v', rfl, hq2⟩)⟩
abbrev mL_stock : ab_M := (yL_stock, cL_stock, 5, some .int)
abbrev hL_stock : List (Nat × Nat × Nat × Nat) := [(0, 10, 13, 19), (0, 10, 17, 13)]
theorem wL_stock : Cond.codeWith yL_stock cL_stock 5 (some .int) hL_stock ∈ lw_tbl := List.mem_of_getElem? (i := 996) (by decide +kernel)
theorem tL_stock : Cond.static yL_stock ∈ lw_tbl := List.mem_of_getElem? (i := 995) (by decide +kernel)
theorem lL_101 : ab_mlH hL_stock RL 101 mL_stock 4 := ⟨List.mem_of_getElem? (i := 994) (by decide +kernel), wL_stock, zL_ini, ⟨by decide, by decide⟩, by decide +kernel⟩
theorem uL_stock {g : ab_E} {d dy my sy : Nat} {v : gd_D} {Q : ab_O → gd_D → Prop} {a1 : Int32} {a2 : Int32} (hN : ab_N g) (hd : dy + 1 ≤ d) (h : gd_C g mX10_stock dy my sy [zR 10 0, zI a1, zI a2] v (gd_rI (fun (y : Int32) v' => Q (Sum.inl (some (zI 0))) (gd_sJ v' 64 0 0 y.toInt64)) (fun E v' => (E = "java/util/NoSuchElementException" ∧ Q (Sum.inl (some (zI 1))) v') ∨ (E = "java/lang/IllegalArgumentException" ∧ Q (Sum.inl (some (zI 2))) v')))) : gd_CH hL_stock g mL_stock d my sy [zR 10 0, zI a1, zI a2, zR 64 0] v Q := by
  refine ab_enterH wL_stock (by decide) (Nat.le_of_ble_eq_true rfl) rfl ?_
  refine ab_aload_nH 3 dL_stock_0 rfl rfl ?_
  refine ab_iconstH (v := 0) dL_stock_1 rfl ?_
  refine ab_aload_nH 0 dL_stock_2 rfl rfl ?_
  refine ab_iload_nH 1 dL_stock_3 rfl rfl ?_
  refine ab_iload_nH 2 dL_stock_4 rfl rfl ?_
  refine ab_callVH (N := mX10_stock) (dy := dy) (my := my) (sy := sy) (k := 10) (i := 0) (As := [zI a1, zI a2]) (rest := [zI 0, zR 64 0]) lL_23 iX10_stock sX10_stock rfl dL_stock_5 rfl rfl ⟨hd, by show 8 + (4 + 11) + 60 * dy ≤ 60 * d; omega⟩ ⟨Nat.le_refl _, Nat.le_refl _⟩ (Nat.le_of_ble_eq_true rfl) h ?_ ?_
  · rintro x w' ⟨v', rfl, hq⟩
    refine gd_rI_k (P := fun x v' => ab_GH hL_stock g mL_stock d (my - my) (sy - sy) 8 [(0, zR 10 0), (1, zI a1), (2, zI a2), (3, zR 64 0)] (x.toList ++ [zI 0, zR 64 0]) (gd_e v') (gd_Q Q)) (fun y v' hq => ?_) x v' hq
    refine ab_i2lH dL_stock_8 ?_
    refine ab_lastoreH (k := 64) (i := 0) (n := 1) ⟨by decide, by decide⟩ rfl rfl dL_stock_9 rfl (nu_in (n := 0) (by decide) (by decide)) ?_
    refine ab_gotoH dL_stock_10 (tgt := 21) (by decide) ?_
    exact ab_iconstH (v := 0) dL_stock_21 rfl (ab_iretH dL_stock_22 rfl rfl ⟨gd_sJ v' 64 0 0 y.toInt64, rfl, hq⟩)
  · rintro E w' ⟨v', rfl, hq⟩
    have hq2 : (E = "java/util/NoSuchElementException" ∧ Q (Sum.inl (some (zI 1))) v') ∨ (E = "java/lang/IllegalArgumentException" ∧ Q (Sum.inl (some (zI 2))) v') := hq
    rcases hq2 with ⟨rfl, hq2⟩ | ⟨rfl, hq2⟩
    · exact ⟨[], ⟨0, 10, 13, 19⟩, [⟨0, 10, 17, 13⟩], "java/util/NoSuchElementException", 4, 2, rfl, (fun z hz => by cases hz), rfl, by decide, zL_19, zL_c19, Nat.le_of_ble_eq_true rfl, Or.inr ⟨dL_stock_13, rfl⟩, ab_iconstH (v := 1) dL_stock_15 rfl (ab_iretH dL_stock_16 rfl rfl ⟨v', rfl, hq2⟩)⟩
    · exact ⟨[⟨0, 10, 13, 19⟩], ⟨0, 10, 17, 13⟩, [], "java/lang/IllegalArgumentException", 4, 2, rfl, (fun z hz => by
      simp only [List.mem_cons, List.not_mem_nil, or_false] at hz
      rcases hz with rfl
      · exact ⟨by decide, "java/util/NoSuchElementException", zL_19, hN.1⟩
      ), rfl, by decide, zL_13, zL_c13, Nat.le_of_ble_eq_true rfl, Or.inr ⟨dL_stock_17, rfl⟩, ab_iconstH (v := 2) dL_stock_19 rfl (ab_iretH dL_stock_20 rfl rfl ⟨v', rfl, hq2⟩)⟩
abbrev mL_mark : ab_M := (yL_mark, cL_mark, 4, some .int)
abbrev hL_mark : List (Nat × Nat × Nat × Nat) := [(0, 9, 12, 13)]
theorem wL_mark : Cond.codeWith yL_mark cL_mark 4 (some .int) hL_mark ∈ lw_tbl := List.mem_of_getElem? (i := 1004) (by decide +kernel)
theorem tL_mark : Cond.static yL_mark ∈ lw_tbl := List.mem_of_getElem? (i := 1003) (by decide +kernel)
theorem lL_105 : ab_mlH hL_mark RL 105 mL_mark 3 := ⟨List.mem_of_getElem? (i := 1002) (by decide +kernel), wL_mark, zL_ini, ⟨by decide, by decide⟩, by decide +kernel⟩
theorem uL_mark {g : ab_E} {d dy my sy : Nat} {v : gd_D} {Q : ab_O → gd_D → Prop} {a1 : Int32} (hN : ab_N g) (hd : dy + 1 ≤ d) (h : gd_C g mX10_mark dy my sy [zR 10 0, zI a1] v (gd_rI (fun (y : Int32) v' => Q (Sum.inl (some (zI 0))) (gd_sJ v' 64 0 0 y.toInt64)) (fun E v' => (E = "java/lang/IllegalArgumentException" ∧ Q (Sum.inl (some (zI 1))) v')))) : gd_CH hL_mark g mL_mark d my sy [zR 10 0, zI a1, zR 64 0] v Q := by
  refine ab_enterH wL_mark (by decide) (Nat.le_of_ble_eq_true rfl) rfl ?_
  refine ab_aload_nH 2 dL_mark_0 rfl rfl ?_
  refine ab_iconstH (v := 0) dL_mark_1 rfl ?_
  refine ab_aload_nH 0 dL_mark_2 rfl rfl ?_
  refine ab_iload_nH 1 dL_mark_3 rfl rfl ?_
  refine ab_callVH (N := mX10_mark) (dy := dy) (my := my) (sy := sy) (k := 10) (i := 0) (As := [zI a1]) (rest := [zI 0, zR 64 0]) lL_27 iX10_mark sX10_mark rfl dL_mark_4 rfl rfl ⟨hd, by show 8 + (3 + 11) + 60 * dy ≤ 60 * d; omega⟩ ⟨Nat.le_refl _, Nat.le_refl _⟩ (Nat.le_of_ble_eq_true rfl) h ?_ ?_
  · rintro x w' ⟨v', rfl, hq⟩
    refine gd_rI_k (P := fun x v' => ab_GH hL_mark g mL_mark d (my - my) (sy - sy) 7 [(0, zR 10 0), (1, zI a1), (2, zR 64 0)] (x.toList ++ [zI 0, zR 64 0]) (gd_e v') (gd_Q Q)) (fun y v' hq => ?_) x v' hq
    refine ab_i2lH dL_mark_7 ?_
    refine ab_lastoreH (k := 64) (i := 0) (n := 1) ⟨by decide, by decide⟩ rfl rfl dL_mark_8 rfl (nu_in (n := 0) (by decide) (by decide)) ?_
    refine ab_gotoH dL_mark_9 (tgt := 15) (by decide) ?_
    exact ab_iconstH (v := 0) dL_mark_15 rfl (ab_iretH dL_mark_16 rfl rfl ⟨gd_sJ v' 64 0 0 y.toInt64, rfl, hq⟩)
  · rintro E w' ⟨v', rfl, hq⟩
    have hq2 : (E = "java/lang/IllegalArgumentException" ∧ Q (Sum.inl (some (zI 1))) v') := hq
    rcases hq2 with ⟨rfl, hq2⟩
    · exact ⟨[], ⟨0, 9, 12, 13⟩, [], "java/lang/IllegalArgumentException", 3, 1, rfl, (fun z hz => by cases hz), rfl, by decide, zL_13, zL_c13, Nat.le_of_ble_eq_true rfl, Or.inl ⟨3, rfl, dL_mark_12, rfl⟩, ab_iconstH (v := 1) dL_mark_13 rfl (ab_iretH dL_mark_14 rfl rfl ⟨v', rfl, hq2⟩)⟩
abbrev mL_night : ab_M := (yL_night, cL_night, 3, some .int)
abbrev hL_night : List (Nat × Nat × Nat × Nat) := [(0, 8, 11, 21)]
theorem wL_night : Cond.codeWith yL_night cL_night 3 (some .int) hL_night ∈ lw_tbl := List.mem_of_getElem? (i := 1011) (by decide +kernel)
theorem tL_night : Cond.static yL_night ∈ lw_tbl := List.mem_of_getElem? (i := 1010) (by decide +kernel)
theorem lL_108 : ab_mlH hL_night RL 108 mL_night 2 := ⟨List.mem_of_getElem? (i := 1009) (by decide +kernel), wL_night, zL_ini, ⟨by decide, by decide⟩, by decide +kernel⟩
theorem uL_night {g : ab_E} {d dy my sy : Nat} {v : gd_D} {Q : ab_O → gd_D → Prop} (hN : ab_N g) (hd : dy + 1 ≤ d) (h : gd_C g mX10_night dy my sy [zR 10 0] v (gd_rI (fun (y : Int32) v' => Q (Sum.inl (some (zI 0))) (gd_sJ v' 64 0 0 y.toInt64)) (fun E v' => (E = "java/lang/IllegalStateException" ∧ Q (Sum.inl (some (zI 1))) v')))) : gd_CH hL_night g mL_night d my sy [zR 10 0, zR 64 0] v Q := by
  refine ab_enterH wL_night (by decide) (Nat.le_of_ble_eq_true rfl) rfl ?_
  refine ab_aload_nH 1 dL_night_0 rfl rfl ?_
  refine ab_iconstH (v := 0) dL_night_1 rfl ?_
  refine ab_aload_nH 0 dL_night_2 rfl rfl ?_
  refine ab_callVH (N := mX10_night) (dy := dy) (my := my) (sy := sy) (k := 10) (i := 0) (As := []) (rest := [zI 0, zR 64 0]) lL_30 iX10_night sX10_night rfl dL_night_3 rfl rfl ⟨hd, by show 8 + (1 + 11) + 60 * dy ≤ 60 * d; omega⟩ ⟨Nat.le_refl _, Nat.le_refl _⟩ (Nat.le_of_ble_eq_true rfl) h ?_ ?_
  · rintro x w' ⟨v', rfl, hq⟩
    refine gd_rI_k (P := fun x v' => ab_GH hL_night g mL_night d (my - my) (sy - sy) 6 [(0, zR 10 0), (1, zR 64 0)] (x.toList ++ [zI 0, zR 64 0]) (gd_e v') (gd_Q Q)) (fun y v' hq => ?_) x v' hq
    refine ab_i2lH dL_night_6 ?_
    refine ab_lastoreH (k := 64) (i := 0) (n := 1) ⟨by decide, by decide⟩ rfl rfl dL_night_7 rfl (nu_in (n := 0) (by decide) (by decide)) ?_
    refine ab_gotoH dL_night_8 (tgt := 14) (by decide) ?_
    exact ab_iconstH (v := 0) dL_night_14 rfl (ab_iretH dL_night_15 rfl rfl ⟨gd_sJ v' 64 0 0 y.toInt64, rfl, hq⟩)
  · rintro E w' ⟨v', rfl, hq⟩
    have hq2 : (E = "java/lang/IllegalStateException" ∧ Q (Sum.inl (some (zI 1))) v') := hq
    rcases hq2 with ⟨rfl, hq2⟩
    · exact ⟨[], ⟨0, 8, 11, 21⟩, [], "java/lang/IllegalStateException", 2, 1, rfl, (fun z hz => by cases hz), rfl, by decide, zL_21, zL_c21, Nat.le_of_ble_eq_true rfl, Or.inl ⟨2, rfl, dL_night_11, rfl⟩, ab_iconstH (v := 1) dL_night_12 rfl (ab_iretH dL_night_13 rfl rfl ⟨v', rfl, hq2⟩)⟩
abbrev mL_buyin : ab_M := (yL_buyin, cL_buyin, 5, some .int)
abbrev hL_buyin : List (Nat × Nat × Nat × Nat) := [(0, 10, 13, 19), (0, 10, 17, 21), (0, 10, 21, 13)]
theorem wL_buyin : Cond.codeWith yL_buyin cL_buyin 5 (some .int) hL_buyin ∈ lw_tbl := List.mem_of_getElem? (i := 1161) (by decide +kernel)
theorem tL_buyin : Cond.static yL_buyin ∈ lw_tbl := List.mem_of_getElem? (i := 1160) (by decide +kernel)
theorem lL_112 : ab_mlH hL_buyin RL 112 mL_buyin 4 := ⟨List.mem_of_getElem? (i := 1159) (by decide +kernel), wL_buyin, zL_ini, ⟨by decide, by decide⟩, by decide +kernel⟩
theorem uL_buyin {g : ab_E} {d dy my sy : Nat} {v : gd_D} {Q : ab_O → gd_D → Prop} {a1 : Int32} {a2 : Int32} (hN : ab_N g) (hd : dy + 1 ≤ d) (h : gd_C g mX10_buyin dy my sy [zR 10 0, zI a1, zI a2] v (gd_rI (fun (y : Int32) v' => Q (Sum.inl (some (zI 0))) (gd_sJ v' 64 0 0 y.toInt64)) (fun E v' => (E = "java/util/NoSuchElementException" ∧ Q (Sum.inl (some (zI 1))) v') ∨ (E = "java/lang/IllegalStateException" ∧ Q (Sum.inl (some (zI 2))) v') ∨ (E = "java/lang/IllegalArgumentException" ∧ Q (Sum.inl (some (zI 3))) v')))) : gd_CH hL_buyin g mL_buyin d my sy [zR 10 0, zI a1, zI a2, zR 64 0] v Q := by
  refine ab_enterH wL_buyin (by decide) (Nat.le_of_ble_eq_true rfl) rfl ?_
  refine ab_aload_nH 3 dL_buyin_0 rfl rfl ?_
  refine ab_iconstH (v := 0) dL_buyin_1 rfl ?_
  refine ab_aload_nH 0 dL_buyin_2 rfl rfl ?_
  refine ab_iload_nH 1 dL_buyin_3 rfl rfl ?_
  refine ab_iload_nH 2 dL_buyin_4 rfl rfl ?_
  refine ab_callVH (N := mX10_buyin) (dy := dy) (my := my) (sy := sy) (k := 10) (i := 0) (As := [zI a1, zI a2]) (rest := [zI 0, zR 64 0]) lL_34 iX10_buyin sX10_buyin rfl dL_buyin_5 rfl rfl ⟨hd, by show 8 + (3 + 11) + 60 * dy ≤ 60 * d; omega⟩ ⟨Nat.le_refl _, Nat.le_refl _⟩ (Nat.le_of_ble_eq_true rfl) h ?_ ?_
  · rintro x w' ⟨v', rfl, hq⟩
    refine gd_rI_k (P := fun x v' => ab_GH hL_buyin g mL_buyin d (my - my) (sy - sy) 8 [(0, zR 10 0), (1, zI a1), (2, zI a2), (3, zR 64 0)] (x.toList ++ [zI 0, zR 64 0]) (gd_e v') (gd_Q Q)) (fun y v' hq => ?_) x v' hq
    refine ab_i2lH dL_buyin_8 ?_
    refine ab_lastoreH (k := 64) (i := 0) (n := 1) ⟨by decide, by decide⟩ rfl rfl dL_buyin_9 rfl (nu_in (n := 0) (by decide) (by decide)) ?_
    refine ab_gotoH dL_buyin_10 (tgt := 25) (by decide) ?_
    exact ab_iconstH (v := 0) dL_buyin_25 rfl (ab_iretH dL_buyin_26 rfl rfl ⟨gd_sJ v' 64 0 0 y.toInt64, rfl, hq⟩)
  · rintro E w' ⟨v', rfl, hq⟩
    have hq2 : (E = "java/util/NoSuchElementException" ∧ Q (Sum.inl (some (zI 1))) v') ∨ (E = "java/lang/IllegalStateException" ∧ Q (Sum.inl (some (zI 2))) v') ∨ (E = "java/lang/IllegalArgumentException" ∧ Q (Sum.inl (some (zI 3))) v') := hq
    rcases hq2 with ⟨rfl, hq2⟩ | ⟨rfl, hq2⟩ | ⟨rfl, hq2⟩
    · exact ⟨[], ⟨0, 10, 13, 19⟩, [⟨0, 10, 17, 21⟩, ⟨0, 10, 21, 13⟩], "java/util/NoSuchElementException", 4, 2, rfl, (fun z hz => by cases hz), rfl, by decide, zL_19, zL_c19, Nat.le_of_ble_eq_true rfl, Or.inr ⟨dL_buyin_13, rfl⟩, ab_iconstH (v := 1) dL_buyin_15 rfl (ab_iretH dL_buyin_16 rfl rfl ⟨v', rfl, hq2⟩)⟩
    · exact ⟨[⟨0, 10, 13, 19⟩], ⟨0, 10, 17, 21⟩, [⟨0, 10, 21, 13⟩], "java/lang/IllegalStateException", 4, 2, rfl, (fun z hz => by
      simp only [List.mem_cons, List.not_mem_nil, or_false] at hz
      rcases hz with rfl
      · exact ⟨by decide, "java/util/NoSuchElementException", zL_19, hN.2.1⟩
      ), rfl, by decide, zL_21, zL_c21, Nat.le_of_ble_eq_true rfl, Or.inr ⟨dL_buyin_17, rfl⟩, ab_iconstH (v := 2) dL_buyin_19 rfl (ab_iretH dL_buyin_20 rfl rfl ⟨v', rfl, hq2⟩)⟩
    · exact ⟨[⟨0, 10, 13, 19⟩, ⟨0, 10, 17, 21⟩], ⟨0, 10, 21, 13⟩, [], "java/lang/IllegalArgumentException", 4, 2, rfl, (fun z hz => by
      simp only [List.mem_cons, List.not_mem_nil, or_false] at hz
      rcases hz with rfl | rfl
      · exact ⟨by decide, "java/util/NoSuchElementException", zL_19, hN.1⟩
      · exact ⟨by decide, "java/lang/IllegalStateException", zL_21, hN.2.2.2⟩
      ), rfl, by decide, zL_13, zL_c13, Nat.le_of_ble_eq_true rfl, Or.inr ⟨dL_buyin_21, rfl⟩, ab_iconstH (v := 3) dL_buyin_23 rfl (ab_iretH dL_buyin_24 rfl rfl ⟨v', rfl, hq2⟩)⟩
abbrev mL_told : ab_M := (yL_told, cL_told, 4, some .int)
abbrev hL_told : List (Nat × Nat × Nat × Nat) := [(0, 9, 12, 13)]
theorem wL_told : Cond.codeWith yL_told cL_told 4 (some .int) hL_told ∈ lw_tbl := List.mem_of_getElem? (i := 1175) (by decide +kernel)
theorem tL_told : Cond.static yL_told ∈ lw_tbl := List.mem_of_getElem? (i := 1174) (by decide +kernel)
theorem lL_119 : ab_mlH hL_told RL 119 mL_told 3 := ⟨List.mem_of_getElem? (i := 1173) (by decide +kernel), wL_told, zL_ini, ⟨by decide, by decide⟩, by decide +kernel⟩
theorem uL_told {g : ab_E} {d dy my sy : Nat} {v : gd_D} {Q : ab_O → gd_D → Prop} {a1 : Int32} (hN : ab_N g) (hd : dy + 1 ≤ d) (h : gd_C g mX10_told dy my sy [zR 10 0, zI a1] v (gd_rI (fun (y : Int32) v' => Q (Sum.inl (some (zI 0))) (gd_sJ v' 64 0 0 y.toInt64)) (fun E v' => (E = "java/lang/IllegalArgumentException" ∧ Q (Sum.inl (some (zI 1))) v')))) : gd_CH hL_told g mL_told d my sy [zR 10 0, zI a1, zR 64 0] v Q := by
  refine ab_enterH wL_told (by decide) (Nat.le_of_ble_eq_true rfl) rfl ?_
  refine ab_aload_nH 2 dL_told_0 rfl rfl ?_
  refine ab_iconstH (v := 0) dL_told_1 rfl ?_
  refine ab_aload_nH 0 dL_told_2 rfl rfl ?_
  refine ab_iload_nH 1 dL_told_3 rfl rfl ?_
  refine ab_callVH (N := mX10_told) (dy := dy) (my := my) (sy := sy) (k := 10) (i := 0) (As := [zI a1]) (rest := [zI 0, zR 64 0]) lL_37 iX10_told sX10_told rfl dL_told_4 rfl rfl ⟨hd, by show 8 + (2 + 11) + 60 * dy ≤ 60 * d; omega⟩ ⟨Nat.le_refl _, Nat.le_refl _⟩ (Nat.le_of_ble_eq_true rfl) h ?_ ?_
  · rintro x w' ⟨v', rfl, hq⟩
    refine gd_rI_k (P := fun x v' => ab_GH hL_told g mL_told d (my - my) (sy - sy) 7 [(0, zR 10 0), (1, zI a1), (2, zR 64 0)] (x.toList ++ [zI 0, zR 64 0]) (gd_e v') (gd_Q Q)) (fun y v' hq => ?_) x v' hq
    refine ab_i2lH dL_told_7 ?_
    refine ab_lastoreH (k := 64) (i := 0) (n := 1) ⟨by decide, by decide⟩ rfl rfl dL_told_8 rfl (nu_in (n := 0) (by decide) (by decide)) ?_
    refine ab_gotoH dL_told_9 (tgt := 15) (by decide) ?_
    exact ab_iconstH (v := 0) dL_told_15 rfl (ab_iretH dL_told_16 rfl rfl ⟨gd_sJ v' 64 0 0 y.toInt64, rfl, hq⟩)
  · rintro E w' ⟨v', rfl, hq⟩
    have hq2 : (E = "java/lang/IllegalArgumentException" ∧ Q (Sum.inl (some (zI 1))) v') := hq
    rcases hq2 with ⟨rfl, hq2⟩
    · exact ⟨[], ⟨0, 9, 12, 13⟩, [], "java/lang/IllegalArgumentException", 3, 1, rfl, (fun z hz => by cases hz), rfl, by decide, zL_13, zL_c13, Nat.le_of_ble_eq_true rfl, Or.inl ⟨3, rfl, dL_told_12, rfl⟩, ab_iconstH (v := 1) dL_told_13 rfl (ab_iretH dL_told_14 rfl rfl ⟨v', rfl, hq2⟩)⟩
abbrev mL_dealer : ab_M := (yL_dealer, cL_dealer, 5, some .int)
abbrev hL_dealer : List (Nat × Nat × Nat × Nat) := [(0, 9, 12, 19), (0, 9, 16, 13)]
theorem wL_dealer : Cond.codeWith yL_dealer cL_dealer 5 (some .int) hL_dealer ∈ lw_tbl := List.mem_of_getElem? (i := 1183) (by decide +kernel)
theorem tL_dealer : Cond.static yL_dealer ∈ lw_tbl := List.mem_of_getElem? (i := 1182) (by decide +kernel)
theorem lL_122 : ab_mlH hL_dealer RL 122 mL_dealer 4 := ⟨List.mem_of_getElem? (i := 1181) (by decide +kernel), wL_dealer, zL_ini, ⟨by decide, by decide⟩, by decide +kernel⟩
theorem uL_dealer {g : ab_E} {d dy my sy : Nat} {v : gd_D} {Q : ab_O → gd_D → Prop} {a1 : Int32} {a2 : Int32} (hN : ab_N g) (hd : dy + 1 ≤ d) (h : gd_C g mX10_dealer dy my sy [zR 10 0, zI a1, zI a2] v (gd_rJ (fun (y : Int64) v' => Q (Sum.inl (some (zI 0))) (gd_sJ v' 64 0 0 y)) (fun E v' => (E = "java/util/NoSuchElementException" ∧ Q (Sum.inl (some (zI 1))) v') ∨ (E = "java/lang/IllegalArgumentException" ∧ Q (Sum.inl (some (zI 2))) v')))) : gd_CH hL_dealer g mL_dealer d my sy [zR 10 0, zI a1, zI a2, zR 64 0] v Q := by
  refine ab_enterH wL_dealer (by decide) (Nat.le_of_ble_eq_true rfl) rfl ?_
  refine ab_aload_nH 3 dL_dealer_0 rfl rfl ?_
  refine ab_iconstH (v := 0) dL_dealer_1 rfl ?_
  refine ab_aload_nH 0 dL_dealer_2 rfl rfl ?_
  refine ab_iload_nH 1 dL_dealer_3 rfl rfl ?_
  refine ab_iload_nH 2 dL_dealer_4 rfl rfl ?_
  refine ab_callVH (N := mX10_dealer) (dy := dy) (my := my) (sy := sy) (k := 10) (i := 0) (As := [zI a1, zI a2]) (rest := [zI 0, zR 64 0]) lL_40 iX10_dealer sX10_dealer rfl dL_dealer_5 rfl rfl ⟨hd, by show 8 + (4 + 11) + 60 * dy ≤ 60 * d; omega⟩ ⟨Nat.le_refl _, Nat.le_refl _⟩ (Nat.le_of_ble_eq_true rfl) h ?_ ?_
  · rintro x w' ⟨v', rfl, hq⟩
    refine gd_rJ_k (P := fun x v' => ab_GH hL_dealer g mL_dealer d (my - my) (sy - sy) 8 [(0, zR 10 0), (1, zI a1), (2, zI a2), (3, zR 64 0)] (x.toList ++ [zI 0, zR 64 0]) (gd_e v') (gd_Q Q)) (fun y v' hq => ?_) x v' hq
    refine ab_lastoreH (k := 64) (i := 0) (n := 1) ⟨by decide, by decide⟩ rfl rfl dL_dealer_8 rfl (nu_in (n := 0) (by decide) (by decide)) ?_
    refine ab_gotoH dL_dealer_9 (tgt := 20) (by decide) ?_
    exact ab_iconstH (v := 0) dL_dealer_20 rfl (ab_iretH dL_dealer_21 rfl rfl ⟨gd_sJ v' 64 0 0 y, rfl, hq⟩)
  · rintro E w' ⟨v', rfl, hq⟩
    have hq2 : (E = "java/util/NoSuchElementException" ∧ Q (Sum.inl (some (zI 1))) v') ∨ (E = "java/lang/IllegalArgumentException" ∧ Q (Sum.inl (some (zI 2))) v') := hq
    rcases hq2 with ⟨rfl, hq2⟩ | ⟨rfl, hq2⟩
    · exact ⟨[], ⟨0, 9, 12, 19⟩, [⟨0, 9, 16, 13⟩], "java/util/NoSuchElementException", 4, 2, rfl, (fun z hz => by cases hz), rfl, by decide, zL_19, zL_c19, Nat.le_of_ble_eq_true rfl, Or.inr ⟨dL_dealer_12, rfl⟩, ab_iconstH (v := 1) dL_dealer_14 rfl (ab_iretH dL_dealer_15 rfl rfl ⟨v', rfl, hq2⟩)⟩
    · exact ⟨[⟨0, 9, 12, 19⟩], ⟨0, 9, 16, 13⟩, [], "java/lang/IllegalArgumentException", 4, 2, rfl, (fun z hz => by
      simp only [List.mem_cons, List.not_mem_nil, or_false] at hz
      rcases hz with rfl
      · exact ⟨by decide, "java/util/NoSuchElementException", zL_19, hN.1⟩
      ), rfl, by decide, zL_13, zL_c13, Nat.le_of_ble_eq_true rfl, Or.inr ⟨dL_dealer_16, rfl⟩, ab_iconstH (v := 2) dL_dealer_18 rfl (ab_iretH dL_dealer_19 rfl rfl ⟨v', rfl, hq2⟩)⟩
abbrev mL_of : ab_M := (yL_of, cL_of, 5, some .int)
abbrev hL_of : List (Nat × Nat × Nat × Nat) := [(0, 10, 13, 19), (0, 10, 17, 13)]
theorem wL_of : Cond.codeWith yL_of cL_of 5 (some .int) hL_of ∈ lw_tbl := List.mem_of_getElem? (i := 1199) (by decide +kernel)
theorem tL_of : Cond.static yL_of ∈ lw_tbl := List.mem_of_getElem? (i := 1198) (by decide +kernel)
theorem lL_125 : ab_mlH hL_of RL 125 mL_of 4 := ⟨List.mem_of_getElem? (i := 1197) (by decide +kernel), wL_of, zL_ini, ⟨by decide, by decide⟩, by decide +kernel⟩
theorem uL_of {g : ab_E} {d dy my sy : Nat} {v : gd_D} {Q : ab_O → gd_D → Prop} {a1 : Int32} {a2 : Int32} (hN : ab_N g) (hd : dy + 1 ≤ d) (h : gd_C g mX10_of dy my sy [zR 10 0, zI a1, zI a2] v (gd_rI (fun (y : Int32) v' => Q (Sum.inl (some (zI 0))) (gd_sJ v' 64 0 0 y.toInt64)) (fun E v' => (E = "java/util/NoSuchElementException" ∧ Q (Sum.inl (some (zI 1))) v') ∨ (E = "java/lang/IllegalArgumentException" ∧ Q (Sum.inl (some (zI 2))) v')))) : gd_CH hL_of g mL_of d my sy [zR 10 0, zI a1, zI a2, zR 64 0] v Q := by
  refine ab_enterH wL_of (by decide) (Nat.le_of_ble_eq_true rfl) rfl ?_
  refine ab_aload_nH 3 dL_of_0 rfl rfl ?_
  refine ab_iconstH (v := 0) dL_of_1 rfl ?_
  refine ab_aload_nH 0 dL_of_2 rfl rfl ?_
  refine ab_iload_nH 1 dL_of_3 rfl rfl ?_
  refine ab_iload_nH 2 dL_of_4 rfl rfl ?_
  refine ab_callVH (N := mX10_of) (dy := dy) (my := my) (sy := sy) (k := 10) (i := 0) (As := [zI a1, zI a2]) (rest := [zI 0, zR 64 0]) lL_44 iX10_of sX10_of rfl dL_of_5 rfl rfl ⟨hd, by show 8 + (4 + 11) + 60 * dy ≤ 60 * d; omega⟩ ⟨Nat.le_refl _, Nat.le_refl _⟩ (Nat.le_of_ble_eq_true rfl) h ?_ ?_
  · rintro x w' ⟨v', rfl, hq⟩
    refine gd_rI_k (P := fun x v' => ab_GH hL_of g mL_of d (my - my) (sy - sy) 8 [(0, zR 10 0), (1, zI a1), (2, zI a2), (3, zR 64 0)] (x.toList ++ [zI 0, zR 64 0]) (gd_e v') (gd_Q Q)) (fun y v' hq => ?_) x v' hq
    refine ab_i2lH dL_of_8 ?_
    refine ab_lastoreH (k := 64) (i := 0) (n := 1) ⟨by decide, by decide⟩ rfl rfl dL_of_9 rfl (nu_in (n := 0) (by decide) (by decide)) ?_
    refine ab_gotoH dL_of_10 (tgt := 21) (by decide) ?_
    exact ab_iconstH (v := 0) dL_of_21 rfl (ab_iretH dL_of_22 rfl rfl ⟨gd_sJ v' 64 0 0 y.toInt64, rfl, hq⟩)
  · rintro E w' ⟨v', rfl, hq⟩
    have hq2 : (E = "java/util/NoSuchElementException" ∧ Q (Sum.inl (some (zI 1))) v') ∨ (E = "java/lang/IllegalArgumentException" ∧ Q (Sum.inl (some (zI 2))) v') := hq
    rcases hq2 with ⟨rfl, hq2⟩ | ⟨rfl, hq2⟩
    · exact ⟨[], ⟨0, 10, 13, 19⟩, [⟨0, 10, 17, 13⟩], "java/util/NoSuchElementException", 4, 2, rfl, (fun z hz => by cases hz), rfl, by decide, zL_19, zL_c19, Nat.le_of_ble_eq_true rfl, Or.inr ⟨dL_of_13, rfl⟩, ab_iconstH (v := 1) dL_of_15 rfl (ab_iretH dL_of_16 rfl rfl ⟨v', rfl, hq2⟩)⟩
    · exact ⟨[⟨0, 10, 13, 19⟩], ⟨0, 10, 17, 13⟩, [], "java/lang/IllegalArgumentException", 4, 2, rfl, (fun z hz => by
      simp only [List.mem_cons, List.not_mem_nil, or_false] at hz
      rcases hz with rfl
      · exact ⟨by decide, "java/util/NoSuchElementException", zL_19, hN.1⟩
      ), rfl, by decide, zL_13, zL_c13, Nat.le_of_ble_eq_true rfl, Or.inr ⟨dL_of_17, rfl⟩, ab_iconstH (v := 2) dL_of_19 rfl (ab_iretH dL_of_20 rfl rfl ⟨v', rfl, hq2⟩)⟩
abbrev mL_rule : ab_M := (yL_rule, cL_rule, 4, some .int)
abbrev hL_rule : List (Nat × Nat × Nat × Nat) := [(0, 8, 11, 19)]
theorem wL_rule : Cond.codeWith yL_rule cL_rule 4 (some .int) hL_rule ∈ lw_tbl := List.mem_of_getElem? (i := 1214) (by decide +kernel)
theorem tL_rule : Cond.static yL_rule ∈ lw_tbl := List.mem_of_getElem? (i := 1213) (by decide +kernel)
theorem lL_128 : ab_mlH hL_rule RL 128 mL_rule 3 := ⟨List.mem_of_getElem? (i := 1212) (by decide +kernel), wL_rule, zL_ini, ⟨by decide, by decide⟩, by decide +kernel⟩
theorem uL_rule {g : ab_E} {d dy my sy : Nat} {v : gd_D} {Q : ab_O → gd_D → Prop} {a1 : Int32} (hN : ab_N g) (hd : dy + 1 ≤ d) (h : gd_C g mX10_rule dy my sy [zR 10 0, zI a1] v (gd_rJ (fun (y : Int64) v' => Q (Sum.inl (some (zI 0))) (gd_sJ v' 64 0 0 y)) (fun E v' => (E = "java/util/NoSuchElementException" ∧ Q (Sum.inl (some (zI 1))) v')))) : gd_CH hL_rule g mL_rule d my sy [zR 10 0, zI a1, zR 64 0] v Q := by
  refine ab_enterH wL_rule (by decide) (Nat.le_of_ble_eq_true rfl) rfl ?_
  refine ab_aload_nH 2 dL_rule_0 rfl rfl ?_
  refine ab_iconstH (v := 0) dL_rule_1 rfl ?_
  refine ab_aload_nH 0 dL_rule_2 rfl rfl ?_
  refine ab_iload_nH 1 dL_rule_3 rfl rfl ?_
  refine ab_callVH (N := mX10_rule) (dy := dy) (my := my) (sy := sy) (k := 10) (i := 0) (As := [zI a1]) (rest := [zI 0, zR 64 0]) lL_47 iX10_rule sX10_rule rfl dL_rule_4 rfl rfl ⟨hd, by show 8 + (2 + 11) + 60 * dy ≤ 60 * d; omega⟩ ⟨Nat.le_refl _, Nat.le_refl _⟩ (Nat.le_of_ble_eq_true rfl) h ?_ ?_
  · rintro x w' ⟨v', rfl, hq⟩
    refine gd_rJ_k (P := fun x v' => ab_GH hL_rule g mL_rule d (my - my) (sy - sy) 7 [(0, zR 10 0), (1, zI a1), (2, zR 64 0)] (x.toList ++ [zI 0, zR 64 0]) (gd_e v') (gd_Q Q)) (fun y v' hq => ?_) x v' hq
    refine ab_lastoreH (k := 64) (i := 0) (n := 1) ⟨by decide, by decide⟩ rfl rfl dL_rule_7 rfl (nu_in (n := 0) (by decide) (by decide)) ?_
    refine ab_gotoH dL_rule_8 (tgt := 14) (by decide) ?_
    exact ab_iconstH (v := 0) dL_rule_14 rfl (ab_iretH dL_rule_15 rfl rfl ⟨gd_sJ v' 64 0 0 y, rfl, hq⟩)
  · rintro E w' ⟨v', rfl, hq⟩
    have hq2 : (E = "java/util/NoSuchElementException" ∧ Q (Sum.inl (some (zI 1))) v') := hq
    rcases hq2 with ⟨rfl, hq2⟩
    · exact ⟨[], ⟨0, 8, 11, 19⟩, [], "java/util/NoSuchElementException", 3, 1, rfl, (fun z hz => by cases hz), rfl, by decide, zL_19, zL_c19, Nat.le_of_ble_eq_true rfl, Or.inl ⟨3, rfl, dL_rule_11, rfl⟩, ab_iconstH (v := 1) dL_rule_12 rfl (ab_iretH dL_rule_13 rfl rfl ⟨v', rfl, hq2⟩)⟩
abbrev mL_part : ab_M := (yL_part, cL_part, 6, some .int)
abbrev hL_part : List (Nat × Nat × Nat × Nat) := [(0, 12, 15, 19), (0, 12, 19, 13)]
theorem wL_part : Cond.codeWith yL_part cL_part 6 (some .int) hL_part ∈ lw_tbl := List.mem_of_getElem? (i := 1222) (by decide +kernel)
theorem tL_part : Cond.static yL_part ∈ lw_tbl := List.mem_of_getElem? (i := 1221) (by decide +kernel)
theorem lL_131 : ab_mlH hL_part RL 131 mL_part 5 := ⟨List.mem_of_getElem? (i := 1220) (by decide +kernel), wL_part, zL_ini, ⟨by decide, by decide⟩, by decide +kernel⟩
theorem uL_part {g : ab_E} {d dy my sy : Nat} {v : gd_D} {Q : ab_O → gd_D → Prop} {a1 : Int32} {a2 : Int32} {a3 : Int32} (hN : ab_N g) (hd : dy + 1 ≤ d) (h : gd_C g mX10_part dy my sy [zR 10 0, zI a1, zI a2, zI a3] v (gd_rI (fun (y : Int32) v' => Q (Sum.inl (some (zI 0))) (gd_sJ v' 64 0 0 y.toInt64)) (fun E v' => (E = "java/util/NoSuchElementException" ∧ Q (Sum.inl (some (zI 1))) v') ∨ (E = "java/lang/IllegalArgumentException" ∧ Q (Sum.inl (some (zI 2))) v')))) : gd_CH hL_part g mL_part d my sy [zR 10 0, zI a1, zI a2, zI a3, zR 64 0] v Q := by
  refine ab_enterH wL_part (by decide) (Nat.le_of_ble_eq_true rfl) rfl ?_
  refine ab_aloadH 4 dL_part_0 rfl ?_
  refine ab_iconstH (v := 0) dL_part_2 rfl ?_
  refine ab_aload_nH 0 dL_part_3 rfl rfl ?_
  refine ab_iload_nH 1 dL_part_4 rfl rfl ?_
  refine ab_iload_nH 2 dL_part_5 rfl rfl ?_
  refine ab_iload_nH 3 dL_part_6 rfl rfl ?_
  refine ab_callVH (N := mX10_part) (dy := dy) (my := my) (sy := sy) (k := 10) (i := 0) (As := [zI a1, zI a2, zI a3]) (rest := [zI 0, zR 64 0]) lL_51 iX10_part sX10_part rfl dL_part_7 rfl rfl ⟨hd, by show 8 + (5 + 11) + 60 * dy ≤ 60 * d; omega⟩ ⟨Nat.le_refl _, Nat.le_refl _⟩ (Nat.le_of_ble_eq_true rfl) h ?_ ?_
  · rintro x w' ⟨v', rfl, hq⟩
    refine gd_rI_k (P := fun x v' => ab_GH hL_part g mL_part d (my - my) (sy - sy) 10 [(0, zR 10 0), (1, zI a1), (2, zI a2), (3, zI a3), (4, zR 64 0)] (x.toList ++ [zI 0, zR 64 0]) (gd_e v') (gd_Q Q)) (fun y v' hq => ?_) x v' hq
    refine ab_i2lH dL_part_10 ?_
    refine ab_lastoreH (k := 64) (i := 0) (n := 1) ⟨by decide, by decide⟩ rfl rfl dL_part_11 rfl (nu_in (n := 0) (by decide) (by decide)) ?_
    refine ab_gotoH dL_part_12 (tgt := 23) (by decide) ?_
    exact ab_iconstH (v := 0) dL_part_23 rfl (ab_iretH dL_part_24 rfl rfl ⟨gd_sJ v' 64 0 0 y.toInt64, rfl, hq⟩)
  · rintro E w' ⟨v', rfl, hq⟩
    have hq2 : (E = "java/util/NoSuchElementException" ∧ Q (Sum.inl (some (zI 1))) v') ∨ (E = "java/lang/IllegalArgumentException" ∧ Q (Sum.inl (some (zI 2))) v') := hq
    rcases hq2 with ⟨rfl, hq2⟩ | ⟨rfl, hq2⟩
    · exact ⟨[], ⟨0, 12, 15, 19⟩, [⟨0, 12, 19, 13⟩], "java/util/NoSuchElementException", 5, 2, rfl, (fun z hz => by cases hz), rfl, by decide, zL_19, zL_c19, Nat.le_of_ble_eq_true rfl, Or.inr ⟨dL_part_15, rfl⟩, ab_iconstH (v := 1) dL_part_17 rfl (ab_iretH dL_part_18 rfl rfl ⟨v', rfl, hq2⟩)⟩
    · exact ⟨[⟨0, 12, 15, 19⟩], ⟨0, 12, 19, 13⟩, [], "java/lang/IllegalArgumentException", 5, 2, rfl, (fun z hz => by
      simp only [List.mem_cons, List.not_mem_nil, or_false] at hz
      rcases hz with rfl
      · exact ⟨by decide, "java/util/NoSuchElementException", zL_19, hN.1⟩
      ), rfl, by decide, zL_13, zL_c13, Nat.le_of_ble_eq_true rfl, Or.inr ⟨dL_part_19, rfl⟩, ab_iconstH (v := 2) dL_part_21 rfl (ab_iretH dL_part_22 rfl rfl ⟨v', rfl, hq2⟩)⟩
abbrev mL_parts : ab_M := (yL_parts, cL_parts, 4, some .int)
abbrev hL_parts : List (Nat × Nat × Nat × Nat) := [(0, 9, 12, 19)]
theorem wL_parts : Cond.codeWith yL_parts cL_parts 4 (some .int) hL_parts ∈ lw_tbl := List.mem_of_getElem? (i := 1229) (by decide +kernel)
theorem tL_parts : Cond.static yL_parts ∈ lw_tbl := List.mem_of_getElem? (i := 1228) (by decide +kernel)
theorem lL_135 : ab_mlH hL_parts RL 135 mL_parts 3 := ⟨List.mem_of_getElem? (i := 1227) (by decide +kernel), wL_parts, zL_ini, ⟨by decide, by decide⟩, by decide +kernel⟩
theorem uL_parts {g : ab_E} {d dy my sy : Nat} {v : gd_D} {Q : ab_O → gd_D → Prop} {a1 : Int32} (hN : ab_N g) (hd : dy + 1 ≤ d) (h : gd_C g mX10_parts dy my sy [zR 10 0, zI a1] v (gd_rI (fun (y : Int32) v' => Q (Sum.inl (some (zI 0))) (gd_sJ v' 64 0 0 y.toInt64)) (fun E v' => (E = "java/util/NoSuchElementException" ∧ Q (Sum.inl (some (zI 1))) v')))) : gd_CH hL_parts g mL_parts d my sy [zR 10 0, zI a1, zR 64 0] v Q := by
  refine ab_enterH wL_parts (by decide) (Nat.le_of_ble_eq_true rfl) rfl ?_
  refine ab_aload_nH 2 dL_parts_0 rfl rfl ?_
  refine ab_iconstH (v := 0) dL_parts_1 rfl ?_
  refine ab_aload_nH 0 dL_parts_2 rfl rfl ?_
  refine ab_iload_nH 1 dL_parts_3 rfl rfl ?_
  refine ab_callVH (N := mX10_parts) (dy := dy) (my := my) (sy := sy) (k := 10) (i := 0) (As := [zI a1]) (rest := [zI 0, zR 64 0]) lL_55 iX10_parts sX10_parts rfl dL_parts_4 rfl rfl ⟨hd, by show 8 + (2 + 11) + 60 * dy ≤ 60 * d; omega⟩ ⟨Nat.le_refl _, Nat.le_refl _⟩ (Nat.le_of_ble_eq_true rfl) h ?_ ?_
  · rintro x w' ⟨v', rfl, hq⟩
    refine gd_rI_k (P := fun x v' => ab_GH hL_parts g mL_parts d (my - my) (sy - sy) 7 [(0, zR 10 0), (1, zI a1), (2, zR 64 0)] (x.toList ++ [zI 0, zR 64 0]) (gd_e v') (gd_Q Q)) (fun y v' hq => ?_) x v' hq
    refine ab_i2lH dL_parts_7 ?_
    refine ab_lastoreH (k := 64) (i := 0) (n := 1) ⟨by decide, by decide⟩ rfl rfl dL_parts_8 rfl (nu_in (n := 0) (by decide) (by decide)) ?_
    refine ab_gotoH dL_parts_9 (tgt := 15) (by decide) ?_
    exact ab_iconstH (v := 0) dL_parts_15 rfl (ab_iretH dL_parts_16 rfl rfl ⟨gd_sJ v' 64 0 0 y.toInt64, rfl, hq⟩)
  · rintro E w' ⟨v', rfl, hq⟩
    have hq2 : (E = "java/util/NoSuchElementException" ∧ Q (Sum.inl (some (zI 1))) v') := hq
    rcases hq2 with ⟨rfl, hq2⟩
    · exact ⟨[], ⟨0, 9, 12, 19⟩, [], "java/util/NoSuchElementException", 3, 1, rfl, (fun z hz => by cases hz), rfl, by decide, zL_19, zL_c19, Nat.le_of_ble_eq_true rfl, Or.inl ⟨3, rfl, dL_parts_12, rfl⟩, ab_iconstH (v := 1) dL_parts_13 rfl (ab_iretH dL_parts_14 rfl rfl ⟨v', rfl, hq2⟩)⟩
abbrev mL_chain : ab_M := (yL_chain, cL_chain, 5, some .int)
abbrev hL_chain : List (Nat × Nat × Nat × Nat) := [(0, 10, 13, 19)]
theorem wL_chain : Cond.codeWith yL_chain cL_chain 5 (some .int) hL_chain ∈ lw_tbl := List.mem_of_getElem? (i := 1236) (by decide +kernel)
theorem tL_chain : Cond.static yL_chain ∈ lw_tbl := List.mem_of_getElem? (i := 1235) (by decide +kernel)
theorem lL_138 : ab_mlH hL_chain RL 138 mL_chain 4 := ⟨List.mem_of_getElem? (i := 1234) (by decide +kernel), wL_chain, zL_ini, ⟨by decide, by decide⟩, by decide +kernel⟩
theorem uL_chain {g : ab_E} {d dy my sy : Nat} {v : gd_D} {Q : ab_O → gd_D → Prop} {a1 : Int32} {a2 : Int32} (hN : ab_N g) (hd : dy + 1 ≤ d) (h : gd_C g mX10_chain dy my sy [zR 10 0, zI a1, zI a2] v (gd_rI (fun (y : Int32) v' => Q (Sum.inl (some (zI 0))) (gd_sJ v' 64 0 0 y.toInt64)) (fun E v' => (E = "java/util/NoSuchElementException" ∧ Q (Sum.inl (some (zI 1))) v')))) : gd_CH hL_chain g mL_chain d my sy [zR 10 0, zI a1, zI a2, zR 64 0] v Q := by
  refine ab_enterH wL_chain (by decide) (Nat.le_of_ble_eq_true rfl) rfl ?_
  refine ab_aload_nH 3 dL_chain_0 rfl rfl ?_
  refine ab_iconstH (v := 0) dL_chain_1 rfl ?_
  refine ab_aload_nH 0 dL_chain_2 rfl rfl ?_
  refine ab_iload_nH 1 dL_chain_3 rfl rfl ?_
  refine ab_iload_nH 2 dL_chain_4 rfl rfl ?_
  refine ab_callVH (N := mX10_chain) (dy := dy) (my := my) (sy := sy) (k := 10) (i := 0) (As := [zI a1, zI a2]) (rest := [zI 0, zR 64 0]) lL_58 iX10_chain sX10_chain rfl dL_chain_5 rfl rfl ⟨hd, by show 8 + (4 + 11) + 60 * dy ≤ 60 * d; omega⟩ ⟨Nat.le_refl _, Nat.le_refl _⟩ (Nat.le_of_ble_eq_true rfl) h ?_ ?_
  · rintro x w' ⟨v', rfl, hq⟩
    refine gd_rI_k (P := fun x v' => ab_GH hL_chain g mL_chain d (my - my) (sy - sy) 8 [(0, zR 10 0), (1, zI a1), (2, zI a2), (3, zR 64 0)] (x.toList ++ [zI 0, zR 64 0]) (gd_e v') (gd_Q Q)) (fun y v' hq => ?_) x v' hq
    refine ab_i2lH dL_chain_8 ?_
    refine ab_lastoreH (k := 64) (i := 0) (n := 1) ⟨by decide, by decide⟩ rfl rfl dL_chain_9 rfl (nu_in (n := 0) (by decide) (by decide)) ?_
    refine ab_gotoH dL_chain_10 (tgt := 17) (by decide) ?_
    exact ab_iconstH (v := 0) dL_chain_17 rfl (ab_iretH dL_chain_18 rfl rfl ⟨gd_sJ v' 64 0 0 y.toInt64, rfl, hq⟩)
  · rintro E w' ⟨v', rfl, hq⟩
    have hq2 : (E = "java/util/NoSuchElementException" ∧ Q (Sum.inl (some (zI 1))) v') := hq
    rcases hq2 with ⟨rfl, hq2⟩
    · exact ⟨[], ⟨0, 10, 13, 19⟩, [], "java/util/NoSuchElementException", 4, 2, rfl, (fun z hz => by cases hz), rfl, by decide, zL_19, zL_c19, Nat.le_of_ble_eq_true rfl, Or.inr ⟨dL_chain_13, rfl⟩, ab_iconstH (v := 1) dL_chain_15 rfl (ab_iretH dL_chain_16 rfl rfl ⟨v', rfl, hq2⟩)⟩
abbrev mL_ring : ab_M := (yL_ring, cL_ring, 4, some .int)
abbrev hL_ring : List (Nat × Nat × Nat × Nat) := [(0, 9, 12, 13)]
theorem wL_ring : Cond.codeWith yL_ring cL_ring 4 (some .int) hL_ring ∈ lw_tbl := List.mem_of_getElem? (i := 1247) (by decide +kernel)
theorem tL_ring : Cond.static yL_ring ∈ lw_tbl := List.mem_of_getElem? (i := 1246) (by decide +kernel)
theorem lL_141 : ab_mlH hL_ring RL 141 mL_ring 3 := ⟨List.mem_of_getElem? (i := 1245) (by decide +kernel), wL_ring, zL_ini, ⟨by decide, by decide⟩, by decide +kernel⟩
theorem uL_ring {g : ab_E} {d dy my sy : Nat} {v : gd_D} {Q : ab_O → gd_D → Prop} {a1 : Int32} (hN : ab_N g) (hd : dy + 1 ≤ d) (h : gd_C g mX10_ring dy my sy [zR 10 0, zI a1] v (gd_rI (fun (y : Int32) v' => Q (Sum.inl (some (zI 0))) (gd_sJ v' 64 0 0 y.toInt64)) (fun E v' => (E = "java/lang/IllegalArgumentException" ∧ Q (Sum.inl (some (zI 1))) v')))) : gd_CH hL_ring g mL_ring d my sy [zR 10 0, zI a1, zR 64 0] v Q := by
  refine ab_enterH wL_ring (by decide) (Nat.le_of_ble_eq_true rfl) rfl ?_
  refine ab_aload_nH 2 dL_ring_0 rfl rfl ?_
  refine ab_iconstH (v := 0) dL_ring_1 rfl ?_
  refine ab_aload_nH 0 dL_ring_2 rfl rfl ?_
  refine ab_iload_nH 1 dL_ring_3 rfl rfl ?_
  refine ab_callVH (N := mX10_ring) (dy := dy) (my := my) (sy := sy) (k := 10) (i := 0) (As := [zI a1]) (rest := [zI 0, zR 64 0]) lL_61 iX10_ring sX10_ring rfl dL_ring_4 rfl rfl ⟨hd, by show 8 + (3 + 11) + 60 * dy ≤ 60 * d; omega⟩ ⟨Nat.le_refl _, Nat.le_refl _⟩ (Nat.le_of_ble_eq_true rfl) h ?_ ?_
  · rintro x w' ⟨v', rfl, hq⟩
    refine gd_rI_k (P := fun x v' => ab_GH hL_ring g mL_ring d (my - my) (sy - sy) 7 [(0, zR 10 0), (1, zI a1), (2, zR 64 0)] (x.toList ++ [zI 0, zR 64 0]) (gd_e v') (gd_Q Q)) (fun y v' hq => ?_) x v' hq
    refine ab_i2lH dL_ring_7 ?_
    refine ab_lastoreH (k := 64) (i := 0) (n := 1) ⟨by decide, by decide⟩ rfl rfl dL_ring_8 rfl (nu_in (n := 0) (by decide) (by decide)) ?_
    refine ab_gotoH dL_ring_9 (tgt := 15) (by decide) ?_
    exact ab_iconstH (v := 0) dL_ring_15 rfl (ab_iretH dL_ring_16 rfl rfl ⟨gd_sJ v' 64 0 0 y.toInt64, rfl, hq⟩)
  · rintro E w' ⟨v', rfl, hq⟩
    have hq2 : (E = "java/lang/IllegalArgumentException" ∧ Q (Sum.inl (some (zI 1))) v') := hq
    rcases hq2 with ⟨rfl, hq2⟩
    · exact ⟨[], ⟨0, 9, 12, 13⟩, [], "java/lang/IllegalArgumentException", 3, 1, rfl, (fun z hz => by cases hz), rfl, by decide, zL_13, zL_c13, Nat.le_of_ble_eq_true rfl, Or.inl ⟨3, rfl, dL_ring_12, rfl⟩, ab_iconstH (v := 1) dL_ring_13 rfl (ab_iretH dL_ring_14 rfl rfl ⟨v', rfl, hq2⟩)⟩
abbrev mL_most : ab_M := (yL_most, cL_most, 4, some .int)
abbrev hL_most : List (Nat × Nat × Nat × Nat) := [(0, 8, 11, 13)]
theorem wL_most : Cond.codeWith yL_most cL_most 4 (some .int) hL_most ∈ lw_tbl := List.mem_of_getElem? (i := 1255) (by decide +kernel)
theorem tL_most : Cond.static yL_most ∈ lw_tbl := List.mem_of_getElem? (i := 1254) (by decide +kernel)
theorem lL_144 : ab_mlH hL_most RL 144 mL_most 3 := ⟨List.mem_of_getElem? (i := 1253) (by decide +kernel), wL_most, zL_ini, ⟨by decide, by decide⟩, by decide +kernel⟩
theorem uL_most {g : ab_E} {d dy my sy : Nat} {v : gd_D} {Q : ab_O → gd_D → Prop} {a1 : Int32} (hN : ab_N g) (hd : dy + 1 ≤ d) (h : gd_C g mX10_most dy my sy [zR 10 0, zI a1] v (gd_rJ (fun (y : Int64) v' => Q (Sum.inl (some (zI 0))) (gd_sJ v' 64 0 0 y)) (fun E v' => (E = "java/lang/IllegalArgumentException" ∧ Q (Sum.inl (some (zI 1))) v')))) : gd_CH hL_most g mL_most d my sy [zR 10 0, zI a1, zR 64 0] v Q := by
  refine ab_enterH wL_most (by decide) (Nat.le_of_ble_eq_true rfl) rfl ?_
  refine ab_aload_nH 2 dL_most_0 rfl rfl ?_
  refine ab_iconstH (v := 0) dL_most_1 rfl ?_
  refine ab_aload_nH 0 dL_most_2 rfl rfl ?_
  refine ab_iload_nH 1 dL_most_3 rfl rfl ?_
  refine ab_callVH (N := mX10_most) (dy := dy) (my := my) (sy := sy) (k := 10) (i := 0) (As := [zI a1]) (rest := [zI 0, zR 64 0]) lL_64 iX10_most sX10_most rfl dL_most_4 rfl rfl ⟨hd, by show 8 + (2 + 11) + 60 * dy ≤ 60 * d; omega⟩ ⟨Nat.le_refl _, Nat.le_refl _⟩ (Nat.le_of_ble_eq_true rfl) h ?_ ?_
  · rintro x w' ⟨v', rfl, hq⟩
    refine gd_rJ_k (P := fun x v' => ab_GH hL_most g mL_most d (my - my) (sy - sy) 7 [(0, zR 10 0), (1, zI a1), (2, zR 64 0)] (x.toList ++ [zI 0, zR 64 0]) (gd_e v') (gd_Q Q)) (fun y v' hq => ?_) x v' hq
    refine ab_lastoreH (k := 64) (i := 0) (n := 1) ⟨by decide, by decide⟩ rfl rfl dL_most_7 rfl (nu_in (n := 0) (by decide) (by decide)) ?_
    refine ab_gotoH dL_most_8 (tgt := 14) (by decide) ?_
    exact ab_iconstH (v := 0) dL_most_14 rfl (ab_iretH dL_most_15 rfl rfl ⟨gd_sJ v' 64 0 0 y, rfl, hq⟩)
  · rintro E w' ⟨v', rfl, hq⟩
    have hq2 : (E = "java/lang/IllegalArgumentException" ∧ Q (Sum.inl (some (zI 1))) v') := hq
    rcases hq2 with ⟨rfl, hq2⟩
    · exact ⟨[], ⟨0, 8, 11, 13⟩, [], "java/lang/IllegalArgumentException", 3, 1, rfl, (fun z hz => by cases hz), rfl, by decide, zL_13, zL_c13, Nat.le_of_ble_eq_true rfl, Or.inl ⟨3, rfl, dL_most_11, rfl⟩, ab_iconstH (v := 1) dL_most_12 rfl (ab_iretH dL_most_13 rfl rfl ⟨v', rfl, hq2⟩)⟩
abbrev mL_foretold : ab_M := (yL_foretold, cL_foretold, 4, some .int)
abbrev hL_foretold : List (Nat × Nat × Nat × Nat) := [(0, 9, 12, 13)]
theorem wL_foretold : Cond.codeWith yL_foretold cL_foretold 4 (some .int) hL_foretold ∈ lw_tbl := List.mem_of_getElem? (i := 1302) (by decide +kernel)
theorem tL_foretold : Cond.static yL_foretold ∈ lw_tbl := List.mem_of_getElem? (i := 1301) (by decide +kernel)
theorem lL_147 : ab_mlH hL_foretold RL 147 mL_foretold 3 := ⟨List.mem_of_getElem? (i := 1300) (by decide +kernel), wL_foretold, zL_ini, ⟨by decide, by decide⟩, by decide +kernel⟩
theorem uL_foretold {g : ab_E} {d dy my sy : Nat} {v : gd_D} {Q : ab_O → gd_D → Prop} {a1 : Int32} (hN : ab_N g) (hd : dy + 1 ≤ d) (h : gd_C g mX10_foretold dy my sy [zR 10 0, zI a1] v (gd_rI (fun (y : Int32) v' => Q (Sum.inl (some (zI 0))) (gd_sJ v' 64 0 0 y.toInt64)) (fun E v' => (E = "java/lang/IllegalArgumentException" ∧ Q (Sum.inl (some (zI 1))) v')))) : gd_CH hL_foretold g mL_foretold d my sy [zR 10 0, zI a1, zR 64 0] v Q := by
  refine ab_enterH wL_foretold (by decide) (Nat.le_of_ble_eq_true rfl) rfl ?_
  refine ab_aload_nH 2 dL_foretold_0 rfl rfl ?_
  refine ab_iconstH (v := 0) dL_foretold_1 rfl ?_
  refine ab_aload_nH 0 dL_foretold_2 rfl rfl ?_
  refine ab_iload_nH 1 dL_foretold_3 rfl rfl ?_
  refine ab_callVH (N := mX10_foretold) (dy := dy) (my := my) (sy := sy) (k := 10) (i := 0) (As := [zI a1]) (rest := [zI 0, zR 64 0]) lL_67 iX10_foretold sX10_foretold rfl dL_foretold_4 rfl rfl ⟨hd, by show 8 + (3 + 11) + 60 * dy ≤ 60 * d; omega⟩ ⟨Nat.le_refl _, Nat.le_refl _⟩ (Nat.le_of_ble_eq_true rfl) h ?_ ?_
  · rintro x w' ⟨v', rfl, hq⟩
    refine gd_rI_k (P := fun x v' => ab_GH hL_foretold g mL_foretold d (my - my) (sy - sy) 7 [(0, zR 10 0), (1, zI a1), (2, zR 64 0)] (x.toList ++ [zI 0, zR 64 0]) (gd_e v') (gd_Q Q)) (fun y v' hq => ?_) x v' hq
    refine ab_i2lH dL_foretold_7 ?_
    refine ab_lastoreH (k := 64) (i := 0) (n := 1) ⟨by decide, by decide⟩ rfl rfl dL_foretold_8 rfl (nu_in (n := 0) (by decide) (by decide)) ?_
    refine ab_gotoH dL_foretold_9 (tgt := 15) (by decide) ?_
    exact ab_iconstH (v := 0) dL_foretold_15 rfl (ab_iretH dL_foretold_16 rfl rfl ⟨gd_sJ v' 64 0 0 y.toInt64, rfl, hq⟩)
  · rintro E w' ⟨v', rfl, hq⟩
    have hq2 : (E = "java/lang/IllegalArgumentException" ∧ Q (Sum.inl (some (zI 1))) v') := hq
    rcases hq2 with ⟨rfl, hq2⟩
    · exact ⟨[], ⟨0, 9, 12, 13⟩, [], "java/lang/IllegalArgumentException", 3, 1, rfl, (fun z hz => by cases hz), rfl, by decide, zL_13, zL_c13, Nat.le_of_ble_eq_true rfl, Or.inl ⟨3, rfl, dL_foretold_12, rfl⟩, ab_iconstH (v := 1) dL_foretold_13 rfl (ab_iretH dL_foretold_14 rfl rfl ⟨v', rfl, hq2⟩)⟩
abbrev mL_without : ab_M := (yL_without, cL_without, 4, some .int)
abbrev hL_without : List (Nat × Nat × Nat × Nat) := [(0, 8, 11, 19)]
theorem wL_without : Cond.codeWith yL_without cL_without 4 (some .int) hL_without ∈ lw_tbl := List.mem_of_getElem? (i := 1309) (by decide +kernel)
theorem tL_without : Cond.static yL_without ∈ lw_tbl := List.mem_of_getElem? (i := 1308) (by decide +kernel)
theorem lL_150 : ab_mlH hL_without RL 150 mL_without 3 := ⟨List.mem_of_getElem? (i := 1307) (by decide +kernel), wL_without, zL_ini, ⟨by decide, by decide⟩, by decide +kernel⟩
theorem uL_without {g : ab_E} {d dy my sy : Nat} {v : gd_D} {Q : ab_O → gd_D → Prop} {a1 : Int32} (hN : ab_N g) (hd : dy + 1 ≤ d) (h : gd_C g mX10_without dy my sy [zR 10 0, zI a1] v (gd_rJ (fun (y : Int64) v' => Q (Sum.inl (some (zI 0))) (gd_sJ v' 64 0 0 y)) (fun E v' => (E = "java/util/NoSuchElementException" ∧ Q (Sum.inl (some (zI 1))) v')))) : gd_CH hL_without g mL_without d my sy [zR 10 0, zI a1, zR 64 0] v Q := by
  refine ab_enterH wL_without (by decide) (Nat.le_of_ble_eq_true rfl) rfl ?_
  refine ab_aload_nH 2 dL_without_0 rfl rfl ?_
  refine ab_iconstH (v := 0) dL_without_1 rfl ?_
  refine ab_aload_nH 0 dL_without_2 rfl rfl ?_
  refine ab_iload_nH 1 dL_without_3 rfl rfl ?_
  refine ab_callVH (N := mX10_without) (dy := dy) (my := my) (sy := sy) (k := 10) (i := 0) (As := [zI a1]) (rest := [zI 0, zR 64 0]) lL_70 iX10_without sX10_without rfl dL_without_4 rfl rfl ⟨hd, by show 8 + (2 + 11) + 60 * dy ≤ 60 * d; omega⟩ ⟨Nat.le_refl _, Nat.le_refl _⟩ (Nat.le_of_ble_eq_true rfl) h ?_ ?_
  · rintro x w' ⟨v', rfl, hq⟩
    refine gd_rJ_k (P := fun x v' => ab_GH hL_without g mL_without d (my - my) (sy - sy) 7 [(0, zR 10 0), (1, zI a1), (2, zR 64 0)] (x.toList ++ [zI 0, zR 64 0]) (gd_e v') (gd_Q Q)) (fun y v' hq => ?_) x v' hq
    refine ab_lastoreH (k := 64) (i := 0) (n := 1) ⟨by decide, by decide⟩ rfl rfl dL_without_7 rfl (nu_in (n := 0) (by decide) (by decide)) ?_
    refine ab_gotoH dL_without_8 (tgt := 14) (by decide) ?_
    exact ab_iconstH (v := 0) dL_without_14 rfl (ab_iretH dL_without_15 rfl rfl ⟨gd_sJ v' 64 0 0 y, rfl, hq⟩)
  · rintro E w' ⟨v', rfl, hq⟩
    have hq2 : (E = "java/util/NoSuchElementException" ∧ Q (Sum.inl (some (zI 1))) v') := hq
    rcases hq2 with ⟨rfl, hq2⟩
    · exact ⟨[], ⟨0, 8, 11, 19⟩, [], "java/util/NoSuchElementException", 3, 1, rfl, (fun z hz => by cases hz), rfl, by decide, zL_19, zL_c19, Nat.le_of_ble_eq_true rfl, Or.inl ⟨3, rfl, dL_without_11, rfl⟩, ab_iconstH (v := 1) dL_without_12 rfl (ab_iretH dL_without_13 rfl rfl ⟨v', rfl, hq2⟩)⟩
abbrev mL_between : ab_M := (yL_between, cL_between, 5, some .int)
abbrev hL_between : List (Nat × Nat × Nat × Nat) := [(0, 10, 13, 19)]
theorem wL_between : Cond.codeWith yL_between cL_between 5 (some .int) hL_between ∈ lw_tbl := List.mem_of_getElem? (i := 1320) (by decide +kernel)
theorem tL_between : Cond.static yL_between ∈ lw_tbl := List.mem_of_getElem? (i := 1319) (by decide +kernel)
theorem lL_153 : ab_mlH hL_between RL 153 mL_between 4 := ⟨List.mem_of_getElem? (i := 1318) (by decide +kernel), wL_between, zL_ini, ⟨by decide, by decide⟩, by decide +kernel⟩
theorem uL_between {g : ab_E} {d dy my sy : Nat} {v : gd_D} {Q : ab_O → gd_D → Prop} {a1 : Int32} {a2 : Int32} (hN : ab_N g) (hd : dy + 1 ≤ d) (h : gd_C g mX10_between dy my sy [zR 10 0, zI a1, zI a2] v (gd_rI (fun (y : Int32) v' => Q (Sum.inl (some (zI 0))) (gd_sJ v' 64 0 0 y.toInt64)) (fun E v' => (E = "java/util/NoSuchElementException" ∧ Q (Sum.inl (some (zI 1))) v')))) : gd_CH hL_between g mL_between d my sy [zR 10 0, zI a1, zI a2, zR 64 0] v Q := by
  refine ab_enterH wL_between (by decide) (Nat.le_of_ble_eq_true rfl) rfl ?_
  refine ab_aload_nH 3 dL_between_0 rfl rfl ?_
  refine ab_iconstH (v := 0) dL_between_1 rfl ?_
  refine ab_aload_nH 0 dL_between_2 rfl rfl ?_
  refine ab_iload_nH 1 dL_between_3 rfl rfl ?_
  refine ab_iload_nH 2 dL_between_4 rfl rfl ?_
  refine ab_callVH (N := mX10_between) (dy := dy) (my := my) (sy := sy) (k := 10) (i := 0) (As := [zI a1, zI a2]) (rest := [zI 0, zR 64 0]) lL_73 iX10_between sX10_between rfl dL_between_5 rfl rfl ⟨hd, by show 8 + (3 + 11) + 60 * dy ≤ 60 * d; omega⟩ ⟨Nat.le_refl _, Nat.le_refl _⟩ (Nat.le_of_ble_eq_true rfl) h ?_ ?_
  · rintro x w' ⟨v', rfl, hq⟩
    refine gd_rI_k (P := fun x v' => ab_GH hL_between g mL_between d (my - my) (sy - sy) 8 [(0, zR 10 0), (1, zI a1), (2, zI a2), (3, zR 64 0)] (x.toList ++ [zI 0, zR 64 0]) (gd_e v') (gd_Q Q)) (fun y v' hq => ?_) x v' hq
    refine ab_i2lH dL_between_8 ?_
    refine ab_lastoreH (k := 64) (i := 0) (n := 1) ⟨by decide, by decide⟩ rfl rfl dL_between_9 rfl (nu_in (n := 0) (by decide) (by decide)) ?_
    refine ab_gotoH dL_between_10 (tgt := 17) (by decide) ?_
    exact ab_iconstH (v := 0) dL_between_17 rfl (ab_iretH dL_between_18 rfl rfl ⟨gd_sJ v' 64 0 0 y.toInt64, rfl, hq⟩)
  · rintro E w' ⟨v', rfl, hq⟩
    have hq2 : (E = "java/util/NoSuchElementException" ∧ Q (Sum.inl (some (zI 1))) v') := hq
    rcases hq2 with ⟨rfl, hq2⟩
    · exact ⟨[], ⟨0, 10, 13, 19⟩, [], "java/util/NoSuchElementException", 4, 2, rfl, (fun z hz => by cases hz), rfl, by decide, zL_19, zL_c19, Nat.le_of_ble_eq_true rfl, Or.inr ⟨dL_between_13, rfl⟩, ab_iconstH (v := 1) dL_between_15 rfl (ab_iretH dL_between_16 rfl rfl ⟨v', rfl, hq2⟩)⟩
