def wp_X10_feed (g : ab_E) (d : Nat) (a1 : Int32) (a2 : Int32) (a3 : Int32) (a4 : Int32) (a5 : Int32) (v : gd_D) (Q : ab_O → gd_D → Prop) : Prop :=
  ((((v.1 7 0 2) + 20 : Int32) ≤ 500) →
    gd_C g mX7_put 2 0 0 [zR 7 0, zI a1] v (gd_rV (fun v1 =>
      gd_C g mX7_put 2 0 0 [zR 7 0, zI a2] v1 (gd_rV (fun v3 =>
        gd_C g mX7_put 2 0 0 [zR 7 0, zI a3] v3 (gd_rV (fun v5 =>
          gd_C g mX7_put 2 0 0 [zR 7 0, zI a4] v5 (gd_rV (fun v7 =>
            gd_C g mX7_put 2 0 0 [zR 7 0, zI a5] v7 (gd_rV (fun v9 =>
              Q (Sum.inl (some (zI (v9.1 7 0 2)))) v9) (fun E v9 => Q (Sum.inr E) v9))) (fun E v9 => Q (Sum.inr E) v9))) (fun E v9 => Q (Sum.inr E) v9))) (fun E v9 => Q (Sum.inr E) v9))) (fun E v9 => Q (Sum.inr E) v9))) ∧
  ((¬ ((v.1 7 0 2) + 20 : Int32) ≤ 500) →
    Q (Sum.inl (some (zI (-1)))) v)
theorem w_X10_feed {g : ab_E} {d : Nat} {a1 : Int32} {a2 : Int32} {a3 : Int32} {a4 : Int32} {a5 : Int32} {v : gd_D} {Q : ab_O → gd_D → Prop} (hd : 3 ≤ d) (h : wp_X10_feed g d a1 a2 a3 a4 a5 v Q) : gd_G g mX10_feed d 0 0 0 [(0, zR 10 0), (1, zI a1), (2, zI a2), (3, zI a3), (4, zI a4), (5, zI a5)] [] v Q := by
  unfold wp_X10_feed at h
  refine gd_aload_n 0 dX10_feed_0 rfl rfl ?_
  refine gd_getR (x := 0) (kr := 7) fX10_10 rfl rfl dX10_feed_1 rfl ?_
  refine gd_getI fX10_76 rfl dX10_feed_4 ?_
  refine gd_bipush (x9 := 20) dX10_feed_7 (by decide) ?_
  refine gd_iadd dX10_feed_9 ?_
  refine gd_sipush (x9 := 500) dX10_feed_10 (by decide) ?_
  refine gd_icmp_le (tgt := 18) dX10_feed_13 (by decide) (fun hc => ?_) (fun hc => ?_)
  · have h := h.1 hc
    refine gd_aload_n 0 dX10_feed_18 rfl rfl ?_
    refine gd_getR (x := 0) (kr := 7) fX10_10 rfl rfl dX10_feed_19 rfl ?_
    refine gd_iload_n 1 dX10_feed_22 rfl rfl ?_
    refine gd_callVV (As := [zI a1]) (rest := []) (dy := 2) (my := 0) (sy := 0) (k := 7) (i := 0) lX10_79 iX7_put sX7_put rfl dX10_feed_23 rfl rfl (gd_room (by omega) (by decide)) (by decide) (Nat.le_of_ble_eq_true rfl) h (fun v1 h => ?_)
    refine gd_aload_n 0 dX10_feed_26 rfl rfl ?_
    refine gd_getR (x := 0) (kr := 7) fX10_10 rfl rfl dX10_feed_27 rfl ?_
    refine gd_iload_n 2 dX10_feed_30 rfl rfl ?_
    refine gd_callVV (As := [zI a2]) (rest := []) (dy := 2) (my := 0) (sy := 0) (k := 7) (i := 0) lX10_79 iX7_put sX7_put rfl dX10_feed_31 rfl rfl (gd_room (by omega) (by decide)) (by decide) (Nat.le_of_ble_eq_true rfl) h (fun v3 h => ?_)
    refine gd_aload_n 0 dX10_feed_34 rfl rfl ?_
    refine gd_getR (x := 0) (kr := 7) fX10_10 rfl rfl dX10_feed_35 rfl ?_
    refine gd_iload_n 3 dX10_feed_38 rfl rfl ?_
    refine gd_callVV (As := [zI a3]) (rest := []) (dy := 2) (my := 0) (sy := 0) (k := 7) (i := 0) lX10_79 iX7_put sX7_put rfl dX10_feed_39 rfl rfl (gd_room (by omega) (by decide)) (by decide) (Nat.le_of_ble_eq_true rfl) h (fun v5 h => ?_)
    refine gd_aload_n 0 dX10_feed_42 rfl rfl ?_
    refine gd_getR (x := 0) (kr := 7) fX10_10 rfl rfl dX10_feed_43 rfl ?_
    refine gd_iload 4 dX10_feed_46 rfl ?_
    refine gd_callVV (As := [zI a4]) (rest := []) (dy := 2) (my := 0) (sy := 0) (k := 7) (i := 0) lX10_79 iX7_put sX7_put rfl dX10_feed_48 rfl rfl (gd_room (by omega) (by decide)) (by decide) (Nat.le_of_ble_eq_true rfl) h (fun v7 h => ?_)
    refine gd_aload_n 0 dX10_feed_51 rfl rfl ?_
    refine gd_getR (x := 0) (kr := 7) fX10_10 rfl rfl dX10_feed_52 rfl ?_
    refine gd_iload 5 dX10_feed_55 rfl ?_
    refine gd_callVV (As := [zI a5]) (rest := []) (dy := 2) (my := 0) (sy := 0) (k := 7) (i := 0) lX10_79 iX7_put sX7_put rfl dX10_feed_57 rfl rfl (gd_room (by omega) (by decide)) (by decide) (Nat.le_of_ble_eq_true rfl) h (fun v9 h => ?_)
    refine gd_aload_n 0 dX10_feed_60 rfl rfl ?_
    refine gd_getR (x := 0) (kr := 7) fX10_10 rfl rfl dX10_feed_61 rfl ?_
    refine gd_getI fX10_76 rfl dX10_feed_64 ?_
    exact gd_iret (ty := .int) dX10_feed_67 rfl rfl h
  · have h := h.2 hc
    refine gd_iconst (x9 := (-1)) dX10_feed_16 (by decide) ?_
    exact gd_iret (ty := .int) dX10_feed_17 rfl rfl h
theorem c_X10_feed {g : ab_E} {d : Nat} {a1 : Int32} {a2 : Int32} {a3 : Int32} {a4 : Int32} {a5 : Int32} {v : gd_D} {Q : ab_O → gd_D → Prop} (hd : 3 ≤ d) (h : wp_X10_feed g d a1 a2 a3 a4 a5 v Q) : gd_C g mX10_feed d 0 0 [zR 10 0, zI a1, zI a2, zI a3, zI a4, zI a5] v Q := gd_enterF (plainFor_of_name (by decide)) (Nat.le_of_ble_eq_true rfl) rfl (w_X10_feed hd h)
def wp_X10_text (g : ab_E) (d : Nat) (a1 : Int32) (v : gd_D) (Q : ab_O → gd_D → Prop) : Prop :=
  gd_C g mX10_needWithin 9 1 6 [zR 10 0, zI a1, zI 0, zI (v.1 7 0 2)] v (gd_rV (fun v1 =>
    gd_C g mX7_readTape 42 1 500 [zR 7 0, zI a1] v1 (gd_rV (fun v3 =>
      ∀ v5 : gd_D, v5 = gd_sI v3 10 0 10 (v3.1 7 0 4) →
      (((v5.1 7 0 3 : Int32) = 0) →
        gd_C g mX1_keep 4 0 0 [zR 1 0, zR 2 9] v5 (gd_rV (fun v6 =>
          gd_C g mX2_copyFrom 3 0 0 [zR 2 9, zR 2 0] v6 (gd_rV (fun v8 =>
            Q (Sum.inl (some (zI (v8.1 2 9 3)))) v8) (fun E v9 => Q (Sum.inr E) v9))) (fun E v9 => Q (Sum.inr E) v9))) ∧
      ((¬ (v5.1 7 0 3 : Int32) = 0) →
        Q (Sum.inl (some (zI ((v5.1 7 0 3) - 10)))) v5)) (fun E v9 => Q (Sum.inr E) v9))) (fun E v9 => Q (Sum.inr E) v9))
theorem w_X10_text {g : ab_E} {d : Nat} {a1 : Int32} {v : gd_D} {Q : ab_O → gd_D → Prop} (hd : 43 ≤ d) (h : wp_X10_text g d a1 v Q) : gd_G g mX10_text d 2 506 0 [(0, zR 10 0), (1, zI a1)] [] v Q := by
  unfold wp_X10_text at h
  refine gd_aload_n 0 dX10_text_0 rfl rfl ?_
  refine gd_iload_n 1 dX10_text_1 rfl rfl ?_
  refine gd_iconst (x9 := 0) dX10_text_2 (by decide) ?_
  refine gd_aload_n 0 dX10_text_3 rfl rfl ?_
  refine gd_getR (x := 0) (kr := 7) fX10_10 rfl rfl dX10_text_4 rfl ?_
  refine gd_getI fX10_76 rfl dX10_text_7 ?_
  refine gd_callVV (As := [zI a1, zI 0, zI (v.1 7 0 2)]) (rest := []) (dy := 9) (my := 1) (sy := 6) (k := 10) (i := 0) lX10_83 iX10_needWithin sX10_needWithin rfl dX10_text_10 rfl rfl (gd_room (by omega) (by decide)) (by decide) (Nat.le_of_ble_eq_true rfl) h (fun v1 h => ?_)
  refine gd_aload_n 0 dX10_text_13 rfl rfl ?_
  refine gd_getR (x := 0) (kr := 7) fX10_10 rfl rfl dX10_text_14 rfl ?_
  refine gd_iload_n 1 dX10_text_17 rfl rfl ?_
  refine gd_callVV (As := [zI a1]) (rest := []) (dy := 42) (my := 1) (sy := 500) (k := 7) (i := 0) lX10_87 iX7_readTape sX7_readTape rfl dX10_text_18 rfl rfl (gd_room (by omega) (by decide)) (by decide) (Nat.le_of_ble_eq_true rfl) h (fun v3 h => ?_)
  refine gd_aload_n 0 dX10_text_21 rfl rfl ?_
  refine gd_aload_n 0 dX10_text_22 rfl rfl ?_
  refine gd_getR (x := 0) (kr := 7) fX10_10 rfl rfl dX10_text_23 rfl ?_
  refine gd_getI fX10_90 rfl dX10_text_26 ?_
  refine gd_putIn fX10_72 rfl rfl dX10_text_29 (fun v5 ev5 => ?_)
  have h := h v5 ev5
  refine gd_aload_n 0 dX10_text_32 rfl rfl ?_
  refine gd_getR (x := 0) (kr := 7) fX10_10 rfl rfl dX10_text_33 rfl ?_
  refine gd_getI fX10_91 rfl dX10_text_36 ?_
  refine gd_if_eq (tgt := 53) dX10_text_39 (by decide) (fun hc => ?_) (fun hc => ?_)
  · have h := h.1 hc
    refine gd_aload_n 0 dX10_text_53 rfl rfl ?_
    refine gd_getR (x := 0) (kr := 1) fX10_19 rfl rfl dX10_text_54 rfl ?_
    refine gd_aload_n 0 dX10_text_57 rfl rfl ?_
    refine gd_getR (x := 9) (kr := 2) fX10_26 rfl rfl dX10_text_58 rfl ?_
    refine gd_callVV (As := [zR 2 9]) (rest := []) (dy := 4) (my := 0) (sy := 0) (k := 1) (i := 0) lX10_94 iX1_keep sX1_keep rfl dX10_text_61 rfl rfl (gd_room (by omega) (by decide)) (by decide) (Nat.le_of_ble_eq_true rfl) h (fun v6 h => ?_)
    refine gd_aload_n 0 dX10_text_64 rfl rfl ?_
    refine gd_getR (x := 9) (kr := 2) fX10_26 rfl rfl dX10_text_65 rfl ?_
    refine gd_aload_n 0 dX10_text_68 rfl rfl ?_
    refine gd_getR (x := 0) (kr := 7) fX10_10 rfl rfl dX10_text_69 rfl ?_
    refine gd_getR (x := 0) (kr := 2) fX10_98 rfl rfl dX10_text_72 rfl ?_
    refine gd_callVV (As := [zR 2 0]) (rest := []) (dy := 3) (my := 0) (sy := 0) (k := 2) (i := 9) lX10_101 iX2_copyFrom sX2_copyFrom rfl dX10_text_75 rfl rfl (gd_room (by omega) (by decide)) (by decide) (Nat.le_of_ble_eq_true rfl) h (fun v8 h => ?_)
    refine gd_aload_n 0 dX10_text_78 rfl rfl ?_
    refine gd_getR (x := 9) (kr := 2) fX10_26 rfl rfl dX10_text_79 rfl ?_
    refine gd_getI fX10_104 rfl dX10_text_82 ?_
    exact gd_iret (ty := .int) dX10_text_85 rfl rfl h
  · have h := h.2 hc
    refine gd_aload_n 0 dX10_text_42 rfl rfl ?_
    refine gd_getR (x := 0) (kr := 7) fX10_10 rfl rfl dX10_text_43 rfl ?_
    refine gd_getI fX10_91 rfl dX10_text_46 ?_
    refine gd_bipush (x9 := 10) dX10_text_49 (by decide) ?_
    refine gd_isub dX10_text_51 ?_
    exact gd_iret (ty := .int) dX10_text_52 rfl rfl h
theorem c_X10_text {g : ab_E} {d : Nat} {a1 : Int32} {v : gd_D} {Q : ab_O → gd_D → Prop} (hd : 43 ≤ d) (h : wp_X10_text g d a1 v Q) : gd_C g mX10_text d 2 506 [zR 10 0, zI a1] v Q := gd_enterF (plainFor_of_name (by decide)) (Nat.le_of_ble_eq_true rfl) rfl (w_X10_text hd h)
def wp_X10_fault (g : ab_E) (d : Nat) (v : gd_D) (Q : ab_O → gd_D → Prop) : Prop :=
  Q (Sum.inl (some (zI (v.1 10 0 10)))) v
theorem w_X10_fault {g : ab_E} {d : Nat} {v : gd_D} {Q : ab_O → gd_D → Prop} (hd : 0 ≤ d) (h : wp_X10_fault g d v Q) : gd_G g mX10_fault d 0 0 0 [(0, zR 10 0)] [] v Q := by
  unfold wp_X10_fault at h
  refine gd_aload_n 0 dX10_fault_0 rfl rfl ?_
  refine gd_getI fX10_72 rfl dX10_fault_1 ?_
  exact gd_iret (ty := .int) dX10_fault_4 rfl rfl h
theorem c_X10_fault {g : ab_E} {d : Nat} {v : gd_D} {Q : ab_O → gd_D → Prop} (hd : 0 ≤ d) (h : wp_X10_fault g d v Q) : gd_C g mX10_fault d 0 0 [zR 10 0] v Q := gd_enterF (plainFor_of_name (by decide)) (Nat.le_of_ble_eq_true rfl) rfl (w_X10_fault hd h)
def wp_X10_sale_64 (g : ab_E) (d : Nat) (a1 : Int32) (a2 : Int32) (a3 : Int32) (a4 : Int32) (a5 : Int32) (v : gd_D) (Q : ab_O → gd_D → Prop) : Prop :=
  gd_C g mX1_keep 4 0 0 [zR 1 0, zR 2 9] v (gd_rV (fun v1 =>
    gd_C g mX2_addSale 2 0 0 [zR 2 9, zI a1, zI a2, zI a3, zI a4, zI a5] v1 (gd_rV (fun v3 =>
      Q (Sum.inl (some (zI ((v3.1 2 9 3) - 1)))) v3) (fun E v9 => Q (Sum.inr E) v9))) (fun E v9 => Q (Sum.inr E) v9))
theorem w_X10_sale_64 {g : ab_E} {d : Nat} {a1 : Int32} {a2 : Int32} {a3 : Int32} {a4 : Int32} {a5 : Int32} {v : gd_D} {Q : ab_O → gd_D → Prop} (hd : 5 ≤ d) (h : wp_X10_sale_64 g d a1 a2 a3 a4 a5 v Q) : gd_G g mX10_sale d 0 0 64 [(0, zR 10 0), (1, zI a1), (2, zI a2), (3, zI a3), (4, zI a4), (5, zI a5)] [] v Q := by
  unfold wp_X10_sale_64 at h
  refine gd_aload_n 0 dX10_sale_64 rfl rfl ?_
  refine gd_getR (x := 0) (kr := 1) fX10_19 rfl rfl dX10_sale_65 rfl ?_
  refine gd_aload_n 0 dX10_sale_68 rfl rfl ?_
  refine gd_getR (x := 9) (kr := 2) fX10_26 rfl rfl dX10_sale_69 rfl ?_
  refine gd_callVV (As := [zR 2 9]) (rest := []) (dy := 4) (my := 0) (sy := 0) (k := 1) (i := 0) lX10_94 iX1_keep sX1_keep rfl dX10_sale_72 rfl rfl (gd_room (by omega) (by decide)) (by decide) (Nat.le_of_ble_eq_true rfl) h (fun v1 h => ?_)
  refine gd_aload_n 0 dX10_sale_75 rfl rfl ?_
  refine gd_getR (x := 9) (kr := 2) fX10_26 rfl rfl dX10_sale_76 rfl ?_
  refine gd_iload_n 1 dX10_sale_79 rfl rfl ?_
  refine gd_iload_n 2 dX10_sale_80 rfl rfl ?_
  refine gd_iload_n 3 dX10_sale_81 rfl rfl ?_
  refine gd_iload 4 dX10_sale_82 rfl ?_
  refine gd_iload 5 dX10_sale_84 rfl ?_
  refine gd_callVV (As := [zI a1, zI a2, zI a3, zI a4, zI a5]) (rest := []) (dy := 2) (my := 0) (sy := 0) (k := 2) (i := 9) lX10_116 iX2_addSale sX2_addSale rfl dX10_sale_86 rfl rfl (gd_room (by omega) (by decide)) (by decide) (Nat.le_of_ble_eq_true rfl) h (fun v3 h => ?_)
  refine gd_aload_n 0 dX10_sale_89 rfl rfl ?_
  refine gd_getR (x := 9) (kr := 2) fX10_26 rfl rfl dX10_sale_90 rfl ?_
  refine gd_getI fX10_104 rfl dX10_sale_93 ?_
  refine gd_iconst (x9 := 1) dX10_sale_96 (by decide) ?_
  refine gd_isub dX10_sale_97 ?_
  exact gd_iret (ty := .int) dX10_sale_98 rfl rfl h
def wp_X10_sale_19 (g : ab_E) (d : Nat) (a1 : Int32) (a2 : Int32) (a3 : Int32) (a4 : Int32) (a5 : Int32) (v : gd_D) (Q : ab_O → gd_D → Prop) : Prop :=
  gd_C g mX10_needWithin 9 1 6 [zR 10 0, zI a3, zI 1, zI 1000] v (gd_rV (fun v1 =>
    gd_C g mX10_needWithin 9 1 6 [zR 10 0, zI a4, zI 1, zI 10000] v1 (gd_rV (fun v3 =>
      gd_C g mX10_needWithin 9 1 6 [zR 10 0, zI a5, zI 0, zI 999] v3 (gd_rV (fun v5 =>
        (((v5.1 2 9 3 : Int32) < 24) →
          wp_X10_sale_64 g d a1 a2 a3 a4 a5 v5 Q) ∧
        ((¬ (v5.1 2 9 3 : Int32) < 24) →
          gd_C g mX10_refuseUntimely 8 1 6 [zR 10 0] v5 (gd_rV (fun v7 =>
            wp_X10_sale_64 g d a1 a2 a3 a4 a5 v7 Q) (fun E v9 => Q (Sum.inr E) v9)))) (fun E v9 => Q (Sum.inr E) v9))) (fun E v9 => Q (Sum.inr E) v9))) (fun E v9 => Q (Sum.inr E) v9))
theorem w_X10_sale_19 {g : ab_E} {d : Nat} {a1 : Int32} {a2 : Int32} {a3 : Int32} {a4 : Int32} {a5 : Int32} {v : gd_D} {Q : ab_O → gd_D → Prop} (hd : 10 ≤ d) (h : wp_X10_sale_19 g d a1 a2 a3 a4 a5 v Q) : gd_G g mX10_sale d 4 24 19 [(0, zR 10 0), (1, zI a1), (2, zI a2), (3, zI a3), (4, zI a4), (5, zI a5)] [] v Q := by
  unfold wp_X10_sale_19 at h
  refine gd_aload_n 0 dX10_sale_19 rfl rfl ?_
  refine gd_iload_n 3 dX10_sale_20 rfl rfl ?_
  refine gd_iconst (x9 := 1) dX10_sale_21 (by decide) ?_
  refine gd_sipush (x9 := 1000) dX10_sale_22 (by decide) ?_
  refine gd_callVV (As := [zI a3, zI 1, zI 1000]) (rest := []) (dy := 9) (my := 1) (sy := 6) (k := 10) (i := 0) lX10_83 iX10_needWithin sX10_needWithin rfl dX10_sale_25 rfl rfl (gd_room (by omega) (by decide)) (by decide) (Nat.le_of_ble_eq_true rfl) h (fun v1 h => ?_)
  refine gd_aload_n 0 dX10_sale_28 rfl rfl ?_
  refine gd_iload 4 dX10_sale_29 rfl ?_
  refine gd_iconst (x9 := 1) dX10_sale_31 (by decide) ?_
  refine gd_sipush (x9 := 10000) dX10_sale_32 (by decide) ?_
  refine gd_callVV (As := [zI a4, zI 1, zI 10000]) (rest := []) (dy := 9) (my := 1) (sy := 6) (k := 10) (i := 0) lX10_83 iX10_needWithin sX10_needWithin rfl dX10_sale_35 rfl rfl (gd_room (by omega) (by decide)) (by decide) (Nat.le_of_ble_eq_true rfl) h (fun v3 h => ?_)
  refine gd_aload_n 0 dX10_sale_38 rfl rfl ?_
  refine gd_iload 5 dX10_sale_39 rfl ?_
  refine gd_iconst (x9 := 0) dX10_sale_41 (by decide) ?_
  refine gd_sipush (x9 := 999) dX10_sale_42 (by decide) ?_
  refine gd_callVV (As := [zI a5, zI 0, zI 999]) (rest := []) (dy := 9) (my := 1) (sy := 6) (k := 10) (i := 0) lX10_83 iX10_needWithin sX10_needWithin rfl dX10_sale_45 rfl rfl (gd_room (by omega) (by decide)) (by decide) (Nat.le_of_ble_eq_true rfl) h (fun v5 h => ?_)
  refine gd_aload_n 0 dX10_sale_48 rfl rfl ?_
  refine gd_getR (x := 9) (kr := 2) fX10_26 rfl rfl dX10_sale_49 rfl ?_
  refine gd_getI fX10_104 rfl dX10_sale_52 ?_
  refine gd_bipush (x9 := 24) dX10_sale_55 (by decide) ?_
  refine gd_icmp_lt (tgt := 64) dX10_sale_57 (by decide) (fun hc => ?_) (fun hc => ?_)
  · have h := h.1 hc
    refine gd_less (b' := 0) (c' := 0) (by decide) (by decide) ?_
    exact w_X10_sale_64 (by omega) h
  · have h := h.2 hc
    refine gd_aload_n 0 dX10_sale_60 rfl rfl ?_
    refine gd_callVV (As := []) (rest := []) (dy := 8) (my := 1) (sy := 6) (k := 10) (i := 0) lX10_113 iX10_refuseUntimely sX10_refuseUntimely rfl dX10_sale_61 rfl rfl (gd_room (by omega) (by decide)) (by decide) (Nat.le_of_ble_eq_true rfl) h (fun v7 h => ?_)
    exact w_X10_sale_64 (by omega) h
def wp_X10_sale (g : ab_E) (d : Nat) (a1 : Int32) (a2 : Int32) (a3 : Int32) (a4 : Int32) (a5 : Int32) (v : gd_D) (Q : ab_O → gd_D → Prop) : Prop :=
  gd_C g mX10_needDealer 9 1 6 [zR 10 0, zI a1] v (gd_rV (fun v1 =>
    gd_C g mX10_needDealer 9 1 6 [zR 10 0, zI a2] v1 (gd_rV (fun v3 =>
      ((¬ (a1 : Int32) = a2) →
        wp_X10_sale_19 g d a1 a2 a3 a4 a5 v3 Q) ∧
      (((a1 : Int32) = a2) →
        gd_C g mX10_refuseUnfit 8 1 6 [zR 10 0] v3 (gd_rV (fun v5 =>
          wp_X10_sale_19 g d a1 a2 a3 a4 a5 v5 Q) (fun E v9 => Q (Sum.inr E) v9)))) (fun E v9 => Q (Sum.inr E) v9))) (fun E v9 => Q (Sum.inr E) v9))
theorem w_X10_sale {g : ab_E} {d : Nat} {a1 : Int32} {a2 : Int32} {a3 : Int32} {a4 : Int32} {a5 : Int32} {v : gd_D} {Q : ab_O → gd_D → Prop} (hd : 10 ≤ d) (h : wp_X10_sale g d a1 a2 a3 a4 a5 v Q) : gd_G g mX10_sale d 7 42 0 [(0, zR 10 0), (1, zI a1), (2, zI a2), (3, zI a3), (4, zI a4), (5, zI a5)] [] v Q := by
  unfold wp_X10_sale at h
  refine gd_aload_n 0 dX10_sale_0 rfl rfl ?_
  refine gd_iload_n 1 dX10_sale_1 rfl rfl ?_
  refine gd_callVV (As := [zI a1]) (rest := []) (dy := 9) (my := 1) (sy := 6) (k := 10) (i := 0) lX10_107 iX10_needDealer sX10_needDealer rfl dX10_sale_2 rfl rfl (gd_room (by omega) (by decide)) (by decide) (Nat.le_of_ble_eq_true rfl) h (fun v1 h => ?_)
  refine gd_aload_n 0 dX10_sale_5 rfl rfl ?_
  refine gd_iload_n 2 dX10_sale_6 rfl rfl ?_
  refine gd_callVV (As := [zI a2]) (rest := []) (dy := 9) (my := 1) (sy := 6) (k := 10) (i := 0) lX10_107 iX10_needDealer sX10_needDealer rfl dX10_sale_7 rfl rfl (gd_room (by omega) (by decide)) (by decide) (Nat.le_of_ble_eq_true rfl) h (fun v3 h => ?_)
  refine gd_iload_n 1 dX10_sale_10 rfl rfl ?_
  refine gd_iload_n 2 dX10_sale_11 rfl rfl ?_
  refine gd_icmp_ne (tgt := 19) dX10_sale_12 (by decide) (fun hc => ?_) (fun hc => ?_)
  · have h := h.1 hc
    refine gd_less (b' := 4) (c' := 24) (by decide) (by decide) ?_
    exact w_X10_sale_19 (by omega) h
  · have h := h.2 hc
    refine gd_aload_n 0 dX10_sale_15 rfl rfl ?_
    refine gd_callVV (As := []) (rest := []) (dy := 8) (my := 1) (sy := 6) (k := 10) (i := 0) lX10_110 iX10_refuseUnfit sX10_refuseUnfit rfl dX10_sale_16 rfl rfl (gd_room (by omega) (by decide)) (by decide) (Nat.le_of_ble_eq_true rfl) h (fun v5 h => ?_)
    exact w_X10_sale_19 (by omega) h
theorem c_X10_sale {g : ab_E} {d : Nat} {a1 : Int32} {a2 : Int32} {a3 : Int32} {a4 : Int32} {a5 : Int32} {v : gd_D} {Q : ab_O → gd_D → Prop} (hd : 10 ≤ d) (h : wp_X10_sale g d a1 a2 a3 a4 a5 v Q) : gd_C g mX10_sale d 7 42 [zR 10 0, zI a1, zI a2, zI a3, zI a4, zI a5] v Q := gd_enterF (plainFor_of_name (by decide)) (Nat.le_of_ble_eq_true rfl) rfl (w_X10_sale hd h)
def wp_X10_stock (g : ab_E) (d : Nat) (a1 : Int32) (a2 : Int32) (v : gd_D) (Q : ab_O → gd_D → Prop) : Prop :=
  gd_C g mX10_needDealer 9 1 6 [zR 10 0, zI a1] v (gd_rV (fun v1 =>
    gd_C g mX10_needWithin 9 1 6 [zR 10 0, zI a2, zI 0, zI 100000] v1 (gd_rV (fun v3 =>
      gd_C g mX1_keep 4 0 0 [zR 1 0, zR 2 9] v3 (gd_rV (fun v5 =>
        vp_in a1 8 ∧
        vp_in a1 8 ∧
        ∀ v7 : gd_D, v7 = gd_sI v5 0 (8 * 9 + (a1 : Int32).toNatClampNeg) 0 a2 →
        Q (Sum.inl (some (zI (v5.1 0 (8 * 9 + (a1 : Int32).toNatClampNeg) 0)))) v7) (fun E v9 => Q (Sum.inr E) v9))) (fun E v9 => Q (Sum.inr E) v9))) (fun E v9 => Q (Sum.inr E) v9))
theorem w_X10_stock {g : ab_E} {d : Nat} {a1 : Int32} {a2 : Int32} {v : gd_D} {Q : ab_O → gd_D → Prop} (hd : 10 ≤ d) (h : wp_X10_stock g d a1 a2 v Q) : gd_G g mX10_stock d 2 12 0 [(0, zR 10 0), (1, zI a1), (2, zI a2)] [] v Q := by
  unfold wp_X10_stock at h
  refine gd_aload_n 0 dX10_stock_0 rfl rfl ?_
  refine gd_iload_n 1 dX10_stock_1 rfl rfl ?_
  refine gd_callVV (As := [zI a1]) (rest := []) (dy := 9) (my := 1) (sy := 6) (k := 10) (i := 0) lX10_107 iX10_needDealer sX10_needDealer rfl dX10_stock_2 rfl rfl (gd_room (by omega) (by decide)) (by decide) (Nat.le_of_ble_eq_true rfl) h (fun v1 h => ?_)
  refine gd_aload_n 0 dX10_stock_5 rfl rfl ?_
  refine gd_iload_n 2 dX10_stock_6 rfl rfl ?_
  refine gd_iconst (x9 := 0) dX10_stock_7 (by decide) ?_
  refine gd_ldc kX10_120 dX10_stock_8 ?_
  refine gd_callVV (As := [zI a2, zI 0, zI 100000]) (rest := []) (dy := 9) (my := 1) (sy := 6) (k := 10) (i := 0) lX10_83 iX10_needWithin sX10_needWithin rfl dX10_stock_10 rfl rfl (gd_room (by omega) (by decide)) (by decide) (Nat.le_of_ble_eq_true rfl) h (fun v3 h => ?_)
  refine gd_aload_n 0 dX10_stock_13 rfl rfl ?_
  refine gd_getR (x := 0) (kr := 1) fX10_19 rfl rfl dX10_stock_14 rfl ?_
  refine gd_aload_n 0 dX10_stock_17 rfl rfl ?_
  refine gd_getR (x := 9) (kr := 2) fX10_26 rfl rfl dX10_stock_18 rfl ?_
  refine gd_callVV (As := [zR 2 9]) (rest := []) (dy := 4) (my := 0) (sy := 0) (k := 1) (i := 0) lX10_94 iX1_keep sX1_keep rfl dX10_stock_21 rfl rfl (gd_room (by omega) (by decide)) (by decide) (Nat.le_of_ble_eq_true rfl) h (fun v5 h => ?_)
  refine gd_aload_n 0 dX10_stock_24 rfl rfl ?_
  refine gd_getR (x := 9) (kr := 2) fX10_26 rfl rfl dX10_stock_25 rfl ?_
  refine gd_getR (x := 9) (kr := 13) fX10_121 rfl rfl dX10_stock_28 rfl ?_
  refine gd_iload_n 1 dX10_stock_31 rfl rfl ?_
  obtain ⟨hb, h⟩ := h
  refine gd_aaload (n := 8) (kr := 0) (y := 8 * 9 + (a1 : Int32).toNatClampNeg) (by decide) rfl rfl dX10_stock_32 rfl hb (if_pos (ab_inlt hb)) ?_
  refine gd_getI fX10_125 rfl dX10_stock_33 ?_
  refine gd_istore_n (L' := [(3, zI (v5.1 0 (8 * 9 + (a1 : Int32).toNatClampNeg) 0)), (0, zR 10 0), (1, zI a1), (2, zI a2)]) dX10_stock_36 rfl (by decide) rfl ?_
  refine gd_aload_n 1 dX10_stock_37 rfl rfl ?_
  refine gd_getR (x := 9) (kr := 2) fX10_26 rfl rfl dX10_stock_38 rfl ?_
  refine gd_getR (x := 9) (kr := 13) fX10_121 rfl rfl dX10_stock_41 rfl ?_
  refine gd_iload_n 2 dX10_stock_44 rfl rfl ?_
  obtain ⟨hb, h⟩ := h
  refine gd_aaload (n := 8) (kr := 0) (y := 8 * 9 + (a1 : Int32).toNatClampNeg) (by decide) rfl rfl dX10_stock_45 rfl hb (if_pos (ab_inlt hb)) ?_
  refine gd_iload_n 3 dX10_stock_46 rfl rfl ?_
  refine gd_putIn fX10_125 rfl rfl dX10_stock_47 (fun v7 ev7 => ?_)
  have h := h v7 ev7
  refine gd_iload_n 0 dX10_stock_50 rfl rfl ?_
  exact gd_iret (ty := .int) dX10_stock_51 rfl rfl h
theorem c_X10_stock {g : ab_E} {d : Nat} {a1 : Int32} {a2 : Int32} {v : gd_D} {Q : ab_O → gd_D → Prop} (hd : 10 ≤ d) (h : wp_X10_stock g d a1 a2 v Q) : gd_C g mX10_stock d 2 12 [zR 10 0, zI a1, zI a2] v Q := gd_enterF (plainFor_of_name (by decide)) (Nat.le_of_ble_eq_true rfl) rfl (w_X10_stock hd h)
def wp_X10_mark (g : ab_E) (d : Nat) (a1 : Int32) (v : gd_D) (Q : ab_O → gd_D → Prop) : Prop :=
  gd_C g mX10_needWithin 9 1 6 [zR 10 0, zI a1, zI 1, zI 10000] v (gd_rV (fun v1 =>
    gd_C g mX1_keep 4 0 0 [zR 1 0, zR 2 9] v1 (gd_rV (fun v3 =>
      ∀ v5 : gd_D, v5 = gd_sI v3 2 9 5 a1 →
      Q (Sum.inl (some (zI (v3.1 2 9 5)))) v5) (fun E v9 => Q (Sum.inr E) v9))) (fun E v9 => Q (Sum.inr E) v9))
theorem w_X10_mark {g : ab_E} {d : Nat} {a1 : Int32} {v : gd_D} {Q : ab_O → gd_D → Prop} (hd : 10 ≤ d) (h : wp_X10_mark g d a1 v Q) : gd_G g mX10_mark d 1 6 0 [(0, zR 10 0), (1, zI a1)] [] v Q := by
  unfold wp_X10_mark at h
  refine gd_aload_n 0 dX10_mark_0 rfl rfl ?_
  refine gd_iload_n 1 dX10_mark_1 rfl rfl ?_
  refine gd_iconst (x9 := 1) dX10_mark_2 (by decide) ?_
  refine gd_sipush (x9 := 10000) dX10_mark_3 (by decide) ?_
  refine gd_callVV (As := [zI a1, zI 1, zI 10000]) (rest := []) (dy := 9) (my := 1) (sy := 6) (k := 10) (i := 0) lX10_83 iX10_needWithin sX10_needWithin rfl dX10_mark_6 rfl rfl (gd_room (by omega) (by decide)) (by decide) (Nat.le_of_ble_eq_true rfl) h (fun v1 h => ?_)
  refine gd_aload_n 0 dX10_mark_9 rfl rfl ?_
  refine gd_getR (x := 0) (kr := 1) fX10_19 rfl rfl dX10_mark_10 rfl ?_
  refine gd_aload_n 0 dX10_mark_13 rfl rfl ?_
  refine gd_getR (x := 9) (kr := 2) fX10_26 rfl rfl dX10_mark_14 rfl ?_
  refine gd_callVV (As := [zR 2 9]) (rest := []) (dy := 4) (my := 0) (sy := 0) (k := 1) (i := 0) lX10_94 iX1_keep sX1_keep rfl dX10_mark_17 rfl rfl (gd_room (by omega) (by decide)) (by decide) (Nat.le_of_ble_eq_true rfl) h (fun v3 h => ?_)
  refine gd_aload_n 0 dX10_mark_20 rfl rfl ?_
  refine gd_getR (x := 9) (kr := 2) fX10_26 rfl rfl dX10_mark_21 rfl ?_
  refine gd_getI fX10_130 rfl dX10_mark_24 ?_
  refine gd_istore_n (L' := [(2, zI (v3.1 2 9 5)), (0, zR 10 0), (1, zI a1)]) dX10_mark_27 rfl (by decide) rfl ?_
  refine gd_aload_n 1 dX10_mark_28 rfl rfl ?_
  refine gd_getR (x := 9) (kr := 2) fX10_26 rfl rfl dX10_mark_29 rfl ?_
  refine gd_iload_n 2 dX10_mark_32 rfl rfl ?_
  refine gd_putIn fX10_130 rfl rfl dX10_mark_33 (fun v5 ev5 => ?_)
  have h := h v5 ev5
  refine gd_iload_n 0 dX10_mark_36 rfl rfl ?_
  exact gd_iret (ty := .int) dX10_mark_37 rfl rfl h
theorem c_X10_mark {g : ab_E} {d : Nat} {a1 : Int32} {v : gd_D} {Q : ab_O → gd_D → Prop} (hd : 10 ≤ d) (h : wp_X10_mark g d a1 v Q) : gd_C g mX10_mark d 1 6 [zR 10 0, zI a1] v Q := gd_enterF (plainFor_of_name (by decide)) (Nat.le_of_ble_eq_true rfl) rfl (w_X10_mark hd h)
def wp_X10_night_17 (g : ab_E) (d : Nat) (v : gd_D) (Q : ab_O → gd_D → Prop) : Prop :=
  gd_C g mX1_keep 4 0 0 [zR 1 0, zR 2 9] v (gd_rV (fun v1 =>
    gd_C g mX4_pass 43 0 0 [zR 4 0, zR 2 9] v1 (gd_rV (fun v3 =>
      Q (Sum.inl (some (zI (v3.1 4 0 3)))) v3) (fun E v9 => Q (Sum.inr E) v9))) (fun E v9 => Q (Sum.inr E) v9))
theorem w_X10_night_17 {g : ab_E} {d : Nat} {v : gd_D} {Q : ab_O → gd_D → Prop} (hd : 44 ≤ d) (h : wp_X10_night_17 g d v Q) : gd_G g mX10_night d 0 0 17 [(0, zR 10 0)] [] v Q := by
  unfold wp_X10_night_17 at h
  refine gd_aload_n 0 dX10_night_17 rfl rfl ?_
  refine gd_getR (x := 0) (kr := 1) fX10_19 rfl rfl dX10_night_18 rfl ?_
  refine gd_aload_n 0 dX10_night_21 rfl rfl ?_
  refine gd_getR (x := 9) (kr := 2) fX10_26 rfl rfl dX10_night_22 rfl ?_
  refine gd_callVV (As := [zR 2 9]) (rest := []) (dy := 4) (my := 0) (sy := 0) (k := 1) (i := 0) lX10_94 iX1_keep sX1_keep rfl dX10_night_25 rfl rfl (gd_room (by omega) (by decide)) (by decide) (Nat.le_of_ble_eq_true rfl) h (fun v1 h => ?_)
  refine gd_aload_n 0 dX10_night_28 rfl rfl ?_
  refine gd_getR (x := 0) (kr := 4) fX10_64 rfl rfl dX10_night_29 rfl ?_
  refine gd_aload_n 0 dX10_night_32 rfl rfl ?_
  refine gd_getR (x := 9) (kr := 2) fX10_26 rfl rfl dX10_night_33 rfl ?_
  refine gd_callVV (As := [zR 2 9]) (rest := []) (dy := 43) (my := 0) (sy := 0) (k := 4) (i := 0) lX10_136 iX4_pass sX4_pass rfl dX10_night_36 rfl rfl (gd_room (by omega) (by decide)) (by decide) (Nat.le_of_ble_eq_true rfl) h (fun v3 h => ?_)
  refine gd_aload_n 0 dX10_night_39 rfl rfl ?_
  refine gd_getR (x := 0) (kr := 4) fX10_64 rfl rfl dX10_night_40 rfl ?_
  refine gd_getI fX10_139 rfl dX10_night_43 ?_
  exact gd_iret (ty := .int) dX10_night_46 rfl rfl h
def wp_X10_night (g : ab_E) (d : Nat) (v : gd_D) (Q : ab_O → gd_D → Prop) : Prop :=
  (((v.1 2 9 4 : Int32) < 5000) →
    wp_X10_night_17 g d v Q) ∧
  ((¬ (v.1 2 9 4 : Int32) < 5000) →
    gd_C g mX10_refuseUntimely 8 1 6 [zR 10 0] v (gd_rV (fun v1 =>
      wp_X10_night_17 g d v1 Q) (fun E v9 => Q (Sum.inr E) v9)))
theorem w_X10_night {g : ab_E} {d : Nat} {v : gd_D} {Q : ab_O → gd_D → Prop} (hd : 44 ≤ d) (h : wp_X10_night g d v Q) : gd_G g mX10_night d 1 6 0 [(0, zR 10 0)] [] v Q := by
  unfold wp_X10_night at h
  refine gd_aload_n 0 dX10_night_0 rfl rfl ?_
  refine gd_getR (x := 9) (kr := 2) fX10_26 rfl rfl dX10_night_1 rfl ?_
  refine gd_getI fX10_133 rfl dX10_night_4 ?_
  refine gd_sipush (x9 := 5000) dX10_night_7 (by decide) ?_
  refine gd_icmp_lt (tgt := 17) dX10_night_10 (by decide) (fun hc => ?_) (fun hc => ?_)
  · have h := h.1 hc
    refine gd_less (b' := 0) (c' := 0) (by decide) (by decide) ?_
    exact w_X10_night_17 (by omega) h
  · have h := h.2 hc
    refine gd_aload_n 0 dX10_night_13 rfl rfl ?_
    refine gd_callVV (As := []) (rest := []) (dy := 8) (my := 1) (sy := 6) (k := 10) (i := 0) lX10_113 iX10_refuseUntimely sX10_refuseUntimely rfl dX10_night_14 rfl rfl (gd_room (by omega) (by decide)) (by decide) (Nat.le_of_ble_eq_true rfl) h (fun v1 h => ?_)
    exact w_X10_night_17 (by omega) h
theorem c_X10_night {g : ab_E} {d : Nat} {v : gd_D} {Q : ab_O → gd_D → Prop} (hd : 44 ≤ d) (h : wp_X10_night g d v Q) : gd_C g mX10_night d 1 6 [zR 10 0] v Q := gd_enterF (plainFor_of_name (by decide)) (Nat.le_of_ble_eq_true rfl) rfl (w_X10_night hd h)
def wp_X10_buyin_20 (g : ab_E) (d : Nat) (a1 : Int32) (a2 : Int32) (v : gd_D) (Q : ab_O → gd_D → Prop) : Prop :=
  vp_in a1 24 ∧
  gd_C g mX10_needWithin 9 1 6 [zR 10 0, zI a2, zI 1, zI (v.1 9 (24 * 9 + (a1 : Int32).toNatClampNeg) 5)] v (gd_rV (fun v1 =>
    gd_C g mX1_keep 4 0 0 [zR 1 0, zR 2 9] v1 (gd_rV (fun v3 =>
      gd_C g mX5_arrange 4 0 0 [zR 5 0, zR 2 9] v3 (gd_rV (fun v5 =>
        gd_C g mX6_buyIn 41 0 0 [zR 6 0, zR 2 9, zR 5 0, zI a1, zI a2] v5 (gd_rV (fun v7 =>
          vp_in a1 24 ∧
          ∀ x9 : Int32, x9 = v7.1 9 (24 * 9 + (a1 : Int32).toNatClampNeg) 5 →
          Q (Sum.inl (some (zI x9))) v7) (fun E v9 => Q (Sum.inr E) v9))) (fun E v9 => Q (Sum.inr E) v9))) (fun E v9 => Q (Sum.inr E) v9))) (fun E v9 => Q (Sum.inr E) v9))
theorem w_X10_buyin_20 {g : ab_E} {d : Nat} {a1 : Int32} {a2 : Int32} {v : gd_D} {Q : ab_O → gd_D → Prop} (hd : 42 ≤ d) (h : wp_X10_buyin_20 g d a1 a2 v Q) : gd_G g mX10_buyin d 1 6 20 [(0, zR 10 0), (1, zI a1), (2, zI a2)] [] v Q := by
  unfold wp_X10_buyin_20 at h
  refine gd_aload_n 0 dX10_buyin_20 rfl rfl ?_
  refine gd_iload_n 2 dX10_buyin_21 rfl rfl ?_
  refine gd_iconst (x9 := 1) dX10_buyin_22 (by decide) ?_
  refine gd_aload_n 0 dX10_buyin_23 rfl rfl ?_
  refine gd_getR (x := 9) (kr := 2) fX10_26 rfl rfl dX10_buyin_24 rfl ?_
  refine gd_getR (x := 9) (kr := 14) fX10_149 rfl rfl dX10_buyin_27 rfl ?_
  refine gd_iload_n 1 dX10_buyin_30 rfl rfl ?_
  obtain ⟨hb, h⟩ := h
  refine gd_aaload (n := 24) (kr := 9) (y := 24 * 9 + (a1 : Int32).toNatClampNeg) (by decide) rfl rfl dX10_buyin_31 rfl hb (if_pos (ab_inlt hb)) ?_
  refine gd_getI fX10_153 rfl dX10_buyin_32 ?_
  refine gd_callVV (As := [zI a2, zI 1, zI (v.1 9 (24 * 9 + (a1 : Int32).toNatClampNeg) 5)]) (rest := []) (dy := 9) (my := 1) (sy := 6) (k := 10) (i := 0) lX10_83 iX10_needWithin sX10_needWithin rfl dX10_buyin_35 rfl rfl (gd_room (by omega) (by decide)) (by decide) (Nat.le_of_ble_eq_true rfl) h (fun v1 h => ?_)
  refine gd_aload_n 0 dX10_buyin_38 rfl rfl ?_
  refine gd_getR (x := 0) (kr := 1) fX10_19 rfl rfl dX10_buyin_39 rfl ?_
  refine gd_aload_n 0 dX10_buyin_42 rfl rfl ?_
  refine gd_getR (x := 9) (kr := 2) fX10_26 rfl rfl dX10_buyin_43 rfl ?_
  refine gd_callVV (As := [zR 2 9]) (rest := []) (dy := 4) (my := 0) (sy := 0) (k := 1) (i := 0) lX10_94 iX1_keep sX1_keep rfl dX10_buyin_46 rfl rfl (gd_room (by omega) (by decide)) (by decide) (Nat.le_of_ble_eq_true rfl) h (fun v3 h => ?_)
  refine gd_aload_n 0 dX10_buyin_49 rfl rfl ?_
  refine gd_getR (x := 0) (kr := 5) fX10_36 rfl rfl dX10_buyin_50 rfl ?_
  refine gd_aload_n 0 dX10_buyin_53 rfl rfl ?_
  refine gd_getR (x := 9) (kr := 2) fX10_26 rfl rfl dX10_buyin_54 rfl ?_
  refine gd_callVV (As := [zR 2 9]) (rest := []) (dy := 4) (my := 0) (sy := 0) (k := 5) (i := 0) lX10_158 iX5_arrange sX5_arrange rfl dX10_buyin_57 rfl rfl (gd_room (by omega) (by decide)) (by decide) (Nat.le_of_ble_eq_true rfl) h (fun v5 h => ?_)
  refine gd_aload_n 0 dX10_buyin_60 rfl rfl ?_
  refine gd_getR (x := 0) (kr := 6) fX10_43 rfl rfl dX10_buyin_61 rfl ?_
  refine gd_aload_n 0 dX10_buyin_64 rfl rfl ?_
  refine gd_getR (x := 9) (kr := 2) fX10_26 rfl rfl dX10_buyin_65 rfl ?_
  refine gd_aload_n 0 dX10_buyin_68 rfl rfl ?_
  refine gd_getR (x := 0) (kr := 5) fX10_36 rfl rfl dX10_buyin_69 rfl ?_
  refine gd_iload_n 1 dX10_buyin_72 rfl rfl ?_
  refine gd_iload_n 2 dX10_buyin_73 rfl rfl ?_
  refine gd_callVV (As := [zR 2 9, zR 5 0, zI a1, zI a2]) (rest := []) (dy := 41) (my := 0) (sy := 0) (k := 6) (i := 0) lX10_161 iX6_buyIn sX6_buyIn rfl dX10_buyin_74 rfl rfl (gd_room (by omega) (by decide)) (by decide) (Nat.le_of_ble_eq_true rfl) h (fun v7 h => ?_)
  refine gd_aload_n 0 dX10_buyin_77 rfl rfl ?_
  refine gd_getR (x := 9) (kr := 2) fX10_26 rfl rfl dX10_buyin_78 rfl ?_
  refine gd_getR (x := 9) (kr := 14) fX10_149 rfl rfl dX10_buyin_81 rfl ?_
  refine gd_iload_n 1 dX10_buyin_84 rfl rfl ?_
  obtain ⟨hb, h⟩ := h
  refine gd_aaload (n := 24) (kr := 9) (y := 24 * 9 + (a1 : Int32).toNatClampNeg) (by decide) rfl rfl dX10_buyin_85 rfl hb (if_pos (ab_inlt hb)) ?_
  refine gd_getI fX10_153 rfl dX10_buyin_86 ?_
  refine gd_nmI (fun x9 ex9 => ?_)
  have h := h x9 ex9
  exact gd_iret (ty := .int) dX10_buyin_89 rfl rfl h
def wp_X10_buyin (g : ab_E) (d : Nat) (a1 : Int32) (a2 : Int32) (v : gd_D) (Q : ab_O → gd_D → Prop) : Prop :=
  gd_C g mX10_needSale 9 1 6 [zR 10 0, zI a1] v (gd_rV (fun v1 =>
    gd_C g mX2_isAsked 2 0 0 [zR 2 9, zI a1] v1 (gd_rI (fun (r4 : Int32) v3 =>
      ((¬ (r4 : Int32) = 0) →
        wp_X10_buyin_20 g d a1 a2 v3 Q) ∧
      (((r4 : Int32) = 0) →
        gd_C g mX10_refuseUntimely 8 1 6 [zR 10 0] v3 (gd_rV (fun v5 =>
          wp_X10_buyin_20 g d a1 a2 v5 Q) (fun E v9 => Q (Sum.inr E) v9)))) (fun E v9 => Q (Sum.inr E) v9))) (fun E v9 => Q (Sum.inr E) v9))
theorem w_X10_buyin {g : ab_E} {d : Nat} {a1 : Int32} {a2 : Int32} {v : gd_D} {Q : ab_O → gd_D → Prop} (hd : 42 ≤ d) (h : wp_X10_buyin g d a1 a2 v Q) : gd_G g mX10_buyin d 3 18 0 [(0, zR 10 0), (1, zI a1), (2, zI a2)] [] v Q := by
  unfold wp_X10_buyin at h
  refine gd_aload_n 0 dX10_buyin_0 rfl rfl ?_
  refine gd_iload_n 1 dX10_buyin_1 rfl rfl ?_
  refine gd_callVV (As := [zI a1]) (rest := []) (dy := 9) (my := 1) (sy := 6) (k := 10) (i := 0) lX10_142 iX10_needSale sX10_needSale rfl dX10_buyin_2 rfl rfl (gd_room (by omega) (by decide)) (by decide) (Nat.le_of_ble_eq_true rfl) h (fun v1 h => ?_)
  refine gd_aload_n 0 dX10_buyin_5 rfl rfl ?_
  refine gd_getR (x := 9) (kr := 2) fX10_26 rfl rfl dX10_buyin_6 rfl ?_
  refine gd_iload_n 1 dX10_buyin_9 rfl rfl ?_
  refine gd_callVI (As := [zI a1]) (rest := []) (dy := 2) (my := 0) (sy := 0) (k := 2) (i := 9) lX10_145 iX2_isAsked sX2_isAsked rfl dX10_buyin_10 rfl rfl (gd_room (by omega) (by decide)) (by decide) (Nat.le_of_ble_eq_true rfl) h (fun r4 v3 h => ?_)
  refine gd_if_ne (tgt := 20) dX10_buyin_13 (by decide) (fun hc => ?_) (fun hc => ?_)
  · have h := h.1 hc
    refine gd_less (b' := 1) (c' := 6) (by decide) (by decide) ?_
    exact w_X10_buyin_20 (by omega) h
  · have h := h.2 hc
    refine gd_aload_n 0 dX10_buyin_16 rfl rfl ?_
    refine gd_callVV (As := []) (rest := []) (dy := 8) (my := 1) (sy := 6) (k := 10) (i := 0) lX10_113 iX10_refuseUntimely sX10_refuseUntimely rfl dX10_buyin_17 rfl rfl (gd_room (by omega) (by decide)) (by decide) (Nat.le_of_ble_eq_true rfl) h (fun v5 h => ?_)
    exact w_X10_buyin_20 (by omega) h
theorem c_X10_buyin {g : ab_E} {d : Nat} {a1 : Int32} {a2 : Int32} {v : gd_D} {Q : ab_O → gd_D → Prop} (hd : 42 ≤ d) (h : wp_X10_buyin g d a1 a2 v Q) : gd_C g mX10_buyin d 3 18 [zR 10 0, zI a1, zI a2] v Q := gd_enterF (plainFor_of_name (by decide)) (Nat.le_of_ble_eq_true rfl) rfl (w_X10_buyin hd h)
def wp_X10_undo (g : ab_E) (d : Nat) (v : gd_D) (Q : ab_O → gd_D → Prop) : Prop :=
  gd_C g mX1_takeBack 4 0 0 [zR 1 0, zR 2 9] v (gd_rI (fun (r2 : Int32) v1 =>
    Q (Sum.inl (some (zI r2))) v1) (fun E v9 => Q (Sum.inr E) v9))
theorem w_X10_undo {g : ab_E} {d : Nat} {v : gd_D} {Q : ab_O → gd_D → Prop} (hd : 5 ≤ d) (h : wp_X10_undo g d v Q) : gd_G g mX10_undo d 0 0 0 [(0, zR 10 0)] [] v Q := by
  unfold wp_X10_undo at h
  refine gd_aload_n 0 dX10_undo_0 rfl rfl ?_
  refine gd_getR (x := 0) (kr := 1) fX10_19 rfl rfl dX10_undo_1 rfl ?_
  refine gd_aload_n 0 dX10_undo_4 rfl rfl ?_
  refine gd_getR (x := 9) (kr := 2) fX10_26 rfl rfl dX10_undo_5 rfl ?_
  refine gd_callVI (As := [zR 2 9]) (rest := []) (dy := 4) (my := 0) (sy := 0) (k := 1) (i := 0) lX10_165 iX1_takeBack sX1_takeBack rfl dX10_undo_8 rfl rfl (gd_room (by omega) (by decide)) (by decide) (Nat.le_of_ble_eq_true rfl) h (fun r2 v1 h => ?_)
  exact gd_iret (ty := .int) dX10_undo_11 rfl rfl h
theorem c_X10_undo {g : ab_E} {d : Nat} {v : gd_D} {Q : ab_O → gd_D → Prop} (hd : 5 ≤ d) (h : wp_X10_undo g d v Q) : gd_C g mX10_undo d 0 0 [zR 10 0] v Q := gd_enterF (plainFor_of_name (by decide)) (Nat.le_of_ble_eq_true rfl) rfl (w_X10_undo hd h)
def wp_X10_told (g : ab_E) (d : Nat) (a1 : Int32) (v : gd_D) (Q : ab_O → gd_D → Prop) : Prop :=
  gd_C g mX10_needWithin 9 1 6 [zR 10 0, zI a1, zI 0, zI 10] v (gd_rV (fun v1 =>
    ((a1 : Int32) = 0 →
      Q (Sum.inl (some (zI (v1.1 2 9 2)))) v1) ∧
    ((a1 : Int32) = 1 →
      Q (Sum.inl (some (zI (v1.1 2 9 3)))) v1) ∧
    ((a1 : Int32) = 2 →
      Q (Sum.inl (some (zI (v1.1 2 9 4)))) v1) ∧
    ((a1 : Int32) = 3 →
      Q (Sum.inl (some (zI (v1.1 2 9 5)))) v1) ∧
    ((a1 : Int32) = 4 →
      Q (Sum.inl (some (zI (v1.1 2 9 6)))) v1) ∧
    ((a1 : Int32) = 5 →
      Q (Sum.inl (some (zI (v1.1 2 9 7)))) v1) ∧
    ((a1 : Int32) = 6 →
      Q (Sum.inl (some (zI (v1.1 2 9 8)))) v1) ∧
    ((a1 : Int32) = 7 →
      gd_C g mX2_countFails 3 0 0 [zR 2 9] v1 (gd_rI (fun (r4 : Int32) v3 =>
        Q (Sum.inl (some (zI r4))) v3) (fun E v9 => Q (Sum.inr E) v9))) ∧
    ((a1 : Int32) = 8 →
      gd_C g mX2_unitsOfFails 3 0 0 [zR 2 9, zI (-1), zI (-1)] v1 (gd_rI (fun (r6 : Int32) v5 =>
        Q (Sum.inl (some (zI r6))) v5) (fun E v9 => Q (Sum.inr E) v9))) ∧
    ((a1 : Int32) = 9 →
      Q (Sum.inl (some (zI (v1.1 7 0 2)))) v1) ∧
    (((a1 : Int32).toInt < 0 ∨ 9 < (a1 : Int32).toInt) →
      Q (Sum.inl (some (zI (v1.1 1 0 2)))) v1)) (fun E v9 => Q (Sum.inr E) v9))
theorem w_X10_told {g : ab_E} {d : Nat} {a1 : Int32} {v : gd_D} {Q : ab_O → gd_D → Prop} (hd : 10 ≤ d) (h : wp_X10_told g d a1 v Q) : gd_G g mX10_told d 1 6 0 [(0, zR 10 0), (1, zI a1)] [] v Q := by
  unfold wp_X10_told at h
  refine gd_aload_n 0 dX10_told_0 rfl rfl ?_
  refine gd_iload_n 1 dX10_told_1 rfl rfl ?_
  refine gd_iconst (x9 := 0) dX10_told_2 (by decide) ?_
  refine gd_bipush (x9 := 10) dX10_told_3 (by decide) ?_
  refine gd_callVV (As := [zI a1, zI 0, zI 10]) (rest := []) (dy := 9) (my := 1) (sy := 6) (k := 10) (i := 0) lX10_83 iX10_needWithin sX10_needWithin rfl dX10_told_5 rfl rfl (gd_room (by omega) (by decide)) (by decide) (Nat.le_of_ble_eq_true rfl) h (fun v1 h => ?_)
  refine gd_iload_n 1 dX10_told_8 rfl rfl ?_
  rcases sw_0_9 a1 with hc | hc | hc | hc | hc | hc | hc | hc | hc | hc | hc
  · refine gd_tableIn (off := 55) (tgt := 64) dX10_told_9 (by rw [hc]; decide) (by rw [hc]; decide) (by rw [hc]; decide) (by decide) ?_
    have h := h.1 hc
    refine gd_aload_n 0 dX10_told_64 rfl rfl ?_
    refine gd_getR (x := 9) (kr := 2) fX10_26 rfl rfl dX10_told_65 rfl ?_
    refine gd_getI fX10_169 rfl dX10_told_68 ?_
    exact gd_iret (ty := .int) dX10_told_71 rfl rfl h
  · refine gd_tableIn (off := 63) (tgt := 72) dX10_told_9 (by rw [hc]; decide) (by rw [hc]; decide) (by rw [hc]; decide) (by decide) ?_
    have h := h.2.1 hc
    refine gd_aload_n 0 dX10_told_72 rfl rfl ?_
    refine gd_getR (x := 9) (kr := 2) fX10_26 rfl rfl dX10_told_73 rfl ?_
    refine gd_getI fX10_104 rfl dX10_told_76 ?_
    exact gd_iret (ty := .int) dX10_told_79 rfl rfl h
  · refine gd_tableIn (off := 71) (tgt := 80) dX10_told_9 (by rw [hc]; decide) (by rw [hc]; decide) (by rw [hc]; decide) (by decide) ?_
    have h := h.2.2.1 hc
    refine gd_aload_n 0 dX10_told_80 rfl rfl ?_
    refine gd_getR (x := 9) (kr := 2) fX10_26 rfl rfl dX10_told_81 rfl ?_
    refine gd_getI fX10_133 rfl dX10_told_84 ?_
    exact gd_iret (ty := .int) dX10_told_87 rfl rfl h
  · refine gd_tableIn (off := 79) (tgt := 88) dX10_told_9 (by rw [hc]; decide) (by rw [hc]; decide) (by rw [hc]; decide) (by decide) ?_
    have h := h.2.2.2.1 hc
    refine gd_aload_n 0 dX10_told_88 rfl rfl ?_
    refine gd_getR (x := 9) (kr := 2) fX10_26 rfl rfl dX10_told_89 rfl ?_
    refine gd_getI fX10_130 rfl dX10_told_92 ?_
    exact gd_iret (ty := .int) dX10_told_95 rfl rfl h
  · refine gd_tableIn (off := 87) (tgt := 96) dX10_told_9 (by rw [hc]; decide) (by rw [hc]; decide) (by rw [hc]; decide) (by decide) ?_
    have h := h.2.2.2.2.1 hc
    refine gd_aload_n 0 dX10_told_96 rfl rfl ?_
    refine gd_getR (x := 9) (kr := 2) fX10_26 rfl rfl dX10_told_97 rfl ?_
    refine gd_getI fX10_172 rfl dX10_told_100 ?_
    exact gd_iret (ty := .int) dX10_told_103 rfl rfl h
  · refine gd_tableIn (off := 95) (tgt := 104) dX10_told_9 (by rw [hc]; decide) (by rw [hc]; decide) (by rw [hc]; decide) (by decide) ?_
    have h := h.2.2.2.2.2.1 hc
    refine gd_aload_n 0 dX10_told_104 rfl rfl ?_
    refine gd_getR (x := 9) (kr := 2) fX10_26 rfl rfl dX10_told_105 rfl ?_
    refine gd_getI fX10_175 rfl dX10_told_108 ?_
    exact gd_iret (ty := .int) dX10_told_111 rfl rfl h
  · refine gd_tableIn (off := 103) (tgt := 112) dX10_told_9 (by rw [hc]; decide) (by rw [hc]; decide) (by rw [hc]; decide) (by decide) ?_
    have h := h.2.2.2.2.2.2.1 hc
    refine gd_aload_n 0 dX10_told_112 rfl rfl ?_
    refine gd_getR (x := 9) (kr := 2) fX10_26 rfl rfl dX10_told_113 rfl ?_
    refine gd_getI fX10_178 rfl dX10_told_116 ?_
    exact gd_iret (ty := .int) dX10_told_119 rfl rfl h
  · refine gd_tableIn (off := 111) (tgt := 120) dX10_told_9 (by rw [hc]; decide) (by rw [hc]; decide) (by rw [hc]; decide) (by decide) ?_
    have h := h.2.2.2.2.2.2.2.1 hc
    refine gd_aload_n 0 dX10_told_120 rfl rfl ?_
    refine gd_getR (x := 9) (kr := 2) fX10_26 rfl rfl dX10_told_121 rfl ?_
    refine gd_callVI (As := []) (rest := []) (dy := 3) (my := 0) (sy := 0) (k := 2) (i := 9) lX10_181 iX2_countFails sX2_countFails rfl dX10_told_124 rfl rfl (gd_room (by omega) (by decide)) (by decide) (Nat.le_of_ble_eq_true rfl) h (fun r4 v3 h => ?_)
    exact gd_iret (ty := .int) dX10_told_127 rfl rfl h
  · refine gd_tableIn (off := 119) (tgt := 128) dX10_told_9 (by rw [hc]; decide) (by rw [hc]; decide) (by rw [hc]; decide) (by decide) ?_
    have h := h.2.2.2.2.2.2.2.2.1 hc
    refine gd_aload_n 0 dX10_told_128 rfl rfl ?_
    refine gd_getR (x := 9) (kr := 2) fX10_26 rfl rfl dX10_told_129 rfl ?_
    refine gd_iconst (x9 := (-1)) dX10_told_132 (by decide) ?_
    refine gd_iconst (x9 := (-1)) dX10_told_133 (by decide) ?_
    refine gd_callVI (As := [zI (-1), zI (-1)]) (rest := []) (dy := 3) (my := 0) (sy := 0) (k := 2) (i := 9) lX10_185 iX2_unitsOfFails sX2_unitsOfFails rfl dX10_told_134 rfl rfl (gd_room (by omega) (by decide)) (by decide) (Nat.le_of_ble_eq_true rfl) h (fun r6 v5 h => ?_)
    exact gd_iret (ty := .int) dX10_told_137 rfl rfl h
  · refine gd_tableIn (off := 129) (tgt := 138) dX10_told_9 (by rw [hc]; decide) (by rw [hc]; decide) (by rw [hc]; decide) (by decide) ?_
    have h := h.2.2.2.2.2.2.2.2.2.1 hc
    refine gd_aload_n 0 dX10_told_138 rfl rfl ?_
    refine gd_getR (x := 0) (kr := 7) fX10_10 rfl rfl dX10_told_139 rfl ?_
    refine gd_getI fX10_76 rfl dX10_told_142 ?_
    exact gd_iret (ty := .int) dX10_told_145 rfl rfl h
  · refine gd_tableOut (tgt := 146) dX10_told_9 hc (by decide) ?_
    have h := h.2.2.2.2.2.2.2.2.2.2 hc
    refine gd_aload_n 0 dX10_told_146 rfl rfl ?_
    refine gd_getR (x := 0) (kr := 1) fX10_19 rfl rfl dX10_told_147 rfl ?_
    refine gd_getI fX10_189 rfl dX10_told_150 ?_
    exact gd_iret (ty := .int) dX10_told_153 rfl rfl h
theorem c_X10_told {g : ab_E} {d : Nat} {a1 : Int32} {v : gd_D} {Q : ab_O → gd_D → Prop} (hd : 10 ≤ d) (h : wp_X10_told g d a1 v Q) : gd_C g mX10_told d 1 6 [zR 10 0, zI a1] v Q := gd_enterF (plainFor_of_name (by decide)) (Nat.le_of_ble_eq_true rfl) rfl (w_X10_told hd h)
def wp_X10_dealer (g : ab_E) (d : Nat) (a1 : Int32) (a2 : Int32) (v : gd_D) (Q : ab_O → gd_D → Prop) : Prop :=
  gd_C g mX10_needDealer 9 1 6 [zR 10 0, zI a1] v (gd_rV (fun v1 =>
    gd_C g mX10_needWithin 9 1 6 [zR 10 0, zI a2, zI 0, zI 8] v1 (gd_rV (fun v3 =>
      vp_in a1 8 ∧
      ((a2 : Int32) = 0 →
        ∀ y5 : Int64, y5 = (v3.1 0 (8 * 9 + (a1 : Int32).toNatClampNeg) 0 : Int32).toInt64 →
        Q (Sum.inl (some (zJ y5))) v3) ∧
      ((a2 : Int32) = 1 →
        ∀ y6 : Int64, y6 = v3.2.1 0 (8 * 9 + (a1 : Int32).toNatClampNeg) 1 →
        Q (Sum.inl (some (zJ y6))) v3) ∧
      ((a2 : Int32) = 2 →
        ∀ y7 : Int64, y7 = v3.2.1 0 (8 * 9 + (a1 : Int32).toNatClampNeg) 2 →
        Q (Sum.inl (some (zJ y7))) v3) ∧
      ((a2 : Int32) = 3 →
        ∀ y8 : Int64, y8 = v3.2.1 0 (8 * 9 + (a1 : Int32).toNatClampNeg) 3 →
        Q (Sum.inl (some (zJ y8))) v3) ∧
      ((a2 : Int32) = 4 →
        gd_C g mX2_unitsOfFails 3 0 0 [zR 2 9, zI a1, zI (-1)] v3 (gd_rI (fun (r10 : Int32) v9 =>
          Q (Sum.inl (some (zJ ((r10 : Int32).toInt64)))) v9) (fun E v9 => Q (Sum.inr E) v9))) ∧
      ((a2 : Int32) = 5 →
        gd_C g mX2_unitsOfFails 3 0 0 [zR 2 9, zI (-1), zI a1] v3 (gd_rI (fun (r12 : Int32) v11 =>
          Q (Sum.inl (some (zJ ((r12 : Int32).toInt64)))) v11) (fun E v9 => Q (Sum.inr E) v9))) ∧
      ((a2 : Int32) = 6 →
        gd_C g mX10_ownFaultOf 6 0 0 [zR 10 0, zI a1] v3 (gd_rI (fun (r14 : Int32) v13 =>
          Q (Sum.inl (some (zJ ((r14 : Int32).toInt64)))) v13) (fun E v9 => Q (Sum.inr E) v9))) ∧
      ((a2 : Int32) = 7 →
        ∀ y15 : Int64, y15 = v3.2.1 0 (8 * 9 + (a1 : Int32).toNatClampNeg) 4 →
        Q (Sum.inl (some (zJ y15))) v3) ∧
      (((a2 : Int32).toInt < 0 ∨ 7 < (a2 : Int32).toInt) →
        ∀ y16 : Int64, y16 = (v3.1 0 (8 * 9 + (a1 : Int32).toNatClampNeg) 5 : Int32).toInt64 →
        Q (Sum.inl (some (zJ y16))) v3)) (fun E v9 => Q (Sum.inr E) v9))) (fun E v9 => Q (Sum.inr E) v9))
theorem w_X10_dealer {g : ab_E} {d : Nat} {a1 : Int32} {a2 : Int32} {v : gd_D} {Q : ab_O → gd_D → Prop} (hd : 10 ≤ d) (h : wp_X10_dealer g d a1 a2 v Q) : gd_G g mX10_dealer d 2 12 0 [(0, zR 10 0), (1, zI a1), (2, zI a2)] [] v Q := by
  unfold wp_X10_dealer at h
  refine gd_aload_n 0 dX10_dealer_0 rfl rfl ?_
  refine gd_iload_n 1 dX10_dealer_1 rfl rfl ?_
  refine gd_callVV (As := [zI a1]) (rest := []) (dy := 9) (my := 1) (sy := 6) (k := 10) (i := 0) lX10_107 iX10_needDealer sX10_needDealer rfl dX10_dealer_2 rfl rfl (gd_room (by omega) (by decide)) (by decide) (Nat.le_of_ble_eq_true rfl) h (fun v1 h => ?_)
  refine gd_aload_n 0 dX10_dealer_5 rfl rfl ?_
  refine gd_iload_n 2 dX10_dealer_6 rfl rfl ?_
  refine gd_iconst (x9 := 0) dX10_dealer_7 (by decide) ?_
  refine gd_bipush (x9 := 8) dX10_dealer_8 (by decide) ?_
  refine gd_callVV (As := [zI a2, zI 0, zI 8]) (rest := []) (dy := 9) (my := 1) (sy := 6) (k := 10) (i := 0) lX10_83 iX10_needWithin sX10_needWithin rfl dX10_dealer_10 rfl rfl (gd_room (by omega) (by decide)) (by decide) (Nat.le_of_ble_eq_true rfl) h (fun v3 h => ?_)
  refine gd_aload_n 0 dX10_dealer_13 rfl rfl ?_
  refine gd_getR (x := 9) (kr := 2) fX10_26 rfl rfl dX10_dealer_14 rfl ?_
  refine gd_getR (x := 9) (kr := 13) fX10_121 rfl rfl dX10_dealer_17 rfl ?_
  refine gd_iload_n 1 dX10_dealer_20 rfl rfl ?_
  obtain ⟨hb, h⟩ := h
  refine gd_aaload (n := 8) (kr := 0) (y := 8 * 9 + (a1 : Int32).toNatClampNeg) (by decide) rfl rfl dX10_dealer_21 rfl hb (if_pos (ab_inlt hb)) ?_
  refine gd_astore_n (L' := [(3, zR 0 (8 * 9 + (a1 : Int32).toNatClampNeg)), (0, zR 10 0), (1, zI a1), (2, zI a2)]) dX10_dealer_22 rfl (by decide) rfl ?_
  refine gd_iload_n 3 dX10_dealer_23 rfl rfl ?_
  rcases sw_0_7 a2 with hc | hc | hc | hc | hc | hc | hc | hc | hc
  · refine gd_tableIn (off := 48) (tgt := 72) dX10_dealer_24 (by rw [hc]; decide) (by rw [hc]; decide) (by rw [hc]; decide) (by decide) ?_
    have h := h.1 hc
    refine gd_aload_n 0 dX10_dealer_72 rfl rfl ?_
    refine gd_getI fX10_125 rfl dX10_dealer_73 ?_
    refine gd_i2l dX10_dealer_76 ?_
    refine gd_nmJ (fun y5 ey5 => ?_)
    have h := h y5 ey5
    exact gd_lret dX10_dealer_77 rfl h
  · refine gd_tableIn (off := 54) (tgt := 78) dX10_dealer_24 (by rw [hc]; decide) (by rw [hc]; decide) (by rw [hc]; decide) (by decide) ?_
    have h := h.2.1 hc
    refine gd_aload_n 0 dX10_dealer_78 rfl rfl ?_
    refine gd_getJ fX10_192 rfl dX10_dealer_79 ?_
    refine gd_nmJ (fun y6 ey6 => ?_)
    have h := h y6 ey6
    exact gd_lret dX10_dealer_82 rfl h
  · refine gd_tableIn (off := 59) (tgt := 83) dX10_dealer_24 (by rw [hc]; decide) (by rw [hc]; decide) (by rw [hc]; decide) (by decide) ?_
    have h := h.2.2.1 hc
    refine gd_aload_n 0 dX10_dealer_83 rfl rfl ?_
    refine gd_getJ fX10_196 rfl dX10_dealer_84 ?_
    refine gd_nmJ (fun y7 ey7 => ?_)
    have h := h y7 ey7
    exact gd_lret dX10_dealer_87 rfl h
  · refine gd_tableIn (off := 64) (tgt := 88) dX10_dealer_24 (by rw [hc]; decide) (by rw [hc]; decide) (by rw [hc]; decide) (by decide) ?_
    have h := h.2.2.2.1 hc
    refine gd_aload_n 0 dX10_dealer_88 rfl rfl ?_
    refine gd_getJ fX10_199 rfl dX10_dealer_89 ?_
    refine gd_nmJ (fun y8 ey8 => ?_)
    have h := h y8 ey8
    exact gd_lret dX10_dealer_92 rfl h
  · refine gd_tableIn (off := 69) (tgt := 93) dX10_dealer_24 (by rw [hc]; decide) (by rw [hc]; decide) (by rw [hc]; decide) (by decide) ?_
    have h := h.2.2.2.2.1 hc
    refine gd_aload_n 1 dX10_dealer_93 rfl rfl ?_
    refine gd_getR (x := 9) (kr := 2) fX10_26 rfl rfl dX10_dealer_94 rfl ?_
    refine gd_iload_n 2 dX10_dealer_97 rfl rfl ?_
    refine gd_iconst (x9 := (-1)) dX10_dealer_98 (by decide) ?_
    refine gd_callVI (As := [zI a1, zI (-1)]) (rest := []) (dy := 3) (my := 0) (sy := 0) (k := 2) (i := 9) lX10_185 iX2_unitsOfFails sX2_unitsOfFails rfl dX10_dealer_99 rfl rfl (gd_room (by omega) (by decide)) (by decide) (Nat.le_of_ble_eq_true rfl) h (fun r10 v9 h => ?_)
    refine gd_i2l dX10_dealer_102 ?_
    exact gd_lret dX10_dealer_103 rfl h
  · refine gd_tableIn (off := 80) (tgt := 104) dX10_dealer_24 (by rw [hc]; decide) (by rw [hc]; decide) (by rw [hc]; decide) (by decide) ?_
    have h := h.2.2.2.2.2.1 hc
    refine gd_aload_n 1 dX10_dealer_104 rfl rfl ?_
    refine gd_getR (x := 9) (kr := 2) fX10_26 rfl rfl dX10_dealer_105 rfl ?_
    refine gd_iconst (x9 := (-1)) dX10_dealer_108 (by decide) ?_
    refine gd_iload_n 2 dX10_dealer_109 rfl rfl ?_
    refine gd_callVI (As := [zI (-1), zI a1]) (rest := []) (dy := 3) (my := 0) (sy := 0) (k := 2) (i := 9) lX10_185 iX2_unitsOfFails sX2_unitsOfFails rfl dX10_dealer_110 rfl rfl (gd_room (by omega) (by decide)) (by decide) (Nat.le_of_ble_eq_true rfl) h (fun r12 v11 h => ?_)
    refine gd_i2l dX10_dealer_113 ?_
    exact gd_lret dX10_dealer_114 rfl h
  · refine gd_tableIn (off := 91) (tgt := 115) dX10_dealer_24 (by rw [hc]; decide) (by rw [hc]; decide) (by rw [hc]; decide) (by decide) ?_
    have h := h.2.2.2.2.2.2.1 hc
    refine gd_aload_n 1 dX10_dealer_115 rfl rfl ?_
    refine gd_iload_n 2 dX10_dealer_116 rfl rfl ?_
    refine gd_callVI (As := [zI a1]) (rest := []) (dy := 6) (my := 0) (sy := 0) (k := 10) (i := 0) lX10_202 iX10_ownFaultOf sX10_ownFaultOf rfl dX10_dealer_117 rfl rfl (gd_room (by omega) (by decide)) (by decide) (Nat.le_of_ble_eq_true rfl) h (fun r14 v13 h => ?_)
    refine gd_i2l dX10_dealer_120 ?_
    exact gd_lret dX10_dealer_121 rfl h
  · refine gd_tableIn (off := 98) (tgt := 122) dX10_dealer_24 (by rw [hc]; decide) (by rw [hc]; decide) (by rw [hc]; decide) (by decide) ?_
    have h := h.2.2.2.2.2.2.2.1 hc
    refine gd_aload_n 0 dX10_dealer_122 rfl rfl ?_
    refine gd_getJ fX10_206 rfl dX10_dealer_123 ?_
    refine gd_nmJ (fun y15 ey15 => ?_)
    have h := h y15 ey15
    exact gd_lret dX10_dealer_126 rfl h
  · refine gd_tableOut (tgt := 127) dX10_dealer_24 hc (by decide) ?_
    have h := h.2.2.2.2.2.2.2.2 hc
    refine gd_aload_n 0 dX10_dealer_127 rfl rfl ?_
    refine gd_getI fX10_209 rfl dX10_dealer_128 ?_
    refine gd_i2l dX10_dealer_131 ?_
    refine gd_nmJ (fun y16 ey16 => ?_)
    have h := h y16 ey16
    exact gd_lret dX10_dealer_132 rfl h
theorem c_X10_dealer {g : ab_E} {d : Nat} {a1 : Int32} {a2 : Int32} {v : gd_D} {Q : ab_O → gd_D → Prop} (hd : 10 ≤ d) (h : wp_X10_dealer g d a1 a2 v Q) : gd_C g mX10_dealer d 2 12 [zR 10 0, zI a1, zI a2] v Q := gd_enterF (plainFor_of_name (by decide)) (Nat.le_of_ble_eq_true rfl) rfl (w_X10_dealer hd h)
def wp_X10_of (g : ab_E) (d : Nat) (a1 : Int32) (a2 : Int32) (v : gd_D) (Q : ab_O → gd_D → Prop) : Prop :=
  gd_C g mX10_needSale 9 1 6 [zR 10 0, zI a1] v (gd_rV (fun v1 =>
    gd_C g mX10_needWithin 9 1 6 [zR 10 0, zI a2, zI 0, zI 10] v1 (gd_rV (fun v3 =>
      vp_in a1 24 ∧
      ((a2 : Int32) = 0 →
        ∀ x5 : Int32, x5 = v3.1 9 (24 * 9 + (a1 : Int32).toNatClampNeg) 0 →
        Q (Sum.inl (some (zI x5))) v3) ∧
      ((a2 : Int32) = 1 →
        ∀ x6 : Int32, x6 = v3.1 9 (24 * 9 + (a1 : Int32).toNatClampNeg) 1 →
        Q (Sum.inl (some (zI x6))) v3) ∧
      ((a2 : Int32) = 2 →
        ∀ x7 : Int32, x7 = v3.1 9 (24 * 9 + (a1 : Int32).toNatClampNeg) 2 →
        Q (Sum.inl (some (zI x7))) v3) ∧
      ((a2 : Int32) = 3 →
        ∀ x8 : Int32, x8 = v3.1 9 (24 * 9 + (a1 : Int32).toNatClampNeg) 3 →
        Q (Sum.inl (some (zI x8))) v3) ∧
      ((a2 : Int32) = 4 →
        ∀ x9 : Int32, x9 = v3.1 9 (24 * 9 + (a1 : Int32).toNatClampNeg) 4 →
        Q (Sum.inl (some (zI x9))) v3) ∧
      ((a2 : Int32) = 5 →
        ∀ x10 : Int32, x10 = v3.1 9 (24 * 9 + (a1 : Int32).toNatClampNeg) 5 →
        Q (Sum.inl (some (zI x10))) v3) ∧
      ((a2 : Int32) = 6 →
        ∀ x11 : Int32, x11 = v3.1 9 (24 * 9 + (a1 : Int32).toNatClampNeg) 6 →
        Q (Sum.inl (some (zI x11))) v3) ∧
      ((a2 : Int32) = 7 →
        ∀ x12 : Int32, x12 = v3.1 9 (24 * 9 + (a1 : Int32).toNatClampNeg) 7 →
        Q (Sum.inl (some (zI x12))) v3) ∧
      ((a2 : Int32) = 8 →
        ∀ x13 : Int32, x13 = v3.1 9 (24 * 9 + (a1 : Int32).toNatClampNeg) 8 →
        Q (Sum.inl (some (zI x13))) v3) ∧
      ((a2 : Int32) = 9 →
        gd_C g mX10_placeOf 5 0 0 [zR 10 0, zI a1] v3 (gd_rI (fun (r15 : Int32) v14 =>
          Q (Sum.inl (some (zI r15))) v14) (fun E v9 => Q (Sum.inr E) v9))) ∧
      (((a2 : Int32).toInt < 0 ∨ 9 < (a2 : Int32).toInt) →
        gd_C g mX2_isAsked 2 0 0 [zR 2 9, zI a1] v3 (gd_rI (fun (r17 : Int32) v16 =>
          (((r17 : Int32) = 0) →
            Q (Sum.inl (some (zI 0))) v16) ∧
          ((¬ (r17 : Int32) = 0) →
            Q (Sum.inl (some (zI 1))) v16)) (fun E v9 => Q (Sum.inr E) v9)))) (fun E v9 => Q (Sum.inr E) v9))) (fun E v9 => Q (Sum.inr E) v9))
theorem w_X10_of {g : ab_E} {d : Nat} {a1 : Int32} {a2 : Int32} {v : gd_D} {Q : ab_O → gd_D → Prop} (hd : 10 ≤ d) (h : wp_X10_of g d a1 a2 v Q) : gd_G g mX10_of d 2 12 0 [(0, zR 10 0), (1, zI a1), (2, zI a2)] [] v Q := by
  unfold wp_X10_of at h
  refine gd_aload_n 0 dX10_of_0 rfl rfl ?_
  refine gd_iload_n 1 dX10_of_1 rfl rfl ?_
  refine gd_callVV (As := [zI a1]) (rest := []) (dy := 9) (my := 1) (sy := 6) (k := 10) (i := 0) lX10_142 iX10_needSale sX10_needSale rfl dX10_of_2 rfl rfl (gd_room (by omega) (by decide)) (by decide) (Nat.le_of_ble_eq_true rfl) h (fun v1 h => ?_)
  refine gd_aload_n 0 dX10_of_5 rfl rfl ?_
  refine gd_iload_n 2 dX10_of_6 rfl rfl ?_
  refine gd_iconst (x9 := 0) dX10_of_7 (by decide) ?_
  refine gd_bipush (x9 := 10) dX10_of_8 (by decide) ?_
  refine gd_callVV (As := [zI a2, zI 0, zI 10]) (rest := []) (dy := 9) (my := 1) (sy := 6) (k := 10) (i := 0) lX10_83 iX10_needWithin sX10_needWithin rfl dX10_of_10 rfl rfl (gd_room (by omega) (by decide)) (by decide) (Nat.le_of_ble_eq_true rfl) h (fun v3 h => ?_)
  refine gd_aload_n 0 dX10_of_13 rfl rfl ?_
  refine gd_getR (x := 9) (kr := 2) fX10_26 rfl rfl dX10_of_14 rfl ?_
  refine gd_getR (x := 9) (kr := 14) fX10_149 rfl rfl dX10_of_17 rfl ?_
  refine gd_iload_n 1 dX10_of_20 rfl rfl ?_
  obtain ⟨hb, h⟩ := h
  refine gd_aaload (n := 24) (kr := 9) (y := 24 * 9 + (a1 : Int32).toNatClampNeg) (by decide) rfl rfl dX10_of_21 rfl hb (if_pos (ab_inlt hb)) ?_
  refine gd_astore_n (L' := [(3, zR 9 (24 * 9 + (a1 : Int32).toNatClampNeg)), (0, zR 10 0), (1, zI a1), (2, zI a2)]) dX10_of_22 rfl (by decide) rfl ?_
  refine gd_iload_n 3 dX10_of_23 rfl rfl ?_
  rcases sw_0_9 a2 with hc | hc | hc | hc | hc | hc | hc | hc | hc | hc | hc
  · refine gd_tableIn (off := 56) (tgt := 80) dX10_of_24 (by rw [hc]; decide) (by rw [hc]; decide) (by rw [hc]; decide) (by decide) ?_
    have h := h.1 hc
    refine gd_aload_n 0 dX10_of_80 rfl rfl ?_
    refine gd_getI fX10_212 rfl dX10_of_81 ?_
    refine gd_nmI (fun x5 ex5 => ?_)
    have h := h x5 ex5
    exact gd_iret (ty := .int) dX10_of_84 rfl rfl h
  · refine gd_tableIn (off := 61) (tgt := 85) dX10_of_24 (by rw [hc]; decide) (by rw [hc]; decide) (by rw [hc]; decide) (by decide) ?_
    have h := h.2.1 hc
    refine gd_aload_n 0 dX10_of_85 rfl rfl ?_
    refine gd_getI fX10_215 rfl dX10_of_86 ?_
    refine gd_nmI (fun x6 ex6 => ?_)
    have h := h x6 ex6
    exact gd_iret (ty := .int) dX10_of_89 rfl rfl h
  · refine gd_tableIn (off := 66) (tgt := 90) dX10_of_24 (by rw [hc]; decide) (by rw [hc]; decide) (by rw [hc]; decide) (by decide) ?_
    have h := h.2.2.1 hc
    refine gd_aload_n 0 dX10_of_90 rfl rfl ?_
    refine gd_getI fX10_218 rfl dX10_of_91 ?_
    refine gd_nmI (fun x7 ex7 => ?_)
    have h := h x7 ex7
    exact gd_iret (ty := .int) dX10_of_94 rfl rfl h
  · refine gd_tableIn (off := 71) (tgt := 95) dX10_of_24 (by rw [hc]; decide) (by rw [hc]; decide) (by rw [hc]; decide) (by decide) ?_
    have h := h.2.2.2.1 hc
    refine gd_aload_n 0 dX10_of_95 rfl rfl ?_
    refine gd_getI fX10_221 rfl dX10_of_96 ?_
    refine gd_nmI (fun x8 ex8 => ?_)
    have h := h x8 ex8
    exact gd_iret (ty := .int) dX10_of_99 rfl rfl h
  · refine gd_tableIn (off := 76) (tgt := 100) dX10_of_24 (by rw [hc]; decide) (by rw [hc]; decide) (by rw [hc]; decide) (by decide) ?_
    have h := h.2.2.2.2.1 hc
    refine gd_aload_n 0 dX10_of_100 rfl rfl ?_
    refine gd_getI fX10_224 rfl dX10_of_101 ?_
    refine gd_nmI (fun x9 ex9 => ?_)
    have h := h x9 ex9
    exact gd_iret (ty := .int) dX10_of_104 rfl rfl h
  · refine gd_tableIn (off := 81) (tgt := 105) dX10_of_24 (by rw [hc]; decide) (by rw [hc]; decide) (by rw [hc]; decide) (by decide) ?_
    have h := h.2.2.2.2.2.1 hc
    refine gd_aload_n 0 dX10_of_105 rfl rfl ?_
    refine gd_getI fX10_153 rfl dX10_of_106 ?_
    refine gd_nmI (fun x10 ex10 => ?_)
    have h := h x10 ex10
    exact gd_iret (ty := .int) dX10_of_109 rfl rfl h
  · refine gd_tableIn (off := 86) (tgt := 110) dX10_of_24 (by rw [hc]; decide) (by rw [hc]; decide) (by rw [hc]; decide) (by decide) ?_
    have h := h.2.2.2.2.2.2.1 hc
    refine gd_aload_n 0 dX10_of_110 rfl rfl ?_
    refine gd_getI fX10_227 rfl dX10_of_111 ?_
    refine gd_nmI (fun x11 ex11 => ?_)
    have h := h x11 ex11
    exact gd_iret (ty := .int) dX10_of_114 rfl rfl h
  · refine gd_tableIn (off := 91) (tgt := 115) dX10_of_24 (by rw [hc]; decide) (by rw [hc]; decide) (by rw [hc]; decide) (by decide) ?_
    have h := h.2.2.2.2.2.2.2.1 hc
    refine gd_aload_n 0 dX10_of_115 rfl rfl ?_
    refine gd_getI fX10_230 rfl dX10_of_116 ?_
    refine gd_nmI (fun x12 ex12 => ?_)
    have h := h x12 ex12
    exact gd_iret (ty := .int) dX10_of_119 rfl rfl h
  · refine gd_tableIn (off := 96) (tgt := 120) dX10_of_24 (by rw [hc]; decide) (by rw [hc]; decide) (by rw [hc]; decide) (by decide) ?_
    have h := h.2.2.2.2.2.2.2.2.1 hc
    refine gd_aload_n 0 dX10_of_120 rfl rfl ?_
    refine gd_getI fX10_233 rfl dX10_of_121 ?_
    refine gd_nmI (fun x13 ex13 => ?_)
    have h := h x13 ex13
    exact gd_iret (ty := .int) dX10_of_124 rfl rfl h
  · refine gd_tableIn (off := 101) (tgt := 125) dX10_of_24 (by rw [hc]; decide) (by rw [hc]; decide) (by rw [hc]; decide) (by decide) ?_
    have h := h.2.2.2.2.2.2.2.2.2.1 hc
    refine gd_aload_n 1 dX10_of_125 rfl rfl ?_
    refine gd_iload_n 2 dX10_of_126 rfl rfl ?_
    refine gd_callVI (As := [zI a1]) (rest := []) (dy := 5) (my := 0) (sy := 0) (k := 10) (i := 0) lX10_236 iX10_placeOf sX10_placeOf rfl dX10_of_127 rfl rfl (gd_room (by omega) (by decide)) (by decide) (Nat.le_of_ble_eq_true rfl) h (fun r15 v14 h => ?_)
    exact gd_iret (ty := .int) dX10_of_130 rfl rfl h
  · refine gd_tableOut (tgt := 131) dX10_of_24 hc (by decide) ?_
    have h := h.2.2.2.2.2.2.2.2.2.2 hc
    refine gd_aload_n 1 dX10_of_131 rfl rfl ?_
    refine gd_getR (x := 9) (kr := 2) fX10_26 rfl rfl dX10_of_132 rfl ?_
    refine gd_iload_n 2 dX10_of_135 rfl rfl ?_
    refine gd_callVI (As := [zI a1]) (rest := []) (dy := 2) (my := 0) (sy := 0) (k := 2) (i := 9) lX10_145 iX2_isAsked sX2_isAsked rfl dX10_of_136 rfl rfl (gd_room (by omega) (by decide)) (by decide) (Nat.le_of_ble_eq_true rfl) h (fun r17 v16 h => ?_)
    refine gd_if_eq (tgt := 146) dX10_of_139 (by decide) (fun hc => ?_) (fun hc => ?_)
    · have h := h.1 hc
      refine gd_iconst (x9 := 0) dX10_of_146 (by decide) ?_
      exact gd_iret (ty := .int) dX10_of_147 rfl rfl h
    · have h := h.2 hc
      refine gd_iconst (x9 := 1) dX10_of_142 (by decide) ?_
      refine gd_goto (tgt := 147) dX10_of_143 (by decide) ?_
      exact gd_iret (ty := .int) dX10_of_147 rfl rfl h
theorem c_X10_of {g : ab_E} {d : Nat} {a1 : Int32} {a2 : Int32} {v : gd_D} {Q : ab_O → gd_D → Prop} (hd : 10 ≤ d) (h : wp_X10_of g d a1 a2 v Q) : gd_C g mX10_of d 2 12 [zR 10 0, zI a1, zI a2] v Q := gd_enterF (plainFor_of_name (by decide)) (Nat.le_of_ble_eq_true rfl) rfl (w_X10_of hd h)
def wp_X10_rule (g : ab_E) (d : Nat) (a1 : Int32) (v : gd_D) (Q : ab_O → gd_D → Prop) : Prop :=
  gd_C g mX10_needSale 9 1 6 [zR 10 0, zI a1] v (gd_rV (fun v1 =>
    vp_in a1 24 ∧
    gd_C g mX5_worthOf 3 0 0 [zR 5 0, zR 2 9, zR 9 (24 * 9 + (a1 : Int32).toNatClampNeg)] v1 (gd_rJ (fun (r4 : Int64) v3 =>
      Q (Sum.inl (some (zJ r4))) v3) (fun E v9 => Q (Sum.inr E) v9))) (fun E v9 => Q (Sum.inr E) v9))
theorem w_X10_rule {g : ab_E} {d : Nat} {a1 : Int32} {v : gd_D} {Q : ab_O → gd_D → Prop} (hd : 10 ≤ d) (h : wp_X10_rule g d a1 v Q) : gd_G g mX10_rule d 1 6 0 [(0, zR 10 0), (1, zI a1)] [] v Q := by
  unfold wp_X10_rule at h
  refine gd_aload_n 0 dX10_rule_0 rfl rfl ?_
  refine gd_iload_n 1 dX10_rule_1 rfl rfl ?_
  refine gd_callVV (As := [zI a1]) (rest := []) (dy := 9) (my := 1) (sy := 6) (k := 10) (i := 0) lX10_142 iX10_needSale sX10_needSale rfl dX10_rule_2 rfl rfl (gd_room (by omega) (by decide)) (by decide) (Nat.le_of_ble_eq_true rfl) h (fun v1 h => ?_)
  refine gd_aload_n 0 dX10_rule_5 rfl rfl ?_
  refine gd_getR (x := 0) (kr := 5) fX10_36 rfl rfl dX10_rule_6 rfl ?_
  refine gd_aload_n 0 dX10_rule_9 rfl rfl ?_
  refine gd_getR (x := 9) (kr := 2) fX10_26 rfl rfl dX10_rule_10 rfl ?_
  refine gd_aload_n 0 dX10_rule_13 rfl rfl ?_
  refine gd_getR (x := 9) (kr := 2) fX10_26 rfl rfl dX10_rule_14 rfl ?_
  refine gd_getR (x := 9) (kr := 14) fX10_149 rfl rfl dX10_rule_17 rfl ?_
  refine gd_iload_n 1 dX10_rule_20 rfl rfl ?_
  obtain ⟨hb, h⟩ := h
  refine gd_aaload (n := 24) (kr := 9) (y := 24 * 9 + (a1 : Int32).toNatClampNeg) (by decide) rfl rfl dX10_rule_21 rfl hb (if_pos (ab_inlt hb)) ?_
  refine gd_callVJ (As := [zR 2 9, zR 9 (24 * 9 + (a1 : Int32).toNatClampNeg)]) (rest := []) (dy := 3) (my := 0) (sy := 0) (k := 5) (i := 0) lX10_239 iX5_worthOf sX5_worthOf rfl dX10_rule_22 rfl rfl (gd_room (by omega) (by decide)) (by decide) (Nat.le_of_ble_eq_true rfl) h (fun r4 v3 h => ?_)
  exact gd_lret dX10_rule_25 rfl h
theorem c_X10_rule {g : ab_E} {d : Nat} {a1 : Int32} {v : gd_D} {Q : ab_O → gd_D → Prop} (hd : 10 ≤ d) (h : wp_X10_rule g d a1 v Q) : gd_C g mX10_rule d 1 6 [zR 10 0, zI a1] v Q := gd_enterF (plainFor_of_name (by decide)) (Nat.le_of_ble_eq_true rfl) rfl (w_X10_rule hd h)
def wp_X10_part_30 (g : ab_E) (d : Nat) (a1 : Int32) (a2 : Int32) (a3 : Int32) (v : gd_D) (Q : ab_O → gd_D → Prop) : Prop :=
  gd_C g mX10_needWithin 9 1 6 [zR 10 0, zI a3, zI 0, zI 1] v (gd_rV (fun v1 =>
    vp_in a1 24 ∧
    ((¬ (a3 : Int32) = 0) →
      vp_in ((v1.1 24 0 (a1 : Int32).toNatClampNeg) + a2) 48 ∧
      ∀ x3 : Int32, x3 = v1.1 27 0 ((v1.1 24 0 (a1 : Int32).toNatClampNeg) + a2 : Int32).toNatClampNeg →
      Q (Sum.inl (some (zI x3))) v1) ∧
    (((a3 : Int32) = 0) →
      vp_in ((v1.1 24 0 (a1 : Int32).toNatClampNeg) + a2) 48 ∧
      ∀ x4 : Int32, x4 = v1.1 26 0 ((v1.1 24 0 (a1 : Int32).toNatClampNeg) + a2 : Int32).toNatClampNeg →
      Q (Sum.inl (some (zI x4))) v1)) (fun E v9 => Q (Sum.inr E) v9))
theorem w_X10_part_30 {g : ab_E} {d : Nat} {a1 : Int32} {a2 : Int32} {a3 : Int32} {v : gd_D} {Q : ab_O → gd_D → Prop} (hd : 10 ≤ d) (h : wp_X10_part_30 g d a1 a2 a3 v Q) : gd_G g mX10_part d 1 6 30 [(0, zR 10 0), (1, zI a1), (2, zI a2), (3, zI a3)] [] v Q := by
  unfold wp_X10_part_30 at h
  refine gd_aload_n 0 dX10_part_30 rfl rfl ?_
  refine gd_iload_n 3 dX10_part_31 rfl rfl ?_
  refine gd_iconst (x9 := 0) dX10_part_32 (by decide) ?_
  refine gd_iconst (x9 := 1) dX10_part_33 (by decide) ?_
  refine gd_callVV (As := [zI a3, zI 0, zI 1]) (rest := []) (dy := 9) (my := 1) (sy := 6) (k := 10) (i := 0) lX10_83 iX10_needWithin sX10_needWithin rfl dX10_part_34 rfl rfl (gd_room (by omega) (by decide)) (by decide) (Nat.le_of_ble_eq_true rfl) h (fun v1 h => ?_)
  refine gd_aload_n 0 dX10_part_37 rfl rfl ?_
  refine gd_getR (x := 0) (kr := 6) fX10_43 rfl rfl dX10_part_38 rfl ?_
  refine gd_getR (x := 0) (kr := 24) fX10_252 rfl rfl dX10_part_41 rfl ?_
  refine gd_iload_n 1 dX10_part_44 rfl rfl ?_
  obtain ⟨hb, h⟩ := h
  refine gd_iaload (n := 24) (by decide) rfl dX10_part_45 rfl hb ?_
  refine gd_iload_n 2 dX10_part_46 rfl rfl ?_
  refine gd_iadd dX10_part_47 ?_
  refine gd_istore (L' := [(4, zI ((v1.1 24 0 (a1 : Int32).toNatClampNeg) + a2)), (0, zR 10 0), (1, zI a1), (2, zI a2), (3, zI a3)]) dX10_part_48 (by decide) rfl ?_
  refine gd_iload_n 4 dX10_part_50 rfl rfl ?_
  refine gd_if_ne (tgt := 67) dX10_part_51 (by decide) (fun hc => ?_) (fun hc => ?_)
  · have h := h.1 hc
    refine gd_aload_n 1 dX10_part_67 rfl rfl ?_
    refine gd_getR (x := 0) (kr := 6) fX10_43 rfl rfl dX10_part_68 rfl ?_
    refine gd_getR (x := 0) (kr := 27) fX10_258 rfl rfl dX10_part_71 rfl ?_
    refine gd_iload 0 dX10_part_74 rfl ?_
    obtain ⟨hb, h⟩ := h
    refine gd_iaload (n := 48) (by decide) rfl dX10_part_76 rfl hb ?_
    refine gd_nmI (fun x3 ex3 => ?_)
    have h := h x3 ex3
    exact gd_iret (ty := .int) dX10_part_77 rfl rfl h
  · have h := h.2 hc
    refine gd_aload_n 1 dX10_part_54 rfl rfl ?_
    refine gd_getR (x := 0) (kr := 6) fX10_43 rfl rfl dX10_part_55 rfl ?_
    refine gd_getR (x := 0) (kr := 26) fX10_255 rfl rfl dX10_part_58 rfl ?_
    refine gd_iload 0 dX10_part_61 rfl ?_
    obtain ⟨hb, h⟩ := h
    refine gd_iaload (n := 48) (by decide) rfl dX10_part_63 rfl hb ?_
    refine gd_nmI (fun x4 ex4 => ?_)
    have h := h x4 ex4
    refine gd_goto (tgt := 77) dX10_part_64 (by decide) ?_
    exact gd_iret (ty := .int) dX10_part_77 rfl rfl h
def wp_X10_part_26 (g : ab_E) (d : Nat) (a1 : Int32) (a2 : Int32) (a3 : Int32) (v : gd_D) (Q : ab_O → gd_D → Prop) : Prop :=
  gd_C g mX10_refuseMissing 8 1 6 [zR 10 0] v (gd_rV (fun v1 =>
    wp_X10_part_30 g d a1 a2 a3 v1 Q) (fun E v9 => Q (Sum.inr E) v9))
theorem w_X10_part_26 {g : ab_E} {d : Nat} {a1 : Int32} {a2 : Int32} {a3 : Int32} {v : gd_D} {Q : ab_O → gd_D → Prop} (hd : 10 ≤ d) (h : wp_X10_part_26 g d a1 a2 a3 v Q) : gd_G g mX10_part d 2 12 26 [(0, zR 10 0), (1, zI a1), (2, zI a2), (3, zI a3)] [] v Q := by
  unfold wp_X10_part_26 at h
  refine gd_aload_n 0 dX10_part_26 rfl rfl ?_
  refine gd_callVV (As := []) (rest := []) (dy := 8) (my := 1) (sy := 6) (k := 10) (i := 0) lX10_249 iX10_refuseMissing sX10_refuseMissing rfl dX10_part_27 rfl rfl (gd_room (by omega) (by decide)) (by decide) (Nat.le_of_ble_eq_true rfl) h (fun v1 h => ?_)
  exact w_X10_part_30 (by omega) h
def wp_X10_part (g : ab_E) (d : Nat) (a1 : Int32) (a2 : Int32) (a3 : Int32) (v : gd_D) (Q : ab_O → gd_D → Prop) : Prop :=
  gd_C g mX10_needSale 9 1 6 [zR 10 0, zI a1] v (gd_rV (fun v1 =>
    gd_C g mX10_standNow 5 0 0 [zR 10 0] v1 (gd_rV (fun v3 =>
      (((a2 : Int32) < 0) →
        wp_X10_part_26 g d a1 a2 a3 v3 Q) ∧
      ((¬ (a2 : Int32) < 0) →
        vp_in a1 24 ∧
        (((a2 : Int32) < (v3.1 25 0 (a1 : Int32).toNatClampNeg)) →
          wp_X10_part_30 g d a1 a2 a3 v3 Q) ∧
        ((¬ (a2 : Int32) < (v3.1 25 0 (a1 : Int32).toNatClampNeg)) →
          wp_X10_part_26 g d a1 a2 a3 v3 Q))) (fun E v9 => Q (Sum.inr E) v9))) (fun E v9 => Q (Sum.inr E) v9))
theorem w_X10_part {g : ab_E} {d : Nat} {a1 : Int32} {a2 : Int32} {a3 : Int32} {v : gd_D} {Q : ab_O → gd_D → Prop} (hd : 10 ≤ d) (h : wp_X10_part g d a1 a2 a3 v Q) : gd_G g mX10_part d 3 18 0 [(0, zR 10 0), (1, zI a1), (2, zI a2), (3, zI a3)] [] v Q := by
  unfold wp_X10_part at h
  refine gd_aload_n 0 dX10_part_0 rfl rfl ?_
  refine gd_iload_n 1 dX10_part_1 rfl rfl ?_
  refine gd_callVV (As := [zI a1]) (rest := []) (dy := 9) (my := 1) (sy := 6) (k := 10) (i := 0) lX10_142 iX10_needSale sX10_needSale rfl dX10_part_2 rfl rfl (gd_room (by omega) (by decide)) (by decide) (Nat.le_of_ble_eq_true rfl) h (fun v1 h => ?_)
  refine gd_aload_n 0 dX10_part_5 rfl rfl ?_
  refine gd_callVV (As := []) (rest := []) (dy := 5) (my := 0) (sy := 0) (k := 10) (i := 0) lX10_243 iX10_standNow sX10_standNow rfl dX10_part_6 rfl rfl (gd_room (by omega) (by decide)) (by decide) (Nat.le_of_ble_eq_true rfl) h (fun v3 h => ?_)
  refine gd_iload_n 2 dX10_part_9 rfl rfl ?_
  refine gd_if_lt (tgt := 26) dX10_part_10 (by decide) (fun hc => ?_) (fun hc => ?_)
  · have h := h.1 hc
    exact w_X10_part_26 (by omega) h
  · have h := h.2 hc
    refine gd_iload_n 2 dX10_part_13 rfl rfl ?_
    refine gd_aload_n 0 dX10_part_14 rfl rfl ?_
    refine gd_getR (x := 0) (kr := 6) fX10_43 rfl rfl dX10_part_15 rfl ?_
    refine gd_getR (x := 0) (kr := 25) fX10_246 rfl rfl dX10_part_18 rfl ?_
    refine gd_iload_n 1 dX10_part_21 rfl rfl ?_
    obtain ⟨hb, h⟩ := h
    refine gd_iaload (n := 24) (by decide) rfl dX10_part_22 rfl hb ?_
    refine gd_icmp_lt (tgt := 30) dX10_part_23 (by decide) (fun hc => ?_) (fun hc => ?_)
    · have h := h.1 hc
      refine gd_less (b' := 1) (c' := 6) (by decide) (by decide) ?_
      exact w_X10_part_30 (by omega) h
    · have h := h.2 hc
      exact w_X10_part_26 (by omega) h
theorem c_X10_part {g : ab_E} {d : Nat} {a1 : Int32} {a2 : Int32} {a3 : Int32} {v : gd_D} {Q : ab_O → gd_D → Prop} (hd : 10 ≤ d) (h : wp_X10_part g d a1 a2 a3 v Q) : gd_C g mX10_part d 3 18 [zR 10 0, zI a1, zI a2, zI a3] v Q := gd_enterF (plainFor_of_name (by decide)) (Nat.le_of_ble_eq_true rfl) rfl (w_X10_part hd h)
def wp_X10_parts (g : ab_E) (d : Nat) (a1 : Int32) (v : gd_D) (Q : ab_O → gd_D → Prop) : Prop :=
  gd_C g mX10_needSale 9 1 6 [zR 10 0, zI a1] v (gd_rV (fun v1 =>
    gd_C g mX10_standNow 5 0 0 [zR 10 0] v1 (gd_rV (fun v3 =>
      vp_in a1 24 ∧
      Q (Sum.inl (some (zI (v3.1 25 0 (a1 : Int32).toNatClampNeg)))) v3) (fun E v9 => Q (Sum.inr E) v9))) (fun E v9 => Q (Sum.inr E) v9))
theorem w_X10_parts {g : ab_E} {d : Nat} {a1 : Int32} {v : gd_D} {Q : ab_O → gd_D → Prop} (hd : 10 ≤ d) (h : wp_X10_parts g d a1 v Q) : gd_G g mX10_parts d 1 6 0 [(0, zR 10 0), (1, zI a1)] [] v Q := by
  unfold wp_X10_parts at h
  refine gd_aload_n 0 dX10_parts_0 rfl rfl ?_
  refine gd_iload_n 1 dX10_parts_1 rfl rfl ?_
  refine gd_callVV (As := [zI a1]) (rest := []) (dy := 9) (my := 1) (sy := 6) (k := 10) (i := 0) lX10_142 iX10_needSale sX10_needSale rfl dX10_parts_2 rfl rfl (gd_room (by omega) (by decide)) (by decide) (Nat.le_of_ble_eq_true rfl) h (fun v1 h => ?_)
  refine gd_aload_n 0 dX10_parts_5 rfl rfl ?_
  refine gd_callVV (As := []) (rest := []) (dy := 5) (my := 0) (sy := 0) (k := 10) (i := 0) lX10_243 iX10_standNow sX10_standNow rfl dX10_parts_6 rfl rfl (gd_room (by omega) (by decide)) (by decide) (Nat.le_of_ble_eq_true rfl) h (fun v3 h => ?_)
  refine gd_aload_n 0 dX10_parts_9 rfl rfl ?_
  refine gd_getR (x := 0) (kr := 6) fX10_43 rfl rfl dX10_parts_10 rfl ?_
  refine gd_getR (x := 0) (kr := 25) fX10_246 rfl rfl dX10_parts_13 rfl ?_
  refine gd_iload_n 1 dX10_parts_16 rfl rfl ?_
  obtain ⟨hb, h⟩ := h
  refine gd_iaload (n := 24) (by decide) rfl dX10_parts_17 rfl hb ?_
  exact gd_iret (ty := .int) dX10_parts_18 rfl rfl h
theorem c_X10_parts {g : ab_E} {d : Nat} {a1 : Int32} {v : gd_D} {Q : ab_O → gd_D → Prop} (hd : 10 ≤ d) (h : wp_X10_parts g d a1 v Q) : gd_C g mX10_parts d 1 6 [zR 10 0, zI a1] v Q := gd_enterF (plainFor_of_name (by decide)) (Nat.le_of_ble_eq_true rfl) rfl (w_X10_parts hd h)
def wp_X10_chain_24 (g : ab_E) (d : Nat) (a1 : Int32) (a2 : Int32) (v : gd_D) (Q : ab_O → gd_D → Prop) : Prop :=
  gd_C g mX10_standNow 5 0 0 [zR 10 0] v (gd_rV (fun v1 =>
    gd_C g mX6_linkOf 2 0 0 [zR 6 0, zI a1, zI a2] v1 (gd_rI (fun (r4 : Int32) v3 =>
      ((¬ (r4 : Int32) = (-1)) →
        Q (Sum.inl (some (zI r4))) v3) ∧
      (((r4 : Int32) = (-1)) →
        gd_C g mX10_refuseMissing 8 1 6 [zR 10 0] v3 (gd_rV (fun v5 =>
          Q (Sum.inl (some (zI r4))) v5) (fun E v9 => Q (Sum.inr E) v9)))) (fun E v9 => Q (Sum.inr E) v9))) (fun E v9 => Q (Sum.inr E) v9))
theorem w_X10_chain_24 {g : ab_E} {d : Nat} {a1 : Int32} {a2 : Int32} {v : gd_D} {Q : ab_O → gd_D → Prop} (hd : 9 ≤ d) (h : wp_X10_chain_24 g d a1 a2 v Q) : gd_G g mX10_chain d 1 6 24 [(0, zR 10 0), (1, zI a1), (2, zI a2)] [] v Q := by
  unfold wp_X10_chain_24 at h
  refine gd_aload_n 0 dX10_chain_24 rfl rfl ?_
  refine gd_callVV (As := []) (rest := []) (dy := 5) (my := 0) (sy := 0) (k := 10) (i := 0) lX10_243 iX10_standNow sX10_standNow rfl dX10_chain_25 rfl rfl (gd_room (by omega) (by decide)) (by decide) (Nat.le_of_ble_eq_true rfl) h (fun v1 h => ?_)
  refine gd_aload_n 0 dX10_chain_28 rfl rfl ?_
  refine gd_getR (x := 0) (kr := 6) fX10_43 rfl rfl dX10_chain_29 rfl ?_
  refine gd_iload_n 1 dX10_chain_32 rfl rfl ?_
  refine gd_iload_n 2 dX10_chain_33 rfl rfl ?_
  refine gd_callVI (As := [zI a1, zI a2]) (rest := []) (dy := 2) (my := 0) (sy := 0) (k := 6) (i := 0) lX10_260 iX6_linkOf sX6_linkOf rfl dX10_chain_34 rfl rfl (gd_room (by omega) (by decide)) (by decide) (Nat.le_of_ble_eq_true rfl) h (fun r4 v3 h => ?_)
  refine gd_istore_n (L' := [(3, zI r4), (0, zR 10 0), (1, zI a1), (2, zI a2)]) dX10_chain_37 rfl (by decide) rfl ?_
  refine gd_iload_n 0 dX10_chain_38 rfl rfl ?_
  refine gd_iconst (x9 := (-1)) dX10_chain_39 (by decide) ?_
  refine gd_icmp_ne (tgt := 47) dX10_chain_40 (by decide) (fun hc => ?_) (fun hc => ?_)
  · have h := h.1 hc
    refine gd_iload_n 0 dX10_chain_47 rfl rfl ?_
    exact gd_iret (ty := .int) dX10_chain_48 rfl rfl h
  · have h := h.2 hc
    refine gd_aload_n 1 dX10_chain_43 rfl rfl ?_
    refine gd_callVV (As := []) (rest := []) (dy := 8) (my := 1) (sy := 6) (k := 10) (i := 0) lX10_249 iX10_refuseMissing sX10_refuseMissing rfl dX10_chain_44 rfl rfl (gd_room (by omega) (by decide)) (by decide) (Nat.le_of_ble_eq_true rfl) h (fun v5 h => ?_)
    refine gd_iload_n 0 dX10_chain_47 rfl rfl ?_
    exact gd_iret (ty := .int) dX10_chain_48 rfl rfl h
def wp_X10_chain_20 (g : ab_E) (d : Nat) (a1 : Int32) (a2 : Int32) (v : gd_D) (Q : ab_O → gd_D → Prop) : Prop :=
  gd_C g mX10_refuseMissing 8 1 6 [zR 10 0] v (gd_rV (fun v1 =>
    wp_X10_chain_24 g d a1 a2 v1 Q) (fun E v9 => Q (Sum.inr E) v9))
theorem w_X10_chain_20 {g : ab_E} {d : Nat} {a1 : Int32} {a2 : Int32} {v : gd_D} {Q : ab_O → gd_D → Prop} (hd : 9 ≤ d) (h : wp_X10_chain_20 g d a1 a2 v Q) : gd_G g mX10_chain d 2 12 20 [(0, zR 10 0), (1, zI a1), (2, zI a2)] [] v Q := by
  unfold wp_X10_chain_20 at h
  refine gd_aload_n 0 dX10_chain_20 rfl rfl ?_
  refine gd_callVV (As := []) (rest := []) (dy := 8) (my := 1) (sy := 6) (k := 10) (i := 0) lX10_249 iX10_refuseMissing sX10_refuseMissing rfl dX10_chain_21 rfl rfl (gd_room (by omega) (by decide)) (by decide) (Nat.le_of_ble_eq_true rfl) h (fun v1 h => ?_)
  exact w_X10_chain_24 (by omega) h
def wp_X10_chain (g : ab_E) (d : Nat) (a1 : Int32) (a2 : Int32) (v : gd_D) (Q : ab_O → gd_D → Prop) : Prop :=
  gd_C g mX10_needSale 9 1 6 [zR 10 0, zI a1] v (gd_rV (fun v1 =>
    (((a2 : Int32) < 0) →
      wp_X10_chain_20 g d a1 a2 v1 Q) ∧
    ((¬ (a2 : Int32) < 0) →
      gd_C g mX2_isAsked 2 0 0 [zR 2 9, zI a1] v1 (gd_rI (fun (r4 : Int32) v3 =>
        ((¬ (r4 : Int32) = 0) →
          wp_X10_chain_24 g d a1 a2 v3 Q) ∧
        (((r4 : Int32) = 0) →
          wp_X10_chain_20 g d a1 a2 v3 Q)) (fun E v9 => Q (Sum.inr E) v9)))) (fun E v9 => Q (Sum.inr E) v9))
theorem w_X10_chain {g : ab_E} {d : Nat} {a1 : Int32} {a2 : Int32} {v : gd_D} {Q : ab_O → gd_D → Prop} (hd : 10 ≤ d) (h : wp_X10_chain g d a1 a2 v Q) : gd_G g mX10_chain d 3 18 0 [(0, zR 10 0), (1, zI a1), (2, zI a2)] [] v Q := by
  unfold wp_X10_chain at h
  refine gd_aload_n 0 dX10_chain_0 rfl rfl ?_
  refine gd_iload_n 1 dX10_chain_1 rfl rfl ?_
  refine gd_callVV (As := [zI a1]) (rest := []) (dy := 9) (my := 1) (sy := 6) (k := 10) (i := 0) lX10_142 iX10_needSale sX10_needSale rfl dX10_chain_2 rfl rfl (gd_room (by omega) (by decide)) (by decide) (Nat.le_of_ble_eq_true rfl) h (fun v1 h => ?_)
  refine gd_iload_n 2 dX10_chain_5 rfl rfl ?_
  refine gd_if_lt (tgt := 20) dX10_chain_6 (by decide) (fun hc => ?_) (fun hc => ?_)
  · have h := h.1 hc
    exact w_X10_chain_20 (by omega) h
  · have h := h.2 hc
    refine gd_aload_n 0 dX10_chain_9 rfl rfl ?_
    refine gd_getR (x := 9) (kr := 2) fX10_26 rfl rfl dX10_chain_10 rfl ?_
    refine gd_iload_n 1 dX10_chain_13 rfl rfl ?_
    refine gd_callVI (As := [zI a1]) (rest := []) (dy := 2) (my := 0) (sy := 0) (k := 2) (i := 9) lX10_145 iX2_isAsked sX2_isAsked rfl dX10_chain_14 rfl rfl (gd_room (by omega) (by decide)) (by decide) (Nat.le_of_ble_eq_true rfl) h (fun r4 v3 h => ?_)
    refine gd_if_ne (tgt := 24) dX10_chain_17 (by decide) (fun hc => ?_) (fun hc => ?_)
    · have h := h.1 hc
      refine gd_less (b' := 1) (c' := 6) (by decide) (by decide) ?_
      exact w_X10_chain_24 (by omega) h
    · have h := h.2 hc
      exact w_X10_chain_20 (by omega) h
theorem c_X10_chain {g : ab_E} {d : Nat} {a1 : Int32} {a2 : Int32} {v : gd_D} {Q : ab_O → gd_D → Prop} (hd : 10 ≤ d) (h : wp_X10_chain g d a1 a2 v Q) : gd_C g mX10_chain d 3 18 [zR 10 0, zI a1, zI a2] v Q := gd_enterF (plainFor_of_name (by decide)) (Nat.le_of_ble_eq_true rfl) rfl (w_X10_chain hd h)
def wp_X10_ring (g : ab_E) (d : Nat) (a1 : Int32) (v : gd_D) (Q : ab_O → gd_D → Prop) : Prop :=
  gd_C g mX10_needWithin 9 1 6 [zR 10 0, zI a1, zI 0, zI 9] v (gd_rV (fun v1 =>
    gd_C g mX5_arrange 4 0 0 [zR 5 0, zR 2 9] v1 (gd_rV (fun v3 =>
      gd_C g mX8_find 5 0 0 [zR 8 0, zR 2 9, zR 5 0] v3 (gd_rI (fun (r6 : Int32) v5 =>
        ((¬ (r6 : Int32) = 0) →
          ((¬ (a1 : Int32) = 0) →
            ((¬ (a1 : Int32) = 1) →
              (((v5.1 8 0 1 : Int32) ≤ (a1 - 2)) →
                Q (Sum.inl (some (zI (-1)))) v5) ∧
              ((¬ (v5.1 8 0 1 : Int32) ≤ (a1 - 2)) →
                vp_in (a1 - 2) 8 ∧
                Q (Sum.inl (some (zI (v5.1 36 0 (a1 - 2 : Int32).toNatClampNeg)))) v5)) ∧
            (((a1 : Int32) = 1) →
              Q (Sum.inl (some (zI (v5.1 8 0 2)))) v5)) ∧
          (((a1 : Int32) = 0) →
            Q (Sum.inl (some (zI (v5.1 8 0 1)))) v5)) ∧
        (((r6 : Int32) = 0) →
          Q (Sum.inl (some (zI (-1)))) v5)) (fun E v9 => Q (Sum.inr E) v9))) (fun E v9 => Q (Sum.inr E) v9))) (fun E v9 => Q (Sum.inr E) v9))
theorem w_X10_ring {g : ab_E} {d : Nat} {a1 : Int32} {v : gd_D} {Q : ab_O → gd_D → Prop} (hd : 10 ≤ d) (h : wp_X10_ring g d a1 v Q) : gd_G g mX10_ring d 1 6 0 [(0, zR 10 0), (1, zI a1)] [] v Q := by
  unfold wp_X10_ring at h
  refine gd_aload_n 0 dX10_ring_0 rfl rfl ?_
  refine gd_iload_n 1 dX10_ring_1 rfl rfl ?_
  refine gd_iconst (x9 := 0) dX10_ring_2 (by decide) ?_
  refine gd_bipush (x9 := 9) dX10_ring_3 (by decide) ?_
  refine gd_callVV (As := [zI a1, zI 0, zI 9]) (rest := []) (dy := 9) (my := 1) (sy := 6) (k := 10) (i := 0) lX10_83 iX10_needWithin sX10_needWithin rfl dX10_ring_5 rfl rfl (gd_room (by omega) (by decide)) (by decide) (Nat.le_of_ble_eq_true rfl) h (fun v1 h => ?_)
  refine gd_aload_n 0 dX10_ring_8 rfl rfl ?_
  refine gd_getR (x := 0) (kr := 5) fX10_36 rfl rfl dX10_ring_9 rfl ?_
  refine gd_aload_n 0 dX10_ring_12 rfl rfl ?_
  refine gd_getR (x := 9) (kr := 2) fX10_26 rfl rfl dX10_ring_13 rfl ?_
  refine gd_callVV (As := [zR 2 9]) (rest := []) (dy := 4) (my := 0) (sy := 0) (k := 5) (i := 0) lX10_158 iX5_arrange sX5_arrange rfl dX10_ring_16 rfl rfl (gd_room (by omega) (by decide)) (by decide) (Nat.le_of_ble_eq_true rfl) h (fun v3 h => ?_)
  refine gd_aload_n 0 dX10_ring_19 rfl rfl ?_
  refine gd_getR (x := 0) (kr := 8) fX10_50 rfl rfl dX10_ring_20 rfl ?_
  refine gd_aload_n 0 dX10_ring_23 rfl rfl ?_
  refine gd_getR (x := 9) (kr := 2) fX10_26 rfl rfl dX10_ring_24 rfl ?_
  refine gd_aload_n 0 dX10_ring_27 rfl rfl ?_
  refine gd_getR (x := 0) (kr := 5) fX10_36 rfl rfl dX10_ring_28 rfl ?_
  refine gd_callVI (As := [zR 2 9, zR 5 0]) (rest := []) (dy := 5) (my := 0) (sy := 0) (k := 8) (i := 0) lX10_263 iX8_find sX8_find rfl dX10_ring_31 rfl rfl (gd_room (by omega) (by decide)) (by decide) (Nat.le_of_ble_eq_true rfl) h (fun r6 v5 h => ?_)
  refine gd_if_ne (tgt := 39) dX10_ring_34 (by decide) (fun hc => ?_) (fun hc => ?_)
  · have h := h.1 hc
    refine gd_iload_n 1 dX10_ring_39 rfl rfl ?_
    refine gd_if_ne (tgt := 51) dX10_ring_40 (by decide) (fun hc => ?_) (fun hc => ?_)
    · have h := h.1 hc
      refine gd_iload_n 1 dX10_ring_51 rfl rfl ?_
      refine gd_iconst (x9 := 1) dX10_ring_52 (by decide) ?_
      refine gd_icmp_ne (tgt := 64) dX10_ring_53 (by decide) (fun hc => ?_) (fun hc => ?_)
      · have h := h.1 hc
        refine gd_iload_n 1 dX10_ring_64 rfl rfl ?_
        refine gd_iconst (x9 := 2) dX10_ring_65 (by decide) ?_
        refine gd_isub dX10_ring_66 ?_
        refine gd_istore_n (L' := [(2, zI (a1 - 2)), (0, zR 10 0), (1, zI a1)]) dX10_ring_67 rfl (by decide) rfl ?_
        refine gd_iload_n 0 dX10_ring_68 rfl rfl ?_
        refine gd_aload_n 1 dX10_ring_69 rfl rfl ?_
        refine gd_getR (x := 0) (kr := 8) fX10_50 rfl rfl dX10_ring_70 rfl ?_
        refine gd_getI fX10_267 rfl dX10_ring_73 ?_
        refine gd_icmp_ge (tgt := 91) dX10_ring_76 (by decide) (fun hc => ?_) (fun hc => ?_)
        · have h := h.1 hc
          refine gd_iconst (x9 := (-1)) dX10_ring_91 (by decide) ?_
          exact gd_iret (ty := .int) dX10_ring_92 rfl rfl h
        · have h := h.2 hc
          refine gd_aload_n 1 dX10_ring_79 rfl rfl ?_
          refine gd_getR (x := 0) (kr := 8) fX10_50 rfl rfl dX10_ring_80 rfl ?_
          refine gd_getR (x := 0) (kr := 36) fX10_271 rfl rfl dX10_ring_83 rfl ?_
          refine gd_iload_n 0 dX10_ring_86 rfl rfl ?_
          obtain ⟨hb, h⟩ := h
          refine gd_iaload (n := 8) (by decide) rfl dX10_ring_87 rfl hb ?_
          refine gd_goto (tgt := 92) dX10_ring_88 (by decide) ?_
          exact gd_iret (ty := .int) dX10_ring_92 rfl rfl h
      · have h := h.2 hc
        refine gd_aload_n 0 dX10_ring_56 rfl rfl ?_
        refine gd_getR (x := 0) (kr := 8) fX10_50 rfl rfl dX10_ring_57 rfl ?_
        refine gd_getI fX10_270 rfl dX10_ring_60 ?_
        exact gd_iret (ty := .int) dX10_ring_63 rfl rfl h
    · have h := h.2 hc
      refine gd_aload_n 0 dX10_ring_43 rfl rfl ?_
      refine gd_getR (x := 0) (kr := 8) fX10_50 rfl rfl dX10_ring_44 rfl ?_
      refine gd_getI fX10_267 rfl dX10_ring_47 ?_
      exact gd_iret (ty := .int) dX10_ring_50 rfl rfl h
  · have h := h.2 hc
    refine gd_iconst (x9 := (-1)) dX10_ring_37 (by decide) ?_
    exact gd_iret (ty := .int) dX10_ring_38 rfl rfl h
theorem c_X10_ring {g : ab_E} {d : Nat} {a1 : Int32} {v : gd_D} {Q : ab_O → gd_D → Prop} (hd : 10 ≤ d) (h : wp_X10_ring g d a1 v Q) : gd_C g mX10_ring d 1 6 [zR 10 0, zI a1] v Q := gd_enterF (plainFor_of_name (by decide)) (Nat.le_of_ble_eq_true rfl) rfl (w_X10_ring hd h)
def wp_X10_most_25 (g : ab_E) (d : Nat) (s1 : Nat) (s2 : Int32) (v : gd_D) (Q : ab_O → gd_D → Prop) : Prop :=
  gd_C g mX3_sum 4 0 0 [zR 3 0, zR 2 s1, zI s2] v (gd_rJ (fun (r2 : Int64) v1 =>
    Q (Sum.inl (some (zJ r2))) v1) (fun E v9 => Q (Sum.inr E) v9))
theorem w_X10_most_25 {g : ab_E} {d : Nat} {s1 : Nat} {s2 : Int32} {v : gd_D} {Q : ab_O → gd_D → Prop} (hd : 5 ≤ d) (h : wp_X10_most_25 g d s1 s2 v Q) : gd_G g mX10_most d 0 0 25 [] [zI s2, zR 2 s1, zR 3 0] v Q := by
  unfold wp_X10_most_25 at h
  refine gd_callVJ (As := [zR 2 s1, zI s2]) (rest := []) (dy := 4) (my := 0) (sy := 0) (k := 3) (i := 0) lX10_274 iX3_sum sX3_sum rfl dX10_most_25 rfl rfl (gd_room (by omega) (by decide)) (by decide) (Nat.le_of_ble_eq_true rfl) h (fun r2 v1 h => ?_)
  exact gd_lret dX10_most_28 rfl h
def wp_X10_most (g : ab_E) (d : Nat) (a1 : Int32) (v : gd_D) (Q : ab_O → gd_D → Prop) : Prop :=
  gd_C g mX10_needWithin 9 1 6 [zR 10 0, zI a1, zI 0, zI 1] v (gd_rV (fun v1 =>
    ((¬ (a1 : Int32) = 1) →
      wp_X10_most_25 g d 9 0 v1 Q) ∧
    (((a1 : Int32) = 1) →
      wp_X10_most_25 g d 9 1 v1 Q)) (fun E v9 => Q (Sum.inr E) v9))
theorem w_X10_most {g : ab_E} {d : Nat} {a1 : Int32} {v : gd_D} {Q : ab_O → gd_D → Prop} (hd : 10 ≤ d) (h : wp_X10_most g d a1 v Q) : gd_G g mX10_most d 1 6 0 [(0, zR 10 0), (1, zI a1)] [] v Q := by
  unfold wp_X10_most at h
  refine gd_aload_n 0 dX10_most_0 rfl rfl ?_
  refine gd_iload_n 1 dX10_most_1 rfl rfl ?_
  refine gd_iconst (x9 := 0) dX10_most_2 (by decide) ?_
  refine gd_iconst (x9 := 1) dX10_most_3 (by decide) ?_
  refine gd_callVV (As := [zI a1, zI 0, zI 1]) (rest := []) (dy := 9) (my := 1) (sy := 6) (k := 10) (i := 0) lX10_83 iX10_needWithin sX10_needWithin rfl dX10_most_4 rfl rfl (gd_room (by omega) (by decide)) (by decide) (Nat.le_of_ble_eq_true rfl) h (fun v1 h => ?_)
  refine gd_aload_n 0 dX10_most_7 rfl rfl ?_
  refine gd_getR (x := 0) (kr := 3) fX10_57 rfl rfl dX10_most_8 rfl ?_
  refine gd_aload_n 0 dX10_most_11 rfl rfl ?_
  refine gd_getR (x := 9) (kr := 2) fX10_26 rfl rfl dX10_most_12 rfl ?_
  refine gd_iload_n 1 dX10_most_15 rfl rfl ?_
  refine gd_iconst (x9 := 1) dX10_most_16 (by decide) ?_
  refine gd_icmp_ne (tgt := 24) dX10_most_17 (by decide) (fun hc => ?_) (fun hc => ?_)
  · have h := h.1 hc
    refine gd_iconst (x9 := 0) dX10_most_24 (by decide) ?_
    refine gd_locals [] rfl ?_
    exact w_X10_most_25 (by omega) h
  · have h := h.2 hc
    refine gd_iconst (x9 := 1) dX10_most_20 (by decide) ?_
    refine gd_goto (tgt := 25) dX10_most_21 (by decide) ?_
    refine gd_locals [] rfl ?_
    exact w_X10_most_25 (by omega) h
theorem c_X10_most {g : ab_E} {d : Nat} {a1 : Int32} {v : gd_D} {Q : ab_O → gd_D → Prop} (hd : 10 ≤ d) (h : wp_X10_most g d a1 v Q) : gd_C g mX10_most d 1 6 [zR 10 0, zI a1] v Q := gd_enterF (plainFor_of_name (by decide)) (Nat.le_of_ble_eq_true rfl) rfl (w_X10_most hd h)
def wp_X10_foretold (g : ab_E) (d : Nat) (a1 : Int32) (v : gd_D) (Q : ab_O → gd_D → Prop) : Prop :=
  gd_C g mX10_needWithin 9 1 6 [zR 10 0, zI a1, zI 1, zI 30] v (gd_rV (fun v1 =>
    gd_C g mX2_copyFrom 3 0 0 [zR 2 10, zR 2 9] v1 (gd_rV (fun v3 =>
      gd_G g mX10_foretold d 0 0 21 [(0, zR 10 0), (1, zI a1), (2, zI 0)] [] v3 Q) (fun E v9 => Q (Sum.inr E) v9))) (fun E v9 => Q (Sum.inr E) v9))
theorem w_X10_foretold {g : ab_E} {d : Nat} {a1 : Int32} {v : gd_D} {Q : ab_O → gd_D → Prop} (hd : 10 ≤ d) (h : wp_X10_foretold g d a1 v Q) : gd_G g mX10_foretold d 1 6 0 [(0, zR 10 0), (1, zI a1)] [] v Q := by
  unfold wp_X10_foretold at h
  refine gd_aload_n 0 dX10_foretold_0 rfl rfl ?_
  refine gd_iload_n 1 dX10_foretold_1 rfl rfl ?_
  refine gd_iconst (x9 := 1) dX10_foretold_2 (by decide) ?_
  refine gd_bipush (x9 := 30) dX10_foretold_3 (by decide) ?_
  refine gd_callVV (As := [zI a1, zI 1, zI 30]) (rest := []) (dy := 9) (my := 1) (sy := 6) (k := 10) (i := 0) lX10_83 iX10_needWithin sX10_needWithin rfl dX10_foretold_5 rfl rfl (gd_room (by omega) (by decide)) (by decide) (Nat.le_of_ble_eq_true rfl) h (fun v1 h => ?_)
  refine gd_aload_n 0 dX10_foretold_8 rfl rfl ?_
  refine gd_getR (x := 10) (kr := 2) fX10_30 rfl rfl dX10_foretold_9 rfl ?_
  refine gd_aload_n 0 dX10_foretold_12 rfl rfl ?_
  refine gd_getR (x := 9) (kr := 2) fX10_26 rfl rfl dX10_foretold_13 rfl ?_
  refine gd_callVV (As := [zR 2 9]) (rest := []) (dy := 3) (my := 0) (sy := 0) (k := 2) (i := 10) lX10_101 iX2_copyFrom sX2_copyFrom rfl dX10_foretold_16 rfl rfl (gd_room (by omega) (by decide)) (by decide) (Nat.le_of_ble_eq_true rfl) h (fun v3 h => ?_)
  refine gd_iconst (x9 := 0) dX10_foretold_19 (by decide) ?_
  refine gd_istore_n (L' := [(2, zI 0), (0, zR 10 0), (1, zI a1)]) dX10_foretold_20 rfl (by decide) rfl ?_
  refine gd_locals [1, 2, 0] rfl ?_
  exact h
def wp_X10_foretold_21 (g : ab_E) (d : Nat) (a1 : Int32) (a2 : Int32) (v : gd_D) (Q : ab_O → gd_D → Prop) : Prop :=
  (((a1 : Int32) ≤ a2) →
    Q (Sum.inl (some (zI (v.1 4 0 4)))) v) ∧
  ((¬ (a1 : Int32) ≤ a2) →
    (((v.1 2 10 4 : Int32) < 5000) →
      gd_C g mX4_pass 43 0 0 [zR 4 0, zR 2 10] v (gd_rV (fun v1 =>
        gd_G g mX10_foretold d 0 0 21 [(0, zR 10 0), (1, zI a1), (2, zI (a2 + 1))] [] v1 Q) (fun E v9 => Q (Sum.inr E) v9))) ∧
    ((¬ (v.1 2 10 4 : Int32) < 5000) →
      Q (Sum.inl (some (zI 0))) v))
theorem w_X10_foretold_21 {g : ab_E} {d : Nat} {a1 : Int32} {a2 : Int32} {v : gd_D} {Q : ab_O → gd_D → Prop} (hd : 44 ≤ d) (h : wp_X10_foretold_21 g d a1 a2 v Q) : gd_G g mX10_foretold d 0 0 21 [(0, zR 10 0), (1, zI a1), (2, zI a2)] [] v Q := by
  unfold wp_X10_foretold_21 at h
  refine gd_iload_n 2 dX10_foretold_21 rfl rfl ?_
  refine gd_iload_n 1 dX10_foretold_22 rfl rfl ?_
  refine gd_icmp_ge (tgt := 58) dX10_foretold_23 (by decide) (fun hc => ?_) (fun hc => ?_)
  · have h := h.1 hc
    refine gd_aload_n 0 dX10_foretold_58 rfl rfl ?_
    refine gd_getR (x := 0) (kr := 4) fX10_64 rfl rfl dX10_foretold_59 rfl ?_
    refine gd_getI fX10_278 rfl dX10_foretold_62 ?_
    exact gd_iret (ty := .int) dX10_foretold_65 rfl rfl h
  · have h := h.2 hc
    refine gd_aload_n 0 dX10_foretold_26 rfl rfl ?_
    refine gd_getR (x := 10) (kr := 2) fX10_30 rfl rfl dX10_foretold_27 rfl ?_
    refine gd_getI fX10_133 rfl dX10_foretold_30 ?_
    refine gd_sipush (x9 := 5000) dX10_foretold_33 (by decide) ?_
    refine gd_icmp_lt (tgt := 41) dX10_foretold_36 (by decide) (fun hc => ?_) (fun hc => ?_)
    · have h := h.1 hc
      refine gd_aload_n 0 dX10_foretold_41 rfl rfl ?_
      refine gd_getR (x := 0) (kr := 4) fX10_64 rfl rfl dX10_foretold_42 rfl ?_
      refine gd_aload_n 0 dX10_foretold_45 rfl rfl ?_
      refine gd_getR (x := 10) (kr := 2) fX10_30 rfl rfl dX10_foretold_46 rfl ?_
      refine gd_callVV (As := [zR 2 10]) (rest := []) (dy := 43) (my := 0) (sy := 0) (k := 4) (i := 0) lX10_136 iX4_pass sX4_pass rfl dX10_foretold_49 rfl rfl (gd_room (by omega) (by decide)) (by decide) (Nat.le_of_ble_eq_true rfl) h (fun v1 h => ?_)
      refine gd_iinc (x9 := a2 + 1) (L' := [(2, zI (a2 + 1)), (0, zR 10 0), (1, zI a1)]) 2 dX10_foretold_52 rfl rfl (by decide) rfl ?_
      refine gd_goto (tgt := 21) dX10_foretold_55 (by decide) ?_
      refine gd_locals [1, 2, 0] rfl ?_
      exact h
    · have h := h.2 hc
      refine gd_iconst (x9 := 0) dX10_foretold_39 (by decide) ?_
      exact gd_iret (ty := .int) dX10_foretold_40 rfl rfl h
theorem c_X10_foretold {g : ab_E} {d : Nat} {a1 : Int32} {v : gd_D} {Q : ab_O → gd_D → Prop} (hd : 10 ≤ d) (h : wp_X10_foretold g d a1 v Q) : gd_C g mX10_foretold d 1 6 [zR 10 0, zI a1] v Q := gd_enterF (plainFor_of_name (by decide)) (Nat.le_of_ble_eq_true rfl) rfl (w_X10_foretold hd h)
def wp_X10_without_49 (g : ab_E) (d : Nat) (v : gd_D) (Q : ab_O → gd_D → Prop) : Prop :=
  gd_C g mX4_pass 43 0 0 [zR 4 0, zR 2 10] v (gd_rV (fun v1 =>
    Q (Sum.inl (some (zJ (v1.2.1 4 0 5)))) v1) (fun E v9 => Q (Sum.inr E) v9))
theorem w_X10_without_49 {g : ab_E} {d : Nat} {v : gd_D} {Q : ab_O → gd_D → Prop} (hd : 44 ≤ d) (h : wp_X10_without_49 g d v Q) : gd_G g mX10_without d 0 0 49 [(0, zR 10 0)] [] v Q := by
  unfold wp_X10_without_49 at h
  refine gd_aload_n 0 dX10_without_49 rfl rfl ?_
  refine gd_getR (x := 0) (kr := 4) fX10_64 rfl rfl dX10_without_50 rfl ?_
  refine gd_aload_n 0 dX10_without_53 rfl rfl ?_
  refine gd_getR (x := 10) (kr := 2) fX10_30 rfl rfl dX10_without_54 rfl ?_
  refine gd_callVV (As := [zR 2 10]) (rest := []) (dy := 43) (my := 0) (sy := 0) (k := 4) (i := 0) lX10_136 iX4_pass sX4_pass rfl dX10_without_57 rfl rfl (gd_room (by omega) (by decide)) (by decide) (Nat.le_of_ble_eq_true rfl) h (fun v1 h => ?_)
  refine gd_aload_n 0 dX10_without_60 rfl rfl ?_
  refine gd_getR (x := 0) (kr := 4) fX10_64 rfl rfl dX10_without_61 rfl ?_
  refine gd_getJ fX10_284 rfl dX10_without_64 ?_
  exact gd_lret dX10_without_67 rfl h
def wp_X10_without_10 (g : ab_E) (d : Nat) (a1 : Int32) (v : gd_D) (Q : ab_O → gd_D → Prop) : Prop :=
  (((v.1 2 9 4 : Int32) < 5000) →
    gd_C g mX2_copyFrom 3 0 0 [zR 2 10, zR 2 9] v (gd_rV (fun v1 =>
      (((a1 : Int32) = (-1)) →
        wp_X10_without_49 g d v1 Q) ∧
      ((¬ (a1 : Int32) = (-1)) →
        gd_C g mX2_leaveOut 2 0 0 [zR 2 10, zI a1] v1 (gd_rV (fun v3 =>
          wp_X10_without_49 g d v3 Q) (fun E v9 => Q (Sum.inr E) v9)))) (fun E v9 => Q (Sum.inr E) v9))) ∧
  ((¬ (v.1 2 9 4 : Int32) < 5000) →
    Q (Sum.inl (some (zJ 0))) v)
theorem w_X10_without_10 {g : ab_E} {d : Nat} {a1 : Int32} {v : gd_D} {Q : ab_O → gd_D → Prop} (hd : 44 ≤ d) (h : wp_X10_without_10 g d a1 v Q) : gd_G g mX10_without d 0 0 10 [(0, zR 10 0), (1, zI a1)] [] v Q := by
  unfold wp_X10_without_10 at h
  refine gd_aload_n 0 dX10_without_10 rfl rfl ?_
  refine gd_getR (x := 9) (kr := 2) fX10_26 rfl rfl dX10_without_11 rfl ?_
  refine gd_getI fX10_133 rfl dX10_without_14 ?_
  refine gd_sipush (x9 := 5000) dX10_without_17 (by decide) ?_
  refine gd_icmp_lt (tgt := 25) dX10_without_20 (by decide) (fun hc => ?_) (fun hc => ?_)
  · have h := h.1 hc
    refine gd_aload_n 0 dX10_without_25 rfl rfl ?_
    refine gd_getR (x := 10) (kr := 2) fX10_30 rfl rfl dX10_without_26 rfl ?_
    refine gd_aload_n 0 dX10_without_29 rfl rfl ?_
    refine gd_getR (x := 9) (kr := 2) fX10_26 rfl rfl dX10_without_30 rfl ?_
    refine gd_callVV (As := [zR 2 9]) (rest := []) (dy := 3) (my := 0) (sy := 0) (k := 2) (i := 10) lX10_101 iX2_copyFrom sX2_copyFrom rfl dX10_without_33 rfl rfl (gd_room (by omega) (by decide)) (by decide) (Nat.le_of_ble_eq_true rfl) h (fun v1 h => ?_)
    refine gd_iload_n 1 dX10_without_36 rfl rfl ?_
    refine gd_iconst (x9 := (-1)) dX10_without_37 (by decide) ?_
    refine gd_icmp_eq (tgt := 49) dX10_without_38 (by decide) (fun hc => ?_) (fun hc => ?_)
    · have h := h.1 hc
      refine gd_locals [0] rfl ?_
      exact w_X10_without_49 (by omega) h
    · have h := h.2 hc
      refine gd_aload_n 0 dX10_without_41 rfl rfl ?_
      refine gd_getR (x := 10) (kr := 2) fX10_30 rfl rfl dX10_without_42 rfl ?_
      refine gd_iload_n 1 dX10_without_45 rfl rfl ?_
      refine gd_callVV (As := [zI a1]) (rest := []) (dy := 2) (my := 0) (sy := 0) (k := 2) (i := 10) lX10_281 iX2_leaveOut sX2_leaveOut rfl dX10_without_46 rfl rfl (gd_room (by omega) (by decide)) (by decide) (Nat.le_of_ble_eq_true rfl) h (fun v3 h => ?_)
      refine gd_locals [0] rfl ?_
      exact w_X10_without_49 (by omega) h
  · have h := h.2 hc
    refine gd_lconst (x9 := 0) dX10_without_23 (by decide) ?_
    exact gd_lret dX10_without_24 rfl h
def wp_X10_without (g : ab_E) (d : Nat) (a1 : Int32) (v : gd_D) (Q : ab_O → gd_D → Prop) : Prop :=
  (((a1 : Int32) = (-1)) →
    wp_X10_without_10 g d a1 v Q) ∧
  ((¬ (a1 : Int32) = (-1)) →
    gd_C g mX10_needSale 9 1 6 [zR 10 0, zI a1] v (gd_rV (fun v1 =>
      wp_X10_without_10 g d a1 v1 Q) (fun E v9 => Q (Sum.inr E) v9)))
theorem w_X10_without {g : ab_E} {d : Nat} {a1 : Int32} {v : gd_D} {Q : ab_O → gd_D → Prop} (hd : 44 ≤ d) (h : wp_X10_without g d a1 v Q) : gd_G g mX10_without d 1 6 0 [(0, zR 10 0), (1, zI a1)] [] v Q := by
  unfold wp_X10_without at h
  refine gd_iload_n 1 dX10_without_0 rfl rfl ?_
  refine gd_iconst (x9 := (-1)) dX10_without_1 (by decide) ?_
  refine gd_icmp_eq (tgt := 10) dX10_without_2 (by decide) (fun hc => ?_) (fun hc => ?_)
  · have h := h.1 hc
    refine gd_less (b' := 0) (c' := 0) (by decide) (by decide) ?_
    exact w_X10_without_10 (by omega) h
  · have h := h.2 hc
    refine gd_aload_n 0 dX10_without_5 rfl rfl ?_
    refine gd_iload_n 1 dX10_without_6 rfl rfl ?_
    refine gd_callVV (As := [zI a1]) (rest := []) (dy := 9) (my := 1) (sy := 6) (k := 10) (i := 0) lX10_142 iX10_needSale sX10_needSale rfl dX10_without_7 rfl rfl (gd_room (by omega) (by decide)) (by decide) (Nat.le_of_ble_eq_true rfl) h (fun v1 h => ?_)
    exact w_X10_without_10 (by omega) h
theorem c_X10_without {g : ab_E} {d : Nat} {a1 : Int32} {v : gd_D} {Q : ab_O → gd_D → Prop} (hd : 44 ≤ d) (h : wp_X10_without g d a1 v Q) : gd_C g mX10_without d 1 6 [zR 10 0, zI a1] v Q := gd_enterF (plainFor_of_name (by decide)) (Nat.le_of_ble_eq_true rfl) rfl (w_X10_without hd h)
def wp_X10_between (g : ab_E) (d : Nat) (a1 : Int32) (a2 : Int32) (v : gd_D) (Q : ab_O → gd_D → Prop) : Prop :=
  gd_C g mX10_needDealer 9 1 6 [zR 10 0, zI a1] v (gd_rV (fun v1 =>
    gd_C g mX10_needDealer 9 1 6 [zR 10 0, zI a2] v1 (gd_rV (fun v3 =>
      gd_C g mX2_unitsOfFails 3 0 0 [zR 2 9, zI a1, zI a2] v3 (gd_rI (fun (r6 : Int32) v5 =>
        Q (Sum.inl (some (zI r6))) v5) (fun E v9 => Q (Sum.inr E) v9))) (fun E v9 => Q (Sum.inr E) v9))) (fun E v9 => Q (Sum.inr E) v9))
theorem w_X10_between {g : ab_E} {d : Nat} {a1 : Int32} {a2 : Int32} {v : gd_D} {Q : ab_O → gd_D → Prop} (hd : 10 ≤ d) (h : wp_X10_between g d a1 a2 v Q) : gd_G g mX10_between d 2 12 0 [(0, zR 10 0), (1, zI a1), (2, zI a2)] [] v Q := by
  unfold wp_X10_between at h
  refine gd_aload_n 0 dX10_between_0 rfl rfl ?_
  refine gd_iload_n 1 dX10_between_1 rfl rfl ?_
  refine gd_callVV (As := [zI a1]) (rest := []) (dy := 9) (my := 1) (sy := 6) (k := 10) (i := 0) lX10_107 iX10_needDealer sX10_needDealer rfl dX10_between_2 rfl rfl (gd_room (by omega) (by decide)) (by decide) (Nat.le_of_ble_eq_true rfl) h (fun v1 h => ?_)
  refine gd_aload_n 0 dX10_between_5 rfl rfl ?_
  refine gd_iload_n 2 dX10_between_6 rfl rfl ?_
  refine gd_callVV (As := [zI a2]) (rest := []) (dy := 9) (my := 1) (sy := 6) (k := 10) (i := 0) lX10_107 iX10_needDealer sX10_needDealer rfl dX10_between_7 rfl rfl (gd_room (by omega) (by decide)) (by decide) (Nat.le_of_ble_eq_true rfl) h (fun v3 h => ?_)
  refine gd_aload_n 0 dX10_between_10 rfl rfl ?_
  refine gd_getR (x := 9) (kr := 2) fX10_26 rfl rfl dX10_between_11 rfl ?_
  refine gd_iload_n 1 dX10_between_14 rfl rfl ?_
  refine gd_iload_n 2 dX10_between_15 rfl rfl ?_
  refine gd_callVI (As := [zI a1, zI a2]) (rest := []) (dy := 3) (my := 0) (sy := 0) (k := 2) (i := 9) lX10_185 iX2_unitsOfFails sX2_unitsOfFails rfl dX10_between_16 rfl rfl (gd_room (by omega) (by decide)) (by decide) (Nat.le_of_ble_eq_true rfl) h (fun r6 v5 h => ?_)
  exact gd_iret (ty := .int) dX10_between_19 rfl rfl h
theorem c_X10_between {g : ab_E} {d : Nat} {a1 : Int32} {a2 : Int32} {v : gd_D} {Q : ab_O → gd_D → Prop} (hd : 10 ≤ d) (h : wp_X10_between g d a1 a2 v Q) : gd_C g mX10_between d 2 12 [zR 10 0, zI a1, zI a2] v Q := gd_enterF (plainFor_of_name (by decide)) (Nat.le_of_ble_eq_true rfl) rfl (w_X10_between hd h)
def wp_X10_mean (g : ab_E) (d : Nat) (v : gd_D) (Q : ab_O → gd_D → Prop) : Prop :=
  gd_C g mX2_unitsOfFails 3 0 0 [zR 2 9, zI (-1), zI (-1)] v (gd_rI (fun (r2 : Int32) v1 =>
    (((0 : Int32) < r2) →
      gd_C g mX2_valueOfFails 3 0 0 [zR 2 9] v1 (gd_rJ (fun (r4 : Int64) v3 =>
        vf_n64 (FP.ddiv (FP.l2d r4) (FP.i2d r2)) ∧
        gd_C g mX10_bitsOf 2 0 0 [zD (FP.ddiv (FP.l2d r4) (FP.i2d r2))] v3 (gd_rJ (fun (r6 : Int64) v5 =>
          Q (Sum.inl (some (zJ r6))) v5) (fun E v9 => Q (Sum.inr E) v9))) (fun E v9 => Q (Sum.inr E) v9))) ∧
    ((¬ (0 : Int32) < r2) →
      Q (Sum.inl (some (zJ 0))) v1)) (fun E v9 => Q (Sum.inr E) v9))
theorem w_X10_mean {g : ab_E} {d : Nat} {v : gd_D} {Q : ab_O → gd_D → Prop} (hd : 4 ≤ d) (h : wp_X10_mean g d v Q) : gd_G g mX10_mean d 0 0 0 [(0, zR 10 0)] [] v Q := by
  unfold wp_X10_mean at h
  refine gd_aload_n 0 dX10_mean_0 rfl rfl ?_
  refine gd_getR (x := 9) (kr := 2) fX10_26 rfl rfl dX10_mean_1 rfl ?_
  refine gd_iconst (x9 := (-1)) dX10_mean_4 (by decide) ?_
  refine gd_iconst (x9 := (-1)) dX10_mean_5 (by decide) ?_
  refine gd_callVI (As := [zI (-1), zI (-1)]) (rest := []) (dy := 3) (my := 0) (sy := 0) (k := 2) (i := 9) lX10_185 iX2_unitsOfFails sX2_unitsOfFails rfl dX10_mean_6 rfl rfl (gd_room (by omega) (by decide)) (by decide) (Nat.le_of_ble_eq_true rfl) h (fun r2 v1 h => ?_)
  refine gd_istore_n (L' := [(1, zI r2), (0, zR 10 0)]) dX10_mean_9 rfl (by decide) rfl ?_
  refine gd_iload_n 0 dX10_mean_10 rfl rfl ?_
  refine gd_if_gt (tgt := 16) dX10_mean_11 (by decide) (fun hc => ?_) (fun hc => ?_)
  · have h := h.1 hc
    refine gd_aload_n 1 dX10_mean_16 rfl rfl ?_
    refine gd_getR (x := 9) (kr := 2) fX10_26 rfl rfl dX10_mean_17 rfl ?_
    refine gd_callVJ (As := []) (rest := []) (dy := 3) (my := 0) (sy := 0) (k := 2) (i := 9) lX10_287 iX2_valueOfFails sX2_valueOfFails rfl dX10_mean_20 rfl rfl (gd_room (by omega) (by decide)) (by decide) (Nat.le_of_ble_eq_true rfl) h (fun r4 v3 h => ?_)
    refine gd_l2d dX10_mean_23 ?_
    refine gd_iload_n 0 dX10_mean_24 rfl rfl ?_
    refine gd_i2d dX10_mean_25 ?_
    obtain ⟨hg, h⟩ := h
    refine gd_ddiv dX10_mean_26 hg ?_
    refine gd_callSJ (As := [zD (FP.ddiv (FP.l2d r4) (FP.i2d r2))]) (rest := []) (dy := 2) (my := 0) (sy := 0) lX10_291 tX10_bitsOf dX10_mean_27 rfl rfl (gd_room (by omega) (by decide)) (by decide) (Nat.le_of_ble_eq_true rfl) h (fun r6 v5 h => ?_)
    exact gd_lret dX10_mean_30 rfl h
  · have h := h.2 hc
    refine gd_lconst (x9 := 0) dX10_mean_14 (by decide) ?_
    exact gd_lret dX10_mean_15 rfl h
theorem c_X10_mean {g : ab_E} {d : Nat} {v : gd_D} {Q : ab_O → gd_D → Prop} (hd : 4 ≤ d) (h : wp_X10_mean g d v Q) : gd_C g mX10_mean d 0 0 [zR 10 0] v Q := gd_enterF (plainFor_of_name (by decide)) (Nat.le_of_ble_eq_true rfl) rfl (w_X10_mean hd h)
def wp_X10_outside (g : ab_E) (d : Nat) (v : gd_D) (Q : ab_O → gd_D → Prop) : Prop :=
  Q (Sum.inl (some (zJ (v.2.1 2 9 9)))) v
theorem w_X10_outside {g : ab_E} {d : Nat} {v : gd_D} {Q : ab_O → gd_D → Prop} (hd : 0 ≤ d) (h : wp_X10_outside g d v Q) : gd_G g mX10_outside d 0 0 0 [(0, zR 10 0)] [] v Q := by
  unfold wp_X10_outside at h
  refine gd_aload_n 0 dX10_outside_0 rfl rfl ?_
  refine gd_getR (x := 9) (kr := 2) fX10_26 rfl rfl dX10_outside_1 rfl ?_
  refine gd_getJ fX10_295 rfl dX10_outside_4 ?_
  exact gd_lret dX10_outside_7 rfl h
theorem c_X10_outside {g : ab_E} {d : Nat} {v : gd_D} {Q : ab_O → gd_D → Prop} (hd : 0 ≤ d) (h : wp_X10_outside g d v Q) : gd_C g mX10_outside d 0 0 [zR 10 0] v Q := gd_enterF (plainFor_of_name (by decide)) (Nat.le_of_ble_eq_true rfl) rfl (w_X10_outside hd h)
def wp_X10_print (g : ab_E) (d : Nat) (v : gd_D) (Q : ab_O → gd_D → Prop) : Prop :=
  gd_G g mX10_print d 0 0 4 [(0, zR 10 0), (1, zJ 0), (3, zI 0)] [] v Q
theorem w_X10_print {g : ab_E} {d : Nat} {v : gd_D} {Q : ab_O → gd_D → Prop} (hd : 0 ≤ d) (h : wp_X10_print g d v Q) : gd_G g mX10_print d 0 0 0 [(0, zR 10 0)] [] v Q := by
  unfold wp_X10_print at h
  refine gd_lconst (x9 := 0) dX10_print_0 (by decide) ?_
  refine gd_lstore_n (L' := [(1, zJ 0), (0, zR 10 0)]) dX10_print_1 rfl (by decide) rfl ?_
  refine gd_iconst (x9 := 0) dX10_print_2 (by decide) ?_
  refine gd_istore_n (L' := [(3, zI 0), (1, zJ 0), (0, zR 10 0)]) dX10_print_3 rfl (by decide) rfl ?_
  refine gd_locals [2, 1, 0] rfl ?_
  exact h
def wp_X10_print_4 (g : ab_E) (d : Nat) (a1 : Int64) (a3 : Int32) (v : gd_D) (Q : ab_O → gd_D → Prop) : Prop :=
  (((v.1 2 9 2 : Int32) ≤ a3) →
    gd_G g mX10_print d 0 0 62 [(0, zR 10 0), (1, zJ a1), (3, zI 0)] [] v Q) ∧
  ((¬ (v.1 2 9 2 : Int32) ≤ a3) →
    vp_in a3 8 ∧
    ∀ y1 : Int64, y1 = (v.1 0 (8 * 9 + (a3 : Int32).toNatClampNeg) 0 : Int32).toInt64 →
    vp_in a3 8 ∧
    ∀ y2 : Int64, y2 = v.2.1 0 (8 * 9 + (a3 : Int32).toNatClampNeg) 1 →
    gd_G g mX10_print d 0 0 4 [(0, zR 10 0), (1, zJ ((31 * ((31 * a1) + y1)) + y2)), (3, zI (a3 + 1))] [] v Q)
theorem w_X10_print_4 {g : ab_E} {d : Nat} {a1 : Int64} {a3 : Int32} {v : gd_D} {Q : ab_O → gd_D → Prop} (hd : 0 ≤ d) (h : wp_X10_print_4 g d a1 a3 v Q) : gd_G g mX10_print d 0 0 4 [(0, zR 10 0), (1, zJ a1), (3, zI a3)] [] v Q := by
  unfold wp_X10_print_4 at h
  refine gd_iload_n 2 dX10_print_4 rfl rfl ?_
  refine gd_aload_n 0 dX10_print_5 rfl rfl ?_
  refine gd_getR (x := 9) (kr := 2) fX10_26 rfl rfl dX10_print_6 rfl ?_
  refine gd_getI fX10_169 rfl dX10_print_9 ?_
  refine gd_icmp_ge (tgt := 60) dX10_print_12 (by decide) (fun hc => ?_) (fun hc => ?_)
  · have h := h.1 hc
    refine gd_iconst (x9 := 0) dX10_print_60 (by decide) ?_
    refine gd_istore_n (L' := [(3, zI 0), (0, zR 10 0), (1, zJ a1)]) dX10_print_61 rfl (by decide) rfl ?_
    refine gd_locals [1, 2, 0] rfl ?_
    exact h
  · have h := h.2 hc
    refine gd_ldc2 kX10_298 dX10_print_15 ?_
    refine gd_lload_n 1 dX10_print_18 rfl rfl ?_
    refine gd_lmul dX10_print_19 ?_
    refine gd_aload_n 0 dX10_print_20 rfl rfl ?_
    refine gd_getR (x := 9) (kr := 2) fX10_26 rfl rfl dX10_print_21 rfl ?_
    refine gd_getR (x := 9) (kr := 13) fX10_121 rfl rfl dX10_print_24 rfl ?_
    refine gd_iload_n 2 dX10_print_27 rfl rfl ?_
    obtain ⟨hb, h⟩ := h
    refine gd_aaload (n := 8) (kr := 0) (y := 8 * 9 + (a3 : Int32).toNatClampNeg) (by decide) rfl rfl dX10_print_28 rfl hb (if_pos (ab_inlt hb)) ?_
    refine gd_getI fX10_125 rfl dX10_print_29 ?_
    refine gd_i2l dX10_print_32 ?_
    refine gd_nmJ (fun y1 ey1 => ?_)
    have h := h y1 ey1
    refine gd_ladd dX10_print_33 ?_
    refine gd_lstore_n (L' := [(1, zJ ((31 * a1) + y1)), (0, zR 10 0), (3, zI a3)]) dX10_print_34 rfl (by decide) rfl ?_
    refine gd_ldc2 kX10_298 dX10_print_35 ?_
    refine gd_lload_n 0 dX10_print_38 rfl rfl ?_
    refine gd_lmul dX10_print_39 ?_
    refine gd_aload_n 1 dX10_print_40 rfl rfl ?_
    refine gd_getR (x := 9) (kr := 2) fX10_26 rfl rfl dX10_print_41 rfl ?_
    refine gd_getR (x := 9) (kr := 13) fX10_121 rfl rfl dX10_print_44 rfl ?_
    refine gd_iload_n 2 dX10_print_47 rfl rfl ?_
    obtain ⟨hb, h⟩ := h
    refine gd_aaload (n := 8) (kr := 0) (y := 8 * 9 + (a3 : Int32).toNatClampNeg) (by decide) rfl rfl dX10_print_48 rfl hb (if_pos (ab_inlt hb)) ?_
    refine gd_getJ fX10_192 rfl dX10_print_49 ?_
    refine gd_nmJ (fun y2 ey2 => ?_)
    have h := h y2 ey2
    refine gd_ladd dX10_print_52 ?_
    refine gd_lstore_n (L' := [(1, zJ ((31 * ((31 * a1) + y1)) + y2)), (0, zR 10 0), (3, zI a3)]) dX10_print_53 rfl (by decide) rfl ?_
    refine gd_iinc (x9 := a3 + 1) (L' := [(3, zI (a3 + 1)), (1, zJ ((31 * ((31 * a1) + y1)) + y2)), (0, zR 10 0)]) 2 dX10_print_54 rfl rfl (by decide) rfl ?_
    refine gd_goto (tgt := 4) dX10_print_57 (by decide) ?_
    refine gd_locals [2, 1, 0] rfl ?_
    exact h
def wp_X10_print_62 (g : ab_E) (d : Nat) (a1 : Int64) (a3 : Int32) (v : gd_D) (Q : ab_O → gd_D → Prop) : Prop :=
  (((v.1 2 9 3 : Int32) ≤ a3) →
    Q (Sum.inl (some (zJ a1))) v) ∧
  ((¬ (v.1 2 9 3 : Int32) ≤ a3) →
    vp_in a3 24 ∧
    ∀ y1 : Int64, y1 = (v.1 9 (24 * 9 + (a3 : Int32).toNatClampNeg) 5 : Int32).toInt64 →
    gd_G g mX10_print d 0 0 62 [(0, zR 10 0), (1, zJ ((31 * a1) + y1)), (3, zI (a3 + 1))] [] v Q)
theorem w_X10_print_62 {g : ab_E} {d : Nat} {a1 : Int64} {a3 : Int32} {v : gd_D} {Q : ab_O → gd_D → Prop} (hd : 0 ≤ d) (h : wp_X10_print_62 g d a1 a3 v Q) : gd_G g mX10_print d 0 0 62 [(0, zR 10 0), (1, zJ a1), (3, zI a3)] [] v Q := by
  unfold wp_X10_print_62 at h
  refine gd_iload_n 2 dX10_print_62 rfl rfl ?_
  refine gd_aload_n 0 dX10_print_63 rfl rfl ?_
  refine gd_getR (x := 9) (kr := 2) fX10_26 rfl rfl dX10_print_64 rfl ?_
  refine gd_getI fX10_104 rfl dX10_print_67 ?_
  refine gd_icmp_ge (tgt := 99) dX10_print_70 (by decide) (fun hc => ?_) (fun hc => ?_)
  · have h := h.1 hc
    refine gd_lload_n 1 dX10_print_99 rfl rfl ?_
    exact gd_lret dX10_print_100 rfl h
  · have h := h.2 hc
    refine gd_ldc2 kX10_298 dX10_print_73 ?_
    refine gd_lload_n 1 dX10_print_76 rfl rfl ?_
    refine gd_lmul dX10_print_77 ?_
    refine gd_aload_n 0 dX10_print_78 rfl rfl ?_
    refine gd_getR (x := 9) (kr := 2) fX10_26 rfl rfl dX10_print_79 rfl ?_
    refine gd_getR (x := 9) (kr := 14) fX10_149 rfl rfl dX10_print_82 rfl ?_
    refine gd_iload_n 2 dX10_print_85 rfl rfl ?_
    obtain ⟨hb, h⟩ := h
    refine gd_aaload (n := 24) (kr := 9) (y := 24 * 9 + (a3 : Int32).toNatClampNeg) (by decide) rfl rfl dX10_print_86 rfl hb (if_pos (ab_inlt hb)) ?_
    refine gd_getI fX10_153 rfl dX10_print_87 ?_
    refine gd_i2l dX10_print_90 ?_
    refine gd_nmJ (fun y1 ey1 => ?_)
    have h := h y1 ey1
    refine gd_ladd dX10_print_91 ?_
    refine gd_lstore_n (L' := [(1, zJ ((31 * a1) + y1)), (0, zR 10 0), (3, zI a3)]) dX10_print_92 rfl (by decide) rfl ?_
    refine gd_iinc (x9 := a3 + 1) (L' := [(3, zI (a3 + 1)), (1, zJ ((31 * a1) + y1)), (0, zR 10 0)]) 2 dX10_print_93 rfl rfl (by decide) rfl ?_
    refine gd_goto (tgt := 62) dX10_print_96 (by decide) ?_
    refine gd_locals [2, 1, 0] rfl ?_
    exact h
theorem c_X10_print {g : ab_E} {d : Nat} {v : gd_D} {Q : ab_O → gd_D → Prop} (hd : 0 ≤ d) (h : wp_X10_print g d v Q) : gd_C g mX10_print d 0 0 [zR 10 0] v Q := gd_enterF (plainFor_of_name (by decide)) (Nat.le_of_ble_eq_true rfl) rfl (w_X10_print hd h)
def wp_X10_status (g : ab_E) (d : Nat) (a1 : Int32) (v : gd_D) (Q : ab_O → gd_D → Prop) : Prop :=
  (((a1 : Int32) < 0) →
    Q (Sum.inl (some (zI (-1)))) v) ∧
  ((¬ (a1 : Int32) < 0) →
    (((a1 : Int32) ≤ 2) →
      vp_in a1 3 ∧
      Q (Sum.inl (some (zI (v.1 38 0 (a1 : Int32).toNatClampNeg)))) v) ∧
    ((¬ (a1 : Int32) ≤ 2) →
      Q (Sum.inl (some (zI (-1)))) v))
theorem w_X10_status {g : ab_E} {d : Nat} {a1 : Int32} {v : gd_D} {Q : ab_O → gd_D → Prop} (hd : 0 ≤ d) (h : wp_X10_status g d a1 v Q) : gd_G g mX10_status d 0 0 0 [(0, zR 10 0), (1, zI a1)] [] v Q := by
  unfold wp_X10_status at h
  refine gd_iload_n 1 dX10_status_0 rfl rfl ?_
  refine gd_if_lt (tgt := 9) dX10_status_1 (by decide) (fun hc => ?_) (fun hc => ?_)
  · have h := h.1 hc
    refine gd_iconst (x9 := (-1)) dX10_status_9 (by decide) ?_
    refine gd_goto (tgt := 19) dX10_status_10 (by decide) ?_
    exact gd_iret (ty := .int) dX10_status_19 rfl rfl h
  · have h := h.2 hc
    refine gd_iload_n 1 dX10_status_4 rfl rfl ?_
    refine gd_iconst (x9 := 2) dX10_status_5 (by decide) ?_
    refine gd_icmp_le (tgt := 13) dX10_status_6 (by decide) (fun hc => ?_) (fun hc => ?_)
    · have h := h.1 hc
      refine gd_aload_n 0 dX10_status_13 rfl rfl ?_
      refine gd_getR (x := 0) (kr := 38) fX10_68 rfl rfl dX10_status_14 rfl ?_
      refine gd_iload_n 1 dX10_status_17 rfl rfl ?_
      obtain ⟨hb, h⟩ := h
      refine gd_iaload (n := 3) (by decide) rfl dX10_status_18 rfl hb ?_
      exact gd_iret (ty := .int) dX10_status_19 rfl rfl h
    · have h := h.2 hc
      refine gd_iconst (x9 := (-1)) dX10_status_9 (by decide) ?_
      refine gd_goto (tgt := 19) dX10_status_10 (by decide) ?_
      exact gd_iret (ty := .int) dX10_status_19 rfl rfl h
theorem c_X10_status {g : ab_E} {d : Nat} {a1 : Int32} {v : gd_D} {Q : ab_O → gd_D → Prop} (hd : 0 ≤ d) (h : wp_X10_status g d a1 v Q) : gd_C g mX10_status d 0 0 [zR 10 0, zI a1] v Q := gd_enterF (plainFor_of_name (by decide)) (Nat.le_of_ble_eq_true rfl) rfl (w_X10_status hd h)
def wp_X10_standNow (g : ab_E) (d : Nat) (v : gd_D) (Q : ab_O → gd_D → Prop) : Prop :=
  gd_C g mX5_arrange 4 0 0 [zR 5 0, zR 2 9] v (gd_rV (fun v1 =>
    gd_C g mX6_stand 4 0 0 [zR 6 0, zR 2 9, zR 5 0] v1 (gd_rV (fun v3 =>
      Q (Sum.inl none) v3) (fun E v9 => Q (Sum.inr E) v9))) (fun E v9 => Q (Sum.inr E) v9))
theorem w_X10_standNow {g : ab_E} {d : Nat} {v : gd_D} {Q : ab_O → gd_D → Prop} (hd : 5 ≤ d) (h : wp_X10_standNow g d v Q) : gd_G g mX10_standNow d 0 0 0 [(0, zR 10 0)] [] v Q := by
  unfold wp_X10_standNow at h
  refine gd_aload_n 0 dX10_standNow_0 rfl rfl ?_
  refine gd_getR (x := 0) (kr := 5) fX10_36 rfl rfl dX10_standNow_1 rfl ?_
  refine gd_aload_n 0 dX10_standNow_4 rfl rfl ?_
  refine gd_getR (x := 9) (kr := 2) fX10_26 rfl rfl dX10_standNow_5 rfl ?_
  refine gd_callVV (As := [zR 2 9]) (rest := []) (dy := 4) (my := 0) (sy := 0) (k := 5) (i := 0) lX10_158 iX5_arrange sX5_arrange rfl dX10_standNow_8 rfl rfl (gd_room (by omega) (by decide)) (by decide) (Nat.le_of_ble_eq_true rfl) h (fun v1 h => ?_)
  refine gd_aload_n 0 dX10_standNow_11 rfl rfl ?_
  refine gd_getR (x := 0) (kr := 6) fX10_43 rfl rfl dX10_standNow_12 rfl ?_
  refine gd_aload_n 0 dX10_standNow_15 rfl rfl ?_
  refine gd_getR (x := 9) (kr := 2) fX10_26 rfl rfl dX10_standNow_16 rfl ?_
  refine gd_aload_n 0 dX10_standNow_19 rfl rfl ?_
  refine gd_getR (x := 0) (kr := 5) fX10_36 rfl rfl dX10_standNow_20 rfl ?_
  refine gd_callVV (As := [zR 2 9, zR 5 0]) (rest := []) (dy := 4) (my := 0) (sy := 0) (k := 6) (i := 0) lX10_300 iX6_stand sX6_stand rfl dX10_standNow_23 rfl rfl (gd_room (by omega) (by decide)) (by decide) (Nat.le_of_ble_eq_true rfl) h (fun v3 h => ?_)
  exact gd_vret dX10_standNow_26 rfl h
theorem c_X10_standNow {g : ab_E} {d : Nat} {v : gd_D} {Q : ab_O → gd_D → Prop} (hd : 5 ≤ d) (h : wp_X10_standNow g d v Q) : gd_C g mX10_standNow d 0 0 [zR 10 0] v Q := gd_enterF (plainFor_of_name (by decide)) (Nat.le_of_ble_eq_true rfl) rfl (w_X10_standNow hd h)
def wp_X10_ownFaultOf (g : ab_E) (d : Nat) (a1 : Int32) (v : gd_D) (Q : ab_O → gd_D → Prop) : Prop :=
  gd_C g mX10_standNow 5 0 0 [zR 10 0] v (gd_rV (fun v1 =>
    vp_in a1 8 ∧
    Q (Sum.inl (some (zI (v1.1 28 0 (a1 : Int32).toNatClampNeg)))) v1) (fun E v9 => Q (Sum.inr E) v9))
theorem w_X10_ownFaultOf {g : ab_E} {d : Nat} {a1 : Int32} {v : gd_D} {Q : ab_O → gd_D → Prop} (hd : 6 ≤ d) (h : wp_X10_ownFaultOf g d a1 v Q) : gd_G g mX10_ownFaultOf d 0 0 0 [(0, zR 10 0), (1, zI a1)] [] v Q := by
  unfold wp_X10_ownFaultOf at h
  refine gd_aload_n 0 dX10_ownFaultOf_0 rfl rfl ?_
  refine gd_callVV (As := []) (rest := []) (dy := 5) (my := 0) (sy := 0) (k := 10) (i := 0) lX10_243 iX10_standNow sX10_standNow rfl dX10_ownFaultOf_1 rfl rfl (gd_room (by omega) (by decide)) (by decide) (Nat.le_of_ble_eq_true rfl) h (fun v1 h => ?_)
  refine gd_aload_n 0 dX10_ownFaultOf_4 rfl rfl ?_
  refine gd_getR (x := 0) (kr := 6) fX10_43 rfl rfl dX10_ownFaultOf_5 rfl ?_
  refine gd_getR (x := 0) (kr := 28) fX10_304 rfl rfl dX10_ownFaultOf_8 rfl ?_
  refine gd_iload_n 1 dX10_ownFaultOf_11 rfl rfl ?_
  obtain ⟨hb, h⟩ := h
  refine gd_iaload (n := 8) (by decide) rfl dX10_ownFaultOf_12 rfl hb ?_
  exact gd_iret (ty := .int) dX10_ownFaultOf_13 rfl rfl h
theorem c_X10_ownFaultOf {g : ab_E} {d : Nat} {a1 : Int32} {v : gd_D} {Q : ab_O → gd_D → Prop} (hd : 6 ≤ d) (h : wp_X10_ownFaultOf g d a1 v Q) : gd_C g mX10_ownFaultOf d 0 0 [zR 10 0, zI a1] v Q := gd_enterF (plainFor_of_name (by decide)) (Nat.le_of_ble_eq_true rfl) rfl (w_X10_ownFaultOf hd h)
def wp_X10_placeOf (g : ab_E) (d : Nat) (a1 : Int32) (v : gd_D) (Q : ab_O → gd_D → Prop) : Prop :=
  gd_C g mX5_arrange 4 0 0 [zR 5 0, zR 2 9] v (gd_rV (fun v1 =>
    gd_C g mX5_placeOf 2 0 0 [zR 5 0, zI a1] v1 (gd_rI (fun (r4 : Int32) v3 =>
      Q (Sum.inl (some (zI r4))) v3) (fun E v9 => Q (Sum.inr E) v9))) (fun E v9 => Q (Sum.inr E) v9))
theorem w_X10_placeOf {g : ab_E} {d : Nat} {a1 : Int32} {v : gd_D} {Q : ab_O → gd_D → Prop} (hd : 5 ≤ d) (h : wp_X10_placeOf g d a1 v Q) : gd_G g mX10_placeOf d 0 0 0 [(0, zR 10 0), (1, zI a1)] [] v Q := by
  unfold wp_X10_placeOf at h
  refine gd_aload_n 0 dX10_placeOf_0 rfl rfl ?_
  refine gd_getR (x := 0) (kr := 5) fX10_36 rfl rfl dX10_placeOf_1 rfl ?_
  refine gd_aload_n 0 dX10_placeOf_4 rfl rfl ?_
  refine gd_getR (x := 9) (kr := 2) fX10_26 rfl rfl dX10_placeOf_5 rfl ?_
  refine gd_callVV (As := [zR 2 9]) (rest := []) (dy := 4) (my := 0) (sy := 0) (k := 5) (i := 0) lX10_158 iX5_arrange sX5_arrange rfl dX10_placeOf_8 rfl rfl (gd_room (by omega) (by decide)) (by decide) (Nat.le_of_ble_eq_true rfl) h (fun v1 h => ?_)
  refine gd_aload_n 0 dX10_placeOf_11 rfl rfl ?_
  refine gd_getR (x := 0) (kr := 5) fX10_36 rfl rfl dX10_placeOf_12 rfl ?_
  refine gd_iload_n 1 dX10_placeOf_15 rfl rfl ?_
  refine gd_callVI (As := [zI a1]) (rest := []) (dy := 2) (my := 0) (sy := 0) (k := 5) (i := 0) lX10_307 iX5_placeOf sX5_placeOf rfl dX10_placeOf_16 rfl rfl (gd_room (by omega) (by decide)) (by decide) (Nat.le_of_ble_eq_true rfl) h (fun r4 v3 h => ?_)
  exact gd_iret (ty := .int) dX10_placeOf_19 rfl rfl h
theorem c_X10_placeOf {g : ab_E} {d : Nat} {a1 : Int32} {v : gd_D} {Q : ab_O → gd_D → Prop} (hd : 5 ≤ d) (h : wp_X10_placeOf g d a1 v Q) : gd_C g mX10_placeOf d 0 0 [zR 10 0, zI a1] v Q := gd_enterF (plainFor_of_name (by decide)) (Nat.le_of_ble_eq_true rfl) rfl (w_X10_placeOf hd h)
def wp_X10_needDealer_15 (g : ab_E) (d : Nat) (v : gd_D) (Q : ab_O → gd_D → Prop) : Prop :=
  gd_C g mX10_refuseMissing 8 1 6 [zR 10 0] v (gd_rV (fun v1 =>
    Q (Sum.inl none) v1) (fun E v9 => Q (Sum.inr E) v9))
theorem w_X10_needDealer_15 {g : ab_E} {d : Nat} {v : gd_D} {Q : ab_O → gd_D → Prop} (hd : 9 ≤ d) (h : wp_X10_needDealer_15 g d v Q) : gd_G g mX10_needDealer d 1 6 15 [(0, zR 10 0)] [] v Q := by
  unfold wp_X10_needDealer_15 at h
  refine gd_aload_n 0 dX10_needDealer_15 rfl rfl ?_
  refine gd_callVV (As := []) (rest := []) (dy := 8) (my := 1) (sy := 6) (k := 10) (i := 0) lX10_249 iX10_refuseMissing sX10_refuseMissing rfl dX10_needDealer_16 rfl rfl (gd_room (by omega) (by decide)) (by decide) (Nat.le_of_ble_eq_true rfl) h (fun v1 h => ?_)
  exact gd_vret dX10_needDealer_19 rfl h
def wp_X10_needDealer (g : ab_E) (d : Nat) (a1 : Int32) (v : gd_D) (Q : ab_O → gd_D → Prop) : Prop :=
  (((a1 : Int32) < 0) →
    wp_X10_needDealer_15 g d v Q) ∧
  ((¬ (a1 : Int32) < 0) →
    (((a1 : Int32) < (v.1 2 9 2)) →
      Q (Sum.inl none) v) ∧
    ((¬ (a1 : Int32) < (v.1 2 9 2)) →
      wp_X10_needDealer_15 g d v Q))
theorem w_X10_needDealer {g : ab_E} {d : Nat} {a1 : Int32} {v : gd_D} {Q : ab_O → gd_D → Prop} (hd : 9 ≤ d) (h : wp_X10_needDealer g d a1 v Q) : gd_G g mX10_needDealer d 1 6 0 [(0, zR 10 0), (1, zI a1)] [] v Q := by
  unfold wp_X10_needDealer at h
  refine gd_iload_n 1 dX10_needDealer_0 rfl rfl ?_
  refine gd_if_lt (tgt := 15) dX10_needDealer_1 (by decide) (fun hc => ?_) (fun hc => ?_)
  · have h := h.1 hc
    refine gd_locals [0] rfl ?_
    exact w_X10_needDealer_15 (by omega) h
  · have h := h.2 hc
    refine gd_iload_n 1 dX10_needDealer_4 rfl rfl ?_
    refine gd_aload_n 0 dX10_needDealer_5 rfl rfl ?_
    refine gd_getR (x := 9) (kr := 2) fX10_26 rfl rfl dX10_needDealer_6 rfl ?_
    refine gd_getI fX10_169 rfl dX10_needDealer_9 ?_
    refine gd_icmp_lt (tgt := 19) dX10_needDealer_12 (by decide) (fun hc => ?_) (fun hc => ?_)
    · have h := h.1 hc
      exact gd_vret dX10_needDealer_19 rfl h
    · have h := h.2 hc
      refine gd_locals [0] rfl ?_
      exact w_X10_needDealer_15 (by omega) h
theorem c_X10_needDealer {g : ab_E} {d : Nat} {a1 : Int32} {v : gd_D} {Q : ab_O → gd_D → Prop} (hd : 9 ≤ d) (h : wp_X10_needDealer g d a1 v Q) : gd_C g mX10_needDealer d 1 6 [zR 10 0, zI a1] v Q := gd_enterF (plainFor_of_name (by decide)) (Nat.le_of_ble_eq_true rfl) rfl (w_X10_needDealer hd h)
def wp_X10_needSale_15 (g : ab_E) (d : Nat) (v : gd_D) (Q : ab_O → gd_D → Prop) : Prop :=
  gd_C g mX10_refuseMissing 8 1 6 [zR 10 0] v (gd_rV (fun v1 =>
    Q (Sum.inl none) v1) (fun E v9 => Q (Sum.inr E) v9))
theorem w_X10_needSale_15 {g : ab_E} {d : Nat} {v : gd_D} {Q : ab_O → gd_D → Prop} (hd : 9 ≤ d) (h : wp_X10_needSale_15 g d v Q) : gd_G g mX10_needSale d 1 6 15 [(0, zR 10 0)] [] v Q := by
  unfold wp_X10_needSale_15 at h
  refine gd_aload_n 0 dX10_needSale_15 rfl rfl ?_
  refine gd_callVV (As := []) (rest := []) (dy := 8) (my := 1) (sy := 6) (k := 10) (i := 0) lX10_249 iX10_refuseMissing sX10_refuseMissing rfl dX10_needSale_16 rfl rfl (gd_room (by omega) (by decide)) (by decide) (Nat.le_of_ble_eq_true rfl) h (fun v1 h => ?_)
  exact gd_vret dX10_needSale_19 rfl h
def wp_X10_needSale (g : ab_E) (d : Nat) (a1 : Int32) (v : gd_D) (Q : ab_O → gd_D → Prop) : Prop :=
  (((a1 : Int32) < 0) →
    wp_X10_needSale_15 g d v Q) ∧
  ((¬ (a1 : Int32) < 0) →
    (((a1 : Int32) < (v.1 2 9 3)) →
      Q (Sum.inl none) v) ∧
    ((¬ (a1 : Int32) < (v.1 2 9 3)) →
      wp_X10_needSale_15 g d v Q))
theorem w_X10_needSale {g : ab_E} {d : Nat} {a1 : Int32} {v : gd_D} {Q : ab_O → gd_D → Prop} (hd : 9 ≤ d) (h : wp_X10_needSale g d a1 v Q) : gd_G g mX10_needSale d 1 6 0 [(0, zR 10 0), (1, zI a1)] [] v Q := by
  unfold wp_X10_needSale at h
  refine gd_iload_n 1 dX10_needSale_0 rfl rfl ?_
  refine gd_if_lt (tgt := 15) dX10_needSale_1 (by decide) (fun hc => ?_) (fun hc => ?_)
  · have h := h.1 hc
    refine gd_locals [0] rfl ?_
    exact w_X10_needSale_15 (by omega) h
  · have h := h.2 hc
    refine gd_iload_n 1 dX10_needSale_4 rfl rfl ?_
    refine gd_aload_n 0 dX10_needSale_5 rfl rfl ?_
    refine gd_getR (x := 9) (kr := 2) fX10_26 rfl rfl dX10_needSale_6 rfl ?_
    refine gd_getI fX10_104 rfl dX10_needSale_9 ?_
    refine gd_icmp_lt (tgt := 19) dX10_needSale_12 (by decide) (fun hc => ?_) (fun hc => ?_)
    · have h := h.1 hc
      exact gd_vret dX10_needSale_19 rfl h
    · have h := h.2 hc
      refine gd_locals [0] rfl ?_
      exact w_X10_needSale_15 (by omega) h
theorem c_X10_needSale {g : ab_E} {d : Nat} {a1 : Int32} {v : gd_D} {Q : ab_O → gd_D → Prop} (hd : 9 ≤ d) (h : wp_X10_needSale g d a1 v Q) : gd_C g mX10_needSale d 1 6 [zR 10 0, zI a1] v Q := gd_enterF (plainFor_of_name (by decide)) (Nat.le_of_ble_eq_true rfl) rfl (w_X10_needSale hd h)
def wp_X10_needWithin_10 (g : ab_E) (d : Nat) (v : gd_D) (Q : ab_O → gd_D → Prop) : Prop :=
  gd_C g mX10_refuseUnfit 8 1 6 [zR 10 0] v (gd_rV (fun v1 =>
    Q (Sum.inl none) v1) (fun E v9 => Q (Sum.inr E) v9))
theorem w_X10_needWithin_10 {g : ab_E} {d : Nat} {v : gd_D} {Q : ab_O → gd_D → Prop} (hd : 9 ≤ d) (h : wp_X10_needWithin_10 g d v Q) : gd_G g mX10_needWithin d 1 6 10 [(0, zR 10 0)] [] v Q := by
  unfold wp_X10_needWithin_10 at h
  refine gd_aload_n 0 dX10_needWithin_10 rfl rfl ?_
  refine gd_callVV (As := []) (rest := []) (dy := 8) (my := 1) (sy := 6) (k := 10) (i := 0) lX10_110 iX10_refuseUnfit sX10_refuseUnfit rfl dX10_needWithin_11 rfl rfl (gd_room (by omega) (by decide)) (by decide) (Nat.le_of_ble_eq_true rfl) h (fun v1 h => ?_)
  exact gd_vret dX10_needWithin_14 rfl h
def wp_X10_needWithin (g : ab_E) (d : Nat) (a1 : Int32) (a2 : Int32) (a3 : Int32) (v : gd_D) (Q : ab_O → gd_D → Prop) : Prop :=
  (((a1 : Int32) < a2) →
    wp_X10_needWithin_10 g d v Q) ∧
  ((¬ (a1 : Int32) < a2) →
    (((a1 : Int32) ≤ a3) →
      Q (Sum.inl none) v) ∧
    ((¬ (a1 : Int32) ≤ a3) →
      wp_X10_needWithin_10 g d v Q))
theorem w_X10_needWithin {g : ab_E} {d : Nat} {a1 : Int32} {a2 : Int32} {a3 : Int32} {v : gd_D} {Q : ab_O → gd_D → Prop} (hd : 9 ≤ d) (h : wp_X10_needWithin g d a1 a2 a3 v Q) : gd_G g mX10_needWithin d 1 6 0 [(0, zR 10 0), (1, zI a1), (2, zI a2), (3, zI a3)] [] v Q := by
  unfold wp_X10_needWithin at h
  refine gd_iload_n 1 dX10_needWithin_0 rfl rfl ?_
  refine gd_iload_n 2 dX10_needWithin_1 rfl rfl ?_
  refine gd_icmp_lt (tgt := 10) dX10_needWithin_2 (by decide) (fun hc => ?_) (fun hc => ?_)
  · have h := h.1 hc
    refine gd_locals [0] rfl ?_
    exact w_X10_needWithin_10 (by omega) h
  · have h := h.2 hc
    refine gd_iload_n 1 dX10_needWithin_5 rfl rfl ?_
    refine gd_iload_n 3 dX10_needWithin_6 rfl rfl ?_
    refine gd_icmp_le (tgt := 14) dX10_needWithin_7 (by decide) (fun hc => ?_) (fun hc => ?_)
    · have h := h.1 hc
      exact gd_vret dX10_needWithin_14 rfl h
    · have h := h.2 hc
      refine gd_locals [0] rfl ?_
      exact w_X10_needWithin_10 (by omega) h
theorem c_X10_needWithin {g : ab_E} {d : Nat} {a1 : Int32} {a2 : Int32} {a3 : Int32} {v : gd_D} {Q : ab_O → gd_D → Prop} (hd : 9 ≤ d) (h : wp_X10_needWithin g d a1 a2 a3 v Q) : gd_C g mX10_needWithin d 1 6 [zR 10 0, zI a1, zI a2, zI a3] v Q := gd_enterF (plainFor_of_name (by decide)) (Nat.le_of_ble_eq_true rfl) rfl (w_X10_needWithin hd h)
def wp_X10_refuseMissing (g : ab_E) (d : Nat) (v : gd_D) (Q : ab_O → gd_D → Prop) : Prop :=
  vp_in 0 3 ∧
  vp_in 0 3 ∧
  ∀ v1 : gd_D, v1 = gd_sI v 38 0 ((0 : Int32).toNatClampNeg) ((v.1 38 0 (0 : Int32).toNatClampNeg) + 1) →
  Q (Sum.inr "java/util/NoSuchElementException") v1
theorem w_X10_refuseMissing {g : ab_E} {d : Nat} {v : gd_D} {Q : ab_O → gd_D → Prop} (hd : 6 ≤ d) (h : wp_X10_refuseMissing g d v Q) : gd_G g mX10_refuseMissing d 1 6 0 [(0, zR 10 0)] [] v Q := by
  unfold wp_X10_refuseMissing at h
  refine gd_aload_n 0 dX10_refuseMissing_0 rfl rfl ?_
  refine gd_getR (x := 0) (kr := 38) fX10_68 rfl rfl dX10_refuseMissing_1 rfl ?_
  refine gd_iconst (x9 := 0) dX10_refuseMissing_4 (by decide) ?_
  refine gd_dup2_11 dX10_refuseMissing_5 rfl rfl ?_
  obtain ⟨hb, h⟩ := h
  refine gd_iaload (n := 3) (by decide) rfl dX10_refuseMissing_6 rfl hb ?_
  refine gd_iconst (x9 := 1) dX10_refuseMissing_7 (by decide) ?_
  refine gd_iadd dX10_refuseMissing_8 ?_
  obtain ⟨hb, h⟩ := h
  refine gd_iastoren (n := 3) (by decide) rfl rfl dX10_refuseMissing_9 rfl hb (fun v1 ev1 => ?_)
  have h := h v1 ev1
  exact gd_throw (names := ["java/lang/RuntimeException", "java/lang/Exception"]) x10_refuseMissing_c x10_refuseMissing_n x10_refuseMissing_k x10_refuseMissing_i x10_refuseMissing_a x10_refuseMissing_b x10_refuseMissing_g dX10_refuseMissing_10 dX10_refuseMissing_13 dX10_refuseMissing_14 dX10_refuseMissing_17 (by show 6 ≤ d; omega) (by decide) h
theorem c_X10_refuseMissing {g : ab_E} {d : Nat} {v : gd_D} {Q : ab_O → gd_D → Prop} (hd : 6 ≤ d) (h : wp_X10_refuseMissing g d v Q) : gd_C g mX10_refuseMissing d 1 6 [zR 10 0] v Q := gd_enterF (plainFor_of_name (by decide)) (Nat.le_of_ble_eq_true rfl) rfl (w_X10_refuseMissing hd h)
def wp_X10_refuseUnfit (g : ab_E) (d : Nat) (v : gd_D) (Q : ab_O → gd_D → Prop) : Prop :=
  vp_in 1 3 ∧
  vp_in 1 3 ∧
  ∀ v1 : gd_D, v1 = gd_sI v 38 0 ((1 : Int32).toNatClampNeg) ((v.1 38 0 (1 : Int32).toNatClampNeg) + 1) →
  Q (Sum.inr "java/lang/IllegalArgumentException") v1
theorem w_X10_refuseUnfit {g : ab_E} {d : Nat} {v : gd_D} {Q : ab_O → gd_D → Prop} (hd : 6 ≤ d) (h : wp_X10_refuseUnfit g d v Q) : gd_G g mX10_refuseUnfit d 1 6 0 [(0, zR 10 0)] [] v Q := by
  unfold wp_X10_refuseUnfit at h
  refine gd_aload_n 0 dX10_refuseUnfit_0 rfl rfl ?_
  refine gd_getR (x := 0) (kr := 38) fX10_68 rfl rfl dX10_refuseUnfit_1 rfl ?_
  refine gd_iconst (x9 := 1) dX10_refuseUnfit_4 (by decide) ?_
  refine gd_dup2_11 dX10_refuseUnfit_5 rfl rfl ?_
  obtain ⟨hb, h⟩ := h
  refine gd_iaload (n := 3) (by decide) rfl dX10_refuseUnfit_6 rfl hb ?_
  refine gd_iconst (x9 := 1) dX10_refuseUnfit_7 (by decide) ?_
  refine gd_iadd dX10_refuseUnfit_8 ?_
  obtain ⟨hb, h⟩ := h
  refine gd_iastoren (n := 3) (by decide) rfl rfl dX10_refuseUnfit_9 rfl hb (fun v1 ev1 => ?_)
  have h := h v1 ev1
  exact gd_throw (names := ["java/lang/RuntimeException", "java/lang/Exception"]) x10_refuseUnfit_c x10_refuseUnfit_n x10_refuseUnfit_k x10_refuseUnfit_i x10_refuseUnfit_a x10_refuseUnfit_b x10_refuseUnfit_g dX10_refuseUnfit_10 dX10_refuseUnfit_13 dX10_refuseUnfit_14 dX10_refuseUnfit_17 (by show 6 ≤ d; omega) (by decide) h
theorem c_X10_refuseUnfit {g : ab_E} {d : Nat} {v : gd_D} {Q : ab_O → gd_D → Prop} (hd : 6 ≤ d) (h : wp_X10_refuseUnfit g d v Q) : gd_C g mX10_refuseUnfit d 1 6 [zR 10 0] v Q := gd_enterF (plainFor_of_name (by decide)) (Nat.le_of_ble_eq_true rfl) rfl (w_X10_refuseUnfit hd h)
def wp_X10_refuseUntimely (g : ab_E) (d : Nat) (v : gd_D) (Q : ab_O → gd_D → Prop) : Prop :=
  vp_in 2 3 ∧
  vp_in 2 3 ∧
  ∀ v1 : gd_D, v1 = gd_sI v 38 0 ((2 : Int32).toNatClampNeg) ((v.1 38 0 (2 : Int32).toNatClampNeg) + 1) →
  Q (Sum.inr "java/lang/IllegalStateException") v1
theorem w_X10_refuseUntimely {g : ab_E} {d : Nat} {v : gd_D} {Q : ab_O → gd_D → Prop} (hd : 6 ≤ d) (h : wp_X10_refuseUntimely g d v Q) : gd_G g mX10_refuseUntimely d 1 6 0 [(0, zR 10 0)] [] v Q := by
  unfold wp_X10_refuseUntimely at h
  refine gd_aload_n 0 dX10_refuseUntimely_0 rfl rfl ?_
  refine gd_getR (x := 0) (kr := 38) fX10_68 rfl rfl dX10_refuseUntimely_1 rfl ?_
  refine gd_iconst (x9 := 2) dX10_refuseUntimely_4 (by decide) ?_
  refine gd_dup2_11 dX10_refuseUntimely_5 rfl rfl ?_
  obtain ⟨hb, h⟩ := h
  refine gd_iaload (n := 3) (by decide) rfl dX10_refuseUntimely_6 rfl hb ?_
  refine gd_iconst (x9 := 1) dX10_refuseUntimely_7 (by decide) ?_
  refine gd_iadd dX10_refuseUntimely_8 ?_
  obtain ⟨hb, h⟩ := h
  refine gd_iastoren (n := 3) (by decide) rfl rfl dX10_refuseUntimely_9 rfl hb (fun v1 ev1 => ?_)
  have h := h v1 ev1
  exact gd_throw (names := ["java/lang/RuntimeException", "java/lang/Exception"]) x10_refuseUntimely_c x10_refuseUntimely_n x10_refuseUntimely_k x10_refuseUntimely_i x10_refuseUntimely_a x10_refuseUntimely_b x10_refuseUntimely_g dX10_refuseUntimely_10 dX10_refuseUntimely_13 dX10_refuseUntimely_14 dX10_refuseUntimely_17 (by show 6 ≤ d; omega) (by decide) h
theorem c_X10_refuseUntimely {g : ab_E} {d : Nat} {v : gd_D} {Q : ab_O → gd_D → Prop} (hd : 6 ≤ d) (h : wp_X10_refuseUntimely g d v Q) : gd_C g mX10_refuseUntimely d 1 6 [zR 10 0] v Q := gd_enterF (plainFor_of_name (by decide)) (Nat.le_of_ble_eq_true rfl) rfl (w_X10_refuseUntimely hd h)
def wp_X10_bitsOf (g : ab_E) (d : Nat) (a0 : UInt64) (v : gd_D) (Q : ab_O → gd_D → Prop) : Prop :=
  gd_G g mX10_bitsOf d 0 0 8 [(2, zD a0), (4, zI 0), (5, zI 0)] [] v Q
theorem w_X10_bitsOf {g : ab_E} {d : Nat} {a0 : UInt64} {v : gd_D} {Q : ab_O → gd_D → Prop} (hd : 0 ≤ d) (h : wp_X10_bitsOf g d a0 v Q) : gd_G g mX10_bitsOf d 0 0 0 [(0, zD a0)] [] v Q := by
  unfold wp_X10_bitsOf at h
  refine gd_dload_n 0 dX10_bitsOf_0 rfl rfl ?_
  refine gd_dstore_n (L' := [(2, zD a0), (0, zD a0)]) dX10_bitsOf_1 rfl (by decide) rfl ?_
  refine gd_iconst (x9 := 0) dX10_bitsOf_2 (by decide) ?_
  refine gd_istore (L' := [(4, zI 0), (2, zD a0), (0, zD a0)]) dX10_bitsOf_3 (by decide) rfl ?_
  refine gd_iconst (x9 := 0) dX10_bitsOf_5 (by decide) ?_
  refine gd_istore (L' := [(5, zI 0), (4, zI 0), (2, zD a0), (0, zD a0)]) dX10_bitsOf_6 (by decide) rfl ?_
  refine gd_locals [2, 1, 0] rfl ?_
  exact h
def wp_X10_bitsOf_38 (g : ab_E) (d : Nat) (a2 : UInt64) (a4 : Int32) (v : gd_D) (Q : ab_O → gd_D → Prop) : Prop :=
  vf_n64 (FP.dmul a2 (FP.l2d 4503599627370496)) ∧
  ∀ y1 : Int64, y1 = (FP.d2l (FP.dmul a2 (FP.l2d 4503599627370496))) - 4503599627370496 →
  ∀ y2 : Int64, y2 = ((a4 + 1023 : Int32).toInt64) <<< ((52).toInt64 &&& 63) →
  Q (Sum.inl (some (zJ (y2 + y1)))) v
theorem w_X10_bitsOf_38 {g : ab_E} {d : Nat} {a2 : UInt64} {a4 : Int32} {v : gd_D} {Q : ab_O → gd_D → Prop} (hd : 0 ≤ d) (h : wp_X10_bitsOf_38 g d a2 a4 v Q) : gd_G g mX10_bitsOf d 0 0 38 [(2, zD a2), (4, zI a4)] [] v Q := by
  unfold wp_X10_bitsOf_38 at h
  refine gd_ldc2 kX10_319 dX10_bitsOf_38 ?_
  refine gd_lstore (L' := [(5, zJ 4503599627370496), (2, zD a2), (4, zI a4)]) dX10_bitsOf_41 (by decide) rfl ?_
  refine gd_dload_n 1 dX10_bitsOf_43 rfl rfl ?_
  refine gd_lload 0 dX10_bitsOf_44 rfl ?_
  refine gd_l2d dX10_bitsOf_46 ?_
  obtain ⟨hg, h⟩ := h
  refine gd_dmul dX10_bitsOf_47 hg ?_
  refine gd_d2l dX10_bitsOf_48 ?_
  refine gd_lload 0 dX10_bitsOf_49 rfl ?_
  refine gd_lsub dX10_bitsOf_51 ?_
  refine gd_nmJ (fun y1 ey1 => ?_)
  have h := h y1 ey1
  refine gd_lstore (L' := [(7, zJ y1), (5, zJ 4503599627370496), (2, zD a2), (4, zI a4)]) dX10_bitsOf_52 (by decide) rfl ?_
  refine gd_iload 3 dX10_bitsOf_54 rfl ?_
  refine gd_sipush (x9 := 1023) dX10_bitsOf_56 (by decide) ?_
  refine gd_iadd dX10_bitsOf_59 ?_
  refine gd_i2l dX10_bitsOf_60 ?_
  refine gd_bipush (x9 := 52) dX10_bitsOf_61 (by decide) ?_
  refine gd_lshl dX10_bitsOf_63 ?_
  refine gd_nmJ (fun y2 ey2 => ?_)
  have h := h y2 ey2
  refine gd_lload 0 dX10_bitsOf_64 rfl ?_
  refine gd_ladd dX10_bitsOf_66 ?_
  exact gd_lret dX10_bitsOf_67 rfl h
def wp_X10_bitsOf_8 (g : ab_E) (d : Nat) (a2 : UInt64) (a4 : Int32) (a5 : Int32) (v : gd_D) (Q : ab_O → gd_D → Prop) : Prop :=
  (((64 : Int32) ≤ a5) →
    wp_X10_bitsOf_38 g d a2 a4 v Q) ∧
  ((¬ (64 : Int32) ≤ a5) →
    ∀ x1 : Int32, x1 = Op.cmpValue (FP.dcmp a2 (4611686018427387904 : UInt64)) .l →
    (((x1 : Int32) < 0) →
      wp_X10_bitsOf_38 g d a2 a4 v Q) ∧
    ((¬ (x1 : Int32) < 0) →
      vf_n64 (FP.ddiv a2 (4611686018427387904 : UInt64)) ∧
      gd_G g mX10_bitsOf d 0 0 8 [(2, zD (FP.ddiv a2 (4611686018427387904 : UInt64))), (4, zI (a4 + 1)), (5, zI (a5 + 1))] [] v Q))
theorem w_X10_bitsOf_8 {g : ab_E} {d : Nat} {a2 : UInt64} {a4 : Int32} {a5 : Int32} {v : gd_D} {Q : ab_O → gd_D → Prop} (hd : 0 ≤ d) (h : wp_X10_bitsOf_8 g d a2 a4 a5 v Q) : gd_G g mX10_bitsOf d 0 0 8 [(2, zD a2), (4, zI a4), (5, zI a5)] [] v Q := by
  unfold wp_X10_bitsOf_8 at h
  refine gd_iload 2 dX10_bitsOf_8 rfl ?_
  refine gd_bipush (x9 := 64) dX10_bitsOf_10 (by decide) ?_
  refine gd_icmp_ge (tgt := 38) dX10_bitsOf_12 (by decide) (fun hc => ?_) (fun hc => ?_)
  · have h := h.1 hc
    refine gd_locals [0, 1] rfl ?_
    exact w_X10_bitsOf_38 (by omega) h
  · have h := h.2 hc
    refine gd_dload_n 0 dX10_bitsOf_15 rfl rfl ?_
    refine gd_ldc2d kX10_317 dX10_bitsOf_16 ?_
    refine gd_dcmp dX10_bitsOf_19 ?_
    refine gd_nmI (fun x1 ex1 => ?_)
    have h := h x1 ex1
    refine gd_if_lt (tgt := 38) dX10_bitsOf_20 (by decide) (fun hc => ?_) (fun hc => ?_)
    · have h := h.1 hc
      refine gd_locals [0, 1] rfl ?_
      exact w_X10_bitsOf_38 (by omega) h
    · have h := h.2 hc
      refine gd_dload_n 0 dX10_bitsOf_23 rfl rfl ?_
      refine gd_ldc2d kX10_317 dX10_bitsOf_24 ?_
      obtain ⟨hg, h⟩ := h
      refine gd_ddiv dX10_bitsOf_27 hg ?_
      refine gd_dstore_n (L' := [(2, zD (FP.ddiv a2 (4611686018427387904 : UInt64))), (4, zI a4), (5, zI a5)]) dX10_bitsOf_28 rfl (by decide) rfl ?_
      refine gd_iinc (x9 := a4 + 1) (L' := [(4, zI (a4 + 1)), (2, zD (FP.ddiv a2 (4611686018427387904 : UInt64))), (5, zI a5)]) 1 dX10_bitsOf_29 rfl rfl (by decide) rfl ?_
      refine gd_iinc (x9 := a5 + 1) (L' := [(5, zI (a5 + 1)), (4, zI (a4 + 1)), (2, zD (FP.ddiv a2 (4611686018427387904 : UInt64)))]) 2 dX10_bitsOf_32 rfl rfl (by decide) rfl ?_
      refine gd_goto (tgt := 8) dX10_bitsOf_35 (by decide) ?_
      refine gd_locals [2, 1, 0] rfl ?_
      exact h
theorem c_X10_bitsOf {g : ab_E} {d : Nat} {a0 : UInt64} {v : gd_D} {Q : ab_O → gd_D → Prop} (hd : 0 ≤ d) (h : wp_X10_bitsOf g d a0 v Q) : gd_C g mX10_bitsOf d 0 0 [zD a0] v Q := gd_enterF (plainFor_of_name (by decide)) (Nat.le_of_ble_eq_true rfl) rfl (w_X10_bitsOf hd h)
