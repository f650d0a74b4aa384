def wp_X11_buyin (g : ab_E) (d : Nat) (a1 : Int32) (a2 : Int32) (v : gd_D) (Q : ab_O → gd_D → Prop) : Prop :=
  ∀ v1 : gd_D, v1 = gd_sI v 11 0 0 0 →
  gd_C g mX11_isSale 3 0 0 [zR 11 0, zI a1] v1 (gd_rI (fun (r3 : Int32) v2 =>
    gd_C g mX11_isFine 2 0 0 [zR 11 0, zI r3, zI 1, zI 0] v2 (gd_rI (fun (r5 : Int32) v4 =>
      (((r5 : Int32) = 0) →
        Q (Sum.inl (some (zI 0))) v4) ∧
      ((¬ (r5 : Int32) = 0) →
        gd_C g mX11_isAsked 3 0 0 [zR 11 0, zI a1] v4 (gd_rI (fun (r7 : Int32) v6 =>
          gd_C g mX11_isFine 2 0 0 [zR 11 0, zI r7, zI 2, zI 2] v6 (gd_rI (fun (r9 : Int32) v8 =>
            (((r9 : Int32) = 0) →
              Q (Sum.inl (some (zI 0))) v8) ∧
            ((¬ (r9 : Int32) = 0) →
              gd_C g mX11_of0 2 0 0 [zR 11 0, zI a1, zI 5] v8 (gd_rI (fun (r11 : Int32) v10 =>
                gd_C g mX11_lies 2 0 0 [zJ ((a2 : Int32).toInt64), zJ 1, zJ ((r11 : Int32).toInt64)] v10 (gd_rI (fun (r13 : Int32) v12 =>
                  gd_C g mX11_isFine 2 0 0 [zR 11 0, zI r13, zI 3, zI 1] v12 (gd_rI (fun (r15 : Int32) v14 =>
                    ((¬ (r15 : Int32) = 0) →
                      gd_C g mX11_keeps 2 0 0 [zR 11 0] v14 (gd_rV (fun v16 =>
                        gd_C g mX11_orders 5 0 0 [zR 11 0] v16 (gd_rV (fun v18 =>
                          gd_C g mX11_buysIn 41 0 0 [zR 11 0, zI a1, zI a2] v18 (gd_rV (fun v20 =>
                            gd_C g mX11_of0 2 0 0 [zR 11 0, zI a1, zI 5] v20 (gd_rI (fun (r23 : Int32) v22 =>
                              Q (Sum.inl (some (zI r23))) v22) (fun E v9 => Q (Sum.inr E) v9))) (fun E v9 => Q (Sum.inr E) v9))) (fun E v9 => Q (Sum.inr E) v9))) (fun E v9 => Q (Sum.inr E) v9))) ∧
                    (((r15 : Int32) = 0) →
                      Q (Sum.inl (some (zI 0))) v14)) (fun E v9 => Q (Sum.inr E) v9))) (fun E v9 => Q (Sum.inr E) v9))) (fun E v9 => Q (Sum.inr E) v9)))) (fun E v9 => Q (Sum.inr E) v9))) (fun E v9 => Q (Sum.inr E) v9)))) (fun E v9 => Q (Sum.inr E) v9))) (fun E v9 => Q (Sum.inr E) v9))
theorem w_X11_buyin {g : ab_E} {d : Nat} {a1 : Int32} {a2 : Int32} {v : gd_D} {Q : ab_O → gd_D → Prop} (hd : 42 ≤ d) (h : wp_X11_buyin g d a1 a2 v Q) : gd_G g mX11_buyin d 0 0 0 [(0, zR 11 0), (1, zI a1), (2, zI a2)] [] v Q := by
  unfold wp_X11_buyin at h
  refine gd_aload_n 0 dX11_buyin_0 rfl rfl ?_
  refine gd_iconst (x9 := 0) dX11_buyin_1 (by decide) ?_
  refine gd_putIn fX11_1 rfl rfl dX11_buyin_2 (fun v1 ev1 => ?_)
  have h := h v1 ev1
  refine gd_aload_n 0 dX11_buyin_5 rfl rfl ?_
  refine gd_aload_n 0 dX11_buyin_6 rfl rfl ?_
  refine gd_iload_n 1 dX11_buyin_7 rfl rfl ?_
  refine gd_callVI (As := [zI a1]) (rest := [zR 11 0]) (dy := 3) (my := 0) (sy := 0) (k := 11) (i := 0) lX11_378 iX11_isSale sX11_isSale rfl dX11_buyin_8 rfl rfl (gd_room (by omega) (by decide)) (by decide) (Nat.le_of_ble_eq_true rfl) h (fun r3 v2 h => ?_)
  refine gd_iconst (x9 := 1) dX11_buyin_11 (by decide) ?_
  refine gd_iconst (x9 := 0) dX11_buyin_12 (by decide) ?_
  refine gd_callVI (As := [zI r3, zI 1, zI 0]) (rest := []) (dy := 2) (my := 0) (sy := 0) (k := 11) (i := 0) lX11_264 iX11_isFine sX11_isFine rfl dX11_buyin_13 rfl rfl (gd_room (by omega) (by decide)) (by decide) (Nat.le_of_ble_eq_true rfl) h (fun r5 v4 h => ?_)
  refine gd_if_eq (tgt := 55) dX11_buyin_16 (by decide) (fun hc => ?_) (fun hc => ?_)
  · have h := h.1 hc
    refine gd_iconst (x9 := 0) dX11_buyin_55 (by decide) ?_
    exact gd_iret (ty := .int) dX11_buyin_56 rfl rfl h
  · have h := h.2 hc
    refine gd_aload_n 0 dX11_buyin_19 rfl rfl ?_
    refine gd_aload_n 0 dX11_buyin_20 rfl rfl ?_
    refine gd_iload_n 1 dX11_buyin_21 rfl rfl ?_
    refine gd_callVI (As := [zI a1]) (rest := [zR 11 0]) (dy := 3) (my := 0) (sy := 0) (k := 11) (i := 0) lX11_305 iX11_isAsked sX11_isAsked rfl dX11_buyin_22 rfl rfl (gd_room (by omega) (by decide)) (by decide) (Nat.le_of_ble_eq_true rfl) h (fun r7 v6 h => ?_)
    refine gd_iconst (x9 := 2) dX11_buyin_25 (by decide) ?_
    refine gd_iconst (x9 := 2) dX11_buyin_26 (by decide) ?_
    refine gd_callVI (As := [zI r7, zI 2, zI 2]) (rest := []) (dy := 2) (my := 0) (sy := 0) (k := 11) (i := 0) lX11_264 iX11_isFine sX11_isFine rfl dX11_buyin_27 rfl rfl (gd_room (by omega) (by decide)) (by decide) (Nat.le_of_ble_eq_true rfl) h (fun r9 v8 h => ?_)
    refine gd_if_eq (tgt := 55) dX11_buyin_30 (by decide) (fun hc => ?_) (fun hc => ?_)
    · have h := h.1 hc
      refine gd_iconst (x9 := 0) dX11_buyin_55 (by decide) ?_
      exact gd_iret (ty := .int) dX11_buyin_56 rfl rfl h
    · have h := h.2 hc
      refine gd_aload_n 0 dX11_buyin_33 rfl rfl ?_
      refine gd_iload_n 2 dX11_buyin_34 rfl rfl ?_
      refine gd_i2l dX11_buyin_35 ?_
      refine gd_lconst (x9 := 1) dX11_buyin_36 (by decide) ?_
      refine gd_aload_n 0 dX11_buyin_37 rfl rfl ?_
      refine gd_iload_n 1 dX11_buyin_38 rfl rfl ?_
      refine gd_iconst (x9 := 5) dX11_buyin_39 (by decide) ?_
      refine gd_callVI (As := [zI a1, zI 5]) (rest := [zJ 1, zJ ((a2 : Int32).toInt64), zR 11 0]) (dy := 2) (my := 0) (sy := 0) (k := 11) (i := 0) lX11_289 iX11_of0 sX11_of0 rfl dX11_buyin_40 rfl rfl (gd_room (by omega) (by decide)) (by decide) (Nat.le_of_ble_eq_true rfl) h (fun r11 v10 h => ?_)
      refine gd_i2l dX11_buyin_43 ?_
      refine gd_callSI (As := [zJ ((a2 : Int32).toInt64), zJ 1, zJ ((r11 : Int32).toInt64)]) (rest := [zR 11 0]) (dy := 2) (my := 0) (sy := 0) lX11_164 tX11_lies dX11_buyin_44 rfl rfl (gd_room (by omega) (by decide)) (by decide) (Nat.le_of_ble_eq_true rfl) h (fun r13 v12 h => ?_)
      refine gd_iconst (x9 := 3) dX11_buyin_47 (by decide) ?_
      refine gd_iconst (x9 := 1) dX11_buyin_48 (by decide) ?_
      refine gd_callVI (As := [zI r13, zI 3, zI 1]) (rest := []) (dy := 2) (my := 0) (sy := 0) (k := 11) (i := 0) lX11_264 iX11_isFine sX11_isFine rfl dX11_buyin_49 rfl rfl (gd_room (by omega) (by decide)) (by decide) (Nat.le_of_ble_eq_true rfl) h (fun r15 v14 h => ?_)
      refine gd_if_ne (tgt := 57) dX11_buyin_52 (by decide) (fun hc => ?_) (fun hc => ?_)
      · have h := h.1 hc
        refine gd_aload_n 0 dX11_buyin_57 rfl rfl ?_
        refine gd_callVV (As := []) (rest := []) (dy := 2) (my := 0) (sy := 0) (k := 11) (i := 0) lX11_275 iX11_keeps sX11_keeps rfl dX11_buyin_58 rfl rfl (gd_room (by omega) (by decide)) (by decide) (Nat.le_of_ble_eq_true rfl) h (fun v16 h => ?_)
        refine gd_aload_n 0 dX11_buyin_61 rfl rfl ?_
        refine gd_callVV (As := []) (rest := []) (dy := 5) (my := 0) (sy := 0) (k := 11) (i := 0) lX11_345 iX11_orders sX11_orders rfl dX11_buyin_62 rfl rfl (gd_room (by omega) (by decide)) (by decide) (Nat.le_of_ble_eq_true rfl) h (fun v18 h => ?_)
        refine gd_aload_n 0 dX11_buyin_65 rfl rfl ?_
        refine gd_iload_n 1 dX11_buyin_66 rfl rfl ?_
        refine gd_iload_n 2 dX11_buyin_67 rfl rfl ?_
        refine gd_callVV (As := [zI a1, zI a2]) (rest := []) (dy := 41) (my := 0) (sy := 0) (k := 11) (i := 0) lX11_370 iX11_buysIn sX11_buysIn rfl dX11_buyin_68 rfl rfl (gd_room (by omega) (by decide)) (by decide) (Nat.le_of_ble_eq_true rfl) h (fun v20 h => ?_)
        refine gd_aload_n 0 dX11_buyin_71 rfl rfl ?_
        refine gd_iload_n 1 dX11_buyin_72 rfl rfl ?_
        refine gd_iconst (x9 := 5) dX11_buyin_73 (by decide) ?_
        refine gd_callVI (As := [zI a1, zI 5]) (rest := []) (dy := 2) (my := 0) (sy := 0) (k := 11) (i := 0) lX11_289 iX11_of0 sX11_of0 rfl dX11_buyin_74 rfl rfl (gd_room (by omega) (by decide)) (by decide) (Nat.le_of_ble_eq_true rfl) h (fun r23 v22 h => ?_)
        exact gd_iret (ty := .int) dX11_buyin_77 rfl rfl h
      · have h := h.2 hc
        refine gd_iconst (x9 := 0) dX11_buyin_55 (by decide) ?_
        exact gd_iret (ty := .int) dX11_buyin_56 rfl rfl h
theorem c_X11_buyin {g : ab_E} {d : Nat} {a1 : Int32} {a2 : Int32} {v : gd_D} {Q : ab_O → gd_D → Prop} (hd : 42 ≤ d) (h : wp_X11_buyin g d a1 a2 v Q) : gd_C g mX11_buyin d 0 0 [zR 11 0, zI a1, zI a2] v Q := gd_enterF (plainFor_of_name (by decide)) (Nat.le_of_ble_eq_true rfl) rfl (w_X11_buyin hd h)
def wp_X11_putsAside (g : ab_E) (d : Nat) (v : gd_D) (Q : ab_O → gd_D → Prop) : Prop :=
  gd_G g mX11_putsAside d 0 0 2 [(0, zR 11 0), (1, zI 0)] [] v Q
theorem w_X11_putsAside {g : ab_E} {d : Nat} {v : gd_D} {Q : ab_O → gd_D → Prop} (hd : 0 ≤ d) (h : wp_X11_putsAside g d v Q) : gd_G g mX11_putsAside d 0 0 0 [(0, zR 11 0)] [] v Q := by
  unfold wp_X11_putsAside at h
  refine gd_iconst (x9 := 0) dX11_putsAside_0 (by decide) ?_
  refine gd_istore_n (L' := [(1, zI 0), (0, zR 11 0)]) dX11_putsAside_1 rfl (by decide) rfl ?_
  refine gd_locals [1, 0] rfl ?_
  exact h
def wp_X11_putsAside_2 (g : ab_E) (d : Nat) (a1 : Int32) (v : gd_D) (Q : ab_O → gd_D → Prop) : Prop :=
  (((773 : Int32) ≤ a1) →
    Q (Sum.inl none) v) ∧
  ((¬ (773 : Int32) ≤ a1) →
    vp_in a1 773 ∧
    vp_in a1 773 ∧
    ∀ v1 : gd_D, v1 = gd_sJ v 42 0 ((a1 : Int32).toNatClampNeg) (v.2.1 40 0 (a1 : Int32).toNatClampNeg) →
    gd_G g mX11_putsAside d 0 0 2 [(0, zR 11 0), (1, zI (a1 + 1))] [] v1 Q)
theorem w_X11_putsAside_2 {g : ab_E} {d : Nat} {a1 : Int32} {v : gd_D} {Q : ab_O → gd_D → Prop} (hd : 0 ≤ d) (h : wp_X11_putsAside_2 g d a1 v Q) : gd_G g mX11_putsAside d 0 0 2 [(0, zR 11 0), (1, zI a1)] [] v Q := by
  unfold wp_X11_putsAside_2 at h
  refine gd_iload_n 1 dX11_putsAside_2 rfl rfl ?_
  refine gd_sipush (x9 := 773) dX11_putsAside_3 (by decide) ?_
  refine gd_icmp_ge (tgt := 27) dX11_putsAside_6 (by decide) (fun hc => ?_) (fun hc => ?_)
  · have h := h.1 hc
    exact gd_vret dX11_putsAside_27 rfl h
  · have h := h.2 hc
    refine gd_aload_n 0 dX11_putsAside_9 rfl rfl ?_
    refine gd_getR (x := 0) (kr := 42) fX11_24 rfl rfl dX11_putsAside_10 rfl ?_
    refine gd_iload_n 1 dX11_putsAside_13 rfl rfl ?_
    refine gd_aload_n 0 dX11_putsAside_14 rfl rfl ?_
    refine gd_getR (x := 0) (kr := 40) fX11_17 rfl rfl dX11_putsAside_15 rfl ?_
    refine gd_iload_n 1 dX11_putsAside_18 rfl rfl ?_
    obtain ⟨hb, h⟩ := h
    refine gd_laload (n := 773) (by decide) rfl dX11_putsAside_19 rfl hb ?_
    obtain ⟨hb, h⟩ := h
    refine gd_lastoren (n := 773) (by decide) rfl rfl dX11_putsAside_20 rfl hb (fun v1 ev1 => ?_)
    have h := h v1 ev1
    refine gd_iinc (x9 := a1 + 1) (L' := [(1, zI (a1 + 1)), (0, zR 11 0)]) 1 dX11_putsAside_21 rfl rfl (by decide) rfl ?_
    refine gd_goto (tgt := 2) dX11_putsAside_24 (by decide) ?_
    refine gd_locals [1, 0] rfl ?_
    exact h
theorem c_X11_putsAside {g : ab_E} {d : Nat} {v : gd_D} {Q : ab_O → gd_D → Prop} (hd : 0 ≤ d) (h : wp_X11_putsAside g d v Q) : gd_C g mX11_putsAside d 0 0 [zR 11 0] v Q := gd_enterF (plainFor_of_name (by decide)) (Nat.le_of_ble_eq_true rfl) rfl (w_X11_putsAside hd h)
def wp_X11_takesBack (g : ab_E) (d : Nat) (v : gd_D) (Q : ab_O → gd_D → Prop) : Prop :=
  gd_G g mX11_takesBack d 0 0 2 [(0, zR 11 0), (1, zI 0)] [] v Q
theorem w_X11_takesBack {g : ab_E} {d : Nat} {v : gd_D} {Q : ab_O → gd_D → Prop} (hd : 0 ≤ d) (h : wp_X11_takesBack g d v Q) : gd_G g mX11_takesBack d 0 0 0 [(0, zR 11 0)] [] v Q := by
  unfold wp_X11_takesBack at h
  refine gd_iconst (x9 := 0) dX11_takesBack_0 (by decide) ?_
  refine gd_istore_n (L' := [(1, zI 0), (0, zR 11 0)]) dX11_takesBack_1 rfl (by decide) rfl ?_
  refine gd_locals [1, 0] rfl ?_
  exact h
def wp_X11_takesBack_2 (g : ab_E) (d : Nat) (a1 : Int32) (v : gd_D) (Q : ab_O → gd_D → Prop) : Prop :=
  (((773 : Int32) ≤ a1) →
    Q (Sum.inl none) v) ∧
  ((¬ (773 : Int32) ≤ a1) →
    vp_in a1 773 ∧
    vp_in a1 773 ∧
    ∀ v1 : gd_D, v1 = gd_sJ v 40 0 ((a1 : Int32).toNatClampNeg) (v.2.1 42 0 (a1 : Int32).toNatClampNeg) →
    gd_G g mX11_takesBack d 0 0 2 [(0, zR 11 0), (1, zI (a1 + 1))] [] v1 Q)
theorem w_X11_takesBack_2 {g : ab_E} {d : Nat} {a1 : Int32} {v : gd_D} {Q : ab_O → gd_D → Prop} (hd : 0 ≤ d) (h : wp_X11_takesBack_2 g d a1 v Q) : gd_G g mX11_takesBack d 0 0 2 [(0, zR 11 0), (1, zI a1)] [] v Q := by
  unfold wp_X11_takesBack_2 at h
  refine gd_iload_n 1 dX11_takesBack_2 rfl rfl ?_
  refine gd_sipush (x9 := 773) dX11_takesBack_3 (by decide) ?_
  refine gd_icmp_ge (tgt := 27) dX11_takesBack_6 (by decide) (fun hc => ?_) (fun hc => ?_)
  · have h := h.1 hc
    exact gd_vret dX11_takesBack_27 rfl h
  · have h := h.2 hc
    refine gd_aload_n 0 dX11_takesBack_9 rfl rfl ?_
    refine gd_getR (x := 0) (kr := 40) fX11_17 rfl rfl dX11_takesBack_10 rfl ?_
    refine gd_iload_n 1 dX11_takesBack_13 rfl rfl ?_
    refine gd_aload_n 0 dX11_takesBack_14 rfl rfl ?_
    refine gd_getR (x := 0) (kr := 42) fX11_24 rfl rfl dX11_takesBack_15 rfl ?_
    refine gd_iload_n 1 dX11_takesBack_18 rfl rfl ?_
    obtain ⟨hb, h⟩ := h
    refine gd_laload (n := 773) (by decide) rfl dX11_takesBack_19 rfl hb ?_
    obtain ⟨hb, h⟩ := h
    refine gd_lastoren (n := 773) (by decide) rfl rfl dX11_takesBack_20 rfl hb (fun v1 ev1 => ?_)
    have h := h v1 ev1
    refine gd_iinc (x9 := a1 + 1) (L' := [(1, zI (a1 + 1)), (0, zR 11 0)]) 1 dX11_takesBack_21 rfl rfl (by decide) rfl ?_
    refine gd_goto (tgt := 2) dX11_takesBack_24 (by decide) ?_
    refine gd_locals [1, 0] rfl ?_
    exact h
theorem c_X11_takesBack {g : ab_E} {d : Nat} {v : gd_D} {Q : ab_O → gd_D → Prop} (hd : 0 ≤ d) (h : wp_X11_takesBack g d v Q) : gd_C g mX11_takesBack d 0 0 [zR 11 0] v Q := gd_enterF (plainFor_of_name (by decide)) (Nat.le_of_ble_eq_true rfl) rfl (w_X11_takesBack hd h)
def wp_X11_fails (g : ab_E) (d : Nat) (v : gd_D) (Q : ab_O → gd_D → Prop) : Prop :=
  gd_G g mX11_fails d 0 0 4 [(0, zR 11 0), (1, zI 0), (2, zI 0)] [] v Q
theorem w_X11_fails {g : ab_E} {d : Nat} {v : gd_D} {Q : ab_O → gd_D → Prop} (hd : 0 ≤ d) (h : wp_X11_fails g d v Q) : gd_G g mX11_fails d 0 0 0 [(0, zR 11 0)] [] v Q := by
  unfold wp_X11_fails at h
  refine gd_iconst (x9 := 0) dX11_fails_0 (by decide) ?_
  refine gd_istore_n (L' := [(1, zI 0), (0, zR 11 0)]) dX11_fails_1 rfl (by decide) rfl ?_
  refine gd_iconst (x9 := 0) dX11_fails_2 (by decide) ?_
  refine gd_istore_n (L' := [(2, zI 0), (1, zI 0), (0, zR 11 0)]) dX11_fails_3 rfl (by decide) rfl ?_
  refine gd_locals [2, 1, 0] rfl ?_
  exact h
def wp_X11_fails_26 (g : ab_E) (d : Nat) (a2 : Int32) (s0 : Int32) (s1 : Int32) (v : gd_D) (Q : ab_O → gd_D → Prop) : Prop :=
  gd_G g mX11_fails d 0 0 4 [(0, zR 11 0), (1, zI (s0 + s1)), (2, zI (a2 + 1))] [] v Q
theorem w_X11_fails_26 {g : ab_E} {d : Nat} {a2 : Int32} {s0 : Int32} {s1 : Int32} {v : gd_D} {Q : ab_O → gd_D → Prop} (hd : 0 ≤ d) (h : wp_X11_fails_26 g d a2 s0 s1 v Q) : gd_G g mX11_fails d 0 0 26 [(0, zR 11 0), (2, zI a2)] [zI s1, zI s0] v Q := by
  unfold wp_X11_fails_26 at h
  refine gd_iadd dX11_fails_26 ?_
  refine gd_istore_n (L' := [(1, zI (s0 + s1)), (0, zR 11 0), (2, zI a2)]) dX11_fails_27 rfl (by decide) rfl ?_
  refine gd_iinc (x9 := a2 + 1) (L' := [(2, zI (a2 + 1)), (1, zI (s0 + s1)), (0, zR 11 0)]) 2 dX11_fails_28 rfl rfl (by decide) rfl ?_
  refine gd_goto (tgt := 4) dX11_fails_31 (by decide) ?_
  refine gd_locals [2, 1, 0] rfl ?_
  exact h
def wp_X11_fails_4 (g : ab_E) (d : Nat) (a1 : Int32) (a2 : Int32) (v : gd_D) (Q : ab_O → gd_D → Prop) : Prop :=
  gd_C g mX11_sales 2 0 0 [zR 11 0] v (gd_rI (fun (r2 : Int32) v1 =>
    (((r2 : Int32) ≤ a2) →
      Q (Sum.inl (some (zI a1))) v1) ∧
    ((¬ (r2 : Int32) ≤ a2) →
      gd_C g mX11_isAsked 3 0 0 [zR 11 0, zI a2] v1 (gd_rI (fun (r4 : Int32) v3 =>
        (((r4 : Int32) = 0) →
          wp_X11_fails_26 g d a2 a1 0 v3 Q) ∧
        ((¬ (r4 : Int32) = 0) →
          wp_X11_fails_26 g d a2 a1 1 v3 Q)) (fun E v9 => Q (Sum.inr E) v9)))) (fun E v9 => Q (Sum.inr E) v9))
theorem w_X11_fails_4 {g : ab_E} {d : Nat} {a1 : Int32} {a2 : Int32} {v : gd_D} {Q : ab_O → gd_D → Prop} (hd : 4 ≤ d) (h : wp_X11_fails_4 g d a1 a2 v Q) : gd_G g mX11_fails d 0 0 4 [(0, zR 11 0), (1, zI a1), (2, zI a2)] [] v Q := by
  unfold wp_X11_fails_4 at h
  refine gd_iload_n 2 dX11_fails_4 rfl rfl ?_
  refine gd_aload_n 0 dX11_fails_5 rfl rfl ?_
  refine gd_callVI (As := []) (rest := [zI a2]) (dy := 2) (my := 0) (sy := 0) (k := 11) (i := 0) lX11_278 iX11_sales sX11_sales rfl dX11_fails_6 rfl rfl (gd_room (by omega) (by decide)) (by decide) (Nat.le_of_ble_eq_true rfl) h (fun r2 v1 h => ?_)
  refine gd_icmp_ge (tgt := 34) dX11_fails_9 (by decide) (fun hc => ?_) (fun hc => ?_)
  · have h := h.1 hc
    refine gd_iload_n 1 dX11_fails_34 rfl rfl ?_
    exact gd_iret (ty := .int) dX11_fails_35 rfl rfl h
  · have h := h.2 hc
    refine gd_iload_n 1 dX11_fails_12 rfl rfl ?_
    refine gd_aload_n 0 dX11_fails_13 rfl rfl ?_
    refine gd_iload_n 2 dX11_fails_14 rfl rfl ?_
    refine gd_callVI (As := [zI a2]) (rest := [zI a1]) (dy := 3) (my := 0) (sy := 0) (k := 11) (i := 0) lX11_305 iX11_isAsked sX11_isAsked rfl dX11_fails_15 rfl rfl (gd_room (by omega) (by decide)) (by decide) (Nat.le_of_ble_eq_true rfl) h (fun r4 v3 h => ?_)
    refine gd_if_eq (tgt := 25) dX11_fails_18 (by decide) (fun hc => ?_) (fun hc => ?_)
    · have h := h.1 hc
      refine gd_iconst (x9 := 0) dX11_fails_25 (by decide) ?_
      refine gd_locals [0, 2] rfl ?_
      exact w_X11_fails_26 (by omega) h
    · have h := h.2 hc
      refine gd_iconst (x9 := 1) dX11_fails_21 (by decide) ?_
      refine gd_goto (tgt := 26) dX11_fails_22 (by decide) ?_
      refine gd_locals [0, 2] rfl ?_
      exact w_X11_fails_26 (by omega) h
theorem c_X11_fails {g : ab_E} {d : Nat} {v : gd_D} {Q : ab_O → gd_D → Prop} (hd : 0 ≤ d) (h : wp_X11_fails g d v Q) : gd_C g mX11_fails d 0 0 [zR 11 0] v Q := gd_enterF (plainFor_of_name (by decide)) (Nat.le_of_ble_eq_true rfl) rfl (w_X11_fails hd h)
def wp_X11_unitsOf (g : ab_E) (d : Nat) (a1 : Int32) (a2 : Int32) (v : gd_D) (Q : ab_O → gd_D → Prop) : Prop :=
  gd_G g mX11_unitsOf d 0 0 5 [(0, zR 11 0), (1, zI a1), (2, zI a2), (3, zI 0), (4, zI 0)] [] v Q
theorem w_X11_unitsOf {g : ab_E} {d : Nat} {a1 : Int32} {a2 : Int32} {v : gd_D} {Q : ab_O → gd_D → Prop} (hd : 0 ≤ d) (h : wp_X11_unitsOf g d a1 a2 v Q) : gd_G g mX11_unitsOf d 0 0 0 [(0, zR 11 0), (1, zI a1), (2, zI a2)] [] v Q := by
  unfold wp_X11_unitsOf at h
  refine gd_iconst (x9 := 0) dX11_unitsOf_0 (by decide) ?_
  refine gd_istore_n (L' := [(3, zI 0), (0, zR 11 0), (1, zI a1), (2, zI a2)]) dX11_unitsOf_1 rfl (by decide) rfl ?_
  refine gd_iconst (x9 := 0) dX11_unitsOf_2 (by decide) ?_
  refine gd_istore (L' := [(4, zI 0), (3, zI 0), (0, zR 11 0), (1, zI a1), (2, zI a2)]) dX11_unitsOf_3 (by decide) rfl ?_
  refine gd_locals [2, 3, 4, 1, 0] rfl ?_
  exact h
def wp_X11_unitsOf_55 (g : ab_E) (d : Nat) (a1 : Int32) (a2 : Int32) (a3 : Int32) (a4 : Int32) (v : gd_D) (Q : ab_O → gd_D → Prop) : Prop :=
  gd_C g mX11_of0 2 0 0 [zR 11 0, zI a4, zI 5] v (gd_rI (fun (r2 : Int32) v1 =>
    gd_G g mX11_unitsOf d 0 0 5 [(0, zR 11 0), (1, zI a1), (2, zI a2), (3, zI (a3 + r2)), (4, zI (a4 + 1))] [] v1 Q) (fun E v9 => Q (Sum.inr E) v9))
theorem w_X11_unitsOf_55 {g : ab_E} {d : Nat} {a1 : Int32} {a2 : Int32} {a3 : Int32} {a4 : Int32} {v : gd_D} {Q : ab_O → gd_D → Prop} (hd : 3 ≤ d) (h : wp_X11_unitsOf_55 g d a1 a2 a3 a4 v Q) : gd_G g mX11_unitsOf d 0 0 55 [(0, zR 11 0), (1, zI a1), (2, zI a2), (3, zI a3), (4, zI a4)] [] v Q := by
  unfold wp_X11_unitsOf_55 at h
  refine gd_iload_n 3 dX11_unitsOf_55 rfl rfl ?_
  refine gd_aload_n 0 dX11_unitsOf_56 rfl rfl ?_
  refine gd_iload 4 dX11_unitsOf_57 rfl ?_
  refine gd_iconst (x9 := 5) dX11_unitsOf_59 (by decide) ?_
  refine gd_callVI (As := [zI a4, zI 5]) (rest := [zI a3]) (dy := 2) (my := 0) (sy := 0) (k := 11) (i := 0) lX11_289 iX11_of0 sX11_of0 rfl dX11_unitsOf_60 rfl rfl (gd_room (by omega) (by decide)) (by decide) (Nat.le_of_ble_eq_true rfl) h (fun r2 v1 h => ?_)
  refine gd_iadd dX11_unitsOf_63 ?_
  refine gd_istore_n (L' := [(3, zI (a3 + r2)), (0, zR 11 0), (1, zI a1), (2, zI a2), (4, zI a4)]) dX11_unitsOf_64 rfl (by decide) rfl ?_
  refine gd_iinc (x9 := a4 + 1) (L' := [(4, zI (a4 + 1)), (3, zI (a3 + r2)), (0, zR 11 0), (1, zI a1), (2, zI a2)]) 4 dX11_unitsOf_65 rfl rfl (by decide) rfl ?_
  refine gd_goto (tgt := 5) dX11_unitsOf_68 (by decide) ?_
  refine gd_locals [2, 3, 4, 1, 0] rfl ?_
  exact h
def wp_X11_unitsOf_39 (g : ab_E) (d : Nat) (a1 : Int32) (a2 : Int32) (a3 : Int32) (a4 : Int32) (v : gd_D) (Q : ab_O → gd_D → Prop) : Prop :=
  (((a2 : Int32) = (-1)) →
    wp_X11_unitsOf_55 g d a1 a2 a3 a4 v Q) ∧
  ((¬ (a2 : Int32) = (-1)) →
    gd_C g mX11_of0 2 0 0 [zR 11 0, zI a4, zI 1] v (gd_rI (fun (r2 : Int32) v1 =>
      ((¬ (r2 : Int32) = a2) →
        gd_G g mX11_unitsOf d 0 0 5 [(0, zR 11 0), (1, zI a1), (2, zI a2), (3, zI a3), (4, zI (a4 + 1))] [] v1 Q) ∧
      (((r2 : Int32) = a2) →
        wp_X11_unitsOf_55 g d a1 a2 a3 a4 v1 Q)) (fun E v9 => Q (Sum.inr E) v9)))
theorem w_X11_unitsOf_39 {g : ab_E} {d : Nat} {a1 : Int32} {a2 : Int32} {a3 : Int32} {a4 : Int32} {v : gd_D} {Q : ab_O → gd_D → Prop} (hd : 3 ≤ d) (h : wp_X11_unitsOf_39 g d a1 a2 a3 a4 v Q) : gd_G g mX11_unitsOf d 0 0 39 [(0, zR 11 0), (1, zI a1), (2, zI a2), (3, zI a3), (4, zI a4)] [] v Q := by
  unfold wp_X11_unitsOf_39 at h
  refine gd_iload_n 2 dX11_unitsOf_39 rfl rfl ?_
  refine gd_iconst (x9 := (-1)) dX11_unitsOf_40 (by decide) ?_
  refine gd_icmp_eq (tgt := 55) dX11_unitsOf_41 (by decide) (fun hc => ?_) (fun hc => ?_)
  · have h := h.1 hc
    exact w_X11_unitsOf_55 (by omega) h
  · have h := h.2 hc
    refine gd_aload_n 0 dX11_unitsOf_44 rfl rfl ?_
    refine gd_iload 4 dX11_unitsOf_45 rfl ?_
    refine gd_iconst (x9 := 1) dX11_unitsOf_47 (by decide) ?_
    refine gd_callVI (As := [zI a4, zI 1]) (rest := []) (dy := 2) (my := 0) (sy := 0) (k := 11) (i := 0) lX11_289 iX11_of0 sX11_of0 rfl dX11_unitsOf_48 rfl rfl (gd_room (by omega) (by decide)) (by decide) (Nat.le_of_ble_eq_true rfl) h (fun r2 v1 h => ?_)
    refine gd_iload_n 2 dX11_unitsOf_51 rfl rfl ?_
    refine gd_icmp_ne (tgt := 65) dX11_unitsOf_52 (by decide) (fun hc => ?_) (fun hc => ?_)
    · have h := h.1 hc
      refine gd_iinc (x9 := a4 + 1) (L' := [(4, zI (a4 + 1)), (0, zR 11 0), (1, zI a1), (2, zI a2), (3, zI a3)]) 4 dX11_unitsOf_65 rfl rfl (by decide) rfl ?_
      refine gd_goto (tgt := 5) dX11_unitsOf_68 (by decide) ?_
      refine gd_locals [1, 2, 3, 4, 0] rfl ?_
      exact h
    · have h := h.2 hc
      exact w_X11_unitsOf_55 (by omega) h
def wp_X11_unitsOf_5 (g : ab_E) (d : Nat) (a1 : Int32) (a2 : Int32) (a3 : Int32) (a4 : Int32) (v : gd_D) (Q : ab_O → gd_D → Prop) : Prop :=
  gd_C g mX11_sales 2 0 0 [zR 11 0] v (gd_rI (fun (r2 : Int32) v1 =>
    (((r2 : Int32) ≤ a4) →
      Q (Sum.inl (some (zI a3))) v1) ∧
    ((¬ (r2 : Int32) ≤ a4) →
      gd_C g mX11_isAsked 3 0 0 [zR 11 0, zI a4] v1 (gd_rI (fun (r4 : Int32) v3 =>
        (((r4 : Int32) = 0) →
          gd_G g mX11_unitsOf d 0 0 5 [(0, zR 11 0), (1, zI a1), (2, zI a2), (3, zI a3), (4, zI (a4 + 1))] [] v3 Q) ∧
        ((¬ (r4 : Int32) = 0) →
          (((a1 : Int32) = (-1)) →
            wp_X11_unitsOf_39 g d a1 a2 a3 a4 v3 Q) ∧
          ((¬ (a1 : Int32) = (-1)) →
            gd_C g mX11_of0 2 0 0 [zR 11 0, zI a4, zI 0] v3 (gd_rI (fun (r6 : Int32) v5 =>
              ((¬ (r6 : Int32) = a1) →
                gd_G g mX11_unitsOf d 0 0 5 [(0, zR 11 0), (1, zI a1), (2, zI a2), (3, zI a3), (4, zI (a4 + 1))] [] v5 Q) ∧
              (((r6 : Int32) = a1) →
                wp_X11_unitsOf_39 g d a1 a2 a3 a4 v5 Q)) (fun E v9 => Q (Sum.inr E) v9))))) (fun E v9 => Q (Sum.inr E) v9)))) (fun E v9 => Q (Sum.inr E) v9))
theorem w_X11_unitsOf_5 {g : ab_E} {d : Nat} {a1 : Int32} {a2 : Int32} {a3 : Int32} {a4 : Int32} {v : gd_D} {Q : ab_O → gd_D → Prop} (hd : 4 ≤ d) (h : wp_X11_unitsOf_5 g d a1 a2 a3 a4 v Q) : gd_G g mX11_unitsOf d 0 0 5 [(0, zR 11 0), (1, zI a1), (2, zI a2), (3, zI a3), (4, zI a4)] [] v Q := by
  unfold wp_X11_unitsOf_5 at h
  refine gd_iload 4 dX11_unitsOf_5 rfl ?_
  refine gd_aload_n 0 dX11_unitsOf_7 rfl rfl ?_
  refine gd_callVI (As := []) (rest := [zI a4]) (dy := 2) (my := 0) (sy := 0) (k := 11) (i := 0) lX11_278 iX11_sales sX11_sales rfl dX11_unitsOf_8 rfl rfl (gd_room (by omega) (by decide)) (by decide) (Nat.le_of_ble_eq_true rfl) h (fun r2 v1 h => ?_)
  refine gd_icmp_ge (tgt := 71) dX11_unitsOf_11 (by decide) (fun hc => ?_) (fun hc => ?_)
  · have h := h.1 hc
    refine gd_iload_n 3 dX11_unitsOf_71 rfl rfl ?_
    exact gd_iret (ty := .int) dX11_unitsOf_72 rfl rfl h
  · have h := h.2 hc
    refine gd_aload_n 0 dX11_unitsOf_14 rfl rfl ?_
    refine gd_iload 4 dX11_unitsOf_15 rfl ?_
    refine gd_callVI (As := [zI a4]) (rest := []) (dy := 3) (my := 0) (sy := 0) (k := 11) (i := 0) lX11_305 iX11_isAsked sX11_isAsked rfl dX11_unitsOf_17 rfl rfl (gd_room (by omega) (by decide)) (by decide) (Nat.le_of_ble_eq_true rfl) h (fun r4 v3 h => ?_)
    refine gd_if_eq (tgt := 65) dX11_unitsOf_20 (by decide) (fun hc => ?_) (fun hc => ?_)
    · have h := h.1 hc
      refine gd_iinc (x9 := a4 + 1) (L' := [(4, zI (a4 + 1)), (0, zR 11 0), (1, zI a1), (2, zI a2), (3, zI a3)]) 4 dX11_unitsOf_65 rfl rfl (by decide) rfl ?_
      refine gd_goto (tgt := 5) dX11_unitsOf_68 (by decide) ?_
      refine gd_locals [1, 2, 3, 4, 0] rfl ?_
      exact h
    · have h := h.2 hc
      refine gd_iload_n 1 dX11_unitsOf_23 rfl rfl ?_
      refine gd_iconst (x9 := (-1)) dX11_unitsOf_24 (by decide) ?_
      refine gd_icmp_eq (tgt := 39) dX11_unitsOf_25 (by decide) (fun hc => ?_) (fun hc => ?_)
      · have h := h.1 hc
        exact w_X11_unitsOf_39 (by omega) h
      · have h := h.2 hc
        refine gd_aload_n 0 dX11_unitsOf_28 rfl rfl ?_
        refine gd_iload 4 dX11_unitsOf_29 rfl ?_
        refine gd_iconst (x9 := 0) dX11_unitsOf_31 (by decide) ?_
        refine gd_callVI (As := [zI a4, zI 0]) (rest := []) (dy := 2) (my := 0) (sy := 0) (k := 11) (i := 0) lX11_289 iX11_of0 sX11_of0 rfl dX11_unitsOf_32 rfl rfl (gd_room (by omega) (by decide)) (by decide) (Nat.le_of_ble_eq_true rfl) h (fun r6 v5 h => ?_)
        refine gd_iload_n 1 dX11_unitsOf_35 rfl rfl ?_
        refine gd_icmp_ne (tgt := 65) dX11_unitsOf_36 (by decide) (fun hc => ?_) (fun hc => ?_)
        · have h := h.1 hc
          refine gd_iinc (x9 := a4 + 1) (L' := [(4, zI (a4 + 1)), (0, zR 11 0), (1, zI a1), (2, zI a2), (3, zI a3)]) 4 dX11_unitsOf_65 rfl rfl (by decide) rfl ?_
          refine gd_goto (tgt := 5) dX11_unitsOf_68 (by decide) ?_
          refine gd_locals [1, 2, 3, 4, 0] rfl ?_
          exact h
        · have h := h.2 hc
          exact w_X11_unitsOf_39 (by omega) h
theorem c_X11_unitsOf {g : ab_E} {d : Nat} {a1 : Int32} {a2 : Int32} {v : gd_D} {Q : ab_O → gd_D → Prop} (hd : 0 ≤ d) (h : wp_X11_unitsOf g d a1 a2 v Q) : gd_C g mX11_unitsOf d 0 0 [zR 11 0, zI a1, zI a2] v Q := gd_enterF (plainFor_of_name (by decide)) (Nat.le_of_ble_eq_true rfl) rfl (w_X11_unitsOf hd h)
def wp_X11_told (g : ab_E) (d : Nat) (a1 : Int32) (v : gd_D) (Q : ab_O → gd_D → Prop) : Prop :=
  ∀ v1 : gd_D, v1 = gd_sI v 11 0 0 0 →
  gd_C g mX11_lies 2 0 0 [zJ ((a1 : Int32).toInt64), zJ 0, zJ 10] v1 (gd_rI (fun (r3 : Int32) v2 =>
    gd_C g mX11_isFine 2 0 0 [zR 11 0, zI r3, zI 1, zI 1] v2 (gd_rI (fun (r5 : Int32) v4 =>
      ((¬ (r5 : Int32) = 0) →
        ((a1 : Int32) = 7 →
          gd_C g mX11_fails 4 0 0 [zR 11 0] v4 (gd_rI (fun (r7 : Int32) v6 =>
            Q (Sum.inl (some (zI r7))) v6) (fun E v9 => Q (Sum.inr E) v9))) ∧
        ((a1 : Int32) = 8 →
          gd_C g mX11_unitsOf 4 0 0 [zR 11 0, zI (-1), zI (-1)] v4 (gd_rI (fun (r9 : Int32) v8 =>
            Q (Sum.inl (some (zI r9))) v8) (fun E v9 => Q (Sum.inr E) v9))) ∧
        ((a1 : Int32) = 9 →
          Q (Sum.inl (some (zI (v4.1 11 0 9)))) v4) ∧
        ((a1 : Int32) = 10 →
          Q (Sum.inl (some (zI (v4.1 11 0 6)))) v4) ∧
        (((a1 : Int32).toInt < 7 ∨ 10 < (a1 : Int32).toInt) →
          vp_in a1 773 ∧
          ∀ x10 : Int32, x10 = (v4.2.1 40 0 (a1 : Int32).toNatClampNeg : Int64).toInt32 →
          Q (Sum.inl (some (zI x10))) v4)) ∧
      (((r5 : Int32) = 0) →
        Q (Sum.inl (some (zI 0))) v4)) (fun E v9 => Q (Sum.inr E) v9))) (fun E v9 => Q (Sum.inr E) v9))
theorem w_X11_told {g : ab_E} {d : Nat} {a1 : Int32} {v : gd_D} {Q : ab_O → gd_D → Prop} (hd : 5 ≤ d) (h : wp_X11_told g d a1 v Q) : gd_G g mX11_told d 0 0 0 [(0, zR 11 0), (1, zI a1)] [] v Q := by
  unfold wp_X11_told at h
  refine gd_aload_n 0 dX11_told_0 rfl rfl ?_
  refine gd_iconst (x9 := 0) dX11_told_1 (by decide) ?_
  refine gd_putIn fX11_1 rfl rfl dX11_told_2 (fun v1 ev1 => ?_)
  have h := h v1 ev1
  refine gd_aload_n 0 dX11_told_5 rfl rfl ?_
  refine gd_iload_n 1 dX11_told_6 rfl rfl ?_
  refine gd_i2l dX11_told_7 ?_
  refine gd_lconst (x9 := 0) dX11_told_8 (by decide) ?_
  refine gd_ldc2 kX11_152 dX11_told_9 ?_
  refine gd_callSI (As := [zJ ((a1 : Int32).toInt64), zJ 0, zJ 10]) (rest := [zR 11 0]) (dy := 2) (my := 0) (sy := 0) lX11_164 tX11_lies dX11_told_12 rfl rfl (gd_room (by omega) (by decide)) (by decide) (Nat.le_of_ble_eq_true rfl) h (fun r3 v2 h => ?_)
  refine gd_iconst (x9 := 1) dX11_told_15 (by decide) ?_
  refine gd_iconst (x9 := 1) dX11_told_16 (by decide) ?_
  refine gd_callVI (As := [zI r3, zI 1, zI 1]) (rest := []) (dy := 2) (my := 0) (sy := 0) (k := 11) (i := 0) lX11_264 iX11_isFine sX11_isFine rfl dX11_told_17 rfl rfl (gd_room (by omega) (by decide)) (by decide) (Nat.le_of_ble_eq_true rfl) h (fun r5 v4 h => ?_)
  refine gd_if_ne (tgt := 25) dX11_told_20 (by decide) (fun hc => ?_) (fun hc => ?_)
  · have h := h.1 hc
    refine gd_iload_n 1 dX11_told_25 rfl rfl ?_
    rcases sw_7_10 a1 with hc | hc | hc | hc | hc
    · refine gd_tableIn (off := 30) (tgt := 56) dX11_told_26 (by rw [hc]; decide) (by rw [hc]; decide) (by rw [hc]; decide) (by decide) ?_
      have h := h.1 hc
      refine gd_aload_n 0 dX11_told_56 rfl rfl ?_
      refine gd_callVI (As := []) (rest := []) (dy := 4) (my := 0) (sy := 0) (k := 11) (i := 0) lX11_381 iX11_fails sX11_fails rfl dX11_told_57 rfl rfl (gd_room (by omega) (by decide)) (by decide) (Nat.le_of_ble_eq_true rfl) h (fun r7 v6 h => ?_)
      exact gd_iret (ty := .int) dX11_told_60 rfl rfl h
    · refine gd_tableIn (off := 35) (tgt := 61) dX11_told_26 (by rw [hc]; decide) (by rw [hc]; decide) (by rw [hc]; decide) (by decide) ?_
      have h := h.2.1 hc
      refine gd_aload_n 0 dX11_told_61 rfl rfl ?_
      refine gd_iconst (x9 := (-1)) dX11_told_62 (by decide) ?_
      refine gd_iconst (x9 := (-1)) dX11_told_63 (by decide) ?_
      refine gd_callVI (As := [zI (-1), zI (-1)]) (rest := []) (dy := 4) (my := 0) (sy := 0) (k := 11) (i := 0) lX11_384 iX11_unitsOf sX11_unitsOf rfl dX11_told_64 rfl rfl (gd_room (by omega) (by decide)) (by decide) (Nat.le_of_ble_eq_true rfl) h (fun r9 v8 h => ?_)
      exact gd_iret (ty := .int) dX11_told_67 rfl rfl h
    · refine gd_tableIn (off := 42) (tgt := 68) dX11_told_26 (by rw [hc]; decide) (by rw [hc]; decide) (by rw [hc]; decide) (by decide) ?_
      have h := h.2.2.1 hc
      refine gd_aload_n 0 dX11_told_68 rfl rfl ?_
      refine gd_getI fX11_99 rfl dX11_told_69 ?_
      exact gd_iret (ty := .int) dX11_told_72 rfl rfl h
    · refine gd_tableIn (off := 47) (tgt := 73) dX11_told_26 (by rw [hc]; decide) (by rw [hc]; decide) (by rw [hc]; decide) (by decide) ?_
      have h := h.2.2.2.1 hc
      refine gd_aload_n 0 dX11_told_73 rfl rfl ?_
      refine gd_getI fX11_96 rfl dX11_told_74 ?_
      exact gd_iret (ty := .int) dX11_told_77 rfl rfl h
    · refine gd_tableOut (tgt := 78) dX11_told_26 hc (by decide) ?_
      have h := h.2.2.2.2 hc
      refine gd_aload_n 0 dX11_told_78 rfl rfl ?_
      refine gd_getR (x := 0) (kr := 40) fX11_17 rfl rfl dX11_told_79 rfl ?_
      refine gd_iload_n 1 dX11_told_82 rfl rfl ?_
      obtain ⟨hb, h⟩ := h
      refine gd_laload (n := 773) (by decide) rfl dX11_told_83 rfl hb ?_
      refine gd_l2i dX11_told_84 ?_
      refine gd_nmI (fun x10 ex10 => ?_)
      have h := h x10 ex10
      exact gd_iret (ty := .int) dX11_told_85 rfl rfl h
  · have h := h.2 hc
    refine gd_iconst (x9 := 0) dX11_told_23 (by decide) ?_
    exact gd_iret (ty := .int) dX11_told_24 rfl rfl h
theorem c_X11_told {g : ab_E} {d : Nat} {a1 : Int32} {v : gd_D} {Q : ab_O → gd_D → Prop} (hd : 5 ≤ d) (h : wp_X11_told g d a1 v Q) : gd_C g mX11_told d 0 0 [zR 11 0, zI a1] v Q := gd_enterF (plainFor_of_name (by decide)) (Nat.le_of_ble_eq_true rfl) rfl (w_X11_told hd h)
def wp_X11_faults (g : ab_E) (d : Nat) (a1 : Int32) (v : gd_D) (Q : ab_O → gd_D → Prop) : Prop :=
  gd_C g mX11_orders 5 0 0 [zR 11 0] v (gd_rV (fun v1 =>
    gd_C g mX11_laysParts 4 0 0 [zR 11 0] v1 (gd_rV (fun v3 =>
      gd_G g mX11_faults d 0 0 12 [(0, zR 11 0), (1, zI a1), (2, zI 0), (3, zI 0)] [] v3 Q) (fun E v9 => Q (Sum.inr E) v9))) (fun E v9 => Q (Sum.inr E) v9))
theorem w_X11_faults {g : ab_E} {d : Nat} {a1 : Int32} {v : gd_D} {Q : ab_O → gd_D → Prop} (hd : 6 ≤ d) (h : wp_X11_faults g d a1 v Q) : gd_G g mX11_faults d 0 0 0 [(0, zR 11 0), (1, zI a1)] [] v Q := by
  unfold wp_X11_faults at h
  refine gd_aload_n 0 dX11_faults_0 rfl rfl ?_
  refine gd_callVV (As := []) (rest := []) (dy := 5) (my := 0) (sy := 0) (k := 11) (i := 0) lX11_345 iX11_orders sX11_orders rfl dX11_faults_1 rfl rfl (gd_room (by omega) (by decide)) (by decide) (Nat.le_of_ble_eq_true rfl) h (fun v1 h => ?_)
  refine gd_aload_n 0 dX11_faults_4 rfl rfl ?_
  refine gd_callVV (As := []) (rest := []) (dy := 4) (my := 0) (sy := 0) (k := 11) (i := 0) lX11_338 iX11_laysParts sX11_laysParts rfl dX11_faults_5 rfl rfl (gd_room (by omega) (by decide)) (by decide) (Nat.le_of_ble_eq_true rfl) h (fun v3 h => ?_)
  refine gd_iconst (x9 := 0) dX11_faults_8 (by decide) ?_
  refine gd_istore_n (L' := [(2, zI 0), (0, zR 11 0), (1, zI a1)]) dX11_faults_9 rfl (by decide) rfl ?_
  refine gd_iconst (x9 := 0) dX11_faults_10 (by decide) ?_
  refine gd_istore_n (L' := [(3, zI 0), (2, zI 0), (0, zR 11 0), (1, zI a1)]) dX11_faults_11 rfl (by decide) rfl ?_
  refine gd_locals [2, 3, 1, 0] rfl ?_
  exact h
def wp_X11_faults_41 (g : ab_E) (d : Nat) (a1 : Int32) (a3 : Int32) (s0 : Int32) (s1 : Int32) (v : gd_D) (Q : ab_O → gd_D → Prop) : Prop :=
  gd_G g mX11_faults d 0 0 12 [(0, zR 11 0), (1, zI a1), (2, zI (s0 + s1)), (3, zI (a3 + 1))] [] v Q
theorem w_X11_faults_41 {g : ab_E} {d : Nat} {a1 : Int32} {a3 : Int32} {s0 : Int32} {s1 : Int32} {v : gd_D} {Q : ab_O → gd_D → Prop} (hd : 0 ≤ d) (h : wp_X11_faults_41 g d a1 a3 s0 s1 v Q) : gd_G g mX11_faults d 0 0 41 [(0, zR 11 0), (1, zI a1), (3, zI a3)] [zI s1, zI s0] v Q := by
  unfold wp_X11_faults_41 at h
  refine gd_iadd dX11_faults_41 ?_
  refine gd_istore_n (L' := [(2, zI (s0 + s1)), (0, zR 11 0), (1, zI a1), (3, zI a3)]) dX11_faults_42 rfl (by decide) rfl ?_
  refine gd_iinc (x9 := a3 + 1) (L' := [(3, zI (a3 + 1)), (2, zI (s0 + s1)), (0, zR 11 0), (1, zI a1)]) 3 dX11_faults_43 rfl rfl (by decide) rfl ?_
  refine gd_goto (tgt := 12) dX11_faults_46 (by decide) ?_
  refine gd_locals [2, 3, 1, 0] rfl ?_
  exact h
def wp_X11_faults_12 (g : ab_E) (d : Nat) (a1 : Int32) (a2 : Int32) (a3 : Int32) (v : gd_D) (Q : ab_O → gd_D → Prop) : Prop :=
  gd_C g mX11_sales 2 0 0 [zR 11 0] v (gd_rI (fun (r2 : Int32) v1 =>
    (((r2 : Int32) ≤ a3) →
      Q (Sum.inl (some (zI a2))) v1) ∧
    ((¬ (r2 : Int32) ≤ a3) →
      gd_C g mX11_of0 2 0 0 [zR 11 0, zI a3, zI 0] v1 (gd_rI (fun (r4 : Int32) v3 =>
        ((¬ (r4 : Int32) = a1) →
          wp_X11_faults_41 g d a1 a3 a2 0 v3 Q) ∧
        (((r4 : Int32) = a1) →
          vp_in a3 24 ∧
          wp_X11_faults_41 g d a1 a3 a2 (v3.1 53 0 (a3 : Int32).toNatClampNeg) v3 Q)) (fun E v9 => Q (Sum.inr E) v9)))) (fun E v9 => Q (Sum.inr E) v9))
theorem w_X11_faults_12 {g : ab_E} {d : Nat} {a1 : Int32} {a2 : Int32} {a3 : Int32} {v : gd_D} {Q : ab_O → gd_D → Prop} (hd : 3 ≤ d) (h : wp_X11_faults_12 g d a1 a2 a3 v Q) : gd_G g mX11_faults d 0 0 12 [(0, zR 11 0), (1, zI a1), (2, zI a2), (3, zI a3)] [] v Q := by
  unfold wp_X11_faults_12 at h
  refine gd_iload_n 3 dX11_faults_12 rfl rfl ?_
  refine gd_aload_n 0 dX11_faults_13 rfl rfl ?_
  refine gd_callVI (As := []) (rest := [zI a3]) (dy := 2) (my := 0) (sy := 0) (k := 11) (i := 0) lX11_278 iX11_sales sX11_sales rfl dX11_faults_14 rfl rfl (gd_room (by omega) (by decide)) (by decide) (Nat.le_of_ble_eq_true rfl) h (fun r2 v1 h => ?_)
  refine gd_icmp_ge (tgt := 49) dX11_faults_17 (by decide) (fun hc => ?_) (fun hc => ?_)
  · have h := h.1 hc
    refine gd_iload_n 2 dX11_faults_49 rfl rfl ?_
    exact gd_iret (ty := .int) dX11_faults_50 rfl rfl h
  · have h := h.2 hc
    refine gd_iload_n 2 dX11_faults_20 rfl rfl ?_
    refine gd_aload_n 0 dX11_faults_21 rfl rfl ?_
    refine gd_iload_n 3 dX11_faults_22 rfl rfl ?_
    refine gd_iconst (x9 := 0) dX11_faults_23 (by decide) ?_
    refine gd_callVI (As := [zI a3, zI 0]) (rest := [zI a2]) (dy := 2) (my := 0) (sy := 0) (k := 11) (i := 0) lX11_289 iX11_of0 sX11_of0 rfl dX11_faults_24 rfl rfl (gd_room (by omega) (by decide)) (by decide) (Nat.le_of_ble_eq_true rfl) h (fun r4 v3 h => ?_)
    refine gd_iload_n 1 dX11_faults_27 rfl rfl ?_
    refine gd_icmp_ne (tgt := 40) dX11_faults_28 (by decide) (fun hc => ?_) (fun hc => ?_)
    · have h := h.1 hc
      refine gd_iconst (x9 := 0) dX11_faults_40 (by decide) ?_
      refine gd_locals [0, 1, 3] rfl ?_
      exact w_X11_faults_41 (by omega) h
    · have h := h.2 hc
      refine gd_aload_n 0 dX11_faults_31 rfl rfl ?_
      refine gd_getR (x := 0) (kr := 53) fX11_61 rfl rfl dX11_faults_32 rfl ?_
      refine gd_iload_n 3 dX11_faults_35 rfl rfl ?_
      obtain ⟨hb, h⟩ := h
      refine gd_iaload (n := 24) (by decide) rfl dX11_faults_36 rfl hb ?_
      refine gd_goto (tgt := 41) dX11_faults_37 (by decide) ?_
      refine gd_locals [0, 1, 3] rfl ?_
      exact w_X11_faults_41 (by omega) h
theorem c_X11_faults {g : ab_E} {d : Nat} {a1 : Int32} {v : gd_D} {Q : ab_O → gd_D → Prop} (hd : 6 ≤ d) (h : wp_X11_faults g d a1 v Q) : gd_C g mX11_faults d 0 0 [zR 11 0, zI a1] v Q := gd_enterF (plainFor_of_name (by decide)) (Nat.le_of_ble_eq_true rfl) rfl (w_X11_faults hd h)
def wp_X11_dealer (g : ab_E) (d : Nat) (a1 : Int32) (a2 : Int32) (v : gd_D) (Q : ab_O → gd_D → Prop) : Prop :=
  ∀ v1 : gd_D, v1 = gd_sI v 11 0 0 0 →
  gd_C g mX11_isDealer 3 0 0 [zR 11 0, zI a1] v1 (gd_rI (fun (r3 : Int32) v2 =>
    gd_C g mX11_isFine 2 0 0 [zR 11 0, zI r3, zI 1, zI 0] v2 (gd_rI (fun (r5 : Int32) v4 =>
      (((r5 : Int32) = 0) →
        Q (Sum.inl (some (zJ 0))) v4) ∧
      ((¬ (r5 : Int32) = 0) →
        gd_C g mX11_lies 2 0 0 [zJ ((a2 : Int32).toInt64), zJ 0, zJ 8] v4 (gd_rI (fun (r7 : Int32) v6 =>
          gd_C g mX11_isFine 2 0 0 [zR 11 0, zI r7, zI 2, zI 1] v6 (gd_rI (fun (r9 : Int32) v8 =>
            ((¬ (r9 : Int32) = 0) →
              ((a2 : Int32) = 4 →
                gd_C g mX11_unitsOf 4 0 0 [zR 11 0, zI a1, zI (-1)] v8 (gd_rI (fun (r11 : Int32) v10 =>
                  Q (Sum.inl (some (zJ ((r11 : Int32).toInt64)))) v10) (fun E v9 => Q (Sum.inr E) v9))) ∧
              ((a2 : Int32) = 5 →
                gd_C g mX11_unitsOf 4 0 0 [zR 11 0, zI (-1), zI a1] v8 (gd_rI (fun (r13 : Int32) v12 =>
                  Q (Sum.inl (some (zJ ((r13 : Int32).toInt64)))) v12) (fun E v9 => Q (Sum.inr E) v9))) ∧
              ((a2 : Int32) = 6 →
                gd_C g mX11_faults 6 0 0 [zR 11 0, zI a1] v8 (gd_rI (fun (r15 : Int32) v14 =>
                  Q (Sum.inl (some (zJ ((r15 : Int32).toInt64)))) v14) (fun E v9 => Q (Sum.inr E) v9))) ∧
              ((a2 : Int32) = 7 →
                vp_in ((9 + (6 * a1)) + 4) 773 ∧
                ∀ y16 : Int64, y16 = v8.2.1 40 0 ((9 + (6 * a1)) + 4 : Int32).toNatClampNeg →
                Q (Sum.inl (some (zJ y16))) v8) ∧
              ((a2 : Int32) = 8 →
                vp_in ((9 + (6 * a1)) + 5) 773 ∧
                ∀ y17 : Int64, y17 = v8.2.1 40 0 ((9 + (6 * a1)) + 5 : Int32).toNatClampNeg →
                Q (Sum.inl (some (zJ y17))) v8) ∧
              (((a2 : Int32).toInt < 4 ∨ 8 < (a2 : Int32).toInt) →
                vp_in ((9 + (6 * a1)) + a2) 773 ∧
                ∀ y18 : Int64, y18 = v8.2.1 40 0 ((9 + (6 * a1)) + a2 : Int32).toNatClampNeg →
                Q (Sum.inl (some (zJ y18))) v8)) ∧
            (((r9 : Int32) = 0) →
              Q (Sum.inl (some (zJ 0))) v8)) (fun E v9 => Q (Sum.inr E) v9))) (fun E v9 => Q (Sum.inr E) v9)))) (fun E v9 => Q (Sum.inr E) v9))) (fun E v9 => Q (Sum.inr E) v9))
theorem w_X11_dealer {g : ab_E} {d : Nat} {a1 : Int32} {a2 : Int32} {v : gd_D} {Q : ab_O → gd_D → Prop} (hd : 7 ≤ d) (h : wp_X11_dealer g d a1 a2 v Q) : gd_G g mX11_dealer d 0 0 0 [(0, zR 11 0), (1, zI a1), (2, zI a2)] [] v Q := by
  unfold wp_X11_dealer at h
  refine gd_aload_n 0 dX11_dealer_0 rfl rfl ?_
  refine gd_iconst (x9 := 0) dX11_dealer_1 (by decide) ?_
  refine gd_putIn fX11_1 rfl rfl dX11_dealer_2 (fun v1 ev1 => ?_)
  have h := h v1 ev1
  refine gd_aload_n 0 dX11_dealer_5 rfl rfl ?_
  refine gd_aload_n 0 dX11_dealer_6 rfl rfl ?_
  refine gd_iload_n 1 dX11_dealer_7 rfl rfl ?_
  refine gd_callVI (As := [zI a1]) (rest := [zR 11 0]) (dy := 3) (my := 0) (sy := 0) (k := 11) (i := 0) lX11_284 iX11_isDealer sX11_isDealer rfl dX11_dealer_8 rfl rfl (gd_room (by omega) (by decide)) (by decide) (Nat.le_of_ble_eq_true rfl) h (fun r3 v2 h => ?_)
  refine gd_iconst (x9 := 1) dX11_dealer_11 (by decide) ?_
  refine gd_iconst (x9 := 0) dX11_dealer_12 (by decide) ?_
  refine gd_callVI (As := [zI r3, zI 1, zI 0]) (rest := []) (dy := 2) (my := 0) (sy := 0) (k := 11) (i := 0) lX11_264 iX11_isFine sX11_isFine rfl dX11_dealer_13 rfl rfl (gd_room (by omega) (by decide)) (by decide) (Nat.le_of_ble_eq_true rfl) h (fun r5 v4 h => ?_)
  refine gd_if_eq (tgt := 37) dX11_dealer_16 (by decide) (fun hc => ?_) (fun hc => ?_)
  · have h := h.1 hc
    refine gd_lconst (x9 := 0) dX11_dealer_37 (by decide) ?_
    exact gd_lret dX11_dealer_38 rfl h
  · have h := h.2 hc
    refine gd_aload_n 0 dX11_dealer_19 rfl rfl ?_
    refine gd_iload_n 2 dX11_dealer_20 rfl rfl ?_
    refine gd_i2l dX11_dealer_21 ?_
    refine gd_lconst (x9 := 0) dX11_dealer_22 (by decide) ?_
    refine gd_ldc2 kX11_227 dX11_dealer_23 ?_
    refine gd_callSI (As := [zJ ((a2 : Int32).toInt64), zJ 0, zJ 8]) (rest := [zR 11 0]) (dy := 2) (my := 0) (sy := 0) lX11_164 tX11_lies dX11_dealer_26 rfl rfl (gd_room (by omega) (by decide)) (by decide) (Nat.le_of_ble_eq_true rfl) h (fun r7 v6 h => ?_)
    refine gd_iconst (x9 := 2) dX11_dealer_29 (by decide) ?_
    refine gd_iconst (x9 := 1) dX11_dealer_30 (by decide) ?_
    refine gd_callVI (As := [zI r7, zI 2, zI 1]) (rest := []) (dy := 2) (my := 0) (sy := 0) (k := 11) (i := 0) lX11_264 iX11_isFine sX11_isFine rfl dX11_dealer_31 rfl rfl (gd_room (by omega) (by decide)) (by decide) (Nat.le_of_ble_eq_true rfl) h (fun r9 v8 h => ?_)
    refine gd_if_ne (tgt := 39) dX11_dealer_34 (by decide) (fun hc => ?_) (fun hc => ?_)
    · have h := h.1 hc
      refine gd_iload_n 2 dX11_dealer_39 rfl rfl ?_
      rcases sw_4_8 a2 with hc | hc | hc | hc | hc | hc
      · refine gd_tableIn (off := 36) (tgt := 76) dX11_dealer_40 (by rw [hc]; decide) (by rw [hc]; decide) (by rw [hc]; decide) (by decide) ?_
        have h := h.1 hc
        refine gd_aload_n 0 dX11_dealer_76 rfl rfl ?_
        refine gd_iload_n 1 dX11_dealer_77 rfl rfl ?_
        refine gd_iconst (x9 := (-1)) dX11_dealer_78 (by decide) ?_
        refine gd_callVI (As := [zI a1, zI (-1)]) (rest := []) (dy := 4) (my := 0) (sy := 0) (k := 11) (i := 0) lX11_384 iX11_unitsOf sX11_unitsOf rfl dX11_dealer_79 rfl rfl (gd_room (by omega) (by decide)) (by decide) (Nat.le_of_ble_eq_true rfl) h (fun r11 v10 h => ?_)
        refine gd_i2l dX11_dealer_82 ?_
        exact gd_lret dX11_dealer_83 rfl h
      · refine gd_tableIn (off := 44) (tgt := 84) dX11_dealer_40 (by rw [hc]; decide) (by rw [hc]; decide) (by rw [hc]; decide) (by decide) ?_
        have h := h.2.1 hc
        refine gd_aload_n 0 dX11_dealer_84 rfl rfl ?_
        refine gd_iconst (x9 := (-1)) dX11_dealer_85 (by decide) ?_
        refine gd_iload_n 1 dX11_dealer_86 rfl rfl ?_
        refine gd_callVI (As := [zI (-1), zI a1]) (rest := []) (dy := 4) (my := 0) (sy := 0) (k := 11) (i := 0) lX11_384 iX11_unitsOf sX11_unitsOf rfl dX11_dealer_87 rfl rfl (gd_room (by omega) (by decide)) (by decide) (Nat.le_of_ble_eq_true rfl) h (fun r13 v12 h => ?_)
        refine gd_i2l dX11_dealer_90 ?_
        exact gd_lret dX11_dealer_91 rfl h
      · refine gd_tableIn (off := 52) (tgt := 92) dX11_dealer_40 (by rw [hc]; decide) (by rw [hc]; decide) (by rw [hc]; decide) (by decide) ?_
        have h := h.2.2.1 hc
        refine gd_aload_n 0 dX11_dealer_92 rfl rfl ?_
        refine gd_iload_n 1 dX11_dealer_93 rfl rfl ?_
        refine gd_callVI (As := [zI a1]) (rest := []) (dy := 6) (my := 0) (sy := 0) (k := 11) (i := 0) lX11_387 iX11_faults sX11_faults rfl dX11_dealer_94 rfl rfl (gd_room (by omega) (by decide)) (by decide) (Nat.le_of_ble_eq_true rfl) h (fun r15 v14 h => ?_)
        refine gd_i2l dX11_dealer_97 ?_
        exact gd_lret dX11_dealer_98 rfl h
      · refine gd_tableIn (off := 59) (tgt := 99) dX11_dealer_40 (by rw [hc]; decide) (by rw [hc]; decide) (by rw [hc]; decide) (by decide) ?_
        have h := h.2.2.2.1 hc
        refine gd_aload_n 0 dX11_dealer_99 rfl rfl ?_
        refine gd_getR (x := 0) (kr := 40) fX11_17 rfl rfl dX11_dealer_100 rfl ?_
        refine gd_bipush (x9 := 9) dX11_dealer_103 (by decide) ?_
        refine gd_bipush (x9 := 6) dX11_dealer_105 (by decide) ?_
        refine gd_iload_n 1 dX11_dealer_107 rfl rfl ?_
        refine gd_imul dX11_dealer_108 ?_
        refine gd_iadd dX11_dealer_109 ?_
        refine gd_iconst (x9 := 4) dX11_dealer_110 (by decide) ?_
        refine gd_iadd dX11_dealer_111 ?_
        obtain ⟨hb, h⟩ := h
        refine gd_laload (n := 773) (by decide) rfl dX11_dealer_112 rfl hb ?_
        refine gd_nmJ (fun y16 ey16 => ?_)
        have h := h y16 ey16
        exact gd_lret dX11_dealer_113 rfl h
      · refine gd_tableIn (off := 74) (tgt := 114) dX11_dealer_40 (by rw [hc]; decide) (by rw [hc]; decide) (by rw [hc]; decide) (by decide) ?_
        have h := h.2.2.2.2.1 hc
        refine gd_aload_n 0 dX11_dealer_114 rfl rfl ?_
        refine gd_getR (x := 0) (kr := 40) fX11_17 rfl rfl dX11_dealer_115 rfl ?_
        refine gd_bipush (x9 := 9) dX11_dealer_118 (by decide) ?_
        refine gd_bipush (x9 := 6) dX11_dealer_120 (by decide) ?_
        refine gd_iload_n 1 dX11_dealer_122 rfl rfl ?_
        refine gd_imul dX11_dealer_123 ?_
        refine gd_iadd dX11_dealer_124 ?_
        refine gd_iconst (x9 := 5) dX11_dealer_125 (by decide) ?_
        refine gd_iadd dX11_dealer_126 ?_
        obtain ⟨hb, h⟩ := h
        refine gd_laload (n := 773) (by decide) rfl dX11_dealer_127 rfl hb ?_
        refine gd_nmJ (fun y17 ey17 => ?_)
        have h := h y17 ey17
        exact gd_lret dX11_dealer_128 rfl h
      · refine gd_tableOut (tgt := 129) dX11_dealer_40 hc (by decide) ?_
        have h := h.2.2.2.2.2 hc
        refine gd_aload_n 0 dX11_dealer_129 rfl rfl ?_
        refine gd_getR (x := 0) (kr := 40) fX11_17 rfl rfl dX11_dealer_130 rfl ?_
        refine gd_bipush (x9 := 9) dX11_dealer_133 (by decide) ?_
        refine gd_bipush (x9 := 6) dX11_dealer_135 (by decide) ?_
        refine gd_iload_n 1 dX11_dealer_137 rfl rfl ?_
        refine gd_imul dX11_dealer_138 ?_
        refine gd_iadd dX11_dealer_139 ?_
        refine gd_iload_n 2 dX11_dealer_140 rfl rfl ?_
        refine gd_iadd dX11_dealer_141 ?_
        obtain ⟨hb, h⟩ := h
        refine gd_laload (n := 773) (by decide) rfl dX11_dealer_142 rfl hb ?_
        refine gd_nmJ (fun y18 ey18 => ?_)
        have h := h y18 ey18
        exact gd_lret dX11_dealer_143 rfl h
    · have h := h.2 hc
      refine gd_lconst (x9 := 0) dX11_dealer_37 (by decide) ?_
      exact gd_lret dX11_dealer_38 rfl h
theorem c_X11_dealer {g : ab_E} {d : Nat} {a1 : Int32} {a2 : Int32} {v : gd_D} {Q : ab_O → gd_D → Prop} (hd : 7 ≤ d) (h : wp_X11_dealer g d a1 a2 v Q) : gd_C g mX11_dealer d 0 0 [zR 11 0, zI a1, zI a2] v Q := gd_enterF (plainFor_of_name (by decide)) (Nat.le_of_ble_eq_true rfl) rfl (w_X11_dealer hd h)
def wp_X11_of (g : ab_E) (d : Nat) (a1 : Int32) (a2 : Int32) (v : gd_D) (Q : ab_O → gd_D → Prop) : Prop :=
  ∀ v1 : gd_D, v1 = gd_sI v 11 0 0 0 →
  gd_C g mX11_isSale 3 0 0 [zR 11 0, zI a1] v1 (gd_rI (fun (r3 : Int32) v2 =>
    gd_C g mX11_isFine 2 0 0 [zR 11 0, zI r3, zI 1, zI 0] v2 (gd_rI (fun (r5 : Int32) v4 =>
      (((r5 : Int32) = 0) →
        Q (Sum.inl (some (zI 0))) v4) ∧
      ((¬ (r5 : Int32) = 0) →
        gd_C g mX11_lies 2 0 0 [zJ ((a2 : Int32).toInt64), zJ 0, zJ 10] v4 (gd_rI (fun (r7 : Int32) v6 =>
          gd_C g mX11_isFine 2 0 0 [zR 11 0, zI r7, zI 2, zI 1] v6 (gd_rI (fun (r9 : Int32) v8 =>
            ((¬ (r9 : Int32) = 0) →
              (((9 : Int32) ≤ a2) →
                ((¬ (a2 : Int32) = 10) →
                  gd_C g mX11_orders 5 0 0 [zR 11 0] v8 (gd_rV (fun v10 =>
                    gd_G g mX11_of d 0 0 78 [(0, zR 11 0), (1, zI a1), (3, zI 0)] [] v10 Q) (fun E v9 => Q (Sum.inr E) v9))) ∧
                (((a2 : Int32) = 10) →
                  gd_C g mX11_isAsked 3 0 0 [zR 11 0, zI a1] v8 (gd_rI (fun (r13 : Int32) v12 =>
                    (((r13 : Int32) = 0) →
                      Q (Sum.inl (some (zI 0))) v12) ∧
                    ((¬ (r13 : Int32) = 0) →
                      Q (Sum.inl (some (zI 1))) v12)) (fun E v9 => Q (Sum.inr E) v9)))) ∧
              ((¬ (9 : Int32) ≤ a2) →
                gd_C g mX11_of0 2 0 0 [zR 11 0, zI a1, zI a2] v8 (gd_rI (fun (r15 : Int32) v14 =>
                  Q (Sum.inl (some (zI r15))) v14) (fun E v9 => Q (Sum.inr E) v9)))) ∧
            (((r9 : Int32) = 0) →
              Q (Sum.inl (some (zI 0))) v8)) (fun E v9 => Q (Sum.inr E) v9))) (fun E v9 => Q (Sum.inr E) v9)))) (fun E v9 => Q (Sum.inr E) v9))) (fun E v9 => Q (Sum.inr E) v9))
theorem w_X11_of {g : ab_E} {d : Nat} {a1 : Int32} {a2 : Int32} {v : gd_D} {Q : ab_O → gd_D → Prop} (hd : 6 ≤ d) (h : wp_X11_of g d a1 a2 v Q) : gd_G g mX11_of d 0 0 0 [(0, zR 11 0), (1, zI a1), (2, zI a2)] [] v Q := by
  unfold wp_X11_of at h
  refine gd_aload_n 0 dX11_of_0 rfl rfl ?_
  refine gd_iconst (x9 := 0) dX11_of_1 (by decide) ?_
  refine gd_putIn fX11_1 rfl rfl dX11_of_2 (fun v1 ev1 => ?_)
  have h := h v1 ev1
  refine gd_aload_n 0 dX11_of_5 rfl rfl ?_
  refine gd_aload_n 0 dX11_of_6 rfl rfl ?_
  refine gd_iload_n 1 dX11_of_7 rfl rfl ?_
  refine gd_callVI (As := [zI a1]) (rest := [zR 11 0]) (dy := 3) (my := 0) (sy := 0) (k := 11) (i := 0) lX11_378 iX11_isSale sX11_isSale rfl dX11_of_8 rfl rfl (gd_room (by omega) (by decide)) (by decide) (Nat.le_of_ble_eq_true rfl) h (fun r3 v2 h => ?_)
  refine gd_iconst (x9 := 1) dX11_of_11 (by decide) ?_
  refine gd_iconst (x9 := 0) dX11_of_12 (by decide) ?_
  refine gd_callVI (As := [zI r3, zI 1, zI 0]) (rest := []) (dy := 2) (my := 0) (sy := 0) (k := 11) (i := 0) lX11_264 iX11_isFine sX11_isFine rfl dX11_of_13 rfl rfl (gd_room (by omega) (by decide)) (by decide) (Nat.le_of_ble_eq_true rfl) h (fun r5 v4 h => ?_)
  refine gd_if_eq (tgt := 37) dX11_of_16 (by decide) (fun hc => ?_) (fun hc => ?_)
  · have h := h.1 hc
    refine gd_iconst (x9 := 0) dX11_of_37 (by decide) ?_
    exact gd_iret (ty := .int) dX11_of_38 rfl rfl h
  · have h := h.2 hc
    refine gd_aload_n 0 dX11_of_19 rfl rfl ?_
    refine gd_iload_n 2 dX11_of_20 rfl rfl ?_
    refine gd_i2l dX11_of_21 ?_
    refine gd_lconst (x9 := 0) dX11_of_22 (by decide) ?_
    refine gd_ldc2 kX11_152 dX11_of_23 ?_
    refine gd_callSI (As := [zJ ((a2 : Int32).toInt64), zJ 0, zJ 10]) (rest := [zR 11 0]) (dy := 2) (my := 0) (sy := 0) lX11_164 tX11_lies dX11_of_26 rfl rfl (gd_room (by omega) (by decide)) (by decide) (Nat.le_of_ble_eq_true rfl) h (fun r7 v6 h => ?_)
    refine gd_iconst (x9 := 2) dX11_of_29 (by decide) ?_
    refine gd_iconst (x9 := 1) dX11_of_30 (by decide) ?_
    refine gd_callVI (As := [zI r7, zI 2, zI 1]) (rest := []) (dy := 2) (my := 0) (sy := 0) (k := 11) (i := 0) lX11_264 iX11_isFine sX11_isFine rfl dX11_of_31 rfl rfl (gd_room (by omega) (by decide)) (by decide) (Nat.le_of_ble_eq_true rfl) h (fun r9 v8 h => ?_)
    refine gd_if_ne (tgt := 39) dX11_of_34 (by decide) (fun hc => ?_) (fun hc => ?_)
    · have h := h.1 hc
      refine gd_iload_n 2 dX11_of_39 rfl rfl ?_
      refine gd_bipush (x9 := 9) dX11_of_40 (by decide) ?_
      refine gd_icmp_ge (tgt := 52) dX11_of_42 (by decide) (fun hc => ?_) (fun hc => ?_)
      · have h := h.1 hc
        refine gd_iload_n 2 dX11_of_52 rfl rfl ?_
        refine gd_bipush (x9 := 10) dX11_of_53 (by decide) ?_
        refine gd_icmp_ne (tgt := 72) dX11_of_55 (by decide) (fun hc => ?_) (fun hc => ?_)
        · have h := h.1 hc
          refine gd_aload_n 0 dX11_of_72 rfl rfl ?_
          refine gd_callVV (As := []) (rest := []) (dy := 5) (my := 0) (sy := 0) (k := 11) (i := 0) lX11_345 iX11_orders sX11_orders rfl dX11_of_73 rfl rfl (gd_room (by omega) (by decide)) (by decide) (Nat.le_of_ble_eq_true rfl) h (fun v10 h => ?_)
          refine gd_iconst (x9 := 0) dX11_of_76 (by decide) ?_
          refine gd_istore_n (L' := [(3, zI 0), (0, zR 11 0), (1, zI a1), (2, zI a2)]) dX11_of_77 rfl (by decide) rfl ?_
          refine gd_locals [1, 2, 0] rfl ?_
          exact h
        · have h := h.2 hc
          refine gd_aload_n 0 dX11_of_58 rfl rfl ?_
          refine gd_iload_n 1 dX11_of_59 rfl rfl ?_
          refine gd_callVI (As := [zI a1]) (rest := []) (dy := 3) (my := 0) (sy := 0) (k := 11) (i := 0) lX11_305 iX11_isAsked sX11_isAsked rfl dX11_of_60 rfl rfl (gd_room (by omega) (by decide)) (by decide) (Nat.le_of_ble_eq_true rfl) h (fun r13 v12 h => ?_)
          refine gd_if_eq (tgt := 70) dX11_of_63 (by decide) (fun hc => ?_) (fun hc => ?_)
          · have h := h.1 hc
            refine gd_iconst (x9 := 0) dX11_of_70 (by decide) ?_
            exact gd_iret (ty := .int) dX11_of_71 rfl rfl h
          · have h := h.2 hc
            refine gd_iconst (x9 := 1) dX11_of_66 (by decide) ?_
            refine gd_goto (tgt := 71) dX11_of_67 (by decide) ?_
            exact gd_iret (ty := .int) dX11_of_71 rfl rfl h
      · have h := h.2 hc
        refine gd_aload_n 0 dX11_of_45 rfl rfl ?_
        refine gd_iload_n 1 dX11_of_46 rfl rfl ?_
        refine gd_iload_n 2 dX11_of_47 rfl rfl ?_
        refine gd_callVI (As := [zI a1, zI a2]) (rest := []) (dy := 2) (my := 0) (sy := 0) (k := 11) (i := 0) lX11_289 iX11_of0 sX11_of0 rfl dX11_of_48 rfl rfl (gd_room (by omega) (by decide)) (by decide) (Nat.le_of_ble_eq_true rfl) h (fun r15 v14 h => ?_)
        exact gd_iret (ty := .int) dX11_of_51 rfl rfl h
    · have h := h.2 hc
      refine gd_iconst (x9 := 0) dX11_of_37 (by decide) ?_
      exact gd_iret (ty := .int) dX11_of_38 rfl rfl h
def wp_X11_of_78 (g : ab_E) (d : Nat) (a1 : Int32) (a3 : Int32) (v : gd_D) (Q : ab_O → gd_D → Prop) : Prop :=
  vp_in a3 24 ∧
  (((v.1 47 0 (a3 : Int32).toNatClampNeg : Int32) = a1) →
    Q (Sum.inl (some (zI a3))) v) ∧
  ((¬ (v.1 47 0 (a3 : Int32).toNatClampNeg : Int32) = a1) →
    gd_G g mX11_of d 0 0 78 [(0, zR 11 0), (1, zI a1), (3, zI (a3 + 1))] [] v Q)
theorem w_X11_of_78 {g : ab_E} {d : Nat} {a1 : Int32} {a3 : Int32} {v : gd_D} {Q : ab_O → gd_D → Prop} (hd : 0 ≤ d) (h : wp_X11_of_78 g d a1 a3 v Q) : gd_G g mX11_of d 0 0 78 [(0, zR 11 0), (1, zI a1), (3, zI a3)] [] v Q := by
  unfold wp_X11_of_78 at h
  refine gd_aload_n 0 dX11_of_78 rfl rfl ?_
  refine gd_getR (x := 0) (kr := 47) fX11_43 rfl rfl dX11_of_79 rfl ?_
  refine gd_iload_n 2 dX11_of_82 rfl rfl ?_
  obtain ⟨hb, h⟩ := h
  refine gd_iaload (n := 24) (by decide) rfl dX11_of_83 rfl hb ?_
  refine gd_iload_n 1 dX11_of_84 rfl rfl ?_
  refine gd_icmp_eq (tgt := 94) dX11_of_85 (by decide) (fun hc => ?_) (fun hc => ?_)
  · have h := h.1 hc
    refine gd_iload_n 2 dX11_of_94 rfl rfl ?_
    exact gd_iret (ty := .int) dX11_of_95 rfl rfl h
  · have h := h.2 hc
    refine gd_iinc (x9 := a3 + 1) (L' := [(3, zI (a3 + 1)), (0, zR 11 0), (1, zI a1)]) 2 dX11_of_88 rfl rfl (by decide) rfl ?_
    refine gd_goto (tgt := 78) dX11_of_91 (by decide) ?_
    refine gd_locals [1, 2, 0] rfl ?_
    exact h
theorem c_X11_of {g : ab_E} {d : Nat} {a1 : Int32} {a2 : Int32} {v : gd_D} {Q : ab_O → gd_D → Prop} (hd : 6 ≤ d) (h : wp_X11_of g d a1 a2 v Q) : gd_C g mX11_of d 0 0 [zR 11 0, zI a1, zI a2] v Q := gd_enterF (plainFor_of_name (by decide)) (Nat.le_of_ble_eq_true rfl) rfl (w_X11_of hd h)
def wp_X11_rule (g : ab_E) (d : Nat) (a1 : Int32) (v : gd_D) (Q : ab_O → gd_D → Prop) : Prop :=
  ∀ v1 : gd_D, v1 = gd_sI v 11 0 0 0 →
  gd_C g mX11_isSale 3 0 0 [zR 11 0, zI a1] v1 (gd_rI (fun (r3 : Int32) v2 =>
    gd_C g mX11_isFine 2 0 0 [zR 11 0, zI r3, zI 1, zI 0] v2 (gd_rI (fun (r5 : Int32) v4 =>
      (((r5 : Int32) = 0) →
        Q (Sum.inl (some (zJ 0))) v4) ∧
      ((¬ (r5 : Int32) = 0) →
        gd_C g mX11_ruled 4 0 0 [zR 11 0, zI a1] v4 (gd_rJ (fun (r7 : Int64) v6 =>
          Q (Sum.inl (some (zJ r7))) v6) (fun E v9 => Q (Sum.inr E) v9)))) (fun E v9 => Q (Sum.inr E) v9))) (fun E v9 => Q (Sum.inr E) v9))
theorem w_X11_rule {g : ab_E} {d : Nat} {a1 : Int32} {v : gd_D} {Q : ab_O → gd_D → Prop} (hd : 5 ≤ d) (h : wp_X11_rule g d a1 v Q) : gd_G g mX11_rule d 0 0 0 [(0, zR 11 0), (1, zI a1)] [] v Q := by
  unfold wp_X11_rule at h
  refine gd_aload_n 0 dX11_rule_0 rfl rfl ?_
  refine gd_iconst (x9 := 0) dX11_rule_1 (by decide) ?_
  refine gd_putIn fX11_1 rfl rfl dX11_rule_2 (fun v1 ev1 => ?_)
  have h := h v1 ev1
  refine gd_aload_n 0 dX11_rule_5 rfl rfl ?_
  refine gd_aload_n 0 dX11_rule_6 rfl rfl ?_
  refine gd_iload_n 1 dX11_rule_7 rfl rfl ?_
  refine gd_callVI (As := [zI a1]) (rest := [zR 11 0]) (dy := 3) (my := 0) (sy := 0) (k := 11) (i := 0) lX11_378 iX11_isSale sX11_isSale rfl dX11_rule_8 rfl rfl (gd_room (by omega) (by decide)) (by decide) (Nat.le_of_ble_eq_true rfl) h (fun r3 v2 h => ?_)
  refine gd_iconst (x9 := 1) dX11_rule_11 (by decide) ?_
  refine gd_iconst (x9 := 0) dX11_rule_12 (by decide) ?_
  refine gd_callVI (As := [zI r3, zI 1, zI 0]) (rest := []) (dy := 2) (my := 0) (sy := 0) (k := 11) (i := 0) lX11_264 iX11_isFine sX11_isFine rfl dX11_rule_13 rfl rfl (gd_room (by omega) (by decide)) (by decide) (Nat.le_of_ble_eq_true rfl) h (fun r5 v4 h => ?_)
  refine gd_if_eq (tgt := 27) dX11_rule_16 (by decide) (fun hc => ?_) (fun hc => ?_)
  · have h := h.1 hc
    refine gd_lconst (x9 := 0) dX11_rule_27 (by decide) ?_
    exact gd_lret dX11_rule_28 rfl h
  · have h := h.2 hc
    refine gd_aload_n 0 dX11_rule_19 rfl rfl ?_
    refine gd_iload_n 1 dX11_rule_20 rfl rfl ?_
    refine gd_callVJ (As := [zI a1]) (rest := []) (dy := 4) (my := 0) (sy := 0) (k := 11) (i := 0) lX11_301 iX11_ruled sX11_ruled rfl dX11_rule_21 rfl rfl (gd_room (by omega) (by decide)) (by decide) (Nat.le_of_ble_eq_true rfl) h (fun r7 v6 h => ?_)
    refine gd_goto (tgt := 28) dX11_rule_24 (by decide) ?_
    exact gd_lret dX11_rule_28 rfl h
theorem c_X11_rule {g : ab_E} {d : Nat} {a1 : Int32} {v : gd_D} {Q : ab_O → gd_D → Prop} (hd : 5 ≤ d) (h : wp_X11_rule g d a1 v Q) : gd_C g mX11_rule d 0 0 [zR 11 0, zI a1] v Q := gd_enterF (plainFor_of_name (by decide)) (Nat.le_of_ble_eq_true rfl) rfl (w_X11_rule hd h)
def wp_X11_partMany (g : ab_E) (d : Nat) (a1 : Int32) (v : gd_D) (Q : ab_O → gd_D → Prop) : Prop :=
  gd_C g mX11_orders 5 0 0 [zR 11 0] v (gd_rV (fun v1 =>
    gd_C g mX11_laysParts 4 0 0 [zR 11 0] v1 (gd_rV (fun v3 =>
      gd_G g mX11_partMany d 0 0 10 [(0, zR 11 0), (1, zI a1), (2, zI 0)] [] v3 Q) (fun E v9 => Q (Sum.inr E) v9))) (fun E v9 => Q (Sum.inr E) v9))
theorem w_X11_partMany {g : ab_E} {d : Nat} {a1 : Int32} {v : gd_D} {Q : ab_O → gd_D → Prop} (hd : 6 ≤ d) (h : wp_X11_partMany g d a1 v Q) : gd_G g mX11_partMany d 0 0 0 [(0, zR 11 0), (1, zI a1)] [] v Q := by
  unfold wp_X11_partMany at h
  refine gd_aload_n 0 dX11_partMany_0 rfl rfl ?_
  refine gd_callVV (As := []) (rest := []) (dy := 5) (my := 0) (sy := 0) (k := 11) (i := 0) lX11_345 iX11_orders sX11_orders rfl dX11_partMany_1 rfl rfl (gd_room (by omega) (by decide)) (by decide) (Nat.le_of_ble_eq_true rfl) h (fun v1 h => ?_)
  refine gd_aload_n 0 dX11_partMany_4 rfl rfl ?_
  refine gd_callVV (As := []) (rest := []) (dy := 4) (my := 0) (sy := 0) (k := 11) (i := 0) lX11_338 iX11_laysParts sX11_laysParts rfl dX11_partMany_5 rfl rfl (gd_room (by omega) (by decide)) (by decide) (Nat.le_of_ble_eq_true rfl) h (fun v3 h => ?_)
  refine gd_iconst (x9 := 0) dX11_partMany_8 (by decide) ?_
  refine gd_istore_n (L' := [(2, zI 0), (0, zR 11 0), (1, zI a1)]) dX11_partMany_9 rfl (by decide) rfl ?_
  refine gd_locals [1, 2, 0] rfl ?_
  exact h
def wp_X11_partMany_10 (g : ab_E) (d : Nat) (a1 : Int32) (a2 : Int32) (v : gd_D) (Q : ab_O → gd_D → Prop) : Prop :=
  gd_C g mX11_partAt 3 0 0 [zR 11 0, zI a1, zI a2] v (gd_rI (fun (r2 : Int32) v1 =>
    (((r2 : Int32) = (-1)) →
      Q (Sum.inl (some (zI a2))) v1) ∧
    ((¬ (r2 : Int32) = (-1)) →
      gd_G g mX11_partMany d 0 0 10 [(0, zR 11 0), (1, zI a1), (2, zI (a2 + 1))] [] v1 Q)) (fun E v9 => Q (Sum.inr E) v9))
theorem w_X11_partMany_10 {g : ab_E} {d : Nat} {a1 : Int32} {a2 : Int32} {v : gd_D} {Q : ab_O → gd_D → Prop} (hd : 4 ≤ d) (h : wp_X11_partMany_10 g d a1 a2 v Q) : gd_G g mX11_partMany d 0 0 10 [(0, zR 11 0), (1, zI a1), (2, zI a2)] [] v Q := by
  unfold wp_X11_partMany_10 at h
  refine gd_aload_n 0 dX11_partMany_10 rfl rfl ?_
  refine gd_iload_n 1 dX11_partMany_11 rfl rfl ?_
  refine gd_iload_n 2 dX11_partMany_12 rfl rfl ?_
  refine gd_callVI (As := [zI a1, zI a2]) (rest := []) (dy := 3) (my := 0) (sy := 0) (k := 11) (i := 0) lX11_332 iX11_partAt sX11_partAt rfl dX11_partMany_13 rfl rfl (gd_room (by omega) (by decide)) (by decide) (Nat.le_of_ble_eq_true rfl) h (fun r2 v1 h => ?_)
  refine gd_iconst (x9 := (-1)) dX11_partMany_16 (by decide) ?_
  refine gd_icmp_eq (tgt := 26) dX11_partMany_17 (by decide) (fun hc => ?_) (fun hc => ?_)
  · have h := h.1 hc
    refine gd_iload_n 2 dX11_partMany_26 rfl rfl ?_
    exact gd_iret (ty := .int) dX11_partMany_27 rfl rfl h
  · have h := h.2 hc
    refine gd_iinc (x9 := a2 + 1) (L' := [(2, zI (a2 + 1)), (0, zR 11 0), (1, zI a1)]) 2 dX11_partMany_20 rfl rfl (by decide) rfl ?_
    refine gd_goto (tgt := 10) dX11_partMany_23 (by decide) ?_
    refine gd_locals [1, 2, 0] rfl ?_
    exact h
theorem c_X11_partMany {g : ab_E} {d : Nat} {a1 : Int32} {v : gd_D} {Q : ab_O → gd_D → Prop} (hd : 6 ≤ d) (h : wp_X11_partMany g d a1 v Q) : gd_C g mX11_partMany d 0 0 [zR 11 0, zI a1] v Q := gd_enterF (plainFor_of_name (by decide)) (Nat.le_of_ble_eq_true rfl) rfl (w_X11_partMany hd h)
def wp_X11_part_50 (g : ab_E) (d : Nat) (a1 : Int32) (a2 : Int32) (a3 : Int32) (s1 : Int32) (v : gd_D) (Q : ab_O → gd_D → Prop) : Prop :=
  gd_C g mX11_isFine 2 0 0 [zR 11 0, zI s1, zI 1, zI 0] v (gd_rI (fun (r2 : Int32) v1 =>
    (((r2 : Int32) = 0) →
      Q (Sum.inl (some (zI 0))) v1) ∧
    ((¬ (r2 : Int32) = 0) →
      gd_C g mX11_lies 2 0 0 [zJ ((a3 : Int32).toInt64), zJ 0, zJ 1] v1 (gd_rI (fun (r4 : Int32) v3 =>
        gd_C g mX11_isFine 2 0 0 [zR 11 0, zI r4, zI 2, zI 1] v3 (gd_rI (fun (r6 : Int32) v5 =>
          ((¬ (r6 : Int32) = 0) →
            gd_C g mX11_partAt 3 0 0 [zR 11 0, zI a1, zI a2] v5 (gd_rI (fun (r8 : Int32) v7 =>
              ((¬ (a3 : Int32) = 0) →
                vp_in ((24 * a1) + r8) 576 ∧
                ∀ x9 : Int32, x9 = v7.1 51 0 ((24 * a1) + r8 : Int32).toNatClampNeg →
                Q (Sum.inl (some (zI x9))) v7) ∧
              (((a3 : Int32) = 0) →
                Q (Sum.inl (some (zI r8))) v7)) (fun E v9 => Q (Sum.inr E) v9))) ∧
          (((r6 : Int32) = 0) →
            Q (Sum.inl (some (zI 0))) v5)) (fun E v9 => Q (Sum.inr E) v9))) (fun E v9 => Q (Sum.inr E) v9)))) (fun E v9 => Q (Sum.inr E) v9))
theorem w_X11_part_50 {g : ab_E} {d : Nat} {a1 : Int32} {a2 : Int32} {a3 : Int32} {s1 : Int32} {v : gd_D} {Q : ab_O → gd_D → Prop} (hd : 4 ≤ d) (h : wp_X11_part_50 g d a1 a2 a3 s1 v Q) : gd_G g mX11_part d 0 0 50 [(0, zR 11 0), (1, zI a1), (2, zI a2), (3, zI a3)] [zI s1, zR 11 0] v Q := by
  unfold wp_X11_part_50 at h
  refine gd_iconst (x9 := 1) dX11_part_50 (by decide) ?_
  refine gd_iconst (x9 := 0) dX11_part_51 (by decide) ?_
  refine gd_callVI (As := [zI s1, zI 1, zI 0]) (rest := []) (dy := 2) (my := 0) (sy := 0) (k := 11) (i := 0) lX11_264 iX11_isFine sX11_isFine rfl dX11_part_52 rfl rfl (gd_room (by omega) (by decide)) (by decide) (Nat.le_of_ble_eq_true rfl) h (fun r2 v1 h => ?_)
  refine gd_if_eq (tgt := 74) dX11_part_55 (by decide) (fun hc => ?_) (fun hc => ?_)
  · have h := h.1 hc
    refine gd_iconst (x9 := 0) dX11_part_74 (by decide) ?_
    exact gd_iret (ty := .int) dX11_part_75 rfl rfl h
  · have h := h.2 hc
    refine gd_aload_n 0 dX11_part_58 rfl rfl ?_
    refine gd_iload_n 3 dX11_part_59 rfl rfl ?_
    refine gd_i2l dX11_part_60 ?_
    refine gd_lconst (x9 := 0) dX11_part_61 (by decide) ?_
    refine gd_lconst (x9 := 1) dX11_part_62 (by decide) ?_
    refine gd_callSI (As := [zJ ((a3 : Int32).toInt64), zJ 0, zJ 1]) (rest := [zR 11 0]) (dy := 2) (my := 0) (sy := 0) lX11_164 tX11_lies dX11_part_63 rfl rfl (gd_room (by omega) (by decide)) (by decide) (Nat.le_of_ble_eq_true rfl) h (fun r4 v3 h => ?_)
    refine gd_iconst (x9 := 2) dX11_part_66 (by decide) ?_
    refine gd_iconst (x9 := 1) dX11_part_67 (by decide) ?_
    refine gd_callVI (As := [zI r4, zI 2, zI 1]) (rest := []) (dy := 2) (my := 0) (sy := 0) (k := 11) (i := 0) lX11_264 iX11_isFine sX11_isFine rfl dX11_part_68 rfl rfl (gd_room (by omega) (by decide)) (by decide) (Nat.le_of_ble_eq_true rfl) h (fun r6 v5 h => ?_)
    refine gd_if_ne (tgt := 76) dX11_part_71 (by decide) (fun hc => ?_) (fun hc => ?_)
    · have h := h.1 hc
      refine gd_aload_n 0 dX11_part_76 rfl rfl ?_
      refine gd_iload_n 1 dX11_part_77 rfl rfl ?_
      refine gd_iload_n 2 dX11_part_78 rfl rfl ?_
      refine gd_callVI (As := [zI a1, zI a2]) (rest := []) (dy := 3) (my := 0) (sy := 0) (k := 11) (i := 0) lX11_332 iX11_partAt sX11_partAt rfl dX11_part_79 rfl rfl (gd_room (by omega) (by decide)) (by decide) (Nat.le_of_ble_eq_true rfl) h (fun r8 v7 h => ?_)
      refine gd_istore (L' := [(4, zI r8), (0, zR 11 0), (1, zI a1), (2, zI a2), (3, zI a3)]) dX11_part_82 (by decide) rfl ?_
      refine gd_iload_n 4 dX11_part_84 rfl rfl ?_
      refine gd_if_ne (tgt := 93) dX11_part_85 (by decide) (fun hc => ?_) (fun hc => ?_)
      · have h := h.1 hc
        refine gd_aload_n 1 dX11_part_93 rfl rfl ?_
        refine gd_getR (x := 0) (kr := 51) fX11_55 rfl rfl dX11_part_94 rfl ?_
        refine gd_bipush (x9 := 24) dX11_part_97 (by decide) ?_
        refine gd_iload_n 2 dX11_part_99 rfl rfl ?_
        refine gd_imul dX11_part_100 ?_
        refine gd_iload 0 dX11_part_101 rfl ?_
        refine gd_iadd dX11_part_103 ?_
        obtain ⟨hb, h⟩ := h
        refine gd_iaload (n := 576) (by decide) rfl dX11_part_104 rfl hb ?_
        refine gd_nmI (fun x9 ex9 => ?_)
        have h := h x9 ex9
        exact gd_iret (ty := .int) dX11_part_105 rfl rfl h
      · have h := h.2 hc
        refine gd_iload 0 dX11_part_88 rfl ?_
        refine gd_goto (tgt := 105) dX11_part_90 (by decide) ?_
        exact gd_iret (ty := .int) dX11_part_105 rfl rfl h
    · have h := h.2 hc
      refine gd_iconst (x9 := 0) dX11_part_74 (by decide) ?_
      exact gd_iret (ty := .int) dX11_part_75 rfl rfl h
def wp_X11_part_49 (g : ab_E) (d : Nat) (a1 : Int32) (a2 : Int32) (a3 : Int32) (v : gd_D) (Q : ab_O → gd_D → Prop) : Prop :=
  wp_X11_part_50 g d a1 a2 a3 0 v Q
theorem w_X11_part_49 {g : ab_E} {d : Nat} {a1 : Int32} {a2 : Int32} {a3 : Int32} {v : gd_D} {Q : ab_O → gd_D → Prop} (hd : 4 ≤ d) (h : wp_X11_part_49 g d a1 a2 a3 v Q) : gd_G g mX11_part d 0 0 49 [(0, zR 11 0), (1, zI a1), (2, zI a2), (3, zI a3)] [zR 11 0] v Q := by
  unfold wp_X11_part_49 at h
  refine gd_iconst (x9 := 0) dX11_part_49 (by decide) ?_
  exact w_X11_part_50 (by omega) h
def wp_X11_part_39 (g : ab_E) (d : Nat) (a1 : Int32) (a2 : Int32) (a3 : Int32) (s1 : Int64) (s2 : Int64) (s3 : Int64) (v : gd_D) (Q : ab_O → gd_D → Prop) : Prop :=
  gd_C g mX11_lies 2 0 0 [zJ s1, zJ s2, zJ s3] v (gd_rI (fun (r2 : Int32) v1 =>
    (((r2 : Int32) = 0) →
      wp_X11_part_49 g d a1 a2 a3 v1 Q) ∧
    ((¬ (r2 : Int32) = 0) →
      wp_X11_part_50 g d a1 a2 a3 1 v1 Q)) (fun E v9 => Q (Sum.inr E) v9))
theorem w_X11_part_39 {g : ab_E} {d : Nat} {a1 : Int32} {a2 : Int32} {a3 : Int32} {s1 : Int64} {s2 : Int64} {s3 : Int64} {v : gd_D} {Q : ab_O → gd_D → Prop} (hd : 4 ≤ d) (h : wp_X11_part_39 g d a1 a2 a3 s1 s2 s3 v Q) : gd_G g mX11_part d 0 0 39 [(0, zR 11 0), (1, zI a1), (2, zI a2), (3, zI a3)] [zJ s3, zJ s2, zJ s1, zR 11 0] v Q := by
  unfold wp_X11_part_39 at h
  refine gd_callSI (As := [zJ s1, zJ s2, zJ s3]) (rest := [zR 11 0]) (dy := 2) (my := 0) (sy := 0) lX11_164 tX11_lies dX11_part_39 rfl rfl (gd_room (by omega) (by decide)) (by decide) (Nat.le_of_ble_eq_true rfl) h (fun r2 v1 h => ?_)
  refine gd_if_eq (tgt := 49) dX11_part_42 (by decide) (fun hc => ?_) (fun hc => ?_)
  · have h := h.1 hc
    exact w_X11_part_49 (by omega) h
  · have h := h.2 hc
    refine gd_iconst (x9 := 1) dX11_part_45 (by decide) ?_
    refine gd_goto (tgt := 50) dX11_part_46 (by decide) ?_
    exact w_X11_part_50 (by omega) h
def wp_X11_part (g : ab_E) (d : Nat) (a1 : Int32) (a2 : Int32) (a3 : Int32) (v : gd_D) (Q : ab_O → gd_D → Prop) : Prop :=
  ∀ v1 : gd_D, v1 = gd_sI v 11 0 0 0 →
  gd_C g mX11_isSale 3 0 0 [zR 11 0, zI a1] v1 (gd_rI (fun (r3 : Int32) v2 =>
    (((r3 : Int32) = 0) →
      wp_X11_part_49 g d a1 a2 a3 v2 Q) ∧
    ((¬ (r3 : Int32) = 0) →
      gd_C g mX11_isSale 3 0 0 [zR 11 0, zI a1] v2 (gd_rI (fun (r5 : Int32) v4 =>
        (((r5 : Int32) = 0) →
          wp_X11_part_39 g d a1 a2 a3 ((a2 : Int32).toInt64) 0 (-1) v4 Q) ∧
        ((¬ (r5 : Int32) = 0) →
          gd_C g mX11_partMany 6 0 0 [zR 11 0, zI a1] v4 (gd_rI (fun (r7 : Int32) v6 =>
            wp_X11_part_39 g d a1 a2 a3 ((a2 : Int32).toInt64) 0 ((r7 - 1 : Int32).toInt64) v6 Q) (fun E v9 => Q (Sum.inr E) v9)))) (fun E v9 => Q (Sum.inr E) v9)))) (fun E v9 => Q (Sum.inr E) v9))
theorem w_X11_part {g : ab_E} {d : Nat} {a1 : Int32} {a2 : Int32} {a3 : Int32} {v : gd_D} {Q : ab_O → gd_D → Prop} (hd : 7 ≤ d) (h : wp_X11_part g d a1 a2 a3 v Q) : gd_G g mX11_part d 0 0 0 [(0, zR 11 0), (1, zI a1), (2, zI a2), (3, zI a3)] [] v Q := by
  unfold wp_X11_part at h
  refine gd_aload_n 0 dX11_part_0 rfl rfl ?_
  refine gd_iconst (x9 := 0) dX11_part_1 (by decide) ?_
  refine gd_putIn fX11_1 rfl rfl dX11_part_2 (fun v1 ev1 => ?_)
  have h := h v1 ev1
  refine gd_aload_n 0 dX11_part_5 rfl rfl ?_
  refine gd_aload_n 0 dX11_part_6 rfl rfl ?_
  refine gd_iload_n 1 dX11_part_7 rfl rfl ?_
  refine gd_callVI (As := [zI a1]) (rest := [zR 11 0]) (dy := 3) (my := 0) (sy := 0) (k := 11) (i := 0) lX11_378 iX11_isSale sX11_isSale rfl dX11_part_8 rfl rfl (gd_room (by omega) (by decide)) (by decide) (Nat.le_of_ble_eq_true rfl) h (fun r3 v2 h => ?_)
  refine gd_if_eq (tgt := 49) dX11_part_11 (by decide) (fun hc => ?_) (fun hc => ?_)
  · have h := h.1 hc
    exact w_X11_part_49 (by omega) h
  · have h := h.2 hc
    refine gd_iload_n 2 dX11_part_14 rfl rfl ?_
    refine gd_i2l dX11_part_15 ?_
    refine gd_lconst (x9 := 0) dX11_part_16 (by decide) ?_
    refine gd_aload_n 0 dX11_part_17 rfl rfl ?_
    refine gd_iload_n 1 dX11_part_18 rfl rfl ?_
    refine gd_callVI (As := [zI a1]) (rest := [zJ 0, zJ ((a2 : Int32).toInt64), zR 11 0]) (dy := 3) (my := 0) (sy := 0) (k := 11) (i := 0) lX11_378 iX11_isSale sX11_isSale rfl dX11_part_19 rfl rfl (gd_room (by omega) (by decide)) (by decide) (Nat.le_of_ble_eq_true rfl) h (fun r5 v4 h => ?_)
    refine gd_if_eq (tgt := 36) dX11_part_22 (by decide) (fun hc => ?_) (fun hc => ?_)
    · have h := h.1 hc
      refine gd_ldc2 kX11_225 dX11_part_36 ?_
      exact w_X11_part_39 (by omega) h
    · have h := h.2 hc
      refine gd_aload_n 0 dX11_part_25 rfl rfl ?_
      refine gd_iload_n 1 dX11_part_26 rfl rfl ?_
      refine gd_callVI (As := [zI a1]) (rest := [zJ 0, zJ ((a2 : Int32).toInt64), zR 11 0]) (dy := 6) (my := 0) (sy := 0) (k := 11) (i := 0) lX11_391 iX11_partMany sX11_partMany rfl dX11_part_27 rfl rfl (gd_room (by omega) (by decide)) (by decide) (Nat.le_of_ble_eq_true rfl) h (fun r7 v6 h => ?_)
      refine gd_iconst (x9 := 1) dX11_part_30 (by decide) ?_
      refine gd_isub dX11_part_31 ?_
      refine gd_i2l dX11_part_32 ?_
      refine gd_goto (tgt := 39) dX11_part_33 (by decide) ?_
      exact w_X11_part_39 (by omega) h
theorem c_X11_part {g : ab_E} {d : Nat} {a1 : Int32} {a2 : Int32} {a3 : Int32} {v : gd_D} {Q : ab_O → gd_D → Prop} (hd : 7 ≤ d) (h : wp_X11_part g d a1 a2 a3 v Q) : gd_C g mX11_part d 0 0 [zR 11 0, zI a1, zI a2, zI a3] v Q := gd_enterF (plainFor_of_name (by decide)) (Nat.le_of_ble_eq_true rfl) rfl (w_X11_part hd h)
def wp_X11_parts (g : ab_E) (d : Nat) (a1 : Int32) (v : gd_D) (Q : ab_O → gd_D → Prop) : Prop :=
  ∀ v1 : gd_D, v1 = gd_sI v 11 0 0 0 →
  gd_C g mX11_isSale 3 0 0 [zR 11 0, zI a1] v1 (gd_rI (fun (r3 : Int32) v2 =>
    gd_C g mX11_isFine 2 0 0 [zR 11 0, zI r3, zI 1, zI 0] v2 (gd_rI (fun (r5 : Int32) v4 =>
      (((r5 : Int32) = 0) →
        Q (Sum.inl (some (zI 0))) v4) ∧
      ((¬ (r5 : Int32) = 0) →
        gd_C g mX11_partMany 6 0 0 [zR 11 0, zI a1] v4 (gd_rI (fun (r7 : Int32) v6 =>
          Q (Sum.inl (some (zI r7))) v6) (fun E v9 => Q (Sum.inr E) v9)))) (fun E v9 => Q (Sum.inr E) v9))) (fun E v9 => Q (Sum.inr E) v9))
theorem w_X11_parts {g : ab_E} {d : Nat} {a1 : Int32} {v : gd_D} {Q : ab_O → gd_D → Prop} (hd : 7 ≤ d) (h : wp_X11_parts g d a1 v Q) : gd_G g mX11_parts d 0 0 0 [(0, zR 11 0), (1, zI a1)] [] v Q := by
  unfold wp_X11_parts at h
  refine gd_aload_n 0 dX11_parts_0 rfl rfl ?_
  refine gd_iconst (x9 := 0) dX11_parts_1 (by decide) ?_
  refine gd_putIn fX11_1 rfl rfl dX11_parts_2 (fun v1 ev1 => ?_)
  have h := h v1 ev1
  refine gd_aload_n 0 dX11_parts_5 rfl rfl ?_
  refine gd_aload_n 0 dX11_parts_6 rfl rfl ?_
  refine gd_iload_n 1 dX11_parts_7 rfl rfl ?_
  refine gd_callVI (As := [zI a1]) (rest := [zR 11 0]) (dy := 3) (my := 0) (sy := 0) (k := 11) (i := 0) lX11_378 iX11_isSale sX11_isSale rfl dX11_parts_8 rfl rfl (gd_room (by omega) (by decide)) (by decide) (Nat.le_of_ble_eq_true rfl) h (fun r3 v2 h => ?_)
  refine gd_iconst (x9 := 1) dX11_parts_11 (by decide) ?_
  refine gd_iconst (x9 := 0) dX11_parts_12 (by decide) ?_
  refine gd_callVI (As := [zI r3, zI 1, zI 0]) (rest := []) (dy := 2) (my := 0) (sy := 0) (k := 11) (i := 0) lX11_264 iX11_isFine sX11_isFine rfl dX11_parts_13 rfl rfl (gd_room (by omega) (by decide)) (by decide) (Nat.le_of_ble_eq_true rfl) h (fun r5 v4 h => ?_)
  refine gd_if_eq (tgt := 27) dX11_parts_16 (by decide) (fun hc => ?_) (fun hc => ?_)
  · have h := h.1 hc
    refine gd_iconst (x9 := 0) dX11_parts_27 (by decide) ?_
    exact gd_iret (ty := .int) dX11_parts_28 rfl rfl h
  · have h := h.2 hc
    refine gd_aload_n 0 dX11_parts_19 rfl rfl ?_
    refine gd_iload_n 1 dX11_parts_20 rfl rfl ?_
    refine gd_callVI (As := [zI a1]) (rest := []) (dy := 6) (my := 0) (sy := 0) (k := 11) (i := 0) lX11_391 iX11_partMany sX11_partMany rfl dX11_parts_21 rfl rfl (gd_room (by omega) (by decide)) (by decide) (Nat.le_of_ble_eq_true rfl) h (fun r7 v6 h => ?_)
    refine gd_goto (tgt := 28) dX11_parts_24 (by decide) ?_
    exact gd_iret (ty := .int) dX11_parts_28 rfl rfl h
theorem c_X11_parts {g : ab_E} {d : Nat} {a1 : Int32} {v : gd_D} {Q : ab_O → gd_D → Prop} (hd : 7 ≤ d) (h : wp_X11_parts g d a1 v Q) : gd_C g mX11_parts d 0 0 [zR 11 0, zI a1] v Q := gd_enterF (plainFor_of_name (by decide)) (Nat.le_of_ble_eq_true rfl) rfl (w_X11_parts hd h)
def wp_X11_chain_23 (g : ab_E) (d : Nat) (a1 : Int32) (a2 : Int32) (s1 : Int32) (v : gd_D) (Q : ab_O → gd_D → Prop) : Prop :=
  gd_C g mX11_isFine 2 0 0 [zR 11 0, zI s1, zI 1, zI 0] v (gd_rI (fun (r2 : Int32) v1 =>
    ((¬ (r2 : Int32) = 0) →
      gd_C g mX11_isAsked 3 0 0 [zR 11 0, zI a1] v1 (gd_rI (fun (r4 : Int32) v3 =>
        gd_C g mX11_orders 5 0 0 [zR 11 0] v3 (gd_rV (fun v5 =>
          gd_C g mX11_laysParts 4 0 0 [zR 11 0] v5 (gd_rV (fun v7 =>
            gd_G g mX11_chain d 0 0 50 [(0, zR 11 0), (1, zI a1), (2, zI a2), (3, zI r4), (4, zI 0)] [] v7 Q) (fun E v9 => Q (Sum.inr E) v9))) (fun E v9 => Q (Sum.inr E) v9))) (fun E v9 => Q (Sum.inr E) v9))) ∧
    (((r2 : Int32) = 0) →
      Q (Sum.inl (some (zI 0))) v1)) (fun E v9 => Q (Sum.inr E) v9))
theorem w_X11_chain_23 {g : ab_E} {d : Nat} {a1 : Int32} {a2 : Int32} {s1 : Int32} {v : gd_D} {Q : ab_O → gd_D → Prop} (hd : 6 ≤ d) (h : wp_X11_chain_23 g d a1 a2 s1 v Q) : gd_G g mX11_chain d 0 0 23 [(0, zR 11 0), (1, zI a1), (2, zI a2)] [zI s1, zR 11 0] v Q := by
  unfold wp_X11_chain_23 at h
  refine gd_iconst (x9 := 1) dX11_chain_23 (by decide) ?_
  refine gd_iconst (x9 := 0) dX11_chain_24 (by decide) ?_
  refine gd_callVI (As := [zI s1, zI 1, zI 0]) (rest := []) (dy := 2) (my := 0) (sy := 0) (k := 11) (i := 0) lX11_264 iX11_isFine sX11_isFine rfl dX11_chain_25 rfl rfl (gd_room (by omega) (by decide)) (by decide) (Nat.le_of_ble_eq_true rfl) h (fun r2 v1 h => ?_)
  refine gd_if_ne (tgt := 33) dX11_chain_28 (by decide) (fun hc => ?_) (fun hc => ?_)
  · have h := h.1 hc
    refine gd_aload_n 0 dX11_chain_33 rfl rfl ?_
    refine gd_iload_n 1 dX11_chain_34 rfl rfl ?_
    refine gd_callVI (As := [zI a1]) (rest := []) (dy := 3) (my := 0) (sy := 0) (k := 11) (i := 0) lX11_305 iX11_isAsked sX11_isAsked rfl dX11_chain_35 rfl rfl (gd_room (by omega) (by decide)) (by decide) (Nat.le_of_ble_eq_true rfl) h (fun r4 v3 h => ?_)
    refine gd_istore_n (L' := [(3, zI r4), (0, zR 11 0), (1, zI a1), (2, zI a2)]) dX11_chain_38 rfl (by decide) rfl ?_
    refine gd_aload_n 1 dX11_chain_39 rfl rfl ?_
    refine gd_callVV (As := []) (rest := []) (dy := 5) (my := 0) (sy := 0) (k := 11) (i := 0) lX11_345 iX11_orders sX11_orders rfl dX11_chain_40 rfl rfl (gd_room (by omega) (by decide)) (by decide) (Nat.le_of_ble_eq_true rfl) h (fun v5 h => ?_)
    refine gd_aload_n 1 dX11_chain_43 rfl rfl ?_
    refine gd_callVV (As := []) (rest := []) (dy := 4) (my := 0) (sy := 0) (k := 11) (i := 0) lX11_338 iX11_laysParts sX11_laysParts rfl dX11_chain_44 rfl rfl (gd_room (by omega) (by decide)) (by decide) (Nat.le_of_ble_eq_true rfl) h (fun v7 h => ?_)
    refine gd_iconst (x9 := 0) dX11_chain_47 (by decide) ?_
    refine gd_istore (L' := [(4, zI 0), (3, zI r4), (0, zR 11 0), (1, zI a1), (2, zI a2)]) dX11_chain_48 (by decide) rfl ?_
    refine gd_locals [2, 3, 4, 1, 0] rfl ?_
    exact h
  · have h := h.2 hc
    refine gd_iconst (x9 := 0) dX11_chain_31 (by decide) ?_
    exact gd_iret (ty := .int) dX11_chain_32 rfl rfl h
def wp_X11_chain_22 (g : ab_E) (d : Nat) (a1 : Int32) (a2 : Int32) (v : gd_D) (Q : ab_O → gd_D → Prop) : Prop :=
  wp_X11_chain_23 g d a1 a2 0 v Q
theorem w_X11_chain_22 {g : ab_E} {d : Nat} {a1 : Int32} {a2 : Int32} {v : gd_D} {Q : ab_O → gd_D → Prop} (hd : 6 ≤ d) (h : wp_X11_chain_22 g d a1 a2 v Q) : gd_G g mX11_chain d 0 0 22 [(0, zR 11 0), (1, zI a1), (2, zI a2)] [zR 11 0] v Q := by
  unfold wp_X11_chain_22 at h
  refine gd_iconst (x9 := 0) dX11_chain_22 (by decide) ?_
  exact w_X11_chain_23 (by omega) h
def wp_X11_chain (g : ab_E) (d : Nat) (a1 : Int32) (a2 : Int32) (v : gd_D) (Q : ab_O → gd_D → Prop) : Prop :=
  ∀ v1 : gd_D, v1 = gd_sI v 11 0 0 0 →
  gd_C g mX11_isSale 3 0 0 [zR 11 0, zI a1] v1 (gd_rI (fun (r3 : Int32) v2 =>
    (((r3 : Int32) = 0) →
      wp_X11_chain_22 g d a1 a2 v2 Q) ∧
    ((¬ (r3 : Int32) = 0) →
      (((a2 : Int32) < 0) →
        wp_X11_chain_22 g d a1 a2 v2 Q) ∧
      ((¬ (a2 : Int32) < 0) →
        wp_X11_chain_23 g d a1 a2 1 v2 Q))) (fun E v9 => Q (Sum.inr E) v9))
theorem w_X11_chain {g : ab_E} {d : Nat} {a1 : Int32} {a2 : Int32} {v : gd_D} {Q : ab_O → gd_D → Prop} (hd : 6 ≤ d) (h : wp_X11_chain g d a1 a2 v Q) : gd_G g mX11_chain d 0 0 0 [(0, zR 11 0), (1, zI a1), (2, zI a2)] [] v Q := by
  unfold wp_X11_chain at h
  refine gd_aload_n 0 dX11_chain_0 rfl rfl ?_
  refine gd_iconst (x9 := 0) dX11_chain_1 (by decide) ?_
  refine gd_putIn fX11_1 rfl rfl dX11_chain_2 (fun v1 ev1 => ?_)
  have h := h v1 ev1
  refine gd_aload_n 0 dX11_chain_5 rfl rfl ?_
  refine gd_aload_n 0 dX11_chain_6 rfl rfl ?_
  refine gd_iload_n 1 dX11_chain_7 rfl rfl ?_
  refine gd_callVI (As := [zI a1]) (rest := [zR 11 0]) (dy := 3) (my := 0) (sy := 0) (k := 11) (i := 0) lX11_378 iX11_isSale sX11_isSale rfl dX11_chain_8 rfl rfl (gd_room (by omega) (by decide)) (by decide) (Nat.le_of_ble_eq_true rfl) h (fun r3 v2 h => ?_)
  refine gd_if_eq (tgt := 22) dX11_chain_11 (by decide) (fun hc => ?_) (fun hc => ?_)
  · have h := h.1 hc
    exact w_X11_chain_22 (by omega) h
  · have h := h.2 hc
    refine gd_iload_n 2 dX11_chain_14 rfl rfl ?_
    refine gd_if_lt (tgt := 22) dX11_chain_15 (by decide) (fun hc => ?_) (fun hc => ?_)
    · have h := h.1 hc
      exact w_X11_chain_22 (by omega) h
    · have h := h.2 hc
      refine gd_iconst (x9 := 1) dX11_chain_18 (by decide) ?_
      refine gd_goto (tgt := 23) dX11_chain_19 (by decide) ?_
      exact w_X11_chain_23 (by omega) h
def wp_X11_chain_50 (g : ab_E) (d : Nat) (a1 : Int32) (a2 : Int32) (a3 : Int32) (a4 : Int32) (v : gd_D) (Q : ab_O → gd_D → Prop) : Prop :=
  (((24 : Int32) ≤ a4) →
    gd_G g mX11_chain d 0 0 77 [(0, zR 11 0), (2, zI a2), (3, zI a3), (4, zI a1), (5, zI 0)] [] v Q) ∧
  ((¬ (24 : Int32) ≤ a4) →
    vp_in a4 24 ∧
    ∀ v1 : gd_D, v1 = gd_sI v 55 0 ((a4 : Int32).toNatClampNeg) (vp_nar .boolean 0) →
    gd_G g mX11_chain d 0 0 50 [(0, zR 11 0), (1, zI a1), (2, zI a2), (3, zI a3), (4, zI (a4 + 1))] [] v1 Q)
theorem w_X11_chain_50 {g : ab_E} {d : Nat} {a1 : Int32} {a2 : Int32} {a3 : Int32} {a4 : Int32} {v : gd_D} {Q : ab_O → gd_D → Prop} (hd : 0 ≤ d) (h : wp_X11_chain_50 g d a1 a2 a3 a4 v Q) : gd_G g mX11_chain d 0 0 50 [(0, zR 11 0), (1, zI a1), (2, zI a2), (3, zI a3), (4, zI a4)] [] v Q := by
  unfold wp_X11_chain_50 at h
  refine gd_iload 4 dX11_chain_50 rfl ?_
  refine gd_bipush (x9 := 24) dX11_chain_52 (by decide) ?_
  refine gd_icmp_ge (tgt := 71) dX11_chain_54 (by decide) (fun hc => ?_) (fun hc => ?_)
  · have h := h.1 hc
    refine gd_iload_n 1 dX11_chain_71 rfl rfl ?_
    refine gd_istore (L' := [(4, zI a1), (0, zR 11 0), (1, zI a1), (2, zI a2), (3, zI a3)]) dX11_chain_72 (by decide) rfl ?_
    refine gd_iconst (x9 := 0) dX11_chain_74 (by decide) ?_
    refine gd_istore (L' := [(5, zI 0), (4, zI a1), (0, zR 11 0), (1, zI a1), (2, zI a2), (3, zI a3)]) dX11_chain_75 (by decide) rfl ?_
    refine gd_locals [2, 4, 5, 1, 0] rfl ?_
    exact h
  · have h := h.2 hc
    refine gd_aload_n 0 dX11_chain_57 rfl rfl ?_
    refine gd_getR (x := 0) (kr := 55) fX11_67 rfl rfl dX11_chain_58 rfl ?_
    refine gd_iload 4 dX11_chain_61 rfl ?_
    refine gd_iconst (x9 := 0) dX11_chain_63 (by decide) ?_
    obtain ⟨hb, h⟩ := h
    refine gd_zastoren (n := 24) (by decide) rfl rfl dX11_chain_64 rfl hb (fun v1 ev1 => ?_)
    have h := h v1 ev1
    refine gd_iinc (x9 := a4 + 1) (L' := [(4, zI (a4 + 1)), (0, zR 11 0), (1, zI a1), (2, zI a2), (3, zI a3)]) 4 dX11_chain_65 rfl rfl (by decide) rfl ?_
    refine gd_goto (tgt := 50) dX11_chain_68 (by decide) ?_
    refine gd_locals [1, 2, 3, 4, 0] rfl ?_
    exact h
def wp_X11_chain_125 (g : ab_E) (d : Nat) (a2 : Int32) (a4 : Int32) (a5 : Int32) (a6 : Int32) (s0 : Int32) (v : gd_D) (Q : ab_O → gd_D → Prop) : Prop :=
  (((s0 : Int32) = 0) →
    gd_G g mX11_chain d 0 0 77 [(0, zR 11 0), (2, zI a2), (3, zI s0), (4, zI a4), (5, zI (a5 + 1))] [] v Q) ∧
  ((¬ (s0 : Int32) = 0) →
    gd_G g mX11_chain d 0 0 77 [(0, zR 11 0), (2, zI a2), (3, zI s0), (4, zI a6), (5, zI (a5 + 1))] [] v Q)
theorem w_X11_chain_125 {g : ab_E} {d : Nat} {a2 : Int32} {a4 : Int32} {a5 : Int32} {a6 : Int32} {s0 : Int32} {v : gd_D} {Q : ab_O → gd_D → Prop} (hd : 0 ≤ d) (h : wp_X11_chain_125 g d a2 a4 a5 a6 s0 v Q) : gd_G g mX11_chain d 0 0 125 [(0, zR 11 0), (2, zI a2), (4, zI a4), (5, zI a5), (6, zI a6)] [zI s0] v Q := by
  unfold wp_X11_chain_125 at h
  refine gd_istore_n (L' := [(3, zI s0), (0, zR 11 0), (2, zI a2), (4, zI a4), (5, zI a5), (6, zI a6)]) dX11_chain_125 rfl (by decide) rfl ?_
  refine gd_iload_n 0 dX11_chain_126 rfl rfl ?_
  refine gd_if_eq (tgt := 135) dX11_chain_127 (by decide) (fun hc => ?_) (fun hc => ?_)
  · have h := h.1 hc
    refine gd_iload 3 dX11_chain_135 rfl ?_
    refine gd_istore (L' := [(4, zI a4), (3, zI s0), (0, zR 11 0), (2, zI a2), (5, zI a5), (6, zI a6)]) dX11_chain_137 (by decide) rfl ?_
    refine gd_iinc (x9 := a5 + 1) (L' := [(5, zI (a5 + 1)), (4, zI a4), (3, zI s0), (0, zR 11 0), (2, zI a2), (6, zI a6)]) 4 dX11_chain_139 rfl rfl (by decide) rfl ?_
    refine gd_goto (tgt := 77) dX11_chain_142 (by decide) ?_
    refine gd_locals [3, 4, 2, 1, 0] rfl ?_
    exact h
  · have h := h.2 hc
    refine gd_iload 5 dX11_chain_130 rfl ?_
    refine gd_goto (tgt := 137) dX11_chain_132 (by decide) ?_
    refine gd_istore (L' := [(4, zI a6), (3, zI s0), (0, zR 11 0), (2, zI a2), (5, zI a5), (6, zI a6)]) dX11_chain_137 (by decide) rfl ?_
    refine gd_iinc (x9 := a5 + 1) (L' := [(5, zI (a5 + 1)), (4, zI a6), (3, zI s0), (0, zR 11 0), (2, zI a2), (6, zI a6)]) 4 dX11_chain_139 rfl rfl (by decide) rfl ?_
    refine gd_goto (tgt := 77) dX11_chain_142 (by decide) ?_
    refine gd_locals [3, 4, 2, 1, 0] rfl ?_
    exact h
def wp_X11_chain_124 (g : ab_E) (d : Nat) (a2 : Int32) (a4 : Int32) (a5 : Int32) (a6 : Int32) (v : gd_D) (Q : ab_O → gd_D → Prop) : Prop :=
  wp_X11_chain_125 g d a2 a4 a5 a6 0 v Q
theorem w_X11_chain_124 {g : ab_E} {d : Nat} {a2 : Int32} {a4 : Int32} {a5 : Int32} {a6 : Int32} {v : gd_D} {Q : ab_O → gd_D → Prop} (hd : 0 ≤ d) (h : wp_X11_chain_124 g d a2 a4 a5 a6 v Q) : gd_G g mX11_chain d 0 0 124 [(0, zR 11 0), (2, zI a2), (4, zI a4), (5, zI a5), (6, zI a6)] [] v Q := by
  unfold wp_X11_chain_124 at h
  refine gd_iconst (x9 := 0) dX11_chain_124 (by decide) ?_
  exact w_X11_chain_125 (by omega) h
def wp_X11_chain_77 (g : ab_E) (d : Nat) (a2 : Int32) (a3 : Int32) (a4 : Int32) (a5 : Int32) (v : gd_D) (Q : ab_O → gd_D → Prop) : Prop :=
  (((a2 : Int32) ≤ a5) →
    gd_G g mX11_chain d 0 0 148 [(0, zR 11 0), (3, zI a3), (4, zI a4), (5, zI 0)] [] v Q) ∧
  ((¬ (a2 : Int32) ≤ a5) →
    (((a3 : Int32) = 0) →
      gd_G g mX11_chain d 0 0 148 [(0, zR 11 0), (3, zI a3), (4, zI a4), (5, zI 0)] [] v Q) ∧
    ((¬ (a3 : Int32) = 0) →
      vp_in a4 24 ∧
      ∀ v1 : gd_D, v1 = gd_sI v 55 0 ((a4 : Int32).toNatClampNeg) (vp_nar .boolean 1) →
      gd_C g mX11_partAt 3 0 0 [zR 11 0, zI a4, zI 0] v1 (gd_rI (fun (r3 : Int32) v2 =>
        (((r3 : Int32) = (-1)) →
          wp_X11_chain_124 g d a2 a4 a5 r3 v2 Q) ∧
        ((¬ (r3 : Int32) = (-1)) →
          vp_in r3 24 ∧
          ((¬ (v2.1 55 0 (r3 : Int32).toNatClampNeg : Int32) = 0) →
            wp_X11_chain_124 g d a2 a4 a5 r3 v2 Q) ∧
          (((v2.1 55 0 (r3 : Int32).toNatClampNeg : Int32) = 0) →
            wp_X11_chain_125 g d a2 a4 a5 r3 1 v2 Q))) (fun E v9 => Q (Sum.inr E) v9))))
theorem w_X11_chain_77 {g : ab_E} {d : Nat} {a2 : Int32} {a3 : Int32} {a4 : Int32} {a5 : Int32} {v : gd_D} {Q : ab_O → gd_D → Prop} (hd : 4 ≤ d) (h : wp_X11_chain_77 g d a2 a3 a4 a5 v Q) : gd_G g mX11_chain d 0 0 77 [(0, zR 11 0), (2, zI a2), (3, zI a3), (4, zI a4), (5, zI a5)] [] v Q := by
  unfold wp_X11_chain_77 at h
  refine gd_iload 4 dX11_chain_77 rfl ?_
  refine gd_iload_n 1 dX11_chain_79 rfl rfl ?_
  refine gd_icmp_ge (tgt := 145) dX11_chain_80 (by decide) (fun hc => ?_) (fun hc => ?_)
  · have h := h.1 hc
    refine gd_iconst (x9 := 0) dX11_chain_145 (by decide) ?_
    refine gd_istore (L' := [(5, zI 0), (0, zR 11 0), (2, zI a2), (3, zI a3), (4, zI a4)]) dX11_chain_146 (by decide) rfl ?_
    refine gd_locals [1, 3, 4, 0] rfl ?_
    exact h
  · have h := h.2 hc
    refine gd_iload_n 2 dX11_chain_83 rfl rfl ?_
    refine gd_if_eq (tgt := 145) dX11_chain_84 (by decide) (fun hc => ?_) (fun hc => ?_)
    · have h := h.1 hc
      refine gd_iconst (x9 := 0) dX11_chain_145 (by decide) ?_
      refine gd_istore (L' := [(5, zI 0), (0, zR 11 0), (2, zI a2), (3, zI a3), (4, zI a4)]) dX11_chain_146 (by decide) rfl ?_
      refine gd_locals [1, 3, 4, 0] rfl ?_
      exact h
    · have h := h.2 hc
      refine gd_aload_n 0 dX11_chain_87 rfl rfl ?_
      refine gd_getR (x := 0) (kr := 55) fX11_67 rfl rfl dX11_chain_88 rfl ?_
      refine gd_iload 3 dX11_chain_91 rfl ?_
      refine gd_iconst (x9 := 1) dX11_chain_93 (by decide) ?_
      obtain ⟨hb, h⟩ := h
      refine gd_zastoren (n := 24) (by decide) rfl rfl dX11_chain_94 rfl hb (fun v1 ev1 => ?_)
      have h := h v1 ev1
      refine gd_aload_n 0 dX11_chain_95 rfl rfl ?_
      refine gd_iload 3 dX11_chain_96 rfl ?_
      refine gd_iconst (x9 := 0) dX11_chain_98 (by decide) ?_
      refine gd_callVI (As := [zI a4, zI 0]) (rest := []) (dy := 3) (my := 0) (sy := 0) (k := 11) (i := 0) lX11_332 iX11_partAt sX11_partAt rfl dX11_chain_99 rfl rfl (gd_room (by omega) (by decide)) (by decide) (Nat.le_of_ble_eq_true rfl) h (fun r3 v2 h => ?_)
      refine gd_istore (L' := [(6, zI r3), (0, zR 11 0), (2, zI a2), (3, zI a3), (4, zI a4), (5, zI a5)]) dX11_chain_102 (by decide) rfl ?_
      refine gd_iload 0 dX11_chain_104 rfl ?_
      refine gd_iconst (x9 := (-1)) dX11_chain_106 (by decide) ?_
      refine gd_icmp_eq (tgt := 124) dX11_chain_107 (by decide) (fun hc => ?_) (fun hc => ?_)
      · have h := h.1 hc
        refine gd_locals [1, 2, 4, 5, 0] rfl ?_
        exact w_X11_chain_124 (by omega) h
      · have h := h.2 hc
        refine gd_aload_n 1 dX11_chain_110 rfl rfl ?_
        refine gd_getR (x := 0) (kr := 55) fX11_67 rfl rfl dX11_chain_111 rfl ?_
        refine gd_iload 0 dX11_chain_114 rfl ?_
        obtain ⟨hb, h⟩ := h
        refine gd_zaload (n := 24) (by decide) rfl dX11_chain_116 rfl hb ?_
        refine gd_if_ne (tgt := 124) dX11_chain_117 (by decide) (fun hc => ?_) (fun hc => ?_)
        · have h := h.1 hc
          refine gd_locals [1, 2, 4, 5, 0] rfl ?_
          exact w_X11_chain_124 (by omega) h
        · have h := h.2 hc
          refine gd_iconst (x9 := 1) dX11_chain_120 (by decide) ?_
          refine gd_goto (tgt := 125) dX11_chain_121 (by decide) ?_
          refine gd_locals [1, 2, 4, 5, 0] rfl ?_
          exact w_X11_chain_125 (by omega) h
def wp_X11_chain_148 (g : ab_E) (d : Nat) (a3 : Int32) (a4 : Int32) (a5 : Int32) (v : gd_D) (Q : ab_O → gd_D → Prop) : Prop :=
  (((24 : Int32) ≤ a5) →
    gd_C g mX11_isFine 2 0 0 [zR 11 0, zI a3, zI 1, zI 0] v (gd_rI (fun (r2 : Int32) v1 =>
      (((r2 : Int32) = 0) →
        Q (Sum.inl (some (zI 0))) v1) ∧
      ((¬ (r2 : Int32) = 0) →
        Q (Sum.inl (some (zI a4))) v1)) (fun E v9 => Q (Sum.inr E) v9))) ∧
  ((¬ (24 : Int32) ≤ a5) →
    vp_in a5 24 ∧
    ∀ v3 : gd_D, v3 = gd_sI v 55 0 ((a5 : Int32).toNatClampNeg) (vp_nar .boolean 0) →
    gd_G g mX11_chain d 0 0 148 [(0, zR 11 0), (3, zI a3), (4, zI a4), (5, zI (a5 + 1))] [] v3 Q)
theorem w_X11_chain_148 {g : ab_E} {d : Nat} {a3 : Int32} {a4 : Int32} {a5 : Int32} {v : gd_D} {Q : ab_O → gd_D → Prop} (hd : 3 ≤ d) (h : wp_X11_chain_148 g d a3 a4 a5 v Q) : gd_G g mX11_chain d 0 0 148 [(0, zR 11 0), (3, zI a3), (4, zI a4), (5, zI a5)] [] v Q := by
  unfold wp_X11_chain_148 at h
  refine gd_iload 3 dX11_chain_148 rfl ?_
  refine gd_bipush (x9 := 24) dX11_chain_150 (by decide) ?_
  refine gd_icmp_ge (tgt := 169) dX11_chain_152 (by decide) (fun hc => ?_) (fun hc => ?_)
  · have h := h.1 hc
    refine gd_aload_n 0 dX11_chain_169 rfl rfl ?_
    refine gd_iload_n 1 dX11_chain_170 rfl rfl ?_
    refine gd_iconst (x9 := 1) dX11_chain_171 (by decide) ?_
    refine gd_iconst (x9 := 0) dX11_chain_172 (by decide) ?_
    refine gd_callVI (As := [zI a3, zI 1, zI 0]) (rest := []) (dy := 2) (my := 0) (sy := 0) (k := 11) (i := 0) lX11_264 iX11_isFine sX11_isFine rfl dX11_chain_173 rfl rfl (gd_room (by omega) (by decide)) (by decide) (Nat.le_of_ble_eq_true rfl) h (fun r2 v1 h => ?_)
    refine gd_if_eq (tgt := 184) dX11_chain_176 (by decide) (fun hc => ?_) (fun hc => ?_)
    · have h := h.1 hc
      refine gd_iconst (x9 := 0) dX11_chain_184 (by decide) ?_
      exact gd_iret (ty := .int) dX11_chain_185 rfl rfl h
    · have h := h.2 hc
      refine gd_iload 2 dX11_chain_179 rfl ?_
      refine gd_goto (tgt := 185) dX11_chain_181 (by decide) ?_
      exact gd_iret (ty := .int) dX11_chain_185 rfl rfl h
  · have h := h.2 hc
    refine gd_aload_n 0 dX11_chain_155 rfl rfl ?_
    refine gd_getR (x := 0) (kr := 55) fX11_67 rfl rfl dX11_chain_156 rfl ?_
    refine gd_iload 3 dX11_chain_159 rfl ?_
    refine gd_iconst (x9 := 0) dX11_chain_161 (by decide) ?_
    obtain ⟨hb, h⟩ := h
    refine gd_zastoren (n := 24) (by decide) rfl rfl dX11_chain_162 rfl hb (fun v3 ev3 => ?_)
    have h := h v3 ev3
    refine gd_iinc (x9 := a5 + 1) (L' := [(5, zI (a5 + 1)), (0, zR 11 0), (3, zI a3), (4, zI a4)]) 3 dX11_chain_163 rfl rfl (by decide) rfl ?_
    refine gd_goto (tgt := 148) dX11_chain_166 (by decide) ?_
    refine gd_locals [1, 2, 3, 0] rfl ?_
    exact h
theorem c_X11_chain {g : ab_E} {d : Nat} {a1 : Int32} {a2 : Int32} {v : gd_D} {Q : ab_O → gd_D → Prop} (hd : 6 ≤ d) (h : wp_X11_chain g d a1 a2 v Q) : gd_C g mX11_chain d 0 0 [zR 11 0, zI a1, zI a2] v Q := gd_enterF (plainFor_of_name (by decide)) (Nat.le_of_ble_eq_true rfl) rfl (w_X11_chain hd h)
def wp_X11_ring (g : ab_E) (d : Nat) (a1 : Int32) (v : gd_D) (Q : ab_O → gd_D → Prop) : Prop :=
  ∀ v1 : gd_D, v1 = gd_sI v 11 0 0 0 →
  gd_C g mX11_lies 2 0 0 [zJ ((a1 : Int32).toInt64), zJ 0, zJ 9] v1 (gd_rI (fun (r3 : Int32) v2 =>
    gd_C g mX11_isFine 2 0 0 [zR 11 0, zI r3, zI 1, zI 1] v2 (gd_rI (fun (r5 : Int32) v4 =>
      ((¬ (r5 : Int32) = 0) →
        gd_C g mX11_orders 5 0 0 [zR 11 0] v4 (gd_rV (fun v6 =>
          gd_C g mX11_finds 6 0 0 [zR 11 0] v6 (gd_rI (fun (r9 : Int32) v8 =>
            ((¬ (r9 : Int32) = 0) →
              ((¬ (a1 : Int32) = 0) →
                ((¬ (a1 : Int32) = 1) →
                  (((v8.1 11 0 22 : Int32) ≤ (a1 - 2)) →
                    Q (Sum.inl (some (zI (-1)))) v8) ∧
                  ((¬ (v8.1 11 0 22 : Int32) ≤ (a1 - 2)) →
                    vp_in (a1 - 2) 8 ∧
                    Q (Sum.inl (some (zI (v8.1 49 0 (a1 - 2 : Int32).toNatClampNeg)))) v8)) ∧
                (((a1 : Int32) = 1) →
                  gd_C g mX11_ringUnits 3 0 0 [zR 11 0] v8 (gd_rI (fun (r11 : Int32) v10 =>
                    Q (Sum.inl (some (zI r11))) v10) (fun E v9 => Q (Sum.inr E) v9)))) ∧
              (((a1 : Int32) = 0) →
                Q (Sum.inl (some (zI (v8.1 11 0 22)))) v8)) ∧
            (((r9 : Int32) = 0) →
              Q (Sum.inl (some (zI (-1)))) v8)) (fun E v9 => Q (Sum.inr E) v9))) (fun E v9 => Q (Sum.inr E) v9))) ∧
      (((r5 : Int32) = 0) →
        Q (Sum.inl (some (zI 0))) v4)) (fun E v9 => Q (Sum.inr E) v9))) (fun E v9 => Q (Sum.inr E) v9))
theorem w_X11_ring {g : ab_E} {d : Nat} {a1 : Int32} {v : gd_D} {Q : ab_O → gd_D → Prop} (hd : 7 ≤ d) (h : wp_X11_ring g d a1 v Q) : gd_G g mX11_ring d 0 0 0 [(0, zR 11 0), (1, zI a1)] [] v Q := by
  unfold wp_X11_ring at h
  refine gd_aload_n 0 dX11_ring_0 rfl rfl ?_
  refine gd_iconst (x9 := 0) dX11_ring_1 (by decide) ?_
  refine gd_putIn fX11_1 rfl rfl dX11_ring_2 (fun v1 ev1 => ?_)
  have h := h v1 ev1
  refine gd_aload_n 0 dX11_ring_5 rfl rfl ?_
  refine gd_iload_n 1 dX11_ring_6 rfl rfl ?_
  refine gd_i2l dX11_ring_7 ?_
  refine gd_lconst (x9 := 0) dX11_ring_8 (by decide) ?_
  refine gd_ldc2 kX11_394 dX11_ring_9 ?_
  refine gd_callSI (As := [zJ ((a1 : Int32).toInt64), zJ 0, zJ 9]) (rest := [zR 11 0]) (dy := 2) (my := 0) (sy := 0) lX11_164 tX11_lies dX11_ring_12 rfl rfl (gd_room (by omega) (by decide)) (by decide) (Nat.le_of_ble_eq_true rfl) h (fun r3 v2 h => ?_)
  refine gd_iconst (x9 := 1) dX11_ring_15 (by decide) ?_
  refine gd_iconst (x9 := 1) dX11_ring_16 (by decide) ?_
  refine gd_callVI (As := [zI r3, zI 1, zI 1]) (rest := []) (dy := 2) (my := 0) (sy := 0) (k := 11) (i := 0) lX11_264 iX11_isFine sX11_isFine rfl dX11_ring_17 rfl rfl (gd_room (by omega) (by decide)) (by decide) (Nat.le_of_ble_eq_true rfl) h (fun r5 v4 h => ?_)
  refine gd_if_ne (tgt := 25) dX11_ring_20 (by decide) (fun hc => ?_) (fun hc => ?_)
  · have h := h.1 hc
    refine gd_aload_n 0 dX11_ring_25 rfl rfl ?_
    refine gd_callVV (As := []) (rest := []) (dy := 5) (my := 0) (sy := 0) (k := 11) (i := 0) lX11_345 iX11_orders sX11_orders rfl dX11_ring_26 rfl rfl (gd_room (by omega) (by decide)) (by decide) (Nat.le_of_ble_eq_true rfl) h (fun v6 h => ?_)
    refine gd_aload_n 0 dX11_ring_29 rfl rfl ?_
    refine gd_callVI (As := []) (rest := []) (dy := 6) (my := 0) (sy := 0) (k := 11) (i := 0) lX11_348 iX11_finds sX11_finds rfl dX11_ring_30 rfl rfl (gd_room (by omega) (by decide)) (by decide) (Nat.le_of_ble_eq_true rfl) h (fun r9 v8 h => ?_)
    refine gd_if_ne (tgt := 38) dX11_ring_33 (by decide) (fun hc => ?_) (fun hc => ?_)
    · have h := h.1 hc
      refine gd_iload_n 1 dX11_ring_38 rfl rfl ?_
      refine gd_if_ne (tgt := 49) dX11_ring_39 (by decide) (fun hc => ?_) (fun hc => ?_)
      · have h := h.1 hc
        refine gd_iload_n 1 dX11_ring_49 rfl rfl ?_
        refine gd_iconst (x9 := 1) dX11_ring_50 (by decide) ?_
        refine gd_icmp_ne (tgt := 61) dX11_ring_51 (by decide) (fun hc => ?_) (fun hc => ?_)
        · have h := h.1 hc
          refine gd_iload_n 1 dX11_ring_61 rfl rfl ?_
          refine gd_iconst (x9 := 2) dX11_ring_62 (by decide) ?_
          refine gd_isub dX11_ring_63 ?_
          refine gd_aload_n 0 dX11_ring_64 rfl rfl ?_
          refine gd_getI fX11_308 rfl dX11_ring_65 ?_
          refine gd_icmp_ge (tgt := 82) dX11_ring_68 (by decide) (fun hc => ?_) (fun hc => ?_)
          · have h := h.1 hc
            refine gd_iconst (x9 := (-1)) dX11_ring_82 (by decide) ?_
            exact gd_iret (ty := .int) dX11_ring_83 rfl rfl h
          · have h := h.2 hc
            refine gd_aload_n 0 dX11_ring_71 rfl rfl ?_
            refine gd_getR (x := 0) (kr := 49) fX11_49 rfl rfl dX11_ring_72 rfl ?_
            refine gd_iload_n 1 dX11_ring_75 rfl rfl ?_
            refine gd_iconst (x9 := 2) dX11_ring_76 (by decide) ?_
            refine gd_isub dX11_ring_77 ?_
            obtain ⟨hb, h⟩ := h
            refine gd_iaload (n := 8) (by decide) rfl dX11_ring_78 rfl hb ?_
            refine gd_goto (tgt := 83) dX11_ring_79 (by decide) ?_
            exact gd_iret (ty := .int) dX11_ring_83 rfl rfl h
        · have h := h.2 hc
          refine gd_aload_n 0 dX11_ring_54 rfl rfl ?_
          refine gd_callVI (As := []) (rest := []) (dy := 3) (my := 0) (sy := 0) (k := 11) (i := 0) lX11_351 iX11_ringUnits sX11_ringUnits rfl dX11_ring_55 rfl rfl (gd_room (by omega) (by decide)) (by decide) (Nat.le_of_ble_eq_true rfl) h (fun r11 v10 h => ?_)
          refine gd_goto (tgt := 83) dX11_ring_58 (by decide) ?_
          exact gd_iret (ty := .int) dX11_ring_83 rfl rfl h
      · have h := h.2 hc
        refine gd_aload_n 0 dX11_ring_42 rfl rfl ?_
        refine gd_getI fX11_308 rfl dX11_ring_43 ?_
        refine gd_goto (tgt := 83) dX11_ring_46 (by decide) ?_
        exact gd_iret (ty := .int) dX11_ring_83 rfl rfl h
    · have h := h.2 hc
      refine gd_iconst (x9 := (-1)) dX11_ring_36 (by decide) ?_
      exact gd_iret (ty := .int) dX11_ring_37 rfl rfl h
  · have h := h.2 hc
    refine gd_iconst (x9 := 0) dX11_ring_23 (by decide) ?_
    exact gd_iret (ty := .int) dX11_ring_24 rfl rfl h
theorem c_X11_ring {g : ab_E} {d : Nat} {a1 : Int32} {v : gd_D} {Q : ab_O → gd_D → Prop} (hd : 7 ≤ d) (h : wp_X11_ring g d a1 v Q) : gd_C g mX11_ring d 0 0 [zR 11 0, zI a1] v Q := gd_enterF (plainFor_of_name (by decide)) (Nat.le_of_ble_eq_true rfl) rfl (w_X11_ring hd h)
def wp_X11_edge (g : ab_E) (d : Nat) (a1 : Int32) (a2 : Int32) (a3 : Int64) (a5 : Int64) (v : gd_D) (Q : ab_O → gd_D → Prop) : Prop :=
  vp_in (v.1 11 0 38) 40 ∧
  ∀ v1 : gd_D, v1 = gd_sI v 56 0 ((v.1 11 0 38 : Int32).toNatClampNeg) a1 →
  vp_in (v1.1 11 0 38) 40 ∧
  ∀ v2 : gd_D, v2 = gd_sI v1 57 0 ((v1.1 11 0 38 : Int32).toNatClampNeg) a2 →
  vp_in (v2.1 11 0 38) 40 ∧
  ∀ v3 : gd_D, v3 = gd_sJ v2 59 0 ((v2.1 11 0 38 : Int32).toNatClampNeg) a3 →
  vp_in (v3.1 11 0 38) 40 ∧
  ∀ v4 : gd_D, v4 = gd_sJ v3 60 0 ((v3.1 11 0 38 : Int32).toNatClampNeg) 0 →
  vp_in (v4.1 11 0 38) 40 ∧
  ∀ v5 : gd_D, v5 = gd_sJ v4 61 0 ((v4.1 11 0 38 : Int32).toNatClampNeg) a5 →
  ∀ v6 : gd_D, v6 = gd_sI v5 11 0 38 ((v5.1 11 0 38) + 1) →
  Q (Sum.inl none) v6
theorem w_X11_edge {g : ab_E} {d : Nat} {a1 : Int32} {a2 : Int32} {a3 : Int64} {a5 : Int64} {v : gd_D} {Q : ab_O → gd_D → Prop} (hd : 0 ≤ d) (h : wp_X11_edge g d a1 a2 a3 a5 v Q) : gd_G g mX11_edge d 0 0 0 [(0, zR 11 0), (1, zI a1), (2, zI a2), (3, zJ a3), (5, zJ a5)] [] v Q := by
  unfold wp_X11_edge at h
  refine gd_aload_n 0 dX11_edge_0 rfl rfl ?_
  refine gd_getR (x := 0) (kr := 56) fX11_71 rfl rfl dX11_edge_1 rfl ?_
  refine gd_aload_n 0 dX11_edge_4 rfl rfl ?_
  refine gd_getI fX11_396 rfl dX11_edge_5 ?_
  refine gd_iload_n 1 dX11_edge_8 rfl rfl ?_
  obtain ⟨hb, h⟩ := h
  refine gd_iastoren (n := 40) (by decide) rfl rfl dX11_edge_9 rfl hb (fun v1 ev1 => ?_)
  have h := h v1 ev1
  refine gd_aload_n 0 dX11_edge_10 rfl rfl ?_
  refine gd_getR (x := 0) (kr := 57) fX11_74 rfl rfl dX11_edge_11 rfl ?_
  refine gd_aload_n 0 dX11_edge_14 rfl rfl ?_
  refine gd_getI fX11_396 rfl dX11_edge_15 ?_
  refine gd_iload_n 2 dX11_edge_18 rfl rfl ?_
  obtain ⟨hb, h⟩ := h
  refine gd_iastoren (n := 40) (by decide) rfl rfl dX11_edge_19 rfl hb (fun v2 ev2 => ?_)
  have h := h v2 ev2
  refine gd_aload_n 0 dX11_edge_20 rfl rfl ?_
  refine gd_getR (x := 0) (kr := 59) fX11_80 rfl rfl dX11_edge_21 rfl ?_
  refine gd_aload_n 0 dX11_edge_24 rfl rfl ?_
  refine gd_getI fX11_396 rfl dX11_edge_25 ?_
  refine gd_lload_n 3 dX11_edge_28 rfl rfl ?_
  obtain ⟨hb, h⟩ := h
  refine gd_lastoren (n := 40) (by decide) rfl rfl dX11_edge_29 rfl hb (fun v3 ev3 => ?_)
  have h := h v3 ev3
  refine gd_aload_n 0 dX11_edge_30 rfl rfl ?_
  refine gd_getR (x := 0) (kr := 60) fX11_83 rfl rfl dX11_edge_31 rfl ?_
  refine gd_aload_n 0 dX11_edge_34 rfl rfl ?_
  refine gd_getI fX11_396 rfl dX11_edge_35 ?_
  refine gd_lconst (x9 := 0) dX11_edge_38 (by decide) ?_
  obtain ⟨hb, h⟩ := h
  refine gd_lastoren (n := 40) (by decide) rfl rfl dX11_edge_39 rfl hb (fun v4 ev4 => ?_)
  have h := h v4 ev4
  refine gd_aload_n 0 dX11_edge_40 rfl rfl ?_
  refine gd_getR (x := 0) (kr := 61) fX11_86 rfl rfl dX11_edge_41 rfl ?_
  refine gd_aload_n 0 dX11_edge_44 rfl rfl ?_
  refine gd_getI fX11_396 rfl dX11_edge_45 ?_
  refine gd_lload 4 dX11_edge_48 rfl ?_
  obtain ⟨hb, h⟩ := h
  refine gd_lastoren (n := 40) (by decide) rfl rfl dX11_edge_50 rfl hb (fun v5 ev5 => ?_)
  have h := h v5 ev5
  refine gd_aload_n 0 dX11_edge_51 rfl rfl ?_
  refine gd_dup dX11_edge_52 rfl ?_
  refine gd_getI fX11_396 rfl dX11_edge_53 ?_
  refine gd_iconst (x9 := 1) dX11_edge_56 (by decide) ?_
  refine gd_iadd dX11_edge_57 ?_
  refine gd_putIn fX11_396 rfl rfl dX11_edge_58 (fun v6 ev6 => ?_)
  have h := h v6 ev6
  exact gd_vret dX11_edge_61 rfl h
theorem c_X11_edge {g : ab_E} {d : Nat} {a1 : Int32} {a2 : Int32} {a3 : Int64} {a5 : Int64} {v : gd_D} {Q : ab_O → gd_D → Prop} (hd : 0 ≤ d) (h : wp_X11_edge g d a1 a2 a3 a5 v Q) : gd_C g mX11_edge d 0 0 [zR 11 0, zI a1, zI a2, zJ a3, zJ a5] v Q := gd_enterF (plainFor_of_name (by decide)) (Nat.le_of_ble_eq_true rfl) rfl (w_X11_edge hd h)
def wp_X11_laysNet (g : ab_E) (d : Nat) (a1 : Int32) (v : gd_D) (Q : ab_O → gd_D → Prop) : Prop :=
  ∀ v1 : gd_D, v1 = gd_sI v 11 0 38 0 →
  gd_G g mX11_laysNet d 0 0 7 [(0, zR 11 0), (1, zI a1), (2, zI 0)] [] v1 Q
theorem w_X11_laysNet {g : ab_E} {d : Nat} {a1 : Int32} {v : gd_D} {Q : ab_O → gd_D → Prop} (hd : 0 ≤ d) (h : wp_X11_laysNet g d a1 v Q) : gd_G g mX11_laysNet d 0 0 0 [(0, zR 11 0), (1, zI a1)] [] v Q := by
  unfold wp_X11_laysNet at h
  refine gd_aload_n 0 dX11_laysNet_0 rfl rfl ?_
  refine gd_iconst (x9 := 0) dX11_laysNet_1 (by decide) ?_
  refine gd_putIn fX11_396 rfl rfl dX11_laysNet_2 (fun v1 ev1 => ?_)
  have h := h v1 ev1
  refine gd_iconst (x9 := 0) dX11_laysNet_5 (by decide) ?_
  refine gd_istore_n (L' := [(2, zI 0), (0, zR 11 0), (1, zI a1)]) dX11_laysNet_6 rfl (by decide) rfl ?_
  refine gd_locals [1, 2, 0] rfl ?_
  exact h
def wp_X11_laysNet_62 (g : ab_E) (d : Nat) (a1 : Int32) (a2 : Int32) (s1 : Int32) (s2 : Int32) (s3 : Int64) (s4 : Int64) (v : gd_D) (Q : ab_O → gd_D → Prop) : Prop :=
  gd_C g mX11_edge 2 0 0 [zR 11 0, zI s1, zI s2, zJ s3, zJ s4] v (gd_rV (fun v1 =>
    gd_G g mX11_laysNet d 0 0 7 [(0, zR 11 0), (1, zI a1), (2, zI (a2 + 1))] [] v1 Q) (fun E v9 => Q (Sum.inr E) v9))
theorem w_X11_laysNet_62 {g : ab_E} {d : Nat} {a1 : Int32} {a2 : Int32} {s1 : Int32} {s2 : Int32} {s3 : Int64} {s4 : Int64} {v : gd_D} {Q : ab_O → gd_D → Prop} (hd : 3 ≤ d) (h : wp_X11_laysNet_62 g d a1 a2 s1 s2 s3 s4 v Q) : gd_G g mX11_laysNet d 0 0 62 [(0, zR 11 0), (1, zI a1), (2, zI a2)] [zJ s4, zJ s3, zI s2, zI s1, zR 11 0] v Q := by
  unfold wp_X11_laysNet_62 at h
  refine gd_callVV (As := [zI s1, zI s2, zJ s3, zJ s4]) (rest := []) (dy := 2) (my := 0) (sy := 0) (k := 11) (i := 0) lX11_399 iX11_edge sX11_edge rfl dX11_laysNet_62 rfl rfl (gd_room (by omega) (by decide)) (by decide) (Nat.le_of_ble_eq_true rfl) h (fun v1 h => ?_)
  refine gd_iinc (x9 := a2 + 1) (L' := [(2, zI (a2 + 1)), (0, zR 11 0), (1, zI a1)]) 2 dX11_laysNet_65 rfl rfl (by decide) rfl ?_
  refine gd_goto (tgt := 7) dX11_laysNet_68 (by decide) ?_
  refine gd_locals [1, 2, 0] rfl ?_
  exact h
def wp_X11_laysNet_47 (g : ab_E) (d : Nat) (a1 : Int32) (a2 : Int32) (s1 : Int32) (s2 : Int32) (s3 : Int64) (v : gd_D) (Q : ab_O → gd_D → Prop) : Prop :=
  (((a1 : Int32) = 0) →
    wp_X11_laysNet_62 g d a1 a2 s1 s2 s3 1 v Q) ∧
  ((¬ (a1 : Int32) = 0) →
    gd_C g mX11_of0 2 0 0 [zR 11 0, zI a2, zI 3] v (gd_rI (fun (r2 : Int32) v1 =>
      wp_X11_laysNet_62 g d a1 a2 s1 s2 s3 ((r2 : Int32).toInt64) v1 Q) (fun E v9 => Q (Sum.inr E) v9)))
theorem w_X11_laysNet_47 {g : ab_E} {d : Nat} {a1 : Int32} {a2 : Int32} {s1 : Int32} {s2 : Int32} {s3 : Int64} {v : gd_D} {Q : ab_O → gd_D → Prop} (hd : 3 ≤ d) (h : wp_X11_laysNet_47 g d a1 a2 s1 s2 s3 v Q) : gd_G g mX11_laysNet d 0 0 47 [(0, zR 11 0), (1, zI a1), (2, zI a2)] [zJ s3, zI s2, zI s1, zR 11 0] v Q := by
  unfold wp_X11_laysNet_47 at h
  refine gd_iload_n 1 dX11_laysNet_47 rfl rfl ?_
  refine gd_if_eq (tgt := 61) dX11_laysNet_48 (by decide) (fun hc => ?_) (fun hc => ?_)
  · have h := h.1 hc
    refine gd_lconst (x9 := 1) dX11_laysNet_61 (by decide) ?_
    exact w_X11_laysNet_62 (by omega) h
  · have h := h.2 hc
    refine gd_aload_n 0 dX11_laysNet_51 rfl rfl ?_
    refine gd_iload_n 2 dX11_laysNet_52 rfl rfl ?_
    refine gd_iconst (x9 := 3) dX11_laysNet_53 (by decide) ?_
    refine gd_callVI (As := [zI a2, zI 3]) (rest := [zJ s3, zI s2, zI s1, zR 11 0]) (dy := 2) (my := 0) (sy := 0) (k := 11) (i := 0) lX11_289 iX11_of0 sX11_of0 rfl dX11_laysNet_54 rfl rfl (gd_room (by omega) (by decide)) (by decide) (Nat.le_of_ble_eq_true rfl) h (fun r2 v1 h => ?_)
    refine gd_i2l dX11_laysNet_57 ?_
    refine gd_goto (tgt := 62) dX11_laysNet_58 (by decide) ?_
    exact w_X11_laysNet_62 (by omega) h
def wp_X11_laysNet_7 (g : ab_E) (d : Nat) (a1 : Int32) (a2 : Int32) (v : gd_D) (Q : ab_O → gd_D → Prop) : Prop :=
  gd_C g mX11_sales 2 0 0 [zR 11 0] v (gd_rI (fun (r2 : Int32) v1 =>
    (((r2 : Int32) ≤ a2) →
      gd_G g mX11_laysNet d 0 0 73 [(0, zR 11 0), (2, zI 0)] [] v1 Q) ∧
    ((¬ (r2 : Int32) ≤ a2) →
      gd_C g mX11_of0 2 0 0 [zR 11 0, zI a2, zI 0] v1 (gd_rI (fun (r4 : Int32) v3 =>
        gd_C g mX11_of0 2 0 0 [zR 11 0, zI a2, zI 1] v3 (gd_rI (fun (r6 : Int32) v5 =>
          gd_C g mX11_isAsked 3 0 0 [zR 11 0, zI a2] v5 (gd_rI (fun (r8 : Int32) v7 =>
            (((r8 : Int32) = 0) →
              wp_X11_laysNet_47 g d a1 a2 r4 r6 0 v7 Q) ∧
            ((¬ (r8 : Int32) = 0) →
              gd_C g mX11_of0 2 0 0 [zR 11 0, zI a2, zI 5] v7 (gd_rI (fun (r10 : Int32) v9 =>
                wp_X11_laysNet_47 g d a1 a2 r4 r6 ((r10 : Int32).toInt64) v9 Q) (fun E v9 => Q (Sum.inr E) v9)))) (fun E v9 => Q (Sum.inr E) v9))) (fun E v9 => Q (Sum.inr E) v9))) (fun E v9 => Q (Sum.inr E) v9)))) (fun E v9 => Q (Sum.inr E) v9))
theorem w_X11_laysNet_7 {g : ab_E} {d : Nat} {a1 : Int32} {a2 : Int32} {v : gd_D} {Q : ab_O → gd_D → Prop} (hd : 4 ≤ d) (h : wp_X11_laysNet_7 g d a1 a2 v Q) : gd_G g mX11_laysNet d 0 0 7 [(0, zR 11 0), (1, zI a1), (2, zI a2)] [] v Q := by
  unfold wp_X11_laysNet_7 at h
  refine gd_iload_n 2 dX11_laysNet_7 rfl rfl ?_
  refine gd_aload_n 0 dX11_laysNet_8 rfl rfl ?_
  refine gd_callVI (As := []) (rest := [zI a2]) (dy := 2) (my := 0) (sy := 0) (k := 11) (i := 0) lX11_278 iX11_sales sX11_sales rfl dX11_laysNet_9 rfl rfl (gd_room (by omega) (by decide)) (by decide) (Nat.le_of_ble_eq_true rfl) h (fun r2 v1 h => ?_)
  refine gd_icmp_ge (tgt := 71) dX11_laysNet_12 (by decide) (fun hc => ?_) (fun hc => ?_)
  · have h := h.1 hc
    refine gd_iconst (x9 := 0) dX11_laysNet_71 (by decide) ?_
    refine gd_istore_n (L' := [(2, zI 0), (0, zR 11 0), (1, zI a1)]) dX11_laysNet_72 rfl (by decide) rfl ?_
    refine gd_locals [1, 0] rfl ?_
    exact h
  · have h := h.2 hc
    refine gd_aload_n 0 dX11_laysNet_15 rfl rfl ?_
    refine gd_aload_n 0 dX11_laysNet_16 rfl rfl ?_
    refine gd_iload_n 2 dX11_laysNet_17 rfl rfl ?_
    refine gd_iconst (x9 := 0) dX11_laysNet_18 (by decide) ?_
    refine gd_callVI (As := [zI a2, zI 0]) (rest := [zR 11 0]) (dy := 2) (my := 0) (sy := 0) (k := 11) (i := 0) lX11_289 iX11_of0 sX11_of0 rfl dX11_laysNet_19 rfl rfl (gd_room (by omega) (by decide)) (by decide) (Nat.le_of_ble_eq_true rfl) h (fun r4 v3 h => ?_)
    refine gd_aload_n 0 dX11_laysNet_22 rfl rfl ?_
    refine gd_iload_n 2 dX11_laysNet_23 rfl rfl ?_
    refine gd_iconst (x9 := 1) dX11_laysNet_24 (by decide) ?_
    refine gd_callVI (As := [zI a2, zI 1]) (rest := [zI r4, zR 11 0]) (dy := 2) (my := 0) (sy := 0) (k := 11) (i := 0) lX11_289 iX11_of0 sX11_of0 rfl dX11_laysNet_25 rfl rfl (gd_room (by omega) (by decide)) (by decide) (Nat.le_of_ble_eq_true rfl) h (fun r6 v5 h => ?_)
    refine gd_aload_n 0 dX11_laysNet_28 rfl rfl ?_
    refine gd_iload_n 2 dX11_laysNet_29 rfl rfl ?_
    refine gd_callVI (As := [zI a2]) (rest := [zI r6, zI r4, zR 11 0]) (dy := 3) (my := 0) (sy := 0) (k := 11) (i := 0) lX11_305 iX11_isAsked sX11_isAsked rfl dX11_laysNet_30 rfl rfl (gd_room (by omega) (by decide)) (by decide) (Nat.le_of_ble_eq_true rfl) h (fun r8 v7 h => ?_)
    refine gd_if_eq (tgt := 46) dX11_laysNet_33 (by decide) (fun hc => ?_) (fun hc => ?_)
    · have h := h.1 hc
      refine gd_lconst (x9 := 0) dX11_laysNet_46 (by decide) ?_
      exact w_X11_laysNet_47 (by omega) h
    · have h := h.2 hc
      refine gd_aload_n 0 dX11_laysNet_36 rfl rfl ?_
      refine gd_iload_n 2 dX11_laysNet_37 rfl rfl ?_
      refine gd_iconst (x9 := 5) dX11_laysNet_38 (by decide) ?_
      refine gd_callVI (As := [zI a2, zI 5]) (rest := [zI r6, zI r4, zR 11 0]) (dy := 2) (my := 0) (sy := 0) (k := 11) (i := 0) lX11_289 iX11_of0 sX11_of0 rfl dX11_laysNet_39 rfl rfl (gd_room (by omega) (by decide)) (by decide) (Nat.le_of_ble_eq_true rfl) h (fun r10 v9 h => ?_)
      refine gd_i2l dX11_laysNet_42 ?_
      refine gd_goto (tgt := 47) dX11_laysNet_43 (by decide) ?_
      exact w_X11_laysNet_47 (by omega) h
def wp_X11_laysNet_73 (g : ab_E) (d : Nat) (a2 : Int32) (v : gd_D) (Q : ab_O → gd_D → Prop) : Prop :=
  gd_C g mX11_dealers 2 0 0 [zR 11 0] v (gd_rI (fun (r2 : Int32) v1 =>
    (((r2 : Int32) ≤ a2) →
      Q (Sum.inl none) v1) ∧
    ((¬ (r2 : Int32) ≤ a2) →
      vp_in ((9 + (6 * a2)) + 0) 773 ∧
      ∀ y3 : Int64, y3 = v1.2.1 40 0 ((9 + (6 * a2)) + 0 : Int32).toNatClampNeg →
      gd_C g mX11_edge 2 0 0 [zR 11 0, zI 8, zI a2, zJ y3, zJ 0] v1 (gd_rV (fun v4 =>
        gd_C g mX11_edge 2 0 0 [zR 11 0, zI a2, zI 8, zJ 1000000000, zJ 0] v4 (gd_rV (fun v6 =>
          gd_G g mX11_laysNet d 0 0 73 [(0, zR 11 0), (2, zI (a2 + 1))] [] v6 Q) (fun E v9 => Q (Sum.inr E) v9))) (fun E v9 => Q (Sum.inr E) v9)))) (fun E v9 => Q (Sum.inr E) v9))
theorem w_X11_laysNet_73 {g : ab_E} {d : Nat} {a2 : Int32} {v : gd_D} {Q : ab_O → gd_D → Prop} (hd : 3 ≤ d) (h : wp_X11_laysNet_73 g d a2 v Q) : gd_G g mX11_laysNet d 0 0 73 [(0, zR 11 0), (2, zI a2)] [] v Q := by
  unfold wp_X11_laysNet_73 at h
  refine gd_iload_n 1 dX11_laysNet_73 rfl rfl ?_
  refine gd_aload_n 0 dX11_laysNet_74 rfl rfl ?_
  refine gd_callVI (As := []) (rest := [zI a2]) (dy := 2) (my := 0) (sy := 0) (k := 11) (i := 0) lX11_281 iX11_dealers sX11_dealers rfl dX11_laysNet_75 rfl rfl (gd_room (by omega) (by decide)) (by decide) (Nat.le_of_ble_eq_true rfl) h (fun r2 v1 h => ?_)
  refine gd_icmp_ge (tgt := 120) dX11_laysNet_78 (by decide) (fun hc => ?_) (fun hc => ?_)
  · have h := h.1 hc
    exact gd_vret dX11_laysNet_120 rfl h
  · have h := h.2 hc
    refine gd_aload_n 0 dX11_laysNet_81 rfl rfl ?_
    refine gd_bipush (x9 := 8) dX11_laysNet_82 (by decide) ?_
    refine gd_iload_n 1 dX11_laysNet_84 rfl rfl ?_
    refine gd_aload_n 0 dX11_laysNet_85 rfl rfl ?_
    refine gd_getR (x := 0) (kr := 40) fX11_17 rfl rfl dX11_laysNet_86 rfl ?_
    refine gd_bipush (x9 := 9) dX11_laysNet_89 (by decide) ?_
    refine gd_bipush (x9 := 6) dX11_laysNet_91 (by decide) ?_
    refine gd_iload_n 1 dX11_laysNet_93 rfl rfl ?_
    refine gd_imul dX11_laysNet_94 ?_
    refine gd_iadd dX11_laysNet_95 ?_
    refine gd_iconst (x9 := 0) dX11_laysNet_96 (by decide) ?_
    refine gd_iadd dX11_laysNet_97 ?_
    obtain ⟨hb, h⟩ := h
    refine gd_laload (n := 773) (by decide) rfl dX11_laysNet_98 rfl hb ?_
    refine gd_nmJ (fun y3 ey3 => ?_)
    have h := h y3 ey3
    refine gd_lconst (x9 := 0) dX11_laysNet_99 (by decide) ?_
    refine gd_callVV (As := [zI 8, zI a2, zJ y3, zJ 0]) (rest := []) (dy := 2) (my := 0) (sy := 0) (k := 11) (i := 0) lX11_399 iX11_edge sX11_edge rfl dX11_laysNet_100 rfl rfl (gd_room (by omega) (by decide)) (by decide) (Nat.le_of_ble_eq_true rfl) h (fun v4 h => ?_)
    refine gd_aload_n 0 dX11_laysNet_103 rfl rfl ?_
    refine gd_iload_n 1 dX11_laysNet_104 rfl rfl ?_
    refine gd_bipush (x9 := 8) dX11_laysNet_105 (by decide) ?_
    refine gd_ldc2 kX11_403 dX11_laysNet_107 ?_
    refine gd_lconst (x9 := 0) dX11_laysNet_110 (by decide) ?_
    refine gd_callVV (As := [zI a2, zI 8, zJ 1000000000, zJ 0]) (rest := []) (dy := 2) (my := 0) (sy := 0) (k := 11) (i := 0) lX11_399 iX11_edge sX11_edge rfl dX11_laysNet_111 rfl rfl (gd_room (by omega) (by decide)) (by decide) (Nat.le_of_ble_eq_true rfl) h (fun v6 h => ?_)
    refine gd_iinc (x9 := a2 + 1) (L' := [(2, zI (a2 + 1)), (0, zR 11 0)]) 1 dX11_laysNet_114 rfl rfl (by decide) rfl ?_
    refine gd_goto (tgt := 73) dX11_laysNet_117 (by decide) ?_
    refine gd_locals [1, 0] rfl ?_
    exact h
theorem c_X11_laysNet {g : ab_E} {d : Nat} {a1 : Int32} {v : gd_D} {Q : ab_O → gd_D → Prop} (hd : 0 ≤ d) (h : wp_X11_laysNet g d a1 v Q) : gd_C g mX11_laysNet d 0 0 [zR 11 0, zI a1] v Q := gd_enterF (plainFor_of_name (by decide)) (Nat.le_of_ble_eq_true rfl) rfl (w_X11_laysNet hd h)
def wp_X11_relaxes_148 (g : ab_E) (d : Nat) (s1 : Int32) (s2 : Int32) (v : gd_D) (Q : ab_O → gd_D → Prop) : Prop :=
  vp_in s1 9 ∧
  ∀ v1 : gd_D, v1 = gd_sI v 58 0 ((s1 : Int32).toNatClampNeg) s2 →
  Q (Sum.inl (some (zI 1))) v1
theorem w_X11_relaxes_148 {g : ab_E} {d : Nat} {s1 : Int32} {s2 : Int32} {v : gd_D} {Q : ab_O → gd_D → Prop} (hd : 0 ≤ d) (h : wp_X11_relaxes_148 g d s1 s2 v Q) : gd_G g mX11_relaxes d 0 0 148 [] [zI s2, zI s1, zR 58 0] v Q := by
  unfold wp_X11_relaxes_148 at h
  obtain ⟨hb, h⟩ := h
  refine gd_iastoren (n := 9) (by decide) rfl rfl dX11_relaxes_148 rfl hb (fun v1 ev1 => ?_)
  have h := h v1 ev1
  refine gd_iconst (x9 := 1) dX11_relaxes_149 (by decide) ?_
  exact gd_iret (ty := .boolean) dX11_relaxes_150 rfl rfl h
def wp_X11_relaxes_97 (g : ab_E) (d : Nat) (a1 : Int32) (a2 : Int32) (a4 : Int64) (a7 : Int32) (s0 : Int64) (s1 : Int64) (v : gd_D) (Q : ab_O → gd_D → Prop) : Prop :=
  (((a4 : Int64) = 0) →
    Q (Sum.inl (some (zI 0))) v) ∧
  ((¬ (a4 : Int64) = 0) →
    vp_in a7 9 ∧
    (((v.2.1 62 0 (a7 : Int32).toNatClampNeg : Int64) < (s0 + s1)) →
      vp_in a7 9 ∧
      ∀ v1 : gd_D, v1 = gd_sJ v 62 0 ((a7 : Int32).toNatClampNeg) (s0 + s1) →
      (((a2 : Int32) = 0) →
        wp_X11_relaxes_148 g d a7 (a1 + 1) v1 Q) ∧
      ((¬ (a2 : Int32) = 0) →
        wp_X11_relaxes_148 g d a7 ((-a1) - 1) v1 Q)) ∧
    ((¬ (v.2.1 62 0 (a7 : Int32).toNatClampNeg : Int64) < (s0 + s1)) →
      Q (Sum.inl (some (zI 0))) v))
theorem w_X11_relaxes_97 {g : ab_E} {d : Nat} {a1 : Int32} {a2 : Int32} {a4 : Int64} {a7 : Int32} {s0 : Int64} {s1 : Int64} {v : gd_D} {Q : ab_O → gd_D → Prop} (hd : 0 ≤ d) (h : wp_X11_relaxes_97 g d a1 a2 a4 a7 s0 s1 v Q) : gd_G g mX11_relaxes d 0 0 97 [(0, zR 11 0), (1, zI a1), (2, zI a2), (3, zR 58 0), (4, zJ a4), (7, zI a7)] [zJ s1, zJ s0] v Q := by
  unfold wp_X11_relaxes_97 at h
  refine gd_ladd dX11_relaxes_97 ?_
  refine gd_lstore (L' := [(8, zJ (s0 + s1)), (0, zR 11 0), (1, zI a1), (2, zI a2), (3, zR 58 0), (4, zJ a4), (7, zI a7)]) dX11_relaxes_98 (by decide) rfl ?_
  refine gd_lload 5 dX11_relaxes_100 rfl ?_
  refine gd_lconst (x9 := 0) dX11_relaxes_102 (by decide) ?_
  refine gd_lc_eq (tgt := 120) dX11_relaxes_103 dX11_relaxes_104 (by decide) (fun hc => ?_) (fun hc => ?_)
  · have h := h.1 hc
    refine gd_iconst (x9 := 0) dX11_relaxes_120 (by decide) ?_
    exact gd_iret (ty := .boolean) dX11_relaxes_121 rfl rfl h
  · have h := h.2 hc
    refine gd_lload 0 dX11_relaxes_107 rfl ?_
    refine gd_aload_n 1 dX11_relaxes_109 rfl rfl ?_
    refine gd_getR (x := 0) (kr := 62) fX11_89 rfl rfl dX11_relaxes_110 rfl ?_
    refine gd_iload 6 dX11_relaxes_113 rfl ?_
    obtain ⟨hb, h⟩ := h
    refine gd_laload (n := 9) (by decide) rfl dX11_relaxes_115 rfl hb ?_
    refine gd_lc_gt (tgt := 122) dX11_relaxes_116 dX11_relaxes_117 (by decide) (fun hc => ?_) (fun hc => ?_)
    · have h := h.1 hc
      refine gd_aload_n 1 dX11_relaxes_122 rfl rfl ?_
      refine gd_getR (x := 0) (kr := 62) fX11_89 rfl rfl dX11_relaxes_123 rfl ?_
      refine gd_iload 6 dX11_relaxes_126 rfl ?_
      refine gd_lload 0 dX11_relaxes_128 rfl ?_
      obtain ⟨hb, h⟩ := h
      refine gd_lastoren (n := 9) (by decide) rfl rfl dX11_relaxes_130 rfl hb (fun v1 ev1 => ?_)
      have h := h v1 ev1
      refine gd_aload_n 4 dX11_relaxes_131 rfl rfl ?_
      refine gd_iload 6 dX11_relaxes_132 rfl ?_
      refine gd_iload_n 3 dX11_relaxes_134 rfl rfl ?_
      refine gd_if_eq (tgt := 145) dX11_relaxes_135 (by decide) (fun hc => ?_) (fun hc => ?_)
      · have h := h.1 hc
        refine gd_iload_n 2 dX11_relaxes_145 rfl rfl ?_
        refine gd_iconst (x9 := 1) dX11_relaxes_146 (by decide) ?_
        refine gd_iadd dX11_relaxes_147 ?_
        refine gd_locals [] rfl ?_
        exact w_X11_relaxes_148 (by omega) h
      · have h := h.2 hc
        refine gd_iload_n 2 dX11_relaxes_138 rfl rfl ?_
        refine gd_ineg dX11_relaxes_139 ?_
        refine gd_iconst (x9 := 1) dX11_relaxes_140 (by decide) ?_
        refine gd_isub dX11_relaxes_141 ?_
        refine gd_goto (tgt := 148) dX11_relaxes_142 (by decide) ?_
        refine gd_locals [] rfl ?_
        exact w_X11_relaxes_148 (by omega) h
    · have h := h.2 hc
      refine gd_iconst (x9 := 0) dX11_relaxes_120 (by decide) ?_
      exact gd_iret (ty := .boolean) dX11_relaxes_121 rfl rfl h
def wp_X11_relaxes_68 (g : ab_E) (d : Nat) (a1 : Int32) (a2 : Int32) (a4 : Int64) (a6 : Int32) (s0 : Int32) (v : gd_D) (Q : ab_O → gd_D → Prop) : Prop :=
  vp_in a6 9 ∧
  (((a2 : Int32) = 0) →
    vp_in a1 40 ∧
    wp_X11_relaxes_97 g d a1 a2 a4 s0 (v.2.1 62 0 (a6 : Int32).toNatClampNeg) (v.2.1 61 0 (a1 : Int32).toNatClampNeg) v Q) ∧
  ((¬ (a2 : Int32) = 0) →
    vp_in a1 40 ∧
    wp_X11_relaxes_97 g d a1 a2 a4 s0 (v.2.1 62 0 (a6 : Int32).toNatClampNeg) (-(v.2.1 61 0 (a1 : Int32).toNatClampNeg)) v Q)
theorem w_X11_relaxes_68 {g : ab_E} {d : Nat} {a1 : Int32} {a2 : Int32} {a4 : Int64} {a6 : Int32} {s0 : Int32} {v : gd_D} {Q : ab_O → gd_D → Prop} (hd : 0 ≤ d) (h : wp_X11_relaxes_68 g d a1 a2 a4 a6 s0 v Q) : gd_G g mX11_relaxes d 0 0 68 [(0, zR 11 0), (1, zI a1), (2, zI a2), (3, zR 58 0), (4, zJ a4), (6, zI a6)] [zI s0] v Q := by
  unfold wp_X11_relaxes_68 at h
  refine gd_istore (L' := [(7, zI s0), (0, zR 11 0), (1, zI a1), (2, zI a2), (3, zR 58 0), (4, zJ a4), (6, zI a6)]) dX11_relaxes_68 (by decide) rfl ?_
  refine gd_aload_n 1 dX11_relaxes_70 rfl rfl ?_
  refine gd_getR (x := 0) (kr := 62) fX11_89 rfl rfl dX11_relaxes_71 rfl ?_
  refine gd_iload 6 dX11_relaxes_74 rfl ?_
  obtain ⟨hb, h⟩ := h
  refine gd_laload (n := 9) (by decide) rfl dX11_relaxes_76 rfl hb ?_
  refine gd_iload_n 3 dX11_relaxes_77 rfl rfl ?_
  refine gd_if_eq (tgt := 91) dX11_relaxes_78 (by decide) (fun hc => ?_) (fun hc => ?_)
  · have h := h.1 hc
    refine gd_aload_n 1 dX11_relaxes_91 rfl rfl ?_
    refine gd_getR (x := 0) (kr := 61) fX11_86 rfl rfl dX11_relaxes_92 rfl ?_
    refine gd_iload_n 2 dX11_relaxes_95 rfl rfl ?_
    obtain ⟨hb, h⟩ := h
    refine gd_laload (n := 40) (by decide) rfl dX11_relaxes_96 rfl hb ?_
    refine gd_locals [1, 2, 3, 4, 5, 0] rfl ?_
    exact w_X11_relaxes_97 (by omega) h
  · have h := h.2 hc
    refine gd_aload_n 1 dX11_relaxes_81 rfl rfl ?_
    refine gd_getR (x := 0) (kr := 61) fX11_86 rfl rfl dX11_relaxes_82 rfl ?_
    refine gd_iload_n 2 dX11_relaxes_85 rfl rfl ?_
    obtain ⟨hb, h⟩ := h
    refine gd_laload (n := 40) (by decide) rfl dX11_relaxes_86 rfl hb ?_
    refine gd_lneg dX11_relaxes_87 ?_
    refine gd_goto (tgt := 97) dX11_relaxes_88 (by decide) ?_
    refine gd_locals [1, 2, 3, 4, 5, 0] rfl ?_
    exact w_X11_relaxes_97 (by omega) h
def wp_X11_relaxes_47 (g : ab_E) (d : Nat) (a1 : Int32) (a2 : Int32) (a4 : Int64) (s0 : Int32) (v : gd_D) (Q : ab_O → gd_D → Prop) : Prop :=
  (((a2 : Int32) = 0) →
    vp_in a1 40 ∧
    wp_X11_relaxes_68 g d a1 a2 a4 s0 (v.1 57 0 (a1 : Int32).toNatClampNeg) v Q) ∧
  ((¬ (a2 : Int32) = 0) →
    vp_in a1 40 ∧
    wp_X11_relaxes_68 g d a1 a2 a4 s0 (v.1 56 0 (a1 : Int32).toNatClampNeg) v Q)
theorem w_X11_relaxes_47 {g : ab_E} {d : Nat} {a1 : Int32} {a2 : Int32} {a4 : Int64} {s0 : Int32} {v : gd_D} {Q : ab_O → gd_D → Prop} (hd : 0 ≤ d) (h : wp_X11_relaxes_47 g d a1 a2 a4 s0 v Q) : gd_G g mX11_relaxes d 0 0 47 [(0, zR 11 0), (1, zI a1), (2, zI a2), (3, zR 58 0), (4, zJ a4)] [zI s0] v Q := by
  unfold wp_X11_relaxes_47 at h
  refine gd_istore (L' := [(6, zI s0), (0, zR 11 0), (1, zI a1), (2, zI a2), (3, zR 58 0), (4, zJ a4)]) dX11_relaxes_47 (by decide) rfl ?_
  refine gd_iload_n 3 dX11_relaxes_49 rfl rfl ?_
  refine gd_if_eq (tgt := 62) dX11_relaxes_50 (by decide) (fun hc => ?_) (fun hc => ?_)
  · have h := h.1 hc
    refine gd_aload_n 1 dX11_relaxes_62 rfl rfl ?_
    refine gd_getR (x := 0) (kr := 57) fX11_74 rfl rfl dX11_relaxes_63 rfl ?_
    refine gd_iload_n 2 dX11_relaxes_66 rfl rfl ?_
    obtain ⟨hb, h⟩ := h
    refine gd_iaload (n := 40) (by decide) rfl dX11_relaxes_67 rfl hb ?_
    refine gd_locals [1, 2, 3, 4, 5, 0] rfl ?_
    exact w_X11_relaxes_68 (by omega) h
  · have h := h.2 hc
    refine gd_aload_n 1 dX11_relaxes_53 rfl rfl ?_
    refine gd_getR (x := 0) (kr := 56) fX11_71 rfl rfl dX11_relaxes_54 rfl ?_
    refine gd_iload_n 2 dX11_relaxes_57 rfl rfl ?_
    obtain ⟨hb, h⟩ := h
    refine gd_iaload (n := 40) (by decide) rfl dX11_relaxes_58 rfl hb ?_
    refine gd_goto (tgt := 68) dX11_relaxes_59 (by decide) ?_
    refine gd_locals [1, 2, 3, 4, 5, 0] rfl ?_
    exact w_X11_relaxes_68 (by omega) h
def wp_X11_relaxes_26 (g : ab_E) (d : Nat) (a1 : Int32) (a2 : Int32) (s0 : Int64) (v : gd_D) (Q : ab_O → gd_D → Prop) : Prop :=
  (((a2 : Int32) = 0) →
    vp_in a1 40 ∧
    wp_X11_relaxes_47 g d a1 a2 s0 (v.1 56 0 (a1 : Int32).toNatClampNeg) v Q) ∧
  ((¬ (a2 : Int32) = 0) →
    vp_in a1 40 ∧
    wp_X11_relaxes_47 g d a1 a2 s0 (v.1 57 0 (a1 : Int32).toNatClampNeg) v Q)
theorem w_X11_relaxes_26 {g : ab_E} {d : Nat} {a1 : Int32} {a2 : Int32} {s0 : Int64} {v : gd_D} {Q : ab_O → gd_D → Prop} (hd : 0 ≤ d) (h : wp_X11_relaxes_26 g d a1 a2 s0 v Q) : gd_G g mX11_relaxes d 0 0 26 [(0, zR 11 0), (1, zI a1), (2, zI a2), (3, zR 58 0)] [zJ s0] v Q := by
  unfold wp_X11_relaxes_26 at h
  refine gd_lstore (L' := [(4, zJ s0), (0, zR 11 0), (1, zI a1), (2, zI a2), (3, zR 58 0)]) dX11_relaxes_26 (by decide) rfl ?_
  refine gd_iload_n 3 dX11_relaxes_28 rfl rfl ?_
  refine gd_if_eq (tgt := 41) dX11_relaxes_29 (by decide) (fun hc => ?_) (fun hc => ?_)
  · have h := h.1 hc
    refine gd_aload_n 1 dX11_relaxes_41 rfl rfl ?_
    refine gd_getR (x := 0) (kr := 56) fX11_71 rfl rfl dX11_relaxes_42 rfl ?_
    refine gd_iload_n 2 dX11_relaxes_45 rfl rfl ?_
    obtain ⟨hb, h⟩ := h
    refine gd_iaload (n := 40) (by decide) rfl dX11_relaxes_46 rfl hb ?_
    refine gd_locals [1, 2, 3, 4, 0] rfl ?_
    exact w_X11_relaxes_47 (by omega) h
  · have h := h.2 hc
    refine gd_aload_n 1 dX11_relaxes_32 rfl rfl ?_
    refine gd_getR (x := 0) (kr := 57) fX11_74 rfl rfl dX11_relaxes_33 rfl ?_
    refine gd_iload_n 2 dX11_relaxes_36 rfl rfl ?_
    obtain ⟨hb, h⟩ := h
    refine gd_iaload (n := 40) (by decide) rfl dX11_relaxes_37 rfl hb ?_
    refine gd_goto (tgt := 47) dX11_relaxes_38 (by decide) ?_
    refine gd_locals [1, 2, 3, 4, 0] rfl ?_
    exact w_X11_relaxes_47 (by omega) h
def wp_X11_relaxes (g : ab_E) (d : Nat) (a1 : Int32) (a2 : Int32) (v : gd_D) (Q : ab_O → gd_D → Prop) : Prop :=
  (((a2 : Int32) = 0) →
    vp_in a1 40 ∧
    vp_in a1 40 ∧
    ∀ y1 : Int64, y1 = (v.2.1 59 0 (a1 : Int32).toNatClampNeg) - (v.2.1 60 0 (a1 : Int32).toNatClampNeg) →
    wp_X11_relaxes_26 g d a1 a2 y1 v Q) ∧
  ((¬ (a2 : Int32) = 0) →
    vp_in a1 40 ∧
    wp_X11_relaxes_26 g d a1 a2 (v.2.1 60 0 (a1 : Int32).toNatClampNeg) v Q)
theorem w_X11_relaxes {g : ab_E} {d : Nat} {a1 : Int32} {a2 : Int32} {v : gd_D} {Q : ab_O → gd_D → Prop} (hd : 0 ≤ d) (h : wp_X11_relaxes g d a1 a2 v Q) : gd_G g mX11_relaxes d 0 0 0 [(0, zR 11 0), (1, zI a1), (2, zI a2), (3, zR 58 0)] [] v Q := by
  unfold wp_X11_relaxes at h
  refine gd_iload_n 2 dX11_relaxes_0 rfl rfl ?_
  refine gd_if_eq (tgt := 13) dX11_relaxes_1 (by decide) (fun hc => ?_) (fun hc => ?_)
  · have h := h.1 hc
    refine gd_aload_n 0 dX11_relaxes_13 rfl rfl ?_
    refine gd_getR (x := 0) (kr := 59) fX11_80 rfl rfl dX11_relaxes_14 rfl ?_
    refine gd_iload_n 1 dX11_relaxes_17 rfl rfl ?_
    obtain ⟨hb, h⟩ := h
    refine gd_laload (n := 40) (by decide) rfl dX11_relaxes_18 rfl hb ?_
    refine gd_aload_n 0 dX11_relaxes_19 rfl rfl ?_
    refine gd_getR (x := 0) (kr := 60) fX11_83 rfl rfl dX11_relaxes_20 rfl ?_
    refine gd_iload_n 1 dX11_relaxes_23 rfl rfl ?_
    obtain ⟨hb, h⟩ := h
    refine gd_laload (n := 40) (by decide) rfl dX11_relaxes_24 rfl hb ?_
    refine gd_lsub dX11_relaxes_25 ?_
    refine gd_nmJ (fun y1 ey1 => ?_)
    have h := h y1 ey1
    exact w_X11_relaxes_26 (by omega) h
  · have h := h.2 hc
    refine gd_aload_n 0 dX11_relaxes_4 rfl rfl ?_
    refine gd_getR (x := 0) (kr := 60) fX11_83 rfl rfl dX11_relaxes_5 rfl ?_
    refine gd_iload_n 1 dX11_relaxes_8 rfl rfl ?_
    obtain ⟨hb, h⟩ := h
    refine gd_laload (n := 40) (by decide) rfl dX11_relaxes_9 rfl hb ?_
    refine gd_goto (tgt := 26) dX11_relaxes_10 (by decide) ?_
    exact w_X11_relaxes_26 (by omega) h
theorem c_X11_relaxes {g : ab_E} {d : Nat} {a1 : Int32} {a2 : Int32} {v : gd_D} {Q : ab_O → gd_D → Prop} (hd : 0 ≤ d) (h : wp_X11_relaxes g d a1 a2 v Q) : gd_C g mX11_relaxes d 0 0 [zR 11 0, zI a1, zI a2, zR 58 0] v Q := gd_enterF (plainFor_of_name (by decide)) (Nat.le_of_ble_eq_true rfl) rfl (w_X11_relaxes hd h)
def wp_X11_behindOf (g : ab_E) (d : Nat) (a1 : Int32) (v : gd_D) (Q : ab_O → gd_D → Prop) : Prop :=
  vp_in a1 9 ∧
  (((v.1 58 0 (a1 : Int32).toNatClampNeg : Int32) ≤ 0) →
    vp_in ((-(v.1 58 0 (a1 : Int32).toNatClampNeg)) - 1) 40 ∧
    ∀ x1 : Int32, x1 = v.1 57 0 ((-(v.1 58 0 (a1 : Int32).toNatClampNeg)) - 1 : Int32).toNatClampNeg →
    Q (Sum.inl (some (zI x1))) v) ∧
  ((¬ (v.1 58 0 (a1 : Int32).toNatClampNeg : Int32) ≤ 0) →
    vp_in ((v.1 58 0 (a1 : Int32).toNatClampNeg) - 1) 40 ∧
    ∀ x2 : Int32, x2 = v.1 56 0 ((v.1 58 0 (a1 : Int32).toNatClampNeg) - 1 : Int32).toNatClampNeg →
    Q (Sum.inl (some (zI x2))) v)
theorem w_X11_behindOf {g : ab_E} {d : Nat} {a1 : Int32} {v : gd_D} {Q : ab_O → gd_D → Prop} (hd : 0 ≤ d) (h : wp_X11_behindOf g d a1 v Q) : gd_G g mX11_behindOf d 0 0 0 [(0, zR 11 0), (1, zI a1)] [] v Q := by
  unfold wp_X11_behindOf at h
  refine gd_aload_n 0 dX11_behindOf_0 rfl rfl ?_
  refine gd_getR (x := 0) (kr := 58) fX11_77 rfl rfl dX11_behindOf_1 rfl ?_
  refine gd_iload_n 1 dX11_behindOf_4 rfl rfl ?_
  obtain ⟨hb, h⟩ := h
  refine gd_iaload (n := 9) (by decide) rfl dX11_behindOf_5 rfl hb ?_
  refine gd_istore_n (L' := [(2, zI (v.1 58 0 (a1 : Int32).toNatClampNeg)), (0, zR 11 0), (1, zI a1)]) dX11_behindOf_6 rfl (by decide) rfl ?_
  refine gd_iload_n 0 dX11_behindOf_7 rfl rfl ?_
  refine gd_if_le (tgt := 22) dX11_behindOf_8 (by decide) (fun hc => ?_) (fun hc => ?_)
  · have h := h.1 hc
    refine gd_aload_n 1 dX11_behindOf_22 rfl rfl ?_
    refine gd_getR (x := 0) (kr := 57) fX11_74 rfl rfl dX11_behindOf_23 rfl ?_
    refine gd_iload_n 0 dX11_behindOf_26 rfl rfl ?_
    refine gd_ineg dX11_behindOf_27 ?_
    refine gd_iconst (x9 := 1) dX11_behindOf_28 (by decide) ?_
    refine gd_isub dX11_behindOf_29 ?_
    obtain ⟨hb, h⟩ := h
    refine gd_iaload (n := 40) (by decide) rfl dX11_behindOf_30 rfl hb ?_
    refine gd_nmI (fun x1 ex1 => ?_)
    have h := h x1 ex1
    exact gd_iret (ty := .int) dX11_behindOf_31 rfl rfl h
  · have h := h.2 hc
    refine gd_aload_n 1 dX11_behindOf_11 rfl rfl ?_
    refine gd_getR (x := 0) (kr := 56) fX11_71 rfl rfl dX11_behindOf_12 rfl ?_
    refine gd_iload_n 0 dX11_behindOf_15 rfl rfl ?_
    refine gd_iconst (x9 := 1) dX11_behindOf_16 (by decide) ?_
    refine gd_isub dX11_behindOf_17 ?_
    obtain ⟨hb, h⟩ := h
    refine gd_iaload (n := 40) (by decide) rfl dX11_behindOf_18 rfl hb ?_
    refine gd_nmI (fun x2 ex2 => ?_)
    have h := h x2 ex2
    refine gd_goto (tgt := 31) dX11_behindOf_19 (by decide) ?_
    exact gd_iret (ty := .int) dX11_behindOf_31 rfl rfl h
theorem c_X11_behindOf {g : ab_E} {d : Nat} {a1 : Int32} {v : gd_D} {Q : ab_O → gd_D → Prop} (hd : 0 ≤ d) (h : wp_X11_behindOf g d a1 v Q) : gd_C g mX11_behindOf d 0 0 [zR 11 0, zI a1] v Q := gd_enterF (plainFor_of_name (by decide)) (Nat.le_of_ble_eq_true rfl) rfl (w_X11_behindOf hd h)
def wp_X11_gaining (g : ab_E) (d : Nat) (v : gd_D) (Q : ab_O → gd_D → Prop) : Prop :=
  gd_G g mX11_gaining d 0 0 2 [(0, zR 11 0), (1, zI 0)] [] v Q
theorem w_X11_gaining {g : ab_E} {d : Nat} {v : gd_D} {Q : ab_O → gd_D → Prop} (hd : 0 ≤ d) (h : wp_X11_gaining g d v Q) : gd_G g mX11_gaining d 0 0 0 [(0, zR 11 0)] [] v Q := by
  unfold wp_X11_gaining at h
  refine gd_iconst (x9 := 0) dX11_gaining_0 (by decide) ?_
  refine gd_istore_n (L' := [(1, zI 0), (0, zR 11 0)]) dX11_gaining_1 rfl (by decide) rfl ?_
  refine gd_locals [1, 0] rfl ?_
  exact h
def wp_X11_gaining_2 (g : ab_E) (d : Nat) (a1 : Int32) (v : gd_D) (Q : ab_O → gd_D → Prop) : Prop :=
  (((9 : Int32) ≤ a1) →
    gd_G g mX11_gaining d 0 0 32 [(0, zR 11 0), (1, zI (-1)), (2, zI 0)] [] v Q) ∧
  ((¬ (9 : Int32) ≤ a1) →
    vp_in a1 9 ∧
    ∀ v1 : gd_D, v1 = gd_sJ v 62 0 ((a1 : Int32).toNatClampNeg) 0 →
    vp_in a1 9 ∧
    ∀ v2 : gd_D, v2 = gd_sI v1 58 0 ((a1 : Int32).toNatClampNeg) 0 →
    gd_G g mX11_gaining d 0 0 2 [(0, zR 11 0), (1, zI (a1 + 1))] [] v2 Q)
theorem w_X11_gaining_2 {g : ab_E} {d : Nat} {a1 : Int32} {v : gd_D} {Q : ab_O → gd_D → Prop} (hd : 0 ≤ d) (h : wp_X11_gaining_2 g d a1 v Q) : gd_G g mX11_gaining d 0 0 2 [(0, zR 11 0), (1, zI a1)] [] v Q := by
  unfold wp_X11_gaining_2 at h
  refine gd_iload_n 1 dX11_gaining_2 rfl rfl ?_
  refine gd_bipush (x9 := 9) dX11_gaining_3 (by decide) ?_
  refine gd_icmp_ge (tgt := 28) dX11_gaining_5 (by decide) (fun hc => ?_) (fun hc => ?_)
  · have h := h.1 hc
    refine gd_iconst (x9 := (-1)) dX11_gaining_28 (by decide) ?_
    refine gd_istore_n (L' := [(1, zI (-1)), (0, zR 11 0)]) dX11_gaining_29 rfl (by decide) rfl ?_
    refine gd_iconst (x9 := 0) dX11_gaining_30 (by decide) ?_
    refine gd_istore_n (L' := [(2, zI 0), (1, zI (-1)), (0, zR 11 0)]) dX11_gaining_31 rfl (by decide) rfl ?_
    refine gd_locals [2, 1, 0] rfl ?_
    exact h
  · have h := h.2 hc
    refine gd_aload_n 0 dX11_gaining_8 rfl rfl ?_
    refine gd_getR (x := 0) (kr := 62) fX11_89 rfl rfl dX11_gaining_9 rfl ?_
    refine gd_iload_n 1 dX11_gaining_12 rfl rfl ?_
    refine gd_lconst (x9 := 0) dX11_gaining_13 (by decide) ?_
    obtain ⟨hb, h⟩ := h
    refine gd_lastoren (n := 9) (by decide) rfl rfl dX11_gaining_14 rfl hb (fun v1 ev1 => ?_)
    have h := h v1 ev1
    refine gd_aload_n 0 dX11_gaining_15 rfl rfl ?_
    refine gd_getR (x := 0) (kr := 58) fX11_77 rfl rfl dX11_gaining_16 rfl ?_
    refine gd_iload_n 1 dX11_gaining_19 rfl rfl ?_
    refine gd_iconst (x9 := 0) dX11_gaining_20 (by decide) ?_
    obtain ⟨hb, h⟩ := h
    refine gd_iastoren (n := 9) (by decide) rfl rfl dX11_gaining_21 rfl hb (fun v2 ev2 => ?_)
    have h := h v2 ev2
    refine gd_iinc (x9 := a1 + 1) (L' := [(1, zI (a1 + 1)), (0, zR 11 0)]) 1 dX11_gaining_22 rfl rfl (by decide) rfl ?_
    refine gd_goto (tgt := 2) dX11_gaining_25 (by decide) ?_
    refine gd_locals [1, 0] rfl ?_
    exact h
def wp_X11_gaining_32 (g : ab_E) (d : Nat) (a1 : Int32) (a2 : Int32) (v : gd_D) (Q : ab_O → gd_D → Prop) : Prop :=
  (((9 : Int32) < a2) →
    gd_G g mX11_gaining d 0 0 111 [(0, zR 11 0), (1, zI a1), (2, zI 0)] [] v Q) ∧
  ((¬ (9 : Int32) < a2) →
    gd_G g mX11_gaining d 0 0 42 [(0, zR 11 0), (1, zI (-1)), (2, zI a2), (3, zI 0)] [] v Q)
theorem w_X11_gaining_32 {g : ab_E} {d : Nat} {a1 : Int32} {a2 : Int32} {v : gd_D} {Q : ab_O → gd_D → Prop} (hd : 0 ≤ d) (h : wp_X11_gaining_32 g d a1 a2 v Q) : gd_G g mX11_gaining d 0 0 32 [(0, zR 11 0), (1, zI a1), (2, zI a2)] [] v Q := by
  unfold wp_X11_gaining_32 at h
  refine gd_iload_n 2 dX11_gaining_32 rfl rfl ?_
  refine gd_bipush (x9 := 9) dX11_gaining_33 (by decide) ?_
  refine gd_icmp_gt (tgt := 109) dX11_gaining_35 (by decide) (fun hc => ?_) (fun hc => ?_)
  · have h := h.1 hc
    refine gd_iconst (x9 := 0) dX11_gaining_109 (by decide) ?_
    refine gd_istore_n (L' := [(2, zI 0), (0, zR 11 0), (1, zI a1)]) dX11_gaining_110 rfl (by decide) rfl ?_
    refine gd_locals [1, 2, 0] rfl ?_
    exact h
  · have h := h.2 hc
    refine gd_iconst (x9 := (-1)) dX11_gaining_38 (by decide) ?_
    refine gd_istore_n (L' := [(1, zI (-1)), (0, zR 11 0), (2, zI a2)]) dX11_gaining_39 rfl (by decide) rfl ?_
    refine gd_iconst (x9 := 0) dX11_gaining_40 (by decide) ?_
    refine gd_istore_n (L' := [(3, zI 0), (1, zI (-1)), (0, zR 11 0), (2, zI a2)]) dX11_gaining_41 rfl (by decide) rfl ?_
    refine gd_locals [2, 1, 3, 0] rfl ?_
    exact h
def wp_X11_gaining_70 (g : ab_E) (d : Nat) (a1 : Int32) (a2 : Int32) (a3 : Int32) (v : gd_D) (Q : ab_O → gd_D → Prop) : Prop :=
  gd_C g mX11_relaxes 2 0 0 [zR 11 0, zI a3, zI 1, zR 58 0] v (gd_rI (fun (r2 : Int32) v1 =>
    (((r2 : Int32) = 0) →
      gd_G g mX11_gaining d 0 0 42 [(0, zR 11 0), (1, zI a1), (2, zI a2), (3, zI (a3 + 1))] [] v1 Q) ∧
    ((¬ (r2 : Int32) = 0) →
      vp_in a3 40 ∧
      gd_G g mX11_gaining d 0 0 42 [(0, zR 11 0), (1, zI (v1.1 56 0 (a3 : Int32).toNatClampNeg)), (2, zI a2), (3, zI (a3 + 1))] [] v1 Q)) (fun E v9 => Q (Sum.inr E) v9))
theorem w_X11_gaining_70 {g : ab_E} {d : Nat} {a1 : Int32} {a2 : Int32} {a3 : Int32} {v : gd_D} {Q : ab_O → gd_D → Prop} (hd : 3 ≤ d) (h : wp_X11_gaining_70 g d a1 a2 a3 v Q) : gd_G g mX11_gaining d 0 0 70 [(0, zR 11 0), (1, zI a1), (2, zI a2), (3, zI a3)] [] v Q := by
  unfold wp_X11_gaining_70 at h
  refine gd_aload_n 0 dX11_gaining_70 rfl rfl ?_
  refine gd_iload_n 3 dX11_gaining_71 rfl rfl ?_
  refine gd_iconst (x9 := 1) dX11_gaining_72 (by decide) ?_
  refine gd_aload_n 0 dX11_gaining_73 rfl rfl ?_
  refine gd_getR (x := 0) (kr := 58) fX11_77 rfl rfl dX11_gaining_74 rfl ?_
  refine gd_callVI (As := [zI a3, zI 1, zR 58 0]) (rest := []) (dy := 2) (my := 0) (sy := 0) (k := 11) (i := 0) lX11_405 iX11_relaxes sX11_relaxes rfl dX11_gaining_77 rfl rfl (gd_room (by omega) (by decide)) (by decide) (Nat.le_of_ble_eq_true rfl) h (fun r2 v1 h => ?_)
  refine gd_if_eq (tgt := 90) dX11_gaining_80 (by decide) (fun hc => ?_) (fun hc => ?_)
  · have h := h.1 hc
    refine gd_iinc (x9 := a3 + 1) (L' := [(3, zI (a3 + 1)), (0, zR 11 0), (1, zI a1), (2, zI a2)]) 3 dX11_gaining_90 rfl rfl (by decide) rfl ?_
    refine gd_goto (tgt := 42) dX11_gaining_93 (by decide) ?_
    refine gd_locals [1, 2, 3, 0] rfl ?_
    exact h
  · have h := h.2 hc
    refine gd_aload_n 0 dX11_gaining_83 rfl rfl ?_
    refine gd_getR (x := 0) (kr := 56) fX11_71 rfl rfl dX11_gaining_84 rfl ?_
    refine gd_iload_n 3 dX11_gaining_87 rfl rfl ?_
    obtain ⟨hb, h⟩ := h
    refine gd_iaload (n := 40) (by decide) rfl dX11_gaining_88 rfl hb ?_
    refine gd_istore_n (L' := [(1, zI (v1.1 56 0 (a3 : Int32).toNatClampNeg)), (0, zR 11 0), (2, zI a2), (3, zI a3)]) dX11_gaining_89 rfl (by decide) rfl ?_
    refine gd_iinc (x9 := a3 + 1) (L' := [(3, zI (a3 + 1)), (1, zI (v1.1 56 0 (a3 : Int32).toNatClampNeg)), (0, zR 11 0), (2, zI a2)]) 3 dX11_gaining_90 rfl rfl (by decide) rfl ?_
    refine gd_goto (tgt := 42) dX11_gaining_93 (by decide) ?_
    refine gd_locals [2, 1, 3, 0] rfl ?_
    exact h
def wp_X11_gaining_42 (g : ab_E) (d : Nat) (a1 : Int32) (a2 : Int32) (a3 : Int32) (v : gd_D) (Q : ab_O → gd_D → Prop) : Prop :=
  (((v.1 11 0 38 : Int32) ≤ a3) →
    ((¬ (a1 : Int32) = (-1)) →
      gd_G g mX11_gaining d 0 0 32 [(0, zR 11 0), (1, zI a1), (2, zI (a2 + 1))] [] v Q) ∧
    (((a1 : Int32) = (-1)) →
      Q (Sum.inl (some (zI (-1)))) v)) ∧
  ((¬ (v.1 11 0 38 : Int32) ≤ a3) →
    gd_C g mX11_relaxes 2 0 0 [zR 11 0, zI a3, zI 0, zR 58 0] v (gd_rI (fun (r2 : Int32) v1 =>
      (((r2 : Int32) = 0) →
        wp_X11_gaining_70 g d a1 a2 a3 v1 Q) ∧
      ((¬ (r2 : Int32) = 0) →
        vp_in a3 40 ∧
        wp_X11_gaining_70 g d (v1.1 57 0 (a3 : Int32).toNatClampNeg) a2 a3 v1 Q)) (fun E v9 => Q (Sum.inr E) v9)))
theorem w_X11_gaining_42 {g : ab_E} {d : Nat} {a1 : Int32} {a2 : Int32} {a3 : Int32} {v : gd_D} {Q : ab_O → gd_D → Prop} (hd : 3 ≤ d) (h : wp_X11_gaining_42 g d a1 a2 a3 v Q) : gd_G g mX11_gaining d 0 0 42 [(0, zR 11 0), (1, zI a1), (2, zI a2), (3, zI a3)] [] v Q := by
  unfold wp_X11_gaining_42 at h
  refine gd_iload_n 3 dX11_gaining_42 rfl rfl ?_
  refine gd_aload_n 0 dX11_gaining_43 rfl rfl ?_
  refine gd_getI fX11_396 rfl dX11_gaining_44 ?_
  refine gd_icmp_ge (tgt := 96) dX11_gaining_47 (by decide) (fun hc => ?_) (fun hc => ?_)
  · have h := h.1 hc
    refine gd_iload_n 1 dX11_gaining_96 rfl rfl ?_
    refine gd_iconst (x9 := (-1)) dX11_gaining_97 (by decide) ?_
    refine gd_icmp_ne (tgt := 103) dX11_gaining_98 (by decide) (fun hc => ?_) (fun hc => ?_)
    · have h := h.1 hc
      refine gd_iinc (x9 := a2 + 1) (L' := [(2, zI (a2 + 1)), (0, zR 11 0), (1, zI a1), (3, zI a3)]) 2 dX11_gaining_103 rfl rfl (by decide) rfl ?_
      refine gd_goto (tgt := 32) dX11_gaining_106 (by decide) ?_
      refine gd_locals [1, 2, 0] rfl ?_
      exact h
    · have h := h.2 hc
      refine gd_iconst (x9 := (-1)) dX11_gaining_101 (by decide) ?_
      exact gd_iret (ty := .int) dX11_gaining_102 rfl rfl h
  · have h := h.2 hc
    refine gd_aload_n 0 dX11_gaining_50 rfl rfl ?_
    refine gd_iload_n 3 dX11_gaining_51 rfl rfl ?_
    refine gd_iconst (x9 := 0) dX11_gaining_52 (by decide) ?_
    refine gd_aload_n 0 dX11_gaining_53 rfl rfl ?_
    refine gd_getR (x := 0) (kr := 58) fX11_77 rfl rfl dX11_gaining_54 rfl ?_
    refine gd_callVI (As := [zI a3, zI 0, zR 58 0]) (rest := []) (dy := 2) (my := 0) (sy := 0) (k := 11) (i := 0) lX11_405 iX11_relaxes sX11_relaxes rfl dX11_gaining_57 rfl rfl (gd_room (by omega) (by decide)) (by decide) (Nat.le_of_ble_eq_true rfl) h (fun r2 v1 h => ?_)
    refine gd_if_eq (tgt := 70) dX11_gaining_60 (by decide) (fun hc => ?_) (fun hc => ?_)
    · have h := h.1 hc
      exact w_X11_gaining_70 (by omega) h
    · have h := h.2 hc
      refine gd_aload_n 0 dX11_gaining_63 rfl rfl ?_
      refine gd_getR (x := 0) (kr := 57) fX11_74 rfl rfl dX11_gaining_64 rfl ?_
      refine gd_iload_n 3 dX11_gaining_67 rfl rfl ?_
      obtain ⟨hb, h⟩ := h
      refine gd_iaload (n := 40) (by decide) rfl dX11_gaining_68 rfl hb ?_
      refine gd_istore_n (L' := [(1, zI (v1.1 57 0 (a3 : Int32).toNatClampNeg)), (0, zR 11 0), (2, zI a2), (3, zI a3)]) dX11_gaining_69 rfl (by decide) rfl ?_
      refine gd_locals [1, 0, 2, 3] rfl ?_
      exact w_X11_gaining_70 (by omega) h
def wp_X11_gaining_111 (g : ab_E) (d : Nat) (a1 : Int32) (a2 : Int32) (v : gd_D) (Q : ab_O → gd_D → Prop) : Prop :=
  (((9 : Int32) ≤ a2) →
    Q (Sum.inl (some (zI a1))) v) ∧
  ((¬ (9 : Int32) ≤ a2) →
    gd_C g mX11_behindOf 2 0 0 [zR 11 0, zI a1] v (gd_rI (fun (r2 : Int32) v1 =>
      gd_G g mX11_gaining d 0 0 111 [(0, zR 11 0), (1, zI r2), (2, zI (a2 + 1))] [] v1 Q) (fun E v9 => Q (Sum.inr E) v9)))
theorem w_X11_gaining_111 {g : ab_E} {d : Nat} {a1 : Int32} {a2 : Int32} {v : gd_D} {Q : ab_O → gd_D → Prop} (hd : 3 ≤ d) (h : wp_X11_gaining_111 g d a1 a2 v Q) : gd_G g mX11_gaining d 0 0 111 [(0, zR 11 0), (1, zI a1), (2, zI a2)] [] v Q := by
  unfold wp_X11_gaining_111 at h
  refine gd_iload_n 2 dX11_gaining_111 rfl rfl ?_
  refine gd_bipush (x9 := 9) dX11_gaining_112 (by decide) ?_
  refine gd_icmp_ge (tgt := 129) dX11_gaining_114 (by decide) (fun hc => ?_) (fun hc => ?_)
  · have h := h.1 hc
    refine gd_iload_n 1 dX11_gaining_129 rfl rfl ?_
    exact gd_iret (ty := .int) dX11_gaining_130 rfl rfl h
  · have h := h.2 hc
    refine gd_aload_n 0 dX11_gaining_117 rfl rfl ?_
    refine gd_iload_n 1 dX11_gaining_118 rfl rfl ?_
    refine gd_callVI (As := [zI a1]) (rest := []) (dy := 2) (my := 0) (sy := 0) (k := 11) (i := 0) lX11_409 iX11_behindOf sX11_behindOf rfl dX11_gaining_119 rfl rfl (gd_room (by omega) (by decide)) (by decide) (Nat.le_of_ble_eq_true rfl) h (fun r2 v1 h => ?_)
    refine gd_istore_n (L' := [(1, zI r2), (0, zR 11 0), (2, zI a2)]) dX11_gaining_122 rfl (by decide) rfl ?_
    refine gd_iinc (x9 := a2 + 1) (L' := [(2, zI (a2 + 1)), (1, zI r2), (0, zR 11 0)]) 2 dX11_gaining_123 rfl rfl (by decide) rfl ?_
    refine gd_goto (tgt := 111) dX11_gaining_126 (by decide) ?_
    refine gd_locals [2, 1, 0] rfl ?_
    exact h
theorem c_X11_gaining {g : ab_E} {d : Nat} {v : gd_D} {Q : ab_O → gd_D → Prop} (hd : 0 ≤ d) (h : wp_X11_gaining g d v Q) : gd_C g mX11_gaining d 0 0 [zR 11 0] v Q := gd_enterF (plainFor_of_name (by decide)) (Nat.le_of_ble_eq_true rfl) rfl (w_X11_gaining hd h)
def wp_X11_goesRound (g : ab_E) (d : Nat) (a1 : Int32) (v : gd_D) (Q : ab_O → gd_D → Prop) : Prop :=
  gd_G g mX11_goesRound d 0 0 7 [(0, zR 11 0), (1, zI a1), (2, zJ 9223372036854775807), (4, zI a1)] [] v Q
theorem w_X11_goesRound {g : ab_E} {d : Nat} {a1 : Int32} {v : gd_D} {Q : ab_O → gd_D → Prop} (hd : 0 ≤ d) (h : wp_X11_goesRound g d a1 v Q) : gd_G g mX11_goesRound d 0 0 0 [(0, zR 11 0), (1, zI a1)] [] v Q := by
  unfold wp_X11_goesRound at h
  refine gd_ldc2 kX11_414 dX11_goesRound_0 ?_
  refine gd_lstore_n (L' := [(2, zJ 9223372036854775807), (0, zR 11 0), (1, zI a1)]) dX11_goesRound_3 rfl (by decide) rfl ?_
  refine gd_iload_n 2 dX11_goesRound_4 rfl rfl ?_
  refine gd_istore (L' := [(4, zI a1), (2, zJ 9223372036854775807), (0, zR 11 0), (1, zI a1)]) dX11_goesRound_5 (by decide) rfl ?_
  refine gd_locals [2, 3, 1, 0] rfl ?_
  exact h
def wp_X11_goesRound_54 (g : ab_E) (d : Nat) (a1 : Int32) (a4 : Int32) (s0 : Int64) (s1 : Int64) (v : gd_D) (Q : ab_O → gd_D → Prop) : Prop :=
  gd_C g mJ9_min_f86c9 2 0 0 [zJ s0, zJ s1] v (gd_rJ (fun (r2 : Int64) v1 =>
    gd_C g mX11_behindOf 2 0 0 [zR 11 0, zI a4] v1 (gd_rI (fun (r4 : Int32) v3 =>
      ((¬ (r4 : Int32) = a1) →
        gd_G g mX11_goesRound d 0 0 7 [(0, zR 11 0), (1, zI a1), (2, zJ r2), (4, zI r4)] [] v3 Q) ∧
      (((r4 : Int32) = a1) →
        gd_G g mX11_goesRound d 0 0 72 [(0, zR 11 0), (1, zI a1), (2, zJ r2), (4, zI r4)] [] v3 Q)) (fun E v9 => Q (Sum.inr E) v9))) (fun E v9 => Q (Sum.inr E) v9))
theorem w_X11_goesRound_54 {g : ab_E} {d : Nat} {a1 : Int32} {a4 : Int32} {s0 : Int64} {s1 : Int64} {v : gd_D} {Q : ab_O → gd_D → Prop} (hd : 3 ≤ d) (h : wp_X11_goesRound_54 g d a1 a4 s0 s1 v Q) : gd_G g mX11_goesRound d 0 0 54 [(0, zR 11 0), (1, zI a1), (4, zI a4)] [zJ s1, zJ s0] v Q := by
  unfold wp_X11_goesRound_54 at h
  refine gd_callSJ (As := [zJ s0, zJ s1]) (rest := []) (dy := 2) (my := 0) (sy := 0) lX11_158 tJ9_min_f86c9 dX11_goesRound_54 rfl rfl (gd_room (by omega) (by decide)) (by decide) (Nat.le_of_ble_eq_true rfl) h (fun r2 v1 h => ?_)
  refine gd_lstore_n (L' := [(2, zJ r2), (0, zR 11 0), (1, zI a1), (4, zI a4)]) dX11_goesRound_57 rfl (by decide) rfl ?_
  refine gd_aload_n 1 dX11_goesRound_58 rfl rfl ?_
  refine gd_iload 3 dX11_goesRound_59 rfl ?_
  refine gd_callVI (As := [zI a4]) (rest := []) (dy := 2) (my := 0) (sy := 0) (k := 11) (i := 0) lX11_409 iX11_behindOf sX11_behindOf rfl dX11_goesRound_61 rfl rfl (gd_room (by omega) (by decide)) (by decide) (Nat.le_of_ble_eq_true rfl) h (fun r4 v3 h => ?_)
  refine gd_istore (L' := [(4, zI r4), (2, zJ r2), (0, zR 11 0), (1, zI a1)]) dX11_goesRound_64 (by decide) rfl ?_
  refine gd_iload 0 dX11_goesRound_66 rfl ?_
  refine gd_iload_n 3 dX11_goesRound_68 rfl rfl ?_
  refine gd_icmp_ne (tgt := 7) dX11_goesRound_69 (by decide) (fun hc => ?_) (fun hc => ?_)
  · have h := h.1 hc
    refine gd_locals [2, 3, 1, 0] rfl ?_
    exact h
  · have h := h.2 hc
    refine gd_locals [2, 3, 1, 0] rfl ?_
    exact h
def wp_X11_goesRound_7 (g : ab_E) (d : Nat) (a1 : Int32) (a2 : Int64) (a4 : Int32) (v : gd_D) (Q : ab_O → gd_D → Prop) : Prop :=
  vp_in a4 9 ∧
  (((v.1 58 0 (a4 : Int32).toNatClampNeg : Int32) ≤ 0) →
    vp_in ((-(v.1 58 0 (a4 : Int32).toNatClampNeg)) - 1) 40 ∧
    ∀ y1 : Int64, y1 = v.2.1 60 0 ((-(v.1 58 0 (a4 : Int32).toNatClampNeg)) - 1 : Int32).toNatClampNeg →
    wp_X11_goesRound_54 g d a1 a4 a2 y1 v Q) ∧
  ((¬ (v.1 58 0 (a4 : Int32).toNatClampNeg : Int32) ≤ 0) →
    vp_in ((v.1 58 0 (a4 : Int32).toNatClampNeg) - 1) 40 ∧
    ∀ y2 : Int64, y2 = v.2.1 59 0 ((v.1 58 0 (a4 : Int32).toNatClampNeg) - 1 : Int32).toNatClampNeg →
    vp_in ((v.1 58 0 (a4 : Int32).toNatClampNeg) - 1) 40 ∧
    ∀ y3 : Int64, y3 = v.2.1 60 0 ((v.1 58 0 (a4 : Int32).toNatClampNeg) - 1 : Int32).toNatClampNeg →
    wp_X11_goesRound_54 g d a1 a4 a2 (y2 - y3) v Q)
theorem w_X11_goesRound_7 {g : ab_E} {d : Nat} {a1 : Int32} {a2 : Int64} {a4 : Int32} {v : gd_D} {Q : ab_O → gd_D → Prop} (hd : 3 ≤ d) (h : wp_X11_goesRound_7 g d a1 a2 a4 v Q) : gd_G g mX11_goesRound d 0 0 7 [(0, zR 11 0), (1, zI a1), (2, zJ a2), (4, zI a4)] [] v Q := by
  unfold wp_X11_goesRound_7 at h
  refine gd_aload_n 0 dX11_goesRound_7 rfl rfl ?_
  refine gd_getR (x := 0) (kr := 58) fX11_77 rfl rfl dX11_goesRound_8 rfl ?_
  refine gd_iload 3 dX11_goesRound_11 rfl ?_
  obtain ⟨hb, h⟩ := h
  refine gd_iaload (n := 9) (by decide) rfl dX11_goesRound_13 rfl hb ?_
  refine gd_istore (L' := [(5, zI (v.1 58 0 (a4 : Int32).toNatClampNeg)), (0, zR 11 0), (1, zI a1), (2, zJ a2), (4, zI a4)]) dX11_goesRound_14 (by decide) rfl ?_
  refine gd_lload_n 3 dX11_goesRound_16 rfl rfl ?_
  refine gd_iload 0 dX11_goesRound_17 rfl ?_
  refine gd_if_le (tgt := 44) dX11_goesRound_19 (by decide) (fun hc => ?_) (fun hc => ?_)
  · have h := h.1 hc
    refine gd_aload_n 1 dX11_goesRound_44 rfl rfl ?_
    refine gd_getR (x := 0) (kr := 60) fX11_83 rfl rfl dX11_goesRound_45 rfl ?_
    refine gd_iload 0 dX11_goesRound_48 rfl ?_
    refine gd_ineg dX11_goesRound_50 ?_
    refine gd_iconst (x9 := 1) dX11_goesRound_51 (by decide) ?_
    refine gd_isub dX11_goesRound_52 ?_
    obtain ⟨hb, h⟩ := h
    refine gd_laload (n := 40) (by decide) rfl dX11_goesRound_53 rfl hb ?_
    refine gd_nmJ (fun y1 ey1 => ?_)
    have h := h y1 ey1
    refine gd_locals [1, 2, 4] rfl ?_
    exact w_X11_goesRound_54 (by omega) h
  · have h := h.2 hc
    refine gd_aload_n 1 dX11_goesRound_22 rfl rfl ?_
    refine gd_getR (x := 0) (kr := 59) fX11_80 rfl rfl dX11_goesRound_23 rfl ?_
    refine gd_iload 0 dX11_goesRound_26 rfl ?_
    refine gd_iconst (x9 := 1) dX11_goesRound_28 (by decide) ?_
    refine gd_isub dX11_goesRound_29 ?_
    obtain ⟨hb, h⟩ := h
    refine gd_laload (n := 40) (by decide) rfl dX11_goesRound_30 rfl hb ?_
    refine gd_nmJ (fun y2 ey2 => ?_)
    have h := h y2 ey2
    refine gd_aload_n 1 dX11_goesRound_31 rfl rfl ?_
    refine gd_getR (x := 0) (kr := 60) fX11_83 rfl rfl dX11_goesRound_32 rfl ?_
    refine gd_iload 0 dX11_goesRound_35 rfl ?_
    refine gd_iconst (x9 := 1) dX11_goesRound_37 (by decide) ?_
    refine gd_isub dX11_goesRound_38 ?_
    obtain ⟨hb, h⟩ := h
    refine gd_laload (n := 40) (by decide) rfl dX11_goesRound_39 rfl hb ?_
    refine gd_nmJ (fun y3 ey3 => ?_)
    have h := h y3 ey3
    refine gd_lsub dX11_goesRound_40 ?_
    refine gd_goto (tgt := 54) dX11_goesRound_41 (by decide) ?_
    refine gd_locals [1, 2, 4] rfl ?_
    exact w_X11_goesRound_54 (by omega) h
def wp_X11_goesRound_116 (g : ab_E) (d : Nat) (a1 : Int32) (a2 : Int64) (a4 : Int32) (v : gd_D) (Q : ab_O → gd_D → Prop) : Prop :=
  gd_C g mX11_behindOf 2 0 0 [zR 11 0, zI a4] v (gd_rI (fun (r2 : Int32) v1 =>
    ((¬ (r2 : Int32) = a1) →
      gd_G g mX11_goesRound d 0 0 72 [(0, zR 11 0), (1, zI a1), (2, zJ a2), (4, zI r2)] [] v1 Q) ∧
    (((r2 : Int32) = a1) →
      Q (Sum.inl none) v1)) (fun E v9 => Q (Sum.inr E) v9))
theorem w_X11_goesRound_116 {g : ab_E} {d : Nat} {a1 : Int32} {a2 : Int64} {a4 : Int32} {v : gd_D} {Q : ab_O → gd_D → Prop} (hd : 3 ≤ d) (h : wp_X11_goesRound_116 g d a1 a2 a4 v Q) : gd_G g mX11_goesRound d 0 0 116 [(0, zR 11 0), (1, zI a1), (2, zJ a2), (4, zI a4)] [] v Q := by
  unfold wp_X11_goesRound_116 at h
  refine gd_aload_n 0 dX11_goesRound_116 rfl rfl ?_
  refine gd_iload 3 dX11_goesRound_117 rfl ?_
  refine gd_callVI (As := [zI a4]) (rest := []) (dy := 2) (my := 0) (sy := 0) (k := 11) (i := 0) lX11_409 iX11_behindOf sX11_behindOf rfl dX11_goesRound_119 rfl rfl (gd_room (by omega) (by decide)) (by decide) (Nat.le_of_ble_eq_true rfl) h (fun r2 v1 h => ?_)
  refine gd_istore (L' := [(4, zI r2), (0, zR 11 0), (1, zI a1), (2, zJ a2)]) dX11_goesRound_122 (by decide) rfl ?_
  refine gd_iload 0 dX11_goesRound_124 rfl ?_
  refine gd_iload_n 2 dX11_goesRound_126 rfl rfl ?_
  refine gd_icmp_ne (tgt := 72) dX11_goesRound_127 (by decide) (fun hc => ?_) (fun hc => ?_)
  · have h := h.1 hc
    refine gd_locals [1, 2, 3, 0] rfl ?_
    exact h
  · have h := h.2 hc
    exact gd_vret dX11_goesRound_130 rfl h
def wp_X11_goesRound_72 (g : ab_E) (d : Nat) (a1 : Int32) (a2 : Int64) (a4 : Int32) (v : gd_D) (Q : ab_O → gd_D → Prop) : Prop :=
  vp_in a4 9 ∧
  (((v.1 58 0 (a4 : Int32).toNatClampNeg : Int32) ≤ 0) →
    vp_in ((-(v.1 58 0 (a4 : Int32).toNatClampNeg)) - 1) 40 ∧
    ∀ y1 : Int64, y1 = v.2.1 60 0 ((-(v.1 58 0 (a4 : Int32).toNatClampNeg)) - 1 : Int32).toNatClampNeg →
    vp_in ((-(v.1 58 0 (a4 : Int32).toNatClampNeg)) - 1) 40 ∧
    ∀ v2 : gd_D, v2 = gd_sJ v 60 0 (((-(v.1 58 0 (a4 : Int32).toNatClampNeg)) - 1 : Int32).toNatClampNeg) (y1 - a2) →
    wp_X11_goesRound_116 g d a1 a2 a4 v2 Q) ∧
  ((¬ (v.1 58 0 (a4 : Int32).toNatClampNeg : Int32) ≤ 0) →
    vp_in ((v.1 58 0 (a4 : Int32).toNatClampNeg) - 1) 40 ∧
    ∀ y3 : Int64, y3 = v.2.1 60 0 ((v.1 58 0 (a4 : Int32).toNatClampNeg) - 1 : Int32).toNatClampNeg →
    vp_in ((v.1 58 0 (a4 : Int32).toNatClampNeg) - 1) 40 ∧
    ∀ v4 : gd_D, v4 = gd_sJ v 60 0 (((v.1 58 0 (a4 : Int32).toNatClampNeg) - 1 : Int32).toNatClampNeg) (y3 + a2) →
    wp_X11_goesRound_116 g d a1 a2 a4 v4 Q)
theorem w_X11_goesRound_72 {g : ab_E} {d : Nat} {a1 : Int32} {a2 : Int64} {a4 : Int32} {v : gd_D} {Q : ab_O → gd_D → Prop} (hd : 3 ≤ d) (h : wp_X11_goesRound_72 g d a1 a2 a4 v Q) : gd_G g mX11_goesRound d 0 0 72 [(0, zR 11 0), (1, zI a1), (2, zJ a2), (4, zI a4)] [] v Q := by
  unfold wp_X11_goesRound_72 at h
  refine gd_aload_n 0 dX11_goesRound_72 rfl rfl ?_
  refine gd_getR (x := 0) (kr := 58) fX11_77 rfl rfl dX11_goesRound_73 rfl ?_
  refine gd_iload 3 dX11_goesRound_76 rfl ?_
  obtain ⟨hb, h⟩ := h
  refine gd_iaload (n := 9) (by decide) rfl dX11_goesRound_78 rfl hb ?_
  refine gd_istore (L' := [(5, zI (v.1 58 0 (a4 : Int32).toNatClampNeg)), (0, zR 11 0), (1, zI a1), (2, zJ a2), (4, zI a4)]) dX11_goesRound_79 (by decide) rfl ?_
  refine gd_iload 0 dX11_goesRound_81 rfl ?_
  refine gd_if_le (tgt := 102) dX11_goesRound_83 (by decide) (fun hc => ?_) (fun hc => ?_)
  · have h := h.1 hc
    refine gd_aload_n 1 dX11_goesRound_102 rfl rfl ?_
    refine gd_getR (x := 0) (kr := 60) fX11_83 rfl rfl dX11_goesRound_103 rfl ?_
    refine gd_iload 0 dX11_goesRound_106 rfl ?_
    refine gd_ineg dX11_goesRound_108 ?_
    refine gd_iconst (x9 := 1) dX11_goesRound_109 (by decide) ?_
    refine gd_isub dX11_goesRound_110 ?_
    refine gd_dup2_11 dX11_goesRound_111 rfl rfl ?_
    obtain ⟨hb, h⟩ := h
    refine gd_laload (n := 40) (by decide) rfl dX11_goesRound_112 rfl hb ?_
    refine gd_nmJ (fun y1 ey1 => ?_)
    have h := h y1 ey1
    refine gd_lload_n 3 dX11_goesRound_113 rfl rfl ?_
    refine gd_lsub dX11_goesRound_114 ?_
    obtain ⟨hb, h⟩ := h
    refine gd_lastoren (n := 40) (by decide) rfl rfl dX11_goesRound_115 rfl hb (fun v2 ev2 => ?_)
    have h := h v2 ev2
    refine gd_locals [1, 2, 3, 4] rfl ?_
    exact w_X11_goesRound_116 (by omega) h
  · have h := h.2 hc
    refine gd_aload_n 1 dX11_goesRound_86 rfl rfl ?_
    refine gd_getR (x := 0) (kr := 60) fX11_83 rfl rfl dX11_goesRound_87 rfl ?_
    refine gd_iload 0 dX11_goesRound_90 rfl ?_
    refine gd_iconst (x9 := 1) dX11_goesRound_92 (by decide) ?_
    refine gd_isub dX11_goesRound_93 ?_
    refine gd_dup2_11 dX11_goesRound_94 rfl rfl ?_
    obtain ⟨hb, h⟩ := h
    refine gd_laload (n := 40) (by decide) rfl dX11_goesRound_95 rfl hb ?_
    refine gd_nmJ (fun y3 ey3 => ?_)
    have h := h y3 ey3
    refine gd_lload_n 3 dX11_goesRound_96 rfl rfl ?_
    refine gd_ladd dX11_goesRound_97 ?_
    obtain ⟨hb, h⟩ := h
    refine gd_lastoren (n := 40) (by decide) rfl rfl dX11_goesRound_98 rfl hb (fun v4 ev4 => ?_)
    have h := h v4 ev4
    refine gd_goto (tgt := 116) dX11_goesRound_99 (by decide) ?_
    refine gd_locals [1, 2, 3, 4] rfl ?_
    exact w_X11_goesRound_116 (by omega) h
theorem c_X11_goesRound {g : ab_E} {d : Nat} {a1 : Int32} {v : gd_D} {Q : ab_O → gd_D → Prop} (hd : 0 ≤ d) (h : wp_X11_goesRound g d a1 v Q) : gd_C g mX11_goesRound d 0 0 [zR 11 0, zI a1] v Q := gd_enterF (plainFor_of_name (by decide)) (Nat.le_of_ble_eq_true rfl) rfl (w_X11_goesRound hd h)
def wp_X11_most_34 (g : ab_E) (d : Nat) (s1 : Int32) (v : gd_D) (Q : ab_O → gd_D → Prop) : Prop :=
  gd_C g mX11_laysNet 4 0 0 [zR 11 0, zI s1] v (gd_rV (fun v1 =>
    gd_C g mX11_gaining 3 0 0 [zR 11 0] v1 (gd_rI (fun (r4 : Int32) v3 =>
      gd_G g mX11_most d 0 0 42 [(0, zR 11 0), (2, zI r4)] [] v3 Q) (fun E v9 => Q (Sum.inr E) v9))) (fun E v9 => Q (Sum.inr E) v9))
theorem w_X11_most_34 {g : ab_E} {d : Nat} {s1 : Int32} {v : gd_D} {Q : ab_O → gd_D → Prop} (hd : 5 ≤ d) (h : wp_X11_most_34 g d s1 v Q) : gd_G g mX11_most d 0 0 34 [(0, zR 11 0)] [zI s1, zR 11 0] v Q := by
  unfold wp_X11_most_34 at h
  refine gd_callVV (As := [zI s1]) (rest := []) (dy := 4) (my := 0) (sy := 0) (k := 11) (i := 0) lX11_416 iX11_laysNet sX11_laysNet rfl dX11_most_34 rfl rfl (gd_room (by omega) (by decide)) (by decide) (Nat.le_of_ble_eq_true rfl) h (fun v1 h => ?_)
  refine gd_aload_n 0 dX11_most_37 rfl rfl ?_
  refine gd_callVI (As := []) (rest := []) (dy := 3) (my := 0) (sy := 0) (k := 11) (i := 0) lX11_420 iX11_gaining sX11_gaining rfl dX11_most_38 rfl rfl (gd_room (by omega) (by decide)) (by decide) (Nat.le_of_ble_eq_true rfl) h (fun r4 v3 h => ?_)
  refine gd_istore_n (L' := [(2, zI r4), (0, zR 11 0)]) dX11_most_41 rfl (by decide) rfl ?_
  refine gd_locals [1, 0] rfl ?_
  exact h
def wp_X11_most (g : ab_E) (d : Nat) (a1 : Int32) (v : gd_D) (Q : ab_O → gd_D → Prop) : Prop :=
  ∀ v1 : gd_D, v1 = gd_sI v 11 0 0 0 →
  gd_C g mX11_lies 2 0 0 [zJ ((a1 : Int32).toInt64), zJ 0, zJ 1] v1 (gd_rI (fun (r3 : Int32) v2 =>
    gd_C g mX11_isFine 2 0 0 [zR 11 0, zI r3, zI 1, zI 1] v2 (gd_rI (fun (r5 : Int32) v4 =>
      ((¬ (r5 : Int32) = 0) →
        ((¬ (a1 : Int32) = 1) →
          wp_X11_most_34 g d 0 v4 Q) ∧
        (((a1 : Int32) = 1) →
          wp_X11_most_34 g d 1 v4 Q)) ∧
      (((r5 : Int32) = 0) →
        Q (Sum.inl (some (zJ 0))) v4)) (fun E v9 => Q (Sum.inr E) v9))) (fun E v9 => Q (Sum.inr E) v9))
theorem w_X11_most {g : ab_E} {d : Nat} {a1 : Int32} {v : gd_D} {Q : ab_O → gd_D → Prop} (hd : 5 ≤ d) (h : wp_X11_most g d a1 v Q) : gd_G g mX11_most d 0 0 0 [(0, zR 11 0), (1, zI a1)] [] v Q := by
  unfold wp_X11_most at h
  refine gd_aload_n 0 dX11_most_0 rfl rfl ?_
  refine gd_iconst (x9 := 0) dX11_most_1 (by decide) ?_
  refine gd_putIn fX11_1 rfl rfl dX11_most_2 (fun v1 ev1 => ?_)
  have h := h v1 ev1
  refine gd_aload_n 0 dX11_most_5 rfl rfl ?_
  refine gd_iload_n 1 dX11_most_6 rfl rfl ?_
  refine gd_i2l dX11_most_7 ?_
  refine gd_lconst (x9 := 0) dX11_most_8 (by decide) ?_
  refine gd_lconst (x9 := 1) dX11_most_9 (by decide) ?_
  refine gd_callSI (As := [zJ ((a1 : Int32).toInt64), zJ 0, zJ 1]) (rest := [zR 11 0]) (dy := 2) (my := 0) (sy := 0) lX11_164 tX11_lies dX11_most_10 rfl rfl (gd_room (by omega) (by decide)) (by decide) (Nat.le_of_ble_eq_true rfl) h (fun r3 v2 h => ?_)
  refine gd_iconst (x9 := 1) dX11_most_13 (by decide) ?_
  refine gd_iconst (x9 := 1) dX11_most_14 (by decide) ?_
  refine gd_callVI (As := [zI r3, zI 1, zI 1]) (rest := []) (dy := 2) (my := 0) (sy := 0) (k := 11) (i := 0) lX11_264 iX11_isFine sX11_isFine rfl dX11_most_15 rfl rfl (gd_room (by omega) (by decide)) (by decide) (Nat.le_of_ble_eq_true rfl) h (fun r5 v4 h => ?_)
  refine gd_if_ne (tgt := 23) dX11_most_18 (by decide) (fun hc => ?_) (fun hc => ?_)
  · have h := h.1 hc
    refine gd_aload_n 0 dX11_most_23 rfl rfl ?_
    refine gd_iload_n 1 dX11_most_24 rfl rfl ?_
    refine gd_iconst (x9 := 1) dX11_most_25 (by decide) ?_
    refine gd_icmp_ne (tgt := 33) dX11_most_26 (by decide) (fun hc => ?_) (fun hc => ?_)
    · have h := h.1 hc
      refine gd_iconst (x9 := 0) dX11_most_33 (by decide) ?_
      refine gd_locals [0] rfl ?_
      exact w_X11_most_34 (by omega) h
    · have h := h.2 hc
      refine gd_iconst (x9 := 1) dX11_most_29 (by decide) ?_
      refine gd_goto (tgt := 34) dX11_most_30 (by decide) ?_
      refine gd_locals [0] rfl ?_
      exact w_X11_most_34 (by omega) h
  · have h := h.2 hc
    refine gd_lconst (x9 := 0) dX11_most_21 (by decide) ?_
    exact gd_lret dX11_most_22 rfl h
def wp_X11_most_42 (g : ab_E) (d : Nat) (a2 : Int32) (v : gd_D) (Q : ab_O → gd_D → Prop) : Prop :=
  (((a2 : Int32) = (-1)) →
    gd_G g mX11_most d 0 0 65 [(0, zR 11 0), (2, zJ 0), (4, zI 0)] [] v Q) ∧
  ((¬ (a2 : Int32) = (-1)) →
    gd_C g mX11_goesRound 3 0 0 [zR 11 0, zI a2] v (gd_rV (fun v1 =>
      gd_C g mX11_gaining 3 0 0 [zR 11 0] v1 (gd_rI (fun (r4 : Int32) v3 =>
        gd_G g mX11_most d 0 0 42 [(0, zR 11 0), (2, zI r4)] [] v3 Q) (fun E v9 => Q (Sum.inr E) v9))) (fun E v9 => Q (Sum.inr E) v9)))
theorem w_X11_most_42 {g : ab_E} {d : Nat} {a2 : Int32} {v : gd_D} {Q : ab_O → gd_D → Prop} (hd : 4 ≤ d) (h : wp_X11_most_42 g d a2 v Q) : gd_G g mX11_most d 0 0 42 [(0, zR 11 0), (2, zI a2)] [] v Q := by
  unfold wp_X11_most_42 at h
  refine gd_iload_n 1 dX11_most_42 rfl rfl ?_
  refine gd_iconst (x9 := (-1)) dX11_most_43 (by decide) ?_
  refine gd_icmp_eq (tgt := 60) dX11_most_44 (by decide) (fun hc => ?_) (fun hc => ?_)
  · have h := h.1 hc
    refine gd_lconst (x9 := 0) dX11_most_60 (by decide) ?_
    refine gd_lstore_n (L' := [(2, zJ 0), (0, zR 11 0)]) dX11_most_61 rfl (by decide) rfl ?_
    refine gd_iconst (x9 := 0) dX11_most_62 (by decide) ?_
    refine gd_istore (L' := [(4, zI 0), (2, zJ 0), (0, zR 11 0)]) dX11_most_63 (by decide) rfl ?_
    refine gd_locals [2, 1, 0] rfl ?_
    exact h
  · have h := h.2 hc
    refine gd_aload_n 0 dX11_most_47 rfl rfl ?_
    refine gd_iload_n 1 dX11_most_48 rfl rfl ?_
    refine gd_callVV (As := [zI a2]) (rest := []) (dy := 3) (my := 0) (sy := 0) (k := 11) (i := 0) lX11_423 iX11_goesRound sX11_goesRound rfl dX11_most_49 rfl rfl (gd_room (by omega) (by decide)) (by decide) (Nat.le_of_ble_eq_true rfl) h (fun v1 h => ?_)
    refine gd_aload_n 0 dX11_most_52 rfl rfl ?_
    refine gd_callVI (As := []) (rest := []) (dy := 3) (my := 0) (sy := 0) (k := 11) (i := 0) lX11_420 iX11_gaining sX11_gaining rfl dX11_most_53 rfl rfl (gd_room (by omega) (by decide)) (by decide) (Nat.le_of_ble_eq_true rfl) h (fun r4 v3 h => ?_)
    refine gd_istore_n (L' := [(2, zI r4), (0, zR 11 0)]) dX11_most_56 rfl (by decide) rfl ?_
    refine gd_goto (tgt := 42) dX11_most_57 (by decide) ?_
    refine gd_locals [1, 0] rfl ?_
    exact h
def wp_X11_most_65 (g : ab_E) (d : Nat) (a2 : Int64) (a4 : Int32) (v : gd_D) (Q : ab_O → gd_D → Prop) : Prop :=
  gd_C g mX11_sales 2 0 0 [zR 11 0] v (gd_rI (fun (r2 : Int32) v1 =>
    (((r2 : Int32) ≤ a4) →
      Q (Sum.inl (some (zJ a2))) v1) ∧
    ((¬ (r2 : Int32) ≤ a4) →
      vp_in a4 40 ∧
      vp_in a4 40 ∧
      ∀ y3 : Int64, y3 = (v1.2.1 60 0 (a4 : Int32).toNatClampNeg) * (v1.2.1 61 0 (a4 : Int32).toNatClampNeg) →
      gd_G g mX11_most d 0 0 65 [(0, zR 11 0), (2, zJ (a2 + y3)), (4, zI (a4 + 1))] [] v1 Q)) (fun E v9 => Q (Sum.inr E) v9))
theorem w_X11_most_65 {g : ab_E} {d : Nat} {a2 : Int64} {a4 : Int32} {v : gd_D} {Q : ab_O → gd_D → Prop} (hd : 3 ≤ d) (h : wp_X11_most_65 g d a2 a4 v Q) : gd_G g mX11_most d 0 0 65 [(0, zR 11 0), (2, zJ a2), (4, zI a4)] [] v Q := by
  unfold wp_X11_most_65 at h
  refine gd_iload 2 dX11_most_65 rfl ?_
  refine gd_aload_n 0 dX11_most_67 rfl rfl ?_
  refine gd_callVI (As := []) (rest := [zI a4]) (dy := 2) (my := 0) (sy := 0) (k := 11) (i := 0) lX11_278 iX11_sales sX11_sales rfl dX11_most_68 rfl rfl (gd_room (by omega) (by decide)) (by decide) (Nat.le_of_ble_eq_true rfl) h (fun r2 v1 h => ?_)
  refine gd_icmp_ge (tgt := 98) dX11_most_71 (by decide) (fun hc => ?_) (fun hc => ?_)
  · have h := h.1 hc
    refine gd_lload_n 1 dX11_most_98 rfl rfl ?_
    exact gd_lret dX11_most_99 rfl h
  · have h := h.2 hc
    refine gd_lload_n 1 dX11_most_74 rfl rfl ?_
    refine gd_aload_n 0 dX11_most_75 rfl rfl ?_
    refine gd_getR (x := 0) (kr := 60) fX11_83 rfl rfl dX11_most_76 rfl ?_
    refine gd_iload 2 dX11_most_79 rfl ?_
    obtain ⟨hb, h⟩ := h
    refine gd_laload (n := 40) (by decide) rfl dX11_most_81 rfl hb ?_
    refine gd_aload_n 0 dX11_most_82 rfl rfl ?_
    refine gd_getR (x := 0) (kr := 61) fX11_86 rfl rfl dX11_most_83 rfl ?_
    refine gd_iload 2 dX11_most_86 rfl ?_
    obtain ⟨hb, h⟩ := h
    refine gd_laload (n := 40) (by decide) rfl dX11_most_88 rfl hb ?_
    refine gd_lmul dX11_most_89 ?_
    refine gd_nmJ (fun y3 ey3 => ?_)
    have h := h y3 ey3
    refine gd_ladd dX11_most_90 ?_
    refine gd_lstore_n (L' := [(2, zJ (a2 + y3)), (0, zR 11 0), (4, zI a4)]) dX11_most_91 rfl (by decide) rfl ?_
    refine gd_iinc (x9 := a4 + 1) (L' := [(4, zI (a4 + 1)), (2, zJ (a2 + y3)), (0, zR 11 0)]) 2 dX11_most_92 rfl rfl (by decide) rfl ?_
    refine gd_goto (tgt := 65) dX11_most_95 (by decide) ?_
    refine gd_locals [2, 1, 0] rfl ?_
    exact h
theorem c_X11_most {g : ab_E} {d : Nat} {a1 : Int32} {v : gd_D} {Q : ab_O → gd_D → Prop} (hd : 5 ≤ d) (h : wp_X11_most g d a1 v Q) : gd_C g mX11_most d 0 0 [zR 11 0, zI a1] v Q := gd_enterF (plainFor_of_name (by decide)) (Nat.le_of_ble_eq_true rfl) rfl (w_X11_most hd h)
def wp_X11_foretold (g : ab_E) (d : Nat) (a1 : Int32) (v : gd_D) (Q : ab_O → gd_D → Prop) : Prop :=
  ∀ v1 : gd_D, v1 = gd_sI v 11 0 0 0 →
  gd_C g mX11_lies 2 0 0 [zJ ((a1 : Int32).toInt64), zJ 1, zJ 30] v1 (gd_rI (fun (r3 : Int32) v2 =>
    gd_C g mX11_isFine 2 0 0 [zR 11 0, zI r3, zI 1, zI 1] v2 (gd_rI (fun (r5 : Int32) v4 =>
      (((r5 : Int32) = 0) →
        Q (Sum.inl (some (zI 0))) v4) ∧
      ((¬ (r5 : Int32) = 0) →
        vp_in 2 773 ∧
        ∀ y6 : Int64, y6 = (v4.2.1 40 0 (2 : Int32).toNatClampNeg) + ((a1 : Int32).toInt64) →
        (((y6 - 1 : Int64) < 5000) →
          gd_C g mX11_putsAside 2 0 0 [zR 11 0] v4 (gd_rV (fun v7 =>
            gd_G g mX11_foretold d 0 0 49 [(0, zR 11 0), (1, zI a1), (2, zI 0)] [] v7 Q) (fun E v9 => Q (Sum.inr E) v9))) ∧
        ((¬ (y6 - 1 : Int64) < 5000) →
          Q (Sum.inl (some (zI 0))) v4))) (fun E v9 => Q (Sum.inr E) v9))) (fun E v9 => Q (Sum.inr E) v9))
theorem w_X11_foretold {g : ab_E} {d : Nat} {a1 : Int32} {v : gd_D} {Q : ab_O → gd_D → Prop} (hd : 3 ≤ d) (h : wp_X11_foretold g d a1 v Q) : gd_G g mX11_foretold d 0 0 0 [(0, zR 11 0), (1, zI a1)] [] v Q := by
  unfold wp_X11_foretold at h
  refine gd_aload_n 0 dX11_foretold_0 rfl rfl ?_
  refine gd_iconst (x9 := 0) dX11_foretold_1 (by decide) ?_
  refine gd_putIn fX11_1 rfl rfl dX11_foretold_2 (fun v1 ev1 => ?_)
  have h := h v1 ev1
  refine gd_aload_n 0 dX11_foretold_5 rfl rfl ?_
  refine gd_iload_n 1 dX11_foretold_6 rfl rfl ?_
  refine gd_i2l dX11_foretold_7 ?_
  refine gd_lconst (x9 := 1) dX11_foretold_8 (by decide) ?_
  refine gd_ldc2 kX11_426 dX11_foretold_9 ?_
  refine gd_callSI (As := [zJ ((a1 : Int32).toInt64), zJ 1, zJ 30]) (rest := [zR 11 0]) (dy := 2) (my := 0) (sy := 0) lX11_164 tX11_lies dX11_foretold_12 rfl rfl (gd_room (by omega) (by decide)) (by decide) (Nat.le_of_ble_eq_true rfl) h (fun r3 v2 h => ?_)
  refine gd_iconst (x9 := 1) dX11_foretold_15 (by decide) ?_
  refine gd_iconst (x9 := 1) dX11_foretold_16 (by decide) ?_
  refine gd_callVI (As := [zI r3, zI 1, zI 1]) (rest := []) (dy := 2) (my := 0) (sy := 0) (k := 11) (i := 0) lX11_264 iX11_isFine sX11_isFine rfl dX11_foretold_17 rfl rfl (gd_room (by omega) (by decide)) (by decide) (Nat.le_of_ble_eq_true rfl) h (fun r5 v4 h => ?_)
  refine gd_if_eq (tgt := 41) dX11_foretold_20 (by decide) (fun hc => ?_) (fun hc => ?_)
  · have h := h.1 hc
    refine gd_iconst (x9 := 0) dX11_foretold_41 (by decide) ?_
    exact gd_iret (ty := .int) dX11_foretold_42 rfl rfl h
  · have h := h.2 hc
    refine gd_aload_n 0 dX11_foretold_23 rfl rfl ?_
    refine gd_getR (x := 0) (kr := 40) fX11_17 rfl rfl dX11_foretold_24 rfl ?_
    refine gd_iconst (x9 := 2) dX11_foretold_27 (by decide) ?_
    obtain ⟨hb, h⟩ := h
    refine gd_laload (n := 773) (by decide) rfl dX11_foretold_28 rfl hb ?_
    refine gd_iload_n 1 dX11_foretold_29 rfl rfl ?_
    refine gd_i2l dX11_foretold_30 ?_
    refine gd_ladd dX11_foretold_31 ?_
    refine gd_nmJ (fun y6 ey6 => ?_)
    have h := h y6 ey6
    refine gd_lconst (x9 := 1) dX11_foretold_32 (by decide) ?_
    refine gd_lsub dX11_foretold_33 ?_
    refine gd_ldc2 kX11_373 dX11_foretold_34 ?_
    refine gd_lc_lt (tgt := 43) dX11_foretold_37 dX11_foretold_38 (by decide) (fun hc => ?_) (fun hc => ?_)
    · have h := h.1 hc
      refine gd_aload_n 0 dX11_foretold_43 rfl rfl ?_
      refine gd_callVV (As := []) (rest := []) (dy := 2) (my := 0) (sy := 0) (k := 11) (i := 0) lX11_428 iX11_putsAside sX11_putsAside rfl dX11_foretold_44 rfl rfl (gd_room (by omega) (by decide)) (by decide) (Nat.le_of_ble_eq_true rfl) h (fun v7 h => ?_)
      refine gd_iconst (x9 := 0) dX11_foretold_47 (by decide) ?_
      refine gd_istore_n (L' := [(2, zI 0), (0, zR 11 0), (1, zI a1)]) dX11_foretold_48 rfl (by decide) rfl ?_
      refine gd_locals [1, 2, 0] rfl ?_
      exact h
    · have h := h.2 hc
      refine gd_iconst (x9 := 0) dX11_foretold_41 (by decide) ?_
      exact gd_iret (ty := .int) dX11_foretold_42 rfl rfl h
def wp_X11_foretold_49 (g : ab_E) (d : Nat) (a1 : Int32) (a2 : Int32) (v : gd_D) (Q : ab_O → gd_D → Prop) : Prop :=
  (((a1 : Int32) ≤ a2) →
    gd_C g mX11_takesBack 2 0 0 [zR 11 0] v (gd_rV (fun v1 =>
      Q (Sum.inl (some (zI (v1.1 11 0 29)))) v1) (fun E v9 => Q (Sum.inr E) v9))) ∧
  ((¬ (a1 : Int32) ≤ a2) →
    gd_C g mX11_goes 42 0 0 [zR 11 0] v (gd_rV (fun v3 =>
      gd_G g mX11_foretold d 0 0 49 [(0, zR 11 0), (1, zI a1), (2, zI (a2 + 1))] [] v3 Q) (fun E v9 => Q (Sum.inr E) v9)))
theorem w_X11_foretold_49 {g : ab_E} {d : Nat} {a1 : Int32} {a2 : Int32} {v : gd_D} {Q : ab_O → gd_D → Prop} (hd : 43 ≤ d) (h : wp_X11_foretold_49 g d a1 a2 v Q) : gd_G g mX11_foretold d 0 0 49 [(0, zR 11 0), (1, zI a1), (2, zI a2)] [] v Q := by
  unfold wp_X11_foretold_49 at h
  refine gd_iload_n 2 dX11_foretold_49 rfl rfl ?_
  refine gd_iload_n 1 dX11_foretold_50 rfl rfl ?_
  refine gd_icmp_ge (tgt := 64) dX11_foretold_51 (by decide) (fun hc => ?_) (fun hc => ?_)
  · have h := h.1 hc
    refine gd_aload_n 0 dX11_foretold_64 rfl rfl ?_
    refine gd_callVV (As := []) (rest := []) (dy := 2) (my := 0) (sy := 0) (k := 11) (i := 0) lX11_431 iX11_takesBack sX11_takesBack rfl dX11_foretold_65 rfl rfl (gd_room (by omega) (by decide)) (by decide) (Nat.le_of_ble_eq_true rfl) h (fun v1 h => ?_)
    refine gd_aload_n 0 dX11_foretold_68 rfl rfl ?_
    refine gd_getI fX11_360 rfl dX11_foretold_69 ?_
    exact gd_iret (ty := .int) dX11_foretold_72 rfl rfl h
  · have h := h.2 hc
    refine gd_aload_n 0 dX11_foretold_54 rfl rfl ?_
    refine gd_callVV (As := []) (rest := []) (dy := 42) (my := 0) (sy := 0) (k := 11) (i := 0) lX11_375 iX11_goes sX11_goes rfl dX11_foretold_55 rfl rfl (gd_room (by omega) (by decide)) (by decide) (Nat.le_of_ble_eq_true rfl) h (fun v3 h => ?_)
    refine gd_iinc (x9 := a2 + 1) (L' := [(2, zI (a2 + 1)), (0, zR 11 0), (1, zI a1)]) 2 dX11_foretold_58 rfl rfl (by decide) rfl ?_
    refine gd_goto (tgt := 49) dX11_foretold_61 (by decide) ?_
    refine gd_locals [1, 2, 0] rfl ?_
    exact h
theorem c_X11_foretold {g : ab_E} {d : Nat} {a1 : Int32} {v : gd_D} {Q : ab_O → gd_D → Prop} (hd : 3 ≤ d) (h : wp_X11_foretold g d a1 v Q) : gd_C g mX11_foretold d 0 0 [zR 11 0, zI a1] v Q := gd_enterF (plainFor_of_name (by decide)) (Nat.le_of_ble_eq_true rfl) rfl (w_X11_foretold hd h)
def wp_X11_without_70 (g : ab_E) (d : Nat) (v : gd_D) (Q : ab_O → gd_D → Prop) : Prop :=
  gd_C g mX11_goes 42 0 0 [zR 11 0] v (gd_rV (fun v1 =>
    gd_C g mX11_takesBack 2 0 0 [zR 11 0] v1 (gd_rV (fun v3 =>
      Q (Sum.inl (some (zJ (v3.2.1 11 0 30)))) v3) (fun E v9 => Q (Sum.inr E) v9))) (fun E v9 => Q (Sum.inr E) v9))
theorem w_X11_without_70 {g : ab_E} {d : Nat} {v : gd_D} {Q : ab_O → gd_D → Prop} (hd : 43 ≤ d) (h : wp_X11_without_70 g d v Q) : gd_G g mX11_without d 0 0 70 [(0, zR 11 0)] [] v Q := by
  unfold wp_X11_without_70 at h
  refine gd_aload_n 0 dX11_without_70 rfl rfl ?_
  refine gd_callVV (As := []) (rest := []) (dy := 42) (my := 0) (sy := 0) (k := 11) (i := 0) lX11_375 iX11_goes sX11_goes rfl dX11_without_71 rfl rfl (gd_room (by omega) (by decide)) (by decide) (Nat.le_of_ble_eq_true rfl) h (fun v1 h => ?_)
  refine gd_aload_n 0 dX11_without_74 rfl rfl ?_
  refine gd_callVV (As := []) (rest := []) (dy := 2) (my := 0) (sy := 0) (k := 11) (i := 0) lX11_431 iX11_takesBack sX11_takesBack rfl dX11_without_75 rfl rfl (gd_room (by omega) (by decide)) (by decide) (Nat.le_of_ble_eq_true rfl) h (fun v3 h => ?_)
  refine gd_aload_n 0 dX11_without_78 rfl rfl ?_
  refine gd_getJ fX11_363 rfl dX11_without_79 ?_
  exact gd_lret dX11_without_82 rfl h
def wp_X11_without_24 (g : ab_E) (d : Nat) (a1 : Int32) (s1 : Int32) (v : gd_D) (Q : ab_O → gd_D → Prop) : Prop :=
  gd_C g mX11_isFine 2 0 0 [zR 11 0, zI s1, zI 1, zI 0] v (gd_rI (fun (r2 : Int32) v1 =>
    (((r2 : Int32) = 0) →
      Q (Sum.inl (some (zJ 0))) v1) ∧
    ((¬ (r2 : Int32) = 0) →
      vp_in 2 773 ∧
      (((v1.2.1 40 0 (2 : Int32).toNatClampNeg : Int64) < 5000) →
        gd_C g mX11_putsAside 2 0 0 [zR 11 0] v1 (gd_rV (fun v3 =>
          (((a1 : Int32) = (-1)) →
            wp_X11_without_70 g d v3 Q) ∧
          ((¬ (a1 : Int32) = (-1)) →
            gd_C g mX11_of0 2 0 0 [zR 11 0, zI a1, zI 5] v3 (gd_rI (fun (r6 : Int32) v5 =>
              gd_C g mX11_adds 2 0 0 [zR 11 0, zI a1, zI 5, zJ ((-r6 : Int32).toInt64)] v5 (gd_rV (fun v7 =>
                wp_X11_without_70 g d v7 Q) (fun E v9 => Q (Sum.inr E) v9))) (fun E v9 => Q (Sum.inr E) v9)))) (fun E v9 => Q (Sum.inr E) v9))) ∧
      ((¬ (v1.2.1 40 0 (2 : Int32).toNatClampNeg : Int64) < 5000) →
        Q (Sum.inl (some (zJ 0))) v1))) (fun E v9 => Q (Sum.inr E) v9))
theorem w_X11_without_24 {g : ab_E} {d : Nat} {a1 : Int32} {s1 : Int32} {v : gd_D} {Q : ab_O → gd_D → Prop} (hd : 43 ≤ d) (h : wp_X11_without_24 g d a1 s1 v Q) : gd_G g mX11_without d 0 0 24 [(0, zR 11 0), (1, zI a1)] [zI s1, zR 11 0] v Q := by
  unfold wp_X11_without_24 at h
  refine gd_iconst (x9 := 1) dX11_without_24 (by decide) ?_
  refine gd_iconst (x9 := 0) dX11_without_25 (by decide) ?_
  refine gd_callVI (As := [zI s1, zI 1, zI 0]) (rest := []) (dy := 2) (my := 0) (sy := 0) (k := 11) (i := 0) lX11_264 iX11_isFine sX11_isFine rfl dX11_without_26 rfl rfl (gd_room (by omega) (by decide)) (by decide) (Nat.le_of_ble_eq_true rfl) h (fun r2 v1 h => ?_)
  refine gd_if_eq (tgt := 45) dX11_without_29 (by decide) (fun hc => ?_) (fun hc => ?_)
  · have h := h.1 hc
    refine gd_lconst (x9 := 0) dX11_without_45 (by decide) ?_
    exact gd_lret dX11_without_46 rfl h
  · have h := h.2 hc
    refine gd_aload_n 0 dX11_without_32 rfl rfl ?_
    refine gd_getR (x := 0) (kr := 40) fX11_17 rfl rfl dX11_without_33 rfl ?_
    refine gd_iconst (x9 := 2) dX11_without_36 (by decide) ?_
    obtain ⟨hb, h⟩ := h
    refine gd_laload (n := 773) (by decide) rfl dX11_without_37 rfl hb ?_
    refine gd_ldc2 kX11_373 dX11_without_38 ?_
    refine gd_lc_lt (tgt := 47) dX11_without_41 dX11_without_42 (by decide) (fun hc => ?_) (fun hc => ?_)
    · have h := h.1 hc
      refine gd_aload_n 0 dX11_without_47 rfl rfl ?_
      refine gd_callVV (As := []) (rest := []) (dy := 2) (my := 0) (sy := 0) (k := 11) (i := 0) lX11_428 iX11_putsAside sX11_putsAside rfl dX11_without_48 rfl rfl (gd_room (by omega) (by decide)) (by decide) (Nat.le_of_ble_eq_true rfl) h (fun v3 h => ?_)
      refine gd_iload_n 1 dX11_without_51 rfl rfl ?_
      refine gd_iconst (x9 := (-1)) dX11_without_52 (by decide) ?_
      refine gd_icmp_eq (tgt := 70) dX11_without_53 (by decide) (fun hc => ?_) (fun hc => ?_)
      · have h := h.1 hc
        refine gd_locals [0] rfl ?_
        exact w_X11_without_70 (by omega) h
      · have h := h.2 hc
        refine gd_aload_n 0 dX11_without_56 rfl rfl ?_
        refine gd_iload_n 1 dX11_without_57 rfl rfl ?_
        refine gd_iconst (x9 := 5) dX11_without_58 (by decide) ?_
        refine gd_aload_n 0 dX11_without_59 rfl rfl ?_
        refine gd_iload_n 1 dX11_without_60 rfl rfl ?_
        refine gd_iconst (x9 := 5) dX11_without_61 (by decide) ?_
        refine gd_callVI (As := [zI a1, zI 5]) (rest := [zI 5, zI a1, zR 11 0]) (dy := 2) (my := 0) (sy := 0) (k := 11) (i := 0) lX11_289 iX11_of0 sX11_of0 rfl dX11_without_62 rfl rfl (gd_room (by omega) (by decide)) (by decide) (Nat.le_of_ble_eq_true rfl) h (fun r6 v5 h => ?_)
        refine gd_ineg dX11_without_65 ?_
        refine gd_i2l dX11_without_66 ?_
        refine gd_callVV (As := [zI a1, zI 5, zJ ((-r6 : Int32).toInt64)]) (rest := []) (dy := 2) (my := 0) (sy := 0) (k := 11) (i := 0) lX11_322 iX11_adds sX11_adds rfl dX11_without_67 rfl rfl (gd_room (by omega) (by decide)) (by decide) (Nat.le_of_ble_eq_true rfl) h (fun v7 h => ?_)
        refine gd_locals [0] rfl ?_
        exact w_X11_without_70 (by omega) h
    · have h := h.2 hc
      refine gd_lconst (x9 := 0) dX11_without_45 (by decide) ?_
      exact gd_lret dX11_without_46 rfl h
def wp_X11_without (g : ab_E) (d : Nat) (a1 : Int32) (v : gd_D) (Q : ab_O → gd_D → Prop) : Prop :=
  ∀ v1 : gd_D, v1 = gd_sI v 11 0 0 0 →
  (((a1 : Int32) = (-1)) →
    wp_X11_without_24 g d a1 1 v1 Q) ∧
  ((¬ (a1 : Int32) = (-1)) →
    gd_C g mX11_isSale 3 0 0 [zR 11 0, zI a1] v1 (gd_rI (fun (r3 : Int32) v2 =>
      (((r3 : Int32) = 0) →
        wp_X11_without_24 g d a1 0 v2 Q) ∧
      ((¬ (r3 : Int32) = 0) →
        wp_X11_without_24 g d a1 1 v2 Q)) (fun E v9 => Q (Sum.inr E) v9)))
theorem w_X11_without {g : ab_E} {d : Nat} {a1 : Int32} {v : gd_D} {Q : ab_O → gd_D → Prop} (hd : 43 ≤ d) (h : wp_X11_without g d a1 v Q) : gd_G g mX11_without d 0 0 0 [(0, zR 11 0), (1, zI a1)] [] v Q := by
  unfold wp_X11_without at h
  refine gd_aload_n 0 dX11_without_0 rfl rfl ?_
  refine gd_iconst (x9 := 0) dX11_without_1 (by decide) ?_
  refine gd_putIn fX11_1 rfl rfl dX11_without_2 (fun v1 ev1 => ?_)
  have h := h v1 ev1
  refine gd_aload_n 0 dX11_without_5 rfl rfl ?_
  refine gd_iload_n 1 dX11_without_6 rfl rfl ?_
  refine gd_iconst (x9 := (-1)) dX11_without_7 (by decide) ?_
  refine gd_icmp_eq (tgt := 19) dX11_without_8 (by decide) (fun hc => ?_) (fun hc => ?_)
  · have h := h.1 hc
    refine gd_iconst (x9 := 1) dX11_without_19 (by decide) ?_
    refine gd_goto (tgt := 24) dX11_without_20 (by decide) ?_
    exact w_X11_without_24 (by omega) h
  · have h := h.2 hc
    refine gd_aload_n 0 dX11_without_11 rfl rfl ?_
    refine gd_iload_n 1 dX11_without_12 rfl rfl ?_
    refine gd_callVI (As := [zI a1]) (rest := [zR 11 0]) (dy := 3) (my := 0) (sy := 0) (k := 11) (i := 0) lX11_378 iX11_isSale sX11_isSale rfl dX11_without_13 rfl rfl (gd_room (by omega) (by decide)) (by decide) (Nat.le_of_ble_eq_true rfl) h (fun r3 v2 h => ?_)
    refine gd_if_eq (tgt := 23) dX11_without_16 (by decide) (fun hc => ?_) (fun hc => ?_)
    · have h := h.1 hc
      refine gd_iconst (x9 := 0) dX11_without_23 (by decide) ?_
      exact w_X11_without_24 (by omega) h
    · have h := h.2 hc
      refine gd_iconst (x9 := 1) dX11_without_19 (by decide) ?_
      refine gd_goto (tgt := 24) dX11_without_20 (by decide) ?_
      exact w_X11_without_24 (by omega) h
theorem c_X11_without {g : ab_E} {d : Nat} {a1 : Int32} {v : gd_D} {Q : ab_O → gd_D → Prop} (hd : 43 ≤ d) (h : wp_X11_without g d a1 v Q) : gd_C g mX11_without d 0 0 [zR 11 0, zI a1] v Q := gd_enterF (plainFor_of_name (by decide)) (Nat.le_of_ble_eq_true rfl) rfl (w_X11_without hd h)
def wp_X11_between_27 (g : ab_E) (d : Nat) (a1 : Int32) (a2 : Int32) (s1 : Int32) (v : gd_D) (Q : ab_O → gd_D → Prop) : Prop :=
  gd_C g mX11_isFine 2 0 0 [zR 11 0, zI s1, zI 1, zI 0] v (gd_rI (fun (r2 : Int32) v1 =>
    (((r2 : Int32) = 0) →
      Q (Sum.inl (some (zI 0))) v1) ∧
    ((¬ (r2 : Int32) = 0) →
      gd_C g mX11_unitsOf 4 0 0 [zR 11 0, zI a1, zI a2] v1 (gd_rI (fun (r4 : Int32) v3 =>
        Q (Sum.inl (some (zI r4))) v3) (fun E v9 => Q (Sum.inr E) v9)))) (fun E v9 => Q (Sum.inr E) v9))
theorem w_X11_between_27 {g : ab_E} {d : Nat} {a1 : Int32} {a2 : Int32} {s1 : Int32} {v : gd_D} {Q : ab_O → gd_D → Prop} (hd : 5 ≤ d) (h : wp_X11_between_27 g d a1 a2 s1 v Q) : gd_G g mX11_between d 0 0 27 [(0, zR 11 0), (1, zI a1), (2, zI a2)] [zI s1, zR 11 0] v Q := by
  unfold wp_X11_between_27 at h
  refine gd_iconst (x9 := 1) dX11_between_27 (by decide) ?_
  refine gd_iconst (x9 := 0) dX11_between_28 (by decide) ?_
  refine gd_callVI (As := [zI s1, zI 1, zI 0]) (rest := []) (dy := 2) (my := 0) (sy := 0) (k := 11) (i := 0) lX11_264 iX11_isFine sX11_isFine rfl dX11_between_29 rfl rfl (gd_room (by omega) (by decide)) (by decide) (Nat.le_of_ble_eq_true rfl) h (fun r2 v1 h => ?_)
  refine gd_if_eq (tgt := 44) dX11_between_32 (by decide) (fun hc => ?_) (fun hc => ?_)
  · have h := h.1 hc
    refine gd_iconst (x9 := 0) dX11_between_44 (by decide) ?_
    exact gd_iret (ty := .int) dX11_between_45 rfl rfl h
  · have h := h.2 hc
    refine gd_aload_n 0 dX11_between_35 rfl rfl ?_
    refine gd_iload_n 1 dX11_between_36 rfl rfl ?_
    refine gd_iload_n 2 dX11_between_37 rfl rfl ?_
    refine gd_callVI (As := [zI a1, zI a2]) (rest := []) (dy := 4) (my := 0) (sy := 0) (k := 11) (i := 0) lX11_384 iX11_unitsOf sX11_unitsOf rfl dX11_between_38 rfl rfl (gd_room (by omega) (by decide)) (by decide) (Nat.le_of_ble_eq_true rfl) h (fun r4 v3 h => ?_)
    refine gd_goto (tgt := 45) dX11_between_41 (by decide) ?_
    exact gd_iret (ty := .int) dX11_between_45 rfl rfl h
def wp_X11_between_26 (g : ab_E) (d : Nat) (a1 : Int32) (a2 : Int32) (v : gd_D) (Q : ab_O → gd_D → Prop) : Prop :=
  wp_X11_between_27 g d a1 a2 0 v Q
theorem w_X11_between_26 {g : ab_E} {d : Nat} {a1 : Int32} {a2 : Int32} {v : gd_D} {Q : ab_O → gd_D → Prop} (hd : 5 ≤ d) (h : wp_X11_between_26 g d a1 a2 v Q) : gd_G g mX11_between d 0 0 26 [(0, zR 11 0), (1, zI a1), (2, zI a2)] [zR 11 0] v Q := by
  unfold wp_X11_between_26 at h
  refine gd_iconst (x9 := 0) dX11_between_26 (by decide) ?_
  exact w_X11_between_27 (by omega) h
def wp_X11_between (g : ab_E) (d : Nat) (a1 : Int32) (a2 : Int32) (v : gd_D) (Q : ab_O → gd_D → Prop) : Prop :=
  ∀ v1 : gd_D, v1 = gd_sI v 11 0 0 0 →
  gd_C g mX11_isDealer 3 0 0 [zR 11 0, zI a1] v1 (gd_rI (fun (r3 : Int32) v2 =>
    (((r3 : Int32) = 0) →
      wp_X11_between_26 g d a1 a2 v2 Q) ∧
    ((¬ (r3 : Int32) = 0) →
      gd_C g mX11_isDealer 3 0 0 [zR 11 0, zI a2] v2 (gd_rI (fun (r5 : Int32) v4 =>
        (((r5 : Int32) = 0) →
          wp_X11_between_26 g d a1 a2 v4 Q) ∧
        ((¬ (r5 : Int32) = 0) →
          wp_X11_between_27 g d a1 a2 1 v4 Q)) (fun E v9 => Q (Sum.inr E) v9)))) (fun E v9 => Q (Sum.inr E) v9))
theorem w_X11_between {g : ab_E} {d : Nat} {a1 : Int32} {a2 : Int32} {v : gd_D} {Q : ab_O → gd_D → Prop} (hd : 5 ≤ d) (h : wp_X11_between g d a1 a2 v Q) : gd_G g mX11_between d 0 0 0 [(0, zR 11 0), (1, zI a1), (2, zI a2)] [] v Q := by
  unfold wp_X11_between at h
  refine gd_aload_n 0 dX11_between_0 rfl rfl ?_
  refine gd_iconst (x9 := 0) dX11_between_1 (by decide) ?_
  refine gd_putIn fX11_1 rfl rfl dX11_between_2 (fun v1 ev1 => ?_)
  have h := h v1 ev1
  refine gd_aload_n 0 dX11_between_5 rfl rfl ?_
  refine gd_aload_n 0 dX11_between_6 rfl rfl ?_
  refine gd_iload_n 1 dX11_between_7 rfl rfl ?_
  refine gd_callVI (As := [zI a1]) (rest := [zR 11 0]) (dy := 3) (my := 0) (sy := 0) (k := 11) (i := 0) lX11_284 iX11_isDealer sX11_isDealer rfl dX11_between_8 rfl rfl (gd_room (by omega) (by decide)) (by decide) (Nat.le_of_ble_eq_true rfl) h (fun r3 v2 h => ?_)
  refine gd_if_eq (tgt := 26) dX11_between_11 (by decide) (fun hc => ?_) (fun hc => ?_)
  · have h := h.1 hc
    exact w_X11_between_26 (by omega) h
  · have h := h.2 hc
    refine gd_aload_n 0 dX11_between_14 rfl rfl ?_
    refine gd_iload_n 2 dX11_between_15 rfl rfl ?_
    refine gd_callVI (As := [zI a2]) (rest := [zR 11 0]) (dy := 3) (my := 0) (sy := 0) (k := 11) (i := 0) lX11_284 iX11_isDealer sX11_isDealer rfl dX11_between_16 rfl rfl (gd_room (by omega) (by decide)) (by decide) (Nat.le_of_ble_eq_true rfl) h (fun r5 v4 h => ?_)
    refine gd_if_eq (tgt := 26) dX11_between_19 (by decide) (fun hc => ?_) (fun hc => ?_)
    · have h := h.1 hc
      exact w_X11_between_26 (by omega) h
    · have h := h.2 hc
      refine gd_iconst (x9 := 1) dX11_between_22 (by decide) ?_
      refine gd_goto (tgt := 27) dX11_between_23 (by decide) ?_
      exact w_X11_between_27 (by omega) h
theorem c_X11_between {g : ab_E} {d : Nat} {a1 : Int32} {a2 : Int32} {v : gd_D} {Q : ab_O → gd_D → Prop} (hd : 5 ≤ d) (h : wp_X11_between g d a1 a2 v Q) : gd_C g mX11_between d 0 0 [zR 11 0, zI a1, zI a2] v Q := gd_enterF (plainFor_of_name (by decide)) (Nat.le_of_ble_eq_true rfl) rfl (w_X11_between hd h)
def wp_X11_mean (g : ab_E) (d : Nat) (v : gd_D) (Q : ab_O → gd_D → Prop) : Prop :=
  ∀ v1 : gd_D, v1 = gd_sI v 11 0 0 0 →
  gd_G g mX11_mean d 0 0 12 [(0, zR 11 0), (1, zJ 0), (3, zJ 0), (5, zI 0)] [] v1 Q
theorem w_X11_mean {g : ab_E} {d : Nat} {v : gd_D} {Q : ab_O → gd_D → Prop} (hd : 0 ≤ d) (h : wp_X11_mean g d v Q) : gd_G g mX11_mean d 0 0 0 [(0, zR 11 0)] [] v Q := by
  unfold wp_X11_mean at h
  refine gd_aload_n 0 dX11_mean_0 rfl rfl ?_
  refine gd_iconst (x9 := 0) dX11_mean_1 (by decide) ?_
  refine gd_putIn fX11_1 rfl rfl dX11_mean_2 (fun v1 ev1 => ?_)
  have h := h v1 ev1
  refine gd_lconst (x9 := 0) dX11_mean_5 (by decide) ?_
  refine gd_lstore_n (L' := [(1, zJ 0), (0, zR 11 0)]) dX11_mean_6 rfl (by decide) rfl ?_
  refine gd_lconst (x9 := 0) dX11_mean_7 (by decide) ?_
  refine gd_lstore_n (L' := [(3, zJ 0), (1, zJ 0), (0, zR 11 0)]) dX11_mean_8 rfl (by decide) rfl ?_
  refine gd_iconst (x9 := 0) dX11_mean_9 (by decide) ?_
  refine gd_istore (L' := [(5, zI 0), (3, zJ 0), (1, zJ 0), (0, zR 11 0)]) dX11_mean_10 (by decide) rfl ?_
  refine gd_locals [3, 2, 1, 0] rfl ?_
  exact h
def wp_X11_mean_85 (g : ab_E) (d : Nat) (s0 : UInt64) (v : gd_D) (Q : ab_O → gd_D → Prop) : Prop :=
  gd_C g mJxe99ae_doubleToLongBits_ccdee 3 0 0 [zD s0] v (gd_rJ (fun (r2 : Int64) v1 =>
    Q (Sum.inl (some (zJ r2))) v1) (fun E v9 => Q (Sum.inr E) v9))
theorem w_X11_mean_85 {g : ab_E} {d : Nat} {s0 : UInt64} {v : gd_D} {Q : ab_O → gd_D → Prop} (hd : 4 ≤ d) (h : wp_X11_mean_85 g d s0 v Q) : gd_G g mX11_mean d 0 0 85 [] [zD s0] v Q := by
  unfold wp_X11_mean_85 at h
  refine gd_callSJ (As := [zD s0]) (rest := []) (dy := 3) (my := 0) (sy := 0) lX11_434 tJxe99ae_doubleToLongBits_ccdee dX11_mean_85 rfl rfl (gd_room (by omega) (by decide)) (by decide) (Nat.le_of_ble_eq_true rfl) h (fun r2 v1 h => ?_)
  exact gd_lret dX11_mean_88 rfl h
def wp_X11_mean_12 (g : ab_E) (d : Nat) (a1 : Int64) (a3 : Int64) (a5 : Int32) (v : gd_D) (Q : ab_O → gd_D → Prop) : Prop :=
  gd_C g mX11_sales 2 0 0 [zR 11 0] v (gd_rI (fun (r2 : Int32) v1 =>
    (((r2 : Int32) ≤ a5) →
      ((¬ (a3 : Int64) = 0) →
        vf_n64 (FP.ddiv (FP.l2d a1) (FP.l2d a3)) ∧
        wp_X11_mean_85 g d (FP.ddiv (FP.l2d a1) (FP.l2d a3)) v1 Q) ∧
      (((a3 : Int64) = 0) →
        wp_X11_mean_85 g d FP.dconst0 v1 Q)) ∧
    ((¬ (r2 : Int32) ≤ a5) →
      gd_C g mX11_isAsked 3 0 0 [zR 11 0, zI a5] v1 (gd_rI (fun (r4 : Int32) v3 =>
        ((¬ (r4 : Int32) = 0) →
          gd_C g mX11_of0 2 0 0 [zR 11 0, zI a5, zI 3] v3 (gd_rI (fun (r6 : Int32) v5 =>
            gd_C g mX11_of0 2 0 0 [zR 11 0, zI a5, zI 5] v5 (gd_rI (fun (r8 : Int32) v7 =>
              ∀ y9 : Int64, y9 = ((r6 : Int32).toInt64) * ((r8 : Int32).toInt64) →
              gd_C g mX11_of0 2 0 0 [zR 11 0, zI a5, zI 5] v7 (gd_rI (fun (r11 : Int32) v10 =>
                gd_G g mX11_mean d 0 0 12 [(0, zR 11 0), (1, zJ (a1 + y9)), (3, zJ (a3 + ((r11 : Int32).toInt64))), (5, zI (a5 + 1))] [] v10 Q) (fun E v9 => Q (Sum.inr E) v9))) (fun E v9 => Q (Sum.inr E) v9))) (fun E v9 => Q (Sum.inr E) v9))) ∧
        (((r4 : Int32) = 0) →
          gd_G g mX11_mean d 0 0 12 [(0, zR 11 0), (1, zJ a1), (3, zJ a3), (5, zI (a5 + 1))] [] v3 Q)) (fun E v9 => Q (Sum.inr E) v9)))) (fun E v9 => Q (Sum.inr E) v9))
theorem w_X11_mean_12 {g : ab_E} {d : Nat} {a1 : Int64} {a3 : Int64} {a5 : Int32} {v : gd_D} {Q : ab_O → gd_D → Prop} (hd : 4 ≤ d) (h : wp_X11_mean_12 g d a1 a3 a5 v Q) : gd_G g mX11_mean d 0 0 12 [(0, zR 11 0), (1, zJ a1), (3, zJ a3), (5, zI a5)] [] v Q := by
  unfold wp_X11_mean_12 at h
  refine gd_iload 3 dX11_mean_12 rfl ?_
  refine gd_aload_n 0 dX11_mean_14 rfl rfl ?_
  refine gd_callVI (As := []) (rest := [zI a5]) (dy := 2) (my := 0) (sy := 0) (k := 11) (i := 0) lX11_278 iX11_sales sX11_sales rfl dX11_mean_15 rfl rfl (gd_room (by omega) (by decide)) (by decide) (Nat.le_of_ble_eq_true rfl) h (fun r2 v1 h => ?_)
  refine gd_icmp_ge (tgt := 70) dX11_mean_18 (by decide) (fun hc => ?_) (fun hc => ?_)
  · have h := h.1 hc
    refine gd_lload_n 2 dX11_mean_70 rfl rfl ?_
    refine gd_lconst (x9 := 0) dX11_mean_71 (by decide) ?_
    refine gd_lc_ne (tgt := 80) dX11_mean_72 dX11_mean_73 (by decide) (fun hc => ?_) (fun hc => ?_)
    · have h := h.1 hc
      refine gd_lload_n 1 dX11_mean_80 rfl rfl ?_
      refine gd_l2d dX11_mean_81 ?_
      refine gd_lload_n 2 dX11_mean_82 rfl rfl ?_
      refine gd_l2d dX11_mean_83 ?_
      obtain ⟨hg, h⟩ := h
      refine gd_ddiv dX11_mean_84 hg ?_
      refine gd_locals [] rfl ?_
      exact w_X11_mean_85 (by omega) h
    · have h := h.2 hc
      refine gd_dconst0 dX11_mean_76 ?_
      refine gd_goto (tgt := 85) dX11_mean_77 (by decide) ?_
      refine gd_locals [] rfl ?_
      exact w_X11_mean_85 (by omega) h
  · have h := h.2 hc
    refine gd_aload_n 0 dX11_mean_21 rfl rfl ?_
    refine gd_iload 3 dX11_mean_22 rfl ?_
    refine gd_callVI (As := [zI a5]) (rest := []) (dy := 3) (my := 0) (sy := 0) (k := 11) (i := 0) lX11_305 iX11_isAsked sX11_isAsked rfl dX11_mean_24 rfl rfl (gd_room (by omega) (by decide)) (by decide) (Nat.le_of_ble_eq_true rfl) h (fun r4 v3 h => ?_)
    refine gd_if_ne (tgt := 33) dX11_mean_27 (by decide) (fun hc => ?_) (fun hc => ?_)
    · have h := h.1 hc
      refine gd_lload_n 1 dX11_mean_33 rfl rfl ?_
      refine gd_aload_n 0 dX11_mean_34 rfl rfl ?_
      refine gd_iload 3 dX11_mean_35 rfl ?_
      refine gd_iconst (x9 := 3) dX11_mean_37 (by decide) ?_
      refine gd_callVI (As := [zI a5, zI 3]) (rest := [zJ a1]) (dy := 2) (my := 0) (sy := 0) (k := 11) (i := 0) lX11_289 iX11_of0 sX11_of0 rfl dX11_mean_38 rfl rfl (gd_room (by omega) (by decide)) (by decide) (Nat.le_of_ble_eq_true rfl) h (fun r6 v5 h => ?_)
      refine gd_i2l dX11_mean_41 ?_
      refine gd_aload_n 0 dX11_mean_42 rfl rfl ?_
      refine gd_iload 3 dX11_mean_43 rfl ?_
      refine gd_iconst (x9 := 5) dX11_mean_45 (by decide) ?_
      refine gd_callVI (As := [zI a5, zI 5]) (rest := [zJ ((r6 : Int32).toInt64), zJ a1]) (dy := 2) (my := 0) (sy := 0) (k := 11) (i := 0) lX11_289 iX11_of0 sX11_of0 rfl dX11_mean_46 rfl rfl (gd_room (by omega) (by decide)) (by decide) (Nat.le_of_ble_eq_true rfl) h (fun r8 v7 h => ?_)
      refine gd_i2l dX11_mean_49 ?_
      refine gd_lmul dX11_mean_50 ?_
      refine gd_nmJ (fun y9 ey9 => ?_)
      have h := h y9 ey9
      refine gd_ladd dX11_mean_51 ?_
      refine gd_lstore_n (L' := [(1, zJ (a1 + y9)), (0, zR 11 0), (3, zJ a3), (5, zI a5)]) dX11_mean_52 rfl (by decide) rfl ?_
      refine gd_lload_n 2 dX11_mean_53 rfl rfl ?_
      refine gd_aload_n 1 dX11_mean_54 rfl rfl ?_
      refine gd_iload 3 dX11_mean_55 rfl ?_
      refine gd_iconst (x9 := 5) dX11_mean_57 (by decide) ?_
      refine gd_callVI (As := [zI a5, zI 5]) (rest := [zJ a3]) (dy := 2) (my := 0) (sy := 0) (k := 11) (i := 0) lX11_289 iX11_of0 sX11_of0 rfl dX11_mean_58 rfl rfl (gd_room (by omega) (by decide)) (by decide) (Nat.le_of_ble_eq_true rfl) h (fun r11 v10 h => ?_)
      refine gd_i2l dX11_mean_61 ?_
      refine gd_ladd dX11_mean_62 ?_
      refine gd_lstore_n (L' := [(3, zJ (a3 + ((r11 : Int32).toInt64))), (1, zJ (a1 + y9)), (0, zR 11 0), (5, zI a5)]) dX11_mean_63 rfl (by decide) rfl ?_
      refine gd_iinc (x9 := a5 + 1) (L' := [(5, zI (a5 + 1)), (3, zJ (a3 + ((r11 : Int32).toInt64))), (1, zJ (a1 + y9)), (0, zR 11 0)]) 3 dX11_mean_64 rfl rfl (by decide) rfl ?_
      refine gd_goto (tgt := 12) dX11_mean_67 (by decide) ?_
      refine gd_locals [3, 2, 1, 0] rfl ?_
      exact h
    · have h := h.2 hc
      refine gd_goto (tgt := 64) dX11_mean_30 (by decide) ?_
      refine gd_iinc (x9 := a5 + 1) (L' := [(5, zI (a5 + 1)), (0, zR 11 0), (1, zJ a1), (3, zJ a3)]) 3 dX11_mean_64 rfl rfl (by decide) rfl ?_
      refine gd_goto (tgt := 12) dX11_mean_67 (by decide) ?_
      refine gd_locals [1, 2, 3, 0] rfl ?_
      exact h
theorem c_X11_mean {g : ab_E} {d : Nat} {v : gd_D} {Q : ab_O → gd_D → Prop} (hd : 0 ≤ d) (h : wp_X11_mean g d v Q) : gd_C g mX11_mean d 0 0 [zR 11 0] v Q := gd_enterF (plainFor_of_name (by decide)) (Nat.le_of_ble_eq_true rfl) rfl (w_X11_mean hd h)
def wp_X11_outside (g : ab_E) (d : Nat) (v : gd_D) (Q : ab_O → gd_D → Prop) : Prop :=
  ∀ v1 : gd_D, v1 = gd_sI v 11 0 0 0 →
  vp_in 8 773 ∧
  Q (Sum.inl (some (zJ (v1.2.1 40 0 (8 : Int32).toNatClampNeg)))) v1
theorem w_X11_outside {g : ab_E} {d : Nat} {v : gd_D} {Q : ab_O → gd_D → Prop} (hd : 0 ≤ d) (h : wp_X11_outside g d v Q) : gd_G g mX11_outside d 0 0 0 [(0, zR 11 0)] [] v Q := by
  unfold wp_X11_outside at h
  refine gd_aload_n 0 dX11_outside_0 rfl rfl ?_
  refine gd_iconst (x9 := 0) dX11_outside_1 (by decide) ?_
  refine gd_putIn fX11_1 rfl rfl dX11_outside_2 (fun v1 ev1 => ?_)
  have h := h v1 ev1
  refine gd_aload_n 0 dX11_outside_5 rfl rfl ?_
  refine gd_getR (x := 0) (kr := 40) fX11_17 rfl rfl dX11_outside_6 rfl ?_
  refine gd_bipush (x9 := 8) dX11_outside_9 (by decide) ?_
  obtain ⟨hb, h⟩ := h
  refine gd_laload (n := 773) (by decide) rfl dX11_outside_11 rfl hb ?_
  exact gd_lret dX11_outside_12 rfl h
theorem c_X11_outside {g : ab_E} {d : Nat} {v : gd_D} {Q : ab_O → gd_D → Prop} (hd : 0 ≤ d) (h : wp_X11_outside g d v Q) : gd_C g mX11_outside d 0 0 [zR 11 0] v Q := gd_enterF (plainFor_of_name (by decide)) (Nat.le_of_ble_eq_true rfl) rfl (w_X11_outside hd h)
def wp_X11_print (g : ab_E) (d : Nat) (v : gd_D) (Q : ab_O → gd_D → Prop) : Prop :=
  ∀ v1 : gd_D, v1 = gd_sI v 11 0 0 0 →
  gd_G g mX11_print d 0 0 9 [(0, zR 11 0), (1, zJ 0), (3, zI 0)] [] v1 Q
theorem w_X11_print {g : ab_E} {d : Nat} {v : gd_D} {Q : ab_O → gd_D → Prop} (hd : 0 ≤ d) (h : wp_X11_print g d v Q) : gd_G g mX11_print d 0 0 0 [(0, zR 11 0)] [] v Q := by
  unfold wp_X11_print at h
  refine gd_aload_n 0 dX11_print_0 rfl rfl ?_
  refine gd_iconst (x9 := 0) dX11_print_1 (by decide) ?_
  refine gd_putIn fX11_1 rfl rfl dX11_print_2 (fun v1 ev1 => ?_)
  have h := h v1 ev1
  refine gd_lconst (x9 := 0) dX11_print_5 (by decide) ?_
  refine gd_lstore_n (L' := [(1, zJ 0), (0, zR 11 0)]) dX11_print_6 rfl (by decide) rfl ?_
  refine gd_iconst (x9 := 0) dX11_print_7 (by decide) ?_
  refine gd_istore_n (L' := [(3, zI 0), (1, zJ 0), (0, zR 11 0)]) dX11_print_8 rfl (by decide) rfl ?_
  refine gd_locals [2, 1, 0] rfl ?_
  exact h
def wp_X11_print_9 (g : ab_E) (d : Nat) (a1 : Int64) (a3 : Int32) (v : gd_D) (Q : ab_O → gd_D → Prop) : Prop :=
  gd_C g mX11_dealers 2 0 0 [zR 11 0] v (gd_rI (fun (r2 : Int32) v1 =>
    (((r2 : Int32) ≤ a3) →
      gd_G g mX11_print d 0 0 67 [(0, zR 11 0), (1, zJ a1), (3, zI 0)] [] v1 Q) ∧
    ((¬ (r2 : Int32) ≤ a3) →
      vp_in ((9 + (6 * a3)) + 0) 773 ∧
      ∀ y3 : Int64, y3 = v1.2.1 40 0 ((9 + (6 * a3)) + 0 : Int32).toNatClampNeg →
      vp_in ((9 + (6 * a3)) + 1) 773 ∧
      ∀ y4 : Int64, y4 = v1.2.1 40 0 ((9 + (6 * a3)) + 1 : Int32).toNatClampNeg →
      gd_G g mX11_print d 0 0 9 [(0, zR 11 0), (1, zJ ((31 * ((31 * a1) + y3)) + y4)), (3, zI (a3 + 1))] [] v1 Q)) (fun E v9 => Q (Sum.inr E) v9))
theorem w_X11_print_9 {g : ab_E} {d : Nat} {a1 : Int64} {a3 : Int32} {v : gd_D} {Q : ab_O → gd_D → Prop} (hd : 3 ≤ d) (h : wp_X11_print_9 g d a1 a3 v Q) : gd_G g mX11_print d 0 0 9 [(0, zR 11 0), (1, zJ a1), (3, zI a3)] [] v Q := by
  unfold wp_X11_print_9 at h
  refine gd_iload_n 2 dX11_print_9 rfl rfl ?_
  refine gd_aload_n 0 dX11_print_10 rfl rfl ?_
  refine gd_callVI (As := []) (rest := [zI a3]) (dy := 2) (my := 0) (sy := 0) (k := 11) (i := 0) lX11_281 iX11_dealers sX11_dealers rfl dX11_print_11 rfl rfl (gd_room (by omega) (by decide)) (by decide) (Nat.le_of_ble_eq_true rfl) h (fun r2 v1 h => ?_)
  refine gd_icmp_ge (tgt := 65) dX11_print_14 (by decide) (fun hc => ?_) (fun hc => ?_)
  · have h := h.1 hc
    refine gd_iconst (x9 := 0) dX11_print_65 (by decide) ?_
    refine gd_istore_n (L' := [(3, zI 0), (0, zR 11 0), (1, zJ a1)]) dX11_print_66 rfl (by decide) rfl ?_
    refine gd_locals [1, 2, 0] rfl ?_
    exact h
  · have h := h.2 hc
    refine gd_ldc2 kX11_440 dX11_print_17 ?_
    refine gd_lload_n 1 dX11_print_20 rfl rfl ?_
    refine gd_lmul dX11_print_21 ?_
    refine gd_aload_n 0 dX11_print_22 rfl rfl ?_
    refine gd_getR (x := 0) (kr := 40) fX11_17 rfl rfl dX11_print_23 rfl ?_
    refine gd_bipush (x9 := 9) dX11_print_26 (by decide) ?_
    refine gd_bipush (x9 := 6) dX11_print_28 (by decide) ?_
    refine gd_iload_n 2 dX11_print_30 rfl rfl ?_
    refine gd_imul dX11_print_31 ?_
    refine gd_iadd dX11_print_32 ?_
    refine gd_iconst (x9 := 0) dX11_print_33 (by decide) ?_
    refine gd_iadd dX11_print_34 ?_
    obtain ⟨hb, h⟩ := h
    refine gd_laload (n := 773) (by decide) rfl dX11_print_35 rfl hb ?_
    refine gd_nmJ (fun y3 ey3 => ?_)
    have h := h y3 ey3
    refine gd_ladd dX11_print_36 ?_
    refine gd_lstore_n (L' := [(1, zJ ((31 * a1) + y3)), (0, zR 11 0), (3, zI a3)]) dX11_print_37 rfl (by decide) rfl ?_
    refine gd_ldc2 kX11_440 dX11_print_38 ?_
    refine gd_lload_n 0 dX11_print_41 rfl rfl ?_
    refine gd_lmul dX11_print_42 ?_
    refine gd_aload_n 1 dX11_print_43 rfl rfl ?_
    refine gd_getR (x := 0) (kr := 40) fX11_17 rfl rfl dX11_print_44 rfl ?_
    refine gd_bipush (x9 := 9) dX11_print_47 (by decide) ?_
    refine gd_bipush (x9 := 6) dX11_print_49 (by decide) ?_
    refine gd_iload_n 2 dX11_print_51 rfl rfl ?_
    refine gd_imul dX11_print_52 ?_
    refine gd_iadd dX11_print_53 ?_
    refine gd_iconst (x9 := 1) dX11_print_54 (by decide) ?_
    refine gd_iadd dX11_print_55 ?_
    obtain ⟨hb, h⟩ := h
    refine gd_laload (n := 773) (by decide) rfl dX11_print_56 rfl hb ?_
    refine gd_nmJ (fun y4 ey4 => ?_)
    have h := h y4 ey4
    refine gd_ladd dX11_print_57 ?_
    refine gd_lstore_n (L' := [(1, zJ ((31 * ((31 * a1) + y3)) + y4)), (0, zR 11 0), (3, zI a3)]) dX11_print_58 rfl (by decide) rfl ?_
    refine gd_iinc (x9 := a3 + 1) (L' := [(3, zI (a3 + 1)), (1, zJ ((31 * ((31 * a1) + y3)) + y4)), (0, zR 11 0)]) 2 dX11_print_59 rfl rfl (by decide) rfl ?_
    refine gd_goto (tgt := 9) dX11_print_62 (by decide) ?_
    refine gd_locals [2, 1, 0] rfl ?_
    exact h
def wp_X11_print_67 (g : ab_E) (d : Nat) (a1 : Int64) (a3 : Int32) (v : gd_D) (Q : ab_O → gd_D → Prop) : Prop :=
  gd_C g mX11_sales 2 0 0 [zR 11 0] v (gd_rI (fun (r2 : Int32) v1 =>
    (((r2 : Int32) ≤ a3) →
      Q (Sum.inl (some (zJ a1))) v1) ∧
    ((¬ (r2 : Int32) ≤ a3) →
      gd_C g mX11_of0 2 0 0 [zR 11 0, zI a3, zI 5] v1 (gd_rI (fun (r4 : Int32) v3 =>
        gd_G g mX11_print d 0 0 67 [(0, zR 11 0), (1, zJ ((31 * a1) + ((r4 : Int32).toInt64))), (3, zI (a3 + 1))] [] v3 Q) (fun E v9 => Q (Sum.inr E) v9)))) (fun E v9 => Q (Sum.inr E) v9))
theorem w_X11_print_67 {g : ab_E} {d : Nat} {a1 : Int64} {a3 : Int32} {v : gd_D} {Q : ab_O → gd_D → Prop} (hd : 3 ≤ d) (h : wp_X11_print_67 g d a1 a3 v Q) : gd_G g mX11_print d 0 0 67 [(0, zR 11 0), (1, zJ a1), (3, zI a3)] [] v Q := by
  unfold wp_X11_print_67 at h
  refine gd_iload_n 2 dX11_print_67 rfl rfl ?_
  refine gd_aload_n 0 dX11_print_68 rfl rfl ?_
  refine gd_callVI (As := []) (rest := [zI a3]) (dy := 2) (my := 0) (sy := 0) (k := 11) (i := 0) lX11_278 iX11_sales sX11_sales rfl dX11_print_69 rfl rfl (gd_room (by omega) (by decide)) (by decide) (Nat.le_of_ble_eq_true rfl) h (fun r2 v1 h => ?_)
  refine gd_icmp_ge (tgt := 95) dX11_print_72 (by decide) (fun hc => ?_) (fun hc => ?_)
  · have h := h.1 hc
    refine gd_lload_n 1 dX11_print_95 rfl rfl ?_
    exact gd_lret dX11_print_96 rfl h
  · have h := h.2 hc
    refine gd_ldc2 kX11_440 dX11_print_75 ?_
    refine gd_lload_n 1 dX11_print_78 rfl rfl ?_
    refine gd_lmul dX11_print_79 ?_
    refine gd_aload_n 0 dX11_print_80 rfl rfl ?_
    refine gd_iload_n 2 dX11_print_81 rfl rfl ?_
    refine gd_iconst (x9 := 5) dX11_print_82 (by decide) ?_
    refine gd_callVI (As := [zI a3, zI 5]) (rest := [zJ (31 * a1)]) (dy := 2) (my := 0) (sy := 0) (k := 11) (i := 0) lX11_289 iX11_of0 sX11_of0 rfl dX11_print_83 rfl rfl (gd_room (by omega) (by decide)) (by decide) (Nat.le_of_ble_eq_true rfl) h (fun r4 v3 h => ?_)
    refine gd_i2l dX11_print_86 ?_
    refine gd_ladd dX11_print_87 ?_
    refine gd_lstore_n (L' := [(1, zJ ((31 * a1) + ((r4 : Int32).toInt64))), (0, zR 11 0), (3, zI a3)]) dX11_print_88 rfl (by decide) rfl ?_
    refine gd_iinc (x9 := a3 + 1) (L' := [(3, zI (a3 + 1)), (1, zJ ((31 * a1) + ((r4 : Int32).toInt64))), (0, zR 11 0)]) 2 dX11_print_89 rfl rfl (by decide) rfl ?_
    refine gd_goto (tgt := 67) dX11_print_92 (by decide) ?_
    refine gd_locals [2, 1, 0] rfl ?_
    exact h
theorem c_X11_print {g : ab_E} {d : Nat} {v : gd_D} {Q : ab_O → gd_D → Prop} (hd : 0 ≤ d) (h : wp_X11_print g d v Q) : gd_C g mX11_print d 0 0 [zR 11 0] v Q := gd_enterF (plainFor_of_name (by decide)) (Nat.le_of_ble_eq_true rfl) rfl (w_X11_print hd h)
def wp_X11_status (g : ab_E) (d : Nat) (a1 : Int32) (v : gd_D) (Q : ab_O → gd_D → Prop) : Prop :=
  ∀ v1 : gd_D, v1 = gd_sI v 11 0 0 0 →
  gd_C g mX11_lies 2 0 0 [zJ ((a1 : Int32).toInt64), zJ 0, zJ 2] v1 (gd_rI (fun (r3 : Int32) v2 =>
    (((r3 : Int32) = 0) →
      Q (Sum.inl (some (zI (-1)))) v2) ∧
    ((¬ (r3 : Int32) = 0) →
      vp_in a1 3 ∧
      Q (Sum.inl (some (zI (v2.1 39 0 (a1 : Int32).toNatClampNeg)))) v2)) (fun E v9 => Q (Sum.inr E) v9))
theorem w_X11_status {g : ab_E} {d : Nat} {a1 : Int32} {v : gd_D} {Q : ab_O → gd_D → Prop} (hd : 3 ≤ d) (h : wp_X11_status g d a1 v Q) : gd_G g mX11_status d 0 0 0 [(0, zR 11 0), (1, zI a1)] [] v Q := by
  unfold wp_X11_status at h
  refine gd_aload_n 0 dX11_status_0 rfl rfl ?_
  refine gd_iconst (x9 := 0) dX11_status_1 (by decide) ?_
  refine gd_putIn fX11_1 rfl rfl dX11_status_2 (fun v1 ev1 => ?_)
  have h := h v1 ev1
  refine gd_iload_n 1 dX11_status_5 rfl rfl ?_
  refine gd_i2l dX11_status_6 ?_
  refine gd_lconst (x9 := 0) dX11_status_7 (by decide) ?_
  refine gd_ldc2 kX11_442 dX11_status_8 ?_
  refine gd_callSI (As := [zJ ((a1 : Int32).toInt64), zJ 0, zJ 2]) (rest := []) (dy := 2) (my := 0) (sy := 0) lX11_164 tX11_lies dX11_status_11 rfl rfl (gd_room (by omega) (by decide)) (by decide) (Nat.le_of_ble_eq_true rfl) h (fun r3 v2 h => ?_)
  refine gd_if_eq (tgt := 26) dX11_status_14 (by decide) (fun hc => ?_) (fun hc => ?_)
  · have h := h.1 hc
    refine gd_iconst (x9 := (-1)) dX11_status_26 (by decide) ?_
    exact gd_iret (ty := .int) dX11_status_27 rfl rfl h
  · have h := h.2 hc
    refine gd_aload_n 0 dX11_status_17 rfl rfl ?_
    refine gd_getR (x := 0) (kr := 39) fX11_7 rfl rfl dX11_status_18 rfl ?_
    refine gd_iload_n 1 dX11_status_21 rfl rfl ?_
    obtain ⟨hb, h⟩ := h
    refine gd_iaload (n := 3) (by decide) rfl dX11_status_22 rfl hb ?_
    refine gd_goto (tgt := 27) dX11_status_23 (by decide) ?_
    exact gd_iret (ty := .int) dX11_status_27 rfl rfl h
theorem c_X11_status {g : ab_E} {d : Nat} {a1 : Int32} {v : gd_D} {Q : ab_O → gd_D → Prop} (hd : 3 ≤ d) (h : wp_X11_status g d a1 v Q) : gd_C g mX11_status d 0 0 [zR 11 0, zI a1] v Q := gd_enterF (plainFor_of_name (by decide)) (Nat.le_of_ble_eq_true rfl) rfl (w_X11_status hd h)
