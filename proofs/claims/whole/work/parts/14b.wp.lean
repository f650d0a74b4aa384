def wp_X5_arrange (g : ab_E) (d : Nat) (a0 : Nat) (a1 : Nat) (v : gd_D) (Q : ab_O → gd_D → Prop) : Prop :=
  ∀ v1 : gd_D, v1 = gd_sI v 5 a0 3 (v.1 2 a1 3) →
  gd_G g mX5_arrange d 0 0 10 [(0, zR 5 a0), (1, zR 2 a1), (2, zI 0)] [] v1 Q
theorem w_X5_arrange {g : ab_E} {d : Nat} {a0 : Nat} {a1 : Nat} {v : gd_D} {Q : ab_O → gd_D → Prop} (hd : 0 ≤ d) (h : wp_X5_arrange g d a0 a1 v Q) : gd_G g mX5_arrange d 0 0 0 [(0, zR 5 a0), (1, zR 2 a1)] [] v Q := by
  unfold wp_X5_arrange at h
  refine gd_aload_n 0 dX5_arrange_0 rfl rfl ?_
  refine gd_aload_n 1 dX5_arrange_1 rfl rfl ?_
  refine gd_getI fX5_22 rfl dX5_arrange_2 ?_
  refine gd_putIn fX5_28 rfl rfl dX5_arrange_5 (fun v1 ev1 => ?_)
  have h := h v1 ev1
  refine gd_iconst (x9 := 0) dX5_arrange_8 (by decide) ?_
  refine gd_istore_n (L' := [(2, zI 0), (0, zR 5 a0), (1, zR 2 a1)]) dX5_arrange_9 rfl (by decide) rfl ?_
  refine gd_locals [1, 2, 0] rfl ?_
  exact h
def wp_X5_arrange_10 (g : ab_E) (d : Nat) (a0 : Nat) (a1 : Nat) (a2 : Int32) (v : gd_D) (Q : ab_O → gd_D → Prop) : Prop :=
  (((v.1 5 a0 3 : Int32) ≤ a2) →
    Q (Sum.inl none) v) ∧
  ((¬ (v.1 5 a0 3 : Int32) ≤ a2) →
    vp_in a2 24 ∧
    gd_C g mX5_worthOf 3 0 0 [zR 5 a0, zR 2 a1, zR 9 (24 * a1 + (a2 : Int32).toNatClampNeg)] v (gd_rJ (fun (r2 : Int64) v1 =>
      vp_in a2 24 ∧
      ∀ v3 : gd_D, v3 = gd_sJ v1 22 a0 ((a2 : Int32).toNatClampNeg) r2 →
      gd_C g mX5_insert 2 0 0 [zR 5 a0, zI a2] v3 (gd_rV (fun v4 =>
        gd_G g mX5_arrange d 0 0 10 [(0, zR 5 a0), (1, zR 2 a1), (2, zI (a2 + 1))] [] v4 Q) (fun E v9 => Q (Sum.inr E) v9))) (fun E v9 => Q (Sum.inr E) v9)))
theorem w_X5_arrange_10 {g : ab_E} {d : Nat} {a0 : Nat} {a1 : Nat} {a2 : Int32} {v : gd_D} {Q : ab_O → gd_D → Prop} (hd : 4 ≤ d) (h : wp_X5_arrange_10 g d a0 a1 a2 v Q) : gd_G g mX5_arrange d 0 0 10 [(0, zR 5 a0), (1, zR 2 a1), (2, zI a2)] [] v Q := by
  unfold wp_X5_arrange_10 at h
  refine gd_iload_n 2 dX5_arrange_10 rfl rfl ?_
  refine gd_aload_n 0 dX5_arrange_11 rfl rfl ?_
  refine gd_getI fX5_28 rfl dX5_arrange_12 ?_
  refine gd_icmp_ge (tgt := 46) dX5_arrange_15 (by decide) (fun hc => ?_) (fun hc => ?_)
  · have h := h.1 hc
    exact gd_vret dX5_arrange_46 rfl h
  · have h := h.2 hc
    refine gd_aload_n 0 dX5_arrange_18 rfl rfl ?_
    refine gd_getR (x := a0) (kr := 22) fX5_15 rfl rfl dX5_arrange_19 rfl ?_
    refine gd_iload_n 2 dX5_arrange_22 rfl rfl ?_
    refine gd_aload_n 0 dX5_arrange_23 rfl rfl ?_
    refine gd_aload_n 1 dX5_arrange_24 rfl rfl ?_
    refine gd_aload_n 1 dX5_arrange_25 rfl rfl ?_
    refine gd_getR (x := a1) (kr := 14) fX5_31 rfl rfl dX5_arrange_26 rfl ?_
    refine gd_iload_n 2 dX5_arrange_29 rfl rfl ?_
    obtain ⟨hb, h⟩ := h
    refine gd_aaload (n := 24) (kr := 9) (y := 24 * a1 + (a2 : Int32).toNatClampNeg) (by decide) rfl rfl dX5_arrange_30 rfl hb (if_pos (ab_inlt hb)) ?_
    refine gd_callVJ (As := [zR 2 a1, zR 9 (24 * a1 + (a2 : Int32).toNatClampNeg)]) (rest := [zI a2, zR 22 a0]) (dy := 3) (my := 0) (sy := 0) (k := 5) (i := a0) lX5_35 iX5_worthOf sX5_worthOf rfl dX5_arrange_31 rfl rfl (gd_room (by omega) (by decide)) (by decide) (Nat.le_of_ble_eq_true rfl) h (fun r2 v1 h => ?_)
    obtain ⟨hb, h⟩ := h
    refine gd_lastoren (n := 24) (by decide) rfl rfl dX5_arrange_34 rfl hb (fun v3 ev3 => ?_)
    have h := h v3 ev3
    refine gd_aload_n 0 dX5_arrange_35 rfl rfl ?_
    refine gd_iload_n 2 dX5_arrange_36 rfl rfl ?_
    refine gd_callVV (As := [zI a2]) (rest := []) (dy := 2) (my := 0) (sy := 0) (k := 5) (i := a0) lX5_39 iX5_insert sX5_insert rfl dX5_arrange_37 rfl rfl (gd_room (by omega) (by decide)) (by decide) (Nat.le_of_ble_eq_true rfl) h (fun v4 h => ?_)
    refine gd_iinc (x9 := a2 + 1) (L' := [(2, zI (a2 + 1)), (0, zR 5 a0), (1, zR 2 a1)]) 2 dX5_arrange_40 rfl rfl (by decide) rfl ?_
    refine gd_goto (tgt := 10) dX5_arrange_43 (by decide) ?_
    refine gd_locals [1, 2, 0] rfl ?_
    exact h
theorem c_X5_arrange {g : ab_E} {d : Nat} {a0 : Nat} {a1 : Nat} {v : gd_D} {Q : ab_O → gd_D → Prop} (hd : 0 ≤ d) (h : wp_X5_arrange g d a0 a1 v Q) : gd_C g mX5_arrange d 0 0 [zR 5 a0, zR 2 a1] v Q := gd_enterF (plainFor_of_name (by decide)) (Nat.le_of_ble_eq_true rfl) rfl (w_X5_arrange hd h)
def wp_X5_insert (g : ab_E) (d : Nat) (a0 : Nat) (a1 : Int32) (v : gd_D) (Q : ab_O → gd_D → Prop) : Prop :=
  gd_G g mX5_insert d 0 0 6 [(0, zR 5 a0), (1, zI a1), (2, zI a1), (3, zI (a1 - 1))] [] v Q
theorem w_X5_insert {g : ab_E} {d : Nat} {a0 : Nat} {a1 : Int32} {v : gd_D} {Q : ab_O → gd_D → Prop} (hd : 0 ≤ d) (h : wp_X5_insert g d a0 a1 v Q) : gd_G g mX5_insert d 0 0 0 [(0, zR 5 a0), (1, zI a1)] [] v Q := by
  unfold wp_X5_insert at h
  refine gd_iload_n 1 dX5_insert_0 rfl rfl ?_
  refine gd_istore_n (L' := [(2, zI a1), (0, zR 5 a0), (1, zI a1)]) dX5_insert_1 rfl (by decide) rfl ?_
  refine gd_iload_n 2 dX5_insert_2 rfl rfl ?_
  refine gd_iconst (x9 := 1) dX5_insert_3 (by decide) ?_
  refine gd_isub dX5_insert_4 ?_
  refine gd_istore_n (L' := [(3, zI (a1 - 1)), (2, zI a1), (0, zR 5 a0), (1, zI a1)]) dX5_insert_5 rfl (by decide) rfl ?_
  refine gd_locals [2, 3, 1, 0] rfl ?_
  exact h
def wp_X5_insert_53 (g : ab_E) (d : Nat) (a0 : Nat) (a1 : Int32) (a2 : Int32) (v : gd_D) (Q : ab_O → gd_D → Prop) : Prop :=
  vp_in a2 24 ∧
  ∀ v1 : gd_D, v1 = gd_sI v 21 a0 ((a2 : Int32).toNatClampNeg) a1 →
  Q (Sum.inl none) v1
theorem w_X5_insert_53 {g : ab_E} {d : Nat} {a0 : Nat} {a1 : Int32} {a2 : Int32} {v : gd_D} {Q : ab_O → gd_D → Prop} (hd : 0 ≤ d) (h : wp_X5_insert_53 g d a0 a1 a2 v Q) : gd_G g mX5_insert d 0 0 53 [(0, zR 5 a0), (1, zI a1), (2, zI a2)] [] v Q := by
  unfold wp_X5_insert_53 at h
  refine gd_aload_n 0 dX5_insert_53 rfl rfl ?_
  refine gd_getR (x := a0) (kr := 21) fX5_9 rfl rfl dX5_insert_54 rfl ?_
  refine gd_iload_n 2 dX5_insert_57 rfl rfl ?_
  refine gd_iload_n 1 dX5_insert_58 rfl rfl ?_
  obtain ⟨hb, h⟩ := h
  refine gd_iastoren (n := 24) (by decide) rfl rfl dX5_insert_59 rfl hb (fun v1 ev1 => ?_)
  have h := h v1 ev1
  exact gd_vret dX5_insert_60 rfl h
def wp_X5_insert_6 (g : ab_E) (d : Nat) (a0 : Nat) (a1 : Int32) (a2 : Int32) (a3 : Int32) (v : gd_D) (Q : ab_O → gd_D → Prop) : Prop :=
  (((a3 : Int32) < 0) →
    wp_X5_insert_53 g d a0 a1 a2 v Q) ∧
  ((¬ (a3 : Int32) < 0) →
    vp_in a3 24 ∧
    vp_in (v.1 21 a0 (a3 : Int32).toNatClampNeg) 24 ∧
    ∀ y1 : Int64, y1 = v.2.1 22 a0 (v.1 21 a0 (a3 : Int32).toNatClampNeg : Int32).toNatClampNeg →
    vp_in a1 24 ∧
    (((v.2.1 22 a0 (a1 : Int32).toNatClampNeg : Int64) ≤ y1) →
      wp_X5_insert_53 g d a0 a1 a2 v Q) ∧
    ((¬ (v.2.1 22 a0 (a1 : Int32).toNatClampNeg : Int64) ≤ y1) →
      vp_in a3 24 ∧
      vp_in (a3 + 1) 24 ∧
      ∀ v2 : gd_D, v2 = gd_sI v 21 a0 ((a3 + 1 : Int32).toNatClampNeg) (v.1 21 a0 (a3 : Int32).toNatClampNeg) →
      gd_G g mX5_insert d 0 0 6 [(0, zR 5 a0), (1, zI a1), (2, zI a3), (3, zI (a3 + (-1)))] [] v2 Q))
theorem w_X5_insert_6 {g : ab_E} {d : Nat} {a0 : Nat} {a1 : Int32} {a2 : Int32} {a3 : Int32} {v : gd_D} {Q : ab_O → gd_D → Prop} (hd : 0 ≤ d) (h : wp_X5_insert_6 g d a0 a1 a2 a3 v Q) : gd_G g mX5_insert d 0 0 6 [(0, zR 5 a0), (1, zI a1), (2, zI a2), (3, zI a3)] [] v Q := by
  unfold wp_X5_insert_6 at h
  refine gd_iload_n 3 dX5_insert_6 rfl rfl ?_
  refine gd_if_lt (tgt := 53) dX5_insert_7 (by decide) (fun hc => ?_) (fun hc => ?_)
  · have h := h.1 hc
    refine gd_locals [0, 1, 2] rfl ?_
    exact w_X5_insert_53 (by omega) h
  · have h := h.2 hc
    refine gd_aload_n 0 dX5_insert_10 rfl rfl ?_
    refine gd_getR (x := a0) (kr := 22) fX5_15 rfl rfl dX5_insert_11 rfl ?_
    refine gd_aload_n 0 dX5_insert_14 rfl rfl ?_
    refine gd_getR (x := a0) (kr := 21) fX5_9 rfl rfl dX5_insert_15 rfl ?_
    refine gd_iload_n 3 dX5_insert_18 rfl rfl ?_
    obtain ⟨hb, h⟩ := h
    refine gd_iaload (n := 24) (by decide) rfl dX5_insert_19 rfl hb ?_
    obtain ⟨hb, h⟩ := h
    refine gd_laload (n := 24) (by decide) rfl dX5_insert_20 rfl hb ?_
    refine gd_nmJ (fun y1 ey1 => ?_)
    have h := h y1 ey1
    refine gd_aload_n 0 dX5_insert_21 rfl rfl ?_
    refine gd_getR (x := a0) (kr := 22) fX5_15 rfl rfl dX5_insert_22 rfl ?_
    refine gd_iload_n 1 dX5_insert_25 rfl rfl ?_
    obtain ⟨hb, h⟩ := h
    refine gd_laload (n := 24) (by decide) rfl dX5_insert_26 rfl hb ?_
    refine gd_lc_ge (tgt := 53) dX5_insert_27 dX5_insert_28 (by decide) (fun hc => ?_) (fun hc => ?_)
    · have h := h.1 hc
      refine gd_locals [0, 1, 2] rfl ?_
      exact w_X5_insert_53 (by omega) h
    · have h := h.2 hc
      refine gd_aload_n 0 dX5_insert_31 rfl rfl ?_
      refine gd_getR (x := a0) (kr := 21) fX5_9 rfl rfl dX5_insert_32 rfl ?_
      refine gd_iload_n 3 dX5_insert_35 rfl rfl ?_
      refine gd_iconst (x9 := 1) dX5_insert_36 (by decide) ?_
      refine gd_iadd dX5_insert_37 ?_
      refine gd_aload_n 0 dX5_insert_38 rfl rfl ?_
      refine gd_getR (x := a0) (kr := 21) fX5_9 rfl rfl dX5_insert_39 rfl ?_
      refine gd_iload_n 3 dX5_insert_42 rfl rfl ?_
      obtain ⟨hb, h⟩ := h
      refine gd_iaload (n := 24) (by decide) rfl dX5_insert_43 rfl hb ?_
      obtain ⟨hb, h⟩ := h
      refine gd_iastoren (n := 24) (by decide) rfl rfl dX5_insert_44 rfl hb (fun v2 ev2 => ?_)
      have h := h v2 ev2
      refine gd_iload_n 3 dX5_insert_45 rfl rfl ?_
      refine gd_istore_n (L' := [(2, zI a3), (0, zR 5 a0), (1, zI a1), (3, zI a3)]) dX5_insert_46 rfl (by decide) rfl ?_
      refine gd_iinc (x9 := a3 + (-1)) (L' := [(3, zI (a3 + (-1))), (2, zI a3), (0, zR 5 a0), (1, zI a1)]) 3 dX5_insert_47 rfl rfl (by decide) rfl ?_
      refine gd_goto (tgt := 6) dX5_insert_50 (by decide) ?_
      refine gd_locals [2, 3, 1, 0] rfl ?_
      exact h
theorem c_X5_insert {g : ab_E} {d : Nat} {a0 : Nat} {a1 : Int32} {v : gd_D} {Q : ab_O → gd_D → Prop} (hd : 0 ≤ d) (h : wp_X5_insert g d a0 a1 v Q) : gd_C g mX5_insert d 0 0 [zR 5 a0, zI a1] v Q := gd_enterF (plainFor_of_name (by decide)) (Nat.le_of_ble_eq_true rfl) rfl (w_X5_insert hd h)
def wp_X5_placeOf (g : ab_E) (d : Nat) (a0 : Nat) (a1 : Int32) (v : gd_D) (Q : ab_O → gd_D → Prop) : Prop :=
  gd_G g mX5_placeOf d 0 0 2 [(0, zR 5 a0), (1, zI a1), (2, zI 0)] [] v Q
theorem w_X5_placeOf {g : ab_E} {d : Nat} {a0 : Nat} {a1 : Int32} {v : gd_D} {Q : ab_O → gd_D → Prop} (hd : 0 ≤ d) (h : wp_X5_placeOf g d a0 a1 v Q) : gd_G g mX5_placeOf d 0 0 0 [(0, zR 5 a0), (1, zI a1)] [] v Q := by
  unfold wp_X5_placeOf at h
  refine gd_iconst (x9 := 0) dX5_placeOf_0 (by decide) ?_
  refine gd_istore_n (L' := [(2, zI 0), (0, zR 5 a0), (1, zI a1)]) dX5_placeOf_1 rfl (by decide) rfl ?_
  refine gd_locals [1, 2, 0] rfl ?_
  exact h
def wp_X5_placeOf_2 (g : ab_E) (d : Nat) (a0 : Nat) (a1 : Int32) (a2 : Int32) (v : gd_D) (Q : ab_O → gd_D → Prop) : Prop :=
  (((v.1 5 a0 3 : Int32) ≤ a2) →
    Q (Sum.inl (some (zI (-1)))) v) ∧
  ((¬ (v.1 5 a0 3 : Int32) ≤ a2) →
    vp_in a2 24 ∧
    ((¬ (v.1 21 a0 (a2 : Int32).toNatClampNeg : Int32) = a1) →
      gd_G g mX5_placeOf d 0 0 2 [(0, zR 5 a0), (1, zI a1), (2, zI (a2 + 1))] [] v Q) ∧
    (((v.1 21 a0 (a2 : Int32).toNatClampNeg : Int32) = a1) →
      Q (Sum.inl (some (zI a2))) v))
theorem w_X5_placeOf_2 {g : ab_E} {d : Nat} {a0 : Nat} {a1 : Int32} {a2 : Int32} {v : gd_D} {Q : ab_O → gd_D → Prop} (hd : 0 ≤ d) (h : wp_X5_placeOf_2 g d a0 a1 a2 v Q) : gd_G g mX5_placeOf d 0 0 2 [(0, zR 5 a0), (1, zI a1), (2, zI a2)] [] v Q := by
  unfold wp_X5_placeOf_2 at h
  refine gd_iload_n 2 dX5_placeOf_2 rfl rfl ?_
  refine gd_aload_n 0 dX5_placeOf_3 rfl rfl ?_
  refine gd_getI fX5_28 rfl dX5_placeOf_4 ?_
  refine gd_icmp_ge (tgt := 28) dX5_placeOf_7 (by decide) (fun hc => ?_) (fun hc => ?_)
  · have h := h.1 hc
    refine gd_iconst (x9 := (-1)) dX5_placeOf_28 (by decide) ?_
    exact gd_iret (ty := .int) dX5_placeOf_29 rfl rfl h
  · have h := h.2 hc
    refine gd_aload_n 0 dX5_placeOf_10 rfl rfl ?_
    refine gd_getR (x := a0) (kr := 21) fX5_9 rfl rfl dX5_placeOf_11 rfl ?_
    refine gd_iload_n 2 dX5_placeOf_14 rfl rfl ?_
    obtain ⟨hb, h⟩ := h
    refine gd_iaload (n := 24) (by decide) rfl dX5_placeOf_15 rfl hb ?_
    refine gd_iload_n 1 dX5_placeOf_16 rfl rfl ?_
    refine gd_icmp_ne (tgt := 22) dX5_placeOf_17 (by decide) (fun hc => ?_) (fun hc => ?_)
    · have h := h.1 hc
      refine gd_iinc (x9 := a2 + 1) (L' := [(2, zI (a2 + 1)), (0, zR 5 a0), (1, zI a1)]) 2 dX5_placeOf_22 rfl rfl (by decide) rfl ?_
      refine gd_goto (tgt := 2) dX5_placeOf_25 (by decide) ?_
      refine gd_locals [1, 2, 0] rfl ?_
      exact h
    · have h := h.2 hc
      refine gd_iload_n 2 dX5_placeOf_20 rfl rfl ?_
      exact gd_iret (ty := .int) dX5_placeOf_21 rfl rfl h
theorem c_X5_placeOf {g : ab_E} {d : Nat} {a0 : Nat} {a1 : Int32} {v : gd_D} {Q : ab_O → gd_D → Prop} (hd : 0 ≤ d) (h : wp_X5_placeOf g d a0 a1 v Q) : gd_C g mX5_placeOf d 0 0 [zR 5 a0, zI a1] v Q := gd_enterF (plainFor_of_name (by decide)) (Nat.le_of_ble_eq_true rfl) rfl (w_X5_placeOf hd h)
def wp_X5_worthOf (g : ab_E) (d : Nat) (a0 : Nat) (a1 : Nat) (a2 : Nat) (v : gd_D) (Q : ab_O → gd_D → Prop) : Prop :=
  gd_G g mX5_worthOf d 0 0 5 [(0, zR 5 a0), (1, zR 2 a1), (2, zR 9 a2), (3, zI 0), (4, zI 0)] [] v Q
theorem w_X5_worthOf {g : ab_E} {d : Nat} {a0 : Nat} {a1 : Nat} {a2 : Nat} {v : gd_D} {Q : ab_O → gd_D → Prop} (hd : 0 ≤ d) (h : wp_X5_worthOf g d a0 a1 a2 v Q) : gd_G g mX5_worthOf d 0 0 0 [(0, zR 5 a0), (1, zR 2 a1), (2, zR 9 a2)] [] v Q := by
  unfold wp_X5_worthOf at h
  refine gd_iconst (x9 := 0) dX5_worthOf_0 (by decide) ?_
  refine gd_istore_n (L' := [(3, zI 0), (0, zR 5 a0), (1, zR 2 a1), (2, zR 9 a2)]) dX5_worthOf_1 rfl (by decide) rfl ?_
  refine gd_iconst (x9 := 0) dX5_worthOf_2 (by decide) ?_
  refine gd_istore (L' := [(4, zI 0), (3, zI 0), (0, zR 5 a0), (1, zR 2 a1), (2, zR 9 a2)]) dX5_worthOf_3 (by decide) rfl ?_
  refine gd_locals [2, 3, 4, 1, 0] rfl ?_
  exact h
def wp_X5_worthOf_5 (g : ab_E) (d : Nat) (a0 : Nat) (a1 : Nat) (a2 : Nat) (a3 : Int32) (a4 : Int32) (v : gd_D) (Q : ab_O → gd_D → Prop) : Prop :=
  (((Int32.ofNat (v.2.2.2.2.1 (v.2.2.1 a1)) : Int32) ≤ a4) →
    (((a3 : Int32) ≤ 0) →
      Q (Sum.inl (some (zJ 0))) v) ∧
    ((¬ (a3 : Int32) ≤ 0) →
      vp_in 0 16 ∧
      Q (Sum.inl (some (zJ (v.2.1 23 a0 (0 : Int32).toNatClampNeg)))) v)) ∧
  ((¬ (Int32.ofNat (v.2.2.2.2.1 (v.2.2.1 a1)) : Int32) ≤ a4) →
    vp_in a4 (v.2.2.2.2.1 (v.2.2.1 a1)) ∧
    ∀ x1 : Int32, x1 = v.1 15 (v.2.2.1 a1) (a4 : Int32).toNatClampNeg →
    (((x1 : Int32) ≤ (-8)) →
      ((¬ (x1 : Int32) = (-8)) →
        (((a3 : Int32) ≤ 1) →
          gd_G g mX5_worthOf d 0 0 5 [(0, zR 5 a0), (1, zR 2 a1), (2, zR 9 a2), (3, zI a3), (4, zI (a4 + 1))] [] v Q) ∧
        ((¬ (a3 : Int32) ≤ 1) →
          vp_in ((a3 + (-1)) - 1) 16 ∧
          ∀ y2 : Int64, y2 = v.2.1 23 a0 ((a3 + (-1)) - 1 : Int32).toNatClampNeg →
          vp_in (a3 + (-1)) 16 ∧
          gd_C g mX5_joined 2 0 0 [zI x1, zJ y2, zJ (v.2.1 23 a0 (a3 + (-1) : Int32).toNatClampNeg)] v (gd_rJ (fun (r4 : Int64) v3 =>
            vp_in ((a3 + (-1)) - 1) 16 ∧
            ∀ v5 : gd_D, v5 = gd_sJ v3 23 a0 (((a3 + (-1)) - 1 : Int32).toNatClampNeg) r4 →
            gd_G g mX5_worthOf d 0 0 5 [(0, zR 5 a0), (1, zR 2 a1), (2, zR 9 a2), (3, zI (a3 + (-1))), (4, zI (a4 + 1))] [] v5 Q) (fun E v9 => Q (Sum.inr E) v9)))) ∧
      (((x1 : Int32) = (-8)) →
        (((a3 : Int32) ≤ 0) →
          gd_G g mX5_worthOf d 0 0 5 [(0, zR 5 a0), (1, zR 2 a1), (2, zR 9 a2), (3, zI a3), (4, zI (a4 + 1))] [] v Q) ∧
        ((¬ (a3 : Int32) ≤ 0) →
          vp_in (a3 - 1) 16 ∧
          vp_in (a3 - 1) 16 ∧
          ∀ v6 : gd_D, v6 = gd_sJ v 23 a0 ((a3 - 1 : Int32).toNatClampNeg) (-(v.2.1 23 a0 (a3 - 1 : Int32).toNatClampNeg)) →
          gd_G g mX5_worthOf d 0 0 5 [(0, zR 5 a0), (1, zR 2 a1), (2, zR 9 a2), (3, zI a3), (4, zI (a4 + 1))] [] v6 Q))) ∧
    ((¬ (x1 : Int32) ≤ (-8)) →
      (((16 : Int32) ≤ a3) →
        gd_G g mX5_worthOf d 0 0 5 [(0, zR 5 a0), (1, zR 2 a1), (2, zR 9 a2), (3, zI a3), (4, zI (a4 + 1))] [] v Q) ∧
      ((¬ (16 : Int32) ≤ a3) →
        gd_C g mX5_operand 2 0 0 [zI x1, zR 2 a1, zR 9 a2] v (gd_rJ (fun (r8 : Int64) v7 =>
          vp_in a3 16 ∧
          ∀ v9 : gd_D, v9 = gd_sJ v7 23 a0 ((a3 : Int32).toNatClampNeg) r8 →
          gd_G g mX5_worthOf d 0 0 5 [(0, zR 5 a0), (1, zR 2 a1), (2, zR 9 a2), (3, zI (a3 + 1)), (4, zI (a4 + 1))] [] v9 Q) (fun E v9 => Q (Sum.inr E) v9)))))
theorem w_X5_worthOf_5 {g : ab_E} {d : Nat} {a0 : Nat} {a1 : Nat} {a2 : Nat} {a3 : Int32} {a4 : Int32} {v : gd_D} {Q : ab_O → gd_D → Prop} (hd : 3 ≤ d) (h : wp_X5_worthOf_5 g d a0 a1 a2 a3 a4 v Q) : gd_G g mX5_worthOf d 0 0 5 [(0, zR 5 a0), (1, zR 2 a1), (2, zR 9 a2), (3, zI a3), (4, zI a4)] [] v Q := by
  unfold wp_X5_worthOf_5 at h
  refine gd_iload 4 dX5_worthOf_5 rfl ?_
  refine gd_aload_n 1 dX5_worthOf_7 rfl rfl ?_
  refine gd_getR (x := v.2.2.1 a1) (kr := 15) fX5_43 rfl rfl dX5_worthOf_8 rfl ?_
  refine gd_alen (n := v.2.2.2.2.1 (v.2.2.1 a1)) (x9 := Int32.ofNat (v.2.2.2.2.1 (v.2.2.1 a1))) (by decide) dX5_worthOf_11 rfl rfl ?_
  refine gd_icmp_ge (tgt := 128) dX5_worthOf_12 (by decide) (fun hc => ?_) (fun hc => ?_)
  · have h := h.1 hc
    refine gd_iload_n 3 dX5_worthOf_128 rfl rfl ?_
    refine gd_if_le (tgt := 141) dX5_worthOf_129 (by decide) (fun hc => ?_) (fun hc => ?_)
    · have h := h.1 hc
      refine gd_lconst (x9 := 0) dX5_worthOf_141 (by decide) ?_
      exact gd_lret dX5_worthOf_142 rfl h
    · have h := h.2 hc
      refine gd_aload_n 0 dX5_worthOf_132 rfl rfl ?_
      refine gd_getR (x := a0) (kr := 23) fX5_19 rfl rfl dX5_worthOf_133 rfl ?_
      refine gd_iconst (x9 := 0) dX5_worthOf_136 (by decide) ?_
      obtain ⟨hb, h⟩ := h
      refine gd_laload (n := 16) (by decide) rfl dX5_worthOf_137 rfl hb ?_
      refine gd_goto (tgt := 142) dX5_worthOf_138 (by decide) ?_
      exact gd_lret dX5_worthOf_142 rfl h
  · have h := h.2 hc
    refine gd_aload_n 1 dX5_worthOf_15 rfl rfl ?_
    refine gd_getR (x := v.2.2.1 a1) (kr := 15) fX5_43 rfl rfl dX5_worthOf_16 rfl ?_
    refine gd_iload 4 dX5_worthOf_19 rfl ?_
    obtain ⟨hb, h⟩ := h
    refine gd_iaload (n := v.2.2.2.2.1 (v.2.2.1 a1)) (by decide) rfl dX5_worthOf_21 rfl hb ?_
    refine gd_nmI (fun x1 ex1 => ?_)
    have h := h x1 ex1
    refine gd_istore (L' := [(5, zI x1), (0, zR 5 a0), (1, zR 2 a1), (2, zR 9 a2), (3, zI a3), (4, zI a4)]) dX5_worthOf_22 (by decide) rfl ?_
    refine gd_iload 0 dX5_worthOf_24 rfl ?_
    refine gd_bipush (x9 := (-8)) dX5_worthOf_26 (by decide) ?_
    refine gd_icmp_le (tgt := 56) dX5_worthOf_28 (by decide) (fun hc => ?_) (fun hc => ?_)
    · have h := h.1 hc
      refine gd_iload 0 dX5_worthOf_56 rfl ?_
      refine gd_bipush (x9 := (-8)) dX5_worthOf_58 (by decide) ?_
      refine gd_icmp_ne (tgt := 87) dX5_worthOf_60 (by decide) (fun hc => ?_) (fun hc => ?_)
      · have h := h.1 hc
        refine gd_iload_n 4 dX5_worthOf_87 rfl rfl ?_
        refine gd_iconst (x9 := 1) dX5_worthOf_88 (by decide) ?_
        refine gd_icmp_le (tgt := 122) dX5_worthOf_89 (by decide) (fun hc => ?_) (fun hc => ?_)
        · have h := h.1 hc
          refine gd_iinc (x9 := a4 + 1) (L' := [(4, zI (a4 + 1)), (5, zI x1), (0, zR 5 a0), (1, zR 2 a1), (2, zR 9 a2), (3, zI a3)]) 5 dX5_worthOf_122 rfl rfl (by decide) rfl ?_
          refine gd_goto (tgt := 5) dX5_worthOf_125 (by decide) ?_
          refine gd_locals [2, 3, 4, 5, 0] rfl ?_
          exact h
        · have h := h.2 hc
          refine gd_iinc (x9 := a3 + (-1)) (L' := [(3, zI (a3 + (-1))), (5, zI x1), (0, zR 5 a0), (1, zR 2 a1), (2, zR 9 a2), (4, zI a4)]) 4 dX5_worthOf_92 rfl rfl (by decide) rfl ?_
          refine gd_aload_n 2 dX5_worthOf_95 rfl rfl ?_
          refine gd_getR (x := a0) (kr := 23) fX5_19 rfl rfl dX5_worthOf_96 rfl ?_
          refine gd_iload_n 0 dX5_worthOf_99 rfl rfl ?_
          refine gd_iconst (x9 := 1) dX5_worthOf_100 (by decide) ?_
          refine gd_isub dX5_worthOf_101 ?_
          refine gd_iload 1 dX5_worthOf_102 rfl ?_
          refine gd_aload_n 2 dX5_worthOf_104 rfl rfl ?_
          refine gd_getR (x := a0) (kr := 23) fX5_19 rfl rfl dX5_worthOf_105 rfl ?_
          refine gd_iload_n 0 dX5_worthOf_108 rfl rfl ?_
          refine gd_iconst (x9 := 1) dX5_worthOf_109 (by decide) ?_
          refine gd_isub dX5_worthOf_110 ?_
          obtain ⟨hb, h⟩ := h
          refine gd_laload (n := 16) (by decide) rfl dX5_worthOf_111 rfl hb ?_
          refine gd_nmJ (fun y2 ey2 => ?_)
          have h := h y2 ey2
          refine gd_aload_n 2 dX5_worthOf_112 rfl rfl ?_
          refine gd_getR (x := a0) (kr := 23) fX5_19 rfl rfl dX5_worthOf_113 rfl ?_
          refine gd_iload_n 0 dX5_worthOf_116 rfl rfl ?_
          obtain ⟨hb, h⟩ := h
          refine gd_laload (n := 16) (by decide) rfl dX5_worthOf_117 rfl hb ?_
          refine gd_callSJ (As := [zI x1, zJ y2, zJ (v.2.1 23 a0 (a3 + (-1) : Int32).toNatClampNeg)]) (rest := [zI ((a3 + (-1)) - 1), zR 23 a0]) (dy := 2) (my := 0) (sy := 0) lX5_50 tX5_joined dX5_worthOf_118 rfl rfl (gd_room (by omega) (by decide)) (by decide) (Nat.le_of_ble_eq_true rfl) h (fun r4 v3 h => ?_)
          obtain ⟨hb, h⟩ := h
          refine gd_lastoren (n := 16) (by decide) rfl rfl dX5_worthOf_121 rfl hb (fun v5 ev5 => ?_)
          have h := h v5 ev5
          refine gd_iinc (x9 := a4 + 1) (L' := [(4, zI (a4 + 1)), (3, zI (a3 + (-1))), (5, zI x1), (0, zR 5 a0), (1, zR 2 a1), (2, zR 9 a2)]) 5 dX5_worthOf_122 rfl rfl (by decide) rfl ?_
          refine gd_goto (tgt := 5) dX5_worthOf_125 (by decide) ?_
          refine gd_locals [3, 4, 5, 1, 0] rfl ?_
          exact h
      · have h := h.2 hc
        refine gd_iload_n 4 dX5_worthOf_63 rfl rfl ?_
        refine gd_if_le (tgt := 122) dX5_worthOf_64 (by decide) (fun hc => ?_) (fun hc => ?_)
        · have h := h.1 hc
          refine gd_iinc (x9 := a4 + 1) (L' := [(4, zI (a4 + 1)), (5, zI x1), (0, zR 5 a0), (1, zR 2 a1), (2, zR 9 a2), (3, zI a3)]) 5 dX5_worthOf_122 rfl rfl (by decide) rfl ?_
          refine gd_goto (tgt := 5) dX5_worthOf_125 (by decide) ?_
          refine gd_locals [2, 3, 4, 5, 0] rfl ?_
          exact h
        · have h := h.2 hc
          refine gd_aload_n 1 dX5_worthOf_67 rfl rfl ?_
          refine gd_getR (x := a0) (kr := 23) fX5_19 rfl rfl dX5_worthOf_68 rfl ?_
          refine gd_iload_n 4 dX5_worthOf_71 rfl rfl ?_
          refine gd_iconst (x9 := 1) dX5_worthOf_72 (by decide) ?_
          refine gd_isub dX5_worthOf_73 ?_
          refine gd_aload_n 1 dX5_worthOf_74 rfl rfl ?_
          refine gd_getR (x := a0) (kr := 23) fX5_19 rfl rfl dX5_worthOf_75 rfl ?_
          refine gd_iload_n 4 dX5_worthOf_78 rfl rfl ?_
          refine gd_iconst (x9 := 1) dX5_worthOf_79 (by decide) ?_
          refine gd_isub dX5_worthOf_80 ?_
          obtain ⟨hb, h⟩ := h
          refine gd_laload (n := 16) (by decide) rfl dX5_worthOf_81 rfl hb ?_
          refine gd_lneg dX5_worthOf_82 ?_
          obtain ⟨hb, h⟩ := h
          refine gd_lastoren (n := 16) (by decide) rfl rfl dX5_worthOf_83 rfl hb (fun v6 ev6 => ?_)
          have h := h v6 ev6
          refine gd_goto (tgt := 122) dX5_worthOf_84 (by decide) ?_
          refine gd_iinc (x9 := a4 + 1) (L' := [(4, zI (a4 + 1)), (5, zI x1), (0, zR 5 a0), (1, zR 2 a1), (2, zR 9 a2), (3, zI a3)]) 5 dX5_worthOf_122 rfl rfl (by decide) rfl ?_
          refine gd_goto (tgt := 5) dX5_worthOf_125 (by decide) ?_
          refine gd_locals [2, 3, 4, 5, 0] rfl ?_
          exact h
    · have h := h.2 hc
      refine gd_iload_n 4 dX5_worthOf_31 rfl rfl ?_
      refine gd_bipush (x9 := 16) dX5_worthOf_32 (by decide) ?_
      refine gd_icmp_ge (tgt := 122) dX5_worthOf_34 (by decide) (fun hc => ?_) (fun hc => ?_)
      · have h := h.1 hc
        refine gd_iinc (x9 := a4 + 1) (L' := [(4, zI (a4 + 1)), (5, zI x1), (0, zR 5 a0), (1, zR 2 a1), (2, zR 9 a2), (3, zI a3)]) 5 dX5_worthOf_122 rfl rfl (by decide) rfl ?_
        refine gd_goto (tgt := 5) dX5_worthOf_125 (by decide) ?_
        refine gd_locals [2, 3, 4, 5, 0] rfl ?_
        exact h
      · have h := h.2 hc
        refine gd_aload_n 1 dX5_worthOf_37 rfl rfl ?_
        refine gd_getR (x := a0) (kr := 23) fX5_19 rfl rfl dX5_worthOf_38 rfl ?_
        refine gd_iload_n 4 dX5_worthOf_41 rfl rfl ?_
        refine gd_iload 0 dX5_worthOf_42 rfl ?_
        refine gd_aload_n 2 dX5_worthOf_44 rfl rfl ?_
        refine gd_aload_n 3 dX5_worthOf_45 rfl rfl ?_
        refine gd_callSJ (As := [zI x1, zR 2 a1, zR 9 a2]) (rest := [zI a3, zR 23 a0]) (dy := 2) (my := 0) (sy := 0) lX5_46 tX5_operand dX5_worthOf_46 rfl rfl (gd_room (by omega) (by decide)) (by decide) (Nat.le_of_ble_eq_true rfl) h (fun r8 v7 h => ?_)
        obtain ⟨hb, h⟩ := h
        refine gd_lastoren (n := 16) (by decide) rfl rfl dX5_worthOf_49 rfl hb (fun v9 ev9 => ?_)
        have h := h v9 ev9
        refine gd_iinc (x9 := a3 + 1) (L' := [(3, zI (a3 + 1)), (5, zI x1), (0, zR 5 a0), (1, zR 2 a1), (2, zR 9 a2), (4, zI a4)]) 4 dX5_worthOf_50 rfl rfl (by decide) rfl ?_
        refine gd_goto (tgt := 122) dX5_worthOf_53 (by decide) ?_
        refine gd_iinc (x9 := a4 + 1) (L' := [(4, zI (a4 + 1)), (3, zI (a3 + 1)), (5, zI x1), (0, zR 5 a0), (1, zR 2 a1), (2, zR 9 a2)]) 5 dX5_worthOf_122 rfl rfl (by decide) rfl ?_
        refine gd_goto (tgt := 5) dX5_worthOf_125 (by decide) ?_
        refine gd_locals [3, 4, 5, 1, 0] rfl ?_
        exact h
theorem c_X5_worthOf {g : ab_E} {d : Nat} {a0 : Nat} {a1 : Nat} {a2 : Nat} {v : gd_D} {Q : ab_O → gd_D → Prop} (hd : 0 ≤ d) (h : wp_X5_worthOf g d a0 a1 a2 v Q) : gd_C g mX5_worthOf d 0 0 [zR 5 a0, zR 2 a1, zR 9 a2] v Q := gd_enterF (plainFor_of_name (by decide)) (Nat.le_of_ble_eq_true rfl) rfl (w_X5_worthOf hd h)
def wp_X5_operand (g : ab_E) (d : Nat) (a0 : Int32) (a1 : Nat) (a2 : Nat) (v : gd_D) (Q : ab_O → gd_D → Prop) : Prop :=
  ((a0 : Int32) = (-7) →
    Q (Sum.inl (some (zJ ((v.1 9 a2 4 : Int32).toInt64)))) v) ∧
  ((a0 : Int32) = (-6) →
    Q (Sum.inl (some (zJ ((v.1 9 a2 1 : Int32).toInt64)))) v) ∧
  ((a0 : Int32) = (-5) →
    Q (Sum.inl (some (zJ ((v.1 9 a2 0 : Int32).toInt64)))) v) ∧
  ((a0 : Int32) = (-4) →
    Q (Sum.inl (some (zJ ((v.1 9 a2 3 : Int32).toInt64)))) v) ∧
  ((a0 : Int32) = (-3) →
    Q (Sum.inl (some (zJ ((v.1 9 a2 2 : Int32).toInt64)))) v) ∧
  ((a0 : Int32) = (-2) →
    Q (Sum.inl (some (zJ ((v.1 9 a2 5 : Int32).toInt64)))) v) ∧
  ((a0 : Int32) = (-1) →
    Q (Sum.inl (some (zJ (((v.1 2 a1 4) - (v.1 9 a2 4) : Int32).toInt64)))) v) ∧
  (((a0 : Int32).toInt < -7 ∨ -1 < (a0 : Int32).toInt) →
    Q (Sum.inl (some (zJ ((a0 : Int32).toInt64)))) v)
theorem w_X5_operand {g : ab_E} {d : Nat} {a0 : Int32} {a1 : Nat} {a2 : Nat} {v : gd_D} {Q : ab_O → gd_D → Prop} (hd : 0 ≤ d) (h : wp_X5_operand g d a0 a1 a2 v Q) : gd_G g mX5_operand d 0 0 0 [(0, zI a0), (1, zR 2 a1), (2, zR 9 a2)] [] v Q := by
  unfold wp_X5_operand at h
  refine gd_iload_n 0 dX5_operand_0 rfl rfl ?_
  rcases sw_m7_m1 a0 with hc | hc | hc | hc | hc | hc | hc | hc
  · refine gd_tableIn (off := 84) (tgt := 85) dX5_operand_1 (by rw [hc]; decide) (by rw [hc]; decide) (by rw [hc]; decide) (by decide) ?_
    have h := h.1 hc
    refine gd_aload_n 2 dX5_operand_85 rfl rfl ?_
    refine gd_getI fX5_57 rfl dX5_operand_86 ?_
    refine gd_i2l dX5_operand_89 ?_
    exact gd_lret dX5_operand_90 rfl h
  · refine gd_tableIn (off := 78) (tgt := 79) dX5_operand_1 (by rw [hc]; decide) (by rw [hc]; decide) (by rw [hc]; decide) (by decide) ?_
    have h := h.2.1 hc
    refine gd_aload_n 2 dX5_operand_79 rfl rfl ?_
    refine gd_getI fX5_74 rfl dX5_operand_80 ?_
    refine gd_i2l dX5_operand_83 ?_
    exact gd_lret dX5_operand_84 rfl h
  · refine gd_tableIn (off := 72) (tgt := 73) dX5_operand_1 (by rw [hc]; decide) (by rw [hc]; decide) (by rw [hc]; decide) (by decide) ?_
    have h := h.2.2.1 hc
    refine gd_aload_n 2 dX5_operand_73 rfl rfl ?_
    refine gd_getI fX5_71 rfl dX5_operand_74 ?_
    refine gd_i2l dX5_operand_77 ?_
    exact gd_lret dX5_operand_78 rfl h
  · refine gd_tableIn (off := 66) (tgt := 67) dX5_operand_1 (by rw [hc]; decide) (by rw [hc]; decide) (by rw [hc]; decide) (by decide) ?_
    have h := h.2.2.2.1 hc
    refine gd_aload_n 2 dX5_operand_67 rfl rfl ?_
    refine gd_getI fX5_68 rfl dX5_operand_68 ?_
    refine gd_i2l dX5_operand_71 ?_
    exact gd_lret dX5_operand_72 rfl h
  · refine gd_tableIn (off := 60) (tgt := 61) dX5_operand_1 (by rw [hc]; decide) (by rw [hc]; decide) (by rw [hc]; decide) (by decide) ?_
    have h := h.2.2.2.2.1 hc
    refine gd_aload_n 2 dX5_operand_61 rfl rfl ?_
    refine gd_getI fX5_65 rfl dX5_operand_62 ?_
    refine gd_i2l dX5_operand_65 ?_
    exact gd_lret dX5_operand_66 rfl h
  · refine gd_tableIn (off := 54) (tgt := 55) dX5_operand_1 (by rw [hc]; decide) (by rw [hc]; decide) (by rw [hc]; decide) (by decide) ?_
    have h := h.2.2.2.2.2.1 hc
    refine gd_aload_n 2 dX5_operand_55 rfl rfl ?_
    refine gd_getI fX5_62 rfl dX5_operand_56 ?_
    refine gd_i2l dX5_operand_59 ?_
    exact gd_lret dX5_operand_60 rfl h
  · refine gd_tableIn (off := 43) (tgt := 44) dX5_operand_1 (by rw [hc]; decide) (by rw [hc]; decide) (by rw [hc]; decide) (by decide) ?_
    have h := h.2.2.2.2.2.2.1 hc
    refine gd_aload_n 1 dX5_operand_44 rfl rfl ?_
    refine gd_getI fX5_54 rfl dX5_operand_45 ?_
    refine gd_aload_n 2 dX5_operand_48 rfl rfl ?_
    refine gd_getI fX5_57 rfl dX5_operand_49 ?_
    refine gd_isub dX5_operand_52 ?_
    refine gd_i2l dX5_operand_53 ?_
    exact gd_lret dX5_operand_54 rfl h
  · refine gd_tableOut (tgt := 91) dX5_operand_1 hc (by decide) ?_
    have h := h.2.2.2.2.2.2.2 hc
    refine gd_iload_n 0 dX5_operand_91 rfl rfl ?_
    refine gd_i2l dX5_operand_92 ?_
    exact gd_lret dX5_operand_93 rfl h
theorem c_X5_operand {g : ab_E} {d : Nat} {a0 : Int32} {a1 : Nat} {a2 : Nat} {v : gd_D} {Q : ab_O → gd_D → Prop} (hd : 0 ≤ d) (h : wp_X5_operand g d a0 a1 a2 v Q) : gd_C g mX5_operand d 0 0 [zI a0, zR 2 a1, zR 9 a2] v Q := gd_enterF (plainFor_of_name (by decide)) (Nat.le_of_ble_eq_true rfl) rfl (w_X5_operand hd h)
def wp_X5_joined (g : ab_E) (d : Nat) (a0 : Int32) (a1 : Int64) (a3 : Int64) (v : gd_D) (Q : ab_O → gd_D → Prop) : Prop :=
  ((¬ (a0 : Int32) = (-9)) →
    ((¬ (a0 : Int32) = (-10)) →
      Q (Sum.inl (some (zJ (a1 * a3)))) v) ∧
    (((a0 : Int32) = (-10)) →
      Q (Sum.inl (some (zJ (a1 - a3)))) v)) ∧
  (((a0 : Int32) = (-9)) →
    Q (Sum.inl (some (zJ (a1 + a3)))) v)
theorem w_X5_joined {g : ab_E} {d : Nat} {a0 : Int32} {a1 : Int64} {a3 : Int64} {v : gd_D} {Q : ab_O → gd_D → Prop} (hd : 0 ≤ d) (h : wp_X5_joined g d a0 a1 a3 v Q) : gd_G g mX5_joined d 0 0 0 [(0, zI a0), (1, zJ a1), (3, zJ a3)] [] v Q := by
  unfold wp_X5_joined at h
  refine gd_iload_n 0 dX5_joined_0 rfl rfl ?_
  refine gd_bipush (x9 := (-9)) dX5_joined_1 (by decide) ?_
  refine gd_icmp_ne (tgt := 10) dX5_joined_3 (by decide) (fun hc => ?_) (fun hc => ?_)
  · have h := h.1 hc
    refine gd_iload_n 0 dX5_joined_10 rfl rfl ?_
    refine gd_bipush (x9 := (-10)) dX5_joined_11 (by decide) ?_
    refine gd_icmp_ne (tgt := 22) dX5_joined_13 (by decide) (fun hc => ?_) (fun hc => ?_)
    · have h := h.1 hc
      refine gd_lload_n 1 dX5_joined_22 rfl rfl ?_
      refine gd_lload_n 2 dX5_joined_23 rfl rfl ?_
      refine gd_lmul dX5_joined_24 ?_
      exact gd_lret dX5_joined_25 rfl h
    · have h := h.2 hc
      refine gd_lload_n 1 dX5_joined_16 rfl rfl ?_
      refine gd_lload_n 2 dX5_joined_17 rfl rfl ?_
      refine gd_lsub dX5_joined_18 ?_
      refine gd_goto (tgt := 25) dX5_joined_19 (by decide) ?_
      exact gd_lret dX5_joined_25 rfl h
  · have h := h.2 hc
    refine gd_lload_n 1 dX5_joined_6 rfl rfl ?_
    refine gd_lload_n 2 dX5_joined_7 rfl rfl ?_
    refine gd_ladd dX5_joined_8 ?_
    exact gd_lret dX5_joined_9 rfl h
theorem c_X5_joined {g : ab_E} {d : Nat} {a0 : Int32} {a1 : Int64} {a3 : Int64} {v : gd_D} {Q : ab_O → gd_D → Prop} (hd : 0 ≤ d) (h : wp_X5_joined g d a0 a1 a3 v Q) : gd_C g mX5_joined d 0 0 [zI a0, zJ a1, zJ a3] v Q := gd_enterF (plainFor_of_name (by decide)) (Nat.le_of_ble_eq_true rfl) rfl (w_X5_joined hd h)
def wp_X6_stand (g : ab_E) (d : Nat) (a0 : Nat) (a1 : Nat) (a2 : Nat) (v : gd_D) (Q : ab_O → gd_D → Prop) : Prop :=
  ∀ v1 : gd_D, v1 = gd_sI v 6 a0 7 0 →
  gd_C g mJ7_fill_53178 2 0 0 [zR 28 a0, zI 0] v1 (gd_rV (fun v2 =>
    gd_G g mX6_stand d 0 0 15 [(0, zR 6 a0), (1, zR 2 a1), (2, zR 5 a2), (3, zI 0)] [] v2 Q) (fun E v9 => Q (Sum.inr E) v9))
theorem w_X6_stand {g : ab_E} {d : Nat} {a0 : Nat} {a1 : Nat} {a2 : Nat} {v : gd_D} {Q : ab_O → gd_D → Prop} (hd : 3 ≤ d) (h : wp_X6_stand g d a0 a1 a2 v Q) : gd_G g mX6_stand d 0 0 0 [(0, zR 6 a0), (1, zR 2 a1), (2, zR 5 a2)] [] v Q := by
  unfold wp_X6_stand at h
  refine gd_aload_n 0 dX6_stand_0 rfl rfl ?_
  refine gd_iconst (x9 := 0) dX6_stand_1 (by decide) ?_
  refine gd_putIn fX6_33 rfl rfl dX6_stand_2 (fun v1 ev1 => ?_)
  have h := h v1 ev1
  refine gd_aload_n 0 dX6_stand_5 rfl rfl ?_
  refine gd_getR (x := a0) (kr := 28) fX6_24 rfl rfl dX6_stand_6 rfl ?_
  refine gd_iconst (x9 := 0) dX6_stand_9 (by decide) ?_
  refine gd_callSV (As := [zR 28 a0, zI 0]) (rest := []) (dy := 2) (my := 0) (sy := 0) lX6_37 tJ7_fill_53178 dX6_stand_10 rfl rfl (gd_room (by omega) (by decide)) (by decide) (Nat.le_of_ble_eq_true rfl) h (fun v2 h => ?_)
  refine gd_iconst (x9 := 0) dX6_stand_13 (by decide) ?_
  refine gd_istore_n (L' := [(3, zI 0), (0, zR 6 a0), (1, zR 2 a1), (2, zR 5 a2)]) dX6_stand_14 rfl (by decide) rfl ?_
  refine gd_locals [1, 2, 3, 0] rfl ?_
  exact h
def wp_X6_stand_49 (g : ab_E) (d : Nat) (a0 : Nat) (a1 : Nat) (a2 : Nat) (a3 : Int32) (s0 : Nat) (s1 : Int32) (s2 : Int32) (v : gd_D) (Q : ab_O → gd_D → Prop) : Prop :=
  vp_in s1 24 ∧
  ∀ v1 : gd_D, v1 = gd_sI v 30 s0 ((s1 : Int32).toNatClampNeg) s2 →
  vp_in a3 24 ∧
  ∀ v2 : gd_D, v2 = gd_sI v1 24 a0 ((a3 : Int32).toNatClampNeg) 0 →
  vp_in a3 24 ∧
  ∀ v3 : gd_D, v3 = gd_sI v2 25 a0 ((a3 : Int32).toNatClampNeg) 0 →
  gd_G g mX6_stand d 0 0 15 [(0, zR 6 a0), (1, zR 2 a1), (2, zR 5 a2), (3, zI (a3 + 1))] [] v3 Q
theorem w_X6_stand_49 {g : ab_E} {d : Nat} {a0 : Nat} {a1 : Nat} {a2 : Nat} {a3 : Int32} {s0 : Nat} {s1 : Int32} {s2 : Int32} {v : gd_D} {Q : ab_O → gd_D → Prop} (hd : 0 ≤ d) (h : wp_X6_stand_49 g d a0 a1 a2 a3 s0 s1 s2 v Q) : gd_G g mX6_stand d 0 0 49 [(0, zR 6 a0), (1, zR 2 a1), (2, zR 5 a2), (3, zI a3)] [zI s2, zI s1, zR 30 s0] v Q := by
  unfold wp_X6_stand_49 at h
  obtain ⟨hb, h⟩ := h
  refine gd_iastoren (n := 24) (by decide) rfl rfl dX6_stand_49 rfl hb (fun v1 ev1 => ?_)
  have h := h v1 ev1
  refine gd_aload_n 0 dX6_stand_50 rfl rfl ?_
  refine gd_getR (x := a0) (kr := 24) fX6_9 rfl rfl dX6_stand_51 rfl ?_
  refine gd_iload_n 3 dX6_stand_54 rfl rfl ?_
  refine gd_iconst (x9 := 0) dX6_stand_55 (by decide) ?_
  obtain ⟨hb, h⟩ := h
  refine gd_iastoren (n := 24) (by decide) rfl rfl dX6_stand_56 rfl hb (fun v2 ev2 => ?_)
  have h := h v2 ev2
  refine gd_aload_n 0 dX6_stand_57 rfl rfl ?_
  refine gd_getR (x := a0) (kr := 25) fX6_15 rfl rfl dX6_stand_58 rfl ?_
  refine gd_iload_n 3 dX6_stand_61 rfl rfl ?_
  refine gd_iconst (x9 := 0) dX6_stand_62 (by decide) ?_
  obtain ⟨hb, h⟩ := h
  refine gd_iastoren (n := 24) (by decide) rfl rfl dX6_stand_63 rfl hb (fun v3 ev3 => ?_)
  have h := h v3 ev3
  refine gd_iinc (x9 := a3 + 1) (L' := [(3, zI (a3 + 1)), (0, zR 6 a0), (1, zR 2 a1), (2, zR 5 a2)]) 3 dX6_stand_64 rfl rfl (by decide) rfl ?_
  refine gd_goto (tgt := 15) dX6_stand_67 (by decide) ?_
  refine gd_locals [1, 2, 3, 0] rfl ?_
  exact h
def wp_X6_stand_15 (g : ab_E) (d : Nat) (a0 : Nat) (a1 : Nat) (a2 : Nat) (a3 : Int32) (v : gd_D) (Q : ab_O → gd_D → Prop) : Prop :=
  (((v.1 2 a1 3 : Int32) ≤ a3) →
    gd_G g mX6_stand d 0 0 72 [(0, zR 6 a0), (1, zR 2 a1), (2, zR 5 a2), (3, zI 0)] [] v Q) ∧
  ((¬ (v.1 2 a1 3 : Int32) ≤ a3) →
    gd_C g mX2_isAsked 2 0 0 [zR 2 a1, zI a3] v (gd_rI (fun (r2 : Int32) v1 =>
      (((r2 : Int32) = 0) →
        wp_X6_stand_49 g d a0 a1 a2 a3 a0 a3 0 v1 Q) ∧
      ((¬ (r2 : Int32) = 0) →
        vp_in a3 24 ∧
        ∀ x3 : Int32, x3 = v1.1 9 (24 * a1 + (a3 : Int32).toNatClampNeg) 5 →
        wp_X6_stand_49 g d a0 a1 a2 a3 a0 a3 x3 v1 Q)) (fun E v9 => Q (Sum.inr E) v9)))
theorem w_X6_stand_15 {g : ab_E} {d : Nat} {a0 : Nat} {a1 : Nat} {a2 : Nat} {a3 : Int32} {v : gd_D} {Q : ab_O → gd_D → Prop} (hd : 3 ≤ d) (h : wp_X6_stand_15 g d a0 a1 a2 a3 v Q) : gd_G g mX6_stand d 0 0 15 [(0, zR 6 a0), (1, zR 2 a1), (2, zR 5 a2), (3, zI a3)] [] v Q := by
  unfold wp_X6_stand_15 at h
  refine gd_iload_n 3 dX6_stand_15 rfl rfl ?_
  refine gd_aload_n 1 dX6_stand_16 rfl rfl ?_
  refine gd_getI fX6_43 rfl dX6_stand_17 ?_
  refine gd_icmp_ge (tgt := 70) dX6_stand_20 (by decide) (fun hc => ?_) (fun hc => ?_)
  · have h := h.1 hc
    refine gd_iconst (x9 := 0) dX6_stand_70 (by decide) ?_
    refine gd_istore_n (L' := [(3, zI 0), (0, zR 6 a0), (1, zR 2 a1), (2, zR 5 a2)]) dX6_stand_71 rfl (by decide) rfl ?_
    refine gd_locals [1, 2, 3, 0] rfl ?_
    exact h
  · have h := h.2 hc
    refine gd_aload_n 0 dX6_stand_23 rfl rfl ?_
    refine gd_getR (x := a0) (kr := 30) fX6_30 rfl rfl dX6_stand_24 rfl ?_
    refine gd_iload_n 3 dX6_stand_27 rfl rfl ?_
    refine gd_aload_n 1 dX6_stand_28 rfl rfl ?_
    refine gd_iload_n 3 dX6_stand_29 rfl rfl ?_
    refine gd_callVI (As := [zI a3]) (rest := [zI a3, zR 30 a0]) (dy := 2) (my := 0) (sy := 0) (k := 2) (i := a1) lX6_48 iX2_isAsked sX2_isAsked rfl dX6_stand_30 rfl rfl (gd_room (by omega) (by decide)) (by decide) (Nat.le_of_ble_eq_true rfl) h (fun r2 v1 h => ?_)
    refine gd_if_eq (tgt := 48) dX6_stand_33 (by decide) (fun hc => ?_) (fun hc => ?_)
    · have h := h.1 hc
      refine gd_iconst (x9 := 0) dX6_stand_48 (by decide) ?_
      exact w_X6_stand_49 (by omega) h
    · have h := h.2 hc
      refine gd_aload_n 1 dX6_stand_36 rfl rfl ?_
      refine gd_getR (x := a1) (kr := 14) fX6_52 rfl rfl dX6_stand_37 rfl ?_
      refine gd_iload_n 3 dX6_stand_40 rfl rfl ?_
      obtain ⟨hb, h⟩ := h
      refine gd_aaload (n := 24) (kr := 9) (y := 24 * a1 + (a3 : Int32).toNatClampNeg) (by decide) rfl rfl dX6_stand_41 rfl hb (if_pos (ab_inlt hb)) ?_
      refine gd_getI fX6_56 rfl dX6_stand_42 ?_
      refine gd_nmI (fun x3 ex3 => ?_)
      have h := h x3 ex3
      refine gd_goto (tgt := 49) dX6_stand_45 (by decide) ?_
      exact w_X6_stand_49 (by omega) h
def wp_X6_stand_72 (g : ab_E) (d : Nat) (a0 : Nat) (a1 : Nat) (a2 : Nat) (a3 : Int32) (v : gd_D) (Q : ab_O → gd_D → Prop) : Prop :=
  (((v.1 5 a2 3 : Int32) ≤ a3) →
    Q (Sum.inl none) v) ∧
  ((¬ (v.1 5 a2 3 : Int32) ≤ a3) →
    vp_in a3 24 ∧
    gd_C g mX2_isAsked 2 0 0 [zR 2 a1, zI (v.1 21 a2 (a3 : Int32).toNatClampNeg)] v (gd_rI (fun (r2 : Int32) v1 =>
      (((r2 : Int32) = 0) →
        gd_G g mX6_stand d 0 0 72 [(0, zR 6 a0), (1, zR 2 a1), (2, zR 5 a2), (3, zI (a3 + 1))] [] v1 Q) ∧
      ((¬ (r2 : Int32) = 0) →
        vp_in a3 24 ∧
        gd_C g mX6_standOne 3 0 0 [zR 6 a0, zR 2 a1, zR 5 a2, zI (v1.1 21 a2 (a3 : Int32).toNatClampNeg)] v1 (gd_rV (fun v3 =>
          gd_G g mX6_stand d 0 0 72 [(0, zR 6 a0), (1, zR 2 a1), (2, zR 5 a2), (3, zI (a3 + 1))] [] v3 Q) (fun E v9 => Q (Sum.inr E) v9)))) (fun E v9 => Q (Sum.inr E) v9)))
theorem w_X6_stand_72 {g : ab_E} {d : Nat} {a0 : Nat} {a1 : Nat} {a2 : Nat} {a3 : Int32} {v : gd_D} {Q : ab_O → gd_D → Prop} (hd : 4 ≤ d) (h : wp_X6_stand_72 g d a0 a1 a2 a3 v Q) : gd_G g mX6_stand d 0 0 72 [(0, zR 6 a0), (1, zR 2 a1), (2, zR 5 a2), (3, zI a3)] [] v Q := by
  unfold wp_X6_stand_72 at h
  refine gd_iload_n 3 dX6_stand_72 rfl rfl ?_
  refine gd_aload_n 2 dX6_stand_73 rfl rfl ?_
  refine gd_getI fX6_61 rfl dX6_stand_74 ?_
  refine gd_icmp_ge (tgt := 111) dX6_stand_77 (by decide) (fun hc => ?_) (fun hc => ?_)
  · have h := h.1 hc
    exact gd_vret dX6_stand_111 rfl h
  · have h := h.2 hc
    refine gd_aload_n 1 dX6_stand_80 rfl rfl ?_
    refine gd_aload_n 2 dX6_stand_81 rfl rfl ?_
    refine gd_getR (x := a2) (kr := 21) fX6_66 rfl rfl dX6_stand_82 rfl ?_
    refine gd_iload_n 3 dX6_stand_85 rfl rfl ?_
    obtain ⟨hb, h⟩ := h
    refine gd_iaload (n := 24) (by decide) rfl dX6_stand_86 rfl hb ?_
    refine gd_callVI (As := [zI (v.1 21 a2 (a3 : Int32).toNatClampNeg)]) (rest := []) (dy := 2) (my := 0) (sy := 0) (k := 2) (i := a1) lX6_48 iX2_isAsked sX2_isAsked rfl dX6_stand_87 rfl rfl (gd_room (by omega) (by decide)) (by decide) (Nat.le_of_ble_eq_true rfl) h (fun r2 v1 h => ?_)
    refine gd_if_eq (tgt := 105) dX6_stand_90 (by decide) (fun hc => ?_) (fun hc => ?_)
    · have h := h.1 hc
      refine gd_iinc (x9 := a3 + 1) (L' := [(3, zI (a3 + 1)), (0, zR 6 a0), (1, zR 2 a1), (2, zR 5 a2)]) 3 dX6_stand_105 rfl rfl (by decide) rfl ?_
      refine gd_goto (tgt := 72) dX6_stand_108 (by decide) ?_
      refine gd_locals [1, 2, 3, 0] rfl ?_
      exact h
    · have h := h.2 hc
      refine gd_aload_n 0 dX6_stand_93 rfl rfl ?_
      refine gd_aload_n 1 dX6_stand_94 rfl rfl ?_
      refine gd_aload_n 2 dX6_stand_95 rfl rfl ?_
      refine gd_aload_n 2 dX6_stand_96 rfl rfl ?_
      refine gd_getR (x := a2) (kr := 21) fX6_66 rfl rfl dX6_stand_97 rfl ?_
      refine gd_iload_n 3 dX6_stand_100 rfl rfl ?_
      obtain ⟨hb, h⟩ := h
      refine gd_iaload (n := 24) (by decide) rfl dX6_stand_101 rfl hb ?_
      refine gd_callVV (As := [zR 2 a1, zR 5 a2, zI (v1.1 21 a2 (a3 : Int32).toNatClampNeg)]) (rest := []) (dy := 3) (my := 0) (sy := 0) (k := 6) (i := a0) lX6_69 iX6_standOne sX6_standOne rfl dX6_stand_102 rfl rfl (gd_room (by omega) (by decide)) (by decide) (Nat.le_of_ble_eq_true rfl) h (fun v3 h => ?_)
      refine gd_iinc (x9 := a3 + 1) (L' := [(3, zI (a3 + 1)), (0, zR 6 a0), (1, zR 2 a1), (2, zR 5 a2)]) 3 dX6_stand_105 rfl rfl (by decide) rfl ?_
      refine gd_goto (tgt := 72) dX6_stand_108 (by decide) ?_
      refine gd_locals [1, 2, 3, 0] rfl ?_
      exact h
theorem c_X6_stand {g : ab_E} {d : Nat} {a0 : Nat} {a1 : Nat} {a2 : Nat} {v : gd_D} {Q : ab_O → gd_D → Prop} (hd : 3 ≤ d) (h : wp_X6_stand g d a0 a1 a2 v Q) : gd_C g mX6_stand d 0 0 [zR 6 a0, zR 2 a1, zR 5 a2] v Q := gd_enterF (plainFor_of_name (by decide)) (Nat.le_of_ble_eq_true rfl) rfl (w_X6_stand hd h)
def wp_X6_standOne (g : ab_E) (d : Nat) (a0 : Nat) (a1 : Nat) (a2 : Nat) (a3 : Int32) (v : gd_D) (Q : ab_O → gd_D → Prop) : Prop :=
  vp_in a3 24 ∧
  ∀ x1 : Int32, x1 = v.1 9 (24 * a1 + (a3 : Int32).toNatClampNeg) 0 →
  vp_in a3 24 ∧
  ∀ x2 : Int32, x2 = v.1 9 (24 * a1 + (a3 : Int32).toNatClampNeg) 5 →
  vp_in a3 24 ∧
  ∀ v3 : gd_D, v3 = gd_sI v 24 a0 ((a3 : Int32).toNatClampNeg) (v.1 6 a0 7) →
  gd_G g mX6_standOne d 0 0 35 [(0, zR 6 a0), (1, zR 2 a1), (2, zR 5 a2), (3, zI a3), (4, zI x1), (5, zI x2), (6, zI 0)] [] v3 Q
theorem w_X6_standOne {g : ab_E} {d : Nat} {a0 : Nat} {a1 : Nat} {a2 : Nat} {a3 : Int32} {v : gd_D} {Q : ab_O → gd_D → Prop} (hd : 0 ≤ d) (h : wp_X6_standOne g d a0 a1 a2 a3 v Q) : gd_G g mX6_standOne d 0 0 0 [(0, zR 6 a0), (1, zR 2 a1), (2, zR 5 a2), (3, zI a3)] [] v Q := by
  unfold wp_X6_standOne at h
  refine gd_aload_n 1 dX6_standOne_0 rfl rfl ?_
  refine gd_getR (x := a1) (kr := 14) fX6_52 rfl rfl dX6_standOne_1 rfl ?_
  refine gd_iload_n 3 dX6_standOne_4 rfl rfl ?_
  obtain ⟨hb, h⟩ := h
  refine gd_aaload (n := 24) (kr := 9) (y := 24 * a1 + (a3 : Int32).toNatClampNeg) (by decide) rfl rfl dX6_standOne_5 rfl hb (if_pos (ab_inlt hb)) ?_
  refine gd_getI fX6_73 rfl dX6_standOne_6 ?_
  refine gd_nmI (fun x1 ex1 => ?_)
  have h := h x1 ex1
  refine gd_istore (L' := [(4, zI x1), (0, zR 6 a0), (1, zR 2 a1), (2, zR 5 a2), (3, zI a3)]) dX6_standOne_9 (by decide) rfl ?_
  refine gd_aload_n 2 dX6_standOne_11 rfl rfl ?_
  refine gd_getR (x := a1) (kr := 14) fX6_52 rfl rfl dX6_standOne_12 rfl ?_
  refine gd_iload_n 4 dX6_standOne_15 rfl rfl ?_
  obtain ⟨hb, h⟩ := h
  refine gd_aaload (n := 24) (kr := 9) (y := 24 * a1 + (a3 : Int32).toNatClampNeg) (by decide) rfl rfl dX6_standOne_16 rfl hb (if_pos (ab_inlt hb)) ?_
  refine gd_getI fX6_56 rfl dX6_standOne_17 ?_
  refine gd_nmI (fun x2 ex2 => ?_)
  have h := h x2 ex2
  refine gd_istore (L' := [(5, zI x2), (4, zI x1), (0, zR 6 a0), (1, zR 2 a1), (2, zR 5 a2), (3, zI a3)]) dX6_standOne_20 (by decide) rfl ?_
  refine gd_aload_n 2 dX6_standOne_22 rfl rfl ?_
  refine gd_getR (x := a0) (kr := 24) fX6_9 rfl rfl dX6_standOne_23 rfl ?_
  refine gd_iload_n 5 dX6_standOne_26 rfl rfl ?_
  refine gd_aload_n 2 dX6_standOne_27 rfl rfl ?_
  refine gd_getI fX6_33 rfl dX6_standOne_28 ?_
  obtain ⟨hb, h⟩ := h
  refine gd_iastoren (n := 24) (by decide) rfl rfl dX6_standOne_31 rfl hb (fun v3 ev3 => ?_)
  have h := h v3 ev3
  refine gd_iconst (x9 := 0) dX6_standOne_32 (by decide) ?_
  refine gd_istore (L' := [(6, zI 0), (5, zI x2), (4, zI x1), (0, zR 6 a0), (1, zR 2 a1), (2, zR 5 a2), (3, zI a3)]) dX6_standOne_33 (by decide) rfl ?_
  refine gd_locals [3, 4, 5, 6, 2, 1, 0] rfl ?_
  exact h
def wp_X6_standOne_130 (g : ab_E) (d : Nat) (a0 : Nat) (a3 : Int32) (a4 : Int32) (a5 : Int32) (v : gd_D) (Q : ab_O → gd_D → Prop) : Prop :=
  vp_in a3 24 ∧
  ∀ x1 : Int32, x1 = (v.1 6 a0 7) - (v.1 24 a0 (a3 : Int32).toNatClampNeg) →
  vp_in a3 24 ∧
  ∀ v2 : gd_D, v2 = gd_sI v 25 a0 ((a3 : Int32).toNatClampNeg) x1 →
  vp_in a4 8 ∧
  vp_in a4 8 ∧
  ∀ v3 : gd_D, v3 = gd_sI v2 28 a0 ((a4 : Int32).toNatClampNeg) ((v2.1 28 a0 (a4 : Int32).toNatClampNeg) + a5) →
  Q (Sum.inl none) v3
theorem w_X6_standOne_130 {g : ab_E} {d : Nat} {a0 : Nat} {a3 : Int32} {a4 : Int32} {a5 : Int32} {v : gd_D} {Q : ab_O → gd_D → Prop} (hd : 0 ≤ d) (h : wp_X6_standOne_130 g d a0 a3 a4 a5 v Q) : gd_G g mX6_standOne d 0 0 130 [(0, zR 6 a0), (3, zI a3), (4, zI a4), (5, zI a5)] [] v Q := by
  unfold wp_X6_standOne_130 at h
  refine gd_aload_n 0 dX6_standOne_130 rfl rfl ?_
  refine gd_getR (x := a0) (kr := 25) fX6_15 rfl rfl dX6_standOne_131 rfl ?_
  refine gd_iload_n 1 dX6_standOne_134 rfl rfl ?_
  refine gd_aload_n 0 dX6_standOne_135 rfl rfl ?_
  refine gd_getI fX6_33 rfl dX6_standOne_136 ?_
  refine gd_aload_n 0 dX6_standOne_139 rfl rfl ?_
  refine gd_getR (x := a0) (kr := 24) fX6_9 rfl rfl dX6_standOne_140 rfl ?_
  refine gd_iload_n 1 dX6_standOne_143 rfl rfl ?_
  obtain ⟨hb, h⟩ := h
  refine gd_iaload (n := 24) (by decide) rfl dX6_standOne_144 rfl hb ?_
  refine gd_isub dX6_standOne_145 ?_
  refine gd_nmI (fun x1 ex1 => ?_)
  have h := h x1 ex1
  obtain ⟨hb, h⟩ := h
  refine gd_iastoren (n := 24) (by decide) rfl rfl dX6_standOne_146 rfl hb (fun v2 ev2 => ?_)
  have h := h v2 ev2
  refine gd_aload_n 0 dX6_standOne_147 rfl rfl ?_
  refine gd_getR (x := a0) (kr := 28) fX6_24 rfl rfl dX6_standOne_148 rfl ?_
  refine gd_iload 2 dX6_standOne_151 rfl ?_
  refine gd_dup2_11 dX6_standOne_153 rfl rfl ?_
  obtain ⟨hb, h⟩ := h
  refine gd_iaload (n := 8) (by decide) rfl dX6_standOne_154 rfl hb ?_
  refine gd_iload 3 dX6_standOne_155 rfl ?_
  refine gd_iadd dX6_standOne_157 ?_
  obtain ⟨hb, h⟩ := h
  refine gd_iastoren (n := 8) (by decide) rfl rfl dX6_standOne_158 rfl hb (fun v3 ev3 => ?_)
  have h := h v3 ev3
  exact gd_vret dX6_standOne_159 rfl h
def wp_X6_standOne_35 (g : ab_E) (d : Nat) (a0 : Nat) (a1 : Nat) (a2 : Nat) (a3 : Int32) (a4 : Int32) (a5 : Int32) (a6 : Int32) (v : gd_D) (Q : ab_O → gd_D → Prop) : Prop :=
  (((v.1 5 a2 3 : Int32) ≤ a6) →
    wp_X6_standOne_130 g d a0 a3 a4 a5 v Q) ∧
  ((¬ (v.1 5 a2 3 : Int32) ≤ a6) →
    (((a5 : Int32) ≤ 0) →
      wp_X6_standOne_130 g d a0 a3 a4 a5 v Q) ∧
    ((¬ (a5 : Int32) ≤ 0) →
      vp_in a6 24 ∧
      vp_in (v.1 21 a2 (a6 : Int32).toNatClampNeg) 24 ∧
      ∀ i1 : Nat, i1 = 24 * a1 + (v.1 21 a2 (a6 : Int32).toNatClampNeg : Int32).toNatClampNeg →
      ((¬ (v.1 9 i1 1 : Int32) = a4) →
        gd_G g mX6_standOne d 0 0 35 [(0, zR 6 a0), (1, zR 2 a1), (2, zR 5 a2), (3, zI a3), (4, zI a4), (5, zI a5), (6, zI (a6 + 1))] [] v Q) ∧
      (((v.1 9 i1 1 : Int32) = a4) →
        vp_in (v.1 21 a2 (a6 : Int32).toNatClampNeg) 24 ∧
        ∀ x2 : Int32, x2 = v.1 30 a0 (v.1 21 a2 (a6 : Int32).toNatClampNeg : Int32).toNatClampNeg →
        (((x2 : Int32) ≤ 0) →
          gd_G g mX6_standOne d 0 0 35 [(0, zR 6 a0), (1, zR 2 a1), (2, zR 5 a2), (3, zI a3), (4, zI a4), (5, zI a5), (6, zI (a6 + 1))] [] v Q) ∧
        ((¬ (x2 : Int32) ≤ 0) →
          vp_in (v.1 21 a2 (a6 : Int32).toNatClampNeg) 24 ∧
          ∀ x3 : Int32, x3 = v.1 30 a0 (v.1 21 a2 (a6 : Int32).toNatClampNeg : Int32).toNatClampNeg →
          gd_C g mJ9_min_7cf53 2 0 0 [zI a5, zI x3] v (gd_rI (fun (r5 : Int32) v4 =>
            vp_in (v.1 21 a2 (a6 : Int32).toNatClampNeg) 24 ∧
            ∀ x6 : Int32, x6 = v4.1 30 a0 (v.1 21 a2 (a6 : Int32).toNatClampNeg : Int32).toNatClampNeg →
            vp_in (v.1 21 a2 (a6 : Int32).toNatClampNeg) 24 ∧
            ∀ v7 : gd_D, v7 = gd_sI v4 30 a0 ((v.1 21 a2 (a6 : Int32).toNatClampNeg : Int32).toNatClampNeg) (x6 - r5) →
            gd_C g mX6_add 2 0 0 [zR 6 a0, zI (v.1 21 a2 (a6 : Int32).toNatClampNeg), zI r5] v7 (gd_rV (fun v8 =>
              gd_G g mX6_standOne d 0 0 35 [(0, zR 6 a0), (1, zR 2 a1), (2, zR 5 a2), (3, zI a3), (4, zI a4), (5, zI (a5 - r5)), (6, zI (a6 + 1))] [] v8 Q) (fun E v9 => Q (Sum.inr E) v9))) (fun E v9 => Q (Sum.inr E) v9))))))
theorem w_X6_standOne_35 {g : ab_E} {d : Nat} {a0 : Nat} {a1 : Nat} {a2 : Nat} {a3 : Int32} {a4 : Int32} {a5 : Int32} {a6 : Int32} {v : gd_D} {Q : ab_O → gd_D → Prop} (hd : 3 ≤ d) (h : wp_X6_standOne_35 g d a0 a1 a2 a3 a4 a5 a6 v Q) : gd_G g mX6_standOne d 0 0 35 [(0, zR 6 a0), (1, zR 2 a1), (2, zR 5 a2), (3, zI a3), (4, zI a4), (5, zI a5), (6, zI a6)] [] v Q := by
  unfold wp_X6_standOne_35 at h
  refine gd_iload 6 dX6_standOne_35 rfl ?_
  refine gd_aload_n 2 dX6_standOne_37 rfl rfl ?_
  refine gd_getI fX6_61 rfl dX6_standOne_38 ?_
  refine gd_icmp_ge (tgt := 130) dX6_standOne_41 (by decide) (fun hc => ?_) (fun hc => ?_)
  · have h := h.1 hc
    refine gd_locals [0, 3, 4, 5] rfl ?_
    exact w_X6_standOne_130 (by omega) h
  · have h := h.2 hc
    refine gd_iload 5 dX6_standOne_44 rfl ?_
    refine gd_if_le (tgt := 130) dX6_standOne_46 (by decide) (fun hc => ?_) (fun hc => ?_)
    · have h := h.1 hc
      refine gd_locals [0, 3, 4, 5] rfl ?_
      exact w_X6_standOne_130 (by omega) h
    · have h := h.2 hc
      refine gd_aload_n 2 dX6_standOne_49 rfl rfl ?_
      refine gd_getR (x := a2) (kr := 21) fX6_66 rfl rfl dX6_standOne_50 rfl ?_
      refine gd_iload 6 dX6_standOne_53 rfl ?_
      obtain ⟨hb, h⟩ := h
      refine gd_iaload (n := 24) (by decide) rfl dX6_standOne_55 rfl hb ?_
      refine gd_istore (L' := [(7, zI (v.1 21 a2 (a6 : Int32).toNatClampNeg)), (0, zR 6 a0), (1, zR 2 a1), (2, zR 5 a2), (3, zI a3), (4, zI a4), (5, zI a5), (6, zI a6)]) dX6_standOne_56 (by decide) rfl ?_
      refine gd_aload_n 2 dX6_standOne_58 rfl rfl ?_
      refine gd_getR (x := a1) (kr := 14) fX6_52 rfl rfl dX6_standOne_59 rfl ?_
      refine gd_iload 0 dX6_standOne_62 rfl ?_
      obtain ⟨hb, h⟩ := h
      refine gd_aaload (n := 24) (kr := 9) (y := 24 * a1 + (v.1 21 a2 (a6 : Int32).toNatClampNeg : Int32).toNatClampNeg) (by decide) rfl rfl dX6_standOne_64 rfl hb (if_pos (ab_inlt hb)) ?_
      refine gd_nmR (fun i1 ei1 => ?_)
      have h := h i1 ei1
      refine gd_getI fX6_76 rfl dX6_standOne_65 ?_
      refine gd_iload 5 dX6_standOne_68 rfl ?_
      refine gd_icmp_ne (tgt := 124) dX6_standOne_70 (by decide) (fun hc => ?_) (fun hc => ?_)
      · have h := h.1 hc
        refine gd_iinc (x9 := a6 + 1) (L' := [(6, zI (a6 + 1)), (7, zI (v.1 21 a2 (a6 : Int32).toNatClampNeg)), (0, zR 6 a0), (1, zR 2 a1), (2, zR 5 a2), (3, zI a3), (4, zI a4), (5, zI a5)]) 7 dX6_standOne_124 rfl rfl (by decide) rfl ?_
        refine gd_goto (tgt := 35) dX6_standOne_127 (by decide) ?_
        refine gd_locals [2, 3, 4, 5, 6, 7, 0] rfl ?_
        exact h
      · have h := h.2 hc
        refine gd_aload_n 1 dX6_standOne_73 rfl rfl ?_
        refine gd_getR (x := a0) (kr := 30) fX6_30 rfl rfl dX6_standOne_74 rfl ?_
        refine gd_iload 0 dX6_standOne_77 rfl ?_
        obtain ⟨hb, h⟩ := h
        refine gd_iaload (n := 24) (by decide) rfl dX6_standOne_79 rfl hb ?_
        refine gd_nmI (fun x2 ex2 => ?_)
        have h := h x2 ex2
        refine gd_if_le (tgt := 124) dX6_standOne_80 (by decide) (fun hc => ?_) (fun hc => ?_)
        · have h := h.1 hc
          refine gd_iinc (x9 := a6 + 1) (L' := [(6, zI (a6 + 1)), (7, zI (v.1 21 a2 (a6 : Int32).toNatClampNeg)), (0, zR 6 a0), (1, zR 2 a1), (2, zR 5 a2), (3, zI a3), (4, zI a4), (5, zI a5)]) 7 dX6_standOne_124 rfl rfl (by decide) rfl ?_
          refine gd_goto (tgt := 35) dX6_standOne_127 (by decide) ?_
          refine gd_locals [2, 3, 4, 5, 6, 7, 0] rfl ?_
          exact h
        · have h := h.2 hc
          refine gd_iload 6 dX6_standOne_83 rfl ?_
          refine gd_aload_n 1 dX6_standOne_85 rfl rfl ?_
          refine gd_getR (x := a0) (kr := 30) fX6_30 rfl rfl dX6_standOne_86 rfl ?_
          refine gd_iload 0 dX6_standOne_89 rfl ?_
          obtain ⟨hb, h⟩ := h
          refine gd_iaload (n := 24) (by decide) rfl dX6_standOne_91 rfl hb ?_
          refine gd_nmI (fun x3 ex3 => ?_)
          have h := h x3 ex3
          refine gd_callSI (As := [zI a5, zI x3]) (rest := []) (dy := 2) (my := 0) (sy := 0) lX6_79 tJ9_min_7cf53 dX6_standOne_92 rfl rfl (gd_room (by omega) (by decide)) (by decide) (Nat.le_of_ble_eq_true rfl) h (fun r5 v4 h => ?_)
          refine gd_istore (L' := [(8, zI r5), (7, zI (v.1 21 a2 (a6 : Int32).toNatClampNeg)), (0, zR 6 a0), (1, zR 2 a1), (2, zR 5 a2), (3, zI a3), (4, zI a4), (5, zI a5), (6, zI a6)]) dX6_standOne_95 (by decide) rfl ?_
          refine gd_aload_n 2 dX6_standOne_97 rfl rfl ?_
          refine gd_getR (x := a0) (kr := 30) fX6_30 rfl rfl dX6_standOne_98 rfl ?_
          refine gd_iload 1 dX6_standOne_101 rfl ?_
          refine gd_dup2_11 dX6_standOne_103 rfl rfl ?_
          obtain ⟨hb, h⟩ := h
          refine gd_iaload (n := 24) (by decide) rfl dX6_standOne_104 rfl hb ?_
          refine gd_nmI (fun x6 ex6 => ?_)
          have h := h x6 ex6
          refine gd_iload 0 dX6_standOne_105 rfl ?_
          refine gd_isub dX6_standOne_107 ?_
          obtain ⟨hb, h⟩ := h
          refine gd_iastoren (n := 24) (by decide) rfl rfl dX6_standOne_108 rfl hb (fun v7 ev7 => ?_)
          have h := h v7 ev7
          refine gd_iload 7 dX6_standOne_109 rfl ?_
          refine gd_iload 0 dX6_standOne_111 rfl ?_
          refine gd_isub dX6_standOne_113 ?_
          refine gd_istore (L' := [(5, zI (a5 - r5)), (8, zI r5), (7, zI (v.1 21 a2 (a6 : Int32).toNatClampNeg)), (0, zR 6 a0), (1, zR 2 a1), (2, zR 5 a2), (3, zI a3), (4, zI a4), (6, zI a6)]) dX6_standOne_114 (by decide) rfl ?_
          refine gd_aload_n 3 dX6_standOne_116 rfl rfl ?_
          refine gd_iload 2 dX6_standOne_117 rfl ?_
          refine gd_iload 1 dX6_standOne_119 rfl ?_
          refine gd_callVV (As := [zI (v.1 21 a2 (a6 : Int32).toNatClampNeg), zI r5]) (rest := []) (dy := 2) (my := 0) (sy := 0) (k := 6) (i := a0) lX6_85 iX6_add sX6_add rfl dX6_standOne_121 rfl rfl (gd_room (by omega) (by decide)) (by decide) (Nat.le_of_ble_eq_true rfl) h (fun v8 h => ?_)
          refine gd_iinc (x9 := a6 + 1) (L' := [(6, zI (a6 + 1)), (5, zI (a5 - r5)), (8, zI r5), (7, zI (v.1 21 a2 (a6 : Int32).toNatClampNeg)), (0, zR 6 a0), (1, zR 2 a1), (2, zR 5 a2), (3, zI a3), (4, zI a4)]) 8 dX6_standOne_124 rfl rfl (by decide) rfl ?_
          refine gd_goto (tgt := 35) dX6_standOne_127 (by decide) ?_
          refine gd_locals [4, 5, 6, 7, 8, 1, 0] rfl ?_
          exact h
theorem c_X6_standOne {g : ab_E} {d : Nat} {a0 : Nat} {a1 : Nat} {a2 : Nat} {a3 : Int32} {v : gd_D} {Q : ab_O → gd_D → Prop} (hd : 0 ≤ d) (h : wp_X6_standOne g d a0 a1 a2 a3 v Q) : gd_C g mX6_standOne d 0 0 [zR 6 a0, zR 2 a1, zR 5 a2, zI a3] v Q := gd_enterF (plainFor_of_name (by decide)) (Nat.le_of_ble_eq_true rfl) rfl (w_X6_standOne hd h)
def wp_X6_add (g : ab_E) (d : Nat) (a0 : Nat) (a1 : Int32) (a2 : Int32) (v : gd_D) (Q : ab_O → gd_D → Prop) : Prop :=
  (((48 : Int32) ≤ (v.1 6 a0 7)) →
    Q (Sum.inl none) v) ∧
  ((¬ (48 : Int32) ≤ (v.1 6 a0 7)) →
    vp_in (v.1 6 a0 7) 48 ∧
    ∀ v1 : gd_D, v1 = gd_sI v 26 a0 ((v.1 6 a0 7 : Int32).toNatClampNeg) a1 →
    vp_in (v1.1 6 a0 7) 48 ∧
    ∀ v2 : gd_D, v2 = gd_sI v1 27 a0 ((v1.1 6 a0 7 : Int32).toNatClampNeg) a2 →
    vp_in (v2.1 6 a0 7) 48 ∧
    ∀ v3 : gd_D, v3 = gd_sI v2 29 a0 ((v2.1 6 a0 7 : Int32).toNatClampNeg) a2 →
    ∀ v4 : gd_D, v4 = gd_sI v3 6 a0 7 ((v3.1 6 a0 7) + 1) →
    Q (Sum.inl none) v4)
theorem w_X6_add {g : ab_E} {d : Nat} {a0 : Nat} {a1 : Int32} {a2 : Int32} {v : gd_D} {Q : ab_O → gd_D → Prop} (hd : 0 ≤ d) (h : wp_X6_add g d a0 a1 a2 v Q) : gd_G g mX6_add d 0 0 0 [(0, zR 6 a0), (1, zI a1), (2, zI a2)] [] v Q := by
  unfold wp_X6_add at h
  refine gd_aload_n 0 dX6_add_0 rfl rfl ?_
  refine gd_getI fX6_33 rfl dX6_add_1 ?_
  refine gd_bipush (x9 := 48) dX6_add_4 (by decide) ?_
  refine gd_icmp_ge (tgt := 49) dX6_add_6 (by decide) (fun hc => ?_) (fun hc => ?_)
  · have h := h.1 hc
    exact gd_vret dX6_add_49 rfl h
  · have h := h.2 hc
    refine gd_aload_n 0 dX6_add_9 rfl rfl ?_
    refine gd_getR (x := a0) (kr := 26) fX6_18 rfl rfl dX6_add_10 rfl ?_
    refine gd_aload_n 0 dX6_add_13 rfl rfl ?_
    refine gd_getI fX6_33 rfl dX6_add_14 ?_
    refine gd_iload_n 1 dX6_add_17 rfl rfl ?_
    obtain ⟨hb, h⟩ := h
    refine gd_iastoren (n := 48) (by decide) rfl rfl dX6_add_18 rfl hb (fun v1 ev1 => ?_)
    have h := h v1 ev1
    refine gd_aload_n 0 dX6_add_19 rfl rfl ?_
    refine gd_getR (x := a0) (kr := 27) fX6_21 rfl rfl dX6_add_20 rfl ?_
    refine gd_aload_n 0 dX6_add_23 rfl rfl ?_
    refine gd_getI fX6_33 rfl dX6_add_24 ?_
    refine gd_iload_n 2 dX6_add_27 rfl rfl ?_
    obtain ⟨hb, h⟩ := h
    refine gd_iastoren (n := 48) (by decide) rfl rfl dX6_add_28 rfl hb (fun v2 ev2 => ?_)
    have h := h v2 ev2
    refine gd_aload_n 0 dX6_add_29 rfl rfl ?_
    refine gd_getR (x := a0) (kr := 29) fX6_27 rfl rfl dX6_add_30 rfl ?_
    refine gd_aload_n 0 dX6_add_33 rfl rfl ?_
    refine gd_getI fX6_33 rfl dX6_add_34 ?_
    refine gd_iload_n 2 dX6_add_37 rfl rfl ?_
    obtain ⟨hb, h⟩ := h
    refine gd_iastoren (n := 48) (by decide) rfl rfl dX6_add_38 rfl hb (fun v3 ev3 => ?_)
    have h := h v3 ev3
    refine gd_aload_n 0 dX6_add_39 rfl rfl ?_
    refine gd_dup dX6_add_40 rfl ?_
    refine gd_getI fX6_33 rfl dX6_add_41 ?_
    refine gd_iconst (x9 := 1) dX6_add_44 (by decide) ?_
    refine gd_iadd dX6_add_45 ?_
    refine gd_putIn fX6_33 rfl rfl dX6_add_46 (fun v4 ev4 => ?_)
    have h := h v4 ev4
    exact gd_vret dX6_add_49 rfl h
theorem c_X6_add {g : ab_E} {d : Nat} {a0 : Nat} {a1 : Int32} {a2 : Int32} {v : gd_D} {Q : ab_O → gd_D → Prop} (hd : 0 ≤ d) (h : wp_X6_add g d a0 a1 a2 v Q) : gd_C g mX6_add d 0 0 [zR 6 a0, zI a1, zI a2] v Q := gd_enterF (plainFor_of_name (by decide)) (Nat.le_of_ble_eq_true rfl) rfl (w_X6_add hd h)
def wp_X6_linkOf (g : ab_E) (d : Nat) (a0 : Nat) (a1 : Int32) (a2 : Int32) (v : gd_D) (Q : ab_O → gd_D → Prop) : Prop :=
  gd_G g mX6_linkOf d 0 0 10 [(0, zR 6 a0), (2, zI a2), (3, zI a1), (4, zI (1 <<< (a1 &&& 31))), (5, zI 0)] [] v Q
theorem w_X6_linkOf {g : ab_E} {d : Nat} {a0 : Nat} {a1 : Int32} {a2 : Int32} {v : gd_D} {Q : ab_O → gd_D → Prop} (hd : 0 ≤ d) (h : wp_X6_linkOf g d a0 a1 a2 v Q) : gd_G g mX6_linkOf d 0 0 0 [(0, zR 6 a0), (1, zI a1), (2, zI a2)] [] v Q := by
  unfold wp_X6_linkOf at h
  refine gd_iload_n 1 dX6_linkOf_0 rfl rfl ?_
  refine gd_istore_n (L' := [(3, zI a1), (0, zR 6 a0), (1, zI a1), (2, zI a2)]) dX6_linkOf_1 rfl (by decide) rfl ?_
  refine gd_iconst (x9 := 1) dX6_linkOf_2 (by decide) ?_
  refine gd_iload_n 2 dX6_linkOf_3 rfl rfl ?_
  refine gd_ishl dX6_linkOf_4 ?_
  refine gd_istore (L' := [(4, zI (1 <<< (a1 &&& 31))), (3, zI a1), (0, zR 6 a0), (1, zI a1), (2, zI a2)]) dX6_linkOf_5 (by decide) rfl ?_
  refine gd_iconst (x9 := 0) dX6_linkOf_7 (by decide) ?_
  refine gd_istore (L' := [(5, zI 0), (4, zI (1 <<< (a1 &&& 31))), (3, zI a1), (0, zR 6 a0), (1, zI a1), (2, zI a2)]) dX6_linkOf_8 (by decide) rfl ?_
  refine gd_locals [3, 5, 2, 1, 0] rfl ?_
  exact h
def wp_X6_linkOf_10 (g : ab_E) (d : Nat) (a0 : Nat) (a2 : Int32) (a3 : Int32) (a4 : Int32) (a5 : Int32) (v : gd_D) (Q : ab_O → gd_D → Prop) : Prop :=
  (((a2 : Int32) ≤ a5) →
    Q (Sum.inl (some (zI a3))) v) ∧
  ((¬ (a2 : Int32) ≤ a5) →
    (((24 : Int32) ≤ a5) →
      Q (Sum.inl (some (zI a3))) v) ∧
    ((¬ (24 : Int32) ≤ a5) →
      vp_in a3 24 ∧
      ((¬ (v.1 25 a0 (a3 : Int32).toNatClampNeg : Int32) = 0) →
        vp_in a3 24 ∧
        vp_in (v.1 24 a0 (a3 : Int32).toNatClampNeg) 48 ∧
        ∀ x1 : Int32, x1 = v.1 26 a0 (v.1 24 a0 (a3 : Int32).toNatClampNeg : Int32).toNatClampNeg →
        ((((a4 >>> (x1 &&& 31)) &&& 1 : Int32) = 0) →
          gd_G g mX6_linkOf d 0 0 10 [(0, zR 6 a0), (2, zI a2), (3, zI x1), (4, zI (a4 ||| (1 <<< (x1 &&& 31)))), (5, zI (a5 + 1))] [] v Q) ∧
        ((¬ ((a4 >>> (x1 &&& 31)) &&& 1 : Int32) = 0) →
          Q (Sum.inl (some (zI (-1)))) v)) ∧
      (((v.1 25 a0 (a3 : Int32).toNatClampNeg : Int32) = 0) →
        Q (Sum.inl (some (zI (-1)))) v)))
theorem w_X6_linkOf_10 {g : ab_E} {d : Nat} {a0 : Nat} {a2 : Int32} {a3 : Int32} {a4 : Int32} {a5 : Int32} {v : gd_D} {Q : ab_O → gd_D → Prop} (hd : 0 ≤ d) (h : wp_X6_linkOf_10 g d a0 a2 a3 a4 a5 v Q) : gd_G g mX6_linkOf d 0 0 10 [(0, zR 6 a0), (2, zI a2), (3, zI a3), (4, zI a4), (5, zI a5)] [] v Q := by
  unfold wp_X6_linkOf_10 at h
  refine gd_iload 4 dX6_linkOf_10 rfl ?_
  refine gd_iload_n 1 dX6_linkOf_12 rfl rfl ?_
  refine gd_icmp_ge (tgt := 71) dX6_linkOf_13 (by decide) (fun hc => ?_) (fun hc => ?_)
  · have h := h.1 hc
    refine gd_iload_n 2 dX6_linkOf_71 rfl rfl ?_
    exact gd_iret (ty := .int) dX6_linkOf_72 rfl rfl h
  · have h := h.2 hc
    refine gd_iload 4 dX6_linkOf_16 rfl ?_
    refine gd_bipush (x9 := 24) dX6_linkOf_18 (by decide) ?_
    refine gd_icmp_ge (tgt := 71) dX6_linkOf_20 (by decide) (fun hc => ?_) (fun hc => ?_)
    · have h := h.1 hc
      refine gd_iload_n 2 dX6_linkOf_71 rfl rfl ?_
      exact gd_iret (ty := .int) dX6_linkOf_72 rfl rfl h
    · have h := h.2 hc
      refine gd_aload_n 0 dX6_linkOf_23 rfl rfl ?_
      refine gd_getR (x := a0) (kr := 25) fX6_15 rfl rfl dX6_linkOf_24 rfl ?_
      refine gd_iload_n 2 dX6_linkOf_27 rfl rfl ?_
      obtain ⟨hb, h⟩ := h
      refine gd_iaload (n := 24) (by decide) rfl dX6_linkOf_28 rfl hb ?_
      refine gd_if_ne (tgt := 34) dX6_linkOf_29 (by decide) (fun hc => ?_) (fun hc => ?_)
      · have h := h.1 hc
        refine gd_aload_n 0 dX6_linkOf_34 rfl rfl ?_
        refine gd_getR (x := a0) (kr := 26) fX6_18 rfl rfl dX6_linkOf_35 rfl ?_
        refine gd_aload_n 0 dX6_linkOf_38 rfl rfl ?_
        refine gd_getR (x := a0) (kr := 24) fX6_9 rfl rfl dX6_linkOf_39 rfl ?_
        refine gd_iload_n 2 dX6_linkOf_42 rfl rfl ?_
        obtain ⟨hb, h⟩ := h
        refine gd_iaload (n := 24) (by decide) rfl dX6_linkOf_43 rfl hb ?_
        obtain ⟨hb, h⟩ := h
        refine gd_iaload (n := 48) (by decide) rfl dX6_linkOf_44 rfl hb ?_
        refine gd_nmI (fun x1 ex1 => ?_)
        have h := h x1 ex1
        refine gd_istore_n (L' := [(3, zI x1), (0, zR 6 a0), (2, zI a2), (4, zI a4), (5, zI a5)]) dX6_linkOf_45 rfl (by decide) rfl ?_
        refine gd_iload 3 dX6_linkOf_46 rfl ?_
        refine gd_iload_n 0 dX6_linkOf_48 rfl rfl ?_
        refine gd_ishr dX6_linkOf_49 ?_
        refine gd_iconst (x9 := 1) dX6_linkOf_50 (by decide) ?_
        refine gd_iand dX6_linkOf_51 ?_
        refine gd_if_eq (tgt := 57) dX6_linkOf_52 (by decide) (fun hc => ?_) (fun hc => ?_)
        · have h := h.1 hc
          refine gd_iload 3 dX6_linkOf_57 rfl ?_
          refine gd_iconst (x9 := 1) dX6_linkOf_59 (by decide) ?_
          refine gd_iload_n 0 dX6_linkOf_60 rfl rfl ?_
          refine gd_ishl dX6_linkOf_61 ?_
          refine gd_ior dX6_linkOf_62 ?_
          refine gd_istore (L' := [(4, zI (a4 ||| (1 <<< (x1 &&& 31)))), (3, zI x1), (0, zR 6 a0), (2, zI a2), (5, zI a5)]) dX6_linkOf_63 (by decide) rfl ?_
          refine gd_iinc (x9 := a5 + 1) (L' := [(5, zI (a5 + 1)), (4, zI (a4 ||| (1 <<< (x1 &&& 31)))), (3, zI x1), (0, zR 6 a0), (2, zI a2)]) 4 dX6_linkOf_65 rfl rfl (by decide) rfl ?_
          refine gd_goto (tgt := 10) dX6_linkOf_68 (by decide) ?_
          refine gd_locals [3, 4, 2, 1, 0] rfl ?_
          exact h
        · have h := h.2 hc
          refine gd_iconst (x9 := (-1)) dX6_linkOf_55 (by decide) ?_
          exact gd_iret (ty := .int) dX6_linkOf_56 rfl rfl h
      · have h := h.2 hc
        refine gd_iconst (x9 := (-1)) dX6_linkOf_32 (by decide) ?_
        exact gd_iret (ty := .int) dX6_linkOf_33 rfl rfl h
theorem c_X6_linkOf {g : ab_E} {d : Nat} {a0 : Nat} {a1 : Int32} {a2 : Int32} {v : gd_D} {Q : ab_O → gd_D → Prop} (hd : 0 ≤ d) (h : wp_X6_linkOf g d a0 a1 a2 v Q) : gd_C g mX6_linkOf d 0 0 [zR 6 a0, zI a1, zI a2] v Q := gd_enterF (plainFor_of_name (by decide)) (Nat.le_of_ble_eq_true rfl) rfl (w_X6_linkOf hd h)
def wp_X6_buyIn (g : ab_E) (d : Nat) (a0 : Nat) (a1 : Nat) (a2 : Nat) (a3 : Int32) (a4 : Int32) (v : gd_D) (Q : ab_O → gd_D → Prop) : Prop :=
  gd_C g mX6_stand 4 0 0 [zR 6 a0, zR 2 a1, zR 5 a2] v (gd_rV (fun v1 =>
    gd_C g mX2_buyOutside 2 0 0 [zR 2 a1, zI a3, zI a4] v1 (gd_rV (fun v3 =>
      gd_C g mX6_closeDown 40 0 0 [zR 6 a0, zR 2 a1, zI a3, zI a4, zI 0, zI 0] v3 (gd_rV (fun v5 =>
        Q (Sum.inl none) v5) (fun E v9 => Q (Sum.inr E) v9))) (fun E v9 => Q (Sum.inr E) v9))) (fun E v9 => Q (Sum.inr E) v9))
theorem w_X6_buyIn {g : ab_E} {d : Nat} {a0 : Nat} {a1 : Nat} {a2 : Nat} {a3 : Int32} {a4 : Int32} {v : gd_D} {Q : ab_O → gd_D → Prop} (hd : 41 ≤ d) (h : wp_X6_buyIn g d a0 a1 a2 a3 a4 v Q) : gd_G g mX6_buyIn d 0 0 0 [(0, zR 6 a0), (1, zR 2 a1), (2, zR 5 a2), (3, zI a3), (4, zI a4)] [] v Q := by
  unfold wp_X6_buyIn at h
  refine gd_aload_n 0 dX6_buyIn_0 rfl rfl ?_
  refine gd_aload_n 1 dX6_buyIn_1 rfl rfl ?_
  refine gd_aload_n 2 dX6_buyIn_2 rfl rfl ?_
  refine gd_callVV (As := [zR 2 a1, zR 5 a2]) (rest := []) (dy := 4) (my := 0) (sy := 0) (k := 6) (i := a0) lX6_89 iX6_stand sX6_stand rfl dX6_buyIn_3 rfl rfl (gd_room (by omega) (by decide)) (by decide) (Nat.le_of_ble_eq_true rfl) h (fun v1 h => ?_)
  refine gd_aload_n 1 dX6_buyIn_6 rfl rfl ?_
  refine gd_iload_n 3 dX6_buyIn_7 rfl rfl ?_
  refine gd_iload 4 dX6_buyIn_8 rfl ?_
  refine gd_callVV (As := [zI a3, zI a4]) (rest := []) (dy := 2) (my := 0) (sy := 0) (k := 2) (i := a1) lX6_93 iX2_buyOutside sX2_buyOutside rfl dX6_buyIn_10 rfl rfl (gd_room (by omega) (by decide)) (by decide) (Nat.le_of_ble_eq_true rfl) h (fun v3 h => ?_)
  refine gd_aload_n 0 dX6_buyIn_13 rfl rfl ?_
  refine gd_aload_n 1 dX6_buyIn_14 rfl rfl ?_
  refine gd_iload_n 3 dX6_buyIn_15 rfl rfl ?_
  refine gd_iload 4 dX6_buyIn_16 rfl ?_
  refine gd_iconst (x9 := 0) dX6_buyIn_18 (by decide) ?_
  refine gd_iconst (x9 := 0) dX6_buyIn_19 (by decide) ?_
  refine gd_callVV (As := [zR 2 a1, zI a3, zI a4, zI 0, zI 0]) (rest := []) (dy := 40) (my := 0) (sy := 0) (k := 6) (i := a0) lX6_96 iX6_closeDown sX6_closeDown rfl dX6_buyIn_20 rfl rfl (gd_room (by omega) (by decide)) (by decide) (Nat.le_of_ble_eq_true rfl) h (fun v5 h => ?_)
  exact gd_vret dX6_buyIn_23 rfl h
theorem c_X6_buyIn {g : ab_E} {d : Nat} {a0 : Nat} {a1 : Nat} {a2 : Nat} {a3 : Int32} {a4 : Int32} {v : gd_D} {Q : ab_O → gd_D → Prop} (hd : 41 ≤ d) (h : wp_X6_buyIn g d a0 a1 a2 a3 a4 v Q) : gd_C g mX6_buyIn d 0 0 [zR 6 a0, zR 2 a1, zR 5 a2, zI a3, zI a4] v Q := gd_enterF (plainFor_of_name (by decide)) (Nat.le_of_ble_eq_true rfl) rfl (w_X6_buyIn hd h)
def wp_X6_closeDown (g : ab_E) (d : Nat) (e : Nat) (a0 : Nat) (a1 : Nat) (a2 : Int32) (a3 : Int32) (a4 : Int32) (a5 : Int32) (v : gd_D) (Q : ab_O → gd_D → Prop) : Prop :=
  (((a5 : Int32) < 24) →
    gd_C g mX2_close 3 0 0 [zR 2 a1, zI a2, zI a3] v (gd_rV (fun v1 =>
      vp_in a2 24 ∧
      vp_in a2 24 ∧
      ∀ x3 : Int32, x3 = (v1.1 24 a0 (a2 : Int32).toNatClampNeg) + (v1.1 25 a0 (a2 : Int32).toNatClampNeg) →
      vp_in a2 24 ∧
      gd_G g mX6_closeDown d 0 0 48 [(0, zR 6 a0), (1, zR 2 a1), (5, zI a5), (6, zI (a4 ||| (1 <<< (a2 &&& 31)))), (7, zI a3), (8, zI x3), (9, zI (v1.1 24 a0 (a2 : Int32).toNatClampNeg))] [] v1 Q) (fun E v9 => Q (Sum.inr E) v9))) ∧
  ((¬ (a5 : Int32) < 24) →
    Q (Sum.inl none) v)
theorem w_X6_closeDown {g : ab_E} {d : Nat} {e : Nat} {a0 : Nat} {a1 : Nat} {a2 : Int32} {a3 : Int32} {a4 : Int32} {a5 : Int32} {v : gd_D} {Q : ab_O → gd_D → Prop} (he : e + 1 ≤ d) (hd : 4 ≤ d) (h : wp_X6_closeDown g d e a0 a1 a2 a3 a4 a5 v Q) : gd_G g mX6_closeDown d 0 0 0 [(0, zR 6 a0), (1, zR 2 a1), (2, zI a2), (3, zI a3), (4, zI a4), (5, zI a5)] [] v Q := by
  unfold wp_X6_closeDown at h
  refine gd_iload 5 dX6_closeDown_0 rfl ?_
  refine gd_bipush (x9 := 24) dX6_closeDown_2 (by decide) ?_
  refine gd_icmp_lt (tgt := 8) dX6_closeDown_4 (by decide) (fun hc => ?_) (fun hc => ?_)
  · have h := h.1 hc
    refine gd_aload_n 1 dX6_closeDown_8 rfl rfl ?_
    refine gd_iload_n 2 dX6_closeDown_9 rfl rfl ?_
    refine gd_iload_n 3 dX6_closeDown_10 rfl rfl ?_
    refine gd_callVV (As := [zI a2, zI a3]) (rest := []) (dy := 3) (my := 0) (sy := 0) (k := 2) (i := a1) lX6_100 iX2_close sX2_close rfl dX6_closeDown_11 rfl rfl (gd_room (by omega) (by decide)) (by decide) (Nat.le_of_ble_eq_true rfl) h (fun v1 h => ?_)
    refine gd_iload 4 dX6_closeDown_14 rfl ?_
    refine gd_iconst (x9 := 1) dX6_closeDown_16 (by decide) ?_
    refine gd_iload_n 2 dX6_closeDown_17 rfl rfl ?_
    refine gd_ishl dX6_closeDown_18 ?_
    refine gd_ior dX6_closeDown_19 ?_
    refine gd_istore (L' := [(6, zI (a4 ||| (1 <<< (a2 &&& 31)))), (0, zR 6 a0), (1, zR 2 a1), (2, zI a2), (3, zI a3), (4, zI a4), (5, zI a5)]) dX6_closeDown_20 (by decide) rfl ?_
    refine gd_iload_n 4 dX6_closeDown_22 rfl rfl ?_
    refine gd_istore (L' := [(7, zI a3), (6, zI (a4 ||| (1 <<< (a2 &&& 31)))), (0, zR 6 a0), (1, zR 2 a1), (2, zI a2), (3, zI a3), (4, zI a4), (5, zI a5)]) dX6_closeDown_23 (by decide) rfl ?_
    refine gd_aload_n 2 dX6_closeDown_25 rfl rfl ?_
    refine gd_getR (x := a0) (kr := 24) fX6_9 rfl rfl dX6_closeDown_26 rfl ?_
    refine gd_iload_n 4 dX6_closeDown_29 rfl rfl ?_
    obtain ⟨hb, h⟩ := h
    refine gd_iaload (n := 24) (by decide) rfl dX6_closeDown_30 rfl hb ?_
    refine gd_aload_n 2 dX6_closeDown_31 rfl rfl ?_
    refine gd_getR (x := a0) (kr := 25) fX6_15 rfl rfl dX6_closeDown_32 rfl ?_
    refine gd_iload_n 4 dX6_closeDown_35 rfl rfl ?_
    obtain ⟨hb, h⟩ := h
    refine gd_iaload (n := 24) (by decide) rfl dX6_closeDown_36 rfl hb ?_
    refine gd_iadd dX6_closeDown_37 ?_
    refine gd_nmI (fun x3 ex3 => ?_)
    have h := h x3 ex3
    refine gd_istore (L' := [(8, zI x3), (7, zI a3), (6, zI (a4 ||| (1 <<< (a2 &&& 31)))), (0, zR 6 a0), (1, zR 2 a1), (2, zI a2), (3, zI a3), (4, zI a4), (5, zI a5)]) dX6_closeDown_38 (by decide) rfl ?_
    refine gd_aload_n 3 dX6_closeDown_40 rfl rfl ?_
    refine gd_getR (x := a0) (kr := 24) fX6_9 rfl rfl dX6_closeDown_41 rfl ?_
    refine gd_iload_n 5 dX6_closeDown_44 rfl rfl ?_
    obtain ⟨hb, h⟩ := h
    refine gd_iaload (n := 24) (by decide) rfl dX6_closeDown_45 rfl hb ?_
    refine gd_istore (L' := [(9, zI (v1.1 24 a0 (a2 : Int32).toNatClampNeg)), (8, zI x3), (7, zI a3), (6, zI (a4 ||| (1 <<< (a2 &&& 31)))), (0, zR 6 a0), (1, zR 2 a1), (2, zI a2), (3, zI a3), (4, zI a4), (5, zI a5)]) dX6_closeDown_46 (by decide) rfl ?_
    refine gd_locals [4, 5, 9, 3, 2, 1, 0] rfl ?_
    exact h
  · have h := h.2 hc
    exact gd_vret dX6_closeDown_7 rfl h
def wp_X6_closeDown_48 (g : ab_E) (d : Nat) (e : Nat) (a0 : Nat) (a1 : Nat) (a5 : Int32) (a6 : Int32) (a7 : Int32) (a8 : Int32) (a9 : Int32) (v : gd_D) (Q : ab_O → gd_D → Prop) : Prop :=
  (((a8 : Int32) ≤ a9) →
    Q (Sum.inl none) v) ∧
  ((¬ (a8 : Int32) ≤ a9) →
    (((a7 : Int32) ≤ 0) →
      Q (Sum.inl none) v) ∧
    ((¬ (a7 : Int32) ≤ 0) →
      vp_in a9 48 ∧
      gd_C g mJ9_min_7cf53 2 0 0 [zI a7, zI (v.1 29 a0 (a9 : Int32).toNatClampNeg)] v (gd_rI (fun (r2 : Int32) v1 =>
        (((r2 : Int32) ≤ 0) →
          gd_G g mX6_closeDown d 0 0 48 [(0, zR 6 a0), (1, zR 2 a1), (5, zI a5), (6, zI a6), (7, zI a7), (8, zI a8), (9, zI (a9 + 1))] [] v1 Q) ∧
        ((¬ (r2 : Int32) ≤ 0) →
          vp_in a9 48 ∧
          ∀ x3 : Int32, x3 = a6 >>> ((v1.1 26 a0 (a9 : Int32).toNatClampNeg) &&& 31) →
          ((¬ (x3 &&& 1 : Int32) = 0) →
            gd_G g mX6_closeDown d 0 0 48 [(0, zR 6 a0), (1, zR 2 a1), (5, zI a5), (6, zI a6), (7, zI a7), (8, zI a8), (9, zI (a9 + 1))] [] v1 Q) ∧
          (((x3 &&& 1 : Int32) = 0) →
            vp_in a9 48 ∧
            vp_in a9 48 ∧
            ∀ v4 : gd_D, v4 = gd_sI v1 29 a0 ((a9 : Int32).toNatClampNeg) ((v1.1 29 a0 (a9 : Int32).toNatClampNeg) - r2) →
            vp_in a9 48 ∧
            gd_C g mX6_closeDown e 0 0 [zR 6 a0, zR 2 a1, zI (v4.1 26 a0 (a9 : Int32).toNatClampNeg), zI r2, zI a6, zI (a5 + 1)] v4 (gd_rV (fun v5 =>
              gd_G g mX6_closeDown d 0 0 48 [(0, zR 6 a0), (1, zR 2 a1), (5, zI a5), (6, zI a6), (7, zI (a7 - r2)), (8, zI a8), (9, zI (a9 + 1))] [] v5 Q) (fun E v9 => Q (Sum.inr E) v9))))) (fun E v9 => Q (Sum.inr E) v9))))
theorem w_X6_closeDown_48 {g : ab_E} {d : Nat} {e : Nat} {a0 : Nat} {a1 : Nat} {a5 : Int32} {a6 : Int32} {a7 : Int32} {a8 : Int32} {a9 : Int32} {v : gd_D} {Q : ab_O → gd_D → Prop} (he : e + 1 ≤ d) (hd : 3 ≤ d) (h : wp_X6_closeDown_48 g d e a0 a1 a5 a6 a7 a8 a9 v Q) : gd_G g mX6_closeDown d 0 0 48 [(0, zR 6 a0), (1, zR 2 a1), (5, zI a5), (6, zI a6), (7, zI a7), (8, zI a8), (9, zI a9)] [] v Q := by
  unfold wp_X6_closeDown_48 at h
  refine gd_iload 6 dX6_closeDown_48 rfl ?_
  refine gd_iload 5 dX6_closeDown_50 rfl ?_
  refine gd_icmp_ge (tgt := 139) dX6_closeDown_52 (by decide) (fun hc => ?_) (fun hc => ?_)
  · have h := h.1 hc
    exact gd_vret dX6_closeDown_139 rfl h
  · have h := h.2 hc
    refine gd_iload 4 dX6_closeDown_55 rfl ?_
    refine gd_if_le (tgt := 139) dX6_closeDown_57 (by decide) (fun hc => ?_) (fun hc => ?_)
    · have h := h.1 hc
      exact gd_vret dX6_closeDown_139 rfl h
    · have h := h.2 hc
      refine gd_iload 4 dX6_closeDown_60 rfl ?_
      refine gd_aload_n 0 dX6_closeDown_62 rfl rfl ?_
      refine gd_getR (x := a0) (kr := 29) fX6_27 rfl rfl dX6_closeDown_63 rfl ?_
      refine gd_iload 6 dX6_closeDown_66 rfl ?_
      obtain ⟨hb, h⟩ := h
      refine gd_iaload (n := 48) (by decide) rfl dX6_closeDown_68 rfl hb ?_
      refine gd_callSI (As := [zI a7, zI (v.1 29 a0 (a9 : Int32).toNatClampNeg)]) (rest := []) (dy := 2) (my := 0) (sy := 0) lX6_79 tJ9_min_7cf53 dX6_closeDown_69 rfl rfl (gd_room (by omega) (by decide)) (by decide) (Nat.le_of_ble_eq_true rfl) h (fun r2 v1 h => ?_)
      refine gd_istore (L' := [(10, zI r2), (0, zR 6 a0), (1, zR 2 a1), (5, zI a5), (6, zI a6), (7, zI a7), (8, zI a8), (9, zI a9)]) dX6_closeDown_72 (by decide) rfl ?_
      refine gd_iload 0 dX6_closeDown_74 rfl ?_
      refine gd_if_le (tgt := 133) dX6_closeDown_76 (by decide) (fun hc => ?_) (fun hc => ?_)
      · have h := h.1 hc
        refine gd_iinc (x9 := a9 + 1) (L' := [(9, zI (a9 + 1)), (10, zI r2), (0, zR 6 a0), (1, zR 2 a1), (5, zI a5), (6, zI a6), (7, zI a7), (8, zI a8)]) 7 dX6_closeDown_133 rfl rfl (by decide) rfl ?_
        refine gd_goto (tgt := 48) dX6_closeDown_136 (by decide) ?_
        refine gd_locals [2, 3, 4, 5, 6, 7, 0] rfl ?_
        exact h
      · have h := h.2 hc
        refine gd_iload 4 dX6_closeDown_79 rfl ?_
        refine gd_aload_n 1 dX6_closeDown_81 rfl rfl ?_
        refine gd_getR (x := a0) (kr := 26) fX6_18 rfl rfl dX6_closeDown_82 rfl ?_
        refine gd_iload 7 dX6_closeDown_85 rfl ?_
        obtain ⟨hb, h⟩ := h
        refine gd_iaload (n := 48) (by decide) rfl dX6_closeDown_87 rfl hb ?_
        refine gd_ishr dX6_closeDown_88 ?_
        refine gd_nmI (fun x3 ex3 => ?_)
        have h := h x3 ex3
        refine gd_iconst (x9 := 1) dX6_closeDown_89 (by decide) ?_
        refine gd_iand dX6_closeDown_90 ?_
        refine gd_if_ne (tgt := 133) dX6_closeDown_91 (by decide) (fun hc => ?_) (fun hc => ?_)
        · have h := h.1 hc
          refine gd_iinc (x9 := a9 + 1) (L' := [(9, zI (a9 + 1)), (10, zI r2), (0, zR 6 a0), (1, zR 2 a1), (5, zI a5), (6, zI a6), (7, zI a7), (8, zI a8)]) 7 dX6_closeDown_133 rfl rfl (by decide) rfl ?_
          refine gd_goto (tgt := 48) dX6_closeDown_136 (by decide) ?_
          refine gd_locals [2, 3, 4, 5, 6, 7, 0] rfl ?_
          exact h
        · have h := h.2 hc
          refine gd_aload_n 1 dX6_closeDown_94 rfl rfl ?_
          refine gd_getR (x := a0) (kr := 29) fX6_27 rfl rfl dX6_closeDown_95 rfl ?_
          refine gd_iload 7 dX6_closeDown_98 rfl ?_
          refine gd_dup2_11 dX6_closeDown_100 rfl rfl ?_
          obtain ⟨hb, h⟩ := h
          refine gd_iaload (n := 48) (by decide) rfl dX6_closeDown_101 rfl hb ?_
          refine gd_iload 0 dX6_closeDown_102 rfl ?_
          refine gd_isub dX6_closeDown_104 ?_
          obtain ⟨hb, h⟩ := h
          refine gd_iastoren (n := 48) (by decide) rfl rfl dX6_closeDown_105 rfl hb (fun v4 ev4 => ?_)
          have h := h v4 ev4
          refine gd_iload 5 dX6_closeDown_106 rfl ?_
          refine gd_iload 0 dX6_closeDown_108 rfl ?_
          refine gd_isub dX6_closeDown_110 ?_
          refine gd_istore (L' := [(7, zI (a7 - r2)), (10, zI r2), (0, zR 6 a0), (1, zR 2 a1), (5, zI a5), (6, zI a6), (8, zI a8), (9, zI a9)]) dX6_closeDown_111 (by decide) rfl ?_
          refine gd_aload_n 2 dX6_closeDown_113 rfl rfl ?_
          refine gd_aload_n 3 dX6_closeDown_114 rfl rfl ?_
          refine gd_aload_n 2 dX6_closeDown_115 rfl rfl ?_
          refine gd_getR (x := a0) (kr := 26) fX6_18 rfl rfl dX6_closeDown_116 rfl ?_
          refine gd_iload 7 dX6_closeDown_119 rfl ?_
          obtain ⟨hb, h⟩ := h
          refine gd_iaload (n := 48) (by decide) rfl dX6_closeDown_121 rfl hb ?_
          refine gd_iload 1 dX6_closeDown_122 rfl ?_
          refine gd_iload 5 dX6_closeDown_124 rfl ?_
          refine gd_iload 4 dX6_closeDown_126 rfl ?_
          refine gd_iconst (x9 := 1) dX6_closeDown_128 (by decide) ?_
          refine gd_iadd dX6_closeDown_129 ?_
          refine gd_callVV (As := [zR 2 a1, zI (v4.1 26 a0 (a9 : Int32).toNatClampNeg), zI r2, zI a6, zI (a5 + 1)]) (rest := []) (dy := e) (my := 0) (sy := 0) (k := 6) (i := a0) lX6_96 iX6_closeDown sX6_closeDown rfl dX6_closeDown_130 rfl rfl (gd_room he (by decide)) (by decide) (Nat.le_of_ble_eq_true rfl) h (fun v5 h => ?_)
          refine gd_iinc (x9 := a9 + 1) (L' := [(9, zI (a9 + 1)), (7, zI (a7 - r2)), (10, zI r2), (0, zR 6 a0), (1, zR 2 a1), (5, zI a5), (6, zI a6), (8, zI a8)]) 7 dX6_closeDown_133 rfl rfl (by decide) rfl ?_
          refine gd_goto (tgt := 48) dX6_closeDown_136 (by decide) ?_
          refine gd_locals [3, 4, 5, 6, 1, 7, 0] rfl ?_
          exact h
theorem c_X6_closeDown {g : ab_E} {d : Nat} {e : Nat} {a0 : Nat} {a1 : Nat} {a2 : Int32} {a3 : Int32} {a4 : Int32} {a5 : Int32} {v : gd_D} {Q : ab_O → gd_D → Prop} (he : e + 1 ≤ d) (hd : 4 ≤ d) (h : wp_X6_closeDown g d e a0 a1 a2 a3 a4 a5 v Q) : gd_C g mX6_closeDown d 0 0 [zR 6 a0, zR 2 a1, zI a2, zI a3, zI a4, zI a5] v Q := gd_enterF (plainFor_of_name (by decide)) (Nat.le_of_ble_eq_true rfl) rfl (w_X6_closeDown he hd h)
def wp_X8_find (g : ab_E) (d : Nat) (a0 : Nat) (a1 : Nat) (a2 : Nat) (v : gd_D) (Q : ab_O → gd_D → Prop) : Prop :=
  gd_C g mX8_seeBuyers 3 0 0 [zR 8 a0, zR 2 a1] v (gd_rV (fun v1 =>
    gd_G g mX8_find d 0 0 7 [(0, zR 8 a0), (1, zR 2 a1), (2, zR 5 a2), (3, zI 0)] [] v1 Q) (fun E v9 => Q (Sum.inr E) v9))
theorem w_X8_find {g : ab_E} {d : Nat} {a0 : Nat} {a1 : Nat} {a2 : Nat} {v : gd_D} {Q : ab_O → gd_D → Prop} (hd : 4 ≤ d) (h : wp_X8_find g d a0 a1 a2 v Q) : gd_G g mX8_find d 0 0 0 [(0, zR 8 a0), (1, zR 2 a1), (2, zR 5 a2)] [] v Q := by
  unfold wp_X8_find at h
  refine gd_aload_n 0 dX8_find_0 rfl rfl ?_
  refine gd_aload_n 1 dX8_find_1 rfl rfl ?_
  refine gd_callVV (As := [zR 2 a1]) (rest := []) (dy := 3) (my := 0) (sy := 0) (k := 8) (i := a0) lX8_18 iX8_seeBuyers sX8_seeBuyers rfl dX8_find_2 rfl rfl (gd_room (by omega) (by decide)) (by decide) (Nat.le_of_ble_eq_true rfl) h (fun v1 h => ?_)
  refine gd_iconst (x9 := 0) dX8_find_5 (by decide) ?_
  refine gd_istore_n (L' := [(3, zI 0), (0, zR 8 a0), (1, zR 2 a1), (2, zR 5 a2)]) dX8_find_6 rfl (by decide) rfl ?_
  refine gd_locals [1, 2, 3, 0] rfl ?_
  exact h
def wp_X8_find_7 (g : ab_E) (d : Nat) (a0 : Nat) (a1 : Nat) (a2 : Nat) (a3 : Int32) (v : gd_D) (Q : ab_O → gd_D → Prop) : Prop :=
  (((v.1 5 a2 3 : Int32) ≤ a3) →
    Q (Sum.inl (some (zI 0))) v) ∧
  ((¬ (v.1 5 a2 3 : Int32) ≤ a3) →
    vp_in a3 24 ∧
    gd_C g mX8_isFit 2 0 0 [zR 2 a1, zI (v.1 21 a2 (a3 : Int32).toNatClampNeg)] v (gd_rI (fun (r2 : Int32) v1 =>
      (((r2 : Int32) = 0) →
        gd_G g mX8_find d 0 0 7 [(0, zR 8 a0), (1, zR 2 a1), (2, zR 5 a2), (3, zI (a3 + 1))] [] v1 Q) ∧
      ((¬ (r2 : Int32) = 0) →
        gd_C g mX8_follow 4 0 0 [zR 8 a0, zR 2 a1, zR 5 a2, zI (v.1 21 a2 (a3 : Int32).toNatClampNeg)] v1 (gd_rI (fun (r4 : Int32) v3 =>
          (((r4 : Int32) = 0) →
            gd_G g mX8_find d 0 0 7 [(0, zR 8 a0), (1, zR 2 a1), (2, zR 5 a2), (3, zI (a3 + 1))] [] v3 Q) ∧
          ((¬ (r4 : Int32) = 0) →
            gd_C g mX8_leastOpen 3 0 0 [zR 8 a0, zR 2 a1] v3 (gd_rI (fun (r6 : Int32) v5 =>
              gd_C g mX2_wholeLots 2 0 0 [zR 2 a1, zI r6] v5 (gd_rI (fun (r8 : Int32) v7 =>
                ∀ v9 : gd_D, v9 = gd_sI v7 8 a0 2 r8 →
                (((v9.1 8 a0 2 : Int32) ≤ 0) →
                  Q (Sum.inl (some (zI 0))) v9) ∧
                ((¬ (v9.1 8 a0 2 : Int32) ≤ 0) →
                  Q (Sum.inl (some (zI 1))) v9)) (fun E v9 => Q (Sum.inr E) v9))) (fun E v9 => Q (Sum.inr E) v9)))) (fun E v9 => Q (Sum.inr E) v9)))) (fun E v9 => Q (Sum.inr E) v9)))
theorem w_X8_find_7 {g : ab_E} {d : Nat} {a0 : Nat} {a1 : Nat} {a2 : Nat} {a3 : Int32} {v : gd_D} {Q : ab_O → gd_D → Prop} (hd : 5 ≤ d) (h : wp_X8_find_7 g d a0 a1 a2 a3 v Q) : gd_G g mX8_find d 0 0 7 [(0, zR 8 a0), (1, zR 2 a1), (2, zR 5 a2), (3, zI a3)] [] v Q := by
  unfold wp_X8_find_7 at h
  refine gd_iload_n 3 dX8_find_7 rfl rfl ?_
  refine gd_aload_n 2 dX8_find_8 rfl rfl ?_
  refine gd_getI fX8_22 rfl dX8_find_9 ?_
  refine gd_icmp_ge (tgt := 75) dX8_find_12 (by decide) (fun hc => ?_) (fun hc => ?_)
  · have h := h.1 hc
    refine gd_iconst (x9 := 0) dX8_find_75 (by decide) ?_
    exact gd_iret (ty := .boolean) dX8_find_76 rfl rfl h
  · have h := h.2 hc
    refine gd_aload_n 2 dX8_find_15 rfl rfl ?_
    refine gd_getR (x := a2) (kr := 21) fX8_28 rfl rfl dX8_find_16 rfl ?_
    refine gd_iload_n 3 dX8_find_19 rfl rfl ?_
    obtain ⟨hb, h⟩ := h
    refine gd_iaload (n := 24) (by decide) rfl dX8_find_20 rfl hb ?_
    refine gd_istore (L' := [(4, zI (v.1 21 a2 (a3 : Int32).toNatClampNeg)), (0, zR 8 a0), (1, zR 2 a1), (2, zR 5 a2), (3, zI a3)]) dX8_find_21 (by decide) rfl ?_
    refine gd_aload_n 2 dX8_find_23 rfl rfl ?_
    refine gd_iload 0 dX8_find_24 rfl ?_
    refine gd_callSI (As := [zR 2 a1, zI (v.1 21 a2 (a3 : Int32).toNatClampNeg)]) (rest := []) (dy := 2) (my := 0) (sy := 0) lX8_31 tX8_isFit dX8_find_26 rfl rfl (gd_room (by omega) (by decide)) (by decide) (Nat.le_of_ble_eq_true rfl) h (fun r2 v1 h => ?_)
    refine gd_if_eq (tgt := 69) dX8_find_29 (by decide) (fun hc => ?_) (fun hc => ?_)
    · have h := h.1 hc
      refine gd_iinc (x9 := a3 + 1) (L' := [(3, zI (a3 + 1)), (4, zI (v.1 21 a2 (a3 : Int32).toNatClampNeg)), (0, zR 8 a0), (1, zR 2 a1), (2, zR 5 a2)]) 4 dX8_find_69 rfl rfl (by decide) rfl ?_
      refine gd_goto (tgt := 7) dX8_find_72 (by decide) ?_
      refine gd_locals [2, 3, 4, 0] rfl ?_
      exact h
    · have h := h.2 hc
      refine gd_aload_n 1 dX8_find_32 rfl rfl ?_
      refine gd_aload_n 2 dX8_find_33 rfl rfl ?_
      refine gd_aload_n 3 dX8_find_34 rfl rfl ?_
      refine gd_iload 0 dX8_find_35 rfl ?_
      refine gd_callVI (As := [zR 2 a1, zR 5 a2, zI (v.1 21 a2 (a3 : Int32).toNatClampNeg)]) (rest := []) (dy := 4) (my := 0) (sy := 0) (k := 8) (i := a0) lX8_35 iX8_follow sX8_follow rfl dX8_find_37 rfl rfl (gd_room (by omega) (by decide)) (by decide) (Nat.le_of_ble_eq_true rfl) h (fun r4 v3 h => ?_)
      refine gd_if_eq (tgt := 69) dX8_find_40 (by decide) (fun hc => ?_) (fun hc => ?_)
      · have h := h.1 hc
        refine gd_iinc (x9 := a3 + 1) (L' := [(3, zI (a3 + 1)), (4, zI (v.1 21 a2 (a3 : Int32).toNatClampNeg)), (0, zR 8 a0), (1, zR 2 a1), (2, zR 5 a2)]) 4 dX8_find_69 rfl rfl (by decide) rfl ?_
        refine gd_goto (tgt := 7) dX8_find_72 (by decide) ?_
        refine gd_locals [2, 3, 4, 0] rfl ?_
        exact h
      · have h := h.2 hc
        refine gd_aload_n 1 dX8_find_43 rfl rfl ?_
        refine gd_aload_n 2 dX8_find_44 rfl rfl ?_
        refine gd_aload_n 1 dX8_find_45 rfl rfl ?_
        refine gd_aload_n 2 dX8_find_46 rfl rfl ?_
        refine gd_callVI (As := [zR 2 a1]) (rest := [zR 2 a1, zR 8 a0]) (dy := 3) (my := 0) (sy := 0) (k := 8) (i := a0) lX8_39 iX8_leastOpen sX8_leastOpen rfl dX8_find_47 rfl rfl (gd_room (by omega) (by decide)) (by decide) (Nat.le_of_ble_eq_true rfl) h (fun r6 v5 h => ?_)
        refine gd_callVI (As := [zI r6]) (rest := [zR 8 a0]) (dy := 2) (my := 0) (sy := 0) (k := 2) (i := a1) lX8_43 iX2_wholeLots sX2_wholeLots rfl dX8_find_50 rfl rfl (gd_room (by omega) (by decide)) (by decide) (Nat.le_of_ble_eq_true rfl) h (fun r8 v7 h => ?_)
        refine gd_putIn fX8_49 rfl rfl dX8_find_53 (fun v9 ev9 => ?_)
        have h := h v9 ev9
        refine gd_aload_n 1 dX8_find_56 rfl rfl ?_
        refine gd_getI fX8_49 rfl dX8_find_57 ?_
        refine gd_if_le (tgt := 67) dX8_find_60 (by decide) (fun hc => ?_) (fun hc => ?_)
        · have h := h.1 hc
          refine gd_iconst (x9 := 0) dX8_find_67 (by decide) ?_
          exact gd_iret (ty := .boolean) dX8_find_68 rfl rfl h
        · have h := h.2 hc
          refine gd_iconst (x9 := 1) dX8_find_63 (by decide) ?_
          refine gd_goto (tgt := 68) dX8_find_64 (by decide) ?_
          exact gd_iret (ty := .boolean) dX8_find_68 rfl rfl h
theorem c_X8_find {g : ab_E} {d : Nat} {a0 : Nat} {a1 : Nat} {a2 : Nat} {v : gd_D} {Q : ab_O → gd_D → Prop} (hd : 4 ≤ d) (h : wp_X8_find g d a0 a1 a2 v Q) : gd_C g mX8_find d 0 0 [zR 8 a0, zR 2 a1, zR 5 a2] v Q := gd_enterF (plainFor_of_name (by decide)) (Nat.le_of_ble_eq_true rfl) rfl (w_X8_find hd h)
def wp_X8_isFit (g : ab_E) (d : Nat) (a0 : Nat) (a1 : Int32) (v : gd_D) (Q : ab_O → gd_D → Prop) : Prop :=
  vp_in a1 24 ∧
  ∀ x1 : Int32, x1 = v.1 9 (24 * a0 + (a1 : Int32).toNatClampNeg) 4 →
  (((v.1 2 a0 4 : Int32) < x1) →
    Q (Sum.inl (some (zI 0))) v) ∧
  ((¬ (v.1 2 a0 4 : Int32) < x1) →
    vp_in a1 24 ∧
    ∀ x2 : Int32, x2 = v.1 9 (24 * a0 + (a1 : Int32).toNatClampNeg) 5 →
    (((x2 : Int32) < (v.1 2 a0 7)) →
      Q (Sum.inl (some (zI 0))) v) ∧
    ((¬ (x2 : Int32) < (v.1 2 a0 7)) →
      Q (Sum.inl (some (zI 1))) v))
theorem w_X8_isFit {g : ab_E} {d : Nat} {a0 : Nat} {a1 : Int32} {v : gd_D} {Q : ab_O → gd_D → Prop} (hd : 0 ≤ d) (h : wp_X8_isFit g d a0 a1 v Q) : gd_G g mX8_isFit d 0 0 0 [(0, zR 2 a0), (1, zI a1)] [] v Q := by
  unfold wp_X8_isFit at h
  refine gd_aload_n 0 dX8_isFit_0 rfl rfl ?_
  refine gd_getR (x := a0) (kr := 14) fX8_52 rfl rfl dX8_isFit_1 rfl ?_
  refine gd_iload_n 1 dX8_isFit_4 rfl rfl ?_
  obtain ⟨hb, h⟩ := h
  refine gd_aaload (n := 24) (kr := 9) (y := 24 * a0 + (a1 : Int32).toNatClampNeg) (by decide) rfl rfl dX8_isFit_5 rfl hb (if_pos (ab_inlt hb)) ?_
  refine gd_getI fX8_56 rfl dX8_isFit_6 ?_
  refine gd_nmI (fun x1 ex1 => ?_)
  have h := h x1 ex1
  refine gd_aload_n 0 dX8_isFit_9 rfl rfl ?_
  refine gd_getI fX8_61 rfl dX8_isFit_10 ?_
  refine gd_icmp_gt (tgt := 36) dX8_isFit_13 (by decide) (fun hc => ?_) (fun hc => ?_)
  · have h := h.1 hc
    refine gd_iconst (x9 := 0) dX8_isFit_36 (by decide) ?_
    exact gd_iret (ty := .boolean) dX8_isFit_37 rfl rfl h
  · have h := h.2 hc
    refine gd_aload_n 0 dX8_isFit_16 rfl rfl ?_
    refine gd_getR (x := a0) (kr := 14) fX8_52 rfl rfl dX8_isFit_17 rfl ?_
    refine gd_iload_n 1 dX8_isFit_20 rfl rfl ?_
    obtain ⟨hb, h⟩ := h
    refine gd_aaload (n := 24) (kr := 9) (y := 24 * a0 + (a1 : Int32).toNatClampNeg) (by decide) rfl rfl dX8_isFit_21 rfl hb (if_pos (ab_inlt hb)) ?_
    refine gd_getI fX8_64 rfl dX8_isFit_22 ?_
    refine gd_nmI (fun x2 ex2 => ?_)
    have h := h x2 ex2
    refine gd_aload_n 0 dX8_isFit_25 rfl rfl ?_
    refine gd_getI fX8_67 rfl dX8_isFit_26 ?_
    refine gd_icmp_lt (tgt := 36) dX8_isFit_29 (by decide) (fun hc => ?_) (fun hc => ?_)
    · have h := h.1 hc
      refine gd_iconst (x9 := 0) dX8_isFit_36 (by decide) ?_
      exact gd_iret (ty := .boolean) dX8_isFit_37 rfl rfl h
    · have h := h.2 hc
      refine gd_iconst (x9 := 1) dX8_isFit_32 (by decide) ?_
      refine gd_goto (tgt := 37) dX8_isFit_33 (by decide) ?_
      exact gd_iret (ty := .boolean) dX8_isFit_37 rfl rfl h
theorem c_X8_isFit {g : ab_E} {d : Nat} {a0 : Nat} {a1 : Int32} {v : gd_D} {Q : ab_O → gd_D → Prop} (hd : 0 ≤ d) (h : wp_X8_isFit g d a0 a1 v Q) : gd_C g mX8_isFit d 0 0 [zR 2 a0, zI a1] v Q := gd_enterF (plainFor_of_name (by decide)) (Nat.le_of_ble_eq_true rfl) rfl (w_X8_isFit hd h)
def wp_X8_seeBuyers (g : ab_E) (d : Nat) (a0 : Nat) (a1 : Nat) (v : gd_D) (Q : ab_O → gd_D → Prop) : Prop :=
  gd_C g mJ7_fill_53178 2 0 0 [zR 37 a0, zI 0] v (gd_rV (fun v1 =>
    gd_G g mX8_seeBuyers d 0 0 10 [(0, zR 8 a0), (1, zR 2 a1), (2, zI 0)] [] v1 Q) (fun E v9 => Q (Sum.inr E) v9))
theorem w_X8_seeBuyers {g : ab_E} {d : Nat} {a0 : Nat} {a1 : Nat} {v : gd_D} {Q : ab_O → gd_D → Prop} (hd : 3 ≤ d) (h : wp_X8_seeBuyers g d a0 a1 v Q) : gd_G g mX8_seeBuyers d 0 0 0 [(0, zR 8 a0), (1, zR 2 a1)] [] v Q := by
  unfold wp_X8_seeBuyers at h
  refine gd_aload_n 0 dX8_seeBuyers_0 rfl rfl ?_
  refine gd_getR (x := a0) (kr := 37) fX8_15 rfl rfl dX8_seeBuyers_1 rfl ?_
  refine gd_iconst (x9 := 0) dX8_seeBuyers_4 (by decide) ?_
  refine gd_callSV (As := [zR 37 a0, zI 0]) (rest := []) (dy := 2) (my := 0) (sy := 0) lX8_70 tJ7_fill_53178 dX8_seeBuyers_5 rfl rfl (gd_room (by omega) (by decide)) (by decide) (Nat.le_of_ble_eq_true rfl) h (fun v1 h => ?_)
  refine gd_iconst (x9 := 0) dX8_seeBuyers_8 (by decide) ?_
  refine gd_istore_n (L' := [(2, zI 0), (0, zR 8 a0), (1, zR 2 a1)]) dX8_seeBuyers_9 rfl (by decide) rfl ?_
  refine gd_locals [1, 2, 0] rfl ?_
  exact h
def wp_X8_seeBuyers_10 (g : ab_E) (d : Nat) (a0 : Nat) (a1 : Nat) (a2 : Int32) (v : gd_D) (Q : ab_O → gd_D → Prop) : Prop :=
  (((v.1 2 a1 3 : Int32) ≤ a2) →
    Q (Sum.inl none) v) ∧
  ((¬ (v.1 2 a1 3 : Int32) ≤ a2) →
    gd_C g mX8_isFit 2 0 0 [zR 2 a1, zI a2] v (gd_rI (fun (r2 : Int32) v1 =>
      (((r2 : Int32) = 0) →
        gd_G g mX8_seeBuyers d 0 0 10 [(0, zR 8 a0), (1, zR 2 a1), (2, zI (a2 + 1))] [] v1 Q) ∧
      ((¬ (r2 : Int32) = 0) →
        vp_in a2 24 ∧
        ∀ x3 : Int32, x3 = v1.1 9 (24 * a1 + (a2 : Int32).toNatClampNeg) 0 →
        vp_in x3 8 ∧
        vp_in a2 24 ∧
        ∀ x4 : Int32, x4 = v1.1 9 (24 * a1 + (a2 : Int32).toNatClampNeg) 1 →
        ∀ x5 : Int32, x5 = (v1.1 37 a0 (x3 : Int32).toNatClampNeg) ||| (1 <<< (x4 &&& 31)) →
        vp_in x3 8 ∧
        ∀ v6 : gd_D, v6 = gd_sI v1 37 a0 ((x3 : Int32).toNatClampNeg) x5 →
        gd_G g mX8_seeBuyers d 0 0 10 [(0, zR 8 a0), (1, zR 2 a1), (2, zI (a2 + 1))] [] v6 Q)) (fun E v9 => Q (Sum.inr E) v9)))
theorem w_X8_seeBuyers_10 {g : ab_E} {d : Nat} {a0 : Nat} {a1 : Nat} {a2 : Int32} {v : gd_D} {Q : ab_O → gd_D → Prop} (hd : 3 ≤ d) (h : wp_X8_seeBuyers_10 g d a0 a1 a2 v Q) : gd_G g mX8_seeBuyers d 0 0 10 [(0, zR 8 a0), (1, zR 2 a1), (2, zI a2)] [] v Q := by
  unfold wp_X8_seeBuyers_10 at h
  refine gd_iload_n 2 dX8_seeBuyers_10 rfl rfl ?_
  refine gd_aload_n 1 dX8_seeBuyers_11 rfl rfl ?_
  refine gd_getI fX8_76 rfl dX8_seeBuyers_12 ?_
  refine gd_icmp_ge (tgt := 60) dX8_seeBuyers_15 (by decide) (fun hc => ?_) (fun hc => ?_)
  · have h := h.1 hc
    exact gd_vret dX8_seeBuyers_60 rfl h
  · have h := h.2 hc
    refine gd_aload_n 1 dX8_seeBuyers_18 rfl rfl ?_
    refine gd_iload_n 2 dX8_seeBuyers_19 rfl rfl ?_
    refine gd_callSI (As := [zR 2 a1, zI a2]) (rest := []) (dy := 2) (my := 0) (sy := 0) lX8_31 tX8_isFit dX8_seeBuyers_20 rfl rfl (gd_room (by omega) (by decide)) (by decide) (Nat.le_of_ble_eq_true rfl) h (fun r2 v1 h => ?_)
    refine gd_if_eq (tgt := 54) dX8_seeBuyers_23 (by decide) (fun hc => ?_) (fun hc => ?_)
    · have h := h.1 hc
      refine gd_iinc (x9 := a2 + 1) (L' := [(2, zI (a2 + 1)), (0, zR 8 a0), (1, zR 2 a1)]) 2 dX8_seeBuyers_54 rfl rfl (by decide) rfl ?_
      refine gd_goto (tgt := 10) dX8_seeBuyers_57 (by decide) ?_
      refine gd_locals [1, 2, 0] rfl ?_
      exact h
    · have h := h.2 hc
      refine gd_aload_n 0 dX8_seeBuyers_26 rfl rfl ?_
      refine gd_getR (x := a0) (kr := 37) fX8_15 rfl rfl dX8_seeBuyers_27 rfl ?_
      refine gd_aload_n 1 dX8_seeBuyers_30 rfl rfl ?_
      refine gd_getR (x := a1) (kr := 14) fX8_52 rfl rfl dX8_seeBuyers_31 rfl ?_
      refine gd_iload_n 2 dX8_seeBuyers_34 rfl rfl ?_
      obtain ⟨hb, h⟩ := h
      refine gd_aaload (n := 24) (kr := 9) (y := 24 * a1 + (a2 : Int32).toNatClampNeg) (by decide) rfl rfl dX8_seeBuyers_35 rfl hb (if_pos (ab_inlt hb)) ?_
      refine gd_getI fX8_79 rfl dX8_seeBuyers_36 ?_
      refine gd_nmI (fun x3 ex3 => ?_)
      have h := h x3 ex3
      refine gd_dup2_11 dX8_seeBuyers_39 rfl rfl ?_
      obtain ⟨hb, h⟩ := h
      refine gd_iaload (n := 8) (by decide) rfl dX8_seeBuyers_40 rfl hb ?_
      refine gd_iconst (x9 := 1) dX8_seeBuyers_41 (by decide) ?_
      refine gd_aload_n 1 dX8_seeBuyers_42 rfl rfl ?_
      refine gd_getR (x := a1) (kr := 14) fX8_52 rfl rfl dX8_seeBuyers_43 rfl ?_
      refine gd_iload_n 2 dX8_seeBuyers_46 rfl rfl ?_
      obtain ⟨hb, h⟩ := h
      refine gd_aaload (n := 24) (kr := 9) (y := 24 * a1 + (a2 : Int32).toNatClampNeg) (by decide) rfl rfl dX8_seeBuyers_47 rfl hb (if_pos (ab_inlt hb)) ?_
      refine gd_getI fX8_82 rfl dX8_seeBuyers_48 ?_
      refine gd_nmI (fun x4 ex4 => ?_)
      have h := h x4 ex4
      refine gd_ishl dX8_seeBuyers_51 ?_
      refine gd_ior dX8_seeBuyers_52 ?_
      refine gd_nmI (fun x5 ex5 => ?_)
      have h := h x5 ex5
      obtain ⟨hb, h⟩ := h
      refine gd_iastoren (n := 8) (by decide) rfl rfl dX8_seeBuyers_53 rfl hb (fun v6 ev6 => ?_)
      have h := h v6 ev6
      refine gd_iinc (x9 := a2 + 1) (L' := [(2, zI (a2 + 1)), (0, zR 8 a0), (1, zR 2 a1)]) 2 dX8_seeBuyers_54 rfl rfl (by decide) rfl ?_
      refine gd_goto (tgt := 10) dX8_seeBuyers_57 (by decide) ?_
      refine gd_locals [1, 2, 0] rfl ?_
      exact h
theorem c_X8_seeBuyers {g : ab_E} {d : Nat} {a0 : Nat} {a1 : Nat} {v : gd_D} {Q : ab_O → gd_D → Prop} (hd : 3 ≤ d) (h : wp_X8_seeBuyers g d a0 a1 v Q) : gd_C g mX8_seeBuyers d 0 0 [zR 8 a0, zR 2 a1] v Q := gd_enterF (plainFor_of_name (by decide)) (Nat.le_of_ble_eq_true rfl) rfl (w_X8_seeBuyers hd h)
def wp_X8_follow (g : ab_E) (d : Nat) (a0 : Nat) (a1 : Nat) (a2 : Nat) (a3 : Int32) (v : gd_D) (Q : ab_O → gd_D → Prop) : Prop :=
  vp_in a3 24 ∧
  ∀ x1 : Int32, x1 = v.1 9 (24 * a1 + (a3 : Int32).toNatClampNeg) 0 →
  vp_in a3 24 ∧
  ∀ x2 : Int32, x2 = v.1 9 (24 * a1 + (a3 : Int32).toNatClampNeg) 1 →
  vp_in 0 8 ∧
  ∀ v3 : gd_D, v3 = gd_sI v 36 a0 ((0 : Int32).toNatClampNeg) a3 →
  ∀ v4 : gd_D, v4 = gd_sI v3 8 a0 1 1 →
  gd_G g mX8_follow d 0 0 43 [(0, zR 8 a0), (1, zR 2 a1), (2, zR 5 a2), (4, zI x1), (5, zI x2), (6, zI (1 <<< (x1 &&& 31))), (7, zI 1)] [] v4 Q
theorem w_X8_follow {g : ab_E} {d : Nat} {a0 : Nat} {a1 : Nat} {a2 : Nat} {a3 : Int32} {v : gd_D} {Q : ab_O → gd_D → Prop} (hd : 0 ≤ d) (h : wp_X8_follow g d a0 a1 a2 a3 v Q) : gd_G g mX8_follow d 0 0 0 [(0, zR 8 a0), (1, zR 2 a1), (2, zR 5 a2), (3, zI a3)] [] v Q := by
  unfold wp_X8_follow at h
  refine gd_aload_n 1 dX8_follow_0 rfl rfl ?_
  refine gd_getR (x := a1) (kr := 14) fX8_52 rfl rfl dX8_follow_1 rfl ?_
  refine gd_iload_n 3 dX8_follow_4 rfl rfl ?_
  obtain ⟨hb, h⟩ := h
  refine gd_aaload (n := 24) (kr := 9) (y := 24 * a1 + (a3 : Int32).toNatClampNeg) (by decide) rfl rfl dX8_follow_5 rfl hb (if_pos (ab_inlt hb)) ?_
  refine gd_getI fX8_79 rfl dX8_follow_6 ?_
  refine gd_nmI (fun x1 ex1 => ?_)
  have h := h x1 ex1
  refine gd_istore (L' := [(4, zI x1), (0, zR 8 a0), (1, zR 2 a1), (2, zR 5 a2), (3, zI a3)]) dX8_follow_9 (by decide) rfl ?_
  refine gd_aload_n 2 dX8_follow_11 rfl rfl ?_
  refine gd_getR (x := a1) (kr := 14) fX8_52 rfl rfl dX8_follow_12 rfl ?_
  refine gd_iload_n 4 dX8_follow_15 rfl rfl ?_
  obtain ⟨hb, h⟩ := h
  refine gd_aaload (n := 24) (kr := 9) (y := 24 * a1 + (a3 : Int32).toNatClampNeg) (by decide) rfl rfl dX8_follow_16 rfl hb (if_pos (ab_inlt hb)) ?_
  refine gd_getI fX8_82 rfl dX8_follow_17 ?_
  refine gd_nmI (fun x2 ex2 => ?_)
  have h := h x2 ex2
  refine gd_istore (L' := [(5, zI x2), (4, zI x1), (0, zR 8 a0), (1, zR 2 a1), (2, zR 5 a2), (3, zI a3)]) dX8_follow_20 (by decide) rfl ?_
  refine gd_iconst (x9 := 1) dX8_follow_22 (by decide) ?_
  refine gd_iload 1 dX8_follow_23 rfl ?_
  refine gd_ishl dX8_follow_25 ?_
  refine gd_istore (L' := [(6, zI (1 <<< (x1 &&& 31))), (5, zI x2), (4, zI x1), (0, zR 8 a0), (1, zR 2 a1), (2, zR 5 a2), (3, zI a3)]) dX8_follow_26 (by decide) rfl ?_
  refine gd_aload_n 3 dX8_follow_28 rfl rfl ?_
  refine gd_getR (x := a0) (kr := 36) fX8_9 rfl rfl dX8_follow_29 rfl ?_
  refine gd_iconst (x9 := 0) dX8_follow_32 (by decide) ?_
  refine gd_iload_n 6 dX8_follow_33 rfl rfl ?_
  obtain ⟨hb, h⟩ := h
  refine gd_iastoren (n := 8) (by decide) rfl rfl dX8_follow_34 rfl hb (fun v3 ev3 => ?_)
  have h := h v3 ev3
  refine gd_aload_n 3 dX8_follow_35 rfl rfl ?_
  refine gd_iconst (x9 := 1) dX8_follow_36 (by decide) ?_
  refine gd_putIn fX8_85 rfl rfl dX8_follow_37 (fun v4 ev4 => ?_)
  have h := h v4 ev4
  refine gd_iconst (x9 := 1) dX8_follow_40 (by decide) ?_
  refine gd_istore (L' := [(7, zI 1), (6, zI (1 <<< (x1 &&& 31))), (5, zI x2), (4, zI x1), (0, zR 8 a0), (1, zR 2 a1), (2, zR 5 a2), (3, zI a3)]) dX8_follow_41 (by decide) rfl ?_
  refine gd_locals [4, 5, 6, 3, 2, 1, 0] rfl ?_
  exact h
def wp_X8_follow_126 (g : ab_E) (d : Nat) (a4 : Int32) (a5 : Int32) (v : gd_D) (Q : ab_O → gd_D → Prop) : Prop :=
  ((¬ (a5 : Int32) = a4) →
    Q (Sum.inl (some (zI 0))) v) ∧
  (((a5 : Int32) = a4) →
    Q (Sum.inl (some (zI 1))) v)
theorem w_X8_follow_126 {g : ab_E} {d : Nat} {a4 : Int32} {a5 : Int32} {v : gd_D} {Q : ab_O → gd_D → Prop} (hd : 0 ≤ d) (h : wp_X8_follow_126 g d a4 a5 v Q) : gd_G g mX8_follow d 0 0 126 [(4, zI a4), (5, zI a5)] [] v Q := by
  unfold wp_X8_follow_126 at h
  refine gd_iload 1 dX8_follow_126 rfl ?_
  refine gd_iload 0 dX8_follow_128 rfl ?_
  refine gd_icmp_ne (tgt := 137) dX8_follow_130 (by decide) (fun hc => ?_) (fun hc => ?_)
  · have h := h.1 hc
    refine gd_iconst (x9 := 0) dX8_follow_137 (by decide) ?_
    exact gd_iret (ty := .boolean) dX8_follow_138 rfl rfl h
  · have h := h.2 hc
    refine gd_iconst (x9 := 1) dX8_follow_133 (by decide) ?_
    refine gd_goto (tgt := 138) dX8_follow_134 (by decide) ?_
    exact gd_iret (ty := .boolean) dX8_follow_138 rfl rfl h
def wp_X8_follow_43 (g : ab_E) (d : Nat) (a0 : Nat) (a1 : Nat) (a2 : Nat) (a4 : Int32) (a5 : Int32) (a6 : Int32) (a7 : Int32) (v : gd_D) (Q : ab_O → gd_D → Prop) : Prop :=
  (((8 : Int32) ≤ a7) →
    wp_X8_follow_126 g d a4 a5 v Q) ∧
  ((¬ (8 : Int32) ≤ a7) →
    (((a5 : Int32) = a4) →
      wp_X8_follow_126 g d a4 a5 v Q) ∧
    ((¬ (a5 : Int32) = a4) →
      gd_C g mX8_whoReach 2 0 0 [zR 8 a0, zI a4, zI (a6 ||| (1 <<< (a5 &&& 31)))] v (gd_rI (fun (r2 : Int32) v1 =>
        gd_C g mX8_nextOf 3 0 0 [zR 2 a1, zR 5 a2, zI a5, zI r2] v1 (gd_rI (fun (r4 : Int32) v3 =>
          ((¬ (r4 : Int32) = (-1)) →
            vp_in a7 8 ∧
            ∀ v5 : gd_D, v5 = gd_sI v3 36 a0 ((a7 : Int32).toNatClampNeg) r4 →
            ∀ v6 : gd_D, v6 = gd_sI v5 8 a0 1 (a7 + 1) →
            vp_in r4 24 ∧
            ∀ x7 : Int32, x7 = v6.1 9 (24 * a1 + (r4 : Int32).toNatClampNeg) 1 →
            gd_G g mX8_follow d 0 0 43 [(0, zR 8 a0), (1, zR 2 a1), (2, zR 5 a2), (4, zI a4), (5, zI x7), (6, zI (a6 ||| (1 <<< (a5 &&& 31)))), (7, zI (a7 + 1))] [] v6 Q) ∧
          (((r4 : Int32) = (-1)) →
            Q (Sum.inl (some (zI 0))) v3)) (fun E v9 => Q (Sum.inr E) v9))) (fun E v9 => Q (Sum.inr E) v9))))
theorem w_X8_follow_43 {g : ab_E} {d : Nat} {a0 : Nat} {a1 : Nat} {a2 : Nat} {a4 : Int32} {a5 : Int32} {a6 : Int32} {a7 : Int32} {v : gd_D} {Q : ab_O → gd_D → Prop} (hd : 4 ≤ d) (h : wp_X8_follow_43 g d a0 a1 a2 a4 a5 a6 a7 v Q) : gd_G g mX8_follow d 0 0 43 [(0, zR 8 a0), (1, zR 2 a1), (2, zR 5 a2), (4, zI a4), (5, zI a5), (6, zI a6), (7, zI a7)] [] v Q := by
  unfold wp_X8_follow_43 at h
  refine gd_iload 6 dX8_follow_43 rfl ?_
  refine gd_bipush (x9 := 8) dX8_follow_45 (by decide) ?_
  refine gd_icmp_ge (tgt := 126) dX8_follow_47 (by decide) (fun hc => ?_) (fun hc => ?_)
  · have h := h.1 hc
    refine gd_locals [3, 4] rfl ?_
    exact w_X8_follow_126 (by omega) h
  · have h := h.2 hc
    refine gd_iload 4 dX8_follow_50 rfl ?_
    refine gd_iload 3 dX8_follow_52 rfl ?_
    refine gd_icmp_eq (tgt := 126) dX8_follow_54 (by decide) (fun hc => ?_) (fun hc => ?_)
    · have h := h.1 hc
      refine gd_locals [3, 4] rfl ?_
      exact w_X8_follow_126 (by omega) h
    · have h := h.2 hc
      refine gd_iload 5 dX8_follow_57 rfl ?_
      refine gd_iconst (x9 := 1) dX8_follow_59 (by decide) ?_
      refine gd_iload 4 dX8_follow_60 rfl ?_
      refine gd_ishl dX8_follow_62 ?_
      refine gd_ior dX8_follow_63 ?_
      refine gd_istore (L' := [(6, zI (a6 ||| (1 <<< (a5 &&& 31)))), (0, zR 8 a0), (1, zR 2 a1), (2, zR 5 a2), (4, zI a4), (5, zI a5), (7, zI a7)]) dX8_follow_64 (by decide) rfl ?_
      refine gd_aload_n 2 dX8_follow_66 rfl rfl ?_
      refine gd_aload_n 3 dX8_follow_67 rfl rfl ?_
      refine gd_iload 5 dX8_follow_68 rfl ?_
      refine gd_aload_n 1 dX8_follow_70 rfl rfl ?_
      refine gd_iload 4 dX8_follow_71 rfl ?_
      refine gd_iload 0 dX8_follow_73 rfl ?_
      refine gd_callVI (As := [zI a4, zI (a6 ||| (1 <<< (a5 &&& 31)))]) (rest := [zI a5, zR 5 a2, zR 2 a1]) (dy := 2) (my := 0) (sy := 0) (k := 8) (i := a0) lX8_86 iX8_whoReach sX8_whoReach rfl dX8_follow_75 rfl rfl (gd_room (by omega) (by decide)) (by decide) (Nat.le_of_ble_eq_true rfl) h (fun r2 v1 h => ?_)
      refine gd_callSI (As := [zR 2 a1, zR 5 a2, zI a5, zI r2]) (rest := []) (dy := 3) (my := 0) (sy := 0) lX8_90 tX8_nextOf dX8_follow_78 rfl rfl (gd_room (by omega) (by decide)) (by decide) (Nat.le_of_ble_eq_true rfl) h (fun r4 v3 h => ?_)
      refine gd_istore (L' := [(8, zI r4), (6, zI (a6 ||| (1 <<< (a5 &&& 31)))), (0, zR 8 a0), (1, zR 2 a1), (2, zR 5 a2), (4, zI a4), (5, zI a5), (7, zI a7)]) dX8_follow_81 (by decide) rfl ?_
      refine gd_iload 0 dX8_follow_83 rfl ?_
      refine gd_iconst (x9 := (-1)) dX8_follow_85 (by decide) ?_
      refine gd_icmp_ne (tgt := 91) dX8_follow_86 (by decide) (fun hc => ?_) (fun hc => ?_)
      · have h := h.1 hc
        refine gd_aload_n 2 dX8_follow_91 rfl rfl ?_
        refine gd_getR (x := a0) (kr := 36) fX8_9 rfl rfl dX8_follow_92 rfl ?_
        refine gd_iload 7 dX8_follow_95 rfl ?_
        refine gd_iload 0 dX8_follow_97 rfl ?_
        obtain ⟨hb, h⟩ := h
        refine gd_iastoren (n := 8) (by decide) rfl rfl dX8_follow_99 rfl hb (fun v5 ev5 => ?_)
        have h := h v5 ev5
        refine gd_aload_n 2 dX8_follow_100 rfl rfl ?_
        refine gd_iload 7 dX8_follow_101 rfl ?_
        refine gd_iconst (x9 := 1) dX8_follow_103 (by decide) ?_
        refine gd_iadd dX8_follow_104 ?_
        refine gd_putIn fX8_85 rfl rfl dX8_follow_105 (fun v6 ev6 => ?_)
        have h := h v6 ev6
        refine gd_aload_n 3 dX8_follow_108 rfl rfl ?_
        refine gd_getR (x := a1) (kr := 14) fX8_52 rfl rfl dX8_follow_109 rfl ?_
        refine gd_iload 0 dX8_follow_112 rfl ?_
        obtain ⟨hb, h⟩ := h
        refine gd_aaload (n := 24) (kr := 9) (y := 24 * a1 + (r4 : Int32).toNatClampNeg) (by decide) rfl rfl dX8_follow_114 rfl hb (if_pos (ab_inlt hb)) ?_
        refine gd_getI fX8_82 rfl dX8_follow_115 ?_
        refine gd_nmI (fun x7 ex7 => ?_)
        have h := h x7 ex7
        refine gd_istore (L' := [(5, zI x7), (8, zI r4), (6, zI (a6 ||| (1 <<< (a5 &&& 31)))), (0, zR 8 a0), (1, zR 2 a1), (2, zR 5 a2), (4, zI a4), (7, zI a7)]) dX8_follow_118 (by decide) rfl ?_
        refine gd_iinc (x9 := a7 + 1) (L' := [(7, zI (a7 + 1)), (5, zI x7), (8, zI r4), (6, zI (a6 ||| (1 <<< (a5 &&& 31)))), (0, zR 8 a0), (1, zR 2 a1), (2, zR 5 a2), (4, zI a4)]) 7 dX8_follow_120 rfl rfl (by decide) rfl ?_
        refine gd_goto (tgt := 43) dX8_follow_123 (by decide) ?_
        refine gd_locals [4, 5, 6, 7, 1, 3, 0] rfl ?_
        exact h
      · have h := h.2 hc
        refine gd_iconst (x9 := 0) dX8_follow_89 (by decide) ?_
        exact gd_iret (ty := .boolean) dX8_follow_90 rfl rfl h
theorem c_X8_follow {g : ab_E} {d : Nat} {a0 : Nat} {a1 : Nat} {a2 : Nat} {a3 : Int32} {v : gd_D} {Q : ab_O → gd_D → Prop} (hd : 0 ≤ d) (h : wp_X8_follow g d a0 a1 a2 a3 v Q) : gd_C g mX8_follow d 0 0 [zR 8 a0, zR 2 a1, zR 5 a2, zI a3] v Q := gd_enterF (plainFor_of_name (by decide)) (Nat.le_of_ble_eq_true rfl) rfl (w_X8_follow hd h)
def wp_X8_nextOf (g : ab_E) (d : Nat) (a0 : Nat) (a1 : Nat) (a2 : Int32) (a3 : Int32) (v : gd_D) (Q : ab_O → gd_D → Prop) : Prop :=
  gd_G g mX8_nextOf d 0 0 3 [(0, zR 2 a0), (1, zR 5 a1), (2, zI a2), (3, zI a3), (4, zI 0)] [] v Q
theorem w_X8_nextOf {g : ab_E} {d : Nat} {a0 : Nat} {a1 : Nat} {a2 : Int32} {a3 : Int32} {v : gd_D} {Q : ab_O → gd_D → Prop} (hd : 0 ≤ d) (h : wp_X8_nextOf g d a0 a1 a2 a3 v Q) : gd_G g mX8_nextOf d 0 0 0 [(0, zR 2 a0), (1, zR 5 a1), (2, zI a2), (3, zI a3)] [] v Q := by
  unfold wp_X8_nextOf at h
  refine gd_iconst (x9 := 0) dX8_nextOf_0 (by decide) ?_
  refine gd_istore (L' := [(4, zI 0), (0, zR 2 a0), (1, zR 5 a1), (2, zI a2), (3, zI a3)]) dX8_nextOf_1 (by decide) rfl ?_
  refine gd_locals [1, 2, 3, 4, 0] rfl ?_
  exact h
def wp_X8_nextOf_3 (g : ab_E) (d : Nat) (a0 : Nat) (a1 : Nat) (a2 : Int32) (a3 : Int32) (a4 : Int32) (v : gd_D) (Q : ab_O → gd_D → Prop) : Prop :=
  (((v.1 5 a1 3 : Int32) ≤ a4) →
    Q (Sum.inl (some (zI (-1)))) v) ∧
  ((¬ (v.1 5 a1 3 : Int32) ≤ a4) →
    vp_in a4 24 ∧
    vp_in (v.1 21 a1 (a4 : Int32).toNatClampNeg) 24 ∧
    ∀ i1 : Nat, i1 = 24 * a0 + (v.1 21 a1 (a4 : Int32).toNatClampNeg : Int32).toNatClampNeg →
    ((¬ (v.1 9 i1 0 : Int32) = a2) →
      gd_G g mX8_nextOf d 0 0 3 [(0, zR 2 a0), (1, zR 5 a1), (2, zI a2), (3, zI a3), (4, zI (a4 + 1))] [] v Q) ∧
    (((v.1 9 i1 0 : Int32) = a2) →
      ((((a3 >>> ((v.1 9 i1 1) &&& 31)) &&& 1 : Int32) = 0) →
        gd_G g mX8_nextOf d 0 0 3 [(0, zR 2 a0), (1, zR 5 a1), (2, zI a2), (3, zI a3), (4, zI (a4 + 1))] [] v Q) ∧
      ((¬ ((a3 >>> ((v.1 9 i1 1) &&& 31)) &&& 1 : Int32) = 0) →
        vp_in a4 24 ∧
        gd_C g mX8_isFit 2 0 0 [zR 2 a0, zI (v.1 21 a1 (a4 : Int32).toNatClampNeg)] v (gd_rI (fun (r3 : Int32) v2 =>
          (((r3 : Int32) = 0) →
            gd_G g mX8_nextOf d 0 0 3 [(0, zR 2 a0), (1, zR 5 a1), (2, zI a2), (3, zI a3), (4, zI (a4 + 1))] [] v2 Q) ∧
          ((¬ (r3 : Int32) = 0) →
            vp_in a4 24 ∧
            Q (Sum.inl (some (zI (v2.1 21 a1 (a4 : Int32).toNatClampNeg)))) v2)) (fun E v9 => Q (Sum.inr E) v9)))))
theorem w_X8_nextOf_3 {g : ab_E} {d : Nat} {a0 : Nat} {a1 : Nat} {a2 : Int32} {a3 : Int32} {a4 : Int32} {v : gd_D} {Q : ab_O → gd_D → Prop} (hd : 3 ≤ d) (h : wp_X8_nextOf_3 g d a0 a1 a2 a3 a4 v Q) : gd_G g mX8_nextOf d 0 0 3 [(0, zR 2 a0), (1, zR 5 a1), (2, zI a2), (3, zI a3), (4, zI a4)] [] v Q := by
  unfold wp_X8_nextOf_3 at h
  refine gd_iload 4 dX8_nextOf_3 rfl ?_
  refine gd_aload_n 1 dX8_nextOf_5 rfl rfl ?_
  refine gd_getI fX8_22 rfl dX8_nextOf_6 ?_
  refine gd_icmp_ge (tgt := 75) dX8_nextOf_9 (by decide) (fun hc => ?_) (fun hc => ?_)
  · have h := h.1 hc
    refine gd_iconst (x9 := (-1)) dX8_nextOf_75 (by decide) ?_
    exact gd_iret (ty := .int) dX8_nextOf_76 rfl rfl h
  · have h := h.2 hc
    refine gd_aload_n 0 dX8_nextOf_12 rfl rfl ?_
    refine gd_getR (x := a0) (kr := 14) fX8_52 rfl rfl dX8_nextOf_13 rfl ?_
    refine gd_aload_n 1 dX8_nextOf_16 rfl rfl ?_
    refine gd_getR (x := a1) (kr := 21) fX8_28 rfl rfl dX8_nextOf_17 rfl ?_
    refine gd_iload 4 dX8_nextOf_20 rfl ?_
    obtain ⟨hb, h⟩ := h
    refine gd_iaload (n := 24) (by decide) rfl dX8_nextOf_22 rfl hb ?_
    obtain ⟨hb, h⟩ := h
    refine gd_aaload (n := 24) (kr := 9) (y := 24 * a0 + (v.1 21 a1 (a4 : Int32).toNatClampNeg : Int32).toNatClampNeg) (by decide) rfl rfl dX8_nextOf_23 rfl hb (if_pos (ab_inlt hb)) ?_
    refine gd_nmR (fun i1 ei1 => ?_)
    have h := h i1 ei1
    refine gd_astore (L' := [(5, zR 9 i1), (0, zR 2 a0), (1, zR 5 a1), (2, zI a2), (3, zI a3), (4, zI a4)]) dX8_nextOf_24 (by decide) rfl ?_
    refine gd_aload 0 dX8_nextOf_26 rfl ?_
    refine gd_getI fX8_79 rfl dX8_nextOf_28 ?_
    refine gd_iload_n 3 dX8_nextOf_31 rfl rfl ?_
    refine gd_icmp_ne (tgt := 69) dX8_nextOf_32 (by decide) (fun hc => ?_) (fun hc => ?_)
    · have h := h.1 hc
      refine gd_iinc (x9 := a4 + 1) (L' := [(4, zI (a4 + 1)), (5, zR 9 i1), (0, zR 2 a0), (1, zR 5 a1), (2, zI a2), (3, zI a3)]) 5 dX8_nextOf_69 rfl rfl (by decide) rfl ?_
      refine gd_goto (tgt := 3) dX8_nextOf_72 (by decide) ?_
      refine gd_locals [2, 3, 4, 5, 0] rfl ?_
      exact h
    · have h := h.2 hc
      refine gd_iload_n 4 dX8_nextOf_35 rfl rfl ?_
      refine gd_aload 0 dX8_nextOf_36 rfl ?_
      refine gd_getI fX8_82 rfl dX8_nextOf_38 ?_
      refine gd_ishr dX8_nextOf_41 ?_
      refine gd_iconst (x9 := 1) dX8_nextOf_42 (by decide) ?_
      refine gd_iand dX8_nextOf_43 ?_
      refine gd_if_eq (tgt := 69) dX8_nextOf_44 (by decide) (fun hc => ?_) (fun hc => ?_)
      · have h := h.1 hc
        refine gd_iinc (x9 := a4 + 1) (L' := [(4, zI (a4 + 1)), (5, zR 9 i1), (0, zR 2 a0), (1, zR 5 a1), (2, zI a2), (3, zI a3)]) 5 dX8_nextOf_69 rfl rfl (by decide) rfl ?_
        refine gd_goto (tgt := 3) dX8_nextOf_72 (by decide) ?_
        refine gd_locals [2, 3, 4, 5, 0] rfl ?_
        exact h
      · have h := h.2 hc
        refine gd_aload_n 1 dX8_nextOf_47 rfl rfl ?_
        refine gd_aload_n 2 dX8_nextOf_48 rfl rfl ?_
        refine gd_getR (x := a1) (kr := 21) fX8_28 rfl rfl dX8_nextOf_49 rfl ?_
        refine gd_iload 5 dX8_nextOf_52 rfl ?_
        obtain ⟨hb, h⟩ := h
        refine gd_iaload (n := 24) (by decide) rfl dX8_nextOf_54 rfl hb ?_
        refine gd_callSI (As := [zR 2 a0, zI (v.1 21 a1 (a4 : Int32).toNatClampNeg)]) (rest := []) (dy := 2) (my := 0) (sy := 0) lX8_31 tX8_isFit dX8_nextOf_55 rfl rfl (gd_room (by omega) (by decide)) (by decide) (Nat.le_of_ble_eq_true rfl) h (fun r3 v2 h => ?_)
        refine gd_if_eq (tgt := 69) dX8_nextOf_58 (by decide) (fun hc => ?_) (fun hc => ?_)
        · have h := h.1 hc
          refine gd_iinc (x9 := a4 + 1) (L' := [(4, zI (a4 + 1)), (5, zR 9 i1), (0, zR 2 a0), (1, zR 5 a1), (2, zI a2), (3, zI a3)]) 5 dX8_nextOf_69 rfl rfl (by decide) rfl ?_
          refine gd_goto (tgt := 3) dX8_nextOf_72 (by decide) ?_
          refine gd_locals [2, 3, 4, 5, 0] rfl ?_
          exact h
        · have h := h.2 hc
          refine gd_aload_n 2 dX8_nextOf_61 rfl rfl ?_
          refine gd_getR (x := a1) (kr := 21) fX8_28 rfl rfl dX8_nextOf_62 rfl ?_
          refine gd_iload 5 dX8_nextOf_65 rfl ?_
          obtain ⟨hb, h⟩ := h
          refine gd_iaload (n := 24) (by decide) rfl dX8_nextOf_67 rfl hb ?_
          exact gd_iret (ty := .int) dX8_nextOf_68 rfl rfl h
theorem c_X8_nextOf {g : ab_E} {d : Nat} {a0 : Nat} {a1 : Nat} {a2 : Int32} {a3 : Int32} {v : gd_D} {Q : ab_O → gd_D → Prop} (hd : 0 ≤ d) (h : wp_X8_nextOf g d a0 a1 a2 a3 v Q) : gd_C g mX8_nextOf d 0 0 [zR 2 a0, zR 5 a1, zI a2, zI a3] v Q := gd_enterF (plainFor_of_name (by decide)) (Nat.le_of_ble_eq_true rfl) rfl (w_X8_nextOf hd h)
def wp_X8_whoReach (g : ab_E) (d : Nat) (a0 : Nat) (a1 : Int32) (a2 : Int32) (v : gd_D) (Q : ab_O → gd_D → Prop) : Prop :=
  gd_G g mX8_whoReach d 0 0 10 [(0, zR 8 a0), (2, zI a2), (3, zI (1 <<< (a1 &&& 31))), (4, zI 0), (5, zI 0)] [] v Q
theorem w_X8_whoReach {g : ab_E} {d : Nat} {a0 : Nat} {a1 : Int32} {a2 : Int32} {v : gd_D} {Q : ab_O → gd_D → Prop} (hd : 0 ≤ d) (h : wp_X8_whoReach g d a0 a1 a2 v Q) : gd_G g mX8_whoReach d 0 0 0 [(0, zR 8 a0), (1, zI a1), (2, zI a2)] [] v Q := by
  unfold wp_X8_whoReach at h
  refine gd_iconst (x9 := 1) dX8_whoReach_0 (by decide) ?_
  refine gd_iload_n 1 dX8_whoReach_1 rfl rfl ?_
  refine gd_ishl dX8_whoReach_2 ?_
  refine gd_istore_n (L' := [(3, zI (1 <<< (a1 &&& 31))), (0, zR 8 a0), (1, zI a1), (2, zI a2)]) dX8_whoReach_3 rfl (by decide) rfl ?_
  refine gd_iconst (x9 := 0) dX8_whoReach_4 (by decide) ?_
  refine gd_istore (L' := [(4, zI 0), (3, zI (1 <<< (a1 &&& 31))), (0, zR 8 a0), (1, zI a1), (2, zI a2)]) dX8_whoReach_5 (by decide) rfl ?_
  refine gd_iconst (x9 := 0) dX8_whoReach_7 (by decide) ?_
  refine gd_istore (L' := [(5, zI 0), (4, zI 0), (3, zI (1 <<< (a1 &&& 31))), (0, zR 8 a0), (1, zI a1), (2, zI a2)]) dX8_whoReach_8 (by decide) rfl ?_
  refine gd_locals [3, 5, 2, 1, 0] rfl ?_
  exact h
def wp_X8_whoReach_10 (g : ab_E) (d : Nat) (a0 : Nat) (a2 : Int32) (a3 : Int32) (a4 : Int32) (a5 : Int32) (v : gd_D) (Q : ab_O → gd_D → Prop) : Prop :=
  (((8 : Int32) ≤ a5) →
    Q (Sum.inl (some (zI a3))) v) ∧
  ((¬ (8 : Int32) ≤ a5) →
    (((a3 : Int32) = a4) →
      Q (Sum.inl (some (zI a3))) v) ∧
    ((¬ (a3 : Int32) = a4) →
      gd_G g mX8_whoReach d 0 0 29 [(0, zR 8 a0), (2, zI a2), (3, zI a3), (4, zI a3), (5, zI a5), (6, zI 0)] [] v Q))
theorem w_X8_whoReach_10 {g : ab_E} {d : Nat} {a0 : Nat} {a2 : Int32} {a3 : Int32} {a4 : Int32} {a5 : Int32} {v : gd_D} {Q : ab_O → gd_D → Prop} (hd : 0 ≤ d) (h : wp_X8_whoReach_10 g d a0 a2 a3 a4 a5 v Q) : gd_G g mX8_whoReach d 0 0 10 [(0, zR 8 a0), (2, zI a2), (3, zI a3), (4, zI a4), (5, zI a5)] [] v Q := by
  unfold wp_X8_whoReach_10 at h
  refine gd_iload 4 dX8_whoReach_10 rfl ?_
  refine gd_bipush (x9 := 8) dX8_whoReach_12 (by decide) ?_
  refine gd_icmp_ge (tgt := 76) dX8_whoReach_14 (by decide) (fun hc => ?_) (fun hc => ?_)
  · have h := h.1 hc
    refine gd_iload_n 2 dX8_whoReach_76 rfl rfl ?_
    exact gd_iret (ty := .int) dX8_whoReach_77 rfl rfl h
  · have h := h.2 hc
    refine gd_iload_n 2 dX8_whoReach_17 rfl rfl ?_
    refine gd_iload 3 dX8_whoReach_18 rfl ?_
    refine gd_icmp_eq (tgt := 76) dX8_whoReach_20 (by decide) (fun hc => ?_) (fun hc => ?_)
    · have h := h.1 hc
      refine gd_iload_n 2 dX8_whoReach_76 rfl rfl ?_
      exact gd_iret (ty := .int) dX8_whoReach_77 rfl rfl h
    · have h := h.2 hc
      refine gd_iload_n 2 dX8_whoReach_23 rfl rfl ?_
      refine gd_istore (L' := [(4, zI a3), (0, zR 8 a0), (2, zI a2), (3, zI a3), (5, zI a5)]) dX8_whoReach_24 (by decide) rfl ?_
      refine gd_iconst (x9 := 0) dX8_whoReach_26 (by decide) ?_
      refine gd_istore (L' := [(6, zI 0), (4, zI a3), (0, zR 8 a0), (2, zI a2), (3, zI a3), (5, zI a5)]) dX8_whoReach_27 (by decide) rfl ?_
      refine gd_locals [2, 3, 4, 1, 5, 0] rfl ?_
      exact h
def wp_X8_whoReach_29 (g : ab_E) (d : Nat) (a0 : Nat) (a2 : Int32) (a3 : Int32) (a4 : Int32) (a5 : Int32) (a6 : Int32) (v : gd_D) (Q : ab_O → gd_D → Prop) : Prop :=
  (((8 : Int32) ≤ a6) →
    gd_G g mX8_whoReach d 0 0 10 [(0, zR 8 a0), (2, zI a2), (3, zI a3), (4, zI a4), (5, zI (a5 + 1))] [] v Q) ∧
  ((¬ (8 : Int32) ≤ a6) →
    ((¬ ((a2 >>> (a6 &&& 31)) &&& 1 : Int32) = 0) →
      gd_G g mX8_whoReach d 0 0 29 [(0, zR 8 a0), (2, zI a2), (3, zI a3), (4, zI a4), (5, zI a5), (6, zI (a6 + 1))] [] v Q) ∧
    ((((a2 >>> (a6 &&& 31)) &&& 1 : Int32) = 0) →
      vp_in a6 8 ∧
      ((((v.1 37 a0 (a6 : Int32).toNatClampNeg) &&& a3 : Int32) = 0) →
        gd_G g mX8_whoReach d 0 0 29 [(0, zR 8 a0), (2, zI a2), (3, zI a3), (4, zI a4), (5, zI a5), (6, zI (a6 + 1))] [] v Q) ∧
      ((¬ ((v.1 37 a0 (a6 : Int32).toNatClampNeg) &&& a3 : Int32) = 0) →
        gd_G g mX8_whoReach d 0 0 29 [(0, zR 8 a0), (2, zI a2), (3, zI (a3 ||| (1 <<< (a6 &&& 31)))), (4, zI a4), (5, zI a5), (6, zI (a6 + 1))] [] v Q)))
theorem w_X8_whoReach_29 {g : ab_E} {d : Nat} {a0 : Nat} {a2 : Int32} {a3 : Int32} {a4 : Int32} {a5 : Int32} {a6 : Int32} {v : gd_D} {Q : ab_O → gd_D → Prop} (hd : 0 ≤ d) (h : wp_X8_whoReach_29 g d a0 a2 a3 a4 a5 a6 v Q) : gd_G g mX8_whoReach d 0 0 29 [(0, zR 8 a0), (2, zI a2), (3, zI a3), (4, zI a4), (5, zI a5), (6, zI a6)] [] v Q := by
  unfold wp_X8_whoReach_29 at h
  refine gd_iload 5 dX8_whoReach_29 rfl ?_
  refine gd_bipush (x9 := 8) dX8_whoReach_31 (by decide) ?_
  refine gd_icmp_ge (tgt := 70) dX8_whoReach_33 (by decide) (fun hc => ?_) (fun hc => ?_)
  · have h := h.1 hc
    refine gd_iinc (x9 := a5 + 1) (L' := [(5, zI (a5 + 1)), (0, zR 8 a0), (2, zI a2), (3, zI a3), (4, zI a4), (6, zI a6)]) 4 dX8_whoReach_70 rfl rfl (by decide) rfl ?_
    refine gd_goto (tgt := 10) dX8_whoReach_73 (by decide) ?_
    refine gd_locals [1, 2, 3, 4, 0] rfl ?_
    exact h
  · have h := h.2 hc
    refine gd_iload_n 1 dX8_whoReach_36 rfl rfl ?_
    refine gd_iload 5 dX8_whoReach_37 rfl ?_
    refine gd_ishr dX8_whoReach_39 ?_
    refine gd_iconst (x9 := 1) dX8_whoReach_40 (by decide) ?_
    refine gd_iand dX8_whoReach_41 ?_
    refine gd_if_ne (tgt := 64) dX8_whoReach_42 (by decide) (fun hc => ?_) (fun hc => ?_)
    · have h := h.1 hc
      refine gd_iinc (x9 := a6 + 1) (L' := [(6, zI (a6 + 1)), (0, zR 8 a0), (2, zI a2), (3, zI a3), (4, zI a4), (5, zI a5)]) 5 dX8_whoReach_64 rfl rfl (by decide) rfl ?_
      refine gd_goto (tgt := 29) dX8_whoReach_67 (by decide) ?_
      refine gd_locals [1, 2, 3, 4, 5, 0] rfl ?_
      exact h
    · have h := h.2 hc
      refine gd_aload_n 0 dX8_whoReach_45 rfl rfl ?_
      refine gd_getR (x := a0) (kr := 37) fX8_15 rfl rfl dX8_whoReach_46 rfl ?_
      refine gd_iload 5 dX8_whoReach_49 rfl ?_
      obtain ⟨hb, h⟩ := h
      refine gd_iaload (n := 8) (by decide) rfl dX8_whoReach_51 rfl hb ?_
      refine gd_iload_n 2 dX8_whoReach_52 rfl rfl ?_
      refine gd_iand dX8_whoReach_53 ?_
      refine gd_if_eq (tgt := 64) dX8_whoReach_54 (by decide) (fun hc => ?_) (fun hc => ?_)
      · have h := h.1 hc
        refine gd_iinc (x9 := a6 + 1) (L' := [(6, zI (a6 + 1)), (0, zR 8 a0), (2, zI a2), (3, zI a3), (4, zI a4), (5, zI a5)]) 5 dX8_whoReach_64 rfl rfl (by decide) rfl ?_
        refine gd_goto (tgt := 29) dX8_whoReach_67 (by decide) ?_
        refine gd_locals [1, 2, 3, 4, 5, 0] rfl ?_
        exact h
      · have h := h.2 hc
        refine gd_iload_n 2 dX8_whoReach_57 rfl rfl ?_
        refine gd_iconst (x9 := 1) dX8_whoReach_58 (by decide) ?_
        refine gd_iload 5 dX8_whoReach_59 rfl ?_
        refine gd_ishl dX8_whoReach_61 ?_
        refine gd_ior dX8_whoReach_62 ?_
        refine gd_istore_n (L' := [(3, zI (a3 ||| (1 <<< (a6 &&& 31)))), (0, zR 8 a0), (2, zI a2), (4, zI a4), (5, zI a5), (6, zI a6)]) dX8_whoReach_63 rfl (by decide) rfl ?_
        refine gd_iinc (x9 := a6 + 1) (L' := [(6, zI (a6 + 1)), (3, zI (a3 ||| (1 <<< (a6 &&& 31)))), (0, zR 8 a0), (2, zI a2), (4, zI a4), (5, zI a5)]) 5 dX8_whoReach_64 rfl rfl (by decide) rfl ?_
        refine gd_goto (tgt := 29) dX8_whoReach_67 (by decide) ?_
        refine gd_locals [2, 3, 1, 4, 5, 0] rfl ?_
        exact h
theorem c_X8_whoReach {g : ab_E} {d : Nat} {a0 : Nat} {a1 : Int32} {a2 : Int32} {v : gd_D} {Q : ab_O → gd_D → Prop} (hd : 0 ≤ d) (h : wp_X8_whoReach g d a0 a1 a2 v Q) : gd_C g mX8_whoReach d 0 0 [zR 8 a0, zI a1, zI a2] v Q := gd_enterF (plainFor_of_name (by decide)) (Nat.le_of_ble_eq_true rfl) rfl (w_X8_whoReach hd h)
def wp_X8_leastOpen (g : ab_E) (d : Nat) (a0 : Nat) (a1 : Nat) (v : gd_D) (Q : ab_O → gd_D → Prop) : Prop :=
  vp_in 0 8 ∧
  vp_in (v.1 36 a0 (0 : Int32).toNatClampNeg) 24 ∧
  ∀ i1 : Nat, i1 = 24 * a1 + (v.1 36 a0 (0 : Int32).toNatClampNeg : Int32).toNatClampNeg →
  gd_G g mX8_leastOpen d 0 0 17 [(0, zR 8 a0), (1, zR 2 a1), (2, zI (v.1 9 i1 5)), (3, zI 1)] [] v Q
theorem w_X8_leastOpen {g : ab_E} {d : Nat} {a0 : Nat} {a1 : Nat} {v : gd_D} {Q : ab_O → gd_D → Prop} (hd : 0 ≤ d) (h : wp_X8_leastOpen g d a0 a1 v Q) : gd_G g mX8_leastOpen d 0 0 0 [(0, zR 8 a0), (1, zR 2 a1)] [] v Q := by
  unfold wp_X8_leastOpen at h
  refine gd_aload_n 1 dX8_leastOpen_0 rfl rfl ?_
  refine gd_getR (x := a1) (kr := 14) fX8_52 rfl rfl dX8_leastOpen_1 rfl ?_
  refine gd_aload_n 0 dX8_leastOpen_4 rfl rfl ?_
  refine gd_getR (x := a0) (kr := 36) fX8_9 rfl rfl dX8_leastOpen_5 rfl ?_
  refine gd_iconst (x9 := 0) dX8_leastOpen_8 (by decide) ?_
  obtain ⟨hb, h⟩ := h
  refine gd_iaload (n := 8) (by decide) rfl dX8_leastOpen_9 rfl hb ?_
  obtain ⟨hb, h⟩ := h
  refine gd_aaload (n := 24) (kr := 9) (y := 24 * a1 + (v.1 36 a0 (0 : Int32).toNatClampNeg : Int32).toNatClampNeg) (by decide) rfl rfl dX8_leastOpen_10 rfl hb (if_pos (ab_inlt hb)) ?_
  refine gd_nmR (fun i1 ei1 => ?_)
  have h := h i1 ei1
  refine gd_getI fX8_64 rfl dX8_leastOpen_11 ?_
  refine gd_istore_n (L' := [(2, zI (v.1 9 i1 5)), (0, zR 8 a0), (1, zR 2 a1)]) dX8_leastOpen_14 rfl (by decide) rfl ?_
  refine gd_iconst (x9 := 1) dX8_leastOpen_15 (by decide) ?_
  refine gd_istore_n (L' := [(3, zI 1), (2, zI (v.1 9 i1 5)), (0, zR 8 a0), (1, zR 2 a1)]) dX8_leastOpen_16 rfl (by decide) rfl ?_
  refine gd_locals [2, 3, 1, 0] rfl ?_
  exact h
def wp_X8_leastOpen_17 (g : ab_E) (d : Nat) (a0 : Nat) (a1 : Nat) (a2 : Int32) (a3 : Int32) (v : gd_D) (Q : ab_O → gd_D → Prop) : Prop :=
  (((v.1 8 a0 1 : Int32) ≤ a3) →
    Q (Sum.inl (some (zI a2))) v) ∧
  ((¬ (v.1 8 a0 1 : Int32) ≤ a3) →
    vp_in a3 8 ∧
    vp_in (v.1 36 a0 (a3 : Int32).toNatClampNeg) 24 ∧
    ∀ i1 : Nat, i1 = 24 * a1 + (v.1 36 a0 (a3 : Int32).toNatClampNeg : Int32).toNatClampNeg →
    gd_C g mJ9_min_7cf53 2 0 0 [zI a2, zI (v.1 9 i1 5)] v (gd_rI (fun (r3 : Int32) v2 =>
      gd_G g mX8_leastOpen d 0 0 17 [(0, zR 8 a0), (1, zR 2 a1), (2, zI r3), (3, zI (a3 + 1))] [] v2 Q) (fun E v9 => Q (Sum.inr E) v9)))
theorem w_X8_leastOpen_17 {g : ab_E} {d : Nat} {a0 : Nat} {a1 : Nat} {a2 : Int32} {a3 : Int32} {v : gd_D} {Q : ab_O → gd_D → Prop} (hd : 3 ≤ d) (h : wp_X8_leastOpen_17 g d a0 a1 a2 a3 v Q) : gd_G g mX8_leastOpen d 0 0 17 [(0, zR 8 a0), (1, zR 2 a1), (2, zI a2), (3, zI a3)] [] v Q := by
  unfold wp_X8_leastOpen_17 at h
  refine gd_iload_n 3 dX8_leastOpen_17 rfl rfl ?_
  refine gd_aload_n 0 dX8_leastOpen_18 rfl rfl ?_
  refine gd_getI fX8_85 rfl dX8_leastOpen_19 ?_
  refine gd_icmp_ge (tgt := 50) dX8_leastOpen_22 (by decide) (fun hc => ?_) (fun hc => ?_)
  · have h := h.1 hc
    refine gd_iload_n 2 dX8_leastOpen_50 rfl rfl ?_
    exact gd_iret (ty := .int) dX8_leastOpen_51 rfl rfl h
  · have h := h.2 hc
    refine gd_iload_n 2 dX8_leastOpen_25 rfl rfl ?_
    refine gd_aload_n 1 dX8_leastOpen_26 rfl rfl ?_
    refine gd_getR (x := a1) (kr := 14) fX8_52 rfl rfl dX8_leastOpen_27 rfl ?_
    refine gd_aload_n 0 dX8_leastOpen_30 rfl rfl ?_
    refine gd_getR (x := a0) (kr := 36) fX8_9 rfl rfl dX8_leastOpen_31 rfl ?_
    refine gd_iload_n 3 dX8_leastOpen_34 rfl rfl ?_
    obtain ⟨hb, h⟩ := h
    refine gd_iaload (n := 8) (by decide) rfl dX8_leastOpen_35 rfl hb ?_
    obtain ⟨hb, h⟩ := h
    refine gd_aaload (n := 24) (kr := 9) (y := 24 * a1 + (v.1 36 a0 (a3 : Int32).toNatClampNeg : Int32).toNatClampNeg) (by decide) rfl rfl dX8_leastOpen_36 rfl hb (if_pos (ab_inlt hb)) ?_
    refine gd_nmR (fun i1 ei1 => ?_)
    have h := h i1 ei1
    refine gd_getI fX8_64 rfl dX8_leastOpen_37 ?_
    refine gd_callSI (As := [zI a2, zI (v.1 9 i1 5)]) (rest := []) (dy := 2) (my := 0) (sy := 0) lX8_94 tJ9_min_7cf53 dX8_leastOpen_40 rfl rfl (gd_room (by omega) (by decide)) (by decide) (Nat.le_of_ble_eq_true rfl) h (fun r3 v2 h => ?_)
    refine gd_istore_n (L' := [(2, zI r3), (0, zR 8 a0), (1, zR 2 a1), (3, zI a3)]) dX8_leastOpen_43 rfl (by decide) rfl ?_
    refine gd_iinc (x9 := a3 + 1) (L' := [(3, zI (a3 + 1)), (2, zI r3), (0, zR 8 a0), (1, zR 2 a1)]) 3 dX8_leastOpen_44 rfl rfl (by decide) rfl ?_
    refine gd_goto (tgt := 17) dX8_leastOpen_47 (by decide) ?_
    refine gd_locals [2, 3, 1, 0] rfl ?_
    exact h
theorem c_X8_leastOpen {g : ab_E} {d : Nat} {a0 : Nat} {a1 : Nat} {v : gd_D} {Q : ab_O → gd_D → Prop} (hd : 0 ≤ d) (h : wp_X8_leastOpen g d a0 a1 v Q) : gd_C g mX8_leastOpen d 0 0 [zR 8 a0, zR 2 a1] v Q := gd_enterF (plainFor_of_name (by decide)) (Nat.le_of_ble_eq_true rfl) rfl (w_X8_leastOpen hd h)
