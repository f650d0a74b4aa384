def wp_X3_sum (g : ab_E) (d : Nat) (a1 : Nat) (a2 : Int32) (v : gd_D) (Q : ab_O → gd_D → Prop) : Prop :=
  gd_C g mX3_settleAll 3 0 0 [zR 3 0, zR 2 a1] v (gd_rV (fun v1 =>
    gd_G g mX3_sum d 0 0 7 [(0, zR 3 0), (1, zR 2 a1), (2, zI a2), (3, zI 0)] [] v1 Q) (fun E v9 => Q (Sum.inr E) v9))
theorem w_X3_sum {g : ab_E} {d : Nat} {a1 : Nat} {a2 : Int32} {v : gd_D} {Q : ab_O → gd_D → Prop} (hd : 4 ≤ d) (h : wp_X3_sum g d a1 a2 v Q) : gd_G g mX3_sum d 0 0 0 [(0, zR 3 0), (1, zR 2 a1), (2, zI a2)] [] v Q := by
  unfold wp_X3_sum at h
  refine gd_aload_n 0 dX3_sum_0 rfl rfl ?_
  refine gd_aload_n 1 dX3_sum_1 rfl rfl ?_
  refine gd_callVV (As := [zR 2 a1]) (rest := []) (dy := 3) (my := 0) (sy := 0) (k := 3) (i := 0) lX3_28 iX3_settleAll sX3_settleAll rfl dX3_sum_2 rfl rfl (gd_room (by omega) (by decide)) (by decide) (Nat.le_of_ble_eq_true rfl) h (fun v1 h => ?_)
  refine gd_iconst (x9 := 0) dX3_sum_5 (by decide) ?_
  refine gd_istore_n (L' := [(3, zI 0), (0, zR 3 0), (1, zR 2 a1), (2, zI a2)]) dX3_sum_6 rfl (by decide) rfl ?_
  refine gd_locals [1, 2, 3, 0] rfl ?_
  exact h
def wp_X3_sum_60 (g : ab_E) (d : Nat) (a1 : Nat) (a2 : Int32) (v : gd_D) (Q : ab_O → gd_D → Prop) : Prop :=
  gd_G g mX3_sum d 0 0 65 [(0, zR 3 0), (1, zR 2 a1), (2, zI a2), (3, zJ 0), (5, zI 0)] [] v Q
theorem w_X3_sum_60 {g : ab_E} {d : Nat} {a1 : Nat} {a2 : Int32} {v : gd_D} {Q : ab_O → gd_D → Prop} (hd : 0 ≤ d) (h : wp_X3_sum_60 g d a1 a2 v Q) : gd_G g mX3_sum d 0 0 60 [(0, zR 3 0), (1, zR 2 a1), (2, zI a2)] [] v Q := by
  unfold wp_X3_sum_60 at h
  refine gd_lconst (x9 := 0) dX3_sum_60 (by decide) ?_
  refine gd_lstore_n (L' := [(3, zJ 0), (0, zR 3 0), (1, zR 2 a1), (2, zI a2)]) dX3_sum_61 rfl (by decide) rfl ?_
  refine gd_iconst (x9 := 0) dX3_sum_62 (by decide) ?_
  refine gd_istore (L' := [(5, zI 0), (3, zJ 0), (0, zR 3 0), (1, zR 2 a1), (2, zI a2)]) dX3_sum_63 (by decide) rfl ?_
  refine gd_locals [2, 3, 4, 1, 0] rfl ?_
  exact h
def wp_X3_sum_7 (g : ab_E) (d : Nat) (a1 : Nat) (a2 : Int32) (a3 : Int32) (v : gd_D) (Q : ab_O → gd_D → Prop) : Prop :=
  (((24001 : Int32) ≤ a3) →
    wp_X3_sum_60 g d a1 a2 v Q) ∧
  ((¬ (24001 : Int32) ≤ a3) →
    gd_C g mX3_isShort 2 0 0 [zR 3 0, zR 2 a1] v (gd_rI (fun (r2 : Int32) v1 =>
      (((r2 : Int32) = 0) →
        wp_X3_sum_60 g d a1 a2 v1 Q) ∧
      ((¬ (r2 : Int32) = 0) →
        gd_C g mX3_weighLosses 3 0 0 [zR 3 0, zR 2 a1, zI a2] v1 (gd_rV (fun v3 =>
          gd_C g mX3_cheapestEnd 2 0 0 [zR 3 0, zR 2 a1] v3 (gd_rI (fun (r6 : Int32) v5 =>
            (((r6 : Int32) = (-1)) →
              wp_X3_sum_60 g d a1 a2 v5 Q) ∧
            ((¬ (r6 : Int32) = (-1)) →
              gd_C g mX3_takeBack 3 0 0 [zR 3 0, zR 2 a1, zI r6] v5 (gd_rI (fun (r8 : Int32) v7 =>
                ((¬ (r8 : Int32) = 0) →
                  gd_G g mX3_sum d 0 0 7 [(0, zR 3 0), (1, zR 2 a1), (2, zI a2), (3, zI (a3 + 1))] [] v7 Q) ∧
                (((r8 : Int32) = 0) →
                  wp_X3_sum_60 g d a1 a2 v7 Q)) (fun E v9 => Q (Sum.inr E) v9)))) (fun E v9 => Q (Sum.inr E) v9))) (fun E v9 => Q (Sum.inr E) v9)))) (fun E v9 => Q (Sum.inr E) v9)))
theorem w_X3_sum_7 {g : ab_E} {d : Nat} {a1 : Nat} {a2 : Int32} {a3 : Int32} {v : gd_D} {Q : ab_O → gd_D → Prop} (hd : 4 ≤ d) (h : wp_X3_sum_7 g d a1 a2 a3 v Q) : gd_G g mX3_sum d 0 0 7 [(0, zR 3 0), (1, zR 2 a1), (2, zI a2), (3, zI a3)] [] v Q := by
  unfold wp_X3_sum_7 at h
  refine gd_iload_n 3 dX3_sum_7 rfl rfl ?_
  refine gd_sipush (x9 := 24001) dX3_sum_8 (by decide) ?_
  refine gd_icmp_ge (tgt := 60) dX3_sum_11 (by decide) (fun hc => ?_) (fun hc => ?_)
  · have h := h.1 hc
    refine gd_locals [0, 1, 2] rfl ?_
    exact w_X3_sum_60 (by omega) h
  · have h := h.2 hc
    refine gd_aload_n 0 dX3_sum_14 rfl rfl ?_
    refine gd_aload_n 1 dX3_sum_15 rfl rfl ?_
    refine gd_callVI (As := [zR 2 a1]) (rest := []) (dy := 2) (my := 0) (sy := 0) (k := 3) (i := 0) lX3_32 iX3_isShort sX3_isShort rfl dX3_sum_16 rfl rfl (gd_room (by omega) (by decide)) (by decide) (Nat.le_of_ble_eq_true rfl) h (fun r2 v1 h => ?_)
    refine gd_if_eq (tgt := 60) dX3_sum_19 (by decide) (fun hc => ?_) (fun hc => ?_)
    · have h := h.1 hc
      refine gd_locals [0, 1, 2] rfl ?_
      exact w_X3_sum_60 (by omega) h
    · have h := h.2 hc
      refine gd_aload_n 0 dX3_sum_22 rfl rfl ?_
      refine gd_aload_n 1 dX3_sum_23 rfl rfl ?_
      refine gd_iload_n 2 dX3_sum_24 rfl rfl ?_
      refine gd_callVV (As := [zR 2 a1, zI a2]) (rest := []) (dy := 3) (my := 0) (sy := 0) (k := 3) (i := 0) lX3_36 iX3_weighLosses sX3_weighLosses rfl dX3_sum_25 rfl rfl (gd_room (by omega) (by decide)) (by decide) (Nat.le_of_ble_eq_true rfl) h (fun v3 h => ?_)
      refine gd_aload_n 0 dX3_sum_28 rfl rfl ?_
      refine gd_aload_n 1 dX3_sum_29 rfl rfl ?_
      refine gd_callVI (As := [zR 2 a1]) (rest := []) (dy := 2) (my := 0) (sy := 0) (k := 3) (i := 0) lX3_40 iX3_cheapestEnd sX3_cheapestEnd rfl dX3_sum_30 rfl rfl (gd_room (by omega) (by decide)) (by decide) (Nat.le_of_ble_eq_true rfl) h (fun r6 v5 h => ?_)
      refine gd_istore (L' := [(4, zI r6), (0, zR 3 0), (1, zR 2 a1), (2, zI a2), (3, zI a3)]) dX3_sum_33 (by decide) rfl ?_
      refine gd_iload 0 dX3_sum_35 rfl ?_
      refine gd_iconst (x9 := (-1)) dX3_sum_37 (by decide) ?_
      refine gd_icmp_eq (tgt := 60) dX3_sum_38 (by decide) (fun hc => ?_) (fun hc => ?_)
      · have h := h.1 hc
        refine gd_locals [1, 2, 3] rfl ?_
        exact w_X3_sum_60 (by omega) h
      · have h := h.2 hc
        refine gd_aload_n 1 dX3_sum_41 rfl rfl ?_
        refine gd_aload_n 2 dX3_sum_42 rfl rfl ?_
        refine gd_iload 0 dX3_sum_43 rfl ?_
        refine gd_callVI (As := [zR 2 a1, zI r6]) (rest := []) (dy := 3) (my := 0) (sy := 0) (k := 3) (i := 0) lX3_44 iX3_takeBack sX3_takeBack rfl dX3_sum_45 rfl rfl (gd_room (by omega) (by decide)) (by decide) (Nat.le_of_ble_eq_true rfl) h (fun r8 v7 h => ?_)
        refine gd_if_ne (tgt := 54) dX3_sum_48 (by decide) (fun hc => ?_) (fun hc => ?_)
        · have h := h.1 hc
          refine gd_iinc (x9 := a3 + 1) (L' := [(3, zI (a3 + 1)), (4, zI r6), (0, zR 3 0), (1, zR 2 a1), (2, zI a2)]) 4 dX3_sum_54 rfl rfl (by decide) rfl ?_
          refine gd_goto (tgt := 7) dX3_sum_57 (by decide) ?_
          refine gd_locals [2, 3, 4, 0] rfl ?_
          exact h
        · have h := h.2 hc
          refine gd_goto (tgt := 60) dX3_sum_51 (by decide) ?_
          refine gd_locals [1, 2, 3] rfl ?_
          exact w_X3_sum_60 (by omega) h
def wp_X3_sum_65 (g : ab_E) (d : Nat) (a1 : Nat) (a2 : Int32) (a3 : Int64) (a5 : Int32) (v : gd_D) (Q : ab_O → gd_D → Prop) : Prop :=
  (((v.1 2 a1 3 : Int32) ≤ a5) →
    Q (Sum.inl (some (zJ a3))) v) ∧
  ((¬ (v.1 2 a1 3 : Int32) ≤ a5) →
    vp_in a5 24 ∧
    ∀ y1 : Int64, y1 = (v.1 16 0 (a5 : Int32).toNatClampNeg : Int32).toInt64 →
    vp_in a5 24 ∧
    gd_C g mX3_gain 2 0 0 [zR 9 (24 * a1 + (a5 : Int32).toNatClampNeg), zI a2] v (gd_rJ (fun (r3 : Int64) v2 =>
      gd_G g mX3_sum d 0 0 65 [(0, zR 3 0), (1, zR 2 a1), (2, zI a2), (3, zJ (a3 + (y1 * r3))), (5, zI (a5 + 1))] [] v2 Q) (fun E v9 => Q (Sum.inr E) v9)))
theorem w_X3_sum_65 {g : ab_E} {d : Nat} {a1 : Nat} {a2 : Int32} {a3 : Int64} {a5 : Int32} {v : gd_D} {Q : ab_O → gd_D → Prop} (hd : 3 ≤ d) (h : wp_X3_sum_65 g d a1 a2 a3 a5 v Q) : gd_G g mX3_sum d 0 0 65 [(0, zR 3 0), (1, zR 2 a1), (2, zI a2), (3, zJ a3), (5, zI a5)] [] v Q := by
  unfold wp_X3_sum_65 at h
  refine gd_iload 4 dX3_sum_65 rfl ?_
  refine gd_aload_n 1 dX3_sum_67 rfl rfl ?_
  refine gd_getI fX3_48 rfl dX3_sum_68 ?_
  refine gd_icmp_ge (tgt := 103) dX3_sum_71 (by decide) (fun hc => ?_) (fun hc => ?_)
  · have h := h.1 hc
    refine gd_lload_n 3 dX3_sum_103 rfl rfl ?_
    exact gd_lret dX3_sum_104 rfl h
  · have h := h.2 hc
    refine gd_lload_n 3 dX3_sum_74 rfl rfl ?_
    refine gd_aload_n 0 dX3_sum_75 rfl rfl ?_
    refine gd_getR (x := 0) (kr := 16) fX3_9 rfl rfl dX3_sum_76 rfl ?_
    refine gd_iload 4 dX3_sum_79 rfl ?_
    obtain ⟨hb, h⟩ := h
    refine gd_iaload (n := 24) (by decide) rfl dX3_sum_81 rfl hb ?_
    refine gd_i2l dX3_sum_82 ?_
    refine gd_nmJ (fun y1 ey1 => ?_)
    have h := h y1 ey1
    refine gd_aload_n 1 dX3_sum_83 rfl rfl ?_
    refine gd_getR (x := a1) (kr := 14) fX3_54 rfl rfl dX3_sum_84 rfl ?_
    refine gd_iload 4 dX3_sum_87 rfl ?_
    obtain ⟨hb, h⟩ := h
    refine gd_aaload (n := 24) (kr := 9) (y := 24 * a1 + (a5 : Int32).toNatClampNeg) (by decide) rfl rfl dX3_sum_89 rfl hb (if_pos (ab_inlt hb)) ?_
    refine gd_iload_n 2 dX3_sum_90 rfl rfl ?_
    refine gd_callSJ (As := [zR 9 (24 * a1 + (a5 : Int32).toNatClampNeg), zI a2]) (rest := [zJ y1, zJ a3]) (dy := 2) (my := 0) (sy := 0) lX3_58 tX3_gain dX3_sum_91 rfl rfl (gd_room (by omega) (by decide)) (by decide) (Nat.le_of_ble_eq_true rfl) h (fun r3 v2 h => ?_)
    refine gd_lmul dX3_sum_94 ?_
    refine gd_ladd dX3_sum_95 ?_
    refine gd_lstore_n (L' := [(3, zJ (a3 + (y1 * r3))), (0, zR 3 0), (1, zR 2 a1), (2, zI a2), (5, zI a5)]) dX3_sum_96 rfl (by decide) rfl ?_
    refine gd_iinc (x9 := a5 + 1) (L' := [(5, zI (a5 + 1)), (3, zJ (a3 + (y1 * r3))), (0, zR 3 0), (1, zR 2 a1), (2, zI a2)]) 4 dX3_sum_97 rfl rfl (by decide) rfl ?_
    refine gd_goto (tgt := 65) dX3_sum_100 (by decide) ?_
    refine gd_locals [2, 3, 4, 1, 0] rfl ?_
    exact h
theorem c_X3_sum {g : ab_E} {d : Nat} {a1 : Nat} {a2 : Int32} {v : gd_D} {Q : ab_O → gd_D → Prop} (hd : 4 ≤ d) (h : wp_X3_sum g d a1 a2 v Q) : gd_C g mX3_sum d 0 0 [zR 3 0, zR 2 a1, zI a2] v Q := gd_enterF (plainFor_of_name (by decide)) (Nat.le_of_ble_eq_true rfl) rfl (w_X3_sum hd h)
def wp_X3_gain (g : ab_E) (d : Nat) (a0 : Nat) (a1 : Int32) (v : gd_D) (Q : ab_O → gd_D → Prop) : Prop :=
  (((a1 : Int32) = 0) →
    Q (Sum.inl (some (zJ 1))) v) ∧
  ((¬ (a1 : Int32) = 0) →
    Q (Sum.inl (some (zJ ((v.1 9 a0 3 : Int32).toInt64)))) v)
theorem w_X3_gain {g : ab_E} {d : Nat} {a0 : Nat} {a1 : Int32} {v : gd_D} {Q : ab_O → gd_D → Prop} (hd : 0 ≤ d) (h : wp_X3_gain g d a0 a1 v Q) : gd_G g mX3_gain d 0 0 0 [(0, zR 9 a0), (1, zI a1)] [] v Q := by
  unfold wp_X3_gain at h
  refine gd_iload_n 1 dX3_gain_0 rfl rfl ?_
  refine gd_if_eq (tgt := 12) dX3_gain_1 (by decide) (fun hc => ?_) (fun hc => ?_)
  · have h := h.1 hc
    refine gd_lconst (x9 := 1) dX3_gain_12 (by decide) ?_
    exact gd_lret dX3_gain_13 rfl h
  · have h := h.2 hc
    refine gd_aload_n 0 dX3_gain_4 rfl rfl ?_
    refine gd_getI fX3_62 rfl dX3_gain_5 ?_
    refine gd_i2l dX3_gain_8 ?_
    refine gd_goto (tgt := 13) dX3_gain_9 (by decide) ?_
    exact gd_lret dX3_gain_13 rfl h
theorem c_X3_gain {g : ab_E} {d : Nat} {a0 : Nat} {a1 : Int32} {v : gd_D} {Q : ab_O → gd_D → Prop} (hd : 0 ≤ d) (h : wp_X3_gain g d a0 a1 v Q) : gd_C g mX3_gain d 0 0 [zR 9 a0, zI a1] v Q := gd_enterF (plainFor_of_name (by decide)) (Nat.le_of_ble_eq_true rfl) rfl (w_X3_gain hd h)
def wp_X3_settleAll (g : ab_E) (d : Nat) (a1 : Nat) (v : gd_D) (Q : ab_O → gd_D → Prop) : Prop :=
  gd_G g mX3_settleAll d 0 0 2 [(0, zR 3 0), (1, zR 2 a1), (2, zI 0)] [] v Q
theorem w_X3_settleAll {g : ab_E} {d : Nat} {a1 : Nat} {v : gd_D} {Q : ab_O → gd_D → Prop} (hd : 0 ≤ d) (h : wp_X3_settleAll g d a1 v Q) : gd_G g mX3_settleAll d 0 0 0 [(0, zR 3 0), (1, zR 2 a1)] [] v Q := by
  unfold wp_X3_settleAll at h
  refine gd_iconst (x9 := 0) dX3_settleAll_0 (by decide) ?_
  refine gd_istore_n (L' := [(2, zI 0), (0, zR 3 0), (1, zR 2 a1)]) dX3_settleAll_1 rfl (by decide) rfl ?_
  refine gd_locals [1, 2, 0] rfl ?_
  exact h
def wp_X3_settleAll_2 (g : ab_E) (d : Nat) (a1 : Nat) (a2 : Int32) (v : gd_D) (Q : ab_O → gd_D → Prop) : Prop :=
  (((v.1 2 a1 2 : Int32) ≤ a2) →
    gd_G g mX3_settleAll d 0 0 34 [(0, zR 3 0), (1, zR 2 a1), (2, zI 0)] [] v Q) ∧
  ((¬ (v.1 2 a1 2 : Int32) ≤ a2) →
    vp_in a2 8 ∧
    ∀ y1 : Int64, y1 = (v.1 0 (8 * a1 + (a2 : Int32).toNatClampNeg) 0 : Int32).toInt64 →
    vp_in a2 8 ∧
    ∀ v2 : gd_D, v2 = gd_sJ v 18 0 ((a2 : Int32).toNatClampNeg) y1 →
    gd_G g mX3_settleAll d 0 0 2 [(0, zR 3 0), (1, zR 2 a1), (2, zI (a2 + 1))] [] v2 Q)
theorem w_X3_settleAll_2 {g : ab_E} {d : Nat} {a1 : Nat} {a2 : Int32} {v : gd_D} {Q : ab_O → gd_D → Prop} (hd : 0 ≤ d) (h : wp_X3_settleAll_2 g d a1 a2 v Q) : gd_G g mX3_settleAll d 0 0 2 [(0, zR 3 0), (1, zR 2 a1), (2, zI a2)] [] v Q := by
  unfold wp_X3_settleAll_2 at h
  refine gd_iload_n 2 dX3_settleAll_2 rfl rfl ?_
  refine gd_aload_n 1 dX3_settleAll_3 rfl rfl ?_
  refine gd_getI fX3_67 rfl dX3_settleAll_4 ?_
  refine gd_icmp_ge (tgt := 32) dX3_settleAll_7 (by decide) (fun hc => ?_) (fun hc => ?_)
  · have h := h.1 hc
    refine gd_iconst (x9 := 0) dX3_settleAll_32 (by decide) ?_
    refine gd_istore_n (L' := [(2, zI 0), (0, zR 3 0), (1, zR 2 a1)]) dX3_settleAll_33 rfl (by decide) rfl ?_
    refine gd_locals [1, 2, 0] rfl ?_
    exact h
  · have h := h.2 hc
    refine gd_aload_n 0 dX3_settleAll_10 rfl rfl ?_
    refine gd_getR (x := 0) (kr := 18) fX3_18 rfl rfl dX3_settleAll_11 rfl ?_
    refine gd_iload_n 2 dX3_settleAll_14 rfl rfl ?_
    refine gd_aload_n 1 dX3_settleAll_15 rfl rfl ?_
    refine gd_getR (x := a1) (kr := 13) fX3_70 rfl rfl dX3_settleAll_16 rfl ?_
    refine gd_iload_n 2 dX3_settleAll_19 rfl rfl ?_
    obtain ⟨hb, h⟩ := h
    refine gd_aaload (n := 8) (kr := 0) (y := 8 * a1 + (a2 : Int32).toNatClampNeg) (by decide) rfl rfl dX3_settleAll_20 rfl hb (if_pos (ab_inlt hb)) ?_
    refine gd_getI fX3_74 rfl dX3_settleAll_21 ?_
    refine gd_i2l dX3_settleAll_24 ?_
    refine gd_nmJ (fun y1 ey1 => ?_)
    have h := h y1 ey1
    obtain ⟨hb, h⟩ := h
    refine gd_lastoren (n := 8) (by decide) rfl rfl dX3_settleAll_25 rfl hb (fun v2 ev2 => ?_)
    have h := h v2 ev2
    refine gd_iinc (x9 := a2 + 1) (L' := [(2, zI (a2 + 1)), (0, zR 3 0), (1, zR 2 a1)]) 2 dX3_settleAll_26 rfl rfl (by decide) rfl ?_
    refine gd_goto (tgt := 2) dX3_settleAll_29 (by decide) ?_
    refine gd_locals [1, 2, 0] rfl ?_
    exact h
def wp_X3_settleAll_68 (g : ab_E) (d : Nat) (a1 : Nat) (a2 : Int32) (s1 : Int32) (s2 : Int32) (v : gd_D) (Q : ab_O → gd_D → Prop) : Prop :=
  vp_in s1 24 ∧
  ∀ v1 : gd_D, v1 = gd_sI v 17 0 ((s1 : Int32).toNatClampNeg) s2 →
  vp_in a2 24 ∧
  vp_in a2 24 ∧
  ∀ v2 : gd_D, v2 = gd_sI v1 16 0 ((a2 : Int32).toNatClampNeg) (v1.1 17 0 (a2 : Int32).toNatClampNeg) →
  vp_in a2 24 ∧
  ∀ x3 : Int32, x3 = v2.1 9 (24 * a1 + (a2 : Int32).toNatClampNeg) 0 →
  vp_in x3 8 ∧
  vp_in a2 24 ∧
  ∀ y4 : Int64, y4 = (v2.1 17 0 (a2 : Int32).toNatClampNeg : Int32).toInt64 →
  vp_in x3 8 ∧
  ∀ v5 : gd_D, v5 = gd_sJ v2 18 0 ((x3 : Int32).toNatClampNeg) ((v2.2.1 18 0 (x3 : Int32).toNatClampNeg) - y4) →
  vp_in a2 24 ∧
  ∀ x6 : Int32, x6 = v5.1 9 (24 * a1 + (a2 : Int32).toNatClampNeg) 1 →
  vp_in x6 8 ∧
  vp_in a2 24 ∧
  ∀ y7 : Int64, y7 = (v5.1 17 0 (a2 : Int32).toNatClampNeg : Int32).toInt64 →
  vp_in x6 8 ∧
  ∀ v8 : gd_D, v8 = gd_sJ v5 18 0 ((x6 : Int32).toNatClampNeg) ((v5.2.1 18 0 (x6 : Int32).toNatClampNeg) + y7) →
  gd_G g mX3_settleAll d 0 0 34 [(0, zR 3 0), (1, zR 2 a1), (2, zI (a2 + 1))] [] v8 Q
theorem w_X3_settleAll_68 {g : ab_E} {d : Nat} {a1 : Nat} {a2 : Int32} {s1 : Int32} {s2 : Int32} {v : gd_D} {Q : ab_O → gd_D → Prop} (hd : 0 ≤ d) (h : wp_X3_settleAll_68 g d a1 a2 s1 s2 v Q) : gd_G g mX3_settleAll d 0 0 68 [(0, zR 3 0), (1, zR 2 a1), (2, zI a2)] [zI s2, zI s1, zR 17 0] v Q := by
  unfold wp_X3_settleAll_68 at h
  obtain ⟨hb, h⟩ := h
  refine gd_iastoren (n := 24) (by decide) rfl rfl dX3_settleAll_68 rfl hb (fun v1 ev1 => ?_)
  have h := h v1 ev1
  refine gd_aload_n 0 dX3_settleAll_69 rfl rfl ?_
  refine gd_getR (x := 0) (kr := 16) fX3_9 rfl rfl dX3_settleAll_70 rfl ?_
  refine gd_iload_n 2 dX3_settleAll_73 rfl rfl ?_
  refine gd_aload_n 0 dX3_settleAll_74 rfl rfl ?_
  refine gd_getR (x := 0) (kr := 17) fX3_15 rfl rfl dX3_settleAll_75 rfl ?_
  refine gd_iload_n 2 dX3_settleAll_78 rfl rfl ?_
  obtain ⟨hb, h⟩ := h
  refine gd_iaload (n := 24) (by decide) rfl dX3_settleAll_79 rfl hb ?_
  obtain ⟨hb, h⟩ := h
  refine gd_iastoren (n := 24) (by decide) rfl rfl dX3_settleAll_80 rfl hb (fun v2 ev2 => ?_)
  have h := h v2 ev2
  refine gd_aload_n 0 dX3_settleAll_81 rfl rfl ?_
  refine gd_getR (x := 0) (kr := 18) fX3_18 rfl rfl dX3_settleAll_82 rfl ?_
  refine gd_aload_n 1 dX3_settleAll_85 rfl rfl ?_
  refine gd_getR (x := a1) (kr := 14) fX3_54 rfl rfl dX3_settleAll_86 rfl ?_
  refine gd_iload_n 2 dX3_settleAll_89 rfl rfl ?_
  obtain ⟨hb, h⟩ := h
  refine gd_aaload (n := 24) (kr := 9) (y := 24 * a1 + (a2 : Int32).toNatClampNeg) (by decide) rfl rfl dX3_settleAll_90 rfl hb (if_pos (ab_inlt hb)) ?_
  refine gd_getI fX3_86 rfl dX3_settleAll_91 ?_
  refine gd_nmI (fun x3 ex3 => ?_)
  have h := h x3 ex3
  refine gd_dup2_11 dX3_settleAll_94 rfl rfl ?_
  obtain ⟨hb, h⟩ := h
  refine gd_laload (n := 8) (by decide) rfl dX3_settleAll_95 rfl hb ?_
  refine gd_aload_n 0 dX3_settleAll_96 rfl rfl ?_
  refine gd_getR (x := 0) (kr := 17) fX3_15 rfl rfl dX3_settleAll_97 rfl ?_
  refine gd_iload_n 2 dX3_settleAll_100 rfl rfl ?_
  obtain ⟨hb, h⟩ := h
  refine gd_iaload (n := 24) (by decide) rfl dX3_settleAll_101 rfl hb ?_
  refine gd_i2l dX3_settleAll_102 ?_
  refine gd_nmJ (fun y4 ey4 => ?_)
  have h := h y4 ey4
  refine gd_lsub dX3_settleAll_103 ?_
  obtain ⟨hb, h⟩ := h
  refine gd_lastoren (n := 8) (by decide) rfl rfl dX3_settleAll_104 rfl hb (fun v5 ev5 => ?_)
  have h := h v5 ev5
  refine gd_aload_n 0 dX3_settleAll_105 rfl rfl ?_
  refine gd_getR (x := 0) (kr := 18) fX3_18 rfl rfl dX3_settleAll_106 rfl ?_
  refine gd_aload_n 1 dX3_settleAll_109 rfl rfl ?_
  refine gd_getR (x := a1) (kr := 14) fX3_54 rfl rfl dX3_settleAll_110 rfl ?_
  refine gd_iload_n 2 dX3_settleAll_113 rfl rfl ?_
  obtain ⟨hb, h⟩ := h
  refine gd_aaload (n := 24) (kr := 9) (y := 24 * a1 + (a2 : Int32).toNatClampNeg) (by decide) rfl rfl dX3_settleAll_114 rfl hb (if_pos (ab_inlt hb)) ?_
  refine gd_getI fX3_89 rfl dX3_settleAll_115 ?_
  refine gd_nmI (fun x6 ex6 => ?_)
  have h := h x6 ex6
  refine gd_dup2_11 dX3_settleAll_118 rfl rfl ?_
  obtain ⟨hb, h⟩ := h
  refine gd_laload (n := 8) (by decide) rfl dX3_settleAll_119 rfl hb ?_
  refine gd_aload_n 0 dX3_settleAll_120 rfl rfl ?_
  refine gd_getR (x := 0) (kr := 17) fX3_15 rfl rfl dX3_settleAll_121 rfl ?_
  refine gd_iload_n 2 dX3_settleAll_124 rfl rfl ?_
  obtain ⟨hb, h⟩ := h
  refine gd_iaload (n := 24) (by decide) rfl dX3_settleAll_125 rfl hb ?_
  refine gd_i2l dX3_settleAll_126 ?_
  refine gd_nmJ (fun y7 ey7 => ?_)
  have h := h y7 ey7
  refine gd_ladd dX3_settleAll_127 ?_
  obtain ⟨hb, h⟩ := h
  refine gd_lastoren (n := 8) (by decide) rfl rfl dX3_settleAll_128 rfl hb (fun v8 ev8 => ?_)
  have h := h v8 ev8
  refine gd_iinc (x9 := a2 + 1) (L' := [(2, zI (a2 + 1)), (0, zR 3 0), (1, zR 2 a1)]) 2 dX3_settleAll_129 rfl rfl (by decide) rfl ?_
  refine gd_goto (tgt := 34) dX3_settleAll_132 (by decide) ?_
  refine gd_locals [1, 2, 0] rfl ?_
  exact h
def wp_X3_settleAll_34 (g : ab_E) (d : Nat) (a1 : Nat) (a2 : Int32) (v : gd_D) (Q : ab_O → gd_D → Prop) : Prop :=
  (((v.1 2 a1 3 : Int32) ≤ a2) →
    Q (Sum.inl none) v) ∧
  ((¬ (v.1 2 a1 3 : Int32) ≤ a2) →
    gd_C g mX2_isAsked 2 0 0 [zR 2 a1, zI a2] v (gd_rI (fun (r2 : Int32) v1 =>
      (((r2 : Int32) = 0) →
        wp_X3_settleAll_68 g d a1 a2 a2 0 v1 Q) ∧
      ((¬ (r2 : Int32) = 0) →
        vp_in a2 24 ∧
        ∀ x3 : Int32, x3 = v1.1 9 (24 * a1 + (a2 : Int32).toNatClampNeg) 5 →
        wp_X3_settleAll_68 g d a1 a2 a2 x3 v1 Q)) (fun E v9 => Q (Sum.inr E) v9)))
theorem w_X3_settleAll_34 {g : ab_E} {d : Nat} {a1 : Nat} {a2 : Int32} {v : gd_D} {Q : ab_O → gd_D → Prop} (hd : 3 ≤ d) (h : wp_X3_settleAll_34 g d a1 a2 v Q) : gd_G g mX3_settleAll d 0 0 34 [(0, zR 3 0), (1, zR 2 a1), (2, zI a2)] [] v Q := by
  unfold wp_X3_settleAll_34 at h
  refine gd_iload_n 2 dX3_settleAll_34 rfl rfl ?_
  refine gd_aload_n 1 dX3_settleAll_35 rfl rfl ?_
  refine gd_getI fX3_48 rfl dX3_settleAll_36 ?_
  refine gd_icmp_ge (tgt := 135) dX3_settleAll_39 (by decide) (fun hc => ?_) (fun hc => ?_)
  · have h := h.1 hc
    exact gd_vret dX3_settleAll_135 rfl h
  · have h := h.2 hc
    refine gd_aload_n 0 dX3_settleAll_42 rfl rfl ?_
    refine gd_getR (x := 0) (kr := 17) fX3_15 rfl rfl dX3_settleAll_43 rfl ?_
    refine gd_iload_n 2 dX3_settleAll_46 rfl rfl ?_
    refine gd_aload_n 1 dX3_settleAll_47 rfl rfl ?_
    refine gd_iload_n 2 dX3_settleAll_48 rfl rfl ?_
    refine gd_callVI (As := [zI a2]) (rest := [zI a2, zR 17 0]) (dy := 2) (my := 0) (sy := 0) (k := 2) (i := a1) lX3_79 iX2_isAsked sX2_isAsked rfl dX3_settleAll_49 rfl rfl (gd_room (by omega) (by decide)) (by decide) (Nat.le_of_ble_eq_true rfl) h (fun r2 v1 h => ?_)
    refine gd_if_eq (tgt := 67) dX3_settleAll_52 (by decide) (fun hc => ?_) (fun hc => ?_)
    · have h := h.1 hc
      refine gd_iconst (x9 := 0) dX3_settleAll_67 (by decide) ?_
      exact w_X3_settleAll_68 (by omega) h
    · have h := h.2 hc
      refine gd_aload_n 1 dX3_settleAll_55 rfl rfl ?_
      refine gd_getR (x := a1) (kr := 14) fX3_54 rfl rfl dX3_settleAll_56 rfl ?_
      refine gd_iload_n 2 dX3_settleAll_59 rfl rfl ?_
      obtain ⟨hb, h⟩ := h
      refine gd_aaload (n := 24) (kr := 9) (y := 24 * a1 + (a2 : Int32).toNatClampNeg) (by decide) rfl rfl dX3_settleAll_60 rfl hb (if_pos (ab_inlt hb)) ?_
      refine gd_getI fX3_83 rfl dX3_settleAll_61 ?_
      refine gd_nmI (fun x3 ex3 => ?_)
      have h := h x3 ex3
      refine gd_goto (tgt := 68) dX3_settleAll_64 (by decide) ?_
      exact w_X3_settleAll_68 (by omega) h
theorem c_X3_settleAll {g : ab_E} {d : Nat} {a1 : Nat} {v : gd_D} {Q : ab_O → gd_D → Prop} (hd : 0 ≤ d) (h : wp_X3_settleAll g d a1 v Q) : gd_C g mX3_settleAll d 0 0 [zR 3 0, zR 2 a1] v Q := gd_enterF (plainFor_of_name (by decide)) (Nat.le_of_ble_eq_true rfl) rfl (w_X3_settleAll hd h)
def wp_X3_isShort (g : ab_E) (d : Nat) (a1 : Nat) (v : gd_D) (Q : ab_O → gd_D → Prop) : Prop :=
  gd_G g mX3_isShort d 0 0 2 [(0, zR 3 0), (1, zR 2 a1), (2, zI 0)] [] v Q
theorem w_X3_isShort {g : ab_E} {d : Nat} {a1 : Nat} {v : gd_D} {Q : ab_O → gd_D → Prop} (hd : 0 ≤ d) (h : wp_X3_isShort g d a1 v Q) : gd_G g mX3_isShort d 0 0 0 [(0, zR 3 0), (1, zR 2 a1)] [] v Q := by
  unfold wp_X3_isShort at h
  refine gd_iconst (x9 := 0) dX3_isShort_0 (by decide) ?_
  refine gd_istore_n (L' := [(2, zI 0), (0, zR 3 0), (1, zR 2 a1)]) dX3_isShort_1 rfl (by decide) rfl ?_
  refine gd_locals [1, 2, 0] rfl ?_
  exact h
def wp_X3_isShort_2 (g : ab_E) (d : Nat) (a1 : Nat) (a2 : Int32) (v : gd_D) (Q : ab_O → gd_D → Prop) : Prop :=
  (((v.1 2 a1 2 : Int32) ≤ a2) →
    Q (Sum.inl (some (zI 0))) v) ∧
  ((¬ (v.1 2 a1 2 : Int32) ≤ a2) →
    vp_in a2 8 ∧
    (((0 : Int64) ≤ (v.2.1 18 0 (a2 : Int32).toNatClampNeg)) →
      gd_G g mX3_isShort d 0 0 2 [(0, zR 3 0), (1, zR 2 a1), (2, zI (a2 + 1))] [] v Q) ∧
    ((¬ (0 : Int64) ≤ (v.2.1 18 0 (a2 : Int32).toNatClampNeg)) →
      Q (Sum.inl (some (zI 1))) v))
theorem w_X3_isShort_2 {g : ab_E} {d : Nat} {a1 : Nat} {a2 : Int32} {v : gd_D} {Q : ab_O → gd_D → Prop} (hd : 0 ≤ d) (h : wp_X3_isShort_2 g d a1 a2 v Q) : gd_G g mX3_isShort d 0 0 2 [(0, zR 3 0), (1, zR 2 a1), (2, zI a2)] [] v Q := by
  unfold wp_X3_isShort_2 at h
  refine gd_iload_n 2 dX3_isShort_2 rfl rfl ?_
  refine gd_aload_n 1 dX3_isShort_3 rfl rfl ?_
  refine gd_getI fX3_67 rfl dX3_isShort_4 ?_
  refine gd_icmp_ge (tgt := 29) dX3_isShort_7 (by decide) (fun hc => ?_) (fun hc => ?_)
  · have h := h.1 hc
    refine gd_iconst (x9 := 0) dX3_isShort_29 (by decide) ?_
    exact gd_iret (ty := .boolean) dX3_isShort_30 rfl rfl h
  · have h := h.2 hc
    refine gd_aload_n 0 dX3_isShort_10 rfl rfl ?_
    refine gd_getR (x := 0) (kr := 18) fX3_18 rfl rfl dX3_isShort_11 rfl ?_
    refine gd_iload_n 2 dX3_isShort_14 rfl rfl ?_
    obtain ⟨hb, h⟩ := h
    refine gd_laload (n := 8) (by decide) rfl dX3_isShort_15 rfl hb ?_
    refine gd_lconst (x9 := 0) dX3_isShort_16 (by decide) ?_
    refine gd_lc_ge (tgt := 23) dX3_isShort_17 dX3_isShort_18 (by decide) (fun hc => ?_) (fun hc => ?_)
    · have h := h.1 hc
      refine gd_iinc (x9 := a2 + 1) (L' := [(2, zI (a2 + 1)), (0, zR 3 0), (1, zR 2 a1)]) 2 dX3_isShort_23 rfl rfl (by decide) rfl ?_
      refine gd_goto (tgt := 2) dX3_isShort_26 (by decide) ?_
      refine gd_locals [1, 2, 0] rfl ?_
      exact h
    · have h := h.2 hc
      refine gd_iconst (x9 := 1) dX3_isShort_21 (by decide) ?_
      exact gd_iret (ty := .boolean) dX3_isShort_22 rfl rfl h
theorem c_X3_isShort {g : ab_E} {d : Nat} {a1 : Nat} {v : gd_D} {Q : ab_O → gd_D → Prop} (hd : 0 ≤ d) (h : wp_X3_isShort g d a1 v Q) : gd_C g mX3_isShort d 0 0 [zR 3 0, zR 2 a1] v Q := gd_enterF (plainFor_of_name (by decide)) (Nat.le_of_ble_eq_true rfl) rfl (w_X3_isShort hd h)
def wp_X3_weighLosses (g : ab_E) (d : Nat) (a1 : Nat) (a2 : Int32) (v : gd_D) (Q : ab_O → gd_D → Prop) : Prop :=
  gd_G g mX3_weighLosses d 0 0 2 [(0, zR 3 0), (1, zR 2 a1), (2, zI a2), (3, zI 0)] [] v Q
theorem w_X3_weighLosses {g : ab_E} {d : Nat} {a1 : Nat} {a2 : Int32} {v : gd_D} {Q : ab_O → gd_D → Prop} (hd : 0 ≤ d) (h : wp_X3_weighLosses g d a1 a2 v Q) : gd_G g mX3_weighLosses d 0 0 0 [(0, zR 3 0), (1, zR 2 a1), (2, zI a2)] [] v Q := by
  unfold wp_X3_weighLosses at h
  refine gd_iconst (x9 := 0) dX3_weighLosses_0 (by decide) ?_
  refine gd_istore_n (L' := [(3, zI 0), (0, zR 3 0), (1, zR 2 a1), (2, zI a2)]) dX3_weighLosses_1 rfl (by decide) rfl ?_
  refine gd_locals [1, 2, 3, 0] rfl ?_
  exact h
def wp_X3_weighLosses_33 (g : ab_E) (d : Nat) (a1 : Nat) (a2 : Int32) (a3 : Int32) (s1 : Int32) (s2 : Int64) (v : gd_D) (Q : ab_O → gd_D → Prop) : Prop :=
  vp_in s1 8 ∧
  ∀ v1 : gd_D, v1 = gd_sJ v 19 0 ((s1 : Int32).toNatClampNeg) s2 →
  vp_in a3 8 ∧
  ∀ v2 : gd_D, v2 = gd_sI v1 20 0 ((a3 : Int32).toNatClampNeg) (-1) →
  gd_G g mX3_weighLosses d 0 0 2 [(0, zR 3 0), (1, zR 2 a1), (2, zI a2), (3, zI (a3 + 1))] [] v2 Q
theorem w_X3_weighLosses_33 {g : ab_E} {d : Nat} {a1 : Nat} {a2 : Int32} {a3 : Int32} {s1 : Int32} {s2 : Int64} {v : gd_D} {Q : ab_O → gd_D → Prop} (hd : 0 ≤ d) (h : wp_X3_weighLosses_33 g d a1 a2 a3 s1 s2 v Q) : gd_G g mX3_weighLosses d 0 0 33 [(0, zR 3 0), (1, zR 2 a1), (2, zI a2), (3, zI a3)] [zJ s2, zI s1, zR 19 0] v Q := by
  unfold wp_X3_weighLosses_33 at h
  obtain ⟨hb, h⟩ := h
  refine gd_lastoren (n := 8) (by decide) rfl rfl dX3_weighLosses_33 rfl hb (fun v1 ev1 => ?_)
  have h := h v1 ev1
  refine gd_aload_n 0 dX3_weighLosses_34 rfl rfl ?_
  refine gd_getR (x := 0) (kr := 20) fX3_25 rfl rfl dX3_weighLosses_35 rfl ?_
  refine gd_iload_n 3 dX3_weighLosses_38 rfl rfl ?_
  refine gd_iconst (x9 := (-1)) dX3_weighLosses_39 (by decide) ?_
  obtain ⟨hb, h⟩ := h
  refine gd_iastoren (n := 8) (by decide) rfl rfl dX3_weighLosses_40 rfl hb (fun v2 ev2 => ?_)
  have h := h v2 ev2
  refine gd_iinc (x9 := a3 + 1) (L' := [(3, zI (a3 + 1)), (0, zR 3 0), (1, zR 2 a1), (2, zI a2)]) 3 dX3_weighLosses_41 rfl rfl (by decide) rfl ?_
  refine gd_goto (tgt := 2) dX3_weighLosses_44 (by decide) ?_
  refine gd_locals [1, 2, 3, 0] rfl ?_
  exact h
def wp_X3_weighLosses_2 (g : ab_E) (d : Nat) (a1 : Nat) (a2 : Int32) (a3 : Int32) (v : gd_D) (Q : ab_O → gd_D → Prop) : Prop :=
  (((v.1 2 a1 2 : Int32) ≤ a3) →
    gd_G g mX3_weighLosses d 0 0 52 [(0, zR 3 0), (1, zR 2 a1), (2, zI a2), (3, zI 1), (4, zI 0)] [] v Q) ∧
  ((¬ (v.1 2 a1 2 : Int32) ≤ a3) →
    vp_in a3 8 ∧
    (((0 : Int64) ≤ (v.2.1 18 0 (a3 : Int32).toNatClampNeg)) →
      wp_X3_weighLosses_33 g d a1 a2 a3 a3 1000000000 v Q) ∧
    ((¬ (0 : Int64) ≤ (v.2.1 18 0 (a3 : Int32).toNatClampNeg)) →
      wp_X3_weighLosses_33 g d a1 a2 a3 a3 0 v Q))
theorem w_X3_weighLosses_2 {g : ab_E} {d : Nat} {a1 : Nat} {a2 : Int32} {a3 : Int32} {v : gd_D} {Q : ab_O → gd_D → Prop} (hd : 0 ≤ d) (h : wp_X3_weighLosses_2 g d a1 a2 a3 v Q) : gd_G g mX3_weighLosses d 0 0 2 [(0, zR 3 0), (1, zR 2 a1), (2, zI a2), (3, zI a3)] [] v Q := by
  unfold wp_X3_weighLosses_2 at h
  refine gd_iload_n 3 dX3_weighLosses_2 rfl rfl ?_
  refine gd_aload_n 1 dX3_weighLosses_3 rfl rfl ?_
  refine gd_getI fX3_67 rfl dX3_weighLosses_4 ?_
  refine gd_icmp_ge (tgt := 47) dX3_weighLosses_7 (by decide) (fun hc => ?_) (fun hc => ?_)
  · have h := h.1 hc
    refine gd_iconst (x9 := 1) dX3_weighLosses_47 (by decide) ?_
    refine gd_istore_n (L' := [(3, zI 1), (0, zR 3 0), (1, zR 2 a1), (2, zI a2)]) dX3_weighLosses_48 rfl (by decide) rfl ?_
    refine gd_iconst (x9 := 0) dX3_weighLosses_49 (by decide) ?_
    refine gd_istore (L' := [(4, zI 0), (3, zI 1), (0, zR 3 0), (1, zR 2 a1), (2, zI a2)]) dX3_weighLosses_50 (by decide) rfl ?_
    refine gd_locals [2, 3, 4, 1, 0] rfl ?_
    exact h
  · have h := h.2 hc
    refine gd_aload_n 0 dX3_weighLosses_10 rfl rfl ?_
    refine gd_getR (x := 0) (kr := 19) fX3_22 rfl rfl dX3_weighLosses_11 rfl ?_
    refine gd_iload_n 3 dX3_weighLosses_14 rfl rfl ?_
    refine gd_aload_n 0 dX3_weighLosses_15 rfl rfl ?_
    refine gd_getR (x := 0) (kr := 18) fX3_18 rfl rfl dX3_weighLosses_16 rfl ?_
    refine gd_iload_n 3 dX3_weighLosses_19 rfl rfl ?_
    obtain ⟨hb, h⟩ := h
    refine gd_laload (n := 8) (by decide) rfl dX3_weighLosses_20 rfl hb ?_
    refine gd_lconst (x9 := 0) dX3_weighLosses_21 (by decide) ?_
    refine gd_lc_ge (tgt := 30) dX3_weighLosses_22 dX3_weighLosses_23 (by decide) (fun hc => ?_) (fun hc => ?_)
    · have h := h.1 hc
      refine gd_ldc2 kX3_92 dX3_weighLosses_30 ?_
      exact w_X3_weighLosses_33 (by omega) h
    · have h := h.2 hc
      refine gd_lconst (x9 := 0) dX3_weighLosses_26 (by decide) ?_
      refine gd_goto (tgt := 33) dX3_weighLosses_27 (by decide) ?_
      exact w_X3_weighLosses_33 (by omega) h
def wp_X3_weighLosses_52 (g : ab_E) (d : Nat) (a1 : Nat) (a2 : Int32) (a3 : Int32) (a4 : Int32) (v : gd_D) (Q : ab_O → gd_D → Prop) : Prop :=
  (((8 : Int32) ≤ a4) →
    Q (Sum.inl none) v) ∧
  ((¬ (8 : Int32) ≤ a4) →
    (((a3 : Int32) = 0) →
      Q (Sum.inl none) v) ∧
    ((¬ (a3 : Int32) = 0) →
      gd_G g mX3_weighLosses d 0 0 68 [(0, zR 3 0), (1, zR 2 a1), (2, zI a2), (3, zI 0), (4, zI a4), (5, zI 0)] [] v Q))
theorem w_X3_weighLosses_52 {g : ab_E} {d : Nat} {a1 : Nat} {a2 : Int32} {a3 : Int32} {a4 : Int32} {v : gd_D} {Q : ab_O → gd_D → Prop} (hd : 0 ≤ d) (h : wp_X3_weighLosses_52 g d a1 a2 a3 a4 v Q) : gd_G g mX3_weighLosses d 0 0 52 [(0, zR 3 0), (1, zR 2 a1), (2, zI a2), (3, zI a3), (4, zI a4)] [] v Q := by
  unfold wp_X3_weighLosses_52 at h
  refine gd_iload 4 dX3_weighLosses_52 rfl ?_
  refine gd_bipush (x9 := 8) dX3_weighLosses_54 (by decide) ?_
  refine gd_icmp_ge (tgt := 116) dX3_weighLosses_56 (by decide) (fun hc => ?_) (fun hc => ?_)
  · have h := h.1 hc
    exact gd_vret dX3_weighLosses_116 rfl h
  · have h := h.2 hc
    refine gd_iload_n 3 dX3_weighLosses_59 rfl rfl ?_
    refine gd_if_eq (tgt := 116) dX3_weighLosses_60 (by decide) (fun hc => ?_) (fun hc => ?_)
    · have h := h.1 hc
      exact gd_vret dX3_weighLosses_116 rfl h
    · have h := h.2 hc
      refine gd_iconst (x9 := 0) dX3_weighLosses_63 (by decide) ?_
      refine gd_istore_n (L' := [(3, zI 0), (0, zR 3 0), (1, zR 2 a1), (2, zI a2), (4, zI a4)]) dX3_weighLosses_64 rfl (by decide) rfl ?_
      refine gd_iconst (x9 := 0) dX3_weighLosses_65 (by decide) ?_
      refine gd_istore (L' := [(5, zI 0), (3, zI 0), (0, zR 3 0), (1, zR 2 a1), (2, zI a2), (4, zI a4)]) dX3_weighLosses_66 (by decide) rfl ?_
      refine gd_locals [2, 3, 4, 1, 5, 0] rfl ?_
      exact h
def wp_X3_weighLosses_68 (g : ab_E) (d : Nat) (a1 : Nat) (a2 : Int32) (a3 : Int32) (a4 : Int32) (a5 : Int32) (v : gd_D) (Q : ab_O → gd_D → Prop) : Prop :=
  (((v.1 2 a1 3 : Int32) ≤ a5) →
    gd_G g mX3_weighLosses d 0 0 52 [(0, zR 3 0), (1, zR 2 a1), (2, zI a2), (3, zI a3), (4, zI (a4 + 1))] [] v Q) ∧
  ((¬ (v.1 2 a1 3 : Int32) ≤ a5) →
    vp_in a5 24 ∧
    vp_in a5 24 ∧
    gd_C g mX3_gain 2 0 0 [zR 9 (24 * a1 + (a5 : Int32).toNatClampNeg), zI a2] v (gd_rJ (fun (r2 : Int64) v1 =>
      gd_C g mX3_weigh 2 0 0 [zR 3 0, zR 9 (24 * a1 + (a5 : Int32).toNatClampNeg), zI a5, zJ r2] v1 (gd_rI (fun (r4 : Int32) v3 =>
        gd_G g mX3_weighLosses d 0 0 68 [(0, zR 3 0), (1, zR 2 a1), (2, zI a2), (3, zI (a3 ||| r4)), (4, zI a4), (5, zI (a5 + 1))] [] v3 Q) (fun E v9 => Q (Sum.inr E) v9))) (fun E v9 => Q (Sum.inr E) v9)))
theorem w_X3_weighLosses_68 {g : ab_E} {d : Nat} {a1 : Nat} {a2 : Int32} {a3 : Int32} {a4 : Int32} {a5 : Int32} {v : gd_D} {Q : ab_O → gd_D → Prop} (hd : 3 ≤ d) (h : wp_X3_weighLosses_68 g d a1 a2 a3 a4 a5 v Q) : gd_G g mX3_weighLosses d 0 0 68 [(0, zR 3 0), (1, zR 2 a1), (2, zI a2), (3, zI a3), (4, zI a4), (5, zI a5)] [] v Q := by
  unfold wp_X3_weighLosses_68 at h
  refine gd_iload 5 dX3_weighLosses_68 rfl ?_
  refine gd_aload_n 1 dX3_weighLosses_70 rfl rfl ?_
  refine gd_getI fX3_48 rfl dX3_weighLosses_71 ?_
  refine gd_icmp_ge (tgt := 110) dX3_weighLosses_74 (by decide) (fun hc => ?_) (fun hc => ?_)
  · have h := h.1 hc
    refine gd_iinc (x9 := a4 + 1) (L' := [(4, zI (a4 + 1)), (0, zR 3 0), (1, zR 2 a1), (2, zI a2), (3, zI a3), (5, zI a5)]) 4 dX3_weighLosses_110 rfl rfl (by decide) rfl ?_
    refine gd_goto (tgt := 52) dX3_weighLosses_113 (by decide) ?_
    refine gd_locals [1, 2, 3, 4, 0] rfl ?_
    exact h
  · have h := h.2 hc
    refine gd_iload_n 3 dX3_weighLosses_77 rfl rfl ?_
    refine gd_aload_n 0 dX3_weighLosses_78 rfl rfl ?_
    refine gd_aload_n 1 dX3_weighLosses_79 rfl rfl ?_
    refine gd_getR (x := a1) (kr := 14) fX3_54 rfl rfl dX3_weighLosses_80 rfl ?_
    refine gd_iload 5 dX3_weighLosses_83 rfl ?_
    obtain ⟨hb, h⟩ := h
    refine gd_aaload (n := 24) (kr := 9) (y := 24 * a1 + (a5 : Int32).toNatClampNeg) (by decide) rfl rfl dX3_weighLosses_85 rfl hb (if_pos (ab_inlt hb)) ?_
    refine gd_iload 5 dX3_weighLosses_86 rfl ?_
    refine gd_aload_n 1 dX3_weighLosses_88 rfl rfl ?_
    refine gd_getR (x := a1) (kr := 14) fX3_54 rfl rfl dX3_weighLosses_89 rfl ?_
    refine gd_iload 5 dX3_weighLosses_92 rfl ?_
    obtain ⟨hb, h⟩ := h
    refine gd_aaload (n := 24) (kr := 9) (y := 24 * a1 + (a5 : Int32).toNatClampNeg) (by decide) rfl rfl dX3_weighLosses_94 rfl hb (if_pos (ab_inlt hb)) ?_
    refine gd_iload_n 2 dX3_weighLosses_95 rfl rfl ?_
    refine gd_callSJ (As := [zR 9 (24 * a1 + (a5 : Int32).toNatClampNeg), zI a2]) (rest := [zI a5, zR 9 (24 * a1 + (a5 : Int32).toNatClampNeg), zR 3 0, zI a3]) (dy := 2) (my := 0) (sy := 0) lX3_58 tX3_gain dX3_weighLosses_96 rfl rfl (gd_room (by omega) (by decide)) (by decide) (Nat.le_of_ble_eq_true rfl) h (fun r2 v1 h => ?_)
    refine gd_callVI (As := [zR 9 (24 * a1 + (a5 : Int32).toNatClampNeg), zI a5, zJ r2]) (rest := [zI a3]) (dy := 2) (my := 0) (sy := 0) (k := 3) (i := 0) lX3_94 iX3_weigh sX3_weigh rfl dX3_weighLosses_99 rfl rfl (gd_room (by omega) (by decide)) (by decide) (Nat.le_of_ble_eq_true rfl) h (fun r4 v3 h => ?_)
    refine gd_ior dX3_weighLosses_102 ?_
    refine gd_istore_n (L' := [(3, zI (a3 ||| r4)), (0, zR 3 0), (1, zR 2 a1), (2, zI a2), (4, zI a4), (5, zI a5)]) dX3_weighLosses_103 rfl (by decide) rfl ?_
    refine gd_iinc (x9 := a5 + 1) (L' := [(5, zI (a5 + 1)), (3, zI (a3 ||| r4)), (0, zR 3 0), (1, zR 2 a1), (2, zI a2), (4, zI a4)]) 5 dX3_weighLosses_104 rfl rfl (by decide) rfl ?_
    refine gd_goto (tgt := 68) dX3_weighLosses_107 (by decide) ?_
    refine gd_locals [2, 3, 4, 1, 5, 0] rfl ?_
    exact h
theorem c_X3_weighLosses {g : ab_E} {d : Nat} {a1 : Nat} {a2 : Int32} {v : gd_D} {Q : ab_O → gd_D → Prop} (hd : 0 ≤ d) (h : wp_X3_weighLosses g d a1 a2 v Q) : gd_C g mX3_weighLosses d 0 0 [zR 3 0, zR 2 a1, zI a2] v Q := gd_enterF (plainFor_of_name (by decide)) (Nat.le_of_ble_eq_true rfl) rfl (w_X3_weighLosses hd h)
def wp_X3_weigh_71 (g : ab_E) (d : Nat) (a1 : Nat) (a2 : Int32) (a3 : Int64) (v : gd_D) (Q : ab_O → gd_D → Prop) : Prop :=
  vp_in (v.1 9 a1 1) 8 ∧
  vp_in a2 24 ∧
  vp_in a2 24 ∧
  (((v.1 17 0 (a2 : Int32).toNatClampNeg : Int32) ≤ (v.1 16 0 (a2 : Int32).toNatClampNeg)) →
    Q (Sum.inl (some (zI 0))) v) ∧
  ((¬ (v.1 17 0 (a2 : Int32).toNatClampNeg : Int32) ≤ (v.1 16 0 (a2 : Int32).toNatClampNeg)) →
    (((1000000000 : Int64) ≤ (v.2.1 19 0 (v.1 9 a1 1 : Int32).toNatClampNeg)) →
      Q (Sum.inl (some (zI 0))) v) ∧
    ((¬ (1000000000 : Int64) ≤ (v.2.1 19 0 (v.1 9 a1 1 : Int32).toNatClampNeg)) →
      ∀ y1 : Int64, y1 = (v.2.1 19 0 (v.1 9 a1 1 : Int32).toNatClampNeg) - a3 →
      vp_in (v.1 9 a1 0) 8 ∧
      (((v.2.1 19 0 (v.1 9 a1 0 : Int32).toNatClampNeg : Int64) ≤ y1) →
        Q (Sum.inl (some (zI 0))) v) ∧
      ((¬ (v.2.1 19 0 (v.1 9 a1 0 : Int32).toNatClampNeg : Int64) ≤ y1) →
        ∀ y2 : Int64, y2 = (v.2.1 19 0 (v.1 9 a1 1 : Int32).toNatClampNeg) - a3 →
        vp_in (v.1 9 a1 0) 8 ∧
        ∀ v3 : gd_D, v3 = gd_sJ v 19 0 ((v.1 9 a1 0 : Int32).toNatClampNeg) y2 →
        vp_in (v3.1 9 a1 0) 8 ∧
        ∀ v4 : gd_D, v4 = gd_sI v3 20 0 ((v3.1 9 a1 0 : Int32).toNatClampNeg) a2 →
        Q (Sum.inl (some (zI 1))) v4)))
theorem w_X3_weigh_71 {g : ab_E} {d : Nat} {a1 : Nat} {a2 : Int32} {a3 : Int64} {v : gd_D} {Q : ab_O → gd_D → Prop} (hd : 0 ≤ d) (h : wp_X3_weigh_71 g d a1 a2 a3 v Q) : gd_G g mX3_weigh d 0 0 71 [(0, zR 3 0), (1, zR 9 a1), (2, zI a2), (3, zJ a3)] [] v Q := by
  unfold wp_X3_weigh_71 at h
  refine gd_aload_n 0 dX3_weigh_71 rfl rfl ?_
  refine gd_getR (x := 0) (kr := 19) fX3_22 rfl rfl dX3_weigh_72 rfl ?_
  refine gd_aload_n 1 dX3_weigh_75 rfl rfl ?_
  refine gd_getI fX3_89 rfl dX3_weigh_76 ?_
  obtain ⟨hb, h⟩ := h
  refine gd_laload (n := 8) (by decide) rfl dX3_weigh_79 rfl hb ?_
  refine gd_lstore (L' := [(7, zJ (v.2.1 19 0 (v.1 9 a1 1 : Int32).toNatClampNeg)), (0, zR 3 0), (1, zR 9 a1), (2, zI a2), (3, zJ a3)]) dX3_weigh_80 (by decide) rfl ?_
  refine gd_aload_n 1 dX3_weigh_82 rfl rfl ?_
  refine gd_getR (x := 0) (kr := 16) fX3_9 rfl rfl dX3_weigh_83 rfl ?_
  refine gd_iload_n 3 dX3_weigh_86 rfl rfl ?_
  obtain ⟨hb, h⟩ := h
  refine gd_iaload (n := 24) (by decide) rfl dX3_weigh_87 rfl hb ?_
  refine gd_aload_n 1 dX3_weigh_88 rfl rfl ?_
  refine gd_getR (x := 0) (kr := 17) fX3_15 rfl rfl dX3_weigh_89 rfl ?_
  refine gd_iload_n 3 dX3_weigh_92 rfl rfl ?_
  obtain ⟨hb, h⟩ := h
  refine gd_iaload (n := 24) (by decide) rfl dX3_weigh_93 rfl hb ?_
  refine gd_icmp_ge (tgt := 148) dX3_weigh_94 (by decide) (fun hc => ?_) (fun hc => ?_)
  · have h := h.1 hc
    refine gd_iconst (x9 := 0) dX3_weigh_148 (by decide) ?_
    exact gd_iret (ty := .boolean) dX3_weigh_149 rfl rfl h
  · have h := h.2 hc
    refine gd_lload 0 dX3_weigh_97 rfl ?_
    refine gd_ldc2 kX3_92 dX3_weigh_99 ?_
    refine gd_lc_ge (tgt := 148) dX3_weigh_102 dX3_weigh_103 (by decide) (fun hc => ?_) (fun hc => ?_)
    · have h := h.1 hc
      refine gd_iconst (x9 := 0) dX3_weigh_148 (by decide) ?_
      exact gd_iret (ty := .boolean) dX3_weigh_149 rfl rfl h
    · have h := h.2 hc
      refine gd_lload 0 dX3_weigh_106 rfl ?_
      refine gd_lload_n 4 dX3_weigh_108 rfl rfl ?_
      refine gd_lsub dX3_weigh_109 ?_
      refine gd_nmJ (fun y1 ey1 => ?_)
      have h := h y1 ey1
      refine gd_aload_n 1 dX3_weigh_110 rfl rfl ?_
      refine gd_getR (x := 0) (kr := 19) fX3_22 rfl rfl dX3_weigh_111 rfl ?_
      refine gd_aload_n 2 dX3_weigh_114 rfl rfl ?_
      refine gd_getI fX3_86 rfl dX3_weigh_115 ?_
      obtain ⟨hb, h⟩ := h
      refine gd_laload (n := 8) (by decide) rfl dX3_weigh_118 rfl hb ?_
      refine gd_lc_ge (tgt := 148) dX3_weigh_119 dX3_weigh_120 (by decide) (fun hc => ?_) (fun hc => ?_)
      · have h := h.1 hc
        refine gd_iconst (x9 := 0) dX3_weigh_148 (by decide) ?_
        exact gd_iret (ty := .boolean) dX3_weigh_149 rfl rfl h
      · have h := h.2 hc
        refine gd_aload_n 1 dX3_weigh_123 rfl rfl ?_
        refine gd_getR (x := 0) (kr := 19) fX3_22 rfl rfl dX3_weigh_124 rfl ?_
        refine gd_aload_n 2 dX3_weigh_127 rfl rfl ?_
        refine gd_getI fX3_86 rfl dX3_weigh_128 ?_
        refine gd_lload 0 dX3_weigh_131 rfl ?_
        refine gd_lload_n 4 dX3_weigh_133 rfl rfl ?_
        refine gd_lsub dX3_weigh_134 ?_
        refine gd_nmJ (fun y2 ey2 => ?_)
        have h := h y2 ey2
        obtain ⟨hb, h⟩ := h
        refine gd_lastoren (n := 8) (by decide) rfl rfl dX3_weigh_135 rfl hb (fun v3 ev3 => ?_)
        have h := h v3 ev3
        refine gd_aload_n 1 dX3_weigh_136 rfl rfl ?_
        refine gd_getR (x := 0) (kr := 20) fX3_25 rfl rfl dX3_weigh_137 rfl ?_
        refine gd_aload_n 2 dX3_weigh_140 rfl rfl ?_
        refine gd_getI fX3_86 rfl dX3_weigh_141 ?_
        refine gd_iload_n 3 dX3_weigh_144 rfl rfl ?_
        obtain ⟨hb, h⟩ := h
        refine gd_iastoren (n := 8) (by decide) rfl rfl dX3_weigh_145 rfl hb (fun v4 ev4 => ?_)
        have h := h v4 ev4
        refine gd_iconst (x9 := 1) dX3_weigh_146 (by decide) ?_
        exact gd_iret (ty := .boolean) dX3_weigh_147 rfl rfl h
def wp_X3_weigh (g : ab_E) (d : Nat) (a1 : Nat) (a2 : Int32) (a3 : Int64) (v : gd_D) (Q : ab_O → gd_D → Prop) : Prop :=
  vp_in (v.1 9 a1 0) 8 ∧
  vp_in a2 24 ∧
  (((v.1 16 0 (a2 : Int32).toNatClampNeg : Int32) ≤ 0) →
    wp_X3_weigh_71 g d a1 a2 a3 v Q) ∧
  ((¬ (v.1 16 0 (a2 : Int32).toNatClampNeg : Int32) ≤ 0) →
    (((1000000000 : Int64) ≤ (v.2.1 19 0 (v.1 9 a1 0 : Int32).toNatClampNeg)) →
      wp_X3_weigh_71 g d a1 a2 a3 v Q) ∧
    ((¬ (1000000000 : Int64) ≤ (v.2.1 19 0 (v.1 9 a1 0 : Int32).toNatClampNeg)) →
      ∀ y1 : Int64, y1 = (v.2.1 19 0 (v.1 9 a1 0 : Int32).toNatClampNeg) + a3 →
      vp_in (v.1 9 a1 1) 8 ∧
      (((v.2.1 19 0 (v.1 9 a1 1 : Int32).toNatClampNeg : Int64) ≤ y1) →
        wp_X3_weigh_71 g d a1 a2 a3 v Q) ∧
      ((¬ (v.2.1 19 0 (v.1 9 a1 1 : Int32).toNatClampNeg : Int64) ≤ y1) →
        ∀ y2 : Int64, y2 = (v.2.1 19 0 (v.1 9 a1 0 : Int32).toNatClampNeg) + a3 →
        vp_in (v.1 9 a1 1) 8 ∧
        ∀ v3 : gd_D, v3 = gd_sJ v 19 0 ((v.1 9 a1 1 : Int32).toNatClampNeg) y2 →
        vp_in (v3.1 9 a1 1) 8 ∧
        ∀ v4 : gd_D, v4 = gd_sI v3 20 0 ((v3.1 9 a1 1 : Int32).toNatClampNeg) a2 →
        Q (Sum.inl (some (zI 1))) v4)))
theorem w_X3_weigh {g : ab_E} {d : Nat} {a1 : Nat} {a2 : Int32} {a3 : Int64} {v : gd_D} {Q : ab_O → gd_D → Prop} (hd : 0 ≤ d) (h : wp_X3_weigh g d a1 a2 a3 v Q) : gd_G g mX3_weigh d 0 0 0 [(0, zR 3 0), (1, zR 9 a1), (2, zI a2), (3, zJ a3)] [] v Q := by
  unfold wp_X3_weigh at h
  refine gd_aload_n 0 dX3_weigh_0 rfl rfl ?_
  refine gd_getR (x := 0) (kr := 19) fX3_22 rfl rfl dX3_weigh_1 rfl ?_
  refine gd_aload_n 1 dX3_weigh_4 rfl rfl ?_
  refine gd_getI fX3_86 rfl dX3_weigh_5 ?_
  obtain ⟨hb, h⟩ := h
  refine gd_laload (n := 8) (by decide) rfl dX3_weigh_8 rfl hb ?_
  refine gd_lstore (L' := [(5, zJ (v.2.1 19 0 (v.1 9 a1 0 : Int32).toNatClampNeg)), (0, zR 3 0), (1, zR 9 a1), (2, zI a2), (3, zJ a3)]) dX3_weigh_9 (by decide) rfl ?_
  refine gd_aload_n 1 dX3_weigh_11 rfl rfl ?_
  refine gd_getR (x := 0) (kr := 16) fX3_9 rfl rfl dX3_weigh_12 rfl ?_
  refine gd_iload_n 3 dX3_weigh_15 rfl rfl ?_
  obtain ⟨hb, h⟩ := h
  refine gd_iaload (n := 24) (by decide) rfl dX3_weigh_16 rfl hb ?_
  refine gd_if_le (tgt := 71) dX3_weigh_17 (by decide) (fun hc => ?_) (fun hc => ?_)
  · have h := h.1 hc
    refine gd_locals [1, 2, 3, 4] rfl ?_
    exact w_X3_weigh_71 (by omega) h
  · have h := h.2 hc
    refine gd_lload 0 dX3_weigh_20 rfl ?_
    refine gd_ldc2 kX3_92 dX3_weigh_22 ?_
    refine gd_lc_ge (tgt := 71) dX3_weigh_25 dX3_weigh_26 (by decide) (fun hc => ?_) (fun hc => ?_)
    · have h := h.1 hc
      refine gd_locals [1, 2, 3, 4] rfl ?_
      exact w_X3_weigh_71 (by omega) h
    · have h := h.2 hc
      refine gd_lload 0 dX3_weigh_29 rfl ?_
      refine gd_lload_n 4 dX3_weigh_31 rfl rfl ?_
      refine gd_ladd dX3_weigh_32 ?_
      refine gd_nmJ (fun y1 ey1 => ?_)
      have h := h y1 ey1
      refine gd_aload_n 1 dX3_weigh_33 rfl rfl ?_
      refine gd_getR (x := 0) (kr := 19) fX3_22 rfl rfl dX3_weigh_34 rfl ?_
      refine gd_aload_n 2 dX3_weigh_37 rfl rfl ?_
      refine gd_getI fX3_89 rfl dX3_weigh_38 ?_
      obtain ⟨hb, h⟩ := h
      refine gd_laload (n := 8) (by decide) rfl dX3_weigh_41 rfl hb ?_
      refine gd_lc_ge (tgt := 71) dX3_weigh_42 dX3_weigh_43 (by decide) (fun hc => ?_) (fun hc => ?_)
      · have h := h.1 hc
        refine gd_locals [1, 2, 3, 4] rfl ?_
        exact w_X3_weigh_71 (by omega) h
      · have h := h.2 hc
        refine gd_aload_n 1 dX3_weigh_46 rfl rfl ?_
        refine gd_getR (x := 0) (kr := 19) fX3_22 rfl rfl dX3_weigh_47 rfl ?_
        refine gd_aload_n 2 dX3_weigh_50 rfl rfl ?_
        refine gd_getI fX3_89 rfl dX3_weigh_51 ?_
        refine gd_lload 0 dX3_weigh_54 rfl ?_
        refine gd_lload_n 4 dX3_weigh_56 rfl rfl ?_
        refine gd_ladd dX3_weigh_57 ?_
        refine gd_nmJ (fun y2 ey2 => ?_)
        have h := h y2 ey2
        obtain ⟨hb, h⟩ := h
        refine gd_lastoren (n := 8) (by decide) rfl rfl dX3_weigh_58 rfl hb (fun v3 ev3 => ?_)
        have h := h v3 ev3
        refine gd_aload_n 1 dX3_weigh_59 rfl rfl ?_
        refine gd_getR (x := 0) (kr := 20) fX3_25 rfl rfl dX3_weigh_60 rfl ?_
        refine gd_aload_n 2 dX3_weigh_63 rfl rfl ?_
        refine gd_getI fX3_89 rfl dX3_weigh_64 ?_
        refine gd_iload_n 3 dX3_weigh_67 rfl rfl ?_
        obtain ⟨hb, h⟩ := h
        refine gd_iastoren (n := 8) (by decide) rfl rfl dX3_weigh_68 rfl hb (fun v4 ev4 => ?_)
        have h := h v4 ev4
        refine gd_iconst (x9 := 1) dX3_weigh_69 (by decide) ?_
        exact gd_iret (ty := .boolean) dX3_weigh_70 rfl rfl h
theorem c_X3_weigh {g : ab_E} {d : Nat} {a1 : Nat} {a2 : Int32} {a3 : Int64} {v : gd_D} {Q : ab_O → gd_D → Prop} (hd : 0 ≤ d) (h : wp_X3_weigh g d a1 a2 a3 v Q) : gd_C g mX3_weigh d 0 0 [zR 3 0, zR 9 a1, zI a2, zJ a3] v Q := gd_enterF (plainFor_of_name (by decide)) (Nat.le_of_ble_eq_true rfl) rfl (w_X3_weigh hd h)
def wp_X3_cheapestEnd (g : ab_E) (d : Nat) (a1 : Nat) (v : gd_D) (Q : ab_O → gd_D → Prop) : Prop :=
  gd_G g mX3_cheapestEnd d 0 0 4 [(0, zR 3 0), (1, zR 2 a1), (2, zI (-1)), (3, zI 0)] [] v Q
theorem w_X3_cheapestEnd {g : ab_E} {d : Nat} {a1 : Nat} {v : gd_D} {Q : ab_O → gd_D → Prop} (hd : 0 ≤ d) (h : wp_X3_cheapestEnd g d a1 v Q) : gd_G g mX3_cheapestEnd d 0 0 0 [(0, zR 3 0), (1, zR 2 a1)] [] v Q := by
  unfold wp_X3_cheapestEnd at h
  refine gd_iconst (x9 := (-1)) dX3_cheapestEnd_0 (by decide) ?_
  refine gd_istore_n (L' := [(2, zI (-1)), (0, zR 3 0), (1, zR 2 a1)]) dX3_cheapestEnd_1 rfl (by decide) rfl ?_
  refine gd_iconst (x9 := 0) dX3_cheapestEnd_2 (by decide) ?_
  refine gd_istore_n (L' := [(3, zI 0), (2, zI (-1)), (0, zR 3 0), (1, zR 2 a1)]) dX3_cheapestEnd_3 rfl (by decide) rfl ?_
  refine gd_locals [2, 3, 1, 0] rfl ?_
  exact h
def wp_X3_cheapestEnd_57 (g : ab_E) (d : Nat) (a1 : Nat) (a3 : Int32) (v : gd_D) (Q : ab_O → gd_D → Prop) : Prop :=
  gd_G g mX3_cheapestEnd d 0 0 4 [(0, zR 3 0), (1, zR 2 a1), (2, zI a3), (3, zI (a3 + 1))] [] v Q
theorem w_X3_cheapestEnd_57 {g : ab_E} {d : Nat} {a1 : Nat} {a3 : Int32} {v : gd_D} {Q : ab_O → gd_D → Prop} (hd : 0 ≤ d) (h : wp_X3_cheapestEnd_57 g d a1 a3 v Q) : gd_G g mX3_cheapestEnd d 0 0 57 [(0, zR 3 0), (1, zR 2 a1), (3, zI a3)] [] v Q := by
  unfold wp_X3_cheapestEnd_57 at h
  refine gd_iload_n 2 dX3_cheapestEnd_57 rfl rfl ?_
  refine gd_istore_n (L' := [(2, zI a3), (0, zR 3 0), (1, zR 2 a1), (3, zI a3)]) dX3_cheapestEnd_58 rfl (by decide) rfl ?_
  refine gd_iinc (x9 := a3 + 1) (L' := [(3, zI (a3 + 1)), (2, zI a3), (0, zR 3 0), (1, zR 2 a1)]) 3 dX3_cheapestEnd_59 rfl rfl (by decide) rfl ?_
  refine gd_goto (tgt := 4) dX3_cheapestEnd_62 (by decide) ?_
  refine gd_locals [2, 3, 1, 0] rfl ?_
  exact h
def wp_X3_cheapestEnd_4 (g : ab_E) (d : Nat) (a1 : Nat) (a2 : Int32) (a3 : Int32) (v : gd_D) (Q : ab_O → gd_D → Prop) : Prop :=
  (((v.1 2 a1 2 : Int32) ≤ a3) →
    Q (Sum.inl (some (zI a2))) v) ∧
  ((¬ (v.1 2 a1 2 : Int32) ≤ a3) →
    vp_in a3 8 ∧
    (((v.2.1 18 0 (a3 : Int32).toNatClampNeg : Int64) ≤ 0) →
      gd_G g mX3_cheapestEnd d 0 0 4 [(0, zR 3 0), (1, zR 2 a1), (2, zI a2), (3, zI (a3 + 1))] [] v Q) ∧
    ((¬ (v.2.1 18 0 (a3 : Int32).toNatClampNeg : Int64) ≤ 0) →
      vp_in a3 8 ∧
      (((1000000000 : Int64) ≤ (v.2.1 19 0 (a3 : Int32).toNatClampNeg)) →
        gd_G g mX3_cheapestEnd d 0 0 4 [(0, zR 3 0), (1, zR 2 a1), (2, zI a2), (3, zI (a3 + 1))] [] v Q) ∧
      ((¬ (1000000000 : Int64) ≤ (v.2.1 19 0 (a3 : Int32).toNatClampNeg)) →
        (((a2 : Int32) = (-1)) →
          wp_X3_cheapestEnd_57 g d a1 a3 v Q) ∧
        ((¬ (a2 : Int32) = (-1)) →
          vp_in a3 8 ∧
          vp_in a2 8 ∧
          (((v.2.1 19 0 (a2 : Int32).toNatClampNeg : Int64) ≤ (v.2.1 19 0 (a3 : Int32).toNatClampNeg)) →
            gd_G g mX3_cheapestEnd d 0 0 4 [(0, zR 3 0), (1, zR 2 a1), (2, zI a2), (3, zI (a3 + 1))] [] v Q) ∧
          ((¬ (v.2.1 19 0 (a2 : Int32).toNatClampNeg : Int64) ≤ (v.2.1 19 0 (a3 : Int32).toNatClampNeg)) →
            wp_X3_cheapestEnd_57 g d a1 a3 v Q)))))
theorem w_X3_cheapestEnd_4 {g : ab_E} {d : Nat} {a1 : Nat} {a2 : Int32} {a3 : Int32} {v : gd_D} {Q : ab_O → gd_D → Prop} (hd : 0 ≤ d) (h : wp_X3_cheapestEnd_4 g d a1 a2 a3 v Q) : gd_G g mX3_cheapestEnd d 0 0 4 [(0, zR 3 0), (1, zR 2 a1), (2, zI a2), (3, zI a3)] [] v Q := by
  unfold wp_X3_cheapestEnd_4 at h
  refine gd_iload_n 3 dX3_cheapestEnd_4 rfl rfl ?_
  refine gd_aload_n 1 dX3_cheapestEnd_5 rfl rfl ?_
  refine gd_getI fX3_67 rfl dX3_cheapestEnd_6 ?_
  refine gd_icmp_ge (tgt := 65) dX3_cheapestEnd_9 (by decide) (fun hc => ?_) (fun hc => ?_)
  · have h := h.1 hc
    refine gd_iload_n 2 dX3_cheapestEnd_65 rfl rfl ?_
    exact gd_iret (ty := .int) dX3_cheapestEnd_66 rfl rfl h
  · have h := h.2 hc
    refine gd_aload_n 0 dX3_cheapestEnd_12 rfl rfl ?_
    refine gd_getR (x := 0) (kr := 18) fX3_18 rfl rfl dX3_cheapestEnd_13 rfl ?_
    refine gd_iload_n 3 dX3_cheapestEnd_16 rfl rfl ?_
    obtain ⟨hb, h⟩ := h
    refine gd_laload (n := 8) (by decide) rfl dX3_cheapestEnd_17 rfl hb ?_
    refine gd_lconst (x9 := 0) dX3_cheapestEnd_18 (by decide) ?_
    refine gd_lc_le (tgt := 59) dX3_cheapestEnd_19 dX3_cheapestEnd_20 (by decide) (fun hc => ?_) (fun hc => ?_)
    · have h := h.1 hc
      refine gd_iinc (x9 := a3 + 1) (L' := [(3, zI (a3 + 1)), (0, zR 3 0), (1, zR 2 a1), (2, zI a2)]) 3 dX3_cheapestEnd_59 rfl rfl (by decide) rfl ?_
      refine gd_goto (tgt := 4) dX3_cheapestEnd_62 (by decide) ?_
      refine gd_locals [1, 2, 3, 0] rfl ?_
      exact h
    · have h := h.2 hc
      refine gd_aload_n 0 dX3_cheapestEnd_23 rfl rfl ?_
      refine gd_getR (x := 0) (kr := 19) fX3_22 rfl rfl dX3_cheapestEnd_24 rfl ?_
      refine gd_iload_n 3 dX3_cheapestEnd_27 rfl rfl ?_
      obtain ⟨hb, h⟩ := h
      refine gd_laload (n := 8) (by decide) rfl dX3_cheapestEnd_28 rfl hb ?_
      refine gd_ldc2 kX3_92 dX3_cheapestEnd_29 ?_
      refine gd_lc_ge (tgt := 59) dX3_cheapestEnd_32 dX3_cheapestEnd_33 (by decide) (fun hc => ?_) (fun hc => ?_)
      · have h := h.1 hc
        refine gd_iinc (x9 := a3 + 1) (L' := [(3, zI (a3 + 1)), (0, zR 3 0), (1, zR 2 a1), (2, zI a2)]) 3 dX3_cheapestEnd_59 rfl rfl (by decide) rfl ?_
        refine gd_goto (tgt := 4) dX3_cheapestEnd_62 (by decide) ?_
        refine gd_locals [1, 2, 3, 0] rfl ?_
        exact h
      · have h := h.2 hc
        refine gd_iload_n 2 dX3_cheapestEnd_36 rfl rfl ?_
        refine gd_iconst (x9 := (-1)) dX3_cheapestEnd_37 (by decide) ?_
        refine gd_icmp_eq (tgt := 57) dX3_cheapestEnd_38 (by decide) (fun hc => ?_) (fun hc => ?_)
        · have h := h.1 hc
          refine gd_locals [0, 1, 3] rfl ?_
          exact w_X3_cheapestEnd_57 (by omega) h
        · have h := h.2 hc
          refine gd_aload_n 0 dX3_cheapestEnd_41 rfl rfl ?_
          refine gd_getR (x := 0) (kr := 19) fX3_22 rfl rfl dX3_cheapestEnd_42 rfl ?_
          refine gd_iload_n 3 dX3_cheapestEnd_45 rfl rfl ?_
          obtain ⟨hb, h⟩ := h
          refine gd_laload (n := 8) (by decide) rfl dX3_cheapestEnd_46 rfl hb ?_
          refine gd_aload_n 0 dX3_cheapestEnd_47 rfl rfl ?_
          refine gd_getR (x := 0) (kr := 19) fX3_22 rfl rfl dX3_cheapestEnd_48 rfl ?_
          refine gd_iload_n 2 dX3_cheapestEnd_51 rfl rfl ?_
          obtain ⟨hb, h⟩ := h
          refine gd_laload (n := 8) (by decide) rfl dX3_cheapestEnd_52 rfl hb ?_
          refine gd_lc_ge (tgt := 59) dX3_cheapestEnd_53 dX3_cheapestEnd_54 (by decide) (fun hc => ?_) (fun hc => ?_)
          · have h := h.1 hc
            refine gd_iinc (x9 := a3 + 1) (L' := [(3, zI (a3 + 1)), (0, zR 3 0), (1, zR 2 a1), (2, zI a2)]) 3 dX3_cheapestEnd_59 rfl rfl (by decide) rfl ?_
            refine gd_goto (tgt := 4) dX3_cheapestEnd_62 (by decide) ?_
            refine gd_locals [1, 2, 3, 0] rfl ?_
            exact h
          · have h := h.2 hc
            refine gd_locals [0, 1, 3] rfl ?_
            exact w_X3_cheapestEnd_57 (by omega) h
theorem c_X3_cheapestEnd {g : ab_E} {d : Nat} {a1 : Nat} {v : gd_D} {Q : ab_O → gd_D → Prop} (hd : 0 ≤ d) (h : wp_X3_cheapestEnd g d a1 v Q) : gd_C g mX3_cheapestEnd d 0 0 [zR 3 0, zR 2 a1] v Q := gd_enterF (plainFor_of_name (by decide)) (Nat.le_of_ble_eq_true rfl) rfl (w_X3_cheapestEnd hd h)
def wp_X3_takeBack (g : ab_E) (d : Nat) (a1 : Nat) (a2 : Int32) (v : gd_D) (Q : ab_O → gd_D → Prop) : Prop :=
  vp_in a2 8 ∧
  gd_G g mX3_takeBack d 0 0 13 [(0, zR 3 0), (1, zR 2 a1), (2, zI a2), (3, zJ (v.2.1 18 0 (a2 : Int32).toNatClampNeg)), (5, zI a2), (6, zI 0)] [] v Q
theorem w_X3_takeBack {g : ab_E} {d : Nat} {a1 : Nat} {a2 : Int32} {v : gd_D} {Q : ab_O → gd_D → Prop} (hd : 0 ≤ d) (h : wp_X3_takeBack g d a1 a2 v Q) : gd_G g mX3_takeBack d 0 0 0 [(0, zR 3 0), (1, zR 2 a1), (2, zI a2)] [] v Q := by
  unfold wp_X3_takeBack at h
  refine gd_aload_n 0 dX3_takeBack_0 rfl rfl ?_
  refine gd_getR (x := 0) (kr := 18) fX3_18 rfl rfl dX3_takeBack_1 rfl ?_
  refine gd_iload_n 2 dX3_takeBack_4 rfl rfl ?_
  obtain ⟨hb, h⟩ := h
  refine gd_laload (n := 8) (by decide) rfl dX3_takeBack_5 rfl hb ?_
  refine gd_lstore_n (L' := [(3, zJ (v.2.1 18 0 (a2 : Int32).toNatClampNeg)), (0, zR 3 0), (1, zR 2 a1), (2, zI a2)]) dX3_takeBack_6 rfl (by decide) rfl ?_
  refine gd_iload_n 3 dX3_takeBack_7 rfl rfl ?_
  refine gd_istore (L' := [(5, zI a2), (3, zJ (v.2.1 18 0 (a2 : Int32).toNatClampNeg)), (0, zR 3 0), (1, zR 2 a1), (2, zI a2)]) dX3_takeBack_8 (by decide) rfl ?_
  refine gd_iconst (x9 := 0) dX3_takeBack_10 (by decide) ?_
  refine gd_istore (L' := [(6, zI 0), (5, zI a2), (3, zJ (v.2.1 18 0 (a2 : Int32).toNatClampNeg)), (0, zR 3 0), (1, zR 2 a1), (2, zI a2)]) dX3_takeBack_11 (by decide) rfl ?_
  refine gd_locals [3, 4, 5, 2, 1, 0] rfl ?_
  exact h
def wp_X3_takeBack_136 (g : ab_E) (d : Nat) (a1 : Nat) (a2 : Int32) (a3 : Int64) (a5 : Int32) (v : gd_D) (Q : ab_O → gd_D → Prop) : Prop :=
  vp_in a5 8 ∧
  gd_C g mJ9_min_f86c9 2 0 0 [zJ a3, zJ (-(v.2.1 18 0 (a5 : Int32).toNatClampNeg))] v (gd_rJ (fun (r2 : Int64) v1 =>
    (((0 : Int64) < r2) →
      vp_in a5 8 ∧
      vp_in a5 8 ∧
      ∀ v3 : gd_D, v3 = gd_sJ v1 18 0 ((a5 : Int32).toNatClampNeg) ((v1.2.1 18 0 (a5 : Int32).toNatClampNeg) + r2) →
      vp_in a2 8 ∧
      vp_in a2 8 ∧
      ∀ v4 : gd_D, v4 = gd_sJ v3 18 0 ((a2 : Int32).toNatClampNeg) ((v3.2.1 18 0 (a2 : Int32).toNatClampNeg) - r2) →
      gd_C g mX3_change 2 0 0 [zR 3 0, zR 2 a1, zI a2, zI ((r2 : Int64).toInt32)] v4 (gd_rV (fun v5 =>
        Q (Sum.inl (some (zI 1))) v5) (fun E v9 => Q (Sum.inr E) v9))) ∧
    ((¬ (0 : Int64) < r2) →
      Q (Sum.inl (some (zI 0))) v1)) (fun E v9 => Q (Sum.inr E) v9))
theorem w_X3_takeBack_136 {g : ab_E} {d : Nat} {a1 : Nat} {a2 : Int32} {a3 : Int64} {a5 : Int32} {v : gd_D} {Q : ab_O → gd_D → Prop} (hd : 3 ≤ d) (h : wp_X3_takeBack_136 g d a1 a2 a3 a5 v Q) : gd_G g mX3_takeBack d 0 0 136 [(0, zR 3 0), (1, zR 2 a1), (2, zI a2), (3, zJ a3), (5, zI a5)] [] v Q := by
  unfold wp_X3_takeBack_136 at h
  refine gd_lload_n 3 dX3_takeBack_136 rfl rfl ?_
  refine gd_aload_n 0 dX3_takeBack_137 rfl rfl ?_
  refine gd_getR (x := 0) (kr := 18) fX3_18 rfl rfl dX3_takeBack_138 rfl ?_
  refine gd_iload 4 dX3_takeBack_141 rfl ?_
  obtain ⟨hb, h⟩ := h
  refine gd_laload (n := 8) (by decide) rfl dX3_takeBack_143 rfl hb ?_
  refine gd_lneg dX3_takeBack_144 ?_
  refine gd_callSJ (As := [zJ a3, zJ (-(v.2.1 18 0 (a5 : Int32).toNatClampNeg))]) (rest := []) (dy := 2) (my := 0) (sy := 0) lX3_98 tJ9_min_f86c9 dX3_takeBack_145 rfl rfl (gd_room (by omega) (by decide)) (by decide) (Nat.le_of_ble_eq_true rfl) h (fun r2 v1 h => ?_)
  refine gd_lstore_n (L' := [(3, zJ r2), (0, zR 3 0), (1, zR 2 a1), (2, zI a2), (5, zI a5)]) dX3_takeBack_148 rfl (by decide) rfl ?_
  refine gd_lload_n 0 dX3_takeBack_149 rfl rfl ?_
  refine gd_lconst (x9 := 0) dX3_takeBack_150 (by decide) ?_
  refine gd_lc_gt (tgt := 157) dX3_takeBack_151 dX3_takeBack_152 (by decide) (fun hc => ?_) (fun hc => ?_)
  · have h := h.1 hc
    refine gd_aload_n 1 dX3_takeBack_157 rfl rfl ?_
    refine gd_getR (x := 0) (kr := 18) fX3_18 rfl rfl dX3_takeBack_158 rfl ?_
    refine gd_iload 4 dX3_takeBack_161 rfl ?_
    refine gd_dup2_11 dX3_takeBack_163 rfl rfl ?_
    obtain ⟨hb, h⟩ := h
    refine gd_laload (n := 8) (by decide) rfl dX3_takeBack_164 rfl hb ?_
    refine gd_lload_n 0 dX3_takeBack_165 rfl rfl ?_
    refine gd_ladd dX3_takeBack_166 ?_
    obtain ⟨hb, h⟩ := h
    refine gd_lastoren (n := 8) (by decide) rfl rfl dX3_takeBack_167 rfl hb (fun v3 ev3 => ?_)
    have h := h v3 ev3
    refine gd_aload_n 1 dX3_takeBack_168 rfl rfl ?_
    refine gd_getR (x := 0) (kr := 18) fX3_18 rfl rfl dX3_takeBack_169 rfl ?_
    refine gd_iload_n 3 dX3_takeBack_172 rfl rfl ?_
    refine gd_dup2_11 dX3_takeBack_173 rfl rfl ?_
    obtain ⟨hb, h⟩ := h
    refine gd_laload (n := 8) (by decide) rfl dX3_takeBack_174 rfl hb ?_
    refine gd_lload_n 0 dX3_takeBack_175 rfl rfl ?_
    refine gd_lsub dX3_takeBack_176 ?_
    obtain ⟨hb, h⟩ := h
    refine gd_lastoren (n := 8) (by decide) rfl rfl dX3_takeBack_177 rfl hb (fun v4 ev4 => ?_)
    have h := h v4 ev4
    refine gd_aload_n 1 dX3_takeBack_178 rfl rfl ?_
    refine gd_aload_n 2 dX3_takeBack_179 rfl rfl ?_
    refine gd_iload_n 3 dX3_takeBack_180 rfl rfl ?_
    refine gd_lload_n 0 dX3_takeBack_181 rfl rfl ?_
    refine gd_l2i dX3_takeBack_182 ?_
    refine gd_callVV (As := [zR 2 a1, zI a2, zI ((r2 : Int64).toInt32)]) (rest := []) (dy := 2) (my := 0) (sy := 0) (k := 3) (i := 0) lX3_104 iX3_change sX3_change rfl dX3_takeBack_183 rfl rfl (gd_room (by omega) (by decide)) (by decide) (Nat.le_of_ble_eq_true rfl) h (fun v5 h => ?_)
    refine gd_iconst (x9 := 1) dX3_takeBack_186 (by decide) ?_
    exact gd_iret (ty := .boolean) dX3_takeBack_187 rfl rfl h
  · have h := h.2 hc
    refine gd_iconst (x9 := 0) dX3_takeBack_155 (by decide) ?_
    exact gd_iret (ty := .boolean) dX3_takeBack_156 rfl rfl h
def wp_X3_takeBack_95 (g : ab_E) (d : Nat) (a1 : Nat) (a2 : Int32) (a3 : Int64) (a5 : Int32) (a6 : Int32) (a7 : Nat) (s0 : Int32) (v : gd_D) (Q : ab_O → gd_D → Prop) : Prop :=
  gd_C g mJ9_min_f86c9 2 0 0 [zJ a3, zJ ((s0 : Int32).toInt64)] v (gd_rJ (fun (r2 : Int64) v1 =>
    ((¬ (v1.1 9 a7 1 : Int32) = a5) →
      gd_G g mX3_takeBack d 0 0 13 [(0, zR 3 0), (1, zR 2 a1), (2, zI a2), (3, zJ r2), (5, zI (v1.1 9 a7 1)), (6, zI (a6 + 1))] [] v1 Q) ∧
    (((v1.1 9 a7 1 : Int32) = a5) →
      gd_G g mX3_takeBack d 0 0 13 [(0, zR 3 0), (1, zR 2 a1), (2, zI a2), (3, zJ r2), (5, zI (v1.1 9 a7 0)), (6, zI (a6 + 1))] [] v1 Q)) (fun E v9 => Q (Sum.inr E) v9))
theorem w_X3_takeBack_95 {g : ab_E} {d : Nat} {a1 : Nat} {a2 : Int32} {a3 : Int64} {a5 : Int32} {a6 : Int32} {a7 : Nat} {s0 : Int32} {v : gd_D} {Q : ab_O → gd_D → Prop} (hd : 3 ≤ d) (h : wp_X3_takeBack_95 g d a1 a2 a3 a5 a6 a7 s0 v Q) : gd_G g mX3_takeBack d 0 0 95 [(0, zR 3 0), (1, zR 2 a1), (2, zI a2), (3, zJ a3), (5, zI a5), (6, zI a6), (7, zR 9 a7)] [zI s0] v Q := by
  unfold wp_X3_takeBack_95 at h
  refine gd_istore (L' := [(8, zI s0), (0, zR 3 0), (1, zR 2 a1), (2, zI a2), (3, zJ a3), (5, zI a5), (6, zI a6), (7, zR 9 a7)]) dX3_takeBack_95 (by decide) rfl ?_
  refine gd_lload_n 4 dX3_takeBack_97 rfl rfl ?_
  refine gd_iload 0 dX3_takeBack_98 rfl ?_
  refine gd_i2l dX3_takeBack_100 ?_
  refine gd_callSJ (As := [zJ a3, zJ ((s0 : Int32).toInt64)]) (rest := []) (dy := 2) (my := 0) (sy := 0) lX3_98 tJ9_min_f86c9 dX3_takeBack_101 rfl rfl (gd_room (by omega) (by decide)) (by decide) (Nat.le_of_ble_eq_true rfl) h (fun r2 v1 h => ?_)
  refine gd_lstore_n (L' := [(3, zJ r2), (8, zI s0), (0, zR 3 0), (1, zR 2 a1), (2, zI a2), (5, zI a5), (6, zI a6), (7, zR 9 a7)]) dX3_takeBack_104 rfl (by decide) rfl ?_
  refine gd_aload 7 dX3_takeBack_105 rfl ?_
  refine gd_getI fX3_89 rfl dX3_takeBack_107 ?_
  refine gd_iload 5 dX3_takeBack_110 rfl ?_
  refine gd_icmp_ne (tgt := 123) dX3_takeBack_112 (by decide) (fun hc => ?_) (fun hc => ?_)
  · have h := h.1 hc
    refine gd_aload 7 dX3_takeBack_123 rfl ?_
    refine gd_getI fX3_89 rfl dX3_takeBack_125 ?_
    refine gd_istore (L' := [(5, zI (v1.1 9 a7 1)), (3, zJ r2), (8, zI s0), (0, zR 3 0), (1, zR 2 a1), (2, zI a2), (6, zI a6), (7, zR 9 a7)]) dX3_takeBack_128 (by decide) rfl ?_
    refine gd_iinc (x9 := a6 + 1) (L' := [(6, zI (a6 + 1)), (5, zI (v1.1 9 a7 1)), (3, zJ r2), (8, zI s0), (0, zR 3 0), (1, zR 2 a1), (2, zI a2), (7, zR 9 a7)]) 6 dX3_takeBack_130 rfl rfl (by decide) rfl ?_
    refine gd_goto (tgt := 13) dX3_takeBack_133 (by decide) ?_
    refine gd_locals [4, 5, 6, 2, 1, 0] rfl ?_
    exact h
  · have h := h.2 hc
    refine gd_aload 7 dX3_takeBack_115 rfl ?_
    refine gd_getI fX3_86 rfl dX3_takeBack_117 ?_
    refine gd_goto (tgt := 128) dX3_takeBack_120 (by decide) ?_
    refine gd_istore (L' := [(5, zI (v1.1 9 a7 0)), (3, zJ r2), (8, zI s0), (0, zR 3 0), (1, zR 2 a1), (2, zI a2), (6, zI a6), (7, zR 9 a7)]) dX3_takeBack_128 (by decide) rfl ?_
    refine gd_iinc (x9 := a6 + 1) (L' := [(6, zI (a6 + 1)), (5, zI (v1.1 9 a7 0)), (3, zJ r2), (8, zI s0), (0, zR 3 0), (1, zR 2 a1), (2, zI a2), (7, zR 9 a7)]) 6 dX3_takeBack_130 rfl rfl (by decide) rfl ?_
    refine gd_goto (tgt := 13) dX3_takeBack_133 (by decide) ?_
    refine gd_locals [4, 5, 6, 2, 1, 0] rfl ?_
    exact h
def wp_X3_takeBack_13 (g : ab_E) (d : Nat) (a1 : Nat) (a2 : Int32) (a3 : Int64) (a5 : Int32) (a6 : Int32) (v : gd_D) (Q : ab_O → gd_D → Prop) : Prop :=
  (((8 : Int32) ≤ a6) →
    wp_X3_takeBack_136 g d a1 a2 a3 a5 v Q) ∧
  ((¬ (8 : Int32) ≤ a6) →
    vp_in a5 8 ∧
    (((v.1 20 0 (a5 : Int32).toNatClampNeg : Int32) = (-1)) →
      wp_X3_takeBack_136 g d a1 a2 a3 a5 v Q) ∧
    ((¬ (v.1 20 0 (a5 : Int32).toNatClampNeg : Int32) = (-1)) →
      vp_in a5 8 ∧
      vp_in (v.1 20 0 (a5 : Int32).toNatClampNeg) 24 ∧
      ∀ i1 : Nat, i1 = 24 * a1 + (v.1 20 0 (a5 : Int32).toNatClampNeg : Int32).toNatClampNeg →
      ((¬ (v.1 9 i1 1 : Int32) = a5) →
        vp_in a5 8 ∧
        vp_in (v.1 20 0 (a5 : Int32).toNatClampNeg) 24 ∧
        ∀ x2 : Int32, x2 = v.1 17 0 (v.1 20 0 (a5 : Int32).toNatClampNeg : Int32).toNatClampNeg →
        vp_in a5 8 ∧
        vp_in (v.1 20 0 (a5 : Int32).toNatClampNeg) 24 ∧
        ∀ x3 : Int32, x3 = v.1 16 0 (v.1 20 0 (a5 : Int32).toNatClampNeg : Int32).toNatClampNeg →
        wp_X3_takeBack_95 g d a1 a2 a3 a5 a6 i1 (x2 - x3) v Q) ∧
      (((v.1 9 i1 1 : Int32) = a5) →
        vp_in a5 8 ∧
        vp_in (v.1 20 0 (a5 : Int32).toNatClampNeg) 24 ∧
        ∀ x4 : Int32, x4 = v.1 16 0 (v.1 20 0 (a5 : Int32).toNatClampNeg : Int32).toNatClampNeg →
        wp_X3_takeBack_95 g d a1 a2 a3 a5 a6 i1 x4 v Q)))
theorem w_X3_takeBack_13 {g : ab_E} {d : Nat} {a1 : Nat} {a2 : Int32} {a3 : Int64} {a5 : Int32} {a6 : Int32} {v : gd_D} {Q : ab_O → gd_D → Prop} (hd : 3 ≤ d) (h : wp_X3_takeBack_13 g d a1 a2 a3 a5 a6 v Q) : gd_G g mX3_takeBack d 0 0 13 [(0, zR 3 0), (1, zR 2 a1), (2, zI a2), (3, zJ a3), (5, zI a5), (6, zI a6)] [] v Q := by
  unfold wp_X3_takeBack_13 at h
  refine gd_iload 5 dX3_takeBack_13 rfl ?_
  refine gd_bipush (x9 := 8) dX3_takeBack_15 (by decide) ?_
  refine gd_icmp_ge (tgt := 136) dX3_takeBack_17 (by decide) (fun hc => ?_) (fun hc => ?_)
  · have h := h.1 hc
    refine gd_locals [0, 1, 2, 3, 4] rfl ?_
    exact w_X3_takeBack_136 (by omega) h
  · have h := h.2 hc
    refine gd_aload_n 0 dX3_takeBack_20 rfl rfl ?_
    refine gd_getR (x := 0) (kr := 20) fX3_25 rfl rfl dX3_takeBack_21 rfl ?_
    refine gd_iload 4 dX3_takeBack_24 rfl ?_
    obtain ⟨hb, h⟩ := h
    refine gd_iaload (n := 8) (by decide) rfl dX3_takeBack_26 rfl hb ?_
    refine gd_iconst (x9 := (-1)) dX3_takeBack_27 (by decide) ?_
    refine gd_icmp_eq (tgt := 136) dX3_takeBack_28 (by decide) (fun hc => ?_) (fun hc => ?_)
    · have h := h.1 hc
      refine gd_locals [0, 1, 2, 3, 4] rfl ?_
      exact w_X3_takeBack_136 (by omega) h
    · have h := h.2 hc
      refine gd_aload_n 1 dX3_takeBack_31 rfl rfl ?_
      refine gd_getR (x := a1) (kr := 14) fX3_54 rfl rfl dX3_takeBack_32 rfl ?_
      refine gd_aload_n 0 dX3_takeBack_35 rfl rfl ?_
      refine gd_getR (x := 0) (kr := 20) fX3_25 rfl rfl dX3_takeBack_36 rfl ?_
      refine gd_iload 4 dX3_takeBack_39 rfl ?_
      obtain ⟨hb, h⟩ := h
      refine gd_iaload (n := 8) (by decide) rfl dX3_takeBack_41 rfl hb ?_
      obtain ⟨hb, h⟩ := h
      refine gd_aaload (n := 24) (kr := 9) (y := 24 * a1 + (v.1 20 0 (a5 : Int32).toNatClampNeg : Int32).toNatClampNeg) (by decide) rfl rfl dX3_takeBack_42 rfl hb (if_pos (ab_inlt hb)) ?_
      refine gd_nmR (fun i1 ei1 => ?_)
      have h := h i1 ei1
      refine gd_astore (L' := [(7, zR 9 i1), (0, zR 3 0), (1, zR 2 a1), (2, zI a2), (3, zJ a3), (5, zI a5), (6, zI a6)]) dX3_takeBack_43 (by decide) rfl ?_
      refine gd_aload 0 dX3_takeBack_45 rfl ?_
      refine gd_getI fX3_89 rfl dX3_takeBack_47 ?_
      refine gd_iload 5 dX3_takeBack_50 rfl ?_
      refine gd_icmp_ne (tgt := 70) dX3_takeBack_52 (by decide) (fun hc => ?_) (fun hc => ?_)
      · have h := h.1 hc
        refine gd_aload_n 1 dX3_takeBack_70 rfl rfl ?_
        refine gd_getR (x := 0) (kr := 17) fX3_15 rfl rfl dX3_takeBack_71 rfl ?_
        refine gd_aload_n 1 dX3_takeBack_74 rfl rfl ?_
        refine gd_getR (x := 0) (kr := 20) fX3_25 rfl rfl dX3_takeBack_75 rfl ?_
        refine gd_iload 5 dX3_takeBack_78 rfl ?_
        obtain ⟨hb, h⟩ := h
        refine gd_iaload (n := 8) (by decide) rfl dX3_takeBack_80 rfl hb ?_
        obtain ⟨hb, h⟩ := h
        refine gd_iaload (n := 24) (by decide) rfl dX3_takeBack_81 rfl hb ?_
        refine gd_nmI (fun x2 ex2 => ?_)
        have h := h x2 ex2
        refine gd_aload_n 1 dX3_takeBack_82 rfl rfl ?_
        refine gd_getR (x := 0) (kr := 16) fX3_9 rfl rfl dX3_takeBack_83 rfl ?_
        refine gd_aload_n 1 dX3_takeBack_86 rfl rfl ?_
        refine gd_getR (x := 0) (kr := 20) fX3_25 rfl rfl dX3_takeBack_87 rfl ?_
        refine gd_iload 5 dX3_takeBack_90 rfl ?_
        obtain ⟨hb, h⟩ := h
        refine gd_iaload (n := 8) (by decide) rfl dX3_takeBack_92 rfl hb ?_
        obtain ⟨hb, h⟩ := h
        refine gd_iaload (n := 24) (by decide) rfl dX3_takeBack_93 rfl hb ?_
        refine gd_nmI (fun x3 ex3 => ?_)
        have h := h x3 ex3
        refine gd_isub dX3_takeBack_94 ?_
        refine gd_locals [1, 2, 3, 4, 5, 6, 0] rfl ?_
        exact w_X3_takeBack_95 (by omega) h
      · have h := h.2 hc
        refine gd_aload_n 1 dX3_takeBack_55 rfl rfl ?_
        refine gd_getR (x := 0) (kr := 16) fX3_9 rfl rfl dX3_takeBack_56 rfl ?_
        refine gd_aload_n 1 dX3_takeBack_59 rfl rfl ?_
        refine gd_getR (x := 0) (kr := 20) fX3_25 rfl rfl dX3_takeBack_60 rfl ?_
        refine gd_iload 5 dX3_takeBack_63 rfl ?_
        obtain ⟨hb, h⟩ := h
        refine gd_iaload (n := 8) (by decide) rfl dX3_takeBack_65 rfl hb ?_
        obtain ⟨hb, h⟩ := h
        refine gd_iaload (n := 24) (by decide) rfl dX3_takeBack_66 rfl hb ?_
        refine gd_nmI (fun x4 ex4 => ?_)
        have h := h x4 ex4
        refine gd_goto (tgt := 95) dX3_takeBack_67 (by decide) ?_
        refine gd_locals [1, 2, 3, 4, 5, 6, 0] rfl ?_
        exact w_X3_takeBack_95 (by omega) h
theorem c_X3_takeBack {g : ab_E} {d : Nat} {a1 : Nat} {a2 : Int32} {v : gd_D} {Q : ab_O → gd_D → Prop} (hd : 0 ≤ d) (h : wp_X3_takeBack g d a1 a2 v Q) : gd_C g mX3_takeBack d 0 0 [zR 3 0, zR 2 a1, zI a2] v Q := gd_enterF (plainFor_of_name (by decide)) (Nat.le_of_ble_eq_true rfl) rfl (w_X3_takeBack hd h)
def wp_X3_change (g : ab_E) (d : Nat) (a1 : Nat) (a2 : Int32) (a3 : Int32) (v : gd_D) (Q : ab_O → gd_D → Prop) : Prop :=
  gd_G g mX3_change d 0 0 6 [(0, zR 3 0), (1, zR 2 a1), (3, zI a3), (4, zI a2), (5, zI 0)] [] v Q
theorem w_X3_change {g : ab_E} {d : Nat} {a1 : Nat} {a2 : Int32} {a3 : Int32} {v : gd_D} {Q : ab_O → gd_D → Prop} (hd : 0 ≤ d) (h : wp_X3_change g d a1 a2 a3 v Q) : gd_G g mX3_change d 0 0 0 [(0, zR 3 0), (1, zR 2 a1), (2, zI a2), (3, zI a3)] [] v Q := by
  unfold wp_X3_change at h
  refine gd_iload_n 2 dX3_change_0 rfl rfl ?_
  refine gd_istore (L' := [(4, zI a2), (0, zR 3 0), (1, zR 2 a1), (2, zI a2), (3, zI a3)]) dX3_change_1 (by decide) rfl ?_
  refine gd_iconst (x9 := 0) dX3_change_3 (by decide) ?_
  refine gd_istore (L' := [(5, zI 0), (4, zI a2), (0, zR 3 0), (1, zR 2 a1), (2, zI a2), (3, zI a3)]) dX3_change_4 (by decide) rfl ?_
  refine gd_locals [2, 3, 5, 1, 0] rfl ?_
  exact h
def wp_X3_change_67 (g : ab_E) (d : Nat) (a1 : Nat) (a3 : Int32) (a4 : Int32) (a5 : Int32) (a6 : Nat) (s1 : Int32) (s2 : Int32) (s3 : Int32) (v : gd_D) (Q : ab_O → gd_D → Prop) : Prop :=
  vp_in s1 24 ∧
  ∀ v1 : gd_D, v1 = gd_sI v 16 0 ((s1 : Int32).toNatClampNeg) (s2 + s3) →
  ((¬ (v1.1 9 a6 1 : Int32) = a4) →
    gd_G g mX3_change d 0 0 6 [(0, zR 3 0), (1, zR 2 a1), (3, zI a3), (4, zI (v1.1 9 a6 1)), (5, zI (a5 + 1))] [] v1 Q) ∧
  (((v1.1 9 a6 1 : Int32) = a4) →
    gd_G g mX3_change d 0 0 6 [(0, zR 3 0), (1, zR 2 a1), (3, zI a3), (4, zI (v1.1 9 a6 0)), (5, zI (a5 + 1))] [] v1 Q)
theorem w_X3_change_67 {g : ab_E} {d : Nat} {a1 : Nat} {a3 : Int32} {a4 : Int32} {a5 : Int32} {a6 : Nat} {s1 : Int32} {s2 : Int32} {s3 : Int32} {v : gd_D} {Q : ab_O → gd_D → Prop} (hd : 0 ≤ d) (h : wp_X3_change_67 g d a1 a3 a4 a5 a6 s1 s2 s3 v Q) : gd_G g mX3_change d 0 0 67 [(0, zR 3 0), (1, zR 2 a1), (3, zI a3), (4, zI a4), (5, zI a5), (6, zR 9 a6)] [zI s3, zI s2, zI s1, zR 16 0] v Q := by
  unfold wp_X3_change_67 at h
  refine gd_iadd dX3_change_67 ?_
  obtain ⟨hb, h⟩ := h
  refine gd_iastoren (n := 24) (by decide) rfl rfl dX3_change_68 rfl hb (fun v1 ev1 => ?_)
  have h := h v1 ev1
  refine gd_aload 5 dX3_change_69 rfl ?_
  refine gd_getI fX3_89 rfl dX3_change_71 ?_
  refine gd_iload 3 dX3_change_74 rfl ?_
  refine gd_icmp_ne (tgt := 87) dX3_change_76 (by decide) (fun hc => ?_) (fun hc => ?_)
  · have h := h.1 hc
    refine gd_aload 5 dX3_change_87 rfl ?_
    refine gd_getI fX3_89 rfl dX3_change_89 ?_
    refine gd_istore (L' := [(4, zI (v1.1 9 a6 1)), (0, zR 3 0), (1, zR 2 a1), (3, zI a3), (5, zI a5), (6, zR 9 a6)]) dX3_change_92 (by decide) rfl ?_
    refine gd_iinc (x9 := a5 + 1) (L' := [(5, zI (a5 + 1)), (4, zI (v1.1 9 a6 1)), (0, zR 3 0), (1, zR 2 a1), (3, zI a3), (6, zR 9 a6)]) 4 dX3_change_94 rfl rfl (by decide) rfl ?_
    refine gd_goto (tgt := 6) dX3_change_97 (by decide) ?_
    refine gd_locals [2, 3, 4, 1, 0] rfl ?_
    exact h
  · have h := h.2 hc
    refine gd_aload 5 dX3_change_79 rfl ?_
    refine gd_getI fX3_86 rfl dX3_change_81 ?_
    refine gd_goto (tgt := 92) dX3_change_84 (by decide) ?_
    refine gd_istore (L' := [(4, zI (v1.1 9 a6 0)), (0, zR 3 0), (1, zR 2 a1), (3, zI a3), (5, zI a5), (6, zR 9 a6)]) dX3_change_92 (by decide) rfl ?_
    refine gd_iinc (x9 := a5 + 1) (L' := [(5, zI (a5 + 1)), (4, zI (v1.1 9 a6 0)), (0, zR 3 0), (1, zR 2 a1), (3, zI a3), (6, zR 9 a6)]) 4 dX3_change_94 rfl rfl (by decide) rfl ?_
    refine gd_goto (tgt := 6) dX3_change_97 (by decide) ?_
    refine gd_locals [2, 3, 4, 1, 0] rfl ?_
    exact h
def wp_X3_change_6 (g : ab_E) (d : Nat) (a1 : Nat) (a3 : Int32) (a4 : Int32) (a5 : Int32) (v : gd_D) (Q : ab_O → gd_D → Prop) : Prop :=
  (((8 : Int32) ≤ a5) →
    Q (Sum.inl none) v) ∧
  ((¬ (8 : Int32) ≤ a5) →
    vp_in a4 8 ∧
    (((v.1 20 0 (a4 : Int32).toNatClampNeg : Int32) = (-1)) →
      Q (Sum.inl none) v) ∧
    ((¬ (v.1 20 0 (a4 : Int32).toNatClampNeg : Int32) = (-1)) →
      vp_in a4 8 ∧
      vp_in (v.1 20 0 (a4 : Int32).toNatClampNeg) 24 ∧
      ∀ i1 : Nat, i1 = 24 * a1 + (v.1 20 0 (a4 : Int32).toNatClampNeg : Int32).toNatClampNeg →
      vp_in a4 8 ∧
      vp_in (v.1 20 0 (a4 : Int32).toNatClampNeg) 24 ∧
      ∀ x2 : Int32, x2 = v.1 16 0 (v.1 20 0 (a4 : Int32).toNatClampNeg : Int32).toNatClampNeg →
      ((¬ (v.1 9 i1 1 : Int32) = a4) →
        wp_X3_change_67 g d a1 a3 a4 a5 i1 (v.1 20 0 (a4 : Int32).toNatClampNeg) x2 a3 v Q) ∧
      (((v.1 9 i1 1 : Int32) = a4) →
        wp_X3_change_67 g d a1 a3 a4 a5 i1 (v.1 20 0 (a4 : Int32).toNatClampNeg) x2 (-a3) v Q)))
theorem w_X3_change_6 {g : ab_E} {d : Nat} {a1 : Nat} {a3 : Int32} {a4 : Int32} {a5 : Int32} {v : gd_D} {Q : ab_O → gd_D → Prop} (hd : 0 ≤ d) (h : wp_X3_change_6 g d a1 a3 a4 a5 v Q) : gd_G g mX3_change d 0 0 6 [(0, zR 3 0), (1, zR 2 a1), (3, zI a3), (4, zI a4), (5, zI a5)] [] v Q := by
  unfold wp_X3_change_6 at h
  refine gd_iload 4 dX3_change_6 rfl ?_
  refine gd_bipush (x9 := 8) dX3_change_8 (by decide) ?_
  refine gd_icmp_ge (tgt := 100) dX3_change_10 (by decide) (fun hc => ?_) (fun hc => ?_)
  · have h := h.1 hc
    exact gd_vret dX3_change_100 rfl h
  · have h := h.2 hc
    refine gd_aload_n 0 dX3_change_13 rfl rfl ?_
    refine gd_getR (x := 0) (kr := 20) fX3_25 rfl rfl dX3_change_14 rfl ?_
    refine gd_iload 3 dX3_change_17 rfl ?_
    obtain ⟨hb, h⟩ := h
    refine gd_iaload (n := 8) (by decide) rfl dX3_change_19 rfl hb ?_
    refine gd_iconst (x9 := (-1)) dX3_change_20 (by decide) ?_
    refine gd_icmp_eq (tgt := 100) dX3_change_21 (by decide) (fun hc => ?_) (fun hc => ?_)
    · have h := h.1 hc
      exact gd_vret dX3_change_100 rfl h
    · have h := h.2 hc
      refine gd_aload_n 1 dX3_change_24 rfl rfl ?_
      refine gd_getR (x := a1) (kr := 14) fX3_54 rfl rfl dX3_change_25 rfl ?_
      refine gd_aload_n 0 dX3_change_28 rfl rfl ?_
      refine gd_getR (x := 0) (kr := 20) fX3_25 rfl rfl dX3_change_29 rfl ?_
      refine gd_iload 3 dX3_change_32 rfl ?_
      obtain ⟨hb, h⟩ := h
      refine gd_iaload (n := 8) (by decide) rfl dX3_change_34 rfl hb ?_
      obtain ⟨hb, h⟩ := h
      refine gd_aaload (n := 24) (kr := 9) (y := 24 * a1 + (v.1 20 0 (a4 : Int32).toNatClampNeg : Int32).toNatClampNeg) (by decide) rfl rfl dX3_change_35 rfl hb (if_pos (ab_inlt hb)) ?_
      refine gd_nmR (fun i1 ei1 => ?_)
      have h := h i1 ei1
      refine gd_astore (L' := [(6, zR 9 i1), (0, zR 3 0), (1, zR 2 a1), (3, zI a3), (4, zI a4), (5, zI a5)]) dX3_change_36 (by decide) rfl ?_
      refine gd_aload_n 1 dX3_change_38 rfl rfl ?_
      refine gd_getR (x := 0) (kr := 16) fX3_9 rfl rfl dX3_change_39 rfl ?_
      refine gd_aload_n 1 dX3_change_42 rfl rfl ?_
      refine gd_getR (x := 0) (kr := 20) fX3_25 rfl rfl dX3_change_43 rfl ?_
      refine gd_iload 4 dX3_change_46 rfl ?_
      obtain ⟨hb, h⟩ := h
      refine gd_iaload (n := 8) (by decide) rfl dX3_change_48 rfl hb ?_
      refine gd_dup2_11 dX3_change_49 rfl rfl ?_
      obtain ⟨hb, h⟩ := h
      refine gd_iaload (n := 24) (by decide) rfl dX3_change_50 rfl hb ?_
      refine gd_nmI (fun x2 ex2 => ?_)
      have h := h x2 ex2
      refine gd_aload 0 dX3_change_51 rfl ?_
      refine gd_getI fX3_89 rfl dX3_change_53 ?_
      refine gd_iload 4 dX3_change_56 rfl ?_
      refine gd_icmp_ne (tgt := 66) dX3_change_58 (by decide) (fun hc => ?_) (fun hc => ?_)
      · have h := h.1 hc
        refine gd_iload_n 3 dX3_change_66 rfl rfl ?_
        refine gd_locals [1, 2, 3, 4, 5, 0] rfl ?_
        exact w_X3_change_67 (by omega) h
      · have h := h.2 hc
        refine gd_iload_n 3 dX3_change_61 rfl rfl ?_
        refine gd_ineg dX3_change_62 ?_
        refine gd_goto (tgt := 67) dX3_change_63 (by decide) ?_
        refine gd_locals [1, 2, 3, 4, 5, 0] rfl ?_
        exact w_X3_change_67 (by omega) h
theorem c_X3_change {g : ab_E} {d : Nat} {a1 : Nat} {a2 : Int32} {a3 : Int32} {v : gd_D} {Q : ab_O → gd_D → Prop} (hd : 0 ≤ d) (h : wp_X3_change g d a1 a2 a3 v Q) : gd_C g mX3_change d 0 0 [zR 3 0, zR 2 a1, zI a2, zI a3] v Q := gd_enterF (plainFor_of_name (by decide)) (Nat.le_of_ble_eq_true rfl) rfl (w_X3_change hd h)
def wp_X4_pass (g : ab_E) (d : Nat) (a1 : Nat) (v : gd_D) (Q : ab_O → gd_D → Prop) : Prop :=
  gd_C g mX5_arrange 4 0 0 [zR 5 1, zR 2 a1] v (gd_rV (fun v1 =>
    gd_C g mX4_settleRings 6 0 0 [zR 4 0, zR 2 a1] v1 (gd_rV (fun v3 =>
      gd_G g mX4_pass d 0 0 17 [(0, zR 4 0), (1, zR 2 a1), (2, zI 1), (3, zI 0)] [] v3 Q) (fun E v9 => Q (Sum.inr E) v9))) (fun E v9 => Q (Sum.inr E) v9))
theorem w_X4_pass {g : ab_E} {d : Nat} {a1 : Nat} {v : gd_D} {Q : ab_O → gd_D → Prop} (hd : 7 ≤ d) (h : wp_X4_pass g d a1 v Q) : gd_G g mX4_pass d 0 0 0 [(0, zR 4 0), (1, zR 2 a1)] [] v Q := by
  unfold wp_X4_pass at h
  refine gd_aload_n 0 dX4_pass_0 rfl rfl ?_
  refine gd_getR (x := 1) (kr := 5) fX4_12 rfl rfl dX4_pass_1 rfl ?_
  refine gd_aload_n 1 dX4_pass_4 rfl rfl ?_
  refine gd_callVV (As := [zR 2 a1]) (rest := []) (dy := 4) (my := 0) (sy := 0) (k := 5) (i := 1) lX4_32 iX5_arrange sX5_arrange rfl dX4_pass_5 rfl rfl (gd_room (by omega) (by decide)) (by decide) (Nat.le_of_ble_eq_true rfl) h (fun v1 h => ?_)
  refine gd_aload_n 0 dX4_pass_8 rfl rfl ?_
  refine gd_aload_n 1 dX4_pass_9 rfl rfl ?_
  refine gd_callVV (As := [zR 2 a1]) (rest := []) (dy := 6) (my := 0) (sy := 0) (k := 4) (i := 0) lX4_36 iX4_settleRings sX4_settleRings rfl dX4_pass_10 rfl rfl (gd_room (by omega) (by decide)) (by decide) (Nat.le_of_ble_eq_true rfl) h (fun v3 h => ?_)
  refine gd_iconst (x9 := 1) dX4_pass_13 (by decide) ?_
  refine gd_istore_n (L' := [(2, zI 1), (0, zR 4 0), (1, zR 2 a1)]) dX4_pass_14 rfl (by decide) rfl ?_
  refine gd_iconst (x9 := 0) dX4_pass_15 (by decide) ?_
  refine gd_istore_n (L' := [(3, zI 0), (2, zI 1), (0, zR 4 0), (1, zR 2 a1)]) dX4_pass_16 rfl (by decide) rfl ?_
  refine gd_locals [2, 3, 1, 0] rfl ?_
  exact h
def wp_X4_pass_40 (g : ab_E) (d : Nat) (a1 : Nat) (v : gd_D) (Q : ab_O → gd_D → Prop) : Prop :=
  gd_C g mX4_payPenalties 4 0 0 [zR 4 0, zR 2 a1] v (gd_rV (fun v1 =>
    gd_C g mX4_buyInLate 42 0 0 [zR 4 0, zR 2 a1] v1 (gd_rV (fun v3 =>
      ∀ v5 : gd_D, v5 = gd_sI v3 2 a1 4 ((v3.1 2 a1 4) + 1) →
      Q (Sum.inl none) v5) (fun E v9 => Q (Sum.inr E) v9))) (fun E v9 => Q (Sum.inr E) v9))
theorem w_X4_pass_40 {g : ab_E} {d : Nat} {a1 : Nat} {v : gd_D} {Q : ab_O → gd_D → Prop} (hd : 43 ≤ d) (h : wp_X4_pass_40 g d a1 v Q) : gd_G g mX4_pass d 0 0 40 [(0, zR 4 0), (1, zR 2 a1)] [] v Q := by
  unfold wp_X4_pass_40 at h
  refine gd_aload_n 0 dX4_pass_40 rfl rfl ?_
  refine gd_aload_n 1 dX4_pass_41 rfl rfl ?_
  refine gd_callVV (As := [zR 2 a1]) (rest := []) (dy := 4) (my := 0) (sy := 0) (k := 4) (i := 0) lX4_43 iX4_payPenalties sX4_payPenalties rfl dX4_pass_42 rfl rfl (gd_room (by omega) (by decide)) (by decide) (Nat.le_of_ble_eq_true rfl) h (fun v1 h => ?_)
  refine gd_aload_n 0 dX4_pass_45 rfl rfl ?_
  refine gd_aload_n 1 dX4_pass_46 rfl rfl ?_
  refine gd_callVV (As := [zR 2 a1]) (rest := []) (dy := 42) (my := 0) (sy := 0) (k := 4) (i := 0) lX4_46 iX4_buyInLate sX4_buyInLate rfl dX4_pass_47 rfl rfl (gd_room (by omega) (by decide)) (by decide) (Nat.le_of_ble_eq_true rfl) h (fun v3 h => ?_)
  refine gd_aload_n 1 dX4_pass_50 rfl rfl ?_
  refine gd_dup dX4_pass_51 rfl ?_
  refine gd_getI fX4_49 rfl dX4_pass_52 ?_
  refine gd_iconst (x9 := 1) dX4_pass_55 (by decide) ?_
  refine gd_iadd dX4_pass_56 ?_
  refine gd_putIn fX4_49 rfl rfl dX4_pass_57 (fun v5 ev5 => ?_)
  have h := h v5 ev5
  exact gd_vret dX4_pass_60 rfl h
def wp_X4_pass_17 (g : ab_E) (d : Nat) (a1 : Nat) (a2 : Int32) (a3 : Int32) (v : gd_D) (Q : ab_O → gd_D → Prop) : Prop :=
  (((24001 : Int32) ≤ a3) →
    wp_X4_pass_40 g d a1 v Q) ∧
  ((¬ (24001 : Int32) ≤ a3) →
    (((a2 : Int32) = 0) →
      wp_X4_pass_40 g d a1 v Q) ∧
    ((¬ (a2 : Int32) = 0) →
      gd_C g mX4_deliverAll 4 0 0 [zR 4 0, zR 2 a1] v (gd_rI (fun (r2 : Int32) v1 =>
        gd_G g mX4_pass d 0 0 17 [(0, zR 4 0), (1, zR 2 a1), (2, zI r2), (3, zI (a3 + 1))] [] v1 Q) (fun E v9 => Q (Sum.inr E) v9))))
theorem w_X4_pass_17 {g : ab_E} {d : Nat} {a1 : Nat} {a2 : Int32} {a3 : Int32} {v : gd_D} {Q : ab_O → gd_D → Prop} (hd : 43 ≤ d) (h : wp_X4_pass_17 g d a1 a2 a3 v Q) : gd_G g mX4_pass d 0 0 17 [(0, zR 4 0), (1, zR 2 a1), (2, zI a2), (3, zI a3)] [] v Q := by
  unfold wp_X4_pass_17 at h
  refine gd_iload_n 3 dX4_pass_17 rfl rfl ?_
  refine gd_sipush (x9 := 24001) dX4_pass_18 (by decide) ?_
  refine gd_icmp_ge (tgt := 40) dX4_pass_21 (by decide) (fun hc => ?_) (fun hc => ?_)
  · have h := h.1 hc
    refine gd_locals [0, 1] rfl ?_
    exact w_X4_pass_40 (by omega) h
  · have h := h.2 hc
    refine gd_iload_n 2 dX4_pass_24 rfl rfl ?_
    refine gd_if_eq (tgt := 40) dX4_pass_25 (by decide) (fun hc => ?_) (fun hc => ?_)
    · have h := h.1 hc
      refine gd_locals [0, 1] rfl ?_
      exact w_X4_pass_40 (by omega) h
    · have h := h.2 hc
      refine gd_aload_n 0 dX4_pass_28 rfl rfl ?_
      refine gd_aload_n 1 dX4_pass_29 rfl rfl ?_
      refine gd_callVI (As := [zR 2 a1]) (rest := []) (dy := 4) (my := 0) (sy := 0) (k := 4) (i := 0) lX4_39 iX4_deliverAll sX4_deliverAll rfl dX4_pass_30 rfl rfl (gd_room (by omega) (by decide)) (by decide) (Nat.le_of_ble_eq_true rfl) h (fun r2 v1 h => ?_)
      refine gd_istore_n (L' := [(2, zI r2), (0, zR 4 0), (1, zR 2 a1), (3, zI a3)]) dX4_pass_33 rfl (by decide) rfl ?_
      refine gd_iinc (x9 := a3 + 1) (L' := [(3, zI (a3 + 1)), (2, zI r2), (0, zR 4 0), (1, zR 2 a1)]) 3 dX4_pass_34 rfl rfl (by decide) rfl ?_
      refine gd_goto (tgt := 17) dX4_pass_37 (by decide) ?_
      refine gd_locals [2, 3, 1, 0] rfl ?_
      exact h
theorem c_X4_pass {g : ab_E} {d : Nat} {a1 : Nat} {v : gd_D} {Q : ab_O → gd_D → Prop} (hd : 7 ≤ d) (h : wp_X4_pass g d a1 v Q) : gd_C g mX4_pass d 0 0 [zR 4 0, zR 2 a1] v Q := gd_enterF (plainFor_of_name (by decide)) (Nat.le_of_ble_eq_true rfl) rfl (w_X4_pass hd h)
def wp_X4_settleRings (g : ab_E) (d : Nat) (a1 : Nat) (v : gd_D) (Q : ab_O → gd_D → Prop) : Prop :=
  gd_G g mX4_settleRings d 0 0 2 [(0, zR 4 0), (1, zR 2 a1), (2, zI 0)] [] v Q
theorem w_X4_settleRings {g : ab_E} {d : Nat} {a1 : Nat} {v : gd_D} {Q : ab_O → gd_D → Prop} (hd : 0 ≤ d) (h : wp_X4_settleRings g d a1 v Q) : gd_G g mX4_settleRings d 0 0 0 [(0, zR 4 0), (1, zR 2 a1)] [] v Q := by
  unfold wp_X4_settleRings at h
  refine gd_iconst (x9 := 0) dX4_settleRings_0 (by decide) ?_
  refine gd_istore_n (L' := [(2, zI 0), (0, zR 4 0), (1, zR 2 a1)]) dX4_settleRings_1 rfl (by decide) rfl ?_
  refine gd_locals [1, 2, 0] rfl ?_
  exact h
def wp_X4_settleRings_2 (g : ab_E) (d : Nat) (a1 : Nat) (a2 : Int32) (v : gd_D) (Q : ab_O → gd_D → Prop) : Prop :=
  (((24 : Int32) ≤ a2) →
    Q (Sum.inl none) v) ∧
  ((¬ (24 : Int32) ≤ a2) →
    gd_C g mX8_find 5 0 0 [zR 8 1, zR 2 a1, zR 5 1] v (gd_rI (fun (r2 : Int32) v1 =>
      (((r2 : Int32) = 0) →
        Q (Sum.inl none) v1) ∧
      ((¬ (r2 : Int32) = 0) →
        gd_G g mX4_settleRings d 0 0 25 [(0, zR 4 0), (1, zR 2 a1), (2, zI a2), (3, zI 0)] [] v1 Q)) (fun E v9 => Q (Sum.inr E) v9)))
theorem w_X4_settleRings_2 {g : ab_E} {d : Nat} {a1 : Nat} {a2 : Int32} {v : gd_D} {Q : ab_O → gd_D → Prop} (hd : 6 ≤ d) (h : wp_X4_settleRings_2 g d a1 a2 v Q) : gd_G g mX4_settleRings d 0 0 2 [(0, zR 4 0), (1, zR 2 a1), (2, zI a2)] [] v Q := by
  unfold wp_X4_settleRings_2 at h
  refine gd_iload_n 2 dX4_settleRings_2 rfl rfl ?_
  refine gd_bipush (x9 := 24) dX4_settleRings_3 (by decide) ?_
  refine gd_icmp_ge (tgt := 68) dX4_settleRings_5 (by decide) (fun hc => ?_) (fun hc => ?_)
  · have h := h.1 hc
    exact gd_vret dX4_settleRings_68 rfl h
  · have h := h.2 hc
    refine gd_aload_n 0 dX4_settleRings_8 rfl rfl ?_
    refine gd_getR (x := 1) (kr := 8) fX4_21 rfl rfl dX4_settleRings_9 rfl ?_
    refine gd_aload_n 1 dX4_settleRings_12 rfl rfl ?_
    refine gd_aload_n 0 dX4_settleRings_13 rfl rfl ?_
    refine gd_getR (x := 1) (kr := 5) fX4_12 rfl rfl dX4_settleRings_14 rfl ?_
    refine gd_callVI (As := [zR 2 a1, zR 5 1]) (rest := []) (dy := 5) (my := 0) (sy := 0) (k := 8) (i := 1) lX4_55 iX8_find sX8_find rfl dX4_settleRings_17 rfl rfl (gd_room (by omega) (by decide)) (by decide) (Nat.le_of_ble_eq_true rfl) h (fun r2 v1 h => ?_)
    refine gd_if_eq (tgt := 68) dX4_settleRings_20 (by decide) (fun hc => ?_) (fun hc => ?_)
    · have h := h.1 hc
      exact gd_vret dX4_settleRings_68 rfl h
    · have h := h.2 hc
      refine gd_iconst (x9 := 0) dX4_settleRings_23 (by decide) ?_
      refine gd_istore_n (L' := [(3, zI 0), (0, zR 4 0), (1, zR 2 a1), (2, zI a2)]) dX4_settleRings_24 rfl (by decide) rfl ?_
      refine gd_locals [1, 2, 3, 0] rfl ?_
      exact h
def wp_X4_settleRings_25 (g : ab_E) (d : Nat) (a1 : Nat) (a2 : Int32) (a3 : Int32) (v : gd_D) (Q : ab_O → gd_D → Prop) : Prop :=
  (((v.1 8 1 1 : Int32) ≤ a3) →
    gd_G g mX4_settleRings d 0 0 2 [(0, zR 4 0), (1, zR 2 a1), (2, zI (a2 + 1))] [] v Q) ∧
  ((¬ (v.1 8 1 1 : Int32) ≤ a3) →
    vp_in a3 8 ∧
    gd_C g mX2_settleInRing 3 0 0 [zR 2 a1, zI (v.1 36 1 (a3 : Int32).toNatClampNeg), zI (v.1 8 1 2)] v (gd_rV (fun v1 =>
      gd_G g mX4_settleRings d 0 0 25 [(0, zR 4 0), (1, zR 2 a1), (2, zI a2), (3, zI (a3 + 1))] [] v1 Q) (fun E v9 => Q (Sum.inr E) v9)))
theorem w_X4_settleRings_25 {g : ab_E} {d : Nat} {a1 : Nat} {a2 : Int32} {a3 : Int32} {v : gd_D} {Q : ab_O → gd_D → Prop} (hd : 4 ≤ d) (h : wp_X4_settleRings_25 g d a1 a2 a3 v Q) : gd_G g mX4_settleRings d 0 0 25 [(0, zR 4 0), (1, zR 2 a1), (2, zI a2), (3, zI a3)] [] v Q := by
  unfold wp_X4_settleRings_25 at h
  refine gd_iload_n 3 dX4_settleRings_25 rfl rfl ?_
  refine gd_aload_n 0 dX4_settleRings_26 rfl rfl ?_
  refine gd_getR (x := 1) (kr := 8) fX4_21 rfl rfl dX4_settleRings_27 rfl ?_
  refine gd_getI fX4_59 rfl dX4_settleRings_30 ?_
  refine gd_icmp_ge (tgt := 62) dX4_settleRings_33 (by decide) (fun hc => ?_) (fun hc => ?_)
  · have h := h.1 hc
    refine gd_iinc (x9 := a2 + 1) (L' := [(2, zI (a2 + 1)), (0, zR 4 0), (1, zR 2 a1), (3, zI a3)]) 2 dX4_settleRings_62 rfl rfl (by decide) rfl ?_
    refine gd_goto (tgt := 2) dX4_settleRings_65 (by decide) ?_
    refine gd_locals [1, 2, 0] rfl ?_
    exact h
  · have h := h.2 hc
    refine gd_aload_n 1 dX4_settleRings_36 rfl rfl ?_
    refine gd_aload_n 0 dX4_settleRings_37 rfl rfl ?_
    refine gd_getR (x := 1) (kr := 8) fX4_21 rfl rfl dX4_settleRings_38 rfl ?_
    refine gd_getR (x := 1) (kr := 36) fX4_62 rfl rfl dX4_settleRings_41 rfl ?_
    refine gd_iload_n 3 dX4_settleRings_44 rfl rfl ?_
    obtain ⟨hb, h⟩ := h
    refine gd_iaload (n := 8) (by decide) rfl dX4_settleRings_45 rfl hb ?_
    refine gd_aload_n 0 dX4_settleRings_46 rfl rfl ?_
    refine gd_getR (x := 1) (kr := 8) fX4_21 rfl rfl dX4_settleRings_47 rfl ?_
    refine gd_getI fX4_66 rfl dX4_settleRings_50 ?_
    refine gd_callVV (As := [zI (v.1 36 1 (a3 : Int32).toNatClampNeg), zI (v.1 8 1 2)]) (rest := []) (dy := 3) (my := 0) (sy := 0) (k := 2) (i := a1) lX4_69 iX2_settleInRing sX2_settleInRing rfl dX4_settleRings_53 rfl rfl (gd_room (by omega) (by decide)) (by decide) (Nat.le_of_ble_eq_true rfl) h (fun v1 h => ?_)
    refine gd_iinc (x9 := a3 + 1) (L' := [(3, zI (a3 + 1)), (0, zR 4 0), (1, zR 2 a1), (2, zI a2)]) 3 dX4_settleRings_56 rfl rfl (by decide) rfl ?_
    refine gd_goto (tgt := 25) dX4_settleRings_59 (by decide) ?_
    refine gd_locals [1, 2, 3, 0] rfl ?_
    exact h
theorem c_X4_settleRings {g : ab_E} {d : Nat} {a1 : Nat} {v : gd_D} {Q : ab_O → gd_D → Prop} (hd : 0 ≤ d) (h : wp_X4_settleRings g d a1 v Q) : gd_C g mX4_settleRings d 0 0 [zR 4 0, zR 2 a1] v Q := gd_enterF (plainFor_of_name (by decide)) (Nat.le_of_ble_eq_true rfl) rfl (w_X4_settleRings hd h)
def wp_X4_deliverAll (g : ab_E) (d : Nat) (a1 : Nat) (v : gd_D) (Q : ab_O → gd_D → Prop) : Prop :=
  gd_G g mX4_deliverAll d 0 0 4 [(0, zR 4 0), (1, zR 2 a1), (2, zI 0), (3, zI 0)] [] v Q
theorem w_X4_deliverAll {g : ab_E} {d : Nat} {a1 : Nat} {v : gd_D} {Q : ab_O → gd_D → Prop} (hd : 0 ≤ d) (h : wp_X4_deliverAll g d a1 v Q) : gd_G g mX4_deliverAll d 0 0 0 [(0, zR 4 0), (1, zR 2 a1)] [] v Q := by
  unfold wp_X4_deliverAll at h
  refine gd_iconst (x9 := 0) dX4_deliverAll_0 (by decide) ?_
  refine gd_istore_n (L' := [(2, zI 0), (0, zR 4 0), (1, zR 2 a1)]) dX4_deliverAll_1 rfl (by decide) rfl ?_
  refine gd_iconst (x9 := 0) dX4_deliverAll_2 (by decide) ?_
  refine gd_istore_n (L' := [(3, zI 0), (2, zI 0), (0, zR 4 0), (1, zR 2 a1)]) dX4_deliverAll_3 rfl (by decide) rfl ?_
  refine gd_locals [2, 3, 1, 0] rfl ?_
  exact h
def wp_X4_deliverAll_45 (g : ab_E) (d : Nat) (a1 : Nat) (a2 : Int32) (a3 : Int32) (a4 : Int32) (s0 : Int32) (v : gd_D) (Q : ab_O → gd_D → Prop) : Prop :=
  (((s0 : Int32) ≤ 0) →
    gd_G g mX4_deliverAll d 0 0 4 [(0, zR 4 0), (1, zR 2 a1), (2, zI a2), (3, zI (a3 + 1))] [] v Q) ∧
  ((¬ (s0 : Int32) ≤ 0) →
    gd_C g mX2_deliver 3 0 0 [zR 2 a1, zI a4, zI s0] v (gd_rV (fun v1 =>
      gd_G g mX4_deliverAll d 0 0 4 [(0, zR 4 0), (1, zR 2 a1), (2, zI 1), (3, zI (a3 + 1))] [] v1 Q) (fun E v9 => Q (Sum.inr E) v9)))
theorem w_X4_deliverAll_45 {g : ab_E} {d : Nat} {a1 : Nat} {a2 : Int32} {a3 : Int32} {a4 : Int32} {s0 : Int32} {v : gd_D} {Q : ab_O → gd_D → Prop} (hd : 4 ≤ d) (h : wp_X4_deliverAll_45 g d a1 a2 a3 a4 s0 v Q) : gd_G g mX4_deliverAll d 0 0 45 [(0, zR 4 0), (1, zR 2 a1), (2, zI a2), (3, zI a3), (4, zI a4)] [zI s0] v Q := by
  unfold wp_X4_deliverAll_45 at h
  refine gd_istore (L' := [(5, zI s0), (0, zR 4 0), (1, zR 2 a1), (2, zI a2), (3, zI a3), (4, zI a4)]) dX4_deliverAll_45 (by decide) rfl ?_
  refine gd_iload 0 dX4_deliverAll_47 rfl ?_
  refine gd_if_le (tgt := 62) dX4_deliverAll_49 (by decide) (fun hc => ?_) (fun hc => ?_)
  · have h := h.1 hc
    refine gd_iinc (x9 := a3 + 1) (L' := [(3, zI (a3 + 1)), (5, zI s0), (0, zR 4 0), (1, zR 2 a1), (2, zI a2), (4, zI a4)]) 4 dX4_deliverAll_62 rfl rfl (by decide) rfl ?_
    refine gd_goto (tgt := 4) dX4_deliverAll_65 (by decide) ?_
    refine gd_locals [2, 3, 4, 0] rfl ?_
    exact h
  · have h := h.2 hc
    refine gd_aload_n 2 dX4_deliverAll_52 rfl rfl ?_
    refine gd_iload 5 dX4_deliverAll_53 rfl ?_
    refine gd_iload 0 dX4_deliverAll_55 rfl ?_
    refine gd_callVV (As := [zI a4, zI s0]) (rest := []) (dy := 3) (my := 0) (sy := 0) (k := 2) (i := a1) lX4_85 iX2_deliver sX2_deliver rfl dX4_deliverAll_57 rfl rfl (gd_room (by omega) (by decide)) (by decide) (Nat.le_of_ble_eq_true rfl) h (fun v1 h => ?_)
    refine gd_iconst (x9 := 1) dX4_deliverAll_60 (by decide) ?_
    refine gd_istore_n (L' := [(2, zI 1), (5, zI s0), (0, zR 4 0), (1, zR 2 a1), (3, zI a3), (4, zI a4)]) dX4_deliverAll_61 rfl (by decide) rfl ?_
    refine gd_iinc (x9 := a3 + 1) (L' := [(3, zI (a3 + 1)), (2, zI 1), (5, zI s0), (0, zR 4 0), (1, zR 2 a1), (4, zI a4)]) 4 dX4_deliverAll_62 rfl rfl (by decide) rfl ?_
    refine gd_goto (tgt := 4) dX4_deliverAll_65 (by decide) ?_
    refine gd_locals [3, 4, 1, 0] rfl ?_
    exact h
def wp_X4_deliverAll_4 (g : ab_E) (d : Nat) (a1 : Nat) (a2 : Int32) (a3 : Int32) (v : gd_D) (Q : ab_O → gd_D → Prop) : Prop :=
  (((v.1 5 1 3 : Int32) ≤ a3) →
    narrow .boolean (.int a2) = .int a2 ∧
    Q (Sum.inl (some (zI a2))) v) ∧
  ((¬ (v.1 5 1 3 : Int32) ≤ a3) →
    vp_in a3 24 ∧
    gd_C g mX2_isAsked 2 0 0 [zR 2 a1, zI (v.1 21 1 (a3 : Int32).toNatClampNeg)] v (gd_rI (fun (r2 : Int32) v1 =>
      (((r2 : Int32) = 0) →
        wp_X4_deliverAll_45 g d a1 a2 a3 (v.1 21 1 (a3 : Int32).toNatClampNeg) 0 v1 Q) ∧
      ((¬ (r2 : Int32) = 0) →
        gd_C g mX2_deliverable 3 0 0 [zR 2 a1, zI (v.1 21 1 (a3 : Int32).toNatClampNeg)] v1 (gd_rI (fun (r4 : Int32) v3 =>
          wp_X4_deliverAll_45 g d a1 a2 a3 (v.1 21 1 (a3 : Int32).toNatClampNeg) r4 v3 Q) (fun E v9 => Q (Sum.inr E) v9)))) (fun E v9 => Q (Sum.inr E) v9)))
theorem w_X4_deliverAll_4 {g : ab_E} {d : Nat} {a1 : Nat} {a2 : Int32} {a3 : Int32} {v : gd_D} {Q : ab_O → gd_D → Prop} (hd : 4 ≤ d) (h : wp_X4_deliverAll_4 g d a1 a2 a3 v Q) : gd_G g mX4_deliverAll d 0 0 4 [(0, zR 4 0), (1, zR 2 a1), (2, zI a2), (3, zI a3)] [] v Q := by
  unfold wp_X4_deliverAll_4 at h
  refine gd_iload_n 3 dX4_deliverAll_4 rfl rfl ?_
  refine gd_aload_n 0 dX4_deliverAll_5 rfl rfl ?_
  refine gd_getR (x := 1) (kr := 5) fX4_12 rfl rfl dX4_deliverAll_6 rfl ?_
  refine gd_getI fX4_73 rfl dX4_deliverAll_9 ?_
  refine gd_icmp_ge (tgt := 68) dX4_deliverAll_12 (by decide) (fun hc => ?_) (fun hc => ?_)
  · have h := h.1 hc
    refine gd_iload_n 2 dX4_deliverAll_68 rfl rfl ?_
    obtain ⟨hn, h⟩ := h
    exact gd_iret (ty := .boolean) dX4_deliverAll_69 rfl hn h
  · have h := h.2 hc
    refine gd_aload_n 0 dX4_deliverAll_15 rfl rfl ?_
    refine gd_getR (x := 1) (kr := 5) fX4_12 rfl rfl dX4_deliverAll_16 rfl ?_
    refine gd_getR (x := 1) (kr := 21) fX4_74 rfl rfl dX4_deliverAll_19 rfl ?_
    refine gd_iload_n 3 dX4_deliverAll_22 rfl rfl ?_
    obtain ⟨hb, h⟩ := h
    refine gd_iaload (n := 24) (by decide) rfl dX4_deliverAll_23 rfl hb ?_
    refine gd_istore (L' := [(4, zI (v.1 21 1 (a3 : Int32).toNatClampNeg)), (0, zR 4 0), (1, zR 2 a1), (2, zI a2), (3, zI a3)]) dX4_deliverAll_24 (by decide) rfl ?_
    refine gd_aload_n 2 dX4_deliverAll_26 rfl rfl ?_
    refine gd_iload 0 dX4_deliverAll_27 rfl ?_
    refine gd_callVI (As := [zI (v.1 21 1 (a3 : Int32).toNatClampNeg)]) (rest := []) (dy := 2) (my := 0) (sy := 0) (k := 2) (i := a1) lX4_77 iX2_isAsked sX2_isAsked rfl dX4_deliverAll_29 rfl rfl (gd_room (by omega) (by decide)) (by decide) (Nat.le_of_ble_eq_true rfl) h (fun r2 v1 h => ?_)
    refine gd_if_eq (tgt := 44) dX4_deliverAll_32 (by decide) (fun hc => ?_) (fun hc => ?_)
    · have h := h.1 hc
      refine gd_iconst (x9 := 0) dX4_deliverAll_44 (by decide) ?_
      refine gd_locals [1, 2, 3, 4, 0] rfl ?_
      exact w_X4_deliverAll_45 (by omega) h
    · have h := h.2 hc
      refine gd_aload_n 2 dX4_deliverAll_35 rfl rfl ?_
      refine gd_iload 0 dX4_deliverAll_36 rfl ?_
      refine gd_callVI (As := [zI (v.1 21 1 (a3 : Int32).toNatClampNeg)]) (rest := []) (dy := 3) (my := 0) (sy := 0) (k := 2) (i := a1) lX4_81 iX2_deliverable sX2_deliverable rfl dX4_deliverAll_38 rfl rfl (gd_room (by omega) (by decide)) (by decide) (Nat.le_of_ble_eq_true rfl) h (fun r4 v3 h => ?_)
      refine gd_goto (tgt := 45) dX4_deliverAll_41 (by decide) ?_
      refine gd_locals [1, 2, 3, 4, 0] rfl ?_
      exact w_X4_deliverAll_45 (by omega) h
theorem c_X4_deliverAll {g : ab_E} {d : Nat} {a1 : Nat} {v : gd_D} {Q : ab_O → gd_D → Prop} (hd : 0 ≤ d) (h : wp_X4_deliverAll g d a1 v Q) : gd_C g mX4_deliverAll d 0 0 [zR 4 0, zR 2 a1] v Q := gd_enterF (plainFor_of_name (by decide)) (Nat.le_of_ble_eq_true rfl) rfl (w_X4_deliverAll hd h)
def wp_X4_payPenalties (g : ab_E) (d : Nat) (a1 : Nat) (v : gd_D) (Q : ab_O → gd_D → Prop) : Prop :=
  gd_C g mX2_countFails 3 0 0 [zR 2 a1] v (gd_rI (fun (r2 : Int32) v1 =>
    ∀ v3 : gd_D, v3 = gd_sI v1 4 0 3 r2 →
    gd_C g mX2_unitsOfFails 3 0 0 [zR 2 a1, zI (-1), zI (-1)] v3 (gd_rI (fun (r5 : Int32) v4 =>
      ∀ v6 : gd_D, v6 = gd_sI v4 4 0 4 r5 →
      ∀ v7 : gd_D, v7 = gd_sJ v6 4 0 5 0 →
      gd_G g mX4_payPenalties d 0 0 25 [(0, zR 4 0), (1, zR 2 a1), (2, zI 0)] [] v7 Q) (fun E v9 => Q (Sum.inr E) v9))) (fun E v9 => Q (Sum.inr E) v9))
theorem w_X4_payPenalties {g : ab_E} {d : Nat} {a1 : Nat} {v : gd_D} {Q : ab_O → gd_D → Prop} (hd : 4 ≤ d) (h : wp_X4_payPenalties g d a1 v Q) : gd_G g mX4_payPenalties d 0 0 0 [(0, zR 4 0), (1, zR 2 a1)] [] v Q := by
  unfold wp_X4_payPenalties at h
  refine gd_aload_n 0 dX4_payPenalties_0 rfl rfl ?_
  refine gd_aload_n 1 dX4_payPenalties_1 rfl rfl ?_
  refine gd_callVI (As := []) (rest := [zR 4 0]) (dy := 3) (my := 0) (sy := 0) (k := 2) (i := a1) lX4_88 iX2_countFails sX2_countFails rfl dX4_payPenalties_2 rfl rfl (gd_room (by omega) (by decide)) (by decide) (Nat.le_of_ble_eq_true rfl) h (fun r2 v1 h => ?_)
  refine gd_putIn fX4_92 rfl rfl dX4_payPenalties_5 (fun v3 ev3 => ?_)
  have h := h v3 ev3
  refine gd_aload_n 0 dX4_payPenalties_8 rfl rfl ?_
  refine gd_aload_n 1 dX4_payPenalties_9 rfl rfl ?_
  refine gd_iconst (x9 := (-1)) dX4_payPenalties_10 (by decide) ?_
  refine gd_iconst (x9 := (-1)) dX4_payPenalties_11 (by decide) ?_
  refine gd_callVI (As := [zI (-1), zI (-1)]) (rest := [zR 4 0]) (dy := 3) (my := 0) (sy := 0) (k := 2) (i := a1) lX4_95 iX2_unitsOfFails sX2_unitsOfFails rfl dX4_payPenalties_12 rfl rfl (gd_room (by omega) (by decide)) (by decide) (Nat.le_of_ble_eq_true rfl) h (fun r5 v4 h => ?_)
  refine gd_putIn fX4_99 rfl rfl dX4_payPenalties_15 (fun v6 ev6 => ?_)
  have h := h v6 ev6
  refine gd_aload_n 0 dX4_payPenalties_18 rfl rfl ?_
  refine gd_lconst (x9 := 0) dX4_payPenalties_19 (by decide) ?_
  refine gd_putJn fX4_102 rfl rfl dX4_payPenalties_20 (fun v7 ev7 => ?_)
  have h := h v7 ev7
  refine gd_iconst (x9 := 0) dX4_payPenalties_23 (by decide) ?_
  refine gd_istore_n (L' := [(2, zI 0), (0, zR 4 0), (1, zR 2 a1)]) dX4_payPenalties_24 rfl (by decide) rfl ?_
  refine gd_locals [1, 2, 0] rfl ?_
  exact h
def wp_X4_payPenalties_25 (g : ab_E) (d : Nat) (a1 : Nat) (a2 : Int32) (v : gd_D) (Q : ab_O → gd_D → Prop) : Prop :=
  (((v.1 2 a1 3 : Int32) ≤ a2) →
    Q (Sum.inl none) v) ∧
  ((¬ (v.1 2 a1 3 : Int32) ≤ a2) →
    gd_C g mX2_isAsked 2 0 0 [zR 2 a1, zI a2] v (gd_rI (fun (r2 : Int32) v1 =>
      (((r2 : Int32) = 0) →
        gd_G g mX4_payPenalties d 0 0 25 [(0, zR 4 0), (1, zR 2 a1), (2, zI (a2 + 1))] [] v1 Q) ∧
      ((¬ (r2 : Int32) = 0) →
        gd_C g mX2_penaltyOf 2 0 0 [zR 2 a1, zI a2] v1 (gd_rJ (fun (r4 : Int64) v3 =>
          ∀ v5 : gd_D, v5 = gd_sJ v3 4 0 5 ((v3.2.1 4 0 5) + r4) →
          gd_C g mX2_payPenalty 2 0 0 [zR 2 a1, zI a2, zJ r4] v5 (gd_rV (fun v6 =>
            gd_G g mX4_payPenalties d 0 0 25 [(0, zR 4 0), (1, zR 2 a1), (2, zI (a2 + 1))] [] v6 Q) (fun E v9 => Q (Sum.inr E) v9))) (fun E v9 => Q (Sum.inr E) v9)))) (fun E v9 => Q (Sum.inr E) v9)))
theorem w_X4_payPenalties_25 {g : ab_E} {d : Nat} {a1 : Nat} {a2 : Int32} {v : gd_D} {Q : ab_O → gd_D → Prop} (hd : 3 ≤ d) (h : wp_X4_payPenalties_25 g d a1 a2 v Q) : gd_G g mX4_payPenalties d 0 0 25 [(0, zR 4 0), (1, zR 2 a1), (2, zI a2)] [] v Q := by
  unfold wp_X4_payPenalties_25 at h
  refine gd_iload_n 2 dX4_payPenalties_25 rfl rfl ?_
  refine gd_aload_n 1 dX4_payPenalties_26 rfl rfl ?_
  refine gd_getI fX4_106 rfl dX4_payPenalties_27 ?_
  refine gd_icmp_ge (tgt := 69) dX4_payPenalties_30 (by decide) (fun hc => ?_) (fun hc => ?_)
  · have h := h.1 hc
    exact gd_vret dX4_payPenalties_69 rfl h
  · have h := h.2 hc
    refine gd_aload_n 1 dX4_payPenalties_33 rfl rfl ?_
    refine gd_iload_n 2 dX4_payPenalties_34 rfl rfl ?_
    refine gd_callVI (As := [zI a2]) (rest := []) (dy := 2) (my := 0) (sy := 0) (k := 2) (i := a1) lX4_77 iX2_isAsked sX2_isAsked rfl dX4_payPenalties_35 rfl rfl (gd_room (by omega) (by decide)) (by decide) (Nat.le_of_ble_eq_true rfl) h (fun r2 v1 h => ?_)
    refine gd_if_eq (tgt := 63) dX4_payPenalties_38 (by decide) (fun hc => ?_) (fun hc => ?_)
    · have h := h.1 hc
      refine gd_iinc (x9 := a2 + 1) (L' := [(2, zI (a2 + 1)), (0, zR 4 0), (1, zR 2 a1)]) 2 dX4_payPenalties_63 rfl rfl (by decide) rfl ?_
      refine gd_goto (tgt := 25) dX4_payPenalties_66 (by decide) ?_
      refine gd_locals [1, 2, 0] rfl ?_
      exact h
    · have h := h.2 hc
      refine gd_aload_n 1 dX4_payPenalties_41 rfl rfl ?_
      refine gd_iload_n 2 dX4_payPenalties_42 rfl rfl ?_
      refine gd_callVJ (As := [zI a2]) (rest := []) (dy := 2) (my := 0) (sy := 0) (k := 2) (i := a1) lX4_109 iX2_penaltyOf sX2_penaltyOf rfl dX4_payPenalties_43 rfl rfl (gd_room (by omega) (by decide)) (by decide) (Nat.le_of_ble_eq_true rfl) h (fun r4 v3 h => ?_)
      refine gd_lstore_n (L' := [(3, zJ r4), (0, zR 4 0), (1, zR 2 a1), (2, zI a2)]) dX4_payPenalties_46 rfl (by decide) rfl ?_
      refine gd_aload_n 1 dX4_payPenalties_47 rfl rfl ?_
      refine gd_dup dX4_payPenalties_48 rfl ?_
      refine gd_getJ fX4_102 rfl dX4_payPenalties_49 ?_
      refine gd_lload_n 0 dX4_payPenalties_52 rfl rfl ?_
      refine gd_ladd dX4_payPenalties_53 ?_
      refine gd_putJn fX4_102 rfl rfl dX4_payPenalties_54 (fun v5 ev5 => ?_)
      have h := h v5 ev5
      refine gd_aload_n 2 dX4_payPenalties_57 rfl rfl ?_
      refine gd_iload_n 3 dX4_payPenalties_58 rfl rfl ?_
      refine gd_lload_n 0 dX4_payPenalties_59 rfl rfl ?_
      refine gd_callVV (As := [zI a2, zJ r4]) (rest := []) (dy := 2) (my := 0) (sy := 0) (k := 2) (i := a1) lX4_113 iX2_payPenalty sX2_payPenalty rfl dX4_payPenalties_60 rfl rfl (gd_room (by omega) (by decide)) (by decide) (Nat.le_of_ble_eq_true rfl) h (fun v6 h => ?_)
      refine gd_iinc (x9 := a2 + 1) (L' := [(2, zI (a2 + 1)), (3, zJ r4), (0, zR 4 0), (1, zR 2 a1)]) 3 dX4_payPenalties_63 rfl rfl (by decide) rfl ?_
      refine gd_goto (tgt := 25) dX4_payPenalties_66 (by decide) ?_
      refine gd_locals [2, 3, 0] rfl ?_
      exact h
theorem c_X4_payPenalties {g : ab_E} {d : Nat} {a1 : Nat} {v : gd_D} {Q : ab_O → gd_D → Prop} (hd : 4 ≤ d) (h : wp_X4_payPenalties g d a1 v Q) : gd_C g mX4_payPenalties d 0 0 [zR 4 0, zR 2 a1] v Q := gd_enterF (plainFor_of_name (by decide)) (Nat.le_of_ble_eq_true rfl) rfl (w_X4_payPenalties hd h)
def wp_X4_buyInLate (g : ab_E) (d : Nat) (a1 : Nat) (v : gd_D) (Q : ab_O → gd_D → Prop) : Prop :=
  gd_G g mX4_buyInLate d 0 0 2 [(0, zR 4 0), (1, zR 2 a1), (2, zI 0)] [] v Q
theorem w_X4_buyInLate {g : ab_E} {d : Nat} {a1 : Nat} {v : gd_D} {Q : ab_O → gd_D → Prop} (hd : 0 ≤ d) (h : wp_X4_buyInLate g d a1 v Q) : gd_G g mX4_buyInLate d 0 0 0 [(0, zR 4 0), (1, zR 2 a1)] [] v Q := by
  unfold wp_X4_buyInLate at h
  refine gd_iconst (x9 := 0) dX4_buyInLate_0 (by decide) ?_
  refine gd_istore_n (L' := [(2, zI 0), (0, zR 4 0), (1, zR 2 a1)]) dX4_buyInLate_1 rfl (by decide) rfl ?_
  refine gd_locals [1, 2, 0] rfl ?_
  exact h
def wp_X4_buyInLate_49 (g : ab_E) (d : Nat) (a1 : Nat) (a2 : Int32) (a3 : Int32) (s0 : Int32) (v : gd_D) (Q : ab_O → gd_D → Prop) : Prop :=
  (((s0 : Int32) = 0) →
    gd_G g mX4_buyInLate d 0 0 2 [(0, zR 4 0), (1, zR 2 a1), (2, zI (a2 + 1))] [] v Q) ∧
  ((¬ (s0 : Int32) = 0) →
    gd_C g mX2_isAsked 2 0 0 [zR 2 a1, zI a3] v (gd_rI (fun (r2 : Int32) v1 =>
      (((r2 : Int32) = 0) →
        gd_G g mX4_buyInLate d 0 0 2 [(0, zR 4 0), (1, zR 2 a1), (2, zI (a2 + 1))] [] v1 Q) ∧
      ((¬ (r2 : Int32) = 0) →
        vp_in a3 24 ∧
        ∀ x3 : Int32, x3 = v1.1 9 (24 * a1 + (a3 : Int32).toNatClampNeg) 1 →
        gd_C g mX2_sellsAsked 4 0 0 [zR 2 a1, zI x3] v1 (gd_rI (fun (r5 : Int32) v4 =>
          ((¬ (r5 : Int32) = 0) →
            gd_G g mX4_buyInLate d 0 0 2 [(0, zR 4 0), (1, zR 2 a1), (2, zI (a2 + 1))] [] v4 Q) ∧
          (((r5 : Int32) = 0) →
            vp_in a3 24 ∧
            ∀ x6 : Int32, x6 = v4.1 9 (24 * a1 + (a3 : Int32).toNatClampNeg) 5 →
            gd_C g mX6_buyIn 41 0 0 [zR 6 1, zR 2 a1, zR 5 1, zI a3, zI x6] v4 (gd_rV (fun v7 =>
              gd_G g mX4_buyInLate d 0 0 2 [(0, zR 4 0), (1, zR 2 a1), (2, zI (a2 + 1))] [] v7 Q) (fun E v9 => Q (Sum.inr E) v9)))) (fun E v9 => Q (Sum.inr E) v9)))) (fun E v9 => Q (Sum.inr E) v9)))
theorem w_X4_buyInLate_49 {g : ab_E} {d : Nat} {a1 : Nat} {a2 : Int32} {a3 : Int32} {s0 : Int32} {v : gd_D} {Q : ab_O → gd_D → Prop} (hd : 42 ≤ d) (h : wp_X4_buyInLate_49 g d a1 a2 a3 s0 v Q) : gd_G g mX4_buyInLate d 0 0 49 [(0, zR 4 0), (1, zR 2 a1), (2, zI a2), (3, zI a3)] [zI s0] v Q := by
  unfold wp_X4_buyInLate_49 at h
  refine gd_istore (L' := [(4, zI s0), (0, zR 4 0), (1, zR 2 a1), (2, zI a2), (3, zI a3)]) dX4_buyInLate_49 (by decide) rfl ?_
  refine gd_iload 0 dX4_buyInLate_51 rfl ?_
  refine gd_if_eq (tgt := 102) dX4_buyInLate_53 (by decide) (fun hc => ?_) (fun hc => ?_)
  · have h := h.1 hc
    refine gd_iinc (x9 := a2 + 1) (L' := [(2, zI (a2 + 1)), (4, zI s0), (0, zR 4 0), (1, zR 2 a1), (3, zI a3)]) 3 dX4_buyInLate_102 rfl rfl (by decide) rfl ?_
    refine gd_goto (tgt := 2) dX4_buyInLate_105 (by decide) ?_
    refine gd_locals [2, 3, 0] rfl ?_
    exact h
  · have h := h.2 hc
    refine gd_aload_n 2 dX4_buyInLate_56 rfl rfl ?_
    refine gd_iload_n 4 dX4_buyInLate_57 rfl rfl ?_
    refine gd_callVI (As := [zI a3]) (rest := []) (dy := 2) (my := 0) (sy := 0) (k := 2) (i := a1) lX4_77 iX2_isAsked sX2_isAsked rfl dX4_buyInLate_58 rfl rfl (gd_room (by omega) (by decide)) (by decide) (Nat.le_of_ble_eq_true rfl) h (fun r2 v1 h => ?_)
    refine gd_if_eq (tgt := 102) dX4_buyInLate_61 (by decide) (fun hc => ?_) (fun hc => ?_)
    · have h := h.1 hc
      refine gd_iinc (x9 := a2 + 1) (L' := [(2, zI (a2 + 1)), (4, zI s0), (0, zR 4 0), (1, zR 2 a1), (3, zI a3)]) 3 dX4_buyInLate_102 rfl rfl (by decide) rfl ?_
      refine gd_goto (tgt := 2) dX4_buyInLate_105 (by decide) ?_
      refine gd_locals [2, 3, 0] rfl ?_
      exact h
    · have h := h.2 hc
      refine gd_aload_n 2 dX4_buyInLate_64 rfl rfl ?_
      refine gd_aload_n 2 dX4_buyInLate_65 rfl rfl ?_
      refine gd_getR (x := a1) (kr := 14) fX4_117 rfl rfl dX4_buyInLate_66 rfl ?_
      refine gd_iload_n 4 dX4_buyInLate_69 rfl rfl ?_
      obtain ⟨hb, h⟩ := h
      refine gd_aaload (n := 24) (kr := 9) (y := 24 * a1 + (a3 : Int32).toNatClampNeg) (by decide) rfl rfl dX4_buyInLate_70 rfl hb (if_pos (ab_inlt hb)) ?_
      refine gd_getI fX4_129 rfl dX4_buyInLate_71 ?_
      refine gd_nmI (fun x3 ex3 => ?_)
      have h := h x3 ex3
      refine gd_callVI (As := [zI x3]) (rest := []) (dy := 4) (my := 0) (sy := 0) (k := 2) (i := a1) lX4_132 iX2_sellsAsked sX2_sellsAsked rfl dX4_buyInLate_74 rfl rfl (gd_room (by omega) (by decide)) (by decide) (Nat.le_of_ble_eq_true rfl) h (fun r5 v4 h => ?_)
      refine gd_if_ne (tgt := 102) dX4_buyInLate_77 (by decide) (fun hc => ?_) (fun hc => ?_)
      · have h := h.1 hc
        refine gd_iinc (x9 := a2 + 1) (L' := [(2, zI (a2 + 1)), (4, zI s0), (0, zR 4 0), (1, zR 2 a1), (3, zI a3)]) 3 dX4_buyInLate_102 rfl rfl (by decide) rfl ?_
        refine gd_goto (tgt := 2) dX4_buyInLate_105 (by decide) ?_
        refine gd_locals [2, 3, 0] rfl ?_
        exact h
      · have h := h.2 hc
        refine gd_aload_n 1 dX4_buyInLate_80 rfl rfl ?_
        refine gd_getR (x := 1) (kr := 6) fX4_28 rfl rfl dX4_buyInLate_81 rfl ?_
        refine gd_aload_n 2 dX4_buyInLate_84 rfl rfl ?_
        refine gd_aload_n 1 dX4_buyInLate_85 rfl rfl ?_
        refine gd_getR (x := 1) (kr := 5) fX4_12 rfl rfl dX4_buyInLate_86 rfl ?_
        refine gd_iload_n 4 dX4_buyInLate_89 rfl rfl ?_
        refine gd_aload_n 2 dX4_buyInLate_90 rfl rfl ?_
        refine gd_getR (x := a1) (kr := 14) fX4_117 rfl rfl dX4_buyInLate_91 rfl ?_
        refine gd_iload_n 4 dX4_buyInLate_94 rfl rfl ?_
        obtain ⟨hb, h⟩ := h
        refine gd_aaload (n := 24) (kr := 9) (y := 24 * a1 + (a3 : Int32).toNatClampNeg) (by decide) rfl rfl dX4_buyInLate_95 rfl hb (if_pos (ab_inlt hb)) ?_
        refine gd_getI fX4_135 rfl dX4_buyInLate_96 ?_
        refine gd_nmI (fun x6 ex6 => ?_)
        have h := h x6 ex6
        refine gd_callVV (As := [zR 2 a1, zR 5 1, zI a3, zI x6]) (rest := []) (dy := 41) (my := 0) (sy := 0) (k := 6) (i := 1) lX4_138 iX6_buyIn sX6_buyIn rfl dX4_buyInLate_99 rfl rfl (gd_room (by omega) (by decide)) (by decide) (Nat.le_of_ble_eq_true rfl) h (fun v7 h => ?_)
        refine gd_iinc (x9 := a2 + 1) (L' := [(2, zI (a2 + 1)), (4, zI s0), (0, zR 4 0), (1, zR 2 a1), (3, zI a3)]) 3 dX4_buyInLate_102 rfl rfl (by decide) rfl ?_
        refine gd_goto (tgt := 2) dX4_buyInLate_105 (by decide) ?_
        refine gd_locals [2, 3, 0] rfl ?_
        exact h
def wp_X4_buyInLate_2 (g : ab_E) (d : Nat) (a1 : Nat) (a2 : Int32) (v : gd_D) (Q : ab_O → gd_D → Prop) : Prop :=
  (((v.1 5 1 3 : Int32) ≤ a2) →
    Q (Sum.inl none) v) ∧
  ((¬ (v.1 5 1 3 : Int32) ≤ a2) →
    vp_in a2 24 ∧
    vp_in (v.1 21 1 (a2 : Int32).toNatClampNeg) 24 ∧
    ∀ i1 : Nat, i1 = 24 * a1 + (v.1 21 1 (a2 : Int32).toNatClampNeg : Int32).toNatClampNeg →
    ((((v.1 2 a1 4) - (v.1 9 i1 4) : Int32) < (v.1 2 a1 8)) →
      wp_X4_buyInLate_49 g d a1 a2 (v.1 21 1 (a2 : Int32).toNatClampNeg) 0 v Q) ∧
    ((¬ ((v.1 2 a1 4) - (v.1 9 i1 4) : Int32) < (v.1 2 a1 8)) →
      wp_X4_buyInLate_49 g d a1 a2 (v.1 21 1 (a2 : Int32).toNatClampNeg) 1 v Q))
theorem w_X4_buyInLate_2 {g : ab_E} {d : Nat} {a1 : Nat} {a2 : Int32} {v : gd_D} {Q : ab_O → gd_D → Prop} (hd : 42 ≤ d) (h : wp_X4_buyInLate_2 g d a1 a2 v Q) : gd_G g mX4_buyInLate d 0 0 2 [(0, zR 4 0), (1, zR 2 a1), (2, zI a2)] [] v Q := by
  unfold wp_X4_buyInLate_2 at h
  refine gd_iload_n 2 dX4_buyInLate_2 rfl rfl ?_
  refine gd_aload_n 0 dX4_buyInLate_3 rfl rfl ?_
  refine gd_getR (x := 1) (kr := 5) fX4_12 rfl rfl dX4_buyInLate_4 rfl ?_
  refine gd_getI fX4_73 rfl dX4_buyInLate_7 ?_
  refine gd_icmp_ge (tgt := 108) dX4_buyInLate_10 (by decide) (fun hc => ?_) (fun hc => ?_)
  · have h := h.1 hc
    exact gd_vret dX4_buyInLate_108 rfl h
  · have h := h.2 hc
    refine gd_aload_n 0 dX4_buyInLate_13 rfl rfl ?_
    refine gd_getR (x := 1) (kr := 5) fX4_12 rfl rfl dX4_buyInLate_14 rfl ?_
    refine gd_getR (x := 1) (kr := 21) fX4_74 rfl rfl dX4_buyInLate_17 rfl ?_
    refine gd_iload_n 2 dX4_buyInLate_20 rfl rfl ?_
    obtain ⟨hb, h⟩ := h
    refine gd_iaload (n := 24) (by decide) rfl dX4_buyInLate_21 rfl hb ?_
    refine gd_istore_n (L' := [(3, zI (v.1 21 1 (a2 : Int32).toNatClampNeg)), (0, zR 4 0), (1, zR 2 a1), (2, zI a2)]) dX4_buyInLate_22 rfl (by decide) rfl ?_
    refine gd_aload_n 2 dX4_buyInLate_23 rfl rfl ?_
    refine gd_getI fX4_49 rfl dX4_buyInLate_24 ?_
    refine gd_aload_n 2 dX4_buyInLate_27 rfl rfl ?_
    refine gd_getR (x := a1) (kr := 14) fX4_117 rfl rfl dX4_buyInLate_28 rfl ?_
    refine gd_iload_n 0 dX4_buyInLate_31 rfl rfl ?_
    obtain ⟨hb, h⟩ := h
    refine gd_aaload (n := 24) (kr := 9) (y := 24 * a1 + (v.1 21 1 (a2 : Int32).toNatClampNeg : Int32).toNatClampNeg) (by decide) rfl rfl dX4_buyInLate_32 rfl hb (if_pos (ab_inlt hb)) ?_
    refine gd_nmR (fun i1 ei1 => ?_)
    have h := h i1 ei1
    refine gd_getI fX4_121 rfl dX4_buyInLate_33 ?_
    refine gd_isub dX4_buyInLate_36 ?_
    refine gd_aload_n 2 dX4_buyInLate_37 rfl rfl ?_
    refine gd_getI fX4_126 rfl dX4_buyInLate_38 ?_
    refine gd_icmp_lt (tgt := 48) dX4_buyInLate_41 (by decide) (fun hc => ?_) (fun hc => ?_)
    · have h := h.1 hc
      refine gd_iconst (x9 := 0) dX4_buyInLate_48 (by decide) ?_
      refine gd_locals [1, 2, 3, 0] rfl ?_
      exact w_X4_buyInLate_49 (by omega) h
    · have h := h.2 hc
      refine gd_iconst (x9 := 1) dX4_buyInLate_44 (by decide) ?_
      refine gd_goto (tgt := 49) dX4_buyInLate_45 (by decide) ?_
      refine gd_locals [1, 2, 3, 0] rfl ?_
      exact w_X4_buyInLate_49 (by omega) h
theorem c_X4_buyInLate {g : ab_E} {d : Nat} {a1 : Nat} {v : gd_D} {Q : ab_O → gd_D → Prop} (hd : 0 ≤ d) (h : wp_X4_buyInLate g d a1 v Q) : gd_C g mX4_buyInLate d 0 0 [zR 4 0, zR 2 a1] v Q := gd_enterF (plainFor_of_name (by decide)) (Nat.le_of_ble_eq_true rfl) rfl (w_X4_buyInLate hd h)
def wp_X1_keep (g : ab_E) (d : Nat) (a1 : Nat) (v : gd_D) (Q : ab_O → gd_D → Prop) : Prop :=
  vp_in (v.1 1 0 1) 8 ∧
  gd_C g mX2_copyFrom 3 0 0 [zR 2 (1 + (v.1 1 0 1 : Int32).toNatClampNeg), zR 2 a1] v (gd_rV (fun v1 =>
    ¬ (8 : Int32) = 0 ∧
    ∀ v3 : gd_D, v3 = gd_sI v1 1 0 1 (((v1.1 1 0 1) + 1) - ((v1.1 1 0 1) + 1) / 8 * 8) →
    gd_C g mJ9_min_7cf53 2 0 0 [zI ((v3.1 1 0 2) + 1), zI 8] v3 (gd_rI (fun (r5 : Int32) v4 =>
      ∀ v6 : gd_D, v6 = gd_sI v4 1 0 2 r5 →
      Q (Sum.inl none) v6) (fun E v9 => Q (Sum.inr E) v9))) (fun E v9 => Q (Sum.inr E) v9))
theorem w_X1_keep {g : ab_E} {d : Nat} {a1 : Nat} {v : gd_D} {Q : ab_O → gd_D → Prop} (hd : 4 ≤ d) (h : wp_X1_keep g d a1 v Q) : gd_G g mX1_keep d 0 0 0 [(0, zR 1 0), (1, zR 2 a1)] [] v Q := by
  unfold wp_X1_keep at h
  refine gd_aload_n 0 dX1_keep_0 rfl rfl ?_
  refine gd_getR (x := 0) (kr := 12) fX1_11 rfl rfl dX1_keep_1 rfl ?_
  refine gd_aload_n 0 dX1_keep_4 rfl rfl ?_
  refine gd_getI fX1_18 rfl dX1_keep_5 ?_
  obtain ⟨hb, h⟩ := h
  refine gd_aaload (n := 8) (kr := 2) (y := 1 + (v.1 1 0 1 : Int32).toNatClampNeg) (by decide) rfl rfl dX1_keep_8 rfl hb (if_pos (ab_inlt hb)) ?_
  refine gd_aload_n 1 dX1_keep_9 rfl rfl ?_
  refine gd_callVV (As := [zR 2 a1]) (rest := []) (dy := 3) (my := 0) (sy := 0) (k := 2) (i := 1 + (v.1 1 0 1 : Int32).toNatClampNeg) lX1_22 iX2_copyFrom sX2_copyFrom rfl dX1_keep_10 rfl rfl (gd_room (by omega) (by decide)) (by decide) (Nat.le_of_ble_eq_true rfl) h (fun v1 h => ?_)
  refine gd_aload_n 0 dX1_keep_13 rfl rfl ?_
  refine gd_aload_n 0 dX1_keep_14 rfl rfl ?_
  refine gd_getI fX1_18 rfl dX1_keep_15 ?_
  refine gd_iconst (x9 := 1) dX1_keep_18 (by decide) ?_
  refine gd_iadd dX1_keep_19 ?_
  refine gd_bipush (x9 := 8) dX1_keep_20 (by decide) ?_
  obtain ⟨hg, h⟩ := h
  refine gd_irem dX1_keep_22 hg ?_
  refine gd_putIn fX1_18 rfl rfl dX1_keep_23 (fun v3 ev3 => ?_)
  have h := h v3 ev3
  refine gd_aload_n 0 dX1_keep_26 rfl rfl ?_
  refine gd_aload_n 0 dX1_keep_27 rfl rfl ?_
  refine gd_getI fX1_26 rfl dX1_keep_28 ?_
  refine gd_iconst (x9 := 1) dX1_keep_31 (by decide) ?_
  refine gd_iadd dX1_keep_32 ?_
  refine gd_bipush (x9 := 8) dX1_keep_33 (by decide) ?_
  refine gd_callSI (As := [zI ((v3.1 1 0 2) + 1), zI 8]) (rest := [zR 1 0]) (dy := 2) (my := 0) (sy := 0) lX1_29 tJ9_min_7cf53 dX1_keep_35 rfl rfl (gd_room (by omega) (by decide)) (by decide) (Nat.le_of_ble_eq_true rfl) h (fun r5 v4 h => ?_)
  refine gd_putIn fX1_26 rfl rfl dX1_keep_38 (fun v6 ev6 => ?_)
  have h := h v6 ev6
  exact gd_vret dX1_keep_41 rfl h
theorem c_X1_keep {g : ab_E} {d : Nat} {a1 : Nat} {v : gd_D} {Q : ab_O → gd_D → Prop} (hd : 4 ≤ d) (h : wp_X1_keep g d a1 v Q) : gd_C g mX1_keep d 0 0 [zR 1 0, zR 2 a1] v Q := gd_enterF (plainFor_of_name (by decide)) (Nat.le_of_ble_eq_true rfl) rfl (w_X1_keep hd h)
def wp_X1_takeBack (g : ab_E) (d : Nat) (a1 : Nat) (v : gd_D) (Q : ab_O → gd_D → Prop) : Prop :=
  ((¬ (v.1 1 0 2 : Int32) = 0) →
    ¬ (8 : Int32) = 0 ∧
    ∀ v1 : gd_D, v1 = gd_sI v 1 0 1 ((((v.1 1 0 1) + 8) - 1) - (((v.1 1 0 1) + 8) - 1) / 8 * 8) →
    ∀ v2 : gd_D, v2 = gd_sI v1 1 0 2 ((v1.1 1 0 2) - 1) →
    vp_in (v2.1 1 0 1) 8 ∧
    gd_C g mX2_copyFrom 3 0 0 [zR 2 a1, zR 2 (1 + (v2.1 1 0 1 : Int32).toNatClampNeg)] v2 (gd_rV (fun v3 =>
      Q (Sum.inl (some (zI (v3.1 1 0 2)))) v3) (fun E v9 => Q (Sum.inr E) v9))) ∧
  (((v.1 1 0 2 : Int32) = 0) →
    Q (Sum.inl (some (zI (-1)))) v)
theorem w_X1_takeBack {g : ab_E} {d : Nat} {a1 : Nat} {v : gd_D} {Q : ab_O → gd_D → Prop} (hd : 4 ≤ d) (h : wp_X1_takeBack g d a1 v Q) : gd_G g mX1_takeBack d 0 0 0 [(0, zR 1 0), (1, zR 2 a1)] [] v Q := by
  unfold wp_X1_takeBack at h
  refine gd_aload_n 0 dX1_takeBack_0 rfl rfl ?_
  refine gd_getI fX1_26 rfl dX1_takeBack_1 ?_
  refine gd_if_ne (tgt := 9) dX1_takeBack_4 (by decide) (fun hc => ?_) (fun hc => ?_)
  · have h := h.1 hc
    refine gd_aload_n 0 dX1_takeBack_9 rfl rfl ?_
    refine gd_aload_n 0 dX1_takeBack_10 rfl rfl ?_
    refine gd_getI fX1_18 rfl dX1_takeBack_11 ?_
    refine gd_bipush (x9 := 8) dX1_takeBack_14 (by decide) ?_
    refine gd_iadd dX1_takeBack_16 ?_
    refine gd_iconst (x9 := 1) dX1_takeBack_17 (by decide) ?_
    refine gd_isub dX1_takeBack_18 ?_
    refine gd_bipush (x9 := 8) dX1_takeBack_19 (by decide) ?_
    obtain ⟨hg, h⟩ := h
    refine gd_irem dX1_takeBack_21 hg ?_
    refine gd_putIn fX1_18 rfl rfl dX1_takeBack_22 (fun v1 ev1 => ?_)
    have h := h v1 ev1
    refine gd_aload_n 0 dX1_takeBack_25 rfl rfl ?_
    refine gd_dup dX1_takeBack_26 rfl ?_
    refine gd_getI fX1_26 rfl dX1_takeBack_27 ?_
    refine gd_iconst (x9 := 1) dX1_takeBack_30 (by decide) ?_
    refine gd_isub dX1_takeBack_31 ?_
    refine gd_putIn fX1_26 rfl rfl dX1_takeBack_32 (fun v2 ev2 => ?_)
    have h := h v2 ev2
    refine gd_aload_n 1 dX1_takeBack_35 rfl rfl ?_
    refine gd_aload_n 0 dX1_takeBack_36 rfl rfl ?_
    refine gd_getR (x := 0) (kr := 12) fX1_11 rfl rfl dX1_takeBack_37 rfl ?_
    refine gd_aload_n 0 dX1_takeBack_40 rfl rfl ?_
    refine gd_getI fX1_18 rfl dX1_takeBack_41 ?_
    obtain ⟨hb, h⟩ := h
    refine gd_aaload (n := 8) (kr := 2) (y := 1 + (v2.1 1 0 1 : Int32).toNatClampNeg) (by decide) rfl rfl dX1_takeBack_44 rfl hb (if_pos (ab_inlt hb)) ?_
    refine gd_callVV (As := [zR 2 (1 + (v2.1 1 0 1 : Int32).toNatClampNeg)]) (rest := []) (dy := 3) (my := 0) (sy := 0) (k := 2) (i := a1) lX1_22 iX2_copyFrom sX2_copyFrom rfl dX1_takeBack_45 rfl rfl (gd_room (by omega) (by decide)) (by decide) (Nat.le_of_ble_eq_true rfl) h (fun v3 h => ?_)
    refine gd_aload_n 0 dX1_takeBack_48 rfl rfl ?_
    refine gd_getI fX1_26 rfl dX1_takeBack_49 ?_
    exact gd_iret (ty := .int) dX1_takeBack_52 rfl rfl h
  · have h := h.2 hc
    refine gd_iconst (x9 := (-1)) dX1_takeBack_7 (by decide) ?_
    exact gd_iret (ty := .int) dX1_takeBack_8 rfl rfl h
theorem c_X1_takeBack {g : ab_E} {d : Nat} {a1 : Nat} {v : gd_D} {Q : ab_O → gd_D → Prop} (hd : 4 ≤ d) (h : wp_X1_takeBack g d a1 v Q) : gd_C g mX1_takeBack d 0 0 [zR 1 0, zR 2 a1] v Q := gd_enterF (plainFor_of_name (by decide)) (Nat.le_of_ble_eq_true rfl) rfl (w_X1_takeBack hd h)
