def wp_X7_put (g : ab_E) (d : Nat) (a1 : Int32) (v : gd_D) (Q : ab_O → gd_D → Prop) : Prop :=
  gd_G g mX7_put d 0 0 3 [(0, zR 7 0), (1, zI a1), (2, zI 24)] [] v Q
theorem w_X7_put {g : ab_E} {d : Nat} {a1 : Int32} {v : gd_D} {Q : ab_O → gd_D → Prop} (hd : 0 ≤ d) (h : wp_X7_put g d a1 v Q) : gd_G g mX7_put d 0 0 0 [(0, zR 7 0), (1, zI a1)] [] v Q := by
  unfold wp_X7_put at h
  refine gd_bipush (x9 := 24) dX7_put_0 (by decide) ?_
  refine gd_istore_n (L' := [(2, zI 24), (0, zR 7 0), (1, zI a1)]) dX7_put_2 rfl (by decide) rfl ?_
  refine gd_locals [1, 2, 0] rfl ?_
  exact h
def wp_X7_put_3 (g : ab_E) (d : Nat) (a1 : Int32) (a2 : Int32) (v : gd_D) (Q : ab_O → gd_D → Prop) : Prop :=
  (((a2 : Int32) < 0) →
    Q (Sum.inl none) v) ∧
  ((¬ (a2 : Int32) < 0) →
    (((500 : Int32) ≤ (v.1 7 0 2)) →
      gd_G g mX7_put d 0 0 3 [(0, zR 7 0), (1, zI a1), (2, zI (a2 + (-8)))] [] v Q) ∧
    ((¬ (500 : Int32) ≤ (v.1 7 0 2)) →
      vp_in (v.1 7 0 2) 500 ∧
      ∀ v1 : gd_D, v1 = gd_sI v 31 0 ((v.1 7 0 2 : Int32).toNatClampNeg) ((a1 >>> (a2 &&& 31) : Int32).toInt8.toInt32 : Int32).toInt8.toInt32 →
      ∀ v2 : gd_D, v2 = gd_sI v1 7 0 2 ((v1.1 7 0 2) + 1) →
      gd_G g mX7_put d 0 0 3 [(0, zR 7 0), (1, zI a1), (2, zI (a2 + (-8)))] [] v2 Q))
theorem w_X7_put_3 {g : ab_E} {d : Nat} {a1 : Int32} {a2 : Int32} {v : gd_D} {Q : ab_O → gd_D → Prop} (hd : 0 ≤ d) (h : wp_X7_put_3 g d a1 a2 v Q) : gd_G g mX7_put d 0 0 3 [(0, zR 7 0), (1, zI a1), (2, zI a2)] [] v Q := by
  unfold wp_X7_put_3 at h
  refine gd_iload_n 2 dX7_put_3 rfl rfl ?_
  refine gd_if_lt (tgt := 46) dX7_put_4 (by decide) (fun hc => ?_) (fun hc => ?_)
  · have h := h.1 hc
    exact gd_vret dX7_put_46 rfl h
  · have h := h.2 hc
    refine gd_aload_n 0 dX7_put_7 rfl rfl ?_
    refine gd_getI fX7_35 rfl dX7_put_8 ?_
    refine gd_sipush (x9 := 500) dX7_put_11 (by decide) ?_
    refine gd_icmp_ge (tgt := 40) dX7_put_14 (by decide) (fun hc => ?_) (fun hc => ?_)
    · have h := h.1 hc
      refine gd_iinc (x9 := a2 + (-8)) (L' := [(2, zI (a2 + (-8))), (0, zR 7 0), (1, zI a1)]) 2 dX7_put_40 rfl rfl (by decide) rfl ?_
      refine gd_goto (tgt := 3) dX7_put_43 (by decide) ?_
      refine gd_locals [1, 2, 0] rfl ?_
      exact h
    · have h := h.2 hc
      refine gd_aload_n 0 dX7_put_17 rfl rfl ?_
      refine gd_getR (x := 0) (kr := 31) fX7_9 rfl rfl dX7_put_18 rfl ?_
      refine gd_aload_n 0 dX7_put_21 rfl rfl ?_
      refine gd_getI fX7_35 rfl dX7_put_22 ?_
      refine gd_iload_n 1 dX7_put_25 rfl rfl ?_
      refine gd_iload_n 2 dX7_put_26 rfl rfl ?_
      refine gd_ishr dX7_put_27 ?_
      refine gd_i2b dX7_put_28 ?_
      obtain ⟨hb, h⟩ := h
      refine gd_bastoren (n := 500) (by decide) rfl rfl dX7_put_29 rfl hb (fun v1 ev1 => ?_)
      have h := h v1 ev1
      refine gd_aload_n 0 dX7_put_30 rfl rfl ?_
      refine gd_dup dX7_put_31 rfl ?_
      refine gd_getI fX7_35 rfl dX7_put_32 ?_
      refine gd_iconst (x9 := 1) dX7_put_35 (by decide) ?_
      refine gd_iadd dX7_put_36 ?_
      refine gd_putIn fX7_35 rfl rfl dX7_put_37 (fun v2 ev2 => ?_)
      have h := h v2 ev2
      refine gd_iinc (x9 := a2 + (-8)) (L' := [(2, zI (a2 + (-8))), (0, zR 7 0), (1, zI a1)]) 2 dX7_put_40 rfl rfl (by decide) rfl ?_
      refine gd_goto (tgt := 3) dX7_put_43 (by decide) ?_
      refine gd_locals [1, 2, 0] rfl ?_
      exact h
theorem c_X7_put {g : ab_E} {d : Nat} {a1 : Int32} {v : gd_D} {Q : ab_O → gd_D → Prop} (hd : 0 ≤ d) (h : wp_X7_put g d a1 v Q) : gd_C g mX7_put d 0 0 [zR 7 0, zI a1] v Q := gd_enterF (plainFor_of_name (by decide)) (Nat.le_of_ble_eq_true rfl) rfl (w_X7_put hd h)
def wp_X7_readTape (g : ab_E) (d : Nat) (b c : Nat) (a1 : Int32) (v : gd_D) (Q : ab_O → gd_D → Prop) : Prop :=
  gd_C g mJ9_min_7cf53 2 0 0 [zI a1, zI (v.1 7 0 2)] v (gd_rI (fun (r2 : Int32) v1 =>
    gd_C g mX7_splitTape 10 0 0 [zR 7 0, zI r2] v1 (gd_rV (fun v3 =>
      ∀ v5 : gd_D, v5 = gd_sI v3 7 0 2 0 →
      ∀ v6 : gd_D, v6 = gd_sI v5 7 0 3 0 →
      ∀ v7 : gd_D, v7 = gd_sI v6 7 0 4 (-1) →
      ∀ v8 : gd_D, v8 = gd_sI v7 7 0 11 0 →
      ∀ v9 : gd_D, v9 = gd_sI v8 7 0 12 0 →
      ∀ v10 : gd_D, v10 = gd_sI v9 7 0 9 0 →
      gd_C g mX2_empty 2 0 0 [zR 2 0] v10 (gd_rV (fun v11 =>
        gd_G g mX7_readTape d b c 51 [(0, zR 7 0), (2, zI 0)] [] v11 Q) (fun E v9 => Q (Sum.inr E) v9))) (fun E v9 => Q (Sum.inr E) v9))) (fun E v9 => Q (Sum.inr E) v9))
theorem w_X7_readTape {g : ab_E} {d : Nat} {b c : Nat} {a1 : Int32} {v : gd_D} {Q : ab_O → gd_D → Prop} (hd : 11 ≤ d) (h : wp_X7_readTape g d b c a1 v Q) : gd_G g mX7_readTape d b c 0 [(0, zR 7 0), (1, zI a1)] [] v Q := by
  unfold wp_X7_readTape at h
  refine gd_aload_n 0 dX7_readTape_0 rfl rfl ?_
  refine gd_iload_n 1 dX7_readTape_1 rfl rfl ?_
  refine gd_aload_n 0 dX7_readTape_2 rfl rfl ?_
  refine gd_getI fX7_35 rfl dX7_readTape_3 ?_
  refine gd_callSI (As := [zI a1, zI (v.1 7 0 2)]) (rest := [zR 7 0]) (dy := 2) (my := 0) (sy := 0) lX7_39 tJ9_min_7cf53 dX7_readTape_6 rfl rfl (gd_room (by omega) (by decide)) ⟨Nat.zero_le _, Nat.zero_le _⟩ (Nat.le_of_ble_eq_true rfl) h (fun r2 v1 h => ?_)
  refine gd_callVV (As := [zI r2]) (rest := []) (dy := 10) (my := 0) (sy := 0) (k := 7) (i := 0) lX7_45 iX7_splitTape sX7_splitTape rfl dX7_readTape_9 rfl rfl (gd_room (by omega) (by decide)) ⟨Nat.zero_le _, Nat.zero_le _⟩ (Nat.le_of_ble_eq_true rfl) h (fun v3 h => ?_)
  refine gd_aload_n 0 dX7_readTape_12 rfl rfl ?_
  refine gd_iconst (x9 := 0) dX7_readTape_13 (by decide) ?_
  refine gd_putIn fX7_35 rfl rfl dX7_readTape_14 (fun v5 ev5 => ?_)
  have h := h v5 ev5
  refine gd_aload_n 0 dX7_readTape_17 rfl rfl ?_
  refine gd_iconst (x9 := 0) dX7_readTape_18 (by decide) ?_
  refine gd_putIn fX7_49 rfl rfl dX7_readTape_19 (fun v6 ev6 => ?_)
  have h := h v6 ev6
  refine gd_aload_n 0 dX7_readTape_22 rfl rfl ?_
  refine gd_iconst (x9 := (-1)) dX7_readTape_23 (by decide) ?_
  refine gd_putIn fX7_52 rfl rfl dX7_readTape_24 (fun v7 ev7 => ?_)
  have h := h v7 ev7
  refine gd_aload_n 0 dX7_readTape_27 rfl rfl ?_
  refine gd_iconst (x9 := 0) dX7_readTape_28 (by decide) ?_
  refine gd_putIn fX7_55 rfl rfl dX7_readTape_29 (fun v8 ev8 => ?_)
  have h := h v8 ev8
  refine gd_aload_n 0 dX7_readTape_32 rfl rfl ?_
  refine gd_iconst (x9 := 0) dX7_readTape_33 (by decide) ?_
  refine gd_putIn fX7_58 rfl rfl dX7_readTape_34 (fun v9 ev9 => ?_)
  have h := h v9 ev9
  refine gd_aload_n 0 dX7_readTape_37 rfl rfl ?_
  refine gd_iconst (x9 := 0) dX7_readTape_38 (by decide) ?_
  refine gd_putIn fX7_61 rfl rfl dX7_readTape_39 (fun v10 ev10 => ?_)
  have h := h v10 ev10
  refine gd_aload_n 0 dX7_readTape_42 rfl rfl ?_
  refine gd_getR (x := 0) (kr := 2) fX7_18 rfl rfl dX7_readTape_43 rfl ?_
  refine gd_callVV (As := []) (rest := []) (dy := 2) (my := 0) (sy := 0) (k := 2) (i := 0) lX7_64 iX2_empty sX2_empty rfl dX7_readTape_46 rfl rfl (gd_room (by omega) (by decide)) ⟨Nat.zero_le _, Nat.zero_le _⟩ (Nat.le_of_ble_eq_true rfl) h (fun v11 h => ?_)
  refine gd_iconst (x9 := 0) dX7_readTape_49 (by decide) ?_
  refine gd_istore_n (L' := [(2, zI 0), (0, zR 7 0), (1, zI a1)]) dX7_readTape_50 rfl (by decide) rfl ?_
  refine gd_locals [1, 0] rfl ?_
  exact h
def wp_X7_readTape_51 (g : ab_E) (d : Nat) (b c : Nat) (a2 : Int32) (v : gd_D) (Q : ab_O → gd_D → Prop) : Prop :=
  (((500 : Int32) ≤ a2) →
    Q (Sum.inl none) v) ∧
  ((¬ (500 : Int32) ≤ a2) →
    vp_in (v.1 7 0 11) 501 ∧
    (((v.1 32 0 (v.1 7 0 11 : Int32).toNatClampNeg : Int32) = 0) →
      Q (Sum.inl none) v) ∧
    ((¬ (v.1 32 0 (v.1 7 0 11 : Int32).toNatClampNeg : Int32) = 0) →
      ((¬ (v.1 7 0 3 : Int32) = 0) →
        Q (Sum.inl none) v) ∧
      (((v.1 7 0 3 : Int32) = 0) →
        ∃ my sy, (my ≤ b ∧ sy ≤ c) ∧
        gd_C g mX7_readLine 41 my sy [zR 7 0] v (gd_rV (fun v1 =>
          gd_C g mX7_take 3 0 0 [zR 7 0, zI 59] v1 (gd_rV (fun v3 =>
            gd_G g mX7_readTape d (b - my) (c - sy) 51 [(0, zR 7 0), (2, zI (a2 + 1))] [] v3 Q) (fun E v9 => Q (Sum.inr E) v9))) (fun E v9 => Q (Sum.inr E) v9)))))
theorem w_X7_readTape_51 {g : ab_E} {d : Nat} {b c : Nat} {a2 : Int32} {v : gd_D} {Q : ab_O → gd_D → Prop} (hd : 42 ≤ d) (h : wp_X7_readTape_51 g d b c a2 v Q) : gd_G g mX7_readTape d b c 51 [(0, zR 7 0), (2, zI a2)] [] v Q := by
  unfold wp_X7_readTape_51 at h
  refine gd_iload_n 1 dX7_readTape_51 rfl rfl ?_
  refine gd_sipush (x9 := 500) dX7_readTape_52 (by decide) ?_
  refine gd_icmp_ge (tgt := 93) dX7_readTape_55 (by decide) (fun hc => ?_) (fun hc => ?_)
  · have h := h.1 hc
    exact gd_vret dX7_readTape_93 rfl h
  · have h := h.2 hc
    refine gd_aload_n 0 dX7_readTape_58 rfl rfl ?_
    refine gd_getR (x := 0) (kr := 32) fX7_22 rfl rfl dX7_readTape_59 rfl ?_
    refine gd_aload_n 0 dX7_readTape_62 rfl rfl ?_
    refine gd_getI fX7_55 rfl dX7_readTape_63 ?_
    obtain ⟨hb, h⟩ := h
    refine gd_iaload (n := 501) (by decide) rfl dX7_readTape_66 rfl hb ?_
    refine gd_if_eq (tgt := 93) dX7_readTape_67 (by decide) (fun hc => ?_) (fun hc => ?_)
    · have h := h.1 hc
      exact gd_vret dX7_readTape_93 rfl h
    · have h := h.2 hc
      refine gd_aload_n 0 dX7_readTape_70 rfl rfl ?_
      refine gd_getI fX7_49 rfl dX7_readTape_71 ?_
      refine gd_if_ne (tgt := 93) dX7_readTape_74 (by decide) (fun hc => ?_) (fun hc => ?_)
      · have h := h.1 hc
        exact gd_vret dX7_readTape_93 rfl h
      · have h := h.2 hc
        refine gd_aload_n 0 dX7_readTape_77 rfl rfl ?_
        obtain ⟨my, sy, hb, h⟩ := h
        refine gd_callVV (As := []) (rest := []) (dy := 41) (my := my) (sy := sy) (k := 7) (i := 0) lX7_67 iX7_readLine sX7_readLine rfl dX7_readTape_78 rfl rfl (gd_room (by omega) (by decide)) hb (Nat.le_of_ble_eq_true rfl) h (fun v1 h => ?_)
        refine gd_aload_n 0 dX7_readTape_81 rfl rfl ?_
        refine gd_bipush (x9 := 59) dX7_readTape_82 (by decide) ?_
        refine gd_callVV (As := [zI 59]) (rest := []) (dy := 3) (my := 0) (sy := 0) (k := 7) (i := 0) lX7_70 iX7_take sX7_take rfl dX7_readTape_84 rfl rfl (gd_room (by omega) (by decide)) ⟨Nat.zero_le _, Nat.zero_le _⟩ (Nat.le_of_ble_eq_true rfl) h (fun v3 h => ?_)
        refine gd_iinc (x9 := a2 + 1) (L' := [(2, zI (a2 + 1)), (0, zR 7 0)]) 1 dX7_readTape_87 rfl rfl (by decide) rfl ?_
        refine gd_goto (tgt := 51) dX7_readTape_90 (by decide) ?_
        refine gd_locals [1, 0] rfl ?_
        exact h
theorem c_X7_readTape {g : ab_E} {d : Nat} {b c : Nat} {a1 : Int32} {v : gd_D} {Q : ab_O → gd_D → Prop} (hd : 11 ≤ d) (h : wp_X7_readTape g d b c a1 v Q) : gd_C g mX7_readTape d b c [zR 7 0, zI a1] v Q := gd_enterF (plainFor_of_name (by decide)) (Nat.le_of_ble_eq_true rfl) rfl (w_X7_readTape hd h)
def wp_X7_splitTape (g : ab_E) (d : Nat) (a1 : Int32) (v : gd_D) (Q : ab_O → gd_D → Prop) : Prop :=
  ∀ v1 : gd_D, v1 = gd_sI v 7 0 10 0 →
  gd_C g mX7_passBlanks 2 0 0 [zR 7 0, zI 0, zI a1] v1 (gd_rI (fun (r3 : Int32) v2 =>
    gd_G g mX7_splitTape d 0 0 14 [(0, zR 7 0), (1, zI a1), (2, zI r3), (3, zI 0)] [] v2 Q) (fun E v9 => Q (Sum.inr E) v9))
theorem w_X7_splitTape {g : ab_E} {d : Nat} {a1 : Int32} {v : gd_D} {Q : ab_O → gd_D → Prop} (hd : 3 ≤ d) (h : wp_X7_splitTape g d a1 v Q) : gd_G g mX7_splitTape d 0 0 0 [(0, zR 7 0), (1, zI a1)] [] v Q := by
  unfold wp_X7_splitTape at h
  refine gd_aload_n 0 dX7_splitTape_0 rfl rfl ?_
  refine gd_iconst (x9 := 0) dX7_splitTape_1 (by decide) ?_
  refine gd_putIn fX7_74 rfl rfl dX7_splitTape_2 (fun v1 ev1 => ?_)
  have h := h v1 ev1
  refine gd_aload_n 0 dX7_splitTape_5 rfl rfl ?_
  refine gd_iconst (x9 := 0) dX7_splitTape_6 (by decide) ?_
  refine gd_iload_n 1 dX7_splitTape_7 rfl rfl ?_
  refine gd_callVI (As := [zI 0, zI a1]) (rest := []) (dy := 2) (my := 0) (sy := 0) (k := 7) (i := 0) lX7_77 iX7_passBlanks sX7_passBlanks rfl dX7_splitTape_8 rfl rfl (gd_room (by omega) (by decide)) (by decide) (Nat.le_of_ble_eq_true rfl) h (fun r3 v2 h => ?_)
  refine gd_istore_n (L' := [(2, zI r3), (0, zR 7 0), (1, zI a1)]) dX7_splitTape_11 rfl (by decide) rfl ?_
  refine gd_iconst (x9 := 0) dX7_splitTape_12 (by decide) ?_
  refine gd_istore_n (L' := [(3, zI 0), (2, zI r3), (0, zR 7 0), (1, zI a1)]) dX7_splitTape_13 rfl (by decide) rfl ?_
  refine gd_locals [2, 3, 1, 0] rfl ?_
  exact h
def wp_X7_splitTape_129 (g : ab_E) (d : Nat) (a1 : Int32) (v : gd_D) (Q : ab_O → gd_D → Prop) : Prop :=
  gd_C g mX7_addToken 2 0 0 [zR 7 0, zI 0, zI a1, zI 0] v (gd_rV (fun v1 =>
    Q (Sum.inl none) v1) (fun E v9 => Q (Sum.inr E) v9))
theorem w_X7_splitTape_129 {g : ab_E} {d : Nat} {a1 : Int32} {v : gd_D} {Q : ab_O → gd_D → Prop} (hd : 3 ≤ d) (h : wp_X7_splitTape_129 g d a1 v Q) : gd_G g mX7_splitTape d 0 0 129 [(0, zR 7 0), (1, zI a1)] [] v Q := by
  unfold wp_X7_splitTape_129 at h
  refine gd_aload_n 0 dX7_splitTape_129 rfl rfl ?_
  refine gd_iconst (x9 := 0) dX7_splitTape_130 (by decide) ?_
  refine gd_iload_n 1 dX7_splitTape_131 rfl rfl ?_
  refine gd_iconst (x9 := 0) dX7_splitTape_132 (by decide) ?_
  refine gd_callVV (As := [zI 0, zI a1, zI 0]) (rest := []) (dy := 2) (my := 0) (sy := 0) (k := 7) (i := 0) lX7_90 iX7_addToken sX7_addToken rfl dX7_splitTape_133 rfl rfl (gd_room (by omega) (by decide)) (by decide) (Nat.le_of_ble_eq_true rfl) h (fun v1 h => ?_)
  exact gd_vret dX7_splitTape_136 rfl h
def wp_X7_splitTape_115 (g : ab_E) (d : Nat) (a1 : Int32) (a3 : Int32) (a4 : Int32) (v : gd_D) (Q : ab_O → gd_D → Prop) : Prop :=
  gd_C g mX7_passBlanks 2 0 0 [zR 7 0, zI a4, zI a1] v (gd_rI (fun (r2 : Int32) v1 =>
    gd_G g mX7_splitTape d 0 0 14 [(0, zR 7 0), (1, zI a1), (2, zI r2), (3, zI (a3 + 1))] [] v1 Q) (fun E v9 => Q (Sum.inr E) v9))
theorem w_X7_splitTape_115 {g : ab_E} {d : Nat} {a1 : Int32} {a3 : Int32} {a4 : Int32} {v : gd_D} {Q : ab_O → gd_D → Prop} (hd : 3 ≤ d) (h : wp_X7_splitTape_115 g d a1 a3 a4 v Q) : gd_G g mX7_splitTape d 0 0 115 [(0, zR 7 0), (1, zI a1), (3, zI a3), (4, zI a4)] [] v Q := by
  unfold wp_X7_splitTape_115 at h
  refine gd_aload_n 0 dX7_splitTape_115 rfl rfl ?_
  refine gd_iload 3 dX7_splitTape_116 rfl ?_
  refine gd_iload_n 1 dX7_splitTape_118 rfl rfl ?_
  refine gd_callVI (As := [zI a4, zI a1]) (rest := []) (dy := 2) (my := 0) (sy := 0) (k := 7) (i := 0) lX7_77 iX7_passBlanks sX7_passBlanks rfl dX7_splitTape_119 rfl rfl (gd_room (by omega) (by decide)) (by decide) (Nat.le_of_ble_eq_true rfl) h (fun r2 v1 h => ?_)
  refine gd_istore_n (L' := [(2, zI r2), (0, zR 7 0), (1, zI a1), (3, zI a3), (4, zI a4)]) dX7_splitTape_122 rfl (by decide) rfl ?_
  refine gd_iinc (x9 := a3 + 1) (L' := [(3, zI (a3 + 1)), (2, zI r2), (0, zR 7 0), (1, zI a1), (4, zI a4)]) 3 dX7_splitTape_123 rfl rfl (by decide) rfl ?_
  refine gd_goto (tgt := 14) dX7_splitTape_126 (by decide) ?_
  refine gd_locals [2, 3, 1, 0] rfl ?_
  exact h
def wp_X7_splitTape_14 (g : ab_E) (d : Nat) (a1 : Int32) (a2 : Int32) (a3 : Int32) (v : gd_D) (Q : ab_O → gd_D → Prop) : Prop :=
  (((500 : Int32) ≤ a3) →
    wp_X7_splitTape_129 g d a1 v Q) ∧
  ((¬ (500 : Int32) ≤ a3) →
    (((a1 : Int32) ≤ a2) →
      wp_X7_splitTape_129 g d a1 v Q) ∧
    ((¬ (a1 : Int32) ≤ a2) →
      vp_in a2 500 ∧
      gd_C g mX7_isLetter 2 0 0 [zI (v.1 31 0 (a2 : Int32).toNatClampNeg)] v (gd_rI (fun (r2 : Int32) v1 =>
        (((r2 : Int32) = 0) →
          vp_in a2 500 ∧
          gd_C g mX7_isDigit 2 0 0 [zI (v1.1 31 0 (a2 : Int32).toNatClampNeg)] v1 (gd_rI (fun (r4 : Int32) v3 =>
            (((r4 : Int32) = 0) →
              vp_in a2 500 ∧
              gd_C g mX7_addToken 2 0 0 [zR 7 0, zI 3, zI a2, zI (v3.1 31 0 (a2 : Int32).toNatClampNeg)] v3 (gd_rV (fun v5 =>
                wp_X7_splitTape_115 g d a1 a3 (a2 + 1) v5 Q) (fun E v9 => Q (Sum.inr E) v9))) ∧
            ((¬ (r4 : Int32) = 0) →
              gd_C g mX7_passDigits 3 0 0 [zR 7 0, zI a2, zI a1] v3 (gd_rI (fun (r8 : Int32) v7 =>
                gd_C g mX7_numberAt 3 0 0 [zR 7 0, zI a2, zI r8] v7 (gd_rI (fun (r10 : Int32) v9 =>
                  gd_C g mX7_addToken 2 0 0 [zR 7 0, zI 2, zI a2, zI r10] v9 (gd_rV (fun v11 =>
                    wp_X7_splitTape_115 g d a1 a3 r8 v11 Q) (fun E v9 => Q (Sum.inr E) v9))) (fun E v9 => Q (Sum.inr E) v9))) (fun E v9 => Q (Sum.inr E) v9)))) (fun E v9 => Q (Sum.inr E) v9))) ∧
        ((¬ (r2 : Int32) = 0) →
          gd_C g mX7_passLetters 3 0 0 [zR 7 0, zI a2, zI a1] v1 (gd_rI (fun (r14 : Int32) v13 =>
            gd_C g mX7_wordAt 9 0 0 [zR 7 0, zI a2, zI r14] v13 (gd_rI (fun (r16 : Int32) v15 =>
              gd_C g mX7_addToken 2 0 0 [zR 7 0, zI 1, zI a2, zI r16] v15 (gd_rV (fun v17 =>
                wp_X7_splitTape_115 g d a1 a3 r14 v17 Q) (fun E v9 => Q (Sum.inr E) v9))) (fun E v9 => Q (Sum.inr E) v9))) (fun E v9 => Q (Sum.inr E) v9)))) (fun E v9 => Q (Sum.inr E) v9))))
theorem w_X7_splitTape_14 {g : ab_E} {d : Nat} {a1 : Int32} {a2 : Int32} {a3 : Int32} {v : gd_D} {Q : ab_O → gd_D → Prop} (hd : 10 ≤ d) (h : wp_X7_splitTape_14 g d a1 a2 a3 v Q) : gd_G g mX7_splitTape d 0 0 14 [(0, zR 7 0), (1, zI a1), (2, zI a2), (3, zI a3)] [] v Q := by
  unfold wp_X7_splitTape_14 at h
  refine gd_iload_n 3 dX7_splitTape_14 rfl rfl ?_
  refine gd_sipush (x9 := 500) dX7_splitTape_15 (by decide) ?_
  refine gd_icmp_ge (tgt := 129) dX7_splitTape_18 (by decide) (fun hc => ?_) (fun hc => ?_)
  · have h := h.1 hc
    refine gd_locals [0, 1] rfl ?_
    exact w_X7_splitTape_129 (by omega) h
  · have h := h.2 hc
    refine gd_iload_n 2 dX7_splitTape_21 rfl rfl ?_
    refine gd_iload_n 1 dX7_splitTape_22 rfl rfl ?_
    refine gd_icmp_ge (tgt := 129) dX7_splitTape_23 (by decide) (fun hc => ?_) (fun hc => ?_)
    · have h := h.1 hc
      refine gd_locals [0, 1] rfl ?_
      exact w_X7_splitTape_129 (by omega) h
    · have h := h.2 hc
      refine gd_iload_n 2 dX7_splitTape_26 rfl rfl ?_
      refine gd_iconst (x9 := 1) dX7_splitTape_27 (by decide) ?_
      refine gd_iadd dX7_splitTape_28 ?_
      refine gd_istore (L' := [(4, zI (a2 + 1)), (0, zR 7 0), (1, zI a1), (2, zI a2), (3, zI a3)]) dX7_splitTape_29 (by decide) rfl ?_
      refine gd_aload_n 1 dX7_splitTape_31 rfl rfl ?_
      refine gd_getR (x := 0) (kr := 31) fX7_9 rfl rfl dX7_splitTape_32 rfl ?_
      refine gd_iload_n 3 dX7_splitTape_35 rfl rfl ?_
      obtain ⟨hb, h⟩ := h
      refine gd_baload (n := 500) (by decide) rfl dX7_splitTape_36 rfl hb ?_
      refine gd_callSI (As := [zI (v.1 31 0 (a2 : Int32).toNatClampNeg)]) (rest := []) (dy := 2) (my := 0) (sy := 0) lX7_80 tX7_isLetter dX7_splitTape_37 rfl rfl (gd_room (by omega) (by decide)) (by decide) (Nat.le_of_ble_eq_true rfl) h (fun r2 v1 h => ?_)
      refine gd_if_eq (tgt := 67) dX7_splitTape_40 (by decide) (fun hc => ?_) (fun hc => ?_)
      · have h := h.1 hc
        refine gd_aload_n 1 dX7_splitTape_67 rfl rfl ?_
        refine gd_getR (x := 0) (kr := 31) fX7_9 rfl rfl dX7_splitTape_68 rfl ?_
        refine gd_iload_n 3 dX7_splitTape_71 rfl rfl ?_
        obtain ⟨hb, h⟩ := h
        refine gd_baload (n := 500) (by decide) rfl dX7_splitTape_72 rfl hb ?_
        refine gd_callSI (As := [zI (v1.1 31 0 (a2 : Int32).toNatClampNeg)]) (rest := []) (dy := 2) (my := 0) (sy := 0) lX7_94 tX7_isDigit dX7_splitTape_73 rfl rfl (gd_room (by omega) (by decide)) (by decide) (Nat.le_of_ble_eq_true rfl) h (fun r4 v3 h => ?_)
        refine gd_if_eq (tgt := 103) dX7_splitTape_76 (by decide) (fun hc => ?_) (fun hc => ?_)
        · have h := h.1 hc
          refine gd_aload_n 1 dX7_splitTape_103 rfl rfl ?_
          refine gd_iconst (x9 := 3) dX7_splitTape_104 (by decide) ?_
          refine gd_iload_n 3 dX7_splitTape_105 rfl rfl ?_
          refine gd_aload_n 1 dX7_splitTape_106 rfl rfl ?_
          refine gd_getR (x := 0) (kr := 31) fX7_9 rfl rfl dX7_splitTape_107 rfl ?_
          refine gd_iload_n 3 dX7_splitTape_110 rfl rfl ?_
          obtain ⟨hb, h⟩ := h
          refine gd_baload (n := 500) (by decide) rfl dX7_splitTape_111 rfl hb ?_
          refine gd_callVV (As := [zI 3, zI a2, zI (v3.1 31 0 (a2 : Int32).toNatClampNeg)]) (rest := []) (dy := 2) (my := 0) (sy := 0) (k := 7) (i := 0) lX7_90 iX7_addToken sX7_addToken rfl dX7_splitTape_112 rfl rfl (gd_room (by omega) (by decide)) (by decide) (Nat.le_of_ble_eq_true rfl) h (fun v5 h => ?_)
          refine gd_locals [1, 2, 4, 0] rfl ?_
          exact w_X7_splitTape_115 (by omega) h
        · have h := h.2 hc
          refine gd_aload_n 1 dX7_splitTape_79 rfl rfl ?_
          refine gd_iload_n 3 dX7_splitTape_80 rfl rfl ?_
          refine gd_iload_n 2 dX7_splitTape_81 rfl rfl ?_
          refine gd_callVI (As := [zI a2, zI a1]) (rest := []) (dy := 3) (my := 0) (sy := 0) (k := 7) (i := 0) lX7_97 iX7_passDigits sX7_passDigits rfl dX7_splitTape_82 rfl rfl (gd_room (by omega) (by decide)) (by decide) (Nat.le_of_ble_eq_true rfl) h (fun r8 v7 h => ?_)
          refine gd_istore (L' := [(4, zI r8), (0, zR 7 0), (1, zI a1), (2, zI a2), (3, zI a3)]) dX7_splitTape_85 (by decide) rfl ?_
          refine gd_aload_n 1 dX7_splitTape_87 rfl rfl ?_
          refine gd_iconst (x9 := 2) dX7_splitTape_88 (by decide) ?_
          refine gd_iload_n 3 dX7_splitTape_89 rfl rfl ?_
          refine gd_aload_n 1 dX7_splitTape_90 rfl rfl ?_
          refine gd_iload_n 3 dX7_splitTape_91 rfl rfl ?_
          refine gd_iload 0 dX7_splitTape_92 rfl ?_
          refine gd_callVI (As := [zI a2, zI r8]) (rest := [zI a2, zI 2, zR 7 0]) (dy := 3) (my := 0) (sy := 0) (k := 7) (i := 0) lX7_100 iX7_numberAt sX7_numberAt rfl dX7_splitTape_94 rfl rfl (gd_room (by omega) (by decide)) (by decide) (Nat.le_of_ble_eq_true rfl) h (fun r10 v9 h => ?_)
          refine gd_callVV (As := [zI 2, zI a2, zI r10]) (rest := []) (dy := 2) (my := 0) (sy := 0) (k := 7) (i := 0) lX7_90 iX7_addToken sX7_addToken rfl dX7_splitTape_97 rfl rfl (gd_room (by omega) (by decide)) (by decide) (Nat.le_of_ble_eq_true rfl) h (fun v11 h => ?_)
          refine gd_goto (tgt := 115) dX7_splitTape_100 (by decide) ?_
          refine gd_locals [1, 2, 4, 0] rfl ?_
          exact w_X7_splitTape_115 (by omega) h
      · have h := h.2 hc
        refine gd_aload_n 1 dX7_splitTape_43 rfl rfl ?_
        refine gd_iload_n 3 dX7_splitTape_44 rfl rfl ?_
        refine gd_iload_n 2 dX7_splitTape_45 rfl rfl ?_
        refine gd_callVI (As := [zI a2, zI a1]) (rest := []) (dy := 3) (my := 0) (sy := 0) (k := 7) (i := 0) lX7_84 iX7_passLetters sX7_passLetters rfl dX7_splitTape_46 rfl rfl (gd_room (by omega) (by decide)) (by decide) (Nat.le_of_ble_eq_true rfl) h (fun r14 v13 h => ?_)
        refine gd_istore (L' := [(4, zI r14), (0, zR 7 0), (1, zI a1), (2, zI a2), (3, zI a3)]) dX7_splitTape_49 (by decide) rfl ?_
        refine gd_aload_n 1 dX7_splitTape_51 rfl rfl ?_
        refine gd_iconst (x9 := 1) dX7_splitTape_52 (by decide) ?_
        refine gd_iload_n 3 dX7_splitTape_53 rfl rfl ?_
        refine gd_aload_n 1 dX7_splitTape_54 rfl rfl ?_
        refine gd_iload_n 3 dX7_splitTape_55 rfl rfl ?_
        refine gd_iload 0 dX7_splitTape_56 rfl ?_
        refine gd_callVI (As := [zI a2, zI r14]) (rest := [zI a2, zI 1, zR 7 0]) (dy := 9) (my := 0) (sy := 0) (k := 7) (i := 0) lX7_87 iX7_wordAt sX7_wordAt rfl dX7_splitTape_58 rfl rfl (gd_room (by omega) (by decide)) (by decide) (Nat.le_of_ble_eq_true rfl) h (fun r16 v15 h => ?_)
        refine gd_callVV (As := [zI 1, zI a2, zI r16]) (rest := []) (dy := 2) (my := 0) (sy := 0) (k := 7) (i := 0) lX7_90 iX7_addToken sX7_addToken rfl dX7_splitTape_61 rfl rfl (gd_room (by omega) (by decide)) (by decide) (Nat.le_of_ble_eq_true rfl) h (fun v17 h => ?_)
        refine gd_goto (tgt := 115) dX7_splitTape_64 (by decide) ?_
        refine gd_locals [1, 2, 4, 0] rfl ?_
        exact w_X7_splitTape_115 (by omega) h
theorem c_X7_splitTape {g : ab_E} {d : Nat} {a1 : Int32} {v : gd_D} {Q : ab_O → gd_D → Prop} (hd : 3 ≤ d) (h : wp_X7_splitTape g d a1 v Q) : gd_C g mX7_splitTape d 0 0 [zR 7 0, zI a1] v Q := gd_enterF (plainFor_of_name (by decide)) (Nat.le_of_ble_eq_true rfl) rfl (w_X7_splitTape hd h)
def wp_X7_addToken (g : ab_E) (d : Nat) (a1 : Int32) (a2 : Int32) (a3 : Int32) (v : gd_D) (Q : ab_O → gd_D → Prop) : Prop :=
  (((501 : Int32) ≤ (v.1 7 0 10)) →
    Q (Sum.inl none) v) ∧
  ((¬ (501 : Int32) ≤ (v.1 7 0 10)) →
    vp_in (v.1 7 0 10) 501 ∧
    ∀ v1 : gd_D, v1 = gd_sI v 32 0 ((v.1 7 0 10 : Int32).toNatClampNeg) a1 →
    vp_in (v1.1 7 0 10) 501 ∧
    ∀ v2 : gd_D, v2 = gd_sI v1 33 0 ((v1.1 7 0 10 : Int32).toNatClampNeg) a2 →
    vp_in (v2.1 7 0 10) 501 ∧
    ∀ v3 : gd_D, v3 = gd_sI v2 34 0 ((v2.1 7 0 10 : Int32).toNatClampNeg) a3 →
    ∀ v4 : gd_D, v4 = gd_sI v3 7 0 10 ((v3.1 7 0 10) + 1) →
    Q (Sum.inl none) v4)
theorem w_X7_addToken {g : ab_E} {d : Nat} {a1 : Int32} {a2 : Int32} {a3 : Int32} {v : gd_D} {Q : ab_O → gd_D → Prop} (hd : 0 ≤ d) (h : wp_X7_addToken g d a1 a2 a3 v Q) : gd_G g mX7_addToken d 0 0 0 [(0, zR 7 0), (1, zI a1), (2, zI a2), (3, zI a3)] [] v Q := by
  unfold wp_X7_addToken at h
  refine gd_aload_n 0 dX7_addToken_0 rfl rfl ?_
  refine gd_getI fX7_74 rfl dX7_addToken_1 ?_
  refine gd_aload_n 0 dX7_addToken_4 rfl rfl ?_
  refine gd_getR (x := 0) (kr := 32) fX7_22 rfl rfl dX7_addToken_5 rfl ?_
  refine gd_alen (n := 501) (x9 := 501) (by decide) dX7_addToken_8 rfl (by decide) ?_
  refine gd_icmp_ge (tgt := 52) dX7_addToken_9 (by decide) (fun hc => ?_) (fun hc => ?_)
  · have h := h.1 hc
    exact gd_vret dX7_addToken_52 rfl h
  · have h := h.2 hc
    refine gd_aload_n 0 dX7_addToken_12 rfl rfl ?_
    refine gd_getR (x := 0) (kr := 32) fX7_22 rfl rfl dX7_addToken_13 rfl ?_
    refine gd_aload_n 0 dX7_addToken_16 rfl rfl ?_
    refine gd_getI fX7_74 rfl dX7_addToken_17 ?_
    refine gd_iload_n 1 dX7_addToken_20 rfl rfl ?_
    obtain ⟨hb, h⟩ := h
    refine gd_iastoren (n := 501) (by decide) rfl rfl dX7_addToken_21 rfl hb (fun v1 ev1 => ?_)
    have h := h v1 ev1
    refine gd_aload_n 0 dX7_addToken_22 rfl rfl ?_
    refine gd_getR (x := 0) (kr := 33) fX7_26 rfl rfl dX7_addToken_23 rfl ?_
    refine gd_aload_n 0 dX7_addToken_26 rfl rfl ?_
    refine gd_getI fX7_74 rfl dX7_addToken_27 ?_
    refine gd_iload_n 2 dX7_addToken_30 rfl rfl ?_
    obtain ⟨hb, h⟩ := h
    refine gd_iastoren (n := 501) (by decide) rfl rfl dX7_addToken_31 rfl hb (fun v2 ev2 => ?_)
    have h := h v2 ev2
    refine gd_aload_n 0 dX7_addToken_32 rfl rfl ?_
    refine gd_getR (x := 0) (kr := 34) fX7_29 rfl rfl dX7_addToken_33 rfl ?_
    refine gd_aload_n 0 dX7_addToken_36 rfl rfl ?_
    refine gd_getI fX7_74 rfl dX7_addToken_37 ?_
    refine gd_iload_n 3 dX7_addToken_40 rfl rfl ?_
    obtain ⟨hb, h⟩ := h
    refine gd_iastoren (n := 501) (by decide) rfl rfl dX7_addToken_41 rfl hb (fun v3 ev3 => ?_)
    have h := h v3 ev3
    refine gd_aload_n 0 dX7_addToken_42 rfl rfl ?_
    refine gd_dup dX7_addToken_43 rfl ?_
    refine gd_getI fX7_74 rfl dX7_addToken_44 ?_
    refine gd_iconst (x9 := 1) dX7_addToken_47 (by decide) ?_
    refine gd_iadd dX7_addToken_48 ?_
    refine gd_putIn fX7_74 rfl rfl dX7_addToken_49 (fun v4 ev4 => ?_)
    have h := h v4 ev4
    exact gd_vret dX7_addToken_52 rfl h
theorem c_X7_addToken {g : ab_E} {d : Nat} {a1 : Int32} {a2 : Int32} {a3 : Int32} {v : gd_D} {Q : ab_O → gd_D → Prop} (hd : 0 ≤ d) (h : wp_X7_addToken g d a1 a2 a3 v Q) : gd_C g mX7_addToken d 0 0 [zR 7 0, zI a1, zI a2, zI a3] v Q := gd_enterF (plainFor_of_name (by decide)) (Nat.le_of_ble_eq_true rfl) rfl (w_X7_addToken hd h)
def wp_X7_passBlanks (g : ab_E) (d : Nat) (a1 : Int32) (a2 : Int32) (v : gd_D) (Q : ab_O → gd_D → Prop) : Prop :=
  gd_G g mX7_passBlanks d 0 0 5 [(0, zR 7 0), (2, zI a2), (3, zI a1), (4, zI a1)] [] v Q
theorem w_X7_passBlanks {g : ab_E} {d : Nat} {a1 : Int32} {a2 : Int32} {v : gd_D} {Q : ab_O → gd_D → Prop} (hd : 0 ≤ d) (h : wp_X7_passBlanks g d a1 a2 v Q) : gd_G g mX7_passBlanks d 0 0 0 [(0, zR 7 0), (1, zI a1), (2, zI a2)] [] v Q := by
  unfold wp_X7_passBlanks at h
  refine gd_iload_n 1 dX7_passBlanks_0 rfl rfl ?_
  refine gd_istore_n (L' := [(3, zI a1), (0, zR 7 0), (1, zI a1), (2, zI a2)]) dX7_passBlanks_1 rfl (by decide) rfl ?_
  refine gd_iload_n 2 dX7_passBlanks_2 rfl rfl ?_
  refine gd_istore (L' := [(4, zI a1), (3, zI a1), (0, zR 7 0), (1, zI a1), (2, zI a2)]) dX7_passBlanks_3 (by decide) rfl ?_
  refine gd_locals [2, 4, 1, 0] rfl ?_
  exact h
def wp_X7_passBlanks_5 (g : ab_E) (d : Nat) (a2 : Int32) (a3 : Int32) (a4 : Int32) (v : gd_D) (Q : ab_O → gd_D → Prop) : Prop :=
  (((a2 : Int32) ≤ a4) →
    Q (Sum.inl (some (zI a3))) v) ∧
  ((¬ (a2 : Int32) ≤ a4) →
    vp_in a4 500 ∧
    ((¬ (v.1 31 0 (a4 : Int32).toNatClampNeg : Int32) = 32) →
      Q (Sum.inl (some (zI a3))) v) ∧
    (((v.1 31 0 (a4 : Int32).toNatClampNeg : Int32) = 32) →
      gd_G g mX7_passBlanks d 0 0 5 [(0, zR 7 0), (2, zI a2), (3, zI (a4 + 1)), (4, zI (a4 + 1))] [] v Q))
theorem w_X7_passBlanks_5 {g : ab_E} {d : Nat} {a2 : Int32} {a3 : Int32} {a4 : Int32} {v : gd_D} {Q : ab_O → gd_D → Prop} (hd : 0 ≤ d) (h : wp_X7_passBlanks_5 g d a2 a3 a4 v Q) : gd_G g mX7_passBlanks d 0 0 5 [(0, zR 7 0), (2, zI a2), (3, zI a3), (4, zI a4)] [] v Q := by
  unfold wp_X7_passBlanks_5 at h
  refine gd_iload 3 dX7_passBlanks_5 rfl ?_
  refine gd_iload_n 1 dX7_passBlanks_7 rfl rfl ?_
  refine gd_icmp_ge (tgt := 34) dX7_passBlanks_8 (by decide) (fun hc => ?_) (fun hc => ?_)
  · have h := h.1 hc
    refine gd_iload_n 2 dX7_passBlanks_34 rfl rfl ?_
    exact gd_iret (ty := .int) dX7_passBlanks_35 rfl rfl h
  · have h := h.2 hc
    refine gd_aload_n 0 dX7_passBlanks_11 rfl rfl ?_
    refine gd_getR (x := 0) (kr := 31) fX7_9 rfl rfl dX7_passBlanks_12 rfl ?_
    refine gd_iload 3 dX7_passBlanks_15 rfl ?_
    obtain ⟨hb, h⟩ := h
    refine gd_baload (n := 500) (by decide) rfl dX7_passBlanks_17 rfl hb ?_
    refine gd_bipush (x9 := 32) dX7_passBlanks_18 (by decide) ?_
    refine gd_icmp_ne (tgt := 34) dX7_passBlanks_20 (by decide) (fun hc => ?_) (fun hc => ?_)
    · have h := h.1 hc
      refine gd_iload_n 2 dX7_passBlanks_34 rfl rfl ?_
      exact gd_iret (ty := .int) dX7_passBlanks_35 rfl rfl h
    · have h := h.2 hc
      refine gd_iload 3 dX7_passBlanks_23 rfl ?_
      refine gd_iconst (x9 := 1) dX7_passBlanks_25 (by decide) ?_
      refine gd_iadd dX7_passBlanks_26 ?_
      refine gd_istore_n (L' := [(3, zI (a4 + 1)), (0, zR 7 0), (2, zI a2), (4, zI a4)]) dX7_passBlanks_27 rfl (by decide) rfl ?_
      refine gd_iinc (x9 := a4 + 1) (L' := [(4, zI (a4 + 1)), (3, zI (a4 + 1)), (0, zR 7 0), (2, zI a2)]) 3 dX7_passBlanks_28 rfl rfl (by decide) rfl ?_
      refine gd_goto (tgt := 5) dX7_passBlanks_31 (by decide) ?_
      refine gd_locals [2, 3, 1, 0] rfl ?_
      exact h
theorem c_X7_passBlanks {g : ab_E} {d : Nat} {a1 : Int32} {a2 : Int32} {v : gd_D} {Q : ab_O → gd_D → Prop} (hd : 0 ≤ d) (h : wp_X7_passBlanks g d a1 a2 v Q) : gd_C g mX7_passBlanks d 0 0 [zR 7 0, zI a1, zI a2] v Q := gd_enterF (plainFor_of_name (by decide)) (Nat.le_of_ble_eq_true rfl) rfl (w_X7_passBlanks hd h)
def wp_X7_passLetters (g : ab_E) (d : Nat) (a1 : Int32) (a2 : Int32) (v : gd_D) (Q : ab_O → gd_D → Prop) : Prop :=
  gd_G g mX7_passLetters d 0 0 5 [(0, zR 7 0), (2, zI a2), (3, zI a1), (4, zI a1)] [] v Q
theorem w_X7_passLetters {g : ab_E} {d : Nat} {a1 : Int32} {a2 : Int32} {v : gd_D} {Q : ab_O → gd_D → Prop} (hd : 0 ≤ d) (h : wp_X7_passLetters g d a1 a2 v Q) : gd_G g mX7_passLetters d 0 0 0 [(0, zR 7 0), (1, zI a1), (2, zI a2)] [] v Q := by
  unfold wp_X7_passLetters at h
  refine gd_iload_n 1 dX7_passLetters_0 rfl rfl ?_
  refine gd_istore_n (L' := [(3, zI a1), (0, zR 7 0), (1, zI a1), (2, zI a2)]) dX7_passLetters_1 rfl (by decide) rfl ?_
  refine gd_iload_n 2 dX7_passLetters_2 rfl rfl ?_
  refine gd_istore (L' := [(4, zI a1), (3, zI a1), (0, zR 7 0), (1, zI a1), (2, zI a2)]) dX7_passLetters_3 (by decide) rfl ?_
  refine gd_locals [2, 4, 1, 0] rfl ?_
  exact h
def wp_X7_passLetters_5 (g : ab_E) (d : Nat) (a2 : Int32) (a3 : Int32) (a4 : Int32) (v : gd_D) (Q : ab_O → gd_D → Prop) : Prop :=
  (((a2 : Int32) ≤ a4) →
    Q (Sum.inl (some (zI a3))) v) ∧
  ((¬ (a2 : Int32) ≤ a4) →
    vp_in a4 500 ∧
    gd_C g mX7_isLetter 2 0 0 [zI (v.1 31 0 (a4 : Int32).toNatClampNeg)] v (gd_rI (fun (r2 : Int32) v1 =>
      (((r2 : Int32) = 0) →
        Q (Sum.inl (some (zI a3))) v1) ∧
      ((¬ (r2 : Int32) = 0) →
        gd_G g mX7_passLetters d 0 0 5 [(0, zR 7 0), (2, zI a2), (3, zI (a4 + 1)), (4, zI (a4 + 1))] [] v1 Q)) (fun E v9 => Q (Sum.inr E) v9)))
theorem w_X7_passLetters_5 {g : ab_E} {d : Nat} {a2 : Int32} {a3 : Int32} {a4 : Int32} {v : gd_D} {Q : ab_O → gd_D → Prop} (hd : 3 ≤ d) (h : wp_X7_passLetters_5 g d a2 a3 a4 v Q) : gd_G g mX7_passLetters d 0 0 5 [(0, zR 7 0), (2, zI a2), (3, zI a3), (4, zI a4)] [] v Q := by
  unfold wp_X7_passLetters_5 at h
  refine gd_iload 3 dX7_passLetters_5 rfl ?_
  refine gd_iload_n 1 dX7_passLetters_7 rfl rfl ?_
  refine gd_icmp_ge (tgt := 35) dX7_passLetters_8 (by decide) (fun hc => ?_) (fun hc => ?_)
  · have h := h.1 hc
    refine gd_iload_n 2 dX7_passLetters_35 rfl rfl ?_
    exact gd_iret (ty := .int) dX7_passLetters_36 rfl rfl h
  · have h := h.2 hc
    refine gd_aload_n 0 dX7_passLetters_11 rfl rfl ?_
    refine gd_getR (x := 0) (kr := 31) fX7_9 rfl rfl dX7_passLetters_12 rfl ?_
    refine gd_iload 3 dX7_passLetters_15 rfl ?_
    obtain ⟨hb, h⟩ := h
    refine gd_baload (n := 500) (by decide) rfl dX7_passLetters_17 rfl hb ?_
    refine gd_callSI (As := [zI (v.1 31 0 (a4 : Int32).toNatClampNeg)]) (rest := []) (dy := 2) (my := 0) (sy := 0) lX7_80 tX7_isLetter dX7_passLetters_18 rfl rfl (gd_room (by omega) (by decide)) (by decide) (Nat.le_of_ble_eq_true rfl) h (fun r2 v1 h => ?_)
    refine gd_if_eq (tgt := 35) dX7_passLetters_21 (by decide) (fun hc => ?_) (fun hc => ?_)
    · have h := h.1 hc
      refine gd_iload_n 2 dX7_passLetters_35 rfl rfl ?_
      exact gd_iret (ty := .int) dX7_passLetters_36 rfl rfl h
    · have h := h.2 hc
      refine gd_iload 3 dX7_passLetters_24 rfl ?_
      refine gd_iconst (x9 := 1) dX7_passLetters_26 (by decide) ?_
      refine gd_iadd dX7_passLetters_27 ?_
      refine gd_istore_n (L' := [(3, zI (a4 + 1)), (0, zR 7 0), (2, zI a2), (4, zI a4)]) dX7_passLetters_28 rfl (by decide) rfl ?_
      refine gd_iinc (x9 := a4 + 1) (L' := [(4, zI (a4 + 1)), (3, zI (a4 + 1)), (0, zR 7 0), (2, zI a2)]) 3 dX7_passLetters_29 rfl rfl (by decide) rfl ?_
      refine gd_goto (tgt := 5) dX7_passLetters_32 (by decide) ?_
      refine gd_locals [2, 3, 1, 0] rfl ?_
      exact h
theorem c_X7_passLetters {g : ab_E} {d : Nat} {a1 : Int32} {a2 : Int32} {v : gd_D} {Q : ab_O → gd_D → Prop} (hd : 0 ≤ d) (h : wp_X7_passLetters g d a1 a2 v Q) : gd_C g mX7_passLetters d 0 0 [zR 7 0, zI a1, zI a2] v Q := gd_enterF (plainFor_of_name (by decide)) (Nat.le_of_ble_eq_true rfl) rfl (w_X7_passLetters hd h)
def wp_X7_passDigits (g : ab_E) (d : Nat) (a1 : Int32) (a2 : Int32) (v : gd_D) (Q : ab_O → gd_D → Prop) : Prop :=
  gd_G g mX7_passDigits d 0 0 5 [(0, zR 7 0), (2, zI a2), (3, zI a1), (4, zI a1)] [] v Q
theorem w_X7_passDigits {g : ab_E} {d : Nat} {a1 : Int32} {a2 : Int32} {v : gd_D} {Q : ab_O → gd_D → Prop} (hd : 0 ≤ d) (h : wp_X7_passDigits g d a1 a2 v Q) : gd_G g mX7_passDigits d 0 0 0 [(0, zR 7 0), (1, zI a1), (2, zI a2)] [] v Q := by
  unfold wp_X7_passDigits at h
  refine gd_iload_n 1 dX7_passDigits_0 rfl rfl ?_
  refine gd_istore_n (L' := [(3, zI a1), (0, zR 7 0), (1, zI a1), (2, zI a2)]) dX7_passDigits_1 rfl (by decide) rfl ?_
  refine gd_iload_n 2 dX7_passDigits_2 rfl rfl ?_
  refine gd_istore (L' := [(4, zI a1), (3, zI a1), (0, zR 7 0), (1, zI a1), (2, zI a2)]) dX7_passDigits_3 (by decide) rfl ?_
  refine gd_locals [2, 4, 1, 0] rfl ?_
  exact h
def wp_X7_passDigits_5 (g : ab_E) (d : Nat) (a2 : Int32) (a3 : Int32) (a4 : Int32) (v : gd_D) (Q : ab_O → gd_D → Prop) : Prop :=
  (((a2 : Int32) ≤ a4) →
    Q (Sum.inl (some (zI a3))) v) ∧
  ((¬ (a2 : Int32) ≤ a4) →
    vp_in a4 500 ∧
    gd_C g mX7_isDigit 2 0 0 [zI (v.1 31 0 (a4 : Int32).toNatClampNeg)] v (gd_rI (fun (r2 : Int32) v1 =>
      (((r2 : Int32) = 0) →
        Q (Sum.inl (some (zI a3))) v1) ∧
      ((¬ (r2 : Int32) = 0) →
        gd_G g mX7_passDigits d 0 0 5 [(0, zR 7 0), (2, zI a2), (3, zI (a4 + 1)), (4, zI (a4 + 1))] [] v1 Q)) (fun E v9 => Q (Sum.inr E) v9)))
theorem w_X7_passDigits_5 {g : ab_E} {d : Nat} {a2 : Int32} {a3 : Int32} {a4 : Int32} {v : gd_D} {Q : ab_O → gd_D → Prop} (hd : 3 ≤ d) (h : wp_X7_passDigits_5 g d a2 a3 a4 v Q) : gd_G g mX7_passDigits d 0 0 5 [(0, zR 7 0), (2, zI a2), (3, zI a3), (4, zI a4)] [] v Q := by
  unfold wp_X7_passDigits_5 at h
  refine gd_iload 3 dX7_passDigits_5 rfl ?_
  refine gd_iload_n 1 dX7_passDigits_7 rfl rfl ?_
  refine gd_icmp_ge (tgt := 35) dX7_passDigits_8 (by decide) (fun hc => ?_) (fun hc => ?_)
  · have h := h.1 hc
    refine gd_iload_n 2 dX7_passDigits_35 rfl rfl ?_
    exact gd_iret (ty := .int) dX7_passDigits_36 rfl rfl h
  · have h := h.2 hc
    refine gd_aload_n 0 dX7_passDigits_11 rfl rfl ?_
    refine gd_getR (x := 0) (kr := 31) fX7_9 rfl rfl dX7_passDigits_12 rfl ?_
    refine gd_iload 3 dX7_passDigits_15 rfl ?_
    obtain ⟨hb, h⟩ := h
    refine gd_baload (n := 500) (by decide) rfl dX7_passDigits_17 rfl hb ?_
    refine gd_callSI (As := [zI (v.1 31 0 (a4 : Int32).toNatClampNeg)]) (rest := []) (dy := 2) (my := 0) (sy := 0) lX7_94 tX7_isDigit dX7_passDigits_18 rfl rfl (gd_room (by omega) (by decide)) (by decide) (Nat.le_of_ble_eq_true rfl) h (fun r2 v1 h => ?_)
    refine gd_if_eq (tgt := 35) dX7_passDigits_21 (by decide) (fun hc => ?_) (fun hc => ?_)
    · have h := h.1 hc
      refine gd_iload_n 2 dX7_passDigits_35 rfl rfl ?_
      exact gd_iret (ty := .int) dX7_passDigits_36 rfl rfl h
    · have h := h.2 hc
      refine gd_iload 3 dX7_passDigits_24 rfl ?_
      refine gd_iconst (x9 := 1) dX7_passDigits_26 (by decide) ?_
      refine gd_iadd dX7_passDigits_27 ?_
      refine gd_istore_n (L' := [(3, zI (a4 + 1)), (0, zR 7 0), (2, zI a2), (4, zI a4)]) dX7_passDigits_28 rfl (by decide) rfl ?_
      refine gd_iinc (x9 := a4 + 1) (L' := [(4, zI (a4 + 1)), (3, zI (a4 + 1)), (0, zR 7 0), (2, zI a2)]) 3 dX7_passDigits_29 rfl rfl (by decide) rfl ?_
      refine gd_goto (tgt := 5) dX7_passDigits_32 (by decide) ?_
      refine gd_locals [2, 3, 1, 0] rfl ?_
      exact h
theorem c_X7_passDigits {g : ab_E} {d : Nat} {a1 : Int32} {a2 : Int32} {v : gd_D} {Q : ab_O → gd_D → Prop} (hd : 0 ≤ d) (h : wp_X7_passDigits g d a1 a2 v Q) : gd_C g mX7_passDigits d 0 0 [zR 7 0, zI a1, zI a2] v Q := gd_enterF (plainFor_of_name (by decide)) (Nat.le_of_ble_eq_true rfl) rfl (w_X7_passDigits hd h)
def wp_X7_isLetter (g : ab_E) (d : Nat) (a0 : Int32) (v : gd_D) (Q : ab_O → gd_D → Prop) : Prop :=
  (((a0 : Int32) < 97) →
    Q (Sum.inl (some (zI 0))) v) ∧
  ((¬ (a0 : Int32) < 97) →
    (((122 : Int32) < a0) →
      Q (Sum.inl (some (zI 0))) v) ∧
    ((¬ (122 : Int32) < a0) →
      Q (Sum.inl (some (zI 1))) v))
theorem w_X7_isLetter {g : ab_E} {d : Nat} {a0 : Int32} {v : gd_D} {Q : ab_O → gd_D → Prop} (hd : 0 ≤ d) (h : wp_X7_isLetter g d a0 v Q) : gd_G g mX7_isLetter d 0 0 0 [(0, zI a0)] [] v Q := by
  unfold wp_X7_isLetter at h
  refine gd_iload_n 0 dX7_isLetter_0 rfl rfl ?_
  refine gd_bipush (x9 := 97) dX7_isLetter_1 (by decide) ?_
  refine gd_icmp_lt (tgt := 16) dX7_isLetter_3 (by decide) (fun hc => ?_) (fun hc => ?_)
  · have h := h.1 hc
    refine gd_iconst (x9 := 0) dX7_isLetter_16 (by decide) ?_
    exact gd_iret (ty := .boolean) dX7_isLetter_17 rfl rfl h
  · have h := h.2 hc
    refine gd_iload_n 0 dX7_isLetter_6 rfl rfl ?_
    refine gd_bipush (x9 := 122) dX7_isLetter_7 (by decide) ?_
    refine gd_icmp_gt (tgt := 16) dX7_isLetter_9 (by decide) (fun hc => ?_) (fun hc => ?_)
    · have h := h.1 hc
      refine gd_iconst (x9 := 0) dX7_isLetter_16 (by decide) ?_
      exact gd_iret (ty := .boolean) dX7_isLetter_17 rfl rfl h
    · have h := h.2 hc
      refine gd_iconst (x9 := 1) dX7_isLetter_12 (by decide) ?_
      refine gd_goto (tgt := 17) dX7_isLetter_13 (by decide) ?_
      exact gd_iret (ty := .boolean) dX7_isLetter_17 rfl rfl h
theorem c_X7_isLetter {g : ab_E} {d : Nat} {a0 : Int32} {v : gd_D} {Q : ab_O → gd_D → Prop} (hd : 0 ≤ d) (h : wp_X7_isLetter g d a0 v Q) : gd_C g mX7_isLetter d 0 0 [zI a0] v Q := gd_enterF (plainFor_of_name (by decide)) (Nat.le_of_ble_eq_true rfl) rfl (w_X7_isLetter hd h)
def wp_X7_isDigit (g : ab_E) (d : Nat) (a0 : Int32) (v : gd_D) (Q : ab_O → gd_D → Prop) : Prop :=
  (((a0 : Int32) < 48) →
    Q (Sum.inl (some (zI 0))) v) ∧
  ((¬ (a0 : Int32) < 48) →
    (((57 : Int32) < a0) →
      Q (Sum.inl (some (zI 0))) v) ∧
    ((¬ (57 : Int32) < a0) →
      Q (Sum.inl (some (zI 1))) v))
theorem w_X7_isDigit {g : ab_E} {d : Nat} {a0 : Int32} {v : gd_D} {Q : ab_O → gd_D → Prop} (hd : 0 ≤ d) (h : wp_X7_isDigit g d a0 v Q) : gd_G g mX7_isDigit d 0 0 0 [(0, zI a0)] [] v Q := by
  unfold wp_X7_isDigit at h
  refine gd_iload_n 0 dX7_isDigit_0 rfl rfl ?_
  refine gd_bipush (x9 := 48) dX7_isDigit_1 (by decide) ?_
  refine gd_icmp_lt (tgt := 16) dX7_isDigit_3 (by decide) (fun hc => ?_) (fun hc => ?_)
  · have h := h.1 hc
    refine gd_iconst (x9 := 0) dX7_isDigit_16 (by decide) ?_
    exact gd_iret (ty := .boolean) dX7_isDigit_17 rfl rfl h
  · have h := h.2 hc
    refine gd_iload_n 0 dX7_isDigit_6 rfl rfl ?_
    refine gd_bipush (x9 := 57) dX7_isDigit_7 (by decide) ?_
    refine gd_icmp_gt (tgt := 16) dX7_isDigit_9 (by decide) (fun hc => ?_) (fun hc => ?_)
    · have h := h.1 hc
      refine gd_iconst (x9 := 0) dX7_isDigit_16 (by decide) ?_
      exact gd_iret (ty := .boolean) dX7_isDigit_17 rfl rfl h
    · have h := h.2 hc
      refine gd_iconst (x9 := 1) dX7_isDigit_12 (by decide) ?_
      refine gd_goto (tgt := 17) dX7_isDigit_13 (by decide) ?_
      exact gd_iret (ty := .boolean) dX7_isDigit_17 rfl rfl h
theorem c_X7_isDigit {g : ab_E} {d : Nat} {a0 : Int32} {v : gd_D} {Q : ab_O → gd_D → Prop} (hd : 0 ≤ d) (h : wp_X7_isDigit g d a0 v Q) : gd_C g mX7_isDigit d 0 0 [zI a0] v Q := gd_enterF (plainFor_of_name (by decide)) (Nat.le_of_ble_eq_true rfl) rfl (w_X7_isDigit hd h)
def wp_X7_numberAt (g : ab_E) (d : Nat) (a1 : Int32) (a2 : Int32) (v : gd_D) (Q : ab_O → gd_D → Prop) : Prop :=
  gd_G g mX7_numberAt d 0 0 5 [(0, zR 7 0), (2, zI a2), (3, zI 0), (4, zI a1)] [] v Q
theorem w_X7_numberAt {g : ab_E} {d : Nat} {a1 : Int32} {a2 : Int32} {v : gd_D} {Q : ab_O → gd_D → Prop} (hd : 0 ≤ d) (h : wp_X7_numberAt g d a1 a2 v Q) : gd_G g mX7_numberAt d 0 0 0 [(0, zR 7 0), (1, zI a1), (2, zI a2)] [] v Q := by
  unfold wp_X7_numberAt at h
  refine gd_iconst (x9 := 0) dX7_numberAt_0 (by decide) ?_
  refine gd_istore_n (L' := [(3, zI 0), (0, zR 7 0), (1, zI a1), (2, zI a2)]) dX7_numberAt_1 rfl (by decide) rfl ?_
  refine gd_iload_n 2 dX7_numberAt_2 rfl rfl ?_
  refine gd_istore (L' := [(4, zI a1), (3, zI 0), (0, zR 7 0), (1, zI a1), (2, zI a2)]) dX7_numberAt_3 (by decide) rfl ?_
  refine gd_locals [2, 4, 1, 0] rfl ?_
  exact h
def wp_X7_numberAt_5 (g : ab_E) (d : Nat) (a2 : Int32) (a3 : Int32) (a4 : Int32) (v : gd_D) (Q : ab_O → gd_D → Prop) : Prop :=
  (((a2 : Int32) ≤ a4) →
    Q (Sum.inl (some (zI a3))) v) ∧
  ((¬ (a2 : Int32) ≤ a4) →
    vp_in a4 500 ∧
    ∀ x1 : Int32, x1 = (a3 * 10) + (v.1 31 0 (a4 : Int32).toNatClampNeg) →
    gd_C g mJ9_min_7cf53 2 0 0 [zI (x1 - 48), zI 1000000] v (gd_rI (fun (r3 : Int32) v2 =>
      gd_G g mX7_numberAt d 0 0 5 [(0, zR 7 0), (2, zI a2), (3, zI r3), (4, zI (a4 + 1))] [] v2 Q) (fun E v9 => Q (Sum.inr E) v9)))
theorem w_X7_numberAt_5 {g : ab_E} {d : Nat} {a2 : Int32} {a3 : Int32} {a4 : Int32} {v : gd_D} {Q : ab_O → gd_D → Prop} (hd : 3 ≤ d) (h : wp_X7_numberAt_5 g d a2 a3 a4 v Q) : gd_G g mX7_numberAt d 0 0 5 [(0, zR 7 0), (2, zI a2), (3, zI a3), (4, zI a4)] [] v Q := by
  unfold wp_X7_numberAt_5 at h
  refine gd_iload 3 dX7_numberAt_5 rfl ?_
  refine gd_iload_n 1 dX7_numberAt_7 rfl rfl ?_
  refine gd_icmp_ge (tgt := 38) dX7_numberAt_8 (by decide) (fun hc => ?_) (fun hc => ?_)
  · have h := h.1 hc
    refine gd_iload_n 2 dX7_numberAt_38 rfl rfl ?_
    exact gd_iret (ty := .int) dX7_numberAt_39 rfl rfl h
  · have h := h.2 hc
    refine gd_iload_n 2 dX7_numberAt_11 rfl rfl ?_
    refine gd_bipush (x9 := 10) dX7_numberAt_12 (by decide) ?_
    refine gd_imul dX7_numberAt_14 ?_
    refine gd_aload_n 0 dX7_numberAt_15 rfl rfl ?_
    refine gd_getR (x := 0) (kr := 31) fX7_9 rfl rfl dX7_numberAt_16 rfl ?_
    refine gd_iload 3 dX7_numberAt_19 rfl ?_
    obtain ⟨hb, h⟩ := h
    refine gd_baload (n := 500) (by decide) rfl dX7_numberAt_21 rfl hb ?_
    refine gd_iadd dX7_numberAt_22 ?_
    refine gd_nmI (fun x1 ex1 => ?_)
    have h := h x1 ex1
    refine gd_bipush (x9 := 48) dX7_numberAt_23 (by decide) ?_
    refine gd_isub dX7_numberAt_25 ?_
    refine gd_ldc kX7_103 dX7_numberAt_26 ?_
    refine gd_callSI (As := [zI (x1 - 48), zI 1000000]) (rest := []) (dy := 2) (my := 0) (sy := 0) lX7_39 tJ9_min_7cf53 dX7_numberAt_28 rfl rfl (gd_room (by omega) (by decide)) (by decide) (Nat.le_of_ble_eq_true rfl) h (fun r3 v2 h => ?_)
    refine gd_istore_n (L' := [(3, zI r3), (0, zR 7 0), (2, zI a2), (4, zI a4)]) dX7_numberAt_31 rfl (by decide) rfl ?_
    refine gd_iinc (x9 := a4 + 1) (L' := [(4, zI (a4 + 1)), (3, zI r3), (0, zR 7 0), (2, zI a2)]) 3 dX7_numberAt_32 rfl rfl (by decide) rfl ?_
    refine gd_goto (tgt := 5) dX7_numberAt_35 (by decide) ?_
    refine gd_locals [2, 3, 1, 0] rfl ?_
    exact h
theorem c_X7_numberAt {g : ab_E} {d : Nat} {a1 : Int32} {a2 : Int32} {v : gd_D} {Q : ab_O → gd_D → Prop} (hd : 0 ≤ d) (h : wp_X7_numberAt g d a1 a2 v Q) : gd_C g mX7_numberAt d 0 0 [zR 7 0, zI a1, zI a2] v Q := gd_enterF (plainFor_of_name (by decide)) (Nat.le_of_ble_eq_true rfl) rfl (w_X7_numberAt hd h)
def wp_X7_wordAt (g : ab_E) (d : Nat) (a1 : Int32) (a2 : Int32) (v : gd_D) (Q : ab_O → gd_D → Prop) : Prop :=
  gd_C g mX7_spells 7 0 0 [zR 7 0, zR 100 0, zI a1, zI a2] v (gd_rI (fun (r2 : Int32) v1 =>
    (((r2 : Int32) = 0) →
      gd_C g mX7_spells 7 0 0 [zR 7 0, zR 100 1, zI a1, zI a2] v1 (gd_rI (fun (r4 : Int32) v3 =>
        (((r4 : Int32) = 0) →
          gd_C g mX7_spells 7 0 0 [zR 7 0, zR 100 2, zI a1, zI a2] v3 (gd_rI (fun (r6 : Int32) v5 =>
            (((r6 : Int32) = 0) →
              gd_C g mX7_spells 7 0 0 [zR 7 0, zR 100 3, zI a1, zI a2] v5 (gd_rI (fun (r8 : Int32) v7 =>
                (((r8 : Int32) = 0) →
                  gd_C g mX7_spells 7 0 0 [zR 7 0, zR 100 4, zI a1, zI a2] v7 (gd_rI (fun (r10 : Int32) v9 =>
                    (((r10 : Int32) = 0) →
                      gd_C g mX7_spells 7 0 0 [zR 7 0, zR 100 5, zI a1, zI a2] v9 (gd_rI (fun (r12 : Int32) v11 =>
                        (((r12 : Int32) = 0) →
                          gd_C g mX7_spells 7 0 0 [zR 7 0, zR 100 6, zI a1, zI a2] v11 (gd_rI (fun (r14 : Int32) v13 =>
                            (((r14 : Int32) = 0) →
                              gd_C g mX7_operandAt 8 0 0 [zR 7 0, zI a1, zI a2] v13 (gd_rI (fun (r16 : Int32) v15 =>
                                Q (Sum.inl (some (zI r16))) v15) (fun E v9 => Q (Sum.inr E) v9))) ∧
                            ((¬ (r14 : Int32) = 0) →
                              Q (Sum.inl (some (zI 7))) v13)) (fun E v9 => Q (Sum.inr E) v9))) ∧
                        ((¬ (r12 : Int32) = 0) →
                          Q (Sum.inl (some (zI 6))) v11)) (fun E v9 => Q (Sum.inr E) v9))) ∧
                    ((¬ (r10 : Int32) = 0) →
                      Q (Sum.inl (some (zI 5))) v9)) (fun E v9 => Q (Sum.inr E) v9))) ∧
                ((¬ (r8 : Int32) = 0) →
                  Q (Sum.inl (some (zI 4))) v7)) (fun E v9 => Q (Sum.inr E) v9))) ∧
            ((¬ (r6 : Int32) = 0) →
              Q (Sum.inl (some (zI 3))) v5)) (fun E v9 => Q (Sum.inr E) v9))) ∧
        ((¬ (r4 : Int32) = 0) →
          Q (Sum.inl (some (zI 2))) v3)) (fun E v9 => Q (Sum.inr E) v9))) ∧
    ((¬ (r2 : Int32) = 0) →
      Q (Sum.inl (some (zI 1))) v1)) (fun E v9 => Q (Sum.inr E) v9))
theorem w_X7_wordAt {g : ab_E} {d : Nat} {a1 : Int32} {a2 : Int32} {v : gd_D} {Q : ab_O → gd_D → Prop} (hd : 9 ≤ d) (h : wp_X7_wordAt g d a1 a2 v Q) : gd_G g mX7_wordAt d 0 0 0 [(0, zR 7 0), (1, zI a1), (2, zI a2)] [] v Q := by
  unfold wp_X7_wordAt at h
  refine gd_aload_n 0 dX7_wordAt_0 rfl rfl ?_
  refine gd_ldcS (i := 0) (by decide) kX7_104 dX7_wordAt_1 ?_
  refine gd_iload_n 1 dX7_wordAt_3 rfl rfl ?_
  refine gd_iload_n 2 dX7_wordAt_4 rfl rfl ?_
  refine gd_callVI (As := [zR 100 0, zI a1, zI a2]) (rest := []) (dy := 7) (my := 0) (sy := 0) (k := 7) (i := 0) lX7_106 iX7_spells sX7_spells rfl dX7_wordAt_5 rfl rfl (gd_room (by omega) (by decide)) (by decide) (Nat.le_of_ble_eq_true rfl) h (fun r2 v1 h => ?_)
  refine gd_if_eq (tgt := 13) dX7_wordAt_8 (by decide) (fun hc => ?_) (fun hc => ?_)
  · have h := h.1 hc
    refine gd_aload_n 0 dX7_wordAt_13 rfl rfl ?_
    refine gd_ldcS (i := 1) (by decide) kX7_110 dX7_wordAt_14 ?_
    refine gd_iload_n 1 dX7_wordAt_16 rfl rfl ?_
    refine gd_iload_n 2 dX7_wordAt_17 rfl rfl ?_
    refine gd_callVI (As := [zR 100 1, zI a1, zI a2]) (rest := []) (dy := 7) (my := 0) (sy := 0) (k := 7) (i := 0) lX7_106 iX7_spells sX7_spells rfl dX7_wordAt_18 rfl rfl (gd_room (by omega) (by decide)) (by decide) (Nat.le_of_ble_eq_true rfl) h (fun r4 v3 h => ?_)
    refine gd_if_eq (tgt := 26) dX7_wordAt_21 (by decide) (fun hc => ?_) (fun hc => ?_)
    · have h := h.1 hc
      refine gd_aload_n 0 dX7_wordAt_26 rfl rfl ?_
      refine gd_ldcS (i := 2) (by decide) kX7_112 dX7_wordAt_27 ?_
      refine gd_iload_n 1 dX7_wordAt_29 rfl rfl ?_
      refine gd_iload_n 2 dX7_wordAt_30 rfl rfl ?_
      refine gd_callVI (As := [zR 100 2, zI a1, zI a2]) (rest := []) (dy := 7) (my := 0) (sy := 0) (k := 7) (i := 0) lX7_106 iX7_spells sX7_spells rfl dX7_wordAt_31 rfl rfl (gd_room (by omega) (by decide)) (by decide) (Nat.le_of_ble_eq_true rfl) h (fun r6 v5 h => ?_)
      refine gd_if_eq (tgt := 39) dX7_wordAt_34 (by decide) (fun hc => ?_) (fun hc => ?_)
      · have h := h.1 hc
        refine gd_aload_n 0 dX7_wordAt_39 rfl rfl ?_
        refine gd_ldcS (i := 3) (by decide) kX7_114 dX7_wordAt_40 ?_
        refine gd_iload_n 1 dX7_wordAt_42 rfl rfl ?_
        refine gd_iload_n 2 dX7_wordAt_43 rfl rfl ?_
        refine gd_callVI (As := [zR 100 3, zI a1, zI a2]) (rest := []) (dy := 7) (my := 0) (sy := 0) (k := 7) (i := 0) lX7_106 iX7_spells sX7_spells rfl dX7_wordAt_44 rfl rfl (gd_room (by omega) (by decide)) (by decide) (Nat.le_of_ble_eq_true rfl) h (fun r8 v7 h => ?_)
        refine gd_if_eq (tgt := 52) dX7_wordAt_47 (by decide) (fun hc => ?_) (fun hc => ?_)
        · have h := h.1 hc
          refine gd_aload_n 0 dX7_wordAt_52 rfl rfl ?_
          refine gd_ldcS (i := 4) (by decide) kX7_116 dX7_wordAt_53 ?_
          refine gd_iload_n 1 dX7_wordAt_55 rfl rfl ?_
          refine gd_iload_n 2 dX7_wordAt_56 rfl rfl ?_
          refine gd_callVI (As := [zR 100 4, zI a1, zI a2]) (rest := []) (dy := 7) (my := 0) (sy := 0) (k := 7) (i := 0) lX7_106 iX7_spells sX7_spells rfl dX7_wordAt_57 rfl rfl (gd_room (by omega) (by decide)) (by decide) (Nat.le_of_ble_eq_true rfl) h (fun r10 v9 h => ?_)
          refine gd_if_eq (tgt := 65) dX7_wordAt_60 (by decide) (fun hc => ?_) (fun hc => ?_)
          · have h := h.1 hc
            refine gd_aload_n 0 dX7_wordAt_65 rfl rfl ?_
            refine gd_ldcS (i := 5) (by decide) kX7_118 dX7_wordAt_66 ?_
            refine gd_iload_n 1 dX7_wordAt_68 rfl rfl ?_
            refine gd_iload_n 2 dX7_wordAt_69 rfl rfl ?_
            refine gd_callVI (As := [zR 100 5, zI a1, zI a2]) (rest := []) (dy := 7) (my := 0) (sy := 0) (k := 7) (i := 0) lX7_106 iX7_spells sX7_spells rfl dX7_wordAt_70 rfl rfl (gd_room (by omega) (by decide)) (by decide) (Nat.le_of_ble_eq_true rfl) h (fun r12 v11 h => ?_)
            refine gd_if_eq (tgt := 79) dX7_wordAt_73 (by decide) (fun hc => ?_) (fun hc => ?_)
            · have h := h.1 hc
              refine gd_aload_n 0 dX7_wordAt_79 rfl rfl ?_
              refine gd_ldcS (i := 6) (by decide) kX7_120 dX7_wordAt_80 ?_
              refine gd_iload_n 1 dX7_wordAt_82 rfl rfl ?_
              refine gd_iload_n 2 dX7_wordAt_83 rfl rfl ?_
              refine gd_callVI (As := [zR 100 6, zI a1, zI a2]) (rest := []) (dy := 7) (my := 0) (sy := 0) (k := 7) (i := 0) lX7_106 iX7_spells sX7_spells rfl dX7_wordAt_84 rfl rfl (gd_room (by omega) (by decide)) (by decide) (Nat.le_of_ble_eq_true rfl) h (fun r14 v13 h => ?_)
              refine gd_if_eq (tgt := 95) dX7_wordAt_87 (by decide) (fun hc => ?_) (fun hc => ?_)
              · have h := h.1 hc
                refine gd_aload_n 0 dX7_wordAt_95 rfl rfl ?_
                refine gd_iload_n 1 dX7_wordAt_96 rfl rfl ?_
                refine gd_iload_n 2 dX7_wordAt_97 rfl rfl ?_
                refine gd_callVI (As := [zI a1, zI a2]) (rest := []) (dy := 8) (my := 0) (sy := 0) (k := 7) (i := 0) lX7_122 iX7_operandAt sX7_operandAt rfl dX7_wordAt_98 rfl rfl (gd_room (by omega) (by decide)) (by decide) (Nat.le_of_ble_eq_true rfl) h (fun r16 v15 h => ?_)
                exact gd_iret (ty := .int) dX7_wordAt_101 rfl rfl h
              · have h := h.2 hc
                refine gd_bipush (x9 := 7) dX7_wordAt_90 (by decide) ?_
                refine gd_goto (tgt := 101) dX7_wordAt_92 (by decide) ?_
                exact gd_iret (ty := .int) dX7_wordAt_101 rfl rfl h
            · have h := h.2 hc
              refine gd_bipush (x9 := 6) dX7_wordAt_76 (by decide) ?_
              exact gd_iret (ty := .int) dX7_wordAt_78 rfl rfl h
          · have h := h.2 hc
            refine gd_iconst (x9 := 5) dX7_wordAt_63 (by decide) ?_
            exact gd_iret (ty := .int) dX7_wordAt_64 rfl rfl h
        · have h := h.2 hc
          refine gd_iconst (x9 := 4) dX7_wordAt_50 (by decide) ?_
          exact gd_iret (ty := .int) dX7_wordAt_51 rfl rfl h
      · have h := h.2 hc
        refine gd_iconst (x9 := 3) dX7_wordAt_37 (by decide) ?_
        exact gd_iret (ty := .int) dX7_wordAt_38 rfl rfl h
    · have h := h.2 hc
      refine gd_iconst (x9 := 2) dX7_wordAt_24 (by decide) ?_
      exact gd_iret (ty := .int) dX7_wordAt_25 rfl rfl h
  · have h := h.2 hc
    refine gd_iconst (x9 := 1) dX7_wordAt_11 (by decide) ?_
    exact gd_iret (ty := .int) dX7_wordAt_12 rfl rfl h
theorem c_X7_wordAt {g : ab_E} {d : Nat} {a1 : Int32} {a2 : Int32} {v : gd_D} {Q : ab_O → gd_D → Prop} (hd : 9 ≤ d) (h : wp_X7_wordAt g d a1 a2 v Q) : gd_C g mX7_wordAt d 0 0 [zR 7 0, zI a1, zI a2] v Q := gd_enterF (plainFor_of_name (by decide)) (Nat.le_of_ble_eq_true rfl) rfl (w_X7_wordAt hd h)
def wp_X7_operandAt (g : ab_E) (d : Nat) (a1 : Int32) (a2 : Int32) (v : gd_D) (Q : ab_O → gd_D → Prop) : Prop :=
  gd_C g mX7_spells 7 0 0 [zR 7 0, zR 100 7, zI a1, zI a2] v (gd_rI (fun (r2 : Int32) v1 =>
    (((r2 : Int32) = 0) →
      gd_C g mX7_spells 7 0 0 [zR 7 0, zR 100 8, zI a1, zI a2] v1 (gd_rI (fun (r4 : Int32) v3 =>
        (((r4 : Int32) = 0) →
          gd_C g mX7_spells 7 0 0 [zR 7 0, zR 100 9, zI a1, zI a2] v3 (gd_rI (fun (r6 : Int32) v5 =>
            (((r6 : Int32) = 0) →
              gd_C g mX7_spells 7 0 0 [zR 7 0, zR 100 10, zI a1, zI a2] v5 (gd_rI (fun (r8 : Int32) v7 =>
                (((r8 : Int32) = 0) →
                  gd_C g mX7_spells 7 0 0 [zR 7 0, zR 100 11, zI a1, zI a2] v7 (gd_rI (fun (r10 : Int32) v9 =>
                    (((r10 : Int32) = 0) →
                      gd_C g mX7_spells 7 0 0 [zR 7 0, zR 100 12, zI a1, zI a2] v9 (gd_rI (fun (r12 : Int32) v11 =>
                        (((r12 : Int32) = 0) →
                          gd_C g mX7_spells 7 0 0 [zR 7 0, zR 100 13, zI a1, zI a2] v11 (gd_rI (fun (r14 : Int32) v13 =>
                            (((r14 : Int32) = 0) →
                              Q (Sum.inl (some (zI 0))) v13) ∧
                            ((¬ (r14 : Int32) = 0) →
                              Q (Sum.inl (some (zI (-7)))) v13)) (fun E v9 => Q (Sum.inr E) v9))) ∧
                        ((¬ (r12 : Int32) = 0) →
                          Q (Sum.inl (some (zI (-6)))) v11)) (fun E v9 => Q (Sum.inr E) v9))) ∧
                    ((¬ (r10 : Int32) = 0) →
                      Q (Sum.inl (some (zI (-5)))) v9)) (fun E v9 => Q (Sum.inr E) v9))) ∧
                ((¬ (r8 : Int32) = 0) →
                  Q (Sum.inl (some (zI (-4)))) v7)) (fun E v9 => Q (Sum.inr E) v9))) ∧
            ((¬ (r6 : Int32) = 0) →
              Q (Sum.inl (some (zI (-3)))) v5)) (fun E v9 => Q (Sum.inr E) v9))) ∧
        ((¬ (r4 : Int32) = 0) →
          Q (Sum.inl (some (zI (-2)))) v3)) (fun E v9 => Q (Sum.inr E) v9))) ∧
    ((¬ (r2 : Int32) = 0) →
      Q (Sum.inl (some (zI (-1)))) v1)) (fun E v9 => Q (Sum.inr E) v9))
theorem w_X7_operandAt {g : ab_E} {d : Nat} {a1 : Int32} {a2 : Int32} {v : gd_D} {Q : ab_O → gd_D → Prop} (hd : 8 ≤ d) (h : wp_X7_operandAt g d a1 a2 v Q) : gd_G g mX7_operandAt d 0 0 0 [(0, zR 7 0), (1, zI a1), (2, zI a2)] [] v Q := by
  unfold wp_X7_operandAt at h
  refine gd_aload_n 0 dX7_operandAt_0 rfl rfl ?_
  refine gd_ldcS (i := 7) (by decide) kX7_125 dX7_operandAt_1 ?_
  refine gd_iload_n 1 dX7_operandAt_3 rfl rfl ?_
  refine gd_iload_n 2 dX7_operandAt_4 rfl rfl ?_
  refine gd_callVI (As := [zR 100 7, zI a1, zI a2]) (rest := []) (dy := 7) (my := 0) (sy := 0) (k := 7) (i := 0) lX7_106 iX7_spells sX7_spells rfl dX7_operandAt_5 rfl rfl (gd_room (by omega) (by decide)) (by decide) (Nat.le_of_ble_eq_true rfl) h (fun r2 v1 h => ?_)
  refine gd_if_eq (tgt := 13) dX7_operandAt_8 (by decide) (fun hc => ?_) (fun hc => ?_)
  · have h := h.1 hc
    refine gd_aload_n 0 dX7_operandAt_13 rfl rfl ?_
    refine gd_ldcS (i := 8) (by decide) kX7_129 dX7_operandAt_14 ?_
    refine gd_iload_n 1 dX7_operandAt_16 rfl rfl ?_
    refine gd_iload_n 2 dX7_operandAt_17 rfl rfl ?_
    refine gd_callVI (As := [zR 100 8, zI a1, zI a2]) (rest := []) (dy := 7) (my := 0) (sy := 0) (k := 7) (i := 0) lX7_106 iX7_spells sX7_spells rfl dX7_operandAt_18 rfl rfl (gd_room (by omega) (by decide)) (by decide) (Nat.le_of_ble_eq_true rfl) h (fun r4 v3 h => ?_)
    refine gd_if_eq (tgt := 27) dX7_operandAt_21 (by decide) (fun hc => ?_) (fun hc => ?_)
    · have h := h.1 hc
      refine gd_aload_n 0 dX7_operandAt_27 rfl rfl ?_
      refine gd_ldcS (i := 9) (by decide) kX7_131 dX7_operandAt_28 ?_
      refine gd_iload_n 1 dX7_operandAt_30 rfl rfl ?_
      refine gd_iload_n 2 dX7_operandAt_31 rfl rfl ?_
      refine gd_callVI (As := [zR 100 9, zI a1, zI a2]) (rest := []) (dy := 7) (my := 0) (sy := 0) (k := 7) (i := 0) lX7_106 iX7_spells sX7_spells rfl dX7_operandAt_32 rfl rfl (gd_room (by omega) (by decide)) (by decide) (Nat.le_of_ble_eq_true rfl) h (fun r6 v5 h => ?_)
      refine gd_if_eq (tgt := 41) dX7_operandAt_35 (by decide) (fun hc => ?_) (fun hc => ?_)
      · have h := h.1 hc
        refine gd_aload_n 0 dX7_operandAt_41 rfl rfl ?_
        refine gd_ldcS (i := 10) (by decide) kX7_133 dX7_operandAt_42 ?_
        refine gd_iload_n 1 dX7_operandAt_44 rfl rfl ?_
        refine gd_iload_n 2 dX7_operandAt_45 rfl rfl ?_
        refine gd_callVI (As := [zR 100 10, zI a1, zI a2]) (rest := []) (dy := 7) (my := 0) (sy := 0) (k := 7) (i := 0) lX7_106 iX7_spells sX7_spells rfl dX7_operandAt_46 rfl rfl (gd_room (by omega) (by decide)) (by decide) (Nat.le_of_ble_eq_true rfl) h (fun r8 v7 h => ?_)
        refine gd_if_eq (tgt := 55) dX7_operandAt_49 (by decide) (fun hc => ?_) (fun hc => ?_)
        · have h := h.1 hc
          refine gd_aload_n 0 dX7_operandAt_55 rfl rfl ?_
          refine gd_ldcS (i := 11) (by decide) kX7_135 dX7_operandAt_56 ?_
          refine gd_iload_n 1 dX7_operandAt_58 rfl rfl ?_
          refine gd_iload_n 2 dX7_operandAt_59 rfl rfl ?_
          refine gd_callVI (As := [zR 100 11, zI a1, zI a2]) (rest := []) (dy := 7) (my := 0) (sy := 0) (k := 7) (i := 0) lX7_106 iX7_spells sX7_spells rfl dX7_operandAt_60 rfl rfl (gd_room (by omega) (by decide)) (by decide) (Nat.le_of_ble_eq_true rfl) h (fun r10 v9 h => ?_)
          refine gd_if_eq (tgt := 69) dX7_operandAt_63 (by decide) (fun hc => ?_) (fun hc => ?_)
          · have h := h.1 hc
            refine gd_aload_n 0 dX7_operandAt_69 rfl rfl ?_
            refine gd_ldcS (i := 12) (by decide) kX7_137 dX7_operandAt_70 ?_
            refine gd_iload_n 1 dX7_operandAt_72 rfl rfl ?_
            refine gd_iload_n 2 dX7_operandAt_73 rfl rfl ?_
            refine gd_callVI (As := [zR 100 12, zI a1, zI a2]) (rest := []) (dy := 7) (my := 0) (sy := 0) (k := 7) (i := 0) lX7_106 iX7_spells sX7_spells rfl dX7_operandAt_74 rfl rfl (gd_room (by omega) (by decide)) (by decide) (Nat.le_of_ble_eq_true rfl) h (fun r12 v11 h => ?_)
            refine gd_if_eq (tgt := 83) dX7_operandAt_77 (by decide) (fun hc => ?_) (fun hc => ?_)
            · have h := h.1 hc
              refine gd_aload_n 0 dX7_operandAt_83 rfl rfl ?_
              refine gd_ldcS (i := 13) (by decide) kX7_139 dX7_operandAt_84 ?_
              refine gd_iload_n 1 dX7_operandAt_86 rfl rfl ?_
              refine gd_iload_n 2 dX7_operandAt_87 rfl rfl ?_
              refine gd_callVI (As := [zR 100 13, zI a1, zI a2]) (rest := []) (dy := 7) (my := 0) (sy := 0) (k := 7) (i := 0) lX7_106 iX7_spells sX7_spells rfl dX7_operandAt_88 rfl rfl (gd_room (by omega) (by decide)) (by decide) (Nat.le_of_ble_eq_true rfl) h (fun r14 v13 h => ?_)
              refine gd_if_eq (tgt := 99) dX7_operandAt_91 (by decide) (fun hc => ?_) (fun hc => ?_)
              · have h := h.1 hc
                refine gd_iconst (x9 := 0) dX7_operandAt_99 (by decide) ?_
                exact gd_iret (ty := .int) dX7_operandAt_100 rfl rfl h
              · have h := h.2 hc
                refine gd_bipush (x9 := (-7)) dX7_operandAt_94 (by decide) ?_
                refine gd_goto (tgt := 100) dX7_operandAt_96 (by decide) ?_
                exact gd_iret (ty := .int) dX7_operandAt_100 rfl rfl h
            · have h := h.2 hc
              refine gd_bipush (x9 := (-6)) dX7_operandAt_80 (by decide) ?_
              exact gd_iret (ty := .int) dX7_operandAt_82 rfl rfl h
          · have h := h.2 hc
            refine gd_bipush (x9 := (-5)) dX7_operandAt_66 (by decide) ?_
            exact gd_iret (ty := .int) dX7_operandAt_68 rfl rfl h
        · have h := h.2 hc
          refine gd_bipush (x9 := (-4)) dX7_operandAt_52 (by decide) ?_
          exact gd_iret (ty := .int) dX7_operandAt_54 rfl rfl h
      · have h := h.2 hc
        refine gd_bipush (x9 := (-3)) dX7_operandAt_38 (by decide) ?_
        exact gd_iret (ty := .int) dX7_operandAt_40 rfl rfl h
    · have h := h.2 hc
      refine gd_bipush (x9 := (-2)) dX7_operandAt_24 (by decide) ?_
      exact gd_iret (ty := .int) dX7_operandAt_26 rfl rfl h
  · have h := h.2 hc
    refine gd_iconst (x9 := (-1)) dX7_operandAt_11 (by decide) ?_
    exact gd_iret (ty := .int) dX7_operandAt_12 rfl rfl h
theorem c_X7_operandAt {g : ab_E} {d : Nat} {a1 : Int32} {a2 : Int32} {v : gd_D} {Q : ab_O → gd_D → Prop} (hd : 8 ≤ d) (h : wp_X7_operandAt g d a1 a2 v Q) : gd_C g mX7_operandAt d 0 0 [zR 7 0, zI a1, zI a2] v Q := gd_enterF (plainFor_of_name (by decide)) (Nat.le_of_ble_eq_true rfl) rfl (w_X7_operandAt hd h)
def wp_X7_spells (g : ab_E) (d : Nat) (a1 : Nat) (a2 : Int32) (a3 : Int32) (v : gd_D) (Q : ab_O → gd_D → Prop) : Prop :=
  (((a3 - a2 : Int32) = (Int32.ofNat (ab_tn.getD a1 0))) →
    gd_G g mX7_spells d 0 0 15 [(0, zR 7 0), (1, zR 100 a1), (2, zI a2), (4, zI 0)] [] v Q) ∧
  ((¬ (a3 - a2 : Int32) = (Int32.ofNat (ab_tn.getD a1 0))) →
    Q (Sum.inl (some (zI 0))) v)
theorem w_X7_spells {g : ab_E} {d : Nat} {a1 : Nat} {a2 : Int32} {a3 : Int32} {v : gd_D} {Q : ab_O → gd_D → Prop} (hd : 8 ≤ d) (h : wp_X7_spells g d a1 a2 a3 v Q) : gd_G g mX7_spells d 0 0 0 [(0, zR 7 0), (1, zR 100 a1), (2, zI a2), (3, zI a3)] [] v Q := by
  unfold wp_X7_spells at h
  refine gd_iload_n 3 dX7_spells_0 rfl rfl ?_
  refine gd_iload_n 2 dX7_spells_1 rfl rfl ?_
  refine gd_isub dX7_spells_2 ?_
  refine gd_aload_n 1 dX7_spells_3 rfl rfl ?_
  refine gd_strlen (i := a1) lX7_141 dX7_spells_4 (Nat.le_of_ble_eq_true rfl) (by omega) ?_
  refine gd_icmp_eq (tgt := 12) dX7_spells_7 (by decide) (fun hc => ?_) (fun hc => ?_)
  · have h := h.1 hc
    refine gd_iconst (x9 := 0) dX7_spells_12 (by decide) ?_
    refine gd_istore (L' := [(4, zI 0), (0, zR 7 0), (1, zR 100 a1), (2, zI a2), (3, zI a3)]) dX7_spells_13 (by decide) rfl ?_
    refine gd_locals [1, 2, 3, 0] rfl ?_
    exact h
  · have h := h.2 hc
    refine gd_iconst (x9 := 0) dX7_spells_10 (by decide) ?_
    exact gd_iret (ty := .boolean) dX7_spells_11 rfl rfl h
def wp_X7_spells_15 (g : ab_E) (d : Nat) (a1 : Nat) (a2 : Int32) (a4 : Int32) (v : gd_D) (Q : ab_O → gd_D → Prop) : Prop :=
  (((Int32.ofNat (ab_tn.getD a1 0) : Int32) ≤ a4) →
    Q (Sum.inl (some (zI 1))) v) ∧
  ((¬ (Int32.ofNat (ab_tn.getD a1 0) : Int32) ≤ a4) →
    vp_in (a2 + a4) 500 ∧
    vp_in a4 (ab_tn.getD a1 0) ∧
    (((v.1 31 0 (a2 + a4 : Int32).toNatClampNeg : Int32) = ((ab_tb.getD a1 []).getD (a4 : Int32).toNatClampNeg 0)) →
      gd_G g mX7_spells d 0 0 15 [(0, zR 7 0), (1, zR 100 a1), (2, zI a2), (4, zI (a4 + 1))] [] v Q) ∧
    ((¬ (v.1 31 0 (a2 + a4 : Int32).toNatClampNeg : Int32) = ((ab_tb.getD a1 []).getD (a4 : Int32).toNatClampNeg 0)) →
      Q (Sum.inl (some (zI 0))) v))
theorem w_X7_spells_15 {g : ab_E} {d : Nat} {a1 : Nat} {a2 : Int32} {a4 : Int32} {v : gd_D} {Q : ab_O → gd_D → Prop} (hd : 8 ≤ d) (h : wp_X7_spells_15 g d a1 a2 a4 v Q) : gd_G g mX7_spells d 0 0 15 [(0, zR 7 0), (1, zR 100 a1), (2, zI a2), (4, zI a4)] [] v Q := by
  unfold wp_X7_spells_15 at h
  refine gd_iload 3 dX7_spells_15 rfl ?_
  refine gd_aload_n 1 dX7_spells_17 rfl rfl ?_
  refine gd_strlen (i := a1) lX7_141 dX7_spells_18 (Nat.le_of_ble_eq_true rfl) (by omega) ?_
  refine gd_icmp_ge (tgt := 50) dX7_spells_21 (by decide) (fun hc => ?_) (fun hc => ?_)
  · have h := h.1 hc
    refine gd_iconst (x9 := 1) dX7_spells_50 (by decide) ?_
    exact gd_iret (ty := .boolean) dX7_spells_51 rfl rfl h
  · have h := h.2 hc
    refine gd_aload_n 0 dX7_spells_24 rfl rfl ?_
    refine gd_getR (x := 0) (kr := 31) fX7_9 rfl rfl dX7_spells_25 rfl ?_
    refine gd_iload_n 2 dX7_spells_28 rfl rfl ?_
    refine gd_iload 3 dX7_spells_29 rfl ?_
    refine gd_iadd dX7_spells_31 ?_
    obtain ⟨hb, h⟩ := h
    refine gd_baload (n := 500) (by decide) rfl dX7_spells_32 rfl hb ?_
    refine gd_aload_n 1 dX7_spells_33 rfl rfl ?_
    refine gd_iload 3 dX7_spells_34 rfl ?_
    obtain ⟨hb, h⟩ := h
    refine gd_strch (i := a1) lX7_147 dX7_spells_36 (Nat.le_of_ble_eq_true rfl) (by omega) hb ?_
    refine gd_icmp_eq (tgt := 44) dX7_spells_39 (by decide) (fun hc => ?_) (fun hc => ?_)
    · have h := h.1 hc
      refine gd_iinc (x9 := a4 + 1) (L' := [(4, zI (a4 + 1)), (0, zR 7 0), (1, zR 100 a1), (2, zI a2)]) 3 dX7_spells_44 rfl rfl (by decide) rfl ?_
      refine gd_goto (tgt := 15) dX7_spells_47 (by decide) ?_
      refine gd_locals [1, 2, 3, 0] rfl ?_
      exact h
    · have h := h.2 hc
      refine gd_iconst (x9 := 0) dX7_spells_42 (by decide) ?_
      exact gd_iret (ty := .boolean) dX7_spells_43 rfl rfl h
theorem c_X7_spells {g : ab_E} {d : Nat} {a1 : Nat} {a2 : Int32} {a3 : Int32} {v : gd_D} {Q : ab_O → gd_D → Prop} (hd : 8 ≤ d) (h : wp_X7_spells g d a1 a2 a3 v Q) : gd_C g mX7_spells d 0 0 [zR 7 0, zR 100 a1, zI a2, zI a3] v Q := gd_enterF (plainFor_of_name (by decide)) (Nat.le_of_ble_eq_true rfl) rfl (w_X7_spells hd h)
def wp_X7_readLine_26 (g : ab_E) (d : Nat) (b c : Nat) (s0 : Int32) (v : gd_D) (Q : ab_O → gd_D → Prop) : Prop :=
  ((s0 : Int32) = 1 →
    gd_C g mX7_readDealer 4 0 0 [zR 7 0] v (gd_rV (fun v1 =>
      Q (Sum.inl none) v1) (fun E v9 => Q (Sum.inr E) v9))) ∧
  ((s0 : Int32) = 2 →
    gd_C g mX7_readSale 4 0 0 [zR 7 0] v (gd_rV (fun v3 =>
      Q (Sum.inl none) v3) (fun E v9 => Q (Sum.inr E) v9))) ∧
  ((s0 : Int32) = 3 →
    gd_C g mX7_readOnce 4 0 0 [zR 7 0, zI 3, zI 0, zI 999] v (gd_rI (fun (r6 : Int32) v5 =>
      ∀ v7 : gd_D, v7 = gd_sI v5 2 0 6 r6 →
      Q (Sum.inl none) v7) (fun E v9 => Q (Sum.inr E) v9))) ∧
  ((s0 : Int32) = 4 →
    gd_C g mX7_readOnce 4 0 0 [zR 7 0, zI 4, zI 1, zI 100] v (gd_rI (fun (r9 : Int32) v8 =>
      ∀ v10 : gd_D, v10 = gd_sI v8 2 0 7 r9 →
      Q (Sum.inl none) v10) (fun E v9 => Q (Sum.inr E) v9))) ∧
  ((s0 : Int32) = 5 →
    gd_C g mX7_readOnce 4 0 0 [zR 7 0, zI 5, zI 0, zI 30] v (gd_rI (fun (r12 : Int32) v11 =>
      ∀ v13 : gd_D, v13 = gd_sI v11 2 0 8 r12 →
      Q (Sum.inl none) v13) (fun E v9 => Q (Sum.inr E) v9))) ∧
  ((s0 : Int32) = 6 →
    gd_C g mX7_readOnce 4 0 0 [zR 7 0, zI 6, zI 1, zI 10000] v (gd_rI (fun (r15 : Int32) v14 =>
      ∀ v16 : gd_D, v16 = gd_sI v14 2 0 5 r15 →
      Q (Sum.inl none) v16) (fun E v9 => Q (Sum.inr E) v9))) ∧
  ((s0 : Int32) = 7 →
    gd_C g mX7_takeOnce 3 0 0 [zR 7 0, zI 7] v (gd_rV (fun v17 =>
      gd_C g mX7_readSum 40 0 0 [zR 7 0, zI 0] v17 (gd_rV (fun v19 =>
        ∃ my sy, (my ≤ b ∧ sy ≤ c) ∧
        gd_C g mX7_keepRule 4 my sy [zR 7 0] v19 (gd_rV (fun v21 =>
          Q (Sum.inl none) v21) (fun E v9 => Q (Sum.inr E) v9))) (fun E v9 => Q (Sum.inr E) v9))) (fun E v9 => Q (Sum.inr E) v9))) ∧
  (((s0 : Int32).toInt < 1 ∨ 7 < (s0 : Int32).toInt) →
    gd_C g mX7_refuse 2 0 0 [zR 7 0, zI 1] v (gd_rV (fun v23 =>
      Q (Sum.inl none) v23) (fun E v9 => Q (Sum.inr E) v9)))
theorem w_X7_readLine_26 {g : ab_E} {d : Nat} {b c : Nat} {s0 : Int32} {v : gd_D} {Q : ab_O → gd_D → Prop} (hd : 41 ≤ d) (h : wp_X7_readLine_26 g d b c s0 v Q) : gd_G g mX7_readLine d b c 26 [(0, zR 7 0)] [zI s0] v Q := by
  unfold wp_X7_readLine_26 at h
  rcases sw_1_7 s0 with hc | hc | hc | hc | hc | hc | hc | hc
  · refine gd_tableIn (off := 42) (tgt := 68) dX7_readLine_26 (by rw [hc]; decide) (by rw [hc]; decide) (by rw [hc]; decide) (by decide) ?_
    have h := h.1 hc
    refine gd_aload_n 0 dX7_readLine_68 rfl rfl ?_
    refine gd_callVV (As := []) (rest := []) (dy := 4) (my := 0) (sy := 0) (k := 7) (i := 0) lX7_151 iX7_readDealer sX7_readDealer rfl dX7_readLine_69 rfl rfl (gd_room (by omega) (by decide)) ⟨Nat.zero_le _, Nat.zero_le _⟩ (Nat.le_of_ble_eq_true rfl) h (fun v1 h => ?_)
    refine gd_goto (tgt := 180) dX7_readLine_72 (by decide) ?_
    exact gd_vret dX7_readLine_180 rfl h
  · refine gd_tableIn (off := 49) (tgt := 75) dX7_readLine_26 (by rw [hc]; decide) (by rw [hc]; decide) (by rw [hc]; decide) (by decide) ?_
    have h := h.2.1 hc
    refine gd_aload_n 0 dX7_readLine_75 rfl rfl ?_
    refine gd_callVV (As := []) (rest := []) (dy := 4) (my := 0) (sy := 0) (k := 7) (i := 0) lX7_154 iX7_readSale sX7_readSale rfl dX7_readLine_76 rfl rfl (gd_room (by omega) (by decide)) ⟨Nat.zero_le _, Nat.zero_le _⟩ (Nat.le_of_ble_eq_true rfl) h (fun v3 h => ?_)
    refine gd_goto (tgt := 180) dX7_readLine_79 (by decide) ?_
    exact gd_vret dX7_readLine_180 rfl h
  · refine gd_tableIn (off := 56) (tgt := 82) dX7_readLine_26 (by rw [hc]; decide) (by rw [hc]; decide) (by rw [hc]; decide) (by decide) ?_
    have h := h.2.2.1 hc
    refine gd_aload_n 0 dX7_readLine_82 rfl rfl ?_
    refine gd_getR (x := 0) (kr := 2) fX7_18 rfl rfl dX7_readLine_83 rfl ?_
    refine gd_aload_n 0 dX7_readLine_86 rfl rfl ?_
    refine gd_iconst (x9 := 3) dX7_readLine_87 (by decide) ?_
    refine gd_iconst (x9 := 0) dX7_readLine_88 (by decide) ?_
    refine gd_sipush (x9 := 999) dX7_readLine_89 (by decide) ?_
    refine gd_callVI (As := [zI 3, zI 0, zI 999]) (rest := [zR 2 0]) (dy := 4) (my := 0) (sy := 0) (k := 7) (i := 0) lX7_157 iX7_readOnce sX7_readOnce rfl dX7_readLine_92 rfl rfl (gd_room (by omega) (by decide)) ⟨Nat.zero_le _, Nat.zero_le _⟩ (Nat.le_of_ble_eq_true rfl) h (fun r6 v5 h => ?_)
    refine gd_putIn fX7_161 rfl rfl dX7_readLine_95 (fun v7 ev7 => ?_)
    have h := h v7 ev7
    refine gd_goto (tgt := 180) dX7_readLine_98 (by decide) ?_
    exact gd_vret dX7_readLine_180 rfl h
  · refine gd_tableIn (off := 75) (tgt := 101) dX7_readLine_26 (by rw [hc]; decide) (by rw [hc]; decide) (by rw [hc]; decide) (by decide) ?_
    have h := h.2.2.2.1 hc
    refine gd_aload_n 0 dX7_readLine_101 rfl rfl ?_
    refine gd_getR (x := 0) (kr := 2) fX7_18 rfl rfl dX7_readLine_102 rfl ?_
    refine gd_aload_n 0 dX7_readLine_105 rfl rfl ?_
    refine gd_iconst (x9 := 4) dX7_readLine_106 (by decide) ?_
    refine gd_iconst (x9 := 1) dX7_readLine_107 (by decide) ?_
    refine gd_bipush (x9 := 100) dX7_readLine_108 (by decide) ?_
    refine gd_callVI (As := [zI 4, zI 1, zI 100]) (rest := [zR 2 0]) (dy := 4) (my := 0) (sy := 0) (k := 7) (i := 0) lX7_157 iX7_readOnce sX7_readOnce rfl dX7_readLine_110 rfl rfl (gd_room (by omega) (by decide)) ⟨Nat.zero_le _, Nat.zero_le _⟩ (Nat.le_of_ble_eq_true rfl) h (fun r9 v8 h => ?_)
    refine gd_putIn fX7_163 rfl rfl dX7_readLine_113 (fun v10 ev10 => ?_)
    have h := h v10 ev10
    refine gd_goto (tgt := 180) dX7_readLine_116 (by decide) ?_
    exact gd_vret dX7_readLine_180 rfl h
  · refine gd_tableIn (off := 93) (tgt := 119) dX7_readLine_26 (by rw [hc]; decide) (by rw [hc]; decide) (by rw [hc]; decide) (by decide) ?_
    have h := h.2.2.2.2.1 hc
    refine gd_aload_n 0 dX7_readLine_119 rfl rfl ?_
    refine gd_getR (x := 0) (kr := 2) fX7_18 rfl rfl dX7_readLine_120 rfl ?_
    refine gd_aload_n 0 dX7_readLine_123 rfl rfl ?_
    refine gd_iconst (x9 := 5) dX7_readLine_124 (by decide) ?_
    refine gd_iconst (x9 := 0) dX7_readLine_125 (by decide) ?_
    refine gd_bipush (x9 := 30) dX7_readLine_126 (by decide) ?_
    refine gd_callVI (As := [zI 5, zI 0, zI 30]) (rest := [zR 2 0]) (dy := 4) (my := 0) (sy := 0) (k := 7) (i := 0) lX7_157 iX7_readOnce sX7_readOnce rfl dX7_readLine_128 rfl rfl (gd_room (by omega) (by decide)) ⟨Nat.zero_le _, Nat.zero_le _⟩ (Nat.le_of_ble_eq_true rfl) h (fun r12 v11 h => ?_)
    refine gd_putIn fX7_165 rfl rfl dX7_readLine_131 (fun v13 ev13 => ?_)
    have h := h v13 ev13
    refine gd_goto (tgt := 180) dX7_readLine_134 (by decide) ?_
    exact gd_vret dX7_readLine_180 rfl h
  · refine gd_tableIn (off := 111) (tgt := 137) dX7_readLine_26 (by rw [hc]; decide) (by rw [hc]; decide) (by rw [hc]; decide) (by decide) ?_
    have h := h.2.2.2.2.2.1 hc
    refine gd_aload_n 0 dX7_readLine_137 rfl rfl ?_
    refine gd_getR (x := 0) (kr := 2) fX7_18 rfl rfl dX7_readLine_138 rfl ?_
    refine gd_aload_n 0 dX7_readLine_141 rfl rfl ?_
    refine gd_bipush (x9 := 6) dX7_readLine_142 (by decide) ?_
    refine gd_iconst (x9 := 1) dX7_readLine_144 (by decide) ?_
    refine gd_sipush (x9 := 10000) dX7_readLine_145 (by decide) ?_
    refine gd_callVI (As := [zI 6, zI 1, zI 10000]) (rest := [zR 2 0]) (dy := 4) (my := 0) (sy := 0) (k := 7) (i := 0) lX7_157 iX7_readOnce sX7_readOnce rfl dX7_readLine_148 rfl rfl (gd_room (by omega) (by decide)) ⟨Nat.zero_le _, Nat.zero_le _⟩ (Nat.le_of_ble_eq_true rfl) h (fun r15 v14 h => ?_)
    refine gd_putIn fX7_168 rfl rfl dX7_readLine_151 (fun v16 ev16 => ?_)
    have h := h v16 ev16
    refine gd_goto (tgt := 180) dX7_readLine_154 (by decide) ?_
    exact gd_vret dX7_readLine_180 rfl h
  · refine gd_tableIn (off := 131) (tgt := 157) dX7_readLine_26 (by rw [hc]; decide) (by rw [hc]; decide) (by rw [hc]; decide) (by decide) ?_
    have h := h.2.2.2.2.2.2.1 hc
    refine gd_aload_n 0 dX7_readLine_157 rfl rfl ?_
    refine gd_bipush (x9 := 7) dX7_readLine_158 (by decide) ?_
    refine gd_callVV (As := [zI 7]) (rest := []) (dy := 3) (my := 0) (sy := 0) (k := 7) (i := 0) lX7_170 iX7_takeOnce sX7_takeOnce rfl dX7_readLine_160 rfl rfl (gd_room (by omega) (by decide)) ⟨Nat.zero_le _, Nat.zero_le _⟩ (Nat.le_of_ble_eq_true rfl) h (fun v17 h => ?_)
    refine gd_aload_n 0 dX7_readLine_163 rfl rfl ?_
    refine gd_iconst (x9 := 0) dX7_readLine_164 (by decide) ?_
    refine gd_callVV (As := [zI 0]) (rest := []) (dy := 40) (my := 0) (sy := 0) (k := 7) (i := 0) lX7_173 iX7_readSum sX7_readSum rfl dX7_readLine_165 rfl rfl (gd_room (by omega) (by decide)) ⟨Nat.zero_le _, Nat.zero_le _⟩ (Nat.le_of_ble_eq_true rfl) h (fun v19 h => ?_)
    refine gd_aload_n 0 dX7_readLine_168 rfl rfl ?_
    obtain ⟨my, sy, hb, h⟩ := h
    refine gd_callVV (As := []) (rest := []) (dy := 4) (my := my) (sy := sy) (k := 7) (i := 0) lX7_176 iX7_keepRule sX7_keepRule rfl dX7_readLine_169 rfl rfl (gd_room (by omega) (by decide)) hb (Nat.le_of_ble_eq_true rfl) h (fun v21 h => ?_)
    refine gd_goto (tgt := 180) dX7_readLine_172 (by decide) ?_
    exact gd_vret dX7_readLine_180 rfl h
  · refine gd_tableOut (tgt := 175) dX7_readLine_26 hc (by decide) ?_
    have h := h.2.2.2.2.2.2.2 hc
    refine gd_aload_n 0 dX7_readLine_175 rfl rfl ?_
    refine gd_iconst (x9 := 1) dX7_readLine_176 (by decide) ?_
    refine gd_callVV (As := [zI 1]) (rest := []) (dy := 2) (my := 0) (sy := 0) (k := 7) (i := 0) lX7_179 iX7_refuse sX7_refuse rfl dX7_readLine_177 rfl rfl (gd_room (by omega) (by decide)) ⟨Nat.zero_le _, Nat.zero_le _⟩ (Nat.le_of_ble_eq_true rfl) h (fun v23 h => ?_)
    exact gd_vret dX7_readLine_180 rfl h
def wp_X7_readLine (g : ab_E) (d : Nat) (b c : Nat) (v : gd_D) (Q : ab_O → gd_D → Prop) : Prop :=
  vp_in (v.1 7 0 11) 501 ∧
  ((¬ (v.1 32 0 (v.1 7 0 11 : Int32).toNatClampNeg : Int32) = 1) →
    wp_X7_readLine_26 g d b c 0 v Q) ∧
  (((v.1 32 0 (v.1 7 0 11 : Int32).toNatClampNeg : Int32) = 1) →
    vp_in (v.1 7 0 11) 501 ∧
    wp_X7_readLine_26 g d b c (v.1 34 0 (v.1 7 0 11 : Int32).toNatClampNeg) v Q)
theorem w_X7_readLine {g : ab_E} {d : Nat} {b c : Nat} {v : gd_D} {Q : ab_O → gd_D → Prop} (hd : 41 ≤ d) (h : wp_X7_readLine g d b c v Q) : gd_G g mX7_readLine d b c 0 [(0, zR 7 0)] [] v Q := by
  unfold wp_X7_readLine at h
  refine gd_aload_n 0 dX7_readLine_0 rfl rfl ?_
  refine gd_getR (x := 0) (kr := 32) fX7_22 rfl rfl dX7_readLine_1 rfl ?_
  refine gd_aload_n 0 dX7_readLine_4 rfl rfl ?_
  refine gd_getI fX7_55 rfl dX7_readLine_5 ?_
  obtain ⟨hb, h⟩ := h
  refine gd_iaload (n := 501) (by decide) rfl dX7_readLine_8 rfl hb ?_
  refine gd_iconst (x9 := 1) dX7_readLine_9 (by decide) ?_
  refine gd_icmp_ne (tgt := 25) dX7_readLine_10 (by decide) (fun hc => ?_) (fun hc => ?_)
  · have h := h.1 hc
    refine gd_iconst (x9 := 0) dX7_readLine_25 (by decide) ?_
    exact w_X7_readLine_26 (by omega) h
  · have h := h.2 hc
    refine gd_aload_n 0 dX7_readLine_13 rfl rfl ?_
    refine gd_getR (x := 0) (kr := 34) fX7_29 rfl rfl dX7_readLine_14 rfl ?_
    refine gd_aload_n 0 dX7_readLine_17 rfl rfl ?_
    refine gd_getI fX7_55 rfl dX7_readLine_18 ?_
    obtain ⟨hb, h⟩ := h
    refine gd_iaload (n := 501) (by decide) rfl dX7_readLine_21 rfl hb ?_
    refine gd_goto (tgt := 26) dX7_readLine_22 (by decide) ?_
    exact w_X7_readLine_26 (by omega) h
theorem c_X7_readLine {g : ab_E} {d : Nat} {b c : Nat} {v : gd_D} {Q : ab_O → gd_D → Prop} (hd : 41 ≤ d) (h : wp_X7_readLine g d b c v Q) : gd_C g mX7_readLine d b c [zR 7 0] v Q := gd_enterF (plainFor_of_name (by decide)) (Nat.le_of_ble_eq_true rfl) rfl (w_X7_readLine hd h)
def wp_X7_readDealer (g : ab_E) (d : Nat) (v : gd_D) (Q : ab_O → gd_D → Prop) : Prop :=
  (((v.1 2 0 2 : Int32) < 8) →
    gd_C g mX7_advance 2 0 0 [zR 7 0] v (gd_rV (fun v1 =>
      gd_C g mX7_takeNumber 3 0 0 [zR 7 0, zI 0, zI 9999, zI (-1)] v1 (gd_rI (fun (r4 : Int32) v3 =>
        ((¬ (v3.1 7 0 3 : Int32) = 0) →
          Q (Sum.inl none) v3) ∧
        (((v3.1 7 0 3 : Int32) = 0) →
          gd_C g mX2_addDealer 3 0 0 [zR 2 0, zI r4] v3 (gd_rV (fun v5 =>
            Q (Sum.inl none) v5) (fun E v9 => Q (Sum.inr E) v9)))) (fun E v9 => Q (Sum.inr E) v9))) (fun E v9 => Q (Sum.inr E) v9))) ∧
  ((¬ (v.1 2 0 2 : Int32) < 8) →
    gd_C g mX7_refuse 2 0 0 [zR 7 0, zI 3] v (gd_rV (fun v7 =>
      Q (Sum.inl none) v7) (fun E v9 => Q (Sum.inr E) v9)))
theorem w_X7_readDealer {g : ab_E} {d : Nat} {v : gd_D} {Q : ab_O → gd_D → Prop} (hd : 4 ≤ d) (h : wp_X7_readDealer g d v Q) : gd_G g mX7_readDealer d 0 0 0 [(0, zR 7 0)] [] v Q := by
  unfold wp_X7_readDealer at h
  refine gd_aload_n 0 dX7_readDealer_0 rfl rfl ?_
  refine gd_getR (x := 0) (kr := 2) fX7_18 rfl rfl dX7_readDealer_1 rfl ?_
  refine gd_getI fX7_182 rfl dX7_readDealer_4 ?_
  refine gd_bipush (x9 := 8) dX7_readDealer_7 (by decide) ?_
  refine gd_icmp_lt (tgt := 18) dX7_readDealer_9 (by decide) (fun hc => ?_) (fun hc => ?_)
  · have h := h.1 hc
    refine gd_aload_n 0 dX7_readDealer_18 rfl rfl ?_
    refine gd_callVV (As := []) (rest := []) (dy := 2) (my := 0) (sy := 0) (k := 7) (i := 0) lX7_185 iX7_advance sX7_advance rfl dX7_readDealer_19 rfl rfl (gd_room (by omega) (by decide)) (by decide) (Nat.le_of_ble_eq_true rfl) h (fun v1 h => ?_)
    refine gd_aload_n 0 dX7_readDealer_22 rfl rfl ?_
    refine gd_iconst (x9 := 0) dX7_readDealer_23 (by decide) ?_
    refine gd_sipush (x9 := 9999) dX7_readDealer_24 (by decide) ?_
    refine gd_iconst (x9 := (-1)) dX7_readDealer_27 (by decide) ?_
    refine gd_callVI (As := [zI 0, zI 9999, zI (-1)]) (rest := []) (dy := 3) (my := 0) (sy := 0) (k := 7) (i := 0) lX7_188 iX7_takeNumber sX7_takeNumber rfl dX7_readDealer_28 rfl rfl (gd_room (by omega) (by decide)) (by decide) (Nat.le_of_ble_eq_true rfl) h (fun r4 v3 h => ?_)
    refine gd_istore_n (L' := [(1, zI r4), (0, zR 7 0)]) dX7_readDealer_31 rfl (by decide) rfl ?_
    refine gd_aload_n 1 dX7_readDealer_32 rfl rfl ?_
    refine gd_getI fX7_49 rfl dX7_readDealer_33 ?_
    refine gd_if_ne (tgt := 47) dX7_readDealer_36 (by decide) (fun hc => ?_) (fun hc => ?_)
    · have h := h.1 hc
      exact gd_vret dX7_readDealer_47 rfl h
    · have h := h.2 hc
      refine gd_aload_n 1 dX7_readDealer_39 rfl rfl ?_
      refine gd_getR (x := 0) (kr := 2) fX7_18 rfl rfl dX7_readDealer_40 rfl ?_
      refine gd_iload_n 0 dX7_readDealer_43 rfl rfl ?_
      refine gd_callVV (As := [zI r4]) (rest := []) (dy := 3) (my := 0) (sy := 0) (k := 2) (i := 0) lX7_191 iX2_addDealer sX2_addDealer rfl dX7_readDealer_44 rfl rfl (gd_room (by omega) (by decide)) (by decide) (Nat.le_of_ble_eq_true rfl) h (fun v5 h => ?_)
      exact gd_vret dX7_readDealer_47 rfl h
  · have h := h.2 hc
    refine gd_aload_n 0 dX7_readDealer_12 rfl rfl ?_
    refine gd_iconst (x9 := 3) dX7_readDealer_13 (by decide) ?_
    refine gd_callVV (As := [zI 3]) (rest := []) (dy := 2) (my := 0) (sy := 0) (k := 7) (i := 0) lX7_179 iX7_refuse sX7_refuse rfl dX7_readDealer_14 rfl rfl (gd_room (by omega) (by decide)) (by decide) (Nat.le_of_ble_eq_true rfl) h (fun v7 h => ?_)
    exact gd_vret dX7_readDealer_17 rfl h
theorem c_X7_readDealer {g : ab_E} {d : Nat} {v : gd_D} {Q : ab_O → gd_D → Prop} (hd : 4 ≤ d) (h : wp_X7_readDealer g d v Q) : gd_C g mX7_readDealer d 0 0 [zR 7 0] v Q := gd_enterF (plainFor_of_name (by decide)) (Nat.le_of_ble_eq_true rfl) rfl (w_X7_readDealer hd h)
def wp_X7_readSale (g : ab_E) (d : Nat) (v : gd_D) (Q : ab_O → gd_D → Prop) : Prop :=
  (((v.1 2 0 3 : Int32) < 24) →
    gd_C g mX7_advance 2 0 0 [zR 7 0] v (gd_rV (fun v1 =>
      gd_C g mX7_takeNumber 3 0 0 [zR 7 0, zI 0, zI ((v1.1 2 0 2) - 1), zI (-1)] v1 (gd_rI (fun (r4 : Int32) v3 =>
        gd_C g mX7_takeNumber 3 0 0 [zR 7 0, zI 0, zI ((v3.1 2 0 2) - 1), zI r4] v3 (gd_rI (fun (r6 : Int32) v5 =>
          gd_C g mX7_takeNumber 3 0 0 [zR 7 0, zI 1, zI 1000, zI (-1)] v5 (gd_rI (fun (r8 : Int32) v7 =>
            gd_C g mX7_takeNumber 3 0 0 [zR 7 0, zI 1, zI 10000, zI (-1)] v7 (gd_rI (fun (r10 : Int32) v9 =>
              gd_C g mX7_takeNumber 3 0 0 [zR 7 0, zI 0, zI 999, zI (-1)] v9 (gd_rI (fun (r12 : Int32) v11 =>
                ((¬ (v11.1 7 0 3 : Int32) = 0) →
                  Q (Sum.inl none) v11) ∧
                (((v11.1 7 0 3 : Int32) = 0) →
                  gd_C g mX2_addSale 2 0 0 [zR 2 0, zI r4, zI r6, zI r8, zI r10, zI r12] v11 (gd_rV (fun v13 =>
                    Q (Sum.inl none) v13) (fun E v9 => Q (Sum.inr E) v9)))) (fun E v9 => Q (Sum.inr E) v9))) (fun E v9 => Q (Sum.inr E) v9))) (fun E v9 => Q (Sum.inr E) v9))) (fun E v9 => Q (Sum.inr E) v9))) (fun E v9 => Q (Sum.inr E) v9))) (fun E v9 => Q (Sum.inr E) v9))) ∧
  ((¬ (v.1 2 0 3 : Int32) < 24) →
    gd_C g mX7_refuse 2 0 0 [zR 7 0, zI 3] v (gd_rV (fun v15 =>
      Q (Sum.inl none) v15) (fun E v9 => Q (Sum.inr E) v9)))
theorem w_X7_readSale {g : ab_E} {d : Nat} {v : gd_D} {Q : ab_O → gd_D → Prop} (hd : 4 ≤ d) (h : wp_X7_readSale g d v Q) : gd_G g mX7_readSale d 0 0 0 [(0, zR 7 0)] [] v Q := by
  unfold wp_X7_readSale at h
  refine gd_aload_n 0 dX7_readSale_0 rfl rfl ?_
  refine gd_getR (x := 0) (kr := 2) fX7_18 rfl rfl dX7_readSale_1 rfl ?_
  refine gd_getI fX7_194 rfl dX7_readSale_4 ?_
  refine gd_bipush (x9 := 24) dX7_readSale_7 (by decide) ?_
  refine gd_icmp_lt (tgt := 18) dX7_readSale_9 (by decide) (fun hc => ?_) (fun hc => ?_)
  · have h := h.1 hc
    refine gd_aload_n 0 dX7_readSale_18 rfl rfl ?_
    refine gd_callVV (As := []) (rest := []) (dy := 2) (my := 0) (sy := 0) (k := 7) (i := 0) lX7_185 iX7_advance sX7_advance rfl dX7_readSale_19 rfl rfl (gd_room (by omega) (by decide)) (by decide) (Nat.le_of_ble_eq_true rfl) h (fun v1 h => ?_)
    refine gd_aload_n 0 dX7_readSale_22 rfl rfl ?_
    refine gd_iconst (x9 := 0) dX7_readSale_23 (by decide) ?_
    refine gd_aload_n 0 dX7_readSale_24 rfl rfl ?_
    refine gd_getR (x := 0) (kr := 2) fX7_18 rfl rfl dX7_readSale_25 rfl ?_
    refine gd_getI fX7_182 rfl dX7_readSale_28 ?_
    refine gd_iconst (x9 := 1) dX7_readSale_31 (by decide) ?_
    refine gd_isub dX7_readSale_32 ?_
    refine gd_iconst (x9 := (-1)) dX7_readSale_33 (by decide) ?_
    refine gd_callVI (As := [zI 0, zI ((v1.1 2 0 2) - 1), zI (-1)]) (rest := []) (dy := 3) (my := 0) (sy := 0) (k := 7) (i := 0) lX7_188 iX7_takeNumber sX7_takeNumber rfl dX7_readSale_34 rfl rfl (gd_room (by omega) (by decide)) (by decide) (Nat.le_of_ble_eq_true rfl) h (fun r4 v3 h => ?_)
    refine gd_istore_n (L' := [(1, zI r4), (0, zR 7 0)]) dX7_readSale_37 rfl (by decide) rfl ?_
    refine gd_aload_n 1 dX7_readSale_38 rfl rfl ?_
    refine gd_iconst (x9 := 0) dX7_readSale_39 (by decide) ?_
    refine gd_aload_n 1 dX7_readSale_40 rfl rfl ?_
    refine gd_getR (x := 0) (kr := 2) fX7_18 rfl rfl dX7_readSale_41 rfl ?_
    refine gd_getI fX7_182 rfl dX7_readSale_44 ?_
    refine gd_iconst (x9 := 1) dX7_readSale_47 (by decide) ?_
    refine gd_isub dX7_readSale_48 ?_
    refine gd_iload_n 0 dX7_readSale_49 rfl rfl ?_
    refine gd_callVI (As := [zI 0, zI ((v3.1 2 0 2) - 1), zI r4]) (rest := []) (dy := 3) (my := 0) (sy := 0) (k := 7) (i := 0) lX7_188 iX7_takeNumber sX7_takeNumber rfl dX7_readSale_50 rfl rfl (gd_room (by omega) (by decide)) (by decide) (Nat.le_of_ble_eq_true rfl) h (fun r6 v5 h => ?_)
    refine gd_istore_n (L' := [(2, zI r6), (1, zI r4), (0, zR 7 0)]) dX7_readSale_53 rfl (by decide) rfl ?_
    refine gd_aload_n 2 dX7_readSale_54 rfl rfl ?_
    refine gd_iconst (x9 := 1) dX7_readSale_55 (by decide) ?_
    refine gd_sipush (x9 := 1000) dX7_readSale_56 (by decide) ?_
    refine gd_iconst (x9 := (-1)) dX7_readSale_59 (by decide) ?_
    refine gd_callVI (As := [zI 1, zI 1000, zI (-1)]) (rest := []) (dy := 3) (my := 0) (sy := 0) (k := 7) (i := 0) lX7_188 iX7_takeNumber sX7_takeNumber rfl dX7_readSale_60 rfl rfl (gd_room (by omega) (by decide)) (by decide) (Nat.le_of_ble_eq_true rfl) h (fun r8 v7 h => ?_)
    refine gd_istore_n (L' := [(3, zI r8), (2, zI r6), (1, zI r4), (0, zR 7 0)]) dX7_readSale_63 rfl (by decide) rfl ?_
    refine gd_aload_n 3 dX7_readSale_64 rfl rfl ?_
    refine gd_iconst (x9 := 1) dX7_readSale_65 (by decide) ?_
    refine gd_sipush (x9 := 10000) dX7_readSale_66 (by decide) ?_
    refine gd_iconst (x9 := (-1)) dX7_readSale_69 (by decide) ?_
    refine gd_callVI (As := [zI 1, zI 10000, zI (-1)]) (rest := []) (dy := 3) (my := 0) (sy := 0) (k := 7) (i := 0) lX7_188 iX7_takeNumber sX7_takeNumber rfl dX7_readSale_70 rfl rfl (gd_room (by omega) (by decide)) (by decide) (Nat.le_of_ble_eq_true rfl) h (fun r10 v9 h => ?_)
    refine gd_istore (L' := [(4, zI r10), (3, zI r8), (2, zI r6), (1, zI r4), (0, zR 7 0)]) dX7_readSale_73 (by decide) rfl ?_
    refine gd_aload_n 4 dX7_readSale_75 rfl rfl ?_
    refine gd_iconst (x9 := 0) dX7_readSale_76 (by decide) ?_
    refine gd_sipush (x9 := 999) dX7_readSale_77 (by decide) ?_
    refine gd_iconst (x9 := (-1)) dX7_readSale_80 (by decide) ?_
    refine gd_callVI (As := [zI 0, zI 999, zI (-1)]) (rest := []) (dy := 3) (my := 0) (sy := 0) (k := 7) (i := 0) lX7_188 iX7_takeNumber sX7_takeNumber rfl dX7_readSale_81 rfl rfl (gd_room (by omega) (by decide)) (by decide) (Nat.le_of_ble_eq_true rfl) h (fun r12 v11 h => ?_)
    refine gd_istore (L' := [(5, zI r12), (4, zI r10), (3, zI r8), (2, zI r6), (1, zI r4), (0, zR 7 0)]) dX7_readSale_84 (by decide) rfl ?_
    refine gd_aload_n 5 dX7_readSale_86 rfl rfl ?_
    refine gd_getI fX7_49 rfl dX7_readSale_87 ?_
    refine gd_if_ne (tgt := 107) dX7_readSale_90 (by decide) (fun hc => ?_) (fun hc => ?_)
    · have h := h.1 hc
      exact gd_vret dX7_readSale_107 rfl h
    · have h := h.2 hc
      refine gd_aload_n 5 dX7_readSale_93 rfl rfl ?_
      refine gd_getR (x := 0) (kr := 2) fX7_18 rfl rfl dX7_readSale_94 rfl ?_
      refine gd_iload_n 4 dX7_readSale_97 rfl rfl ?_
      refine gd_iload_n 3 dX7_readSale_98 rfl rfl ?_
      refine gd_iload_n 2 dX7_readSale_99 rfl rfl ?_
      refine gd_iload 1 dX7_readSale_100 rfl ?_
      refine gd_iload 0 dX7_readSale_102 rfl ?_
      refine gd_callVV (As := [zI r4, zI r6, zI r8, zI r10, zI r12]) (rest := []) (dy := 2) (my := 0) (sy := 0) (k := 2) (i := 0) lX7_197 iX2_addSale sX2_addSale rfl dX7_readSale_104 rfl rfl (gd_room (by omega) (by decide)) (by decide) (Nat.le_of_ble_eq_true rfl) h (fun v13 h => ?_)
      exact gd_vret dX7_readSale_107 rfl h
  · have h := h.2 hc
    refine gd_aload_n 0 dX7_readSale_12 rfl rfl ?_
    refine gd_iconst (x9 := 3) dX7_readSale_13 (by decide) ?_
    refine gd_callVV (As := [zI 3]) (rest := []) (dy := 2) (my := 0) (sy := 0) (k := 7) (i := 0) lX7_179 iX7_refuse sX7_refuse rfl dX7_readSale_14 rfl rfl (gd_room (by omega) (by decide)) (by decide) (Nat.le_of_ble_eq_true rfl) h (fun v15 h => ?_)
    exact gd_vret dX7_readSale_17 rfl h
theorem c_X7_readSale {g : ab_E} {d : Nat} {v : gd_D} {Q : ab_O → gd_D → Prop} (hd : 4 ≤ d) (h : wp_X7_readSale g d v Q) : gd_C g mX7_readSale d 0 0 [zR 7 0] v Q := gd_enterF (plainFor_of_name (by decide)) (Nat.le_of_ble_eq_true rfl) rfl (w_X7_readSale hd h)
def wp_X7_readOnce (g : ab_E) (d : Nat) (a1 : Int32) (a2 : Int32) (a3 : Int32) (v : gd_D) (Q : ab_O → gd_D → Prop) : Prop :=
  gd_C g mX7_takeOnce 3 0 0 [zR 7 0, zI a1] v (gd_rV (fun v1 =>
    gd_C g mX7_takeNumber 3 0 0 [zR 7 0, zI a2, zI a3, zI (-1)] v1 (gd_rI (fun (r4 : Int32) v3 =>
      Q (Sum.inl (some (zI r4))) v3) (fun E v9 => Q (Sum.inr E) v9))) (fun E v9 => Q (Sum.inr E) v9))
theorem w_X7_readOnce {g : ab_E} {d : Nat} {a1 : Int32} {a2 : Int32} {a3 : Int32} {v : gd_D} {Q : ab_O → gd_D → Prop} (hd : 4 ≤ d) (h : wp_X7_readOnce g d a1 a2 a3 v Q) : gd_G g mX7_readOnce d 0 0 0 [(0, zR 7 0), (1, zI a1), (2, zI a2), (3, zI a3)] [] v Q := by
  unfold wp_X7_readOnce at h
  refine gd_aload_n 0 dX7_readOnce_0 rfl rfl ?_
  refine gd_iload_n 1 dX7_readOnce_1 rfl rfl ?_
  refine gd_callVV (As := [zI a1]) (rest := []) (dy := 3) (my := 0) (sy := 0) (k := 7) (i := 0) lX7_170 iX7_takeOnce sX7_takeOnce rfl dX7_readOnce_2 rfl rfl (gd_room (by omega) (by decide)) (by decide) (Nat.le_of_ble_eq_true rfl) h (fun v1 h => ?_)
  refine gd_aload_n 0 dX7_readOnce_5 rfl rfl ?_
  refine gd_iload_n 2 dX7_readOnce_6 rfl rfl ?_
  refine gd_iload_n 3 dX7_readOnce_7 rfl rfl ?_
  refine gd_iconst (x9 := (-1)) dX7_readOnce_8 (by decide) ?_
  refine gd_callVI (As := [zI a2, zI a3, zI (-1)]) (rest := []) (dy := 3) (my := 0) (sy := 0) (k := 7) (i := 0) lX7_188 iX7_takeNumber sX7_takeNumber rfl dX7_readOnce_9 rfl rfl (gd_room (by omega) (by decide)) (by decide) (Nat.le_of_ble_eq_true rfl) h (fun r4 v3 h => ?_)
  exact gd_iret (ty := .int) dX7_readOnce_12 rfl rfl h
theorem c_X7_readOnce {g : ab_E} {d : Nat} {a1 : Int32} {a2 : Int32} {a3 : Int32} {v : gd_D} {Q : ab_O → gd_D → Prop} (hd : 4 ≤ d) (h : wp_X7_readOnce g d a1 a2 a3 v Q) : gd_C g mX7_readOnce d 0 0 [zR 7 0, zI a1, zI a2, zI a3] v Q := gd_enterF (plainFor_of_name (by decide)) (Nat.le_of_ble_eq_true rfl) rfl (w_X7_readOnce hd h)
def wp_X7_takeOnce (g : ab_E) (d : Nat) (a1 : Int32) (v : gd_D) (Q : ab_O → gd_D → Prop) : Prop :=
  (((((v.1 7 0 12) >>> (a1 &&& 31)) &&& 1 : Int32) = 0) →
    ∀ v1 : gd_D, v1 = gd_sI v 7 0 12 ((v.1 7 0 12) ||| (1 <<< (a1 &&& 31))) →
    gd_C g mX7_advance 2 0 0 [zR 7 0] v1 (gd_rV (fun v2 =>
      Q (Sum.inl none) v2) (fun E v9 => Q (Sum.inr E) v9))) ∧
  ((¬ (((v.1 7 0 12) >>> (a1 &&& 31)) &&& 1 : Int32) = 0) →
    gd_C g mX7_refuse 2 0 0 [zR 7 0, zI 1] v (gd_rV (fun v4 =>
      Q (Sum.inl none) v4) (fun E v9 => Q (Sum.inr E) v9)))
theorem w_X7_takeOnce {g : ab_E} {d : Nat} {a1 : Int32} {v : gd_D} {Q : ab_O → gd_D → Prop} (hd : 3 ≤ d) (h : wp_X7_takeOnce g d a1 v Q) : gd_G g mX7_takeOnce d 0 0 0 [(0, zR 7 0), (1, zI a1)] [] v Q := by
  unfold wp_X7_takeOnce at h
  refine gd_aload_n 0 dX7_takeOnce_0 rfl rfl ?_
  refine gd_getI fX7_58 rfl dX7_takeOnce_1 ?_
  refine gd_iload_n 1 dX7_takeOnce_4 rfl rfl ?_
  refine gd_ishr dX7_takeOnce_5 ?_
  refine gd_iconst (x9 := 1) dX7_takeOnce_6 (by decide) ?_
  refine gd_iand dX7_takeOnce_7 ?_
  refine gd_if_eq (tgt := 17) dX7_takeOnce_8 (by decide) (fun hc => ?_) (fun hc => ?_)
  · have h := h.1 hc
    refine gd_aload_n 0 dX7_takeOnce_17 rfl rfl ?_
    refine gd_dup dX7_takeOnce_18 rfl ?_
    refine gd_getI fX7_58 rfl dX7_takeOnce_19 ?_
    refine gd_iconst (x9 := 1) dX7_takeOnce_22 (by decide) ?_
    refine gd_iload_n 1 dX7_takeOnce_23 rfl rfl ?_
    refine gd_ishl dX7_takeOnce_24 ?_
    refine gd_ior dX7_takeOnce_25 ?_
    refine gd_putIn fX7_58 rfl rfl dX7_takeOnce_26 (fun v1 ev1 => ?_)
    have h := h v1 ev1
    refine gd_aload_n 0 dX7_takeOnce_29 rfl rfl ?_
    refine gd_callVV (As := []) (rest := []) (dy := 2) (my := 0) (sy := 0) (k := 7) (i := 0) lX7_185 iX7_advance sX7_advance rfl dX7_takeOnce_30 rfl rfl (gd_room (by omega) (by decide)) (by decide) (Nat.le_of_ble_eq_true rfl) h (fun v2 h => ?_)
    exact gd_vret dX7_takeOnce_33 rfl h
  · have h := h.2 hc
    refine gd_aload_n 0 dX7_takeOnce_11 rfl rfl ?_
    refine gd_iconst (x9 := 1) dX7_takeOnce_12 (by decide) ?_
    refine gd_callVV (As := [zI 1]) (rest := []) (dy := 2) (my := 0) (sy := 0) (k := 7) (i := 0) lX7_179 iX7_refuse sX7_refuse rfl dX7_takeOnce_13 rfl rfl (gd_room (by omega) (by decide)) (by decide) (Nat.le_of_ble_eq_true rfl) h (fun v4 h => ?_)
    exact gd_vret dX7_takeOnce_16 rfl h
theorem c_X7_takeOnce {g : ab_E} {d : Nat} {a1 : Int32} {v : gd_D} {Q : ab_O → gd_D → Prop} (hd : 3 ≤ d) (h : wp_X7_takeOnce g d a1 v Q) : gd_C g mX7_takeOnce d 0 0 [zR 7 0, zI a1] v Q := gd_enterF (plainFor_of_name (by decide)) (Nat.le_of_ble_eq_true rfl) rfl (w_X7_takeOnce hd h)
def wp_X7_keepRule (g : ab_E) (d : Nat) (b c : Nat) (v : gd_D) (Q : ab_O → gd_D → Prop) : Prop :=
  ((¬ (v.1 7 0 3 : Int32) = 0) →
    Q (Sum.inl none) v) ∧
  (((v.1 7 0 3 : Int32) = 0) →
    (1 ≤ b ∧ 500 ≤ c) ∧
    gd_C g mJ7_copyOf_59c91 3 1 500 [zR 35 0, zI (v.1 7 0 9)] v (gd_rR 15 (fun (r2 : Nat) v1 =>
      ∀ v3 : gd_D, v3 = gd_sC v1 0 r2 →
      Q (Sum.inl none) v3) (fun E v9 => Q (Sum.inr E) v9)))
theorem w_X7_keepRule {g : ab_E} {d : Nat} {b c : Nat} {v : gd_D} {Q : ab_O → gd_D → Prop} (hd : 4 ≤ d) (h : wp_X7_keepRule g d b c v Q) : gd_G g mX7_keepRule d b c 0 [(0, zR 7 0)] [] v Q := by
  unfold wp_X7_keepRule at h
  refine gd_aload_n 0 dX7_keepRule_0 rfl rfl ?_
  refine gd_getI fX7_49 rfl dX7_keepRule_1 ?_
  refine gd_if_ne (tgt := 25) dX7_keepRule_4 (by decide) (fun hc => ?_) (fun hc => ?_)
  · have h := h.1 hc
    exact gd_vret dX7_keepRule_25 rfl h
  · have h := h.2 hc
    refine gd_aload_n 0 dX7_keepRule_7 rfl rfl ?_
    refine gd_getR (x := 0) (kr := 2) fX7_18 rfl rfl dX7_keepRule_8 rfl ?_
    refine gd_aload_n 0 dX7_keepRule_11 rfl rfl ?_
    refine gd_getR (x := 0) (kr := 35) fX7_32 rfl rfl dX7_keepRule_12 rfl ?_
    refine gd_aload_n 0 dX7_keepRule_15 rfl rfl ?_
    refine gd_getI fX7_61 rfl dX7_keepRule_16 ?_
    obtain ⟨hb, h⟩ := h
    refine gd_callSR (As := [zR 35 0, zI (v.1 7 0 9)]) (rest := [zR 2 0]) (dy := 3) (my := 1) (sy := 500) lX7_201 tJ7_copyOf_59c91 dX7_keepRule_19 rfl rfl (gd_room (by omega) (by decide)) hb (Nat.le_of_ble_eq_true rfl) h (fun r2 v1 h => ?_)
    refine gd_putCn fX7_207 dX7_keepRule_22 (fun v3 ev3 => ?_)
    have h := h v3 ev3
    exact gd_vret dX7_keepRule_25 rfl h
theorem c_X7_keepRule {g : ab_E} {d : Nat} {b c : Nat} {v : gd_D} {Q : ab_O → gd_D → Prop} (hd : 4 ≤ d) (h : wp_X7_keepRule g d b c v Q) : gd_C g mX7_keepRule d b c [zR 7 0] v Q := gd_enterF (plainFor_of_name (by decide)) (Nat.le_of_ble_eq_true rfl) rfl (w_X7_keepRule hd h)
def wp_X7_readSum (g : ab_E) (d : Nat) (e : Nat) (a1 : Int32) (v : gd_D) (Q : ab_O → gd_D → Prop) : Prop :=
  gd_C g mX7_readProduct e 0 0 [zR 7 0, zI a1] v (gd_rV (fun v1 =>
    gd_G g mX7_readSum d 0 0 7 [(0, zR 7 0), (1, zI a1), (2, zI 0)] [] v1 Q) (fun E v9 => Q (Sum.inr E) v9))
theorem w_X7_readSum {g : ab_E} {d : Nat} {e : Nat} {a1 : Int32} {v : gd_D} {Q : ab_O → gd_D → Prop} (he : e + 1 ≤ d) (hd : 0 ≤ d) (h : wp_X7_readSum g d e a1 v Q) : gd_G g mX7_readSum d 0 0 0 [(0, zR 7 0), (1, zI a1)] [] v Q := by
  unfold wp_X7_readSum at h
  refine gd_aload_n 0 dX7_readSum_0 rfl rfl ?_
  refine gd_iload_n 1 dX7_readSum_1 rfl rfl ?_
  refine gd_callVV (As := [zI a1]) (rest := []) (dy := e) (my := 0) (sy := 0) (k := 7) (i := 0) lX7_208 iX7_readProduct sX7_readProduct rfl dX7_readSum_2 rfl rfl (gd_room he (by decide)) (by decide) (Nat.le_of_ble_eq_true rfl) h (fun v1 h => ?_)
  refine gd_iconst (x9 := 0) dX7_readSum_5 (by decide) ?_
  refine gd_istore_n (L' := [(2, zI 0), (0, zR 7 0), (1, zI a1)]) dX7_readSum_6 rfl (by decide) rfl ?_
  refine gd_locals [1, 2, 0] rfl ?_
  exact h
def wp_X7_readSum_48 (g : ab_E) (d : Nat) (e : Nat) (a1 : Int32) (a2 : Int32) (s0 : Int32) (v : gd_D) (Q : ab_O → gd_D → Prop) : Prop :=
  gd_C g mX7_advance 2 0 0 [zR 7 0] v (gd_rV (fun v1 =>
    gd_C g mX7_readProduct e 0 0 [zR 7 0, zI a1] v1 (gd_rV (fun v3 =>
      gd_C g mX7_write 2 0 0 [zR 7 0, zI s0] v3 (gd_rV (fun v5 =>
        gd_G g mX7_readSum d 0 0 7 [(0, zR 7 0), (1, zI a1), (2, zI (a2 + 1))] [] v5 Q) (fun E v9 => Q (Sum.inr E) v9))) (fun E v9 => Q (Sum.inr E) v9))) (fun E v9 => Q (Sum.inr E) v9))
theorem w_X7_readSum_48 {g : ab_E} {d : Nat} {e : Nat} {a1 : Int32} {a2 : Int32} {s0 : Int32} {v : gd_D} {Q : ab_O → gd_D → Prop} (he : e + 1 ≤ d) (hd : 3 ≤ d) (h : wp_X7_readSum_48 g d e a1 a2 s0 v Q) : gd_G g mX7_readSum d 0 0 48 [(0, zR 7 0), (1, zI a1), (2, zI a2)] [zI s0] v Q := by
  unfold wp_X7_readSum_48 at h
  refine gd_istore_n (L' := [(3, zI s0), (0, zR 7 0), (1, zI a1), (2, zI a2)]) dX7_readSum_48 rfl (by decide) rfl ?_
  refine gd_aload_n 1 dX7_readSum_49 rfl rfl ?_
  refine gd_callVV (As := []) (rest := []) (dy := 2) (my := 0) (sy := 0) (k := 7) (i := 0) lX7_185 iX7_advance sX7_advance rfl dX7_readSum_50 rfl rfl (gd_room (by omega) (by decide)) (by decide) (Nat.le_of_ble_eq_true rfl) h (fun v1 h => ?_)
  refine gd_aload_n 1 dX7_readSum_53 rfl rfl ?_
  refine gd_iload_n 2 dX7_readSum_54 rfl rfl ?_
  refine gd_callVV (As := [zI a1]) (rest := []) (dy := e) (my := 0) (sy := 0) (k := 7) (i := 0) lX7_208 iX7_readProduct sX7_readProduct rfl dX7_readSum_55 rfl rfl (gd_room he (by decide)) (by decide) (Nat.le_of_ble_eq_true rfl) h (fun v3 h => ?_)
  refine gd_aload_n 1 dX7_readSum_58 rfl rfl ?_
  refine gd_iload_n 0 dX7_readSum_59 rfl rfl ?_
  refine gd_callVV (As := [zI s0]) (rest := []) (dy := 2) (my := 0) (sy := 0) (k := 7) (i := 0) lX7_215 iX7_write sX7_write rfl dX7_readSum_60 rfl rfl (gd_room (by omega) (by decide)) (by decide) (Nat.le_of_ble_eq_true rfl) h (fun v5 h => ?_)
  refine gd_iinc (x9 := a2 + 1) (L' := [(2, zI (a2 + 1)), (3, zI s0), (0, zR 7 0), (1, zI a1)]) 3 dX7_readSum_63 rfl rfl (by decide) rfl ?_
  refine gd_goto (tgt := 7) dX7_readSum_66 (by decide) ?_
  refine gd_locals [2, 3, 0] rfl ?_
  exact h
def wp_X7_readSum_32 (g : ab_E) (d : Nat) (e : Nat) (a1 : Int32) (a2 : Int32) (v : gd_D) (Q : ab_O → gd_D → Prop) : Prop :=
  gd_C g mX7_isNext 2 0 0 [zR 7 0, zI 43] v (gd_rI (fun (r2 : Int32) v1 =>
    (((r2 : Int32) = 0) →
      wp_X7_readSum_48 g d e a1 a2 (-10) v1 Q) ∧
    ((¬ (r2 : Int32) = 0) →
      wp_X7_readSum_48 g d e a1 a2 (-9) v1 Q)) (fun E v9 => Q (Sum.inr E) v9))
theorem w_X7_readSum_32 {g : ab_E} {d : Nat} {e : Nat} {a1 : Int32} {a2 : Int32} {v : gd_D} {Q : ab_O → gd_D → Prop} (he : e + 1 ≤ d) (hd : 3 ≤ d) (h : wp_X7_readSum_32 g d e a1 a2 v Q) : gd_G g mX7_readSum d 0 0 32 [(0, zR 7 0), (1, zI a1), (2, zI a2)] [] v Q := by
  unfold wp_X7_readSum_32 at h
  refine gd_aload_n 0 dX7_readSum_32 rfl rfl ?_
  refine gd_bipush (x9 := 43) dX7_readSum_33 (by decide) ?_
  refine gd_callVI (As := [zI 43]) (rest := []) (dy := 2) (my := 0) (sy := 0) (k := 7) (i := 0) lX7_211 iX7_isNext sX7_isNext rfl dX7_readSum_35 rfl rfl (gd_room (by omega) (by decide)) (by decide) (Nat.le_of_ble_eq_true rfl) h (fun r2 v1 h => ?_)
  refine gd_if_eq (tgt := 46) dX7_readSum_38 (by decide) (fun hc => ?_) (fun hc => ?_)
  · have h := h.1 hc
    refine gd_bipush (x9 := (-10)) dX7_readSum_46 (by decide) ?_
    exact w_X7_readSum_48 he (by omega) h
  · have h := h.2 hc
    refine gd_bipush (x9 := (-9)) dX7_readSum_41 (by decide) ?_
    refine gd_goto (tgt := 48) dX7_readSum_43 (by decide) ?_
    exact w_X7_readSum_48 he (by omega) h
def wp_X7_readSum_7 (g : ab_E) (d : Nat) (e : Nat) (a1 : Int32) (a2 : Int32) (v : gd_D) (Q : ab_O → gd_D → Prop) : Prop :=
  (((500 : Int32) ≤ a2) →
    Q (Sum.inl none) v) ∧
  ((¬ (500 : Int32) ≤ a2) →
    gd_C g mX7_isNext 2 0 0 [zR 7 0, zI 43] v (gd_rI (fun (r2 : Int32) v1 =>
      ((¬ (r2 : Int32) = 0) →
        wp_X7_readSum_32 g d e a1 a2 v1 Q) ∧
      (((r2 : Int32) = 0) →
        gd_C g mX7_isNext 2 0 0 [zR 7 0, zI 45] v1 (gd_rI (fun (r4 : Int32) v3 =>
          (((r4 : Int32) = 0) →
            Q (Sum.inl none) v3) ∧
          ((¬ (r4 : Int32) = 0) →
            wp_X7_readSum_32 g d e a1 a2 v3 Q)) (fun E v9 => Q (Sum.inr E) v9)))) (fun E v9 => Q (Sum.inr E) v9)))
theorem w_X7_readSum_7 {g : ab_E} {d : Nat} {e : Nat} {a1 : Int32} {a2 : Int32} {v : gd_D} {Q : ab_O → gd_D → Prop} (he : e + 1 ≤ d) (hd : 3 ≤ d) (h : wp_X7_readSum_7 g d e a1 a2 v Q) : gd_G g mX7_readSum d 0 0 7 [(0, zR 7 0), (1, zI a1), (2, zI a2)] [] v Q := by
  unfold wp_X7_readSum_7 at h
  refine gd_iload_n 2 dX7_readSum_7 rfl rfl ?_
  refine gd_sipush (x9 := 500) dX7_readSum_8 (by decide) ?_
  refine gd_icmp_ge (tgt := 69) dX7_readSum_11 (by decide) (fun hc => ?_) (fun hc => ?_)
  · have h := h.1 hc
    exact gd_vret dX7_readSum_69 rfl h
  · have h := h.2 hc
    refine gd_aload_n 0 dX7_readSum_14 rfl rfl ?_
    refine gd_bipush (x9 := 43) dX7_readSum_15 (by decide) ?_
    refine gd_callVI (As := [zI 43]) (rest := []) (dy := 2) (my := 0) (sy := 0) (k := 7) (i := 0) lX7_211 iX7_isNext sX7_isNext rfl dX7_readSum_17 rfl rfl (gd_room (by omega) (by decide)) (by decide) (Nat.le_of_ble_eq_true rfl) h (fun r2 v1 h => ?_)
    refine gd_if_ne (tgt := 32) dX7_readSum_20 (by decide) (fun hc => ?_) (fun hc => ?_)
    · have h := h.1 hc
      exact w_X7_readSum_32 he (by omega) h
    · have h := h.2 hc
      refine gd_aload_n 0 dX7_readSum_23 rfl rfl ?_
      refine gd_bipush (x9 := 45) dX7_readSum_24 (by decide) ?_
      refine gd_callVI (As := [zI 45]) (rest := []) (dy := 2) (my := 0) (sy := 0) (k := 7) (i := 0) lX7_211 iX7_isNext sX7_isNext rfl dX7_readSum_26 rfl rfl (gd_room (by omega) (by decide)) (by decide) (Nat.le_of_ble_eq_true rfl) h (fun r4 v3 h => ?_)
      refine gd_if_eq (tgt := 69) dX7_readSum_29 (by decide) (fun hc => ?_) (fun hc => ?_)
      · have h := h.1 hc
        exact gd_vret dX7_readSum_69 rfl h
      · have h := h.2 hc
        exact w_X7_readSum_32 he (by omega) h
theorem c_X7_readSum {g : ab_E} {d : Nat} {e : Nat} {a1 : Int32} {v : gd_D} {Q : ab_O → gd_D → Prop} (he : e + 1 ≤ d) (hd : 0 ≤ d) (h : wp_X7_readSum g d e a1 v Q) : gd_C g mX7_readSum d 0 0 [zR 7 0, zI a1] v Q := gd_enterF (plainFor_of_name (by decide)) (Nat.le_of_ble_eq_true rfl) rfl (w_X7_readSum he hd h)
def wp_X7_readProduct (g : ab_E) (d : Nat) (e : Nat) (a1 : Int32) (v : gd_D) (Q : ab_O → gd_D → Prop) : Prop :=
  gd_C g mX7_readFactor e 0 0 [zR 7 0, zI a1] v (gd_rV (fun v1 =>
    gd_G g mX7_readProduct d 0 0 7 [(0, zR 7 0), (1, zI a1), (2, zI 0)] [] v1 Q) (fun E v9 => Q (Sum.inr E) v9))
theorem w_X7_readProduct {g : ab_E} {d : Nat} {e : Nat} {a1 : Int32} {v : gd_D} {Q : ab_O → gd_D → Prop} (he : e + 1 ≤ d) (hd : 0 ≤ d) (h : wp_X7_readProduct g d e a1 v Q) : gd_G g mX7_readProduct d 0 0 0 [(0, zR 7 0), (1, zI a1)] [] v Q := by
  unfold wp_X7_readProduct at h
  refine gd_aload_n 0 dX7_readProduct_0 rfl rfl ?_
  refine gd_iload_n 1 dX7_readProduct_1 rfl rfl ?_
  refine gd_callVV (As := [zI a1]) (rest := []) (dy := e) (my := 0) (sy := 0) (k := 7) (i := 0) lX7_218 iX7_readFactor sX7_readFactor rfl dX7_readProduct_2 rfl rfl (gd_room he (by decide)) (by decide) (Nat.le_of_ble_eq_true rfl) h (fun v1 h => ?_)
  refine gd_iconst (x9 := 0) dX7_readProduct_5 (by decide) ?_
  refine gd_istore_n (L' := [(2, zI 0), (0, zR 7 0), (1, zI a1)]) dX7_readProduct_6 rfl (by decide) rfl ?_
  refine gd_locals [1, 2, 0] rfl ?_
  exact h
def wp_X7_readProduct_7 (g : ab_E) (d : Nat) (e : Nat) (a1 : Int32) (a2 : Int32) (v : gd_D) (Q : ab_O → gd_D → Prop) : Prop :=
  (((500 : Int32) ≤ a2) →
    Q (Sum.inl none) v) ∧
  ((¬ (500 : Int32) ≤ a2) →
    gd_C g mX7_isNext 2 0 0 [zR 7 0, zI 42] v (gd_rI (fun (r2 : Int32) v1 =>
      (((r2 : Int32) = 0) →
        Q (Sum.inl none) v1) ∧
      ((¬ (r2 : Int32) = 0) →
        gd_C g mX7_advance 2 0 0 [zR 7 0] v1 (gd_rV (fun v3 =>
          gd_C g mX7_readFactor e 0 0 [zR 7 0, zI a1] v3 (gd_rV (fun v5 =>
            gd_C g mX7_write 2 0 0 [zR 7 0, zI (-11)] v5 (gd_rV (fun v7 =>
              gd_G g mX7_readProduct d 0 0 7 [(0, zR 7 0), (1, zI a1), (2, zI (a2 + 1))] [] v7 Q) (fun E v9 => Q (Sum.inr E) v9))) (fun E v9 => Q (Sum.inr E) v9))) (fun E v9 => Q (Sum.inr E) v9)))) (fun E v9 => Q (Sum.inr E) v9)))
theorem w_X7_readProduct_7 {g : ab_E} {d : Nat} {e : Nat} {a1 : Int32} {a2 : Int32} {v : gd_D} {Q : ab_O → gd_D → Prop} (he : e + 1 ≤ d) (hd : 3 ≤ d) (h : wp_X7_readProduct_7 g d e a1 a2 v Q) : gd_G g mX7_readProduct d 0 0 7 [(0, zR 7 0), (1, zI a1), (2, zI a2)] [] v Q := by
  unfold wp_X7_readProduct_7 at h
  refine gd_iload_n 2 dX7_readProduct_7 rfl rfl ?_
  refine gd_sipush (x9 := 500) dX7_readProduct_8 (by decide) ?_
  refine gd_icmp_ge (tgt := 44) dX7_readProduct_11 (by decide) (fun hc => ?_) (fun hc => ?_)
  · have h := h.1 hc
    exact gd_vret dX7_readProduct_44 rfl h
  · have h := h.2 hc
    refine gd_aload_n 0 dX7_readProduct_14 rfl rfl ?_
    refine gd_bipush (x9 := 42) dX7_readProduct_15 (by decide) ?_
    refine gd_callVI (As := [zI 42]) (rest := []) (dy := 2) (my := 0) (sy := 0) (k := 7) (i := 0) lX7_211 iX7_isNext sX7_isNext rfl dX7_readProduct_17 rfl rfl (gd_room (by omega) (by decide)) (by decide) (Nat.le_of_ble_eq_true rfl) h (fun r2 v1 h => ?_)
    refine gd_if_eq (tgt := 44) dX7_readProduct_20 (by decide) (fun hc => ?_) (fun hc => ?_)
    · have h := h.1 hc
      exact gd_vret dX7_readProduct_44 rfl h
    · have h := h.2 hc
      refine gd_aload_n 0 dX7_readProduct_23 rfl rfl ?_
      refine gd_callVV (As := []) (rest := []) (dy := 2) (my := 0) (sy := 0) (k := 7) (i := 0) lX7_185 iX7_advance sX7_advance rfl dX7_readProduct_24 rfl rfl (gd_room (by omega) (by decide)) (by decide) (Nat.le_of_ble_eq_true rfl) h (fun v3 h => ?_)
      refine gd_aload_n 0 dX7_readProduct_27 rfl rfl ?_
      refine gd_iload_n 1 dX7_readProduct_28 rfl rfl ?_
      refine gd_callVV (As := [zI a1]) (rest := []) (dy := e) (my := 0) (sy := 0) (k := 7) (i := 0) lX7_218 iX7_readFactor sX7_readFactor rfl dX7_readProduct_29 rfl rfl (gd_room he (by decide)) (by decide) (Nat.le_of_ble_eq_true rfl) h (fun v5 h => ?_)
      refine gd_aload_n 0 dX7_readProduct_32 rfl rfl ?_
      refine gd_bipush (x9 := (-11)) dX7_readProduct_33 (by decide) ?_
      refine gd_callVV (As := [zI (-11)]) (rest := []) (dy := 2) (my := 0) (sy := 0) (k := 7) (i := 0) lX7_215 iX7_write sX7_write rfl dX7_readProduct_35 rfl rfl (gd_room (by omega) (by decide)) (by decide) (Nat.le_of_ble_eq_true rfl) h (fun v7 h => ?_)
      refine gd_iinc (x9 := a2 + 1) (L' := [(2, zI (a2 + 1)), (0, zR 7 0), (1, zI a1)]) 2 dX7_readProduct_38 rfl rfl (by decide) rfl ?_
      refine gd_goto (tgt := 7) dX7_readProduct_41 (by decide) ?_
      refine gd_locals [1, 2, 0] rfl ?_
      exact h
theorem c_X7_readProduct {g : ab_E} {d : Nat} {e : Nat} {a1 : Int32} {v : gd_D} {Q : ab_O → gd_D → Prop} (he : e + 1 ≤ d) (hd : 0 ≤ d) (h : wp_X7_readProduct g d e a1 v Q) : gd_C g mX7_readProduct d 0 0 [zR 7 0, zI a1] v Q := gd_enterF (plainFor_of_name (by decide)) (Nat.le_of_ble_eq_true rfl) rfl (w_X7_readProduct he hd h)
def wp_X7_readFactor_100 (g : ab_E) (d : Nat) (e : Nat) (a1 : Int32) (v : gd_D) (Q : ab_O → gd_D → Prop) : Prop :=
  (((a1 : Int32) < 5) →
    gd_C g mX7_isNext 2 0 0 [zR 7 0, zI 40] v (gd_rI (fun (r2 : Int32) v1 =>
      (((r2 : Int32) = 0) →
        gd_C g mX7_advance 2 0 0 [zR 7 0] v1 (gd_rV (fun v3 =>
          gd_C g mX7_readFactor e 0 0 [zR 7 0, zI (a1 + 1)] v3 (gd_rV (fun v5 =>
            gd_C g mX7_write 2 0 0 [zR 7 0, zI (-8)] v5 (gd_rV (fun v7 =>
              Q (Sum.inl none) v7) (fun E v9 => Q (Sum.inr E) v9))) (fun E v9 => Q (Sum.inr E) v9))) (fun E v9 => Q (Sum.inr E) v9))) ∧
      ((¬ (r2 : Int32) = 0) →
        gd_C g mX7_advance 2 0 0 [zR 7 0] v1 (gd_rV (fun v9 =>
          gd_C g mX7_readSum e 0 0 [zR 7 0, zI (a1 + 1)] v9 (gd_rV (fun v11 =>
            gd_C g mX7_take 3 0 0 [zR 7 0, zI 41] v11 (gd_rV (fun v13 =>
              Q (Sum.inl none) v13) (fun E v9 => Q (Sum.inr E) v9))) (fun E v9 => Q (Sum.inr E) v9))) (fun E v9 => Q (Sum.inr E) v9)))) (fun E v9 => Q (Sum.inr E) v9))) ∧
  ((¬ (a1 : Int32) < 5) →
    gd_C g mX7_refuse 2 0 0 [zR 7 0, zI 4] v (gd_rV (fun v15 =>
      Q (Sum.inl none) v15) (fun E v9 => Q (Sum.inr E) v9)))
theorem w_X7_readFactor_100 {g : ab_E} {d : Nat} {e : Nat} {a1 : Int32} {v : gd_D} {Q : ab_O → gd_D → Prop} (he : e + 1 ≤ d) (hd : 4 ≤ d) (h : wp_X7_readFactor_100 g d e a1 v Q) : gd_G g mX7_readFactor d 0 0 100 [(0, zR 7 0), (1, zI a1)] [] v Q := by
  unfold wp_X7_readFactor_100 at h
  refine gd_iload_n 1 dX7_readFactor_100 rfl rfl ?_
  refine gd_iconst (x9 := 5) dX7_readFactor_101 (by decide) ?_
  refine gd_icmp_lt (tgt := 113) dX7_readFactor_102 (by decide) (fun hc => ?_) (fun hc => ?_)
  · have h := h.1 hc
    refine gd_aload_n 0 dX7_readFactor_113 rfl rfl ?_
    refine gd_bipush (x9 := 40) dX7_readFactor_114 (by decide) ?_
    refine gd_callVI (As := [zI 40]) (rest := []) (dy := 2) (my := 0) (sy := 0) (k := 7) (i := 0) lX7_211 iX7_isNext sX7_isNext rfl dX7_readFactor_116 rfl rfl (gd_room (by omega) (by decide)) (by decide) (Nat.le_of_ble_eq_true rfl) h (fun r2 v1 h => ?_)
    refine gd_if_eq (tgt := 142) dX7_readFactor_119 (by decide) (fun hc => ?_) (fun hc => ?_)
    · have h := h.1 hc
      refine gd_aload_n 0 dX7_readFactor_142 rfl rfl ?_
      refine gd_callVV (As := []) (rest := []) (dy := 2) (my := 0) (sy := 0) (k := 7) (i := 0) lX7_185 iX7_advance sX7_advance rfl dX7_readFactor_143 rfl rfl (gd_room (by omega) (by decide)) (by decide) (Nat.le_of_ble_eq_true rfl) h (fun v3 h => ?_)
      refine gd_aload_n 0 dX7_readFactor_146 rfl rfl ?_
      refine gd_iload_n 1 dX7_readFactor_147 rfl rfl ?_
      refine gd_iconst (x9 := 1) dX7_readFactor_148 (by decide) ?_
      refine gd_iadd dX7_readFactor_149 ?_
      refine gd_callVV (As := [zI (a1 + 1)]) (rest := []) (dy := e) (my := 0) (sy := 0) (k := 7) (i := 0) lX7_218 iX7_readFactor sX7_readFactor rfl dX7_readFactor_150 rfl rfl (gd_room he (by decide)) (by decide) (Nat.le_of_ble_eq_true rfl) h (fun v5 h => ?_)
      refine gd_aload_n 0 dX7_readFactor_153 rfl rfl ?_
      refine gd_bipush (x9 := (-8)) dX7_readFactor_154 (by decide) ?_
      refine gd_callVV (As := [zI (-8)]) (rest := []) (dy := 2) (my := 0) (sy := 0) (k := 7) (i := 0) lX7_215 iX7_write sX7_write rfl dX7_readFactor_156 rfl rfl (gd_room (by omega) (by decide)) (by decide) (Nat.le_of_ble_eq_true rfl) h (fun v7 h => ?_)
      exact gd_vret dX7_readFactor_159 rfl h
    · have h := h.2 hc
      refine gd_aload_n 0 dX7_readFactor_122 rfl rfl ?_
      refine gd_callVV (As := []) (rest := []) (dy := 2) (my := 0) (sy := 0) (k := 7) (i := 0) lX7_185 iX7_advance sX7_advance rfl dX7_readFactor_123 rfl rfl (gd_room (by omega) (by decide)) (by decide) (Nat.le_of_ble_eq_true rfl) h (fun v9 h => ?_)
      refine gd_aload_n 0 dX7_readFactor_126 rfl rfl ?_
      refine gd_iload_n 1 dX7_readFactor_127 rfl rfl ?_
      refine gd_iconst (x9 := 1) dX7_readFactor_128 (by decide) ?_
      refine gd_iadd dX7_readFactor_129 ?_
      refine gd_callVV (As := [zI (a1 + 1)]) (rest := []) (dy := e) (my := 0) (sy := 0) (k := 7) (i := 0) lX7_173 iX7_readSum sX7_readSum rfl dX7_readFactor_130 rfl rfl (gd_room he (by decide)) (by decide) (Nat.le_of_ble_eq_true rfl) h (fun v11 h => ?_)
      refine gd_aload_n 0 dX7_readFactor_133 rfl rfl ?_
      refine gd_bipush (x9 := 41) dX7_readFactor_134 (by decide) ?_
      refine gd_callVV (As := [zI 41]) (rest := []) (dy := 3) (my := 0) (sy := 0) (k := 7) (i := 0) lX7_70 iX7_take sX7_take rfl dX7_readFactor_136 rfl rfl (gd_room (by omega) (by decide)) (by decide) (Nat.le_of_ble_eq_true rfl) h (fun v13 h => ?_)
      refine gd_goto (tgt := 159) dX7_readFactor_139 (by decide) ?_
      exact gd_vret dX7_readFactor_159 rfl h
  · have h := h.2 hc
    refine gd_aload_n 0 dX7_readFactor_105 rfl rfl ?_
    refine gd_iconst (x9 := 4) dX7_readFactor_106 (by decide) ?_
    refine gd_callVV (As := [zI 4]) (rest := []) (dy := 2) (my := 0) (sy := 0) (k := 7) (i := 0) lX7_179 iX7_refuse sX7_refuse rfl dX7_readFactor_107 rfl rfl (gd_room (by omega) (by decide)) (by decide) (Nat.le_of_ble_eq_true rfl) h (fun v15 h => ?_)
    refine gd_goto (tgt := 159) dX7_readFactor_110 (by decide) ?_
    exact gd_vret dX7_readFactor_159 rfl h
def wp_X7_readFactor_74 (g : ab_E) (d : Nat) (e : Nat) (a1 : Int32) (v : gd_D) (Q : ab_O → gd_D → Prop) : Prop :=
  gd_C g mX7_isNext 2 0 0 [zR 7 0, zI 40] v (gd_rI (fun (r2 : Int32) v1 =>
    ((¬ (r2 : Int32) = 0) →
      wp_X7_readFactor_100 g d e a1 v1 Q) ∧
    (((r2 : Int32) = 0) →
      gd_C g mX7_isNext 2 0 0 [zR 7 0, zI 45] v1 (gd_rI (fun (r4 : Int32) v3 =>
        ((¬ (r4 : Int32) = 0) →
          wp_X7_readFactor_100 g d e a1 v3 Q) ∧
        (((r4 : Int32) = 0) →
          gd_C g mX7_refuse 2 0 0 [zR 7 0, zI 1] v3 (gd_rV (fun v5 =>
            Q (Sum.inl none) v5) (fun E v9 => Q (Sum.inr E) v9)))) (fun E v9 => Q (Sum.inr E) v9)))) (fun E v9 => Q (Sum.inr E) v9))
theorem w_X7_readFactor_74 {g : ab_E} {d : Nat} {e : Nat} {a1 : Int32} {v : gd_D} {Q : ab_O → gd_D → Prop} (he : e + 1 ≤ d) (hd : 4 ≤ d) (h : wp_X7_readFactor_74 g d e a1 v Q) : gd_G g mX7_readFactor d 0 0 74 [(0, zR 7 0), (1, zI a1)] [] v Q := by
  unfold wp_X7_readFactor_74 at h
  refine gd_aload_n 0 dX7_readFactor_74 rfl rfl ?_
  refine gd_bipush (x9 := 40) dX7_readFactor_75 (by decide) ?_
  refine gd_callVI (As := [zI 40]) (rest := []) (dy := 2) (my := 0) (sy := 0) (k := 7) (i := 0) lX7_211 iX7_isNext sX7_isNext rfl dX7_readFactor_77 rfl rfl (gd_room (by omega) (by decide)) (by decide) (Nat.le_of_ble_eq_true rfl) h (fun r2 v1 h => ?_)
  refine gd_if_ne (tgt := 100) dX7_readFactor_80 (by decide) (fun hc => ?_) (fun hc => ?_)
  · have h := h.1 hc
    exact w_X7_readFactor_100 he (by omega) h
  · have h := h.2 hc
    refine gd_aload_n 0 dX7_readFactor_83 rfl rfl ?_
    refine gd_bipush (x9 := 45) dX7_readFactor_84 (by decide) ?_
    refine gd_callVI (As := [zI 45]) (rest := []) (dy := 2) (my := 0) (sy := 0) (k := 7) (i := 0) lX7_211 iX7_isNext sX7_isNext rfl dX7_readFactor_86 rfl rfl (gd_room (by omega) (by decide)) (by decide) (Nat.le_of_ble_eq_true rfl) h (fun r4 v3 h => ?_)
    refine gd_if_ne (tgt := 100) dX7_readFactor_89 (by decide) (fun hc => ?_) (fun hc => ?_)
    · have h := h.1 hc
      exact w_X7_readFactor_100 he (by omega) h
    · have h := h.2 hc
      refine gd_aload_n 0 dX7_readFactor_92 rfl rfl ?_
      refine gd_iconst (x9 := 1) dX7_readFactor_93 (by decide) ?_
      refine gd_callVV (As := [zI 1]) (rest := []) (dy := 2) (my := 0) (sy := 0) (k := 7) (i := 0) lX7_179 iX7_refuse sX7_refuse rfl dX7_readFactor_94 rfl rfl (gd_room (by omega) (by decide)) (by decide) (Nat.le_of_ble_eq_true rfl) h (fun v5 h => ?_)
      refine gd_goto (tgt := 159) dX7_readFactor_97 (by decide) ?_
      exact gd_vret dX7_readFactor_159 rfl h
def wp_X7_readFactor (g : ab_E) (d : Nat) (e : Nat) (a1 : Int32) (v : gd_D) (Q : ab_O → gd_D → Prop) : Prop :=
  vp_in (v.1 7 0 11) 501 ∧
  ((¬ (v.1 32 0 (v.1 7 0 11 : Int32).toNatClampNeg : Int32) = 2) →
    vp_in (v.1 7 0 11) 501 ∧
    ((¬ (v.1 32 0 (v.1 7 0 11 : Int32).toNatClampNeg : Int32) = 1) →
      wp_X7_readFactor_74 g d e a1 v Q) ∧
    (((v.1 32 0 (v.1 7 0 11 : Int32).toNatClampNeg : Int32) = 1) →
      vp_in (v.1 7 0 11) 501 ∧
      (((0 : Int32) ≤ (v.1 34 0 (v.1 7 0 11 : Int32).toNatClampNeg)) →
        wp_X7_readFactor_74 g d e a1 v Q) ∧
      ((¬ (0 : Int32) ≤ (v.1 34 0 (v.1 7 0 11 : Int32).toNatClampNeg)) →
        vp_in (v.1 7 0 11) 501 ∧
        gd_C g mX7_write 2 0 0 [zR 7 0, zI (v.1 34 0 (v.1 7 0 11 : Int32).toNatClampNeg)] v (gd_rV (fun v1 =>
          gd_C g mX7_advance 2 0 0 [zR 7 0] v1 (gd_rV (fun v3 =>
            Q (Sum.inl none) v3) (fun E v9 => Q (Sum.inr E) v9))) (fun E v9 => Q (Sum.inr E) v9))))) ∧
  (((v.1 32 0 (v.1 7 0 11 : Int32).toNatClampNeg : Int32) = 2) →
    gd_C g mX7_takeNumber 3 0 0 [zR 7 0, zI 0, zI 9999, zI (-1)] v (gd_rI (fun (r6 : Int32) v5 =>
      gd_C g mX7_write 2 0 0 [zR 7 0, zI r6] v5 (gd_rV (fun v7 =>
        Q (Sum.inl none) v7) (fun E v9 => Q (Sum.inr E) v9))) (fun E v9 => Q (Sum.inr E) v9)))
theorem w_X7_readFactor {g : ab_E} {d : Nat} {e : Nat} {a1 : Int32} {v : gd_D} {Q : ab_O → gd_D → Prop} (he : e + 1 ≤ d) (hd : 4 ≤ d) (h : wp_X7_readFactor g d e a1 v Q) : gd_G g mX7_readFactor d 0 0 0 [(0, zR 7 0), (1, zI a1)] [] v Q := by
  unfold wp_X7_readFactor at h
  refine gd_aload_n 0 dX7_readFactor_0 rfl rfl ?_
  refine gd_getR (x := 0) (kr := 32) fX7_22 rfl rfl dX7_readFactor_1 rfl ?_
  refine gd_aload_n 0 dX7_readFactor_4 rfl rfl ?_
  refine gd_getI fX7_55 rfl dX7_readFactor_5 ?_
  obtain ⟨hb, h⟩ := h
  refine gd_iaload (n := 501) (by decide) rfl dX7_readFactor_8 rfl hb ?_
  refine gd_iconst (x9 := 2) dX7_readFactor_9 (by decide) ?_
  refine gd_icmp_ne (tgt := 29) dX7_readFactor_10 (by decide) (fun hc => ?_) (fun hc => ?_)
  · have h := h.1 hc
    refine gd_aload_n 0 dX7_readFactor_29 rfl rfl ?_
    refine gd_getR (x := 0) (kr := 32) fX7_22 rfl rfl dX7_readFactor_30 rfl ?_
    refine gd_aload_n 0 dX7_readFactor_33 rfl rfl ?_
    refine gd_getI fX7_55 rfl dX7_readFactor_34 ?_
    obtain ⟨hb, h⟩ := h
    refine gd_iaload (n := 501) (by decide) rfl dX7_readFactor_37 rfl hb ?_
    refine gd_iconst (x9 := 1) dX7_readFactor_38 (by decide) ?_
    refine gd_icmp_ne (tgt := 74) dX7_readFactor_39 (by decide) (fun hc => ?_) (fun hc => ?_)
    · have h := h.1 hc
      exact w_X7_readFactor_74 he (by omega) h
    · have h := h.2 hc
      refine gd_aload_n 0 dX7_readFactor_42 rfl rfl ?_
      refine gd_getR (x := 0) (kr := 34) fX7_29 rfl rfl dX7_readFactor_43 rfl ?_
      refine gd_aload_n 0 dX7_readFactor_46 rfl rfl ?_
      refine gd_getI fX7_55 rfl dX7_readFactor_47 ?_
      obtain ⟨hb, h⟩ := h
      refine gd_iaload (n := 501) (by decide) rfl dX7_readFactor_50 rfl hb ?_
      refine gd_if_ge (tgt := 74) dX7_readFactor_51 (by decide) (fun hc => ?_) (fun hc => ?_)
      · have h := h.1 hc
        exact w_X7_readFactor_74 he (by omega) h
      · have h := h.2 hc
        refine gd_aload_n 0 dX7_readFactor_54 rfl rfl ?_
        refine gd_aload_n 0 dX7_readFactor_55 rfl rfl ?_
        refine gd_getR (x := 0) (kr := 34) fX7_29 rfl rfl dX7_readFactor_56 rfl ?_
        refine gd_aload_n 0 dX7_readFactor_59 rfl rfl ?_
        refine gd_getI fX7_55 rfl dX7_readFactor_60 ?_
        obtain ⟨hb, h⟩ := h
        refine gd_iaload (n := 501) (by decide) rfl dX7_readFactor_63 rfl hb ?_
        refine gd_callVV (As := [zI (v.1 34 0 (v.1 7 0 11 : Int32).toNatClampNeg)]) (rest := []) (dy := 2) (my := 0) (sy := 0) (k := 7) (i := 0) lX7_215 iX7_write sX7_write rfl dX7_readFactor_64 rfl rfl (gd_room (by omega) (by decide)) (by decide) (Nat.le_of_ble_eq_true rfl) h (fun v1 h => ?_)
        refine gd_aload_n 0 dX7_readFactor_67 rfl rfl ?_
        refine gd_callVV (As := []) (rest := []) (dy := 2) (my := 0) (sy := 0) (k := 7) (i := 0) lX7_185 iX7_advance sX7_advance rfl dX7_readFactor_68 rfl rfl (gd_room (by omega) (by decide)) (by decide) (Nat.le_of_ble_eq_true rfl) h (fun v3 h => ?_)
        refine gd_goto (tgt := 159) dX7_readFactor_71 (by decide) ?_
        exact gd_vret dX7_readFactor_159 rfl h
  · have h := h.2 hc
    refine gd_aload_n 0 dX7_readFactor_13 rfl rfl ?_
    refine gd_aload_n 0 dX7_readFactor_14 rfl rfl ?_
    refine gd_iconst (x9 := 0) dX7_readFactor_15 (by decide) ?_
    refine gd_sipush (x9 := 9999) dX7_readFactor_16 (by decide) ?_
    refine gd_iconst (x9 := (-1)) dX7_readFactor_19 (by decide) ?_
    refine gd_callVI (As := [zI 0, zI 9999, zI (-1)]) (rest := [zR 7 0]) (dy := 3) (my := 0) (sy := 0) (k := 7) (i := 0) lX7_188 iX7_takeNumber sX7_takeNumber rfl dX7_readFactor_20 rfl rfl (gd_room (by omega) (by decide)) (by decide) (Nat.le_of_ble_eq_true rfl) h (fun r6 v5 h => ?_)
    refine gd_callVV (As := [zI r6]) (rest := []) (dy := 2) (my := 0) (sy := 0) (k := 7) (i := 0) lX7_215 iX7_write sX7_write rfl dX7_readFactor_23 rfl rfl (gd_room (by omega) (by decide)) (by decide) (Nat.le_of_ble_eq_true rfl) h (fun v7 h => ?_)
    refine gd_goto (tgt := 159) dX7_readFactor_26 (by decide) ?_
    exact gd_vret dX7_readFactor_159 rfl h
theorem c_X7_readFactor {g : ab_E} {d : Nat} {e : Nat} {a1 : Int32} {v : gd_D} {Q : ab_O → gd_D → Prop} (he : e + 1 ≤ d) (hd : 4 ≤ d) (h : wp_X7_readFactor g d e a1 v Q) : gd_C g mX7_readFactor d 0 0 [zR 7 0, zI a1] v Q := gd_enterF (plainFor_of_name (by decide)) (Nat.le_of_ble_eq_true rfl) rfl (w_X7_readFactor he hd h)
def wp_X7_write (g : ab_E) (d : Nat) (a1 : Int32) (v : gd_D) (Q : ab_O → gd_D → Prop) : Prop :=
  ((¬ (v.1 7 0 3 : Int32) = 0) →
    Q (Sum.inl none) v) ∧
  (((v.1 7 0 3 : Int32) = 0) →
    (((500 : Int32) ≤ (v.1 7 0 9)) →
      Q (Sum.inl none) v) ∧
    ((¬ (500 : Int32) ≤ (v.1 7 0 9)) →
      vp_in (v.1 7 0 9) 500 ∧
      ∀ v1 : gd_D, v1 = gd_sI v 35 0 ((v.1 7 0 9 : Int32).toNatClampNeg) a1 →
      ∀ v2 : gd_D, v2 = gd_sI v1 7 0 9 ((v1.1 7 0 9) + 1) →
      Q (Sum.inl none) v2))
theorem w_X7_write {g : ab_E} {d : Nat} {a1 : Int32} {v : gd_D} {Q : ab_O → gd_D → Prop} (hd : 0 ≤ d) (h : wp_X7_write g d a1 v Q) : gd_G g mX7_write d 0 0 0 [(0, zR 7 0), (1, zI a1)] [] v Q := by
  unfold wp_X7_write at h
  refine gd_aload_n 0 dX7_write_0 rfl rfl ?_
  refine gd_getI fX7_49 rfl dX7_write_1 ?_
  refine gd_if_ne (tgt := 37) dX7_write_4 (by decide) (fun hc => ?_) (fun hc => ?_)
  · have h := h.1 hc
    exact gd_vret dX7_write_37 rfl h
  · have h := h.2 hc
    refine gd_aload_n 0 dX7_write_7 rfl rfl ?_
    refine gd_getI fX7_61 rfl dX7_write_8 ?_
    refine gd_sipush (x9 := 500) dX7_write_11 (by decide) ?_
    refine gd_icmp_ge (tgt := 37) dX7_write_14 (by decide) (fun hc => ?_) (fun hc => ?_)
    · have h := h.1 hc
      exact gd_vret dX7_write_37 rfl h
    · have h := h.2 hc
      refine gd_aload_n 0 dX7_write_17 rfl rfl ?_
      refine gd_getR (x := 0) (kr := 35) fX7_32 rfl rfl dX7_write_18 rfl ?_
      refine gd_aload_n 0 dX7_write_21 rfl rfl ?_
      refine gd_getI fX7_61 rfl dX7_write_22 ?_
      refine gd_iload_n 1 dX7_write_25 rfl rfl ?_
      obtain ⟨hb, h⟩ := h
      refine gd_iastoren (n := 500) (by decide) rfl rfl dX7_write_26 rfl hb (fun v1 ev1 => ?_)
      have h := h v1 ev1
      refine gd_aload_n 0 dX7_write_27 rfl rfl ?_
      refine gd_dup dX7_write_28 rfl ?_
      refine gd_getI fX7_61 rfl dX7_write_29 ?_
      refine gd_iconst (x9 := 1) dX7_write_32 (by decide) ?_
      refine gd_iadd dX7_write_33 ?_
      refine gd_putIn fX7_61 rfl rfl dX7_write_34 (fun v2 ev2 => ?_)
      have h := h v2 ev2
      exact gd_vret dX7_write_37 rfl h
theorem c_X7_write {g : ab_E} {d : Nat} {a1 : Int32} {v : gd_D} {Q : ab_O → gd_D → Prop} (hd : 0 ≤ d) (h : wp_X7_write g d a1 v Q) : gd_C g mX7_write d 0 0 [zR 7 0, zI a1] v Q := gd_enterF (plainFor_of_name (by decide)) (Nat.le_of_ble_eq_true rfl) rfl (w_X7_write hd h)
def wp_X7_take (g : ab_E) (d : Nat) (a1 : Int32) (v : gd_D) (Q : ab_O → gd_D → Prop) : Prop :=
  gd_C g mX7_isNext 2 0 0 [zR 7 0, zI a1] v (gd_rI (fun (r2 : Int32) v1 =>
    (((r2 : Int32) = 0) →
      gd_C g mX7_refuse 2 0 0 [zR 7 0, zI 1] v1 (gd_rV (fun v3 =>
        Q (Sum.inl none) v3) (fun E v9 => Q (Sum.inr E) v9))) ∧
    ((¬ (r2 : Int32) = 0) →
      gd_C g mX7_advance 2 0 0 [zR 7 0] v1 (gd_rV (fun v5 =>
        Q (Sum.inl none) v5) (fun E v9 => Q (Sum.inr E) v9)))) (fun E v9 => Q (Sum.inr E) v9))
theorem w_X7_take {g : ab_E} {d : Nat} {a1 : Int32} {v : gd_D} {Q : ab_O → gd_D → Prop} (hd : 3 ≤ d) (h : wp_X7_take g d a1 v Q) : gd_G g mX7_take d 0 0 0 [(0, zR 7 0), (1, zI a1)] [] v Q := by
  unfold wp_X7_take at h
  refine gd_aload_n 0 dX7_take_0 rfl rfl ?_
  refine gd_iload_n 1 dX7_take_1 rfl rfl ?_
  refine gd_callVI (As := [zI a1]) (rest := []) (dy := 2) (my := 0) (sy := 0) (k := 7) (i := 0) lX7_211 iX7_isNext sX7_isNext rfl dX7_take_2 rfl rfl (gd_room (by omega) (by decide)) (by decide) (Nat.le_of_ble_eq_true rfl) h (fun r2 v1 h => ?_)
  refine gd_if_eq (tgt := 15) dX7_take_5 (by decide) (fun hc => ?_) (fun hc => ?_)
  · have h := h.1 hc
    refine gd_aload_n 0 dX7_take_15 rfl rfl ?_
    refine gd_iconst (x9 := 1) dX7_take_16 (by decide) ?_
    refine gd_callVV (As := [zI 1]) (rest := []) (dy := 2) (my := 0) (sy := 0) (k := 7) (i := 0) lX7_179 iX7_refuse sX7_refuse rfl dX7_take_17 rfl rfl (gd_room (by omega) (by decide)) (by decide) (Nat.le_of_ble_eq_true rfl) h (fun v3 h => ?_)
    exact gd_vret dX7_take_20 rfl h
  · have h := h.2 hc
    refine gd_aload_n 0 dX7_take_8 rfl rfl ?_
    refine gd_callVV (As := []) (rest := []) (dy := 2) (my := 0) (sy := 0) (k := 7) (i := 0) lX7_185 iX7_advance sX7_advance rfl dX7_take_9 rfl rfl (gd_room (by omega) (by decide)) (by decide) (Nat.le_of_ble_eq_true rfl) h (fun v5 h => ?_)
    refine gd_goto (tgt := 20) dX7_take_12 (by decide) ?_
    exact gd_vret dX7_take_20 rfl h
theorem c_X7_take {g : ab_E} {d : Nat} {a1 : Int32} {v : gd_D} {Q : ab_O → gd_D → Prop} (hd : 3 ≤ d) (h : wp_X7_take g d a1 v Q) : gd_C g mX7_take d 0 0 [zR 7 0, zI a1] v Q := gd_enterF (plainFor_of_name (by decide)) (Nat.le_of_ble_eq_true rfl) rfl (w_X7_take hd h)
def wp_X7_takeNumber_58 (g : ab_E) (d : Nat) (v : gd_D) (Q : ab_O → gd_D → Prop) : Prop :=
  gd_C g mX7_refuse 2 0 0 [zR 7 0, zI 2] v (gd_rV (fun v1 =>
    Q (Sum.inl (some (zI (-1)))) v1) (fun E v9 => Q (Sum.inr E) v9))
theorem w_X7_takeNumber_58 {g : ab_E} {d : Nat} {v : gd_D} {Q : ab_O → gd_D → Prop} (hd : 3 ≤ d) (h : wp_X7_takeNumber_58 g d v Q) : gd_G g mX7_takeNumber d 0 0 58 [(0, zR 7 0)] [] v Q := by
  unfold wp_X7_takeNumber_58 at h
  refine gd_aload_n 0 dX7_takeNumber_58 rfl rfl ?_
  refine gd_iconst (x9 := 2) dX7_takeNumber_59 (by decide) ?_
  refine gd_callVV (As := [zI 2]) (rest := []) (dy := 2) (my := 0) (sy := 0) (k := 7) (i := 0) lX7_179 iX7_refuse sX7_refuse rfl dX7_takeNumber_60 rfl rfl (gd_room (by omega) (by decide)) (by decide) (Nat.le_of_ble_eq_true rfl) h (fun v1 h => ?_)
  refine gd_iconst (x9 := (-1)) dX7_takeNumber_63 (by decide) ?_
  exact gd_iret (ty := .int) dX7_takeNumber_64 rfl rfl h
def wp_X7_takeNumber (g : ab_E) (d : Nat) (a1 : Int32) (a2 : Int32) (a3 : Int32) (v : gd_D) (Q : ab_O → gd_D → Prop) : Prop :=
  (((v.1 7 0 3 : Int32) = 0) →
    vp_in (v.1 7 0 11) 501 ∧
    vp_in (v.1 7 0 11) 501 ∧
    (((v.1 32 0 (v.1 7 0 11 : Int32).toNatClampNeg : Int32) = 2) →
      (((v.1 34 0 (v.1 7 0 11 : Int32).toNatClampNeg : Int32) < a1) →
        wp_X7_takeNumber_58 g d v Q) ∧
      ((¬ (v.1 34 0 (v.1 7 0 11 : Int32).toNatClampNeg : Int32) < a1) →
        (((a2 : Int32) < (v.1 34 0 (v.1 7 0 11 : Int32).toNatClampNeg)) →
          wp_X7_takeNumber_58 g d v Q) ∧
        ((¬ (a2 : Int32) < (v.1 34 0 (v.1 7 0 11 : Int32).toNatClampNeg)) →
          ((¬ (v.1 34 0 (v.1 7 0 11 : Int32).toNatClampNeg : Int32) = a3) →
            gd_C g mX7_advance 2 0 0 [zR 7 0] v (gd_rV (fun v1 =>
              Q (Sum.inl (some (zI (v.1 34 0 (v.1 7 0 11 : Int32).toNatClampNeg)))) v1) (fun E v9 => Q (Sum.inr E) v9))) ∧
          (((v.1 34 0 (v.1 7 0 11 : Int32).toNatClampNeg : Int32) = a3) →
            wp_X7_takeNumber_58 g d v Q)))) ∧
    ((¬ (v.1 32 0 (v.1 7 0 11 : Int32).toNatClampNeg : Int32) = 2) →
      gd_C g mX7_refuse 2 0 0 [zR 7 0, zI 1] v (gd_rV (fun v3 =>
        Q (Sum.inl (some (zI (-1)))) v3) (fun E v9 => Q (Sum.inr E) v9)))) ∧
  ((¬ (v.1 7 0 3 : Int32) = 0) →
    Q (Sum.inl (some (zI (-1)))) v)
theorem w_X7_takeNumber {g : ab_E} {d : Nat} {a1 : Int32} {a2 : Int32} {a3 : Int32} {v : gd_D} {Q : ab_O → gd_D → Prop} (hd : 3 ≤ d) (h : wp_X7_takeNumber g d a1 a2 a3 v Q) : gd_G g mX7_takeNumber d 0 0 0 [(0, zR 7 0), (1, zI a1), (2, zI a2), (3, zI a3)] [] v Q := by
  unfold wp_X7_takeNumber at h
  refine gd_aload_n 0 dX7_takeNumber_0 rfl rfl ?_
  refine gd_getI fX7_49 rfl dX7_takeNumber_1 ?_
  refine gd_if_eq (tgt := 9) dX7_takeNumber_4 (by decide) (fun hc => ?_) (fun hc => ?_)
  · have h := h.1 hc
    refine gd_aload_n 0 dX7_takeNumber_9 rfl rfl ?_
    refine gd_getR (x := 0) (kr := 34) fX7_29 rfl rfl dX7_takeNumber_10 rfl ?_
    refine gd_aload_n 0 dX7_takeNumber_13 rfl rfl ?_
    refine gd_getI fX7_55 rfl dX7_takeNumber_14 ?_
    obtain ⟨hb, h⟩ := h
    refine gd_iaload (n := 501) (by decide) rfl dX7_takeNumber_17 rfl hb ?_
    refine gd_istore (L' := [(4, zI (v.1 34 0 (v.1 7 0 11 : Int32).toNatClampNeg)), (0, zR 7 0), (1, zI a1), (2, zI a2), (3, zI a3)]) dX7_takeNumber_18 (by decide) rfl ?_
    refine gd_aload_n 1 dX7_takeNumber_20 rfl rfl ?_
    refine gd_getR (x := 0) (kr := 32) fX7_22 rfl rfl dX7_takeNumber_21 rfl ?_
    refine gd_aload_n 1 dX7_takeNumber_24 rfl rfl ?_
    refine gd_getI fX7_55 rfl dX7_takeNumber_25 ?_
    obtain ⟨hb, h⟩ := h
    refine gd_iaload (n := 501) (by decide) rfl dX7_takeNumber_28 rfl hb ?_
    refine gd_iconst (x9 := 2) dX7_takeNumber_29 (by decide) ?_
    refine gd_icmp_eq (tgt := 40) dX7_takeNumber_30 (by decide) (fun hc => ?_) (fun hc => ?_)
    · have h := h.1 hc
      refine gd_iload 0 dX7_takeNumber_40 rfl ?_
      refine gd_iload_n 2 dX7_takeNumber_42 rfl rfl ?_
      refine gd_icmp_lt (tgt := 58) dX7_takeNumber_43 (by decide) (fun hc => ?_) (fun hc => ?_)
      · have h := h.1 hc
        refine gd_locals [1] rfl ?_
        exact w_X7_takeNumber_58 (by omega) h
      · have h := h.2 hc
        refine gd_iload 0 dX7_takeNumber_46 rfl ?_
        refine gd_iload_n 3 dX7_takeNumber_48 rfl rfl ?_
        refine gd_icmp_gt (tgt := 58) dX7_takeNumber_49 (by decide) (fun hc => ?_) (fun hc => ?_)
        · have h := h.1 hc
          refine gd_locals [1] rfl ?_
          exact w_X7_takeNumber_58 (by omega) h
        · have h := h.2 hc
          refine gd_iload 0 dX7_takeNumber_52 rfl ?_
          refine gd_iload_n 4 dX7_takeNumber_54 rfl rfl ?_
          refine gd_icmp_ne (tgt := 65) dX7_takeNumber_55 (by decide) (fun hc => ?_) (fun hc => ?_)
          · have h := h.1 hc
            refine gd_aload_n 1 dX7_takeNumber_65 rfl rfl ?_
            refine gd_callVV (As := []) (rest := []) (dy := 2) (my := 0) (sy := 0) (k := 7) (i := 0) lX7_185 iX7_advance sX7_advance rfl dX7_takeNumber_66 rfl rfl (gd_room (by omega) (by decide)) (by decide) (Nat.le_of_ble_eq_true rfl) h (fun v1 h => ?_)
            refine gd_iload 0 dX7_takeNumber_69 rfl ?_
            exact gd_iret (ty := .int) dX7_takeNumber_71 rfl rfl h
          · have h := h.2 hc
            refine gd_locals [1] rfl ?_
            exact w_X7_takeNumber_58 (by omega) h
    · have h := h.2 hc
      refine gd_aload_n 1 dX7_takeNumber_33 rfl rfl ?_
      refine gd_iconst (x9 := 1) dX7_takeNumber_34 (by decide) ?_
      refine gd_callVV (As := [zI 1]) (rest := []) (dy := 2) (my := 0) (sy := 0) (k := 7) (i := 0) lX7_179 iX7_refuse sX7_refuse rfl dX7_takeNumber_35 rfl rfl (gd_room (by omega) (by decide)) (by decide) (Nat.le_of_ble_eq_true rfl) h (fun v3 h => ?_)
      refine gd_iconst (x9 := (-1)) dX7_takeNumber_38 (by decide) ?_
      exact gd_iret (ty := .int) dX7_takeNumber_39 rfl rfl h
  · have h := h.2 hc
    refine gd_iconst (x9 := (-1)) dX7_takeNumber_7 (by decide) ?_
    exact gd_iret (ty := .int) dX7_takeNumber_8 rfl rfl h
theorem c_X7_takeNumber {g : ab_E} {d : Nat} {a1 : Int32} {a2 : Int32} {a3 : Int32} {v : gd_D} {Q : ab_O → gd_D → Prop} (hd : 3 ≤ d) (h : wp_X7_takeNumber g d a1 a2 a3 v Q) : gd_C g mX7_takeNumber d 0 0 [zR 7 0, zI a1, zI a2, zI a3] v Q := gd_enterF (plainFor_of_name (by decide)) (Nat.le_of_ble_eq_true rfl) rfl (w_X7_takeNumber hd h)
def wp_X7_isNext (g : ab_E) (d : Nat) (a1 : Int32) (v : gd_D) (Q : ab_O → gd_D → Prop) : Prop :=
  ((¬ (v.1 7 0 3 : Int32) = 0) →
    Q (Sum.inl (some (zI 0))) v) ∧
  (((v.1 7 0 3 : Int32) = 0) →
    vp_in (v.1 7 0 11) 501 ∧
    ((¬ (v.1 32 0 (v.1 7 0 11 : Int32).toNatClampNeg : Int32) = 3) →
      Q (Sum.inl (some (zI 0))) v) ∧
    (((v.1 32 0 (v.1 7 0 11 : Int32).toNatClampNeg : Int32) = 3) →
      vp_in (v.1 7 0 11) 501 ∧
      ((¬ (v.1 34 0 (v.1 7 0 11 : Int32).toNatClampNeg : Int32) = a1) →
        Q (Sum.inl (some (zI 0))) v) ∧
      (((v.1 34 0 (v.1 7 0 11 : Int32).toNatClampNeg : Int32) = a1) →
        Q (Sum.inl (some (zI 1))) v)))
theorem w_X7_isNext {g : ab_E} {d : Nat} {a1 : Int32} {v : gd_D} {Q : ab_O → gd_D → Prop} (hd : 0 ≤ d) (h : wp_X7_isNext g d a1 v Q) : gd_G g mX7_isNext d 0 0 0 [(0, zR 7 0), (1, zI a1)] [] v Q := by
  unfold wp_X7_isNext at h
  refine gd_aload_n 0 dX7_isNext_0 rfl rfl ?_
  refine gd_getI fX7_49 rfl dX7_isNext_1 ?_
  refine gd_if_ne (tgt := 37) dX7_isNext_4 (by decide) (fun hc => ?_) (fun hc => ?_)
  · have h := h.1 hc
    refine gd_iconst (x9 := 0) dX7_isNext_37 (by decide) ?_
    exact gd_iret (ty := .boolean) dX7_isNext_38 rfl rfl h
  · have h := h.2 hc
    refine gd_aload_n 0 dX7_isNext_7 rfl rfl ?_
    refine gd_getR (x := 0) (kr := 32) fX7_22 rfl rfl dX7_isNext_8 rfl ?_
    refine gd_aload_n 0 dX7_isNext_11 rfl rfl ?_
    refine gd_getI fX7_55 rfl dX7_isNext_12 ?_
    obtain ⟨hb, h⟩ := h
    refine gd_iaload (n := 501) (by decide) rfl dX7_isNext_15 rfl hb ?_
    refine gd_iconst (x9 := 3) dX7_isNext_16 (by decide) ?_
    refine gd_icmp_ne (tgt := 37) dX7_isNext_17 (by decide) (fun hc => ?_) (fun hc => ?_)
    · have h := h.1 hc
      refine gd_iconst (x9 := 0) dX7_isNext_37 (by decide) ?_
      exact gd_iret (ty := .boolean) dX7_isNext_38 rfl rfl h
    · have h := h.2 hc
      refine gd_aload_n 0 dX7_isNext_20 rfl rfl ?_
      refine gd_getR (x := 0) (kr := 34) fX7_29 rfl rfl dX7_isNext_21 rfl ?_
      refine gd_aload_n 0 dX7_isNext_24 rfl rfl ?_
      refine gd_getI fX7_55 rfl dX7_isNext_25 ?_
      obtain ⟨hb, h⟩ := h
      refine gd_iaload (n := 501) (by decide) rfl dX7_isNext_28 rfl hb ?_
      refine gd_iload_n 1 dX7_isNext_29 rfl rfl ?_
      refine gd_icmp_ne (tgt := 37) dX7_isNext_30 (by decide) (fun hc => ?_) (fun hc => ?_)
      · have h := h.1 hc
        refine gd_iconst (x9 := 0) dX7_isNext_37 (by decide) ?_
        exact gd_iret (ty := .boolean) dX7_isNext_38 rfl rfl h
      · have h := h.2 hc
        refine gd_iconst (x9 := 1) dX7_isNext_33 (by decide) ?_
        refine gd_goto (tgt := 38) dX7_isNext_34 (by decide) ?_
        exact gd_iret (ty := .boolean) dX7_isNext_38 rfl rfl h
theorem c_X7_isNext {g : ab_E} {d : Nat} {a1 : Int32} {v : gd_D} {Q : ab_O → gd_D → Prop} (hd : 0 ≤ d) (h : wp_X7_isNext g d a1 v Q) : gd_C g mX7_isNext d 0 0 [zR 7 0, zI a1] v Q := gd_enterF (plainFor_of_name (by decide)) (Nat.le_of_ble_eq_true rfl) rfl (w_X7_isNext hd h)
def wp_X7_advance (g : ab_E) (d : Nat) (v : gd_D) (Q : ab_O → gd_D → Prop) : Prop :=
  ((¬ (v.1 7 0 3 : Int32) = 0) →
    Q (Sum.inl none) v) ∧
  (((v.1 7 0 3 : Int32) = 0) →
    ((((v.1 7 0 10) - 1 : Int32) ≤ (v.1 7 0 11)) →
      Q (Sum.inl none) v) ∧
    ((¬ ((v.1 7 0 10) - 1 : Int32) ≤ (v.1 7 0 11)) →
      ∀ v1 : gd_D, v1 = gd_sI v 7 0 11 ((v.1 7 0 11) + 1) →
      Q (Sum.inl none) v1))
theorem w_X7_advance {g : ab_E} {d : Nat} {v : gd_D} {Q : ab_O → gd_D → Prop} (hd : 0 ≤ d) (h : wp_X7_advance g d v Q) : gd_G g mX7_advance d 0 0 0 [(0, zR 7 0)] [] v Q := by
  unfold wp_X7_advance at h
  refine gd_aload_n 0 dX7_advance_0 rfl rfl ?_
  refine gd_getI fX7_49 rfl dX7_advance_1 ?_
  refine gd_if_ne (tgt := 30) dX7_advance_4 (by decide) (fun hc => ?_) (fun hc => ?_)
  · have h := h.1 hc
    exact gd_vret dX7_advance_30 rfl h
  · have h := h.2 hc
    refine gd_aload_n 0 dX7_advance_7 rfl rfl ?_
    refine gd_getI fX7_55 rfl dX7_advance_8 ?_
    refine gd_aload_n 0 dX7_advance_11 rfl rfl ?_
    refine gd_getI fX7_74 rfl dX7_advance_12 ?_
    refine gd_iconst (x9 := 1) dX7_advance_15 (by decide) ?_
    refine gd_isub dX7_advance_16 ?_
    refine gd_icmp_ge (tgt := 30) dX7_advance_17 (by decide) (fun hc => ?_) (fun hc => ?_)
    · have h := h.1 hc
      exact gd_vret dX7_advance_30 rfl h
    · have h := h.2 hc
      refine gd_aload_n 0 dX7_advance_20 rfl rfl ?_
      refine gd_dup dX7_advance_21 rfl ?_
      refine gd_getI fX7_55 rfl dX7_advance_22 ?_
      refine gd_iconst (x9 := 1) dX7_advance_25 (by decide) ?_
      refine gd_iadd dX7_advance_26 ?_
      refine gd_putIn fX7_55 rfl rfl dX7_advance_27 (fun v1 ev1 => ?_)
      have h := h v1 ev1
      exact gd_vret dX7_advance_30 rfl h
theorem c_X7_advance {g : ab_E} {d : Nat} {v : gd_D} {Q : ab_O → gd_D → Prop} (hd : 0 ≤ d) (h : wp_X7_advance g d v Q) : gd_C g mX7_advance d 0 0 [zR 7 0] v Q := gd_enterF (plainFor_of_name (by decide)) (Nat.le_of_ble_eq_true rfl) rfl (w_X7_advance hd h)
def wp_X7_refuse (g : ab_E) (d : Nat) (a1 : Int32) (v : gd_D) (Q : ab_O → gd_D → Prop) : Prop :=
  ((¬ (v.1 7 0 3 : Int32) = 0) →
    Q (Sum.inl none) v) ∧
  (((v.1 7 0 3 : Int32) = 0) →
    ∀ v1 : gd_D, v1 = gd_sI v 7 0 3 a1 →
    vp_in (v1.1 7 0 11) 501 ∧
    ∀ v2 : gd_D, v2 = gd_sI v1 7 0 4 (v1.1 33 0 (v1.1 7 0 11 : Int32).toNatClampNeg) →
    Q (Sum.inl none) v2)
theorem w_X7_refuse {g : ab_E} {d : Nat} {a1 : Int32} {v : gd_D} {Q : ab_O → gd_D → Prop} (hd : 0 ≤ d) (h : wp_X7_refuse g d a1 v Q) : gd_G g mX7_refuse d 0 0 0 [(0, zR 7 0), (1, zI a1)] [] v Q := by
  unfold wp_X7_refuse at h
  refine gd_aload_n 0 dX7_refuse_0 rfl rfl ?_
  refine gd_getI fX7_49 rfl dX7_refuse_1 ?_
  refine gd_if_ne (tgt := 25) dX7_refuse_4 (by decide) (fun hc => ?_) (fun hc => ?_)
  · have h := h.1 hc
    exact gd_vret dX7_refuse_25 rfl h
  · have h := h.2 hc
    refine gd_aload_n 0 dX7_refuse_7 rfl rfl ?_
    refine gd_iload_n 1 dX7_refuse_8 rfl rfl ?_
    refine gd_putIn fX7_49 rfl rfl dX7_refuse_9 (fun v1 ev1 => ?_)
    have h := h v1 ev1
    refine gd_aload_n 0 dX7_refuse_12 rfl rfl ?_
    refine gd_aload_n 0 dX7_refuse_13 rfl rfl ?_
    refine gd_getR (x := 0) (kr := 33) fX7_26 rfl rfl dX7_refuse_14 rfl ?_
    refine gd_aload_n 0 dX7_refuse_17 rfl rfl ?_
    refine gd_getI fX7_55 rfl dX7_refuse_18 ?_
    obtain ⟨hb, h⟩ := h
    refine gd_iaload (n := 501) (by decide) rfl dX7_refuse_21 rfl hb ?_
    refine gd_putIn fX7_52 rfl rfl dX7_refuse_22 (fun v2 ev2 => ?_)
    have h := h v2 ev2
    exact gd_vret dX7_refuse_25 rfl h
theorem c_X7_refuse {g : ab_E} {d : Nat} {a1 : Int32} {v : gd_D} {Q : ab_O → gd_D → Prop} (hd : 0 ≤ d) (h : wp_X7_refuse g d a1 v Q) : gd_C g mX7_refuse d 0 0 [zR 7 0, zI a1] v Q := gd_enterF (plainFor_of_name (by decide)) (Nat.le_of_ble_eq_true rfl) rfl (w_X7_refuse hd h)
