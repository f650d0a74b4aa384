def wp_X0_start (g : ab_E) (d : Nat) (a0 : Nat) (a1 : Int32) (v : gd_D) (Q : ab_O → gd_D → Prop) : Prop :=
  ∀ v1 : gd_D, v1 = gd_sI v 0 a0 0 a1 →
  ∀ v2 : gd_D, v2 = gd_sJ v1 0 a0 1 0 →
  ∀ v3 : gd_D, v3 = gd_sJ v2 0 a0 2 0 →
  ∀ v4 : gd_D, v4 = gd_sJ v3 0 a0 3 0 →
  ∀ v5 : gd_D, v5 = gd_sJ v4 0 a0 4 0 →
  ∀ v6 : gd_D, v6 = gd_sI v5 0 a0 5 0 →
  Q (Sum.inl none) v6
theorem w_X0_start {g : ab_E} {d : Nat} {a0 : Nat} {a1 : Int32} {v : gd_D} {Q : ab_O → gd_D → Prop} (hd : 0 ≤ d) (h : wp_X0_start g d a0 a1 v Q) : gd_G g mX0_start d 0 0 0 [(0, zR 0 a0), (1, zI a1)] [] v Q := by
  unfold wp_X0_start at h
  refine gd_aload_n 0 dX0_start_0 rfl rfl ?_
  refine gd_iload_n 1 dX0_start_1 rfl rfl ?_
  refine gd_putIn fX0_7 rfl rfl dX0_start_2 (fun v1 ev1 => ?_)
  have h := h v1 ev1
  refine gd_aload_n 0 dX0_start_5 rfl rfl ?_
  refine gd_lconst (x9 := 0) dX0_start_6 (by decide) ?_
  refine gd_putJn fX0_13 rfl rfl dX0_start_7 (fun v2 ev2 => ?_)
  have h := h v2 ev2
  refine gd_aload_n 0 dX0_start_10 rfl rfl ?_
  refine gd_lconst (x9 := 0) dX0_start_11 (by decide) ?_
  refine gd_putJn fX0_17 rfl rfl dX0_start_12 (fun v3 ev3 => ?_)
  have h := h v3 ev3
  refine gd_aload_n 0 dX0_start_15 rfl rfl ?_
  refine gd_lconst (x9 := 0) dX0_start_16 (by decide) ?_
  refine gd_putJn fX0_20 rfl rfl dX0_start_17 (fun v4 ev4 => ?_)
  have h := h v4 ev4
  refine gd_aload_n 0 dX0_start_20 rfl rfl ?_
  refine gd_lconst (x9 := 0) dX0_start_21 (by decide) ?_
  refine gd_putJn fX0_23 rfl rfl dX0_start_22 (fun v5 ev5 => ?_)
  have h := h v5 ev5
  refine gd_aload_n 0 dX0_start_25 rfl rfl ?_
  refine gd_iconst (x9 := 0) dX0_start_26 (by decide) ?_
  refine gd_putIn fX0_26 rfl rfl dX0_start_27 (fun v6 ev6 => ?_)
  have h := h v6 ev6
  exact gd_vret dX0_start_30 rfl h
theorem c_X0_start {g : ab_E} {d : Nat} {a0 : Nat} {a1 : Int32} {v : gd_D} {Q : ab_O → gd_D → Prop} (hd : 0 ≤ d) (h : wp_X0_start g d a0 a1 v Q) : gd_C g mX0_start d 0 0 [zR 0 a0, zI a1] v Q := gd_enterF (plainFor_of_name (by decide)) (Nat.le_of_ble_eq_true rfl) rfl (w_X0_start hd h)
def wp_X0_copyFrom (g : ab_E) (d : Nat) (a0 : Nat) (a1 : Nat) (v : gd_D) (Q : ab_O → gd_D → Prop) : Prop :=
  ∀ v1 : gd_D, v1 = gd_sI v 0 a0 0 (v.1 0 a1 0) →
  ∀ v2 : gd_D, v2 = gd_sJ v1 0 a0 1 (v1.2.1 0 a1 1) →
  ∀ v3 : gd_D, v3 = gd_sJ v2 0 a0 2 (v2.2.1 0 a1 2) →
  ∀ v4 : gd_D, v4 = gd_sJ v3 0 a0 3 (v3.2.1 0 a1 3) →
  ∀ v5 : gd_D, v5 = gd_sJ v4 0 a0 4 (v4.2.1 0 a1 4) →
  ∀ v6 : gd_D, v6 = gd_sI v5 0 a0 5 (v5.1 0 a1 5) →
  Q (Sum.inl none) v6
theorem w_X0_copyFrom {g : ab_E} {d : Nat} {a0 : Nat} {a1 : Nat} {v : gd_D} {Q : ab_O → gd_D → Prop} (hd : 0 ≤ d) (h : wp_X0_copyFrom g d a0 a1 v Q) : gd_G g mX0_copyFrom d 0 0 0 [(0, zR 0 a0), (1, zR 0 a1)] [] v Q := by
  unfold wp_X0_copyFrom at h
  refine gd_aload_n 0 dX0_copyFrom_0 rfl rfl ?_
  refine gd_aload_n 1 dX0_copyFrom_1 rfl rfl ?_
  refine gd_getI fX0_7 rfl dX0_copyFrom_2 ?_
  refine gd_putIn fX0_7 rfl rfl dX0_copyFrom_5 (fun v1 ev1 => ?_)
  have h := h v1 ev1
  refine gd_aload_n 0 dX0_copyFrom_8 rfl rfl ?_
  refine gd_aload_n 1 dX0_copyFrom_9 rfl rfl ?_
  refine gd_getJ fX0_13 rfl dX0_copyFrom_10 ?_
  refine gd_putJn fX0_13 rfl rfl dX0_copyFrom_13 (fun v2 ev2 => ?_)
  have h := h v2 ev2
  refine gd_aload_n 0 dX0_copyFrom_16 rfl rfl ?_
  refine gd_aload_n 1 dX0_copyFrom_17 rfl rfl ?_
  refine gd_getJ fX0_17 rfl dX0_copyFrom_18 ?_
  refine gd_putJn fX0_17 rfl rfl dX0_copyFrom_21 (fun v3 ev3 => ?_)
  have h := h v3 ev3
  refine gd_aload_n 0 dX0_copyFrom_24 rfl rfl ?_
  refine gd_aload_n 1 dX0_copyFrom_25 rfl rfl ?_
  refine gd_getJ fX0_20 rfl dX0_copyFrom_26 ?_
  refine gd_putJn fX0_20 rfl rfl dX0_copyFrom_29 (fun v4 ev4 => ?_)
  have h := h v4 ev4
  refine gd_aload_n 0 dX0_copyFrom_32 rfl rfl ?_
  refine gd_aload_n 1 dX0_copyFrom_33 rfl rfl ?_
  refine gd_getJ fX0_23 rfl dX0_copyFrom_34 ?_
  refine gd_putJn fX0_23 rfl rfl dX0_copyFrom_37 (fun v5 ev5 => ?_)
  have h := h v5 ev5
  refine gd_aload_n 0 dX0_copyFrom_40 rfl rfl ?_
  refine gd_aload_n 1 dX0_copyFrom_41 rfl rfl ?_
  refine gd_getI fX0_26 rfl dX0_copyFrom_42 ?_
  refine gd_putIn fX0_26 rfl rfl dX0_copyFrom_45 (fun v6 ev6 => ?_)
  have h := h v6 ev6
  exact gd_vret dX0_copyFrom_48 rfl h
theorem c_X0_copyFrom {g : ab_E} {d : Nat} {a0 : Nat} {a1 : Nat} {v : gd_D} {Q : ab_O → gd_D → Prop} (hd : 0 ≤ d) (h : wp_X0_copyFrom g d a0 a1 v Q) : gd_C g mX0_copyFrom d 0 0 [zR 0 a0, zR 0 a1] v Q := gd_enterF (plainFor_of_name (by decide)) (Nat.le_of_ble_eq_true rfl) rfl (w_X0_copyFrom hd h)
def wp_X9_copyFrom (g : ab_E) (d : Nat) (a0 : Nat) (a1 : Nat) (v : gd_D) (Q : ab_O → gd_D → Prop) : Prop :=
  ∀ v1 : gd_D, v1 = gd_sI v 9 a0 0 (v.1 9 a1 0) →
  ∀ v2 : gd_D, v2 = gd_sI v1 9 a0 1 (v1.1 9 a1 1) →
  ∀ v3 : gd_D, v3 = gd_sI v2 9 a0 2 (v2.1 9 a1 2) →
  ∀ v4 : gd_D, v4 = gd_sI v3 9 a0 3 (v3.1 9 a1 3) →
  ∀ v5 : gd_D, v5 = gd_sI v4 9 a0 4 (v4.1 9 a1 4) →
  ∀ v6 : gd_D, v6 = gd_sI v5 9 a0 5 (v5.1 9 a1 5) →
  ∀ v7 : gd_D, v7 = gd_sI v6 9 a0 6 (v6.1 9 a1 6) →
  ∀ v8 : gd_D, v8 = gd_sI v7 9 a0 7 (v7.1 9 a1 7) →
  ∀ v9 : gd_D, v9 = gd_sI v8 9 a0 8 (v8.1 9 a1 8) →
  Q (Sum.inl none) v9
theorem w_X9_copyFrom {g : ab_E} {d : Nat} {a0 : Nat} {a1 : Nat} {v : gd_D} {Q : ab_O → gd_D → Prop} (hd : 0 ≤ d) (h : wp_X9_copyFrom g d a0 a1 v Q) : gd_G g mX9_copyFrom d 0 0 0 [(0, zR 9 a0), (1, zR 9 a1)] [] v Q := by
  unfold wp_X9_copyFrom at h
  refine gd_aload_n 0 dX9_copyFrom_0 rfl rfl ?_
  refine gd_aload_n 1 dX9_copyFrom_1 rfl rfl ?_
  refine gd_getI fX9_7 rfl dX9_copyFrom_2 ?_
  refine gd_putIn fX9_7 rfl rfl dX9_copyFrom_5 (fun v1 ev1 => ?_)
  have h := h v1 ev1
  refine gd_aload_n 0 dX9_copyFrom_8 rfl rfl ?_
  refine gd_aload_n 1 dX9_copyFrom_9 rfl rfl ?_
  refine gd_getI fX9_13 rfl dX9_copyFrom_10 ?_
  refine gd_putIn fX9_13 rfl rfl dX9_copyFrom_13 (fun v2 ev2 => ?_)
  have h := h v2 ev2
  refine gd_aload_n 0 dX9_copyFrom_16 rfl rfl ?_
  refine gd_aload_n 1 dX9_copyFrom_17 rfl rfl ?_
  refine gd_getI fX9_16 rfl dX9_copyFrom_18 ?_
  refine gd_putIn fX9_16 rfl rfl dX9_copyFrom_21 (fun v3 ev3 => ?_)
  have h := h v3 ev3
  refine gd_aload_n 0 dX9_copyFrom_24 rfl rfl ?_
  refine gd_aload_n 1 dX9_copyFrom_25 rfl rfl ?_
  refine gd_getI fX9_19 rfl dX9_copyFrom_26 ?_
  refine gd_putIn fX9_19 rfl rfl dX9_copyFrom_29 (fun v4 ev4 => ?_)
  have h := h v4 ev4
  refine gd_aload_n 0 dX9_copyFrom_32 rfl rfl ?_
  refine gd_aload_n 1 dX9_copyFrom_33 rfl rfl ?_
  refine gd_getI fX9_22 rfl dX9_copyFrom_34 ?_
  refine gd_putIn fX9_22 rfl rfl dX9_copyFrom_37 (fun v5 ev5 => ?_)
  have h := h v5 ev5
  refine gd_aload_n 0 dX9_copyFrom_40 rfl rfl ?_
  refine gd_aload_n 1 dX9_copyFrom_41 rfl rfl ?_
  refine gd_getI fX9_25 rfl dX9_copyFrom_42 ?_
  refine gd_putIn fX9_25 rfl rfl dX9_copyFrom_45 (fun v6 ev6 => ?_)
  have h := h v6 ev6
  refine gd_aload_n 0 dX9_copyFrom_48 rfl rfl ?_
  refine gd_aload_n 1 dX9_copyFrom_49 rfl rfl ?_
  refine gd_getI fX9_28 rfl dX9_copyFrom_50 ?_
  refine gd_putIn fX9_28 rfl rfl dX9_copyFrom_53 (fun v7 ev7 => ?_)
  have h := h v7 ev7
  refine gd_aload_n 0 dX9_copyFrom_56 rfl rfl ?_
  refine gd_aload_n 1 dX9_copyFrom_57 rfl rfl ?_
  refine gd_getI fX9_31 rfl dX9_copyFrom_58 ?_
  refine gd_putIn fX9_31 rfl rfl dX9_copyFrom_61 (fun v8 ev8 => ?_)
  have h := h v8 ev8
  refine gd_aload_n 0 dX9_copyFrom_64 rfl rfl ?_
  refine gd_aload_n 1 dX9_copyFrom_65 rfl rfl ?_
  refine gd_getI fX9_34 rfl dX9_copyFrom_66 ?_
  refine gd_putIn fX9_34 rfl rfl dX9_copyFrom_69 (fun v9 ev9 => ?_)
  have h := h v9 ev9
  exact gd_vret dX9_copyFrom_72 rfl h
theorem c_X9_copyFrom {g : ab_E} {d : Nat} {a0 : Nat} {a1 : Nat} {v : gd_D} {Q : ab_O → gd_D → Prop} (hd : 0 ≤ d) (h : wp_X9_copyFrom g d a0 a1 v Q) : gd_C g mX9_copyFrom d 0 0 [zR 9 a0, zR 9 a1] v Q := gd_enterF (plainFor_of_name (by decide)) (Nat.le_of_ble_eq_true rfl) rfl (w_X9_copyFrom hd h)
def wp_X2_empty (g : ab_E) (d : Nat) (a0 : Nat) (v : gd_D) (Q : ab_O → gd_D → Prop) : Prop :=
  ∀ v1 : gd_D, v1 = gd_sI v 2 a0 2 0 →
  ∀ v2 : gd_D, v2 = gd_sI v1 2 a0 3 0 →
  ∀ v3 : gd_D, v3 = gd_sI v2 2 a0 4 0 →
  ∀ v4 : gd_D, v4 = gd_sI v3 2 a0 5 100 →
  ∀ v5 : gd_D, v5 = gd_sI v4 2 a0 6 0 →
  ∀ v6 : gd_D, v6 = gd_sI v5 2 a0 7 1 →
  ∀ v7 : gd_D, v7 = gd_sI v6 2 a0 8 4 →
  ∀ v8 : gd_D, v8 = gd_sJ v7 2 a0 9 0 →
  0 < v8.2.2.2.1 ∧
  ∀ v9 : gd_D, v9 = gd_sC v8 a0 0 →
  Q (Sum.inl none) v9
theorem w_X2_empty {g : ab_E} {d : Nat} {a0 : Nat} {v : gd_D} {Q : ab_O → gd_D → Prop} (hd : 0 ≤ d) (h : wp_X2_empty g d a0 v Q) : gd_G g mX2_empty d 0 0 0 [(0, zR 2 a0)] [] v Q := by
  unfold wp_X2_empty at h
  refine gd_aload_n 0 dX2_empty_0 rfl rfl ?_
  refine gd_iconst (x9 := 0) dX2_empty_1 (by decide) ?_
  refine gd_putIn fX2_35 rfl rfl dX2_empty_2 (fun v1 ev1 => ?_)
  have h := h v1 ev1
  refine gd_aload_n 0 dX2_empty_5 rfl rfl ?_
  refine gd_iconst (x9 := 0) dX2_empty_6 (by decide) ?_
  refine gd_putIn fX2_39 rfl rfl dX2_empty_7 (fun v2 ev2 => ?_)
  have h := h v2 ev2
  refine gd_aload_n 0 dX2_empty_10 rfl rfl ?_
  refine gd_iconst (x9 := 0) dX2_empty_11 (by decide) ?_
  refine gd_putIn fX2_42 rfl rfl dX2_empty_12 (fun v3 ev3 => ?_)
  have h := h v3 ev3
  refine gd_aload_n 0 dX2_empty_15 rfl rfl ?_
  refine gd_bipush (x9 := 100) dX2_empty_16 (by decide) ?_
  refine gd_putIn fX2_45 rfl rfl dX2_empty_18 (fun v4 ev4 => ?_)
  have h := h v4 ev4
  refine gd_aload_n 0 dX2_empty_21 rfl rfl ?_
  refine gd_iconst (x9 := 0) dX2_empty_22 (by decide) ?_
  refine gd_putIn fX2_48 rfl rfl dX2_empty_23 (fun v5 ev5 => ?_)
  have h := h v5 ev5
  refine gd_aload_n 0 dX2_empty_26 rfl rfl ?_
  refine gd_iconst (x9 := 1) dX2_empty_27 (by decide) ?_
  refine gd_putIn fX2_51 rfl rfl dX2_empty_28 (fun v6 ev6 => ?_)
  have h := h v6 ev6
  refine gd_aload_n 0 dX2_empty_31 rfl rfl ?_
  refine gd_iconst (x9 := 4) dX2_empty_32 (by decide) ?_
  refine gd_putIn fX2_54 rfl rfl dX2_empty_33 (fun v7 ev7 => ?_)
  have h := h v7 ev7
  refine gd_aload_n 0 dX2_empty_36 rfl rfl ?_
  refine gd_lconst (x9 := 0) dX2_empty_37 (by decide) ?_
  refine gd_putJn fX2_57 rfl rfl dX2_empty_38 (fun v8 ev8 => ?_)
  have h := h v8 ev8
  refine gd_aload_n 0 dX2_empty_41 rfl rfl ?_
  obtain ⟨hn, h⟩ := h
  refine gd_norule fX2_23 hn dX2_empty_42 ?_
  refine gd_putCn fX2_27 dX2_empty_45 (fun v9 ev9 => ?_)
  have h := h v9 ev9
  exact gd_vret dX2_empty_48 rfl h
theorem c_X2_empty {g : ab_E} {d : Nat} {a0 : Nat} {v : gd_D} {Q : ab_O → gd_D → Prop} (hd : 0 ≤ d) (h : wp_X2_empty g d a0 v Q) : gd_C g mX2_empty d 0 0 [zR 2 a0] v Q := gd_enterF (plainFor_of_name (by decide)) (Nat.le_of_ble_eq_true rfl) rfl (w_X2_empty hd h)
def wp_X2_copyFrom (g : ab_E) (d : Nat) (a0 : Nat) (a1 : Nat) (v : gd_D) (Q : ab_O → gd_D → Prop) : Prop :=
  ∀ v1 : gd_D, v1 = gd_sI v 2 a0 2 (v.1 2 a1 2) →
  ∀ v2 : gd_D, v2 = gd_sI v1 2 a0 3 (v1.1 2 a1 3) →
  ∀ v3 : gd_D, v3 = gd_sI v2 2 a0 4 (v2.1 2 a1 4) →
  ∀ v4 : gd_D, v4 = gd_sI v3 2 a0 5 (v3.1 2 a1 5) →
  ∀ v5 : gd_D, v5 = gd_sI v4 2 a0 6 (v4.1 2 a1 6) →
  ∀ v6 : gd_D, v6 = gd_sI v5 2 a0 7 (v5.1 2 a1 7) →
  ∀ v7 : gd_D, v7 = gd_sI v6 2 a0 8 (v6.1 2 a1 8) →
  ∀ v8 : gd_D, v8 = gd_sJ v7 2 a0 9 (v7.2.1 2 a1 9) →
  ∀ v9 : gd_D, v9 = gd_sC v8 a0 (v8.2.2.1 a1) →
  gd_G g mX2_copyFrom d 0 0 74 [(0, zR 2 a0), (1, zR 2 a1), (2, zI 0)] [] v9 Q
theorem w_X2_copyFrom {g : ab_E} {d : Nat} {a0 : Nat} {a1 : Nat} {v : gd_D} {Q : ab_O → gd_D → Prop} (hd : 0 ≤ d) (h : wp_X2_copyFrom g d a0 a1 v Q) : gd_G g mX2_copyFrom d 0 0 0 [(0, zR 2 a0), (1, zR 2 a1)] [] v Q := by
  unfold wp_X2_copyFrom at h
  refine gd_aload_n 0 dX2_copyFrom_0 rfl rfl ?_
  refine gd_aload_n 1 dX2_copyFrom_1 rfl rfl ?_
  refine gd_getI fX2_35 rfl dX2_copyFrom_2 ?_
  refine gd_putIn fX2_35 rfl rfl dX2_copyFrom_5 (fun v1 ev1 => ?_)
  have h := h v1 ev1
  refine gd_aload_n 0 dX2_copyFrom_8 rfl rfl ?_
  refine gd_aload_n 1 dX2_copyFrom_9 rfl rfl ?_
  refine gd_getI fX2_39 rfl dX2_copyFrom_10 ?_
  refine gd_putIn fX2_39 rfl rfl dX2_copyFrom_13 (fun v2 ev2 => ?_)
  have h := h v2 ev2
  refine gd_aload_n 0 dX2_copyFrom_16 rfl rfl ?_
  refine gd_aload_n 1 dX2_copyFrom_17 rfl rfl ?_
  refine gd_getI fX2_42 rfl dX2_copyFrom_18 ?_
  refine gd_putIn fX2_42 rfl rfl dX2_copyFrom_21 (fun v3 ev3 => ?_)
  have h := h v3 ev3
  refine gd_aload_n 0 dX2_copyFrom_24 rfl rfl ?_
  refine gd_aload_n 1 dX2_copyFrom_25 rfl rfl ?_
  refine gd_getI fX2_45 rfl dX2_copyFrom_26 ?_
  refine gd_putIn fX2_45 rfl rfl dX2_copyFrom_29 (fun v4 ev4 => ?_)
  have h := h v4 ev4
  refine gd_aload_n 0 dX2_copyFrom_32 rfl rfl ?_
  refine gd_aload_n 1 dX2_copyFrom_33 rfl rfl ?_
  refine gd_getI fX2_48 rfl dX2_copyFrom_34 ?_
  refine gd_putIn fX2_48 rfl rfl dX2_copyFrom_37 (fun v5 ev5 => ?_)
  have h := h v5 ev5
  refine gd_aload_n 0 dX2_copyFrom_40 rfl rfl ?_
  refine gd_aload_n 1 dX2_copyFrom_41 rfl rfl ?_
  refine gd_getI fX2_51 rfl dX2_copyFrom_42 ?_
  refine gd_putIn fX2_51 rfl rfl dX2_copyFrom_45 (fun v6 ev6 => ?_)
  have h := h v6 ev6
  refine gd_aload_n 0 dX2_copyFrom_48 rfl rfl ?_
  refine gd_aload_n 1 dX2_copyFrom_49 rfl rfl ?_
  refine gd_getI fX2_54 rfl dX2_copyFrom_50 ?_
  refine gd_putIn fX2_54 rfl rfl dX2_copyFrom_53 (fun v7 ev7 => ?_)
  have h := h v7 ev7
  refine gd_aload_n 0 dX2_copyFrom_56 rfl rfl ?_
  refine gd_aload_n 1 dX2_copyFrom_57 rfl rfl ?_
  refine gd_getJ fX2_57 rfl dX2_copyFrom_58 ?_
  refine gd_putJn fX2_57 rfl rfl dX2_copyFrom_61 (fun v8 ev8 => ?_)
  have h := h v8 ev8
  refine gd_aload_n 0 dX2_copyFrom_64 rfl rfl ?_
  refine gd_aload_n 1 dX2_copyFrom_65 rfl rfl ?_
  refine gd_getR (x := v8.2.2.1 a1) (kr := 15) fX2_27 rfl rfl dX2_copyFrom_66 rfl ?_
  refine gd_putCn fX2_27 dX2_copyFrom_69 (fun v9 ev9 => ?_)
  have h := h v9 ev9
  refine gd_iconst (x9 := 0) dX2_copyFrom_72 (by decide) ?_
  refine gd_istore_n (L' := [(2, zI 0), (0, zR 2 a0), (1, zR 2 a1)]) dX2_copyFrom_73 rfl (by decide) rfl ?_
  refine gd_locals [1, 2, 0] rfl ?_
  exact h
def wp_X2_copyFrom_74 (g : ab_E) (d : Nat) (a0 : Nat) (a1 : Nat) (a2 : Int32) (v : gd_D) (Q : ab_O → gd_D → Prop) : Prop :=
  (((v.1 2 a0 2 : Int32) ≤ a2) →
    gd_G g mX2_copyFrom d 0 0 105 [(0, zR 2 a0), (1, zR 2 a1), (2, zI 0)] [] v Q) ∧
  ((¬ (v.1 2 a0 2 : Int32) ≤ a2) →
    vp_in a2 8 ∧
    vp_in a2 8 ∧
    gd_C g mX0_copyFrom 2 0 0 [zR 0 (8 * a0 + (a2 : Int32).toNatClampNeg), zR 0 (8 * a1 + (a2 : Int32).toNatClampNeg)] v (gd_rV (fun v1 =>
      gd_G g mX2_copyFrom d 0 0 74 [(0, zR 2 a0), (1, zR 2 a1), (2, zI (a2 + 1))] [] v1 Q) (fun E v9 => Q (Sum.inr E) v9)))
theorem w_X2_copyFrom_74 {g : ab_E} {d : Nat} {a0 : Nat} {a1 : Nat} {a2 : Int32} {v : gd_D} {Q : ab_O → gd_D → Prop} (hd : 3 ≤ d) (h : wp_X2_copyFrom_74 g d a0 a1 a2 v Q) : gd_G g mX2_copyFrom d 0 0 74 [(0, zR 2 a0), (1, zR 2 a1), (2, zI a2)] [] v Q := by
  unfold wp_X2_copyFrom_74 at h
  refine gd_iload_n 2 dX2_copyFrom_74 rfl rfl ?_
  refine gd_aload_n 0 dX2_copyFrom_75 rfl rfl ?_
  refine gd_getI fX2_35 rfl dX2_copyFrom_76 ?_
  refine gd_icmp_ge (tgt := 103) dX2_copyFrom_79 (by decide) (fun hc => ?_) (fun hc => ?_)
  · have h := h.1 hc
    refine gd_iconst (x9 := 0) dX2_copyFrom_103 (by decide) ?_
    refine gd_istore_n (L' := [(2, zI 0), (0, zR 2 a0), (1, zR 2 a1)]) dX2_copyFrom_104 rfl (by decide) rfl ?_
    refine gd_locals [1, 2, 0] rfl ?_
    exact h
  · have h := h.2 hc
    refine gd_aload_n 0 dX2_copyFrom_82 rfl rfl ?_
    refine gd_getR (x := a0) (kr := 13) fX2_11 rfl rfl dX2_copyFrom_83 rfl ?_
    refine gd_iload_n 2 dX2_copyFrom_86 rfl rfl ?_
    obtain ⟨hb, h⟩ := h
    refine gd_aaload (n := 8) (kr := 0) (y := 8 * a0 + (a2 : Int32).toNatClampNeg) (by decide) rfl rfl dX2_copyFrom_87 rfl hb (if_pos (ab_inlt hb)) ?_
    refine gd_aload_n 1 dX2_copyFrom_88 rfl rfl ?_
    refine gd_getR (x := a1) (kr := 13) fX2_11 rfl rfl dX2_copyFrom_89 rfl ?_
    refine gd_iload_n 2 dX2_copyFrom_92 rfl rfl ?_
    obtain ⟨hb, h⟩ := h
    refine gd_aaload (n := 8) (kr := 0) (y := 8 * a1 + (a2 : Int32).toNatClampNeg) (by decide) rfl rfl dX2_copyFrom_93 rfl hb (if_pos (ab_inlt hb)) ?_
    refine gd_callVV (As := [zR 0 (8 * a1 + (a2 : Int32).toNatClampNeg)]) (rest := []) (dy := 2) (my := 0) (sy := 0) (k := 0) (i := 8 * a0 + (a2 : Int32).toNatClampNeg) lX2_61 iX0_copyFrom sX0_copyFrom rfl dX2_copyFrom_94 rfl rfl (gd_room (by omega) (by decide)) (by decide) (Nat.le_of_ble_eq_true rfl) h (fun v1 h => ?_)
    refine gd_iinc (x9 := a2 + 1) (L' := [(2, zI (a2 + 1)), (0, zR 2 a0), (1, zR 2 a1)]) 2 dX2_copyFrom_97 rfl rfl (by decide) rfl ?_
    refine gd_goto (tgt := 74) dX2_copyFrom_100 (by decide) ?_
    refine gd_locals [1, 2, 0] rfl ?_
    exact h
def wp_X2_copyFrom_105 (g : ab_E) (d : Nat) (a0 : Nat) (a1 : Nat) (a2 : Int32) (v : gd_D) (Q : ab_O → gd_D → Prop) : Prop :=
  (((v.1 2 a0 3 : Int32) ≤ a2) →
    Q (Sum.inl none) v) ∧
  ((¬ (v.1 2 a0 3 : Int32) ≤ a2) →
    vp_in a2 24 ∧
    vp_in a2 24 ∧
    gd_C g mX9_copyFrom 2 0 0 [zR 9 (24 * a0 + (a2 : Int32).toNatClampNeg), zR 9 (24 * a1 + (a2 : Int32).toNatClampNeg)] v (gd_rV (fun v1 =>
      gd_G g mX2_copyFrom d 0 0 105 [(0, zR 2 a0), (1, zR 2 a1), (2, zI (a2 + 1))] [] v1 Q) (fun E v9 => Q (Sum.inr E) v9)))
theorem w_X2_copyFrom_105 {g : ab_E} {d : Nat} {a0 : Nat} {a1 : Nat} {a2 : Int32} {v : gd_D} {Q : ab_O → gd_D → Prop} (hd : 3 ≤ d) (h : wp_X2_copyFrom_105 g d a0 a1 a2 v Q) : gd_G g mX2_copyFrom d 0 0 105 [(0, zR 2 a0), (1, zR 2 a1), (2, zI a2)] [] v Q := by
  unfold wp_X2_copyFrom_105 at h
  refine gd_iload_n 2 dX2_copyFrom_105 rfl rfl ?_
  refine gd_aload_n 0 dX2_copyFrom_106 rfl rfl ?_
  refine gd_getI fX2_39 rfl dX2_copyFrom_107 ?_
  refine gd_icmp_ge (tgt := 134) dX2_copyFrom_110 (by decide) (fun hc => ?_) (fun hc => ?_)
  · have h := h.1 hc
    exact gd_vret dX2_copyFrom_134 rfl h
  · have h := h.2 hc
    refine gd_aload_n 0 dX2_copyFrom_113 rfl rfl ?_
    refine gd_getR (x := a0) (kr := 14) fX2_19 rfl rfl dX2_copyFrom_114 rfl ?_
    refine gd_iload_n 2 dX2_copyFrom_117 rfl rfl ?_
    obtain ⟨hb, h⟩ := h
    refine gd_aaload (n := 24) (kr := 9) (y := 24 * a0 + (a2 : Int32).toNatClampNeg) (by decide) rfl rfl dX2_copyFrom_118 rfl hb (if_pos (ab_inlt hb)) ?_
    refine gd_aload_n 1 dX2_copyFrom_119 rfl rfl ?_
    refine gd_getR (x := a1) (kr := 14) fX2_19 rfl rfl dX2_copyFrom_120 rfl ?_
    refine gd_iload_n 2 dX2_copyFrom_123 rfl rfl ?_
    obtain ⟨hb, h⟩ := h
    refine gd_aaload (n := 24) (kr := 9) (y := 24 * a1 + (a2 : Int32).toNatClampNeg) (by decide) rfl rfl dX2_copyFrom_124 rfl hb (if_pos (ab_inlt hb)) ?_
    refine gd_callVV (As := [zR 9 (24 * a1 + (a2 : Int32).toNatClampNeg)]) (rest := []) (dy := 2) (my := 0) (sy := 0) (k := 9) (i := 24 * a0 + (a2 : Int32).toNatClampNeg) lX2_65 iX9_copyFrom sX9_copyFrom rfl dX2_copyFrom_125 rfl rfl (gd_room (by omega) (by decide)) (by decide) (Nat.le_of_ble_eq_true rfl) h (fun v1 h => ?_)
    refine gd_iinc (x9 := a2 + 1) (L' := [(2, zI (a2 + 1)), (0, zR 2 a0), (1, zR 2 a1)]) 2 dX2_copyFrom_128 rfl rfl (by decide) rfl ?_
    refine gd_goto (tgt := 105) dX2_copyFrom_131 (by decide) ?_
    refine gd_locals [1, 2, 0] rfl ?_
    exact h
theorem c_X2_copyFrom {g : ab_E} {d : Nat} {a0 : Nat} {a1 : Nat} {v : gd_D} {Q : ab_O → gd_D → Prop} (hd : 0 ≤ d) (h : wp_X2_copyFrom g d a0 a1 v Q) : gd_C g mX2_copyFrom d 0 0 [zR 2 a0, zR 2 a1] v Q := gd_enterF (plainFor_of_name (by decide)) (Nat.le_of_ble_eq_true rfl) rfl (w_X2_copyFrom hd h)
def wp_X2_addDealer (g : ab_E) (d : Nat) (a0 : Nat) (a1 : Int32) (v : gd_D) (Q : ab_O → gd_D → Prop) : Prop :=
  (((8 : Int32) ≤ (v.1 2 a0 2)) →
    Q (Sum.inl none) v) ∧
  ((¬ (8 : Int32) ≤ (v.1 2 a0 2)) →
    vp_in (v.1 2 a0 2) 8 ∧
    gd_C g mX0_start 2 0 0 [zR 0 (8 * a0 + (v.1 2 a0 2 : Int32).toNatClampNeg), zI a1] v (gd_rV (fun v1 =>
      ∀ v3 : gd_D, v3 = gd_sI v1 2 a0 2 ((v1.1 2 a0 2) + 1) →
      Q (Sum.inl none) v3) (fun E v9 => Q (Sum.inr E) v9)))
theorem w_X2_addDealer {g : ab_E} {d : Nat} {a0 : Nat} {a1 : Int32} {v : gd_D} {Q : ab_O → gd_D → Prop} (hd : 3 ≤ d) (h : wp_X2_addDealer g d a0 a1 v Q) : gd_G g mX2_addDealer d 0 0 0 [(0, zR 2 a0), (1, zI a1)] [] v Q := by
  unfold wp_X2_addDealer at h
  refine gd_aload_n 0 dX2_addDealer_0 rfl rfl ?_
  refine gd_getI fX2_35 rfl dX2_addDealer_1 ?_
  refine gd_bipush (x9 := 8) dX2_addDealer_4 (by decide) ?_
  refine gd_icmp_ge (tgt := 32) dX2_addDealer_6 (by decide) (fun hc => ?_) (fun hc => ?_)
  · have h := h.1 hc
    exact gd_vret dX2_addDealer_32 rfl h
  · have h := h.2 hc
    refine gd_aload_n 0 dX2_addDealer_9 rfl rfl ?_
    refine gd_getR (x := a0) (kr := 13) fX2_11 rfl rfl dX2_addDealer_10 rfl ?_
    refine gd_aload_n 0 dX2_addDealer_13 rfl rfl ?_
    refine gd_getI fX2_35 rfl dX2_addDealer_14 ?_
    obtain ⟨hb, h⟩ := h
    refine gd_aaload (n := 8) (kr := 0) (y := 8 * a0 + (v.1 2 a0 2 : Int32).toNatClampNeg) (by decide) rfl rfl dX2_addDealer_17 rfl hb (if_pos (ab_inlt hb)) ?_
    refine gd_iload_n 1 dX2_addDealer_18 rfl rfl ?_
    refine gd_callVV (As := [zI a1]) (rest := []) (dy := 2) (my := 0) (sy := 0) (k := 0) (i := 8 * a0 + (v.1 2 a0 2 : Int32).toNatClampNeg) lX2_68 iX0_start sX0_start rfl dX2_addDealer_19 rfl rfl (gd_room (by omega) (by decide)) (by decide) (Nat.le_of_ble_eq_true rfl) h (fun v1 h => ?_)
    refine gd_aload_n 0 dX2_addDealer_22 rfl rfl ?_
    refine gd_dup dX2_addDealer_23 rfl ?_
    refine gd_getI fX2_35 rfl dX2_addDealer_24 ?_
    refine gd_iconst (x9 := 1) dX2_addDealer_27 (by decide) ?_
    refine gd_iadd dX2_addDealer_28 ?_
    refine gd_putIn fX2_35 rfl rfl dX2_addDealer_29 (fun v3 ev3 => ?_)
    have h := h v3 ev3
    exact gd_vret dX2_addDealer_32 rfl h
theorem c_X2_addDealer {g : ab_E} {d : Nat} {a0 : Nat} {a1 : Int32} {v : gd_D} {Q : ab_O → gd_D → Prop} (hd : 3 ≤ d) (h : wp_X2_addDealer g d a0 a1 v Q) : gd_C g mX2_addDealer d 0 0 [zR 2 a0, zI a1] v Q := gd_enterF (plainFor_of_name (by decide)) (Nat.le_of_ble_eq_true rfl) rfl (w_X2_addDealer hd h)
def wp_X2_addSale (g : ab_E) (d : Nat) (a0 : Nat) (a1 : Int32) (a2 : Int32) (a3 : Int32) (a4 : Int32) (a5 : Int32) (v : gd_D) (Q : ab_O → gd_D → Prop) : Prop :=
  (((v.1 2 a0 3 : Int32) < 24) →
    vp_in (v.1 2 a0 3) 24 ∧
    ∀ v1 : gd_D, v1 = gd_sI v 9 (24 * a0 + (v.1 2 a0 3 : Int32).toNatClampNeg) 0 a1 →
    ∀ v2 : gd_D, v2 = gd_sI v1 9 (24 * a0 + (v.1 2 a0 3 : Int32).toNatClampNeg) 1 a2 →
    ∀ v3 : gd_D, v3 = gd_sI v2 9 (24 * a0 + (v.1 2 a0 3 : Int32).toNatClampNeg) 2 a3 →
    ∀ v4 : gd_D, v4 = gd_sI v3 9 (24 * a0 + (v.1 2 a0 3 : Int32).toNatClampNeg) 3 a4 →
    ∀ v5 : gd_D, v5 = gd_sI v4 9 (24 * a0 + (v.1 2 a0 3 : Int32).toNatClampNeg) 4 a5 →
    ∀ v6 : gd_D, v6 = gd_sI v5 9 (24 * a0 + (v.1 2 a0 3 : Int32).toNatClampNeg) 5 a3 →
    ∀ v7 : gd_D, v7 = gd_sI v6 9 (24 * a0 + (v.1 2 a0 3 : Int32).toNatClampNeg) 6 0 →
    ∀ v8 : gd_D, v8 = gd_sI v7 9 (24 * a0 + (v.1 2 a0 3 : Int32).toNatClampNeg) 7 0 →
    ∀ v9 : gd_D, v9 = gd_sI v8 9 (24 * a0 + (v.1 2 a0 3 : Int32).toNatClampNeg) 8 0 →
    ∀ v10 : gd_D, v10 = gd_sI v9 2 a0 3 ((v9.1 2 a0 3) + 1) →
    Q (Sum.inl none) v10) ∧
  ((¬ (v.1 2 a0 3 : Int32) < 24) →
    Q (Sum.inl none) v)
theorem w_X2_addSale {g : ab_E} {d : Nat} {a0 : Nat} {a1 : Int32} {a2 : Int32} {a3 : Int32} {a4 : Int32} {a5 : Int32} {v : gd_D} {Q : ab_O → gd_D → Prop} (hd : 0 ≤ d) (h : wp_X2_addSale g d a0 a1 a2 a3 a4 a5 v Q) : gd_G g mX2_addSale d 0 0 0 [(0, zR 2 a0), (1, zI a1), (2, zI a2), (3, zI a3), (4, zI a4), (5, zI a5)] [] v Q := by
  unfold wp_X2_addSale at h
  refine gd_aload_n 0 dX2_addSale_0 rfl rfl ?_
  refine gd_getI fX2_39 rfl dX2_addSale_1 ?_
  refine gd_bipush (x9 := 24) dX2_addSale_4 (by decide) ?_
  refine gd_icmp_lt (tgt := 10) dX2_addSale_6 (by decide) (fun hc => ?_) (fun hc => ?_)
  · have h := h.1 hc
    refine gd_aload_n 0 dX2_addSale_10 rfl rfl ?_
    refine gd_getR (x := a0) (kr := 14) fX2_19 rfl rfl dX2_addSale_11 rfl ?_
    refine gd_aload_n 0 dX2_addSale_14 rfl rfl ?_
    refine gd_getI fX2_39 rfl dX2_addSale_15 ?_
    obtain ⟨hb, h⟩ := h
    refine gd_aaload (n := 24) (kr := 9) (y := 24 * a0 + (v.1 2 a0 3 : Int32).toNatClampNeg) (by decide) rfl rfl dX2_addSale_18 rfl hb (if_pos (ab_inlt hb)) ?_
    refine gd_astore (L' := [(6, zR 9 (24 * a0 + (v.1 2 a0 3 : Int32).toNatClampNeg)), (0, zR 2 a0), (1, zI a1), (2, zI a2), (3, zI a3), (4, zI a4), (5, zI a5)]) dX2_addSale_19 (by decide) rfl ?_
    refine gd_aload 0 dX2_addSale_21 rfl ?_
    refine gd_iload_n 2 dX2_addSale_23 rfl rfl ?_
    refine gd_putIn fX2_72 rfl rfl dX2_addSale_24 (fun v1 ev1 => ?_)
    have h := h v1 ev1
    refine gd_aload 0 dX2_addSale_27 rfl ?_
    refine gd_iload_n 3 dX2_addSale_29 rfl rfl ?_
    refine gd_putIn fX2_75 rfl rfl dX2_addSale_30 (fun v2 ev2 => ?_)
    have h := h v2 ev2
    refine gd_aload 0 dX2_addSale_33 rfl ?_
    refine gd_iload_n 4 dX2_addSale_35 rfl rfl ?_
    refine gd_putIn fX2_78 rfl rfl dX2_addSale_36 (fun v3 ev3 => ?_)
    have h := h v3 ev3
    refine gd_aload 0 dX2_addSale_39 rfl ?_
    refine gd_iload 5 dX2_addSale_41 rfl ?_
    refine gd_putIn fX2_81 rfl rfl dX2_addSale_43 (fun v4 ev4 => ?_)
    have h := h v4 ev4
    refine gd_aload 0 dX2_addSale_46 rfl ?_
    refine gd_iload 6 dX2_addSale_48 rfl ?_
    refine gd_putIn fX2_84 rfl rfl dX2_addSale_50 (fun v5 ev5 => ?_)
    have h := h v5 ev5
    refine gd_aload 0 dX2_addSale_53 rfl ?_
    refine gd_iload_n 4 dX2_addSale_55 rfl rfl ?_
    refine gd_putIn fX2_87 rfl rfl dX2_addSale_56 (fun v6 ev6 => ?_)
    have h := h v6 ev6
    refine gd_aload 0 dX2_addSale_59 rfl ?_
    refine gd_iconst (x9 := 0) dX2_addSale_61 (by decide) ?_
    refine gd_putIn fX2_90 rfl rfl dX2_addSale_62 (fun v7 ev7 => ?_)
    have h := h v7 ev7
    refine gd_aload 0 dX2_addSale_65 rfl ?_
    refine gd_iconst (x9 := 0) dX2_addSale_67 (by decide) ?_
    refine gd_putIn fX2_93 rfl rfl dX2_addSale_68 (fun v8 ev8 => ?_)
    have h := h v8 ev8
    refine gd_aload 0 dX2_addSale_71 rfl ?_
    refine gd_iconst (x9 := 0) dX2_addSale_73 (by decide) ?_
    refine gd_putIn fX2_96 rfl rfl dX2_addSale_74 (fun v9 ev9 => ?_)
    have h := h v9 ev9
    refine gd_aload_n 1 dX2_addSale_77 rfl rfl ?_
    refine gd_dup dX2_addSale_78 rfl ?_
    refine gd_getI fX2_39 rfl dX2_addSale_79 ?_
    refine gd_iconst (x9 := 1) dX2_addSale_82 (by decide) ?_
    refine gd_iadd dX2_addSale_83 ?_
    refine gd_putIn fX2_39 rfl rfl dX2_addSale_84 (fun v10 ev10 => ?_)
    have h := h v10 ev10
    exact gd_vret dX2_addSale_87 rfl h
  · have h := h.2 hc
    exact gd_vret dX2_addSale_9 rfl h
theorem c_X2_addSale {g : ab_E} {d : Nat} {a0 : Nat} {a1 : Int32} {a2 : Int32} {a3 : Int32} {a4 : Int32} {a5 : Int32} {v : gd_D} {Q : ab_O → gd_D → Prop} (hd : 0 ≤ d) (h : wp_X2_addSale g d a0 a1 a2 a3 a4 a5 v Q) : gd_C g mX2_addSale d 0 0 [zR 2 a0, zI a1, zI a2, zI a3, zI a4, zI a5] v Q := gd_enterF (plainFor_of_name (by decide)) (Nat.le_of_ble_eq_true rfl) rfl (w_X2_addSale hd h)
def wp_X2_isAsked (g : ab_E) (d : Nat) (a0 : Nat) (a1 : Int32) (v : gd_D) (Q : ab_O → gd_D → Prop) : Prop :=
  vp_in a1 24 ∧
  ∀ x1 : Int32, x1 = v.1 9 (24 * a0 + (a1 : Int32).toNatClampNeg) 4 →
  (((v.1 2 a0 4 : Int32) < x1) →
    Q (Sum.inl (some (zI 0))) v) ∧
  ((¬ (v.1 2 a0 4 : Int32) < x1) →
    vp_in a1 24 ∧
    ∀ x2 : Int32, x2 = v.1 9 (24 * a0 + (a1 : Int32).toNatClampNeg) 5 →
    (((x2 : Int32) ≤ 0) →
      Q (Sum.inl (some (zI 0))) v) ∧
    ((¬ (x2 : Int32) ≤ 0) →
      Q (Sum.inl (some (zI 1))) v))
theorem w_X2_isAsked {g : ab_E} {d : Nat} {a0 : Nat} {a1 : Int32} {v : gd_D} {Q : ab_O → gd_D → Prop} (hd : 0 ≤ d) (h : wp_X2_isAsked g d a0 a1 v Q) : gd_G g mX2_isAsked d 0 0 0 [(0, zR 2 a0), (1, zI a1)] [] v Q := by
  unfold wp_X2_isAsked at h
  refine gd_aload_n 0 dX2_isAsked_0 rfl rfl ?_
  refine gd_getR (x := a0) (kr := 14) fX2_19 rfl rfl dX2_isAsked_1 rfl ?_
  refine gd_iload_n 1 dX2_isAsked_4 rfl rfl ?_
  obtain ⟨hb, h⟩ := h
  refine gd_aaload (n := 24) (kr := 9) (y := 24 * a0 + (a1 : Int32).toNatClampNeg) (by decide) rfl rfl dX2_isAsked_5 rfl hb (if_pos (ab_inlt hb)) ?_
  refine gd_getI fX2_84 rfl dX2_isAsked_6 ?_
  refine gd_nmI (fun x1 ex1 => ?_)
  have h := h x1 ex1
  refine gd_aload_n 0 dX2_isAsked_9 rfl rfl ?_
  refine gd_getI fX2_42 rfl dX2_isAsked_10 ?_
  refine gd_icmp_gt (tgt := 32) dX2_isAsked_13 (by decide) (fun hc => ?_) (fun hc => ?_)
  · have h := h.1 hc
    refine gd_iconst (x9 := 0) dX2_isAsked_32 (by decide) ?_
    exact gd_iret (ty := .boolean) dX2_isAsked_33 rfl rfl h
  · have h := h.2 hc
    refine gd_aload_n 0 dX2_isAsked_16 rfl rfl ?_
    refine gd_getR (x := a0) (kr := 14) fX2_19 rfl rfl dX2_isAsked_17 rfl ?_
    refine gd_iload_n 1 dX2_isAsked_20 rfl rfl ?_
    obtain ⟨hb, h⟩ := h
    refine gd_aaload (n := 24) (kr := 9) (y := 24 * a0 + (a1 : Int32).toNatClampNeg) (by decide) rfl rfl dX2_isAsked_21 rfl hb (if_pos (ab_inlt hb)) ?_
    refine gd_getI fX2_87 rfl dX2_isAsked_22 ?_
    refine gd_nmI (fun x2 ex2 => ?_)
    have h := h x2 ex2
    refine gd_if_le (tgt := 32) dX2_isAsked_25 (by decide) (fun hc => ?_) (fun hc => ?_)
    · have h := h.1 hc
      refine gd_iconst (x9 := 0) dX2_isAsked_32 (by decide) ?_
      exact gd_iret (ty := .boolean) dX2_isAsked_33 rfl rfl h
    · have h := h.2 hc
      refine gd_iconst (x9 := 1) dX2_isAsked_28 (by decide) ?_
      refine gd_goto (tgt := 33) dX2_isAsked_29 (by decide) ?_
      exact gd_iret (ty := .boolean) dX2_isAsked_33 rfl rfl h
theorem c_X2_isAsked {g : ab_E} {d : Nat} {a0 : Nat} {a1 : Int32} {v : gd_D} {Q : ab_O → gd_D → Prop} (hd : 0 ≤ d) (h : wp_X2_isAsked g d a0 a1 v Q) : gd_C g mX2_isAsked d 0 0 [zR 2 a0, zI a1] v Q := gd_enterF (plainFor_of_name (by decide)) (Nat.le_of_ble_eq_true rfl) rfl (w_X2_isAsked hd h)
def wp_X2_leaveOut (g : ab_E) (d : Nat) (a0 : Nat) (a1 : Int32) (v : gd_D) (Q : ab_O → gd_D → Prop) : Prop :=
  vp_in a1 24 ∧
  ∀ v1 : gd_D, v1 = gd_sI v 9 (24 * a0 + (a1 : Int32).toNatClampNeg) 5 0 →
  Q (Sum.inl none) v1
theorem w_X2_leaveOut {g : ab_E} {d : Nat} {a0 : Nat} {a1 : Int32} {v : gd_D} {Q : ab_O → gd_D → Prop} (hd : 0 ≤ d) (h : wp_X2_leaveOut g d a0 a1 v Q) : gd_G g mX2_leaveOut d 0 0 0 [(0, zR 2 a0), (1, zI a1)] [] v Q := by
  unfold wp_X2_leaveOut at h
  refine gd_aload_n 0 dX2_leaveOut_0 rfl rfl ?_
  refine gd_getR (x := a0) (kr := 14) fX2_19 rfl rfl dX2_leaveOut_1 rfl ?_
  refine gd_iload_n 1 dX2_leaveOut_4 rfl rfl ?_
  obtain ⟨hb, h⟩ := h
  refine gd_aaload (n := 24) (kr := 9) (y := 24 * a0 + (a1 : Int32).toNatClampNeg) (by decide) rfl rfl dX2_leaveOut_5 rfl hb (if_pos (ab_inlt hb)) ?_
  refine gd_iconst (x9 := 0) dX2_leaveOut_6 (by decide) ?_
  refine gd_putIn fX2_87 rfl rfl dX2_leaveOut_7 (fun v1 ev1 => ?_)
  have h := h v1 ev1
  exact gd_vret dX2_leaveOut_10 rfl h
theorem c_X2_leaveOut {g : ab_E} {d : Nat} {a0 : Nat} {a1 : Int32} {v : gd_D} {Q : ab_O → gd_D → Prop} (hd : 0 ≤ d) (h : wp_X2_leaveOut g d a0 a1 v Q) : gd_C g mX2_leaveOut d 0 0 [zR 2 a0, zI a1] v Q := gd_enterF (plainFor_of_name (by decide)) (Nat.le_of_ble_eq_true rfl) rfl (w_X2_leaveOut hd h)
def wp_X2_countFails (g : ab_E) (d : Nat) (a0 : Nat) (v : gd_D) (Q : ab_O → gd_D → Prop) : Prop :=
  gd_G g mX2_countFails d 0 0 4 [(0, zR 2 a0), (1, zI 0), (2, zI 0)] [] v Q
theorem w_X2_countFails {g : ab_E} {d : Nat} {a0 : Nat} {v : gd_D} {Q : ab_O → gd_D → Prop} (hd : 0 ≤ d) (h : wp_X2_countFails g d a0 v Q) : gd_G g mX2_countFails d 0 0 0 [(0, zR 2 a0)] [] v Q := by
  unfold wp_X2_countFails at h
  refine gd_iconst (x9 := 0) dX2_countFails_0 (by decide) ?_
  refine gd_istore_n (L' := [(1, zI 0), (0, zR 2 a0)]) dX2_countFails_1 rfl (by decide) rfl ?_
  refine gd_iconst (x9 := 0) dX2_countFails_2 (by decide) ?_
  refine gd_istore_n (L' := [(2, zI 0), (1, zI 0), (0, zR 2 a0)]) dX2_countFails_3 rfl (by decide) rfl ?_
  refine gd_locals [2, 1, 0] rfl ?_
  exact h
def wp_X2_countFails_26 (g : ab_E) (d : Nat) (a0 : Nat) (a2 : Int32) (s0 : Int32) (s1 : Int32) (v : gd_D) (Q : ab_O → gd_D → Prop) : Prop :=
  gd_G g mX2_countFails d 0 0 4 [(0, zR 2 a0), (1, zI (s0 + s1)), (2, zI (a2 + 1))] [] v Q
theorem w_X2_countFails_26 {g : ab_E} {d : Nat} {a0 : Nat} {a2 : Int32} {s0 : Int32} {s1 : Int32} {v : gd_D} {Q : ab_O → gd_D → Prop} (hd : 0 ≤ d) (h : wp_X2_countFails_26 g d a0 a2 s0 s1 v Q) : gd_G g mX2_countFails d 0 0 26 [(0, zR 2 a0), (2, zI a2)] [zI s1, zI s0] v Q := by
  unfold wp_X2_countFails_26 at h
  refine gd_iadd dX2_countFails_26 ?_
  refine gd_istore_n (L' := [(1, zI (s0 + s1)), (0, zR 2 a0), (2, zI a2)]) dX2_countFails_27 rfl (by decide) rfl ?_
  refine gd_iinc (x9 := a2 + 1) (L' := [(2, zI (a2 + 1)), (1, zI (s0 + s1)), (0, zR 2 a0)]) 2 dX2_countFails_28 rfl rfl (by decide) rfl ?_
  refine gd_goto (tgt := 4) dX2_countFails_31 (by decide) ?_
  refine gd_locals [2, 1, 0] rfl ?_
  exact h
def wp_X2_countFails_4 (g : ab_E) (d : Nat) (a0 : Nat) (a1 : Int32) (a2 : Int32) (v : gd_D) (Q : ab_O → gd_D → Prop) : Prop :=
  (((v.1 2 a0 3 : Int32) ≤ a2) →
    Q (Sum.inl (some (zI a1))) v) ∧
  ((¬ (v.1 2 a0 3 : Int32) ≤ a2) →
    gd_C g mX2_isAsked 2 0 0 [zR 2 a0, zI a2] v (gd_rI (fun (r2 : Int32) v1 =>
      (((r2 : Int32) = 0) →
        wp_X2_countFails_26 g d a0 a2 a1 0 v1 Q) ∧
      ((¬ (r2 : Int32) = 0) →
        wp_X2_countFails_26 g d a0 a2 a1 1 v1 Q)) (fun E v9 => Q (Sum.inr E) v9)))
theorem w_X2_countFails_4 {g : ab_E} {d : Nat} {a0 : Nat} {a1 : Int32} {a2 : Int32} {v : gd_D} {Q : ab_O → gd_D → Prop} (hd : 3 ≤ d) (h : wp_X2_countFails_4 g d a0 a1 a2 v Q) : gd_G g mX2_countFails d 0 0 4 [(0, zR 2 a0), (1, zI a1), (2, zI a2)] [] v Q := by
  unfold wp_X2_countFails_4 at h
  refine gd_iload_n 2 dX2_countFails_4 rfl rfl ?_
  refine gd_aload_n 0 dX2_countFails_5 rfl rfl ?_
  refine gd_getI fX2_39 rfl dX2_countFails_6 ?_
  refine gd_icmp_ge (tgt := 34) dX2_countFails_9 (by decide) (fun hc => ?_) (fun hc => ?_)
  · have h := h.1 hc
    refine gd_iload_n 1 dX2_countFails_34 rfl rfl ?_
    exact gd_iret (ty := .int) dX2_countFails_35 rfl rfl h
  · have h := h.2 hc
    refine gd_iload_n 1 dX2_countFails_12 rfl rfl ?_
    refine gd_aload_n 0 dX2_countFails_13 rfl rfl ?_
    refine gd_iload_n 2 dX2_countFails_14 rfl rfl ?_
    refine gd_callVI (As := [zI a2]) (rest := [zI a1]) (dy := 2) (my := 0) (sy := 0) (k := 2) (i := a0) lX2_99 iX2_isAsked sX2_isAsked rfl dX2_countFails_15 rfl rfl (gd_room (by omega) (by decide)) (by decide) (Nat.le_of_ble_eq_true rfl) h (fun r2 v1 h => ?_)
    refine gd_if_eq (tgt := 25) dX2_countFails_18 (by decide) (fun hc => ?_) (fun hc => ?_)
    · have h := h.1 hc
      refine gd_iconst (x9 := 0) dX2_countFails_25 (by decide) ?_
      refine gd_locals [0, 2] rfl ?_
      exact w_X2_countFails_26 (by omega) h
    · have h := h.2 hc
      refine gd_iconst (x9 := 1) dX2_countFails_21 (by decide) ?_
      refine gd_goto (tgt := 26) dX2_countFails_22 (by decide) ?_
      refine gd_locals [0, 2] rfl ?_
      exact w_X2_countFails_26 (by omega) h
theorem c_X2_countFails {g : ab_E} {d : Nat} {a0 : Nat} {v : gd_D} {Q : ab_O → gd_D → Prop} (hd : 0 ≤ d) (h : wp_X2_countFails g d a0 v Q) : gd_C g mX2_countFails d 0 0 [zR 2 a0] v Q := gd_enterF (plainFor_of_name (by decide)) (Nat.le_of_ble_eq_true rfl) rfl (w_X2_countFails hd h)
def wp_X2_unitsOfFails (g : ab_E) (d : Nat) (a0 : Nat) (a1 : Int32) (a2 : Int32) (v : gd_D) (Q : ab_O → gd_D → Prop) : Prop :=
  gd_G g mX2_unitsOfFails d 0 0 5 [(0, zR 2 a0), (1, zI a1), (2, zI a2), (3, zI 0), (4, zI 0)] [] v Q
theorem w_X2_unitsOfFails {g : ab_E} {d : Nat} {a0 : Nat} {a1 : Int32} {a2 : Int32} {v : gd_D} {Q : ab_O → gd_D → Prop} (hd : 0 ≤ d) (h : wp_X2_unitsOfFails g d a0 a1 a2 v Q) : gd_G g mX2_unitsOfFails d 0 0 0 [(0, zR 2 a0), (1, zI a1), (2, zI a2)] [] v Q := by
  unfold wp_X2_unitsOfFails at h
  refine gd_iconst (x9 := 0) dX2_unitsOfFails_0 (by decide) ?_
  refine gd_istore_n (L' := [(3, zI 0), (0, zR 2 a0), (1, zI a1), (2, zI a2)]) dX2_unitsOfFails_1 rfl (by decide) rfl ?_
  refine gd_iconst (x9 := 0) dX2_unitsOfFails_2 (by decide) ?_
  refine gd_istore (L' := [(4, zI 0), (3, zI 0), (0, zR 2 a0), (1, zI a1), (2, zI a2)]) dX2_unitsOfFails_3 (by decide) rfl ?_
  refine gd_locals [2, 3, 4, 1, 0] rfl ?_
  exact h
def wp_X2_unitsOfFails_64 (g : ab_E) (d : Nat) (a0 : Nat) (a1 : Int32) (a2 : Int32) (a3 : Int32) (a4 : Int32) (a5 : Int32) (s0 : Int32) (v : gd_D) (Q : ab_O → gd_D → Prop) : Prop :=
  (((a5 : Int32) = 0) →
    gd_G g mX2_unitsOfFails d 0 0 5 [(0, zR 2 a0), (1, zI a1), (2, zI a2), (3, zI a3), (4, zI (a4 + 1))] [] v Q) ∧
  ((¬ (a5 : Int32) = 0) →
    (((s0 : Int32) = 0) →
      gd_G g mX2_unitsOfFails d 0 0 5 [(0, zR 2 a0), (1, zI a1), (2, zI a2), (3, zI a3), (4, zI (a4 + 1))] [] v Q) ∧
    ((¬ (s0 : Int32) = 0) →
      gd_C g mX2_isAsked 2 0 0 [zR 2 a0, zI a4] v (gd_rI (fun (r2 : Int32) v1 =>
        (((r2 : Int32) = 0) →
          gd_G g mX2_unitsOfFails d 0 0 5 [(0, zR 2 a0), (1, zI a1), (2, zI a2), (3, zI a3), (4, zI (a4 + 1))] [] v1 Q) ∧
        ((¬ (r2 : Int32) = 0) →
          vp_in a4 24 ∧
          ∀ x3 : Int32, x3 = v1.1 9 (24 * a0 + (a4 : Int32).toNatClampNeg) 5 →
          gd_G g mX2_unitsOfFails d 0 0 5 [(0, zR 2 a0), (1, zI a1), (2, zI a2), (3, zI (a3 + x3)), (4, zI (a4 + 1))] [] v1 Q)) (fun E v9 => Q (Sum.inr E) v9))))
theorem w_X2_unitsOfFails_64 {g : ab_E} {d : Nat} {a0 : Nat} {a1 : Int32} {a2 : Int32} {a3 : Int32} {a4 : Int32} {a5 : Int32} {s0 : Int32} {v : gd_D} {Q : ab_O → gd_D → Prop} (hd : 3 ≤ d) (h : wp_X2_unitsOfFails_64 g d a0 a1 a2 a3 a4 a5 s0 v Q) : gd_G g mX2_unitsOfFails d 0 0 64 [(0, zR 2 a0), (1, zI a1), (2, zI a2), (3, zI a3), (4, zI a4), (5, zI a5)] [zI s0] v Q := by
  unfold wp_X2_unitsOfFails_64 at h
  refine gd_istore (L' := [(6, zI s0), (0, zR 2 a0), (1, zI a1), (2, zI a2), (3, zI a3), (4, zI a4), (5, zI a5)]) dX2_unitsOfFails_64 (by decide) rfl ?_
  refine gd_iload 6 dX2_unitsOfFails_66 rfl ?_
  refine gd_if_eq (tgt := 98) dX2_unitsOfFails_68 (by decide) (fun hc => ?_) (fun hc => ?_)
  · have h := h.1 hc
    refine gd_iinc (x9 := a4 + 1) (L' := [(4, zI (a4 + 1)), (6, zI s0), (0, zR 2 a0), (1, zI a1), (2, zI a2), (3, zI a3), (5, zI a5)]) 5 dX2_unitsOfFails_98 rfl rfl (by decide) rfl ?_
    refine gd_goto (tgt := 5) dX2_unitsOfFails_101 (by decide) ?_
    refine gd_locals [2, 3, 4, 5, 0] rfl ?_
    exact h
  · have h := h.2 hc
    refine gd_iload 0 dX2_unitsOfFails_71 rfl ?_
    refine gd_if_eq (tgt := 98) dX2_unitsOfFails_73 (by decide) (fun hc => ?_) (fun hc => ?_)
    · have h := h.1 hc
      refine gd_iinc (x9 := a4 + 1) (L' := [(4, zI (a4 + 1)), (6, zI s0), (0, zR 2 a0), (1, zI a1), (2, zI a2), (3, zI a3), (5, zI a5)]) 5 dX2_unitsOfFails_98 rfl rfl (by decide) rfl ?_
      refine gd_goto (tgt := 5) dX2_unitsOfFails_101 (by decide) ?_
      refine gd_locals [2, 3, 4, 5, 0] rfl ?_
      exact h
    · have h := h.2 hc
      refine gd_aload_n 1 dX2_unitsOfFails_76 rfl rfl ?_
      refine gd_iload 5 dX2_unitsOfFails_77 rfl ?_
      refine gd_callVI (As := [zI a4]) (rest := []) (dy := 2) (my := 0) (sy := 0) (k := 2) (i := a0) lX2_99 iX2_isAsked sX2_isAsked rfl dX2_unitsOfFails_79 rfl rfl (gd_room (by omega) (by decide)) (by decide) (Nat.le_of_ble_eq_true rfl) h (fun r2 v1 h => ?_)
      refine gd_if_eq (tgt := 98) dX2_unitsOfFails_82 (by decide) (fun hc => ?_) (fun hc => ?_)
      · have h := h.1 hc
        refine gd_iinc (x9 := a4 + 1) (L' := [(4, zI (a4 + 1)), (6, zI s0), (0, zR 2 a0), (1, zI a1), (2, zI a2), (3, zI a3), (5, zI a5)]) 5 dX2_unitsOfFails_98 rfl rfl (by decide) rfl ?_
        refine gd_goto (tgt := 5) dX2_unitsOfFails_101 (by decide) ?_
        refine gd_locals [2, 3, 4, 5, 0] rfl ?_
        exact h
      · have h := h.2 hc
        refine gd_iload_n 4 dX2_unitsOfFails_85 rfl rfl ?_
        refine gd_aload_n 1 dX2_unitsOfFails_86 rfl rfl ?_
        refine gd_getR (x := a0) (kr := 14) fX2_19 rfl rfl dX2_unitsOfFails_87 rfl ?_
        refine gd_iload 5 dX2_unitsOfFails_90 rfl ?_
        obtain ⟨hb, h⟩ := h
        refine gd_aaload (n := 24) (kr := 9) (y := 24 * a0 + (a4 : Int32).toNatClampNeg) (by decide) rfl rfl dX2_unitsOfFails_92 rfl hb (if_pos (ab_inlt hb)) ?_
        refine gd_getI fX2_87 rfl dX2_unitsOfFails_93 ?_
        refine gd_nmI (fun x3 ex3 => ?_)
        have h := h x3 ex3
        refine gd_iadd dX2_unitsOfFails_96 ?_
        refine gd_istore_n (L' := [(3, zI (a3 + x3)), (6, zI s0), (0, zR 2 a0), (1, zI a1), (2, zI a2), (4, zI a4), (5, zI a5)]) dX2_unitsOfFails_97 rfl (by decide) rfl ?_
        refine gd_iinc (x9 := a4 + 1) (L' := [(4, zI (a4 + 1)), (3, zI (a3 + x3)), (6, zI s0), (0, zR 2 a0), (1, zI a1), (2, zI a2), (5, zI a5)]) 5 dX2_unitsOfFails_98 rfl rfl (by decide) rfl ?_
        refine gd_goto (tgt := 5) dX2_unitsOfFails_101 (by decide) ?_
        refine gd_locals [3, 4, 5, 1, 0] rfl ?_
        exact h
def wp_X2_unitsOfFails_38 (g : ab_E) (d : Nat) (a0 : Nat) (a1 : Int32) (a2 : Int32) (a3 : Int32) (a4 : Int32) (s0 : Int32) (v : gd_D) (Q : ab_O → gd_D → Prop) : Prop :=
  (((a2 : Int32) = (-1)) →
    wp_X2_unitsOfFails_64 g d a0 a1 a2 a3 a4 s0 1 v Q) ∧
  ((¬ (a2 : Int32) = (-1)) →
    vp_in a4 24 ∧
    ∀ x1 : Int32, x1 = v.1 9 (24 * a0 + (a4 : Int32).toNatClampNeg) 1 →
    ((¬ (x1 : Int32) = a2) →
      wp_X2_unitsOfFails_64 g d a0 a1 a2 a3 a4 s0 0 v Q) ∧
    (((x1 : Int32) = a2) →
      wp_X2_unitsOfFails_64 g d a0 a1 a2 a3 a4 s0 1 v Q))
theorem w_X2_unitsOfFails_38 {g : ab_E} {d : Nat} {a0 : Nat} {a1 : Int32} {a2 : Int32} {a3 : Int32} {a4 : Int32} {s0 : Int32} {v : gd_D} {Q : ab_O → gd_D → Prop} (hd : 3 ≤ d) (h : wp_X2_unitsOfFails_38 g d a0 a1 a2 a3 a4 s0 v Q) : gd_G g mX2_unitsOfFails d 0 0 38 [(0, zR 2 a0), (1, zI a1), (2, zI a2), (3, zI a3), (4, zI a4)] [zI s0] v Q := by
  unfold wp_X2_unitsOfFails_38 at h
  refine gd_istore (L' := [(5, zI s0), (0, zR 2 a0), (1, zI a1), (2, zI a2), (3, zI a3), (4, zI a4)]) dX2_unitsOfFails_38 (by decide) rfl ?_
  refine gd_iload_n 3 dX2_unitsOfFails_40 rfl rfl ?_
  refine gd_iconst (x9 := (-1)) dX2_unitsOfFails_41 (by decide) ?_
  refine gd_icmp_eq (tgt := 59) dX2_unitsOfFails_42 (by decide) (fun hc => ?_) (fun hc => ?_)
  · have h := h.1 hc
    refine gd_iconst (x9 := 1) dX2_unitsOfFails_59 (by decide) ?_
    refine gd_goto (tgt := 64) dX2_unitsOfFails_60 (by decide) ?_
    refine gd_locals [1, 2, 3, 4, 5, 0] rfl ?_
    exact w_X2_unitsOfFails_64 (by omega) h
  · have h := h.2 hc
    refine gd_aload_n 1 dX2_unitsOfFails_45 rfl rfl ?_
    refine gd_getR (x := a0) (kr := 14) fX2_19 rfl rfl dX2_unitsOfFails_46 rfl ?_
    refine gd_iload 5 dX2_unitsOfFails_49 rfl ?_
    obtain ⟨hb, h⟩ := h
    refine gd_aaload (n := 24) (kr := 9) (y := 24 * a0 + (a4 : Int32).toNatClampNeg) (by decide) rfl rfl dX2_unitsOfFails_51 rfl hb (if_pos (ab_inlt hb)) ?_
    refine gd_getI fX2_75 rfl dX2_unitsOfFails_52 ?_
    refine gd_nmI (fun x1 ex1 => ?_)
    have h := h x1 ex1
    refine gd_iload_n 3 dX2_unitsOfFails_55 rfl rfl ?_
    refine gd_icmp_ne (tgt := 63) dX2_unitsOfFails_56 (by decide) (fun hc => ?_) (fun hc => ?_)
    · have h := h.1 hc
      refine gd_iconst (x9 := 0) dX2_unitsOfFails_63 (by decide) ?_
      refine gd_locals [1, 2, 3, 4, 5, 0] rfl ?_
      exact w_X2_unitsOfFails_64 (by omega) h
    · have h := h.2 hc
      refine gd_iconst (x9 := 1) dX2_unitsOfFails_59 (by decide) ?_
      refine gd_goto (tgt := 64) dX2_unitsOfFails_60 (by decide) ?_
      refine gd_locals [1, 2, 3, 4, 5, 0] rfl ?_
      exact w_X2_unitsOfFails_64 (by omega) h
def wp_X2_unitsOfFails_5 (g : ab_E) (d : Nat) (a0 : Nat) (a1 : Int32) (a2 : Int32) (a3 : Int32) (a4 : Int32) (v : gd_D) (Q : ab_O → gd_D → Prop) : Prop :=
  (((v.1 2 a0 3 : Int32) ≤ a4) →
    Q (Sum.inl (some (zI a3))) v) ∧
  ((¬ (v.1 2 a0 3 : Int32) ≤ a4) →
    (((a1 : Int32) = (-1)) →
      wp_X2_unitsOfFails_38 g d a0 a1 a2 a3 a4 1 v Q) ∧
    ((¬ (a1 : Int32) = (-1)) →
      vp_in a4 24 ∧
      ∀ x1 : Int32, x1 = v.1 9 (24 * a0 + (a4 : Int32).toNatClampNeg) 0 →
      ((¬ (x1 : Int32) = a1) →
        wp_X2_unitsOfFails_38 g d a0 a1 a2 a3 a4 0 v Q) ∧
      (((x1 : Int32) = a1) →
        wp_X2_unitsOfFails_38 g d a0 a1 a2 a3 a4 1 v Q)))
theorem w_X2_unitsOfFails_5 {g : ab_E} {d : Nat} {a0 : Nat} {a1 : Int32} {a2 : Int32} {a3 : Int32} {a4 : Int32} {v : gd_D} {Q : ab_O → gd_D → Prop} (hd : 3 ≤ d) (h : wp_X2_unitsOfFails_5 g d a0 a1 a2 a3 a4 v Q) : gd_G g mX2_unitsOfFails d 0 0 5 [(0, zR 2 a0), (1, zI a1), (2, zI a2), (3, zI a3), (4, zI a4)] [] v Q := by
  unfold wp_X2_unitsOfFails_5 at h
  refine gd_iload 4 dX2_unitsOfFails_5 rfl ?_
  refine gd_aload_n 0 dX2_unitsOfFails_7 rfl rfl ?_
  refine gd_getI fX2_39 rfl dX2_unitsOfFails_8 ?_
  refine gd_icmp_ge (tgt := 104) dX2_unitsOfFails_11 (by decide) (fun hc => ?_) (fun hc => ?_)
  · have h := h.1 hc
    refine gd_iload_n 3 dX2_unitsOfFails_104 rfl rfl ?_
    exact gd_iret (ty := .int) dX2_unitsOfFails_105 rfl rfl h
  · have h := h.2 hc
    refine gd_iload_n 1 dX2_unitsOfFails_14 rfl rfl ?_
    refine gd_iconst (x9 := (-1)) dX2_unitsOfFails_15 (by decide) ?_
    refine gd_icmp_eq (tgt := 33) dX2_unitsOfFails_16 (by decide) (fun hc => ?_) (fun hc => ?_)
    · have h := h.1 hc
      refine gd_iconst (x9 := 1) dX2_unitsOfFails_33 (by decide) ?_
      refine gd_goto (tgt := 38) dX2_unitsOfFails_34 (by decide) ?_
      exact w_X2_unitsOfFails_38 (by omega) h
    · have h := h.2 hc
      refine gd_aload_n 0 dX2_unitsOfFails_19 rfl rfl ?_
      refine gd_getR (x := a0) (kr := 14) fX2_19 rfl rfl dX2_unitsOfFails_20 rfl ?_
      refine gd_iload 4 dX2_unitsOfFails_23 rfl ?_
      obtain ⟨hb, h⟩ := h
      refine gd_aaload (n := 24) (kr := 9) (y := 24 * a0 + (a4 : Int32).toNatClampNeg) (by decide) rfl rfl dX2_unitsOfFails_25 rfl hb (if_pos (ab_inlt hb)) ?_
      refine gd_getI fX2_72 rfl dX2_unitsOfFails_26 ?_
      refine gd_nmI (fun x1 ex1 => ?_)
      have h := h x1 ex1
      refine gd_iload_n 1 dX2_unitsOfFails_29 rfl rfl ?_
      refine gd_icmp_ne (tgt := 37) dX2_unitsOfFails_30 (by decide) (fun hc => ?_) (fun hc => ?_)
      · have h := h.1 hc
        refine gd_iconst (x9 := 0) dX2_unitsOfFails_37 (by decide) ?_
        exact w_X2_unitsOfFails_38 (by omega) h
      · have h := h.2 hc
        refine gd_iconst (x9 := 1) dX2_unitsOfFails_33 (by decide) ?_
        refine gd_goto (tgt := 38) dX2_unitsOfFails_34 (by decide) ?_
        exact w_X2_unitsOfFails_38 (by omega) h
theorem c_X2_unitsOfFails {g : ab_E} {d : Nat} {a0 : Nat} {a1 : Int32} {a2 : Int32} {v : gd_D} {Q : ab_O → gd_D → Prop} (hd : 0 ≤ d) (h : wp_X2_unitsOfFails g d a0 a1 a2 v Q) : gd_C g mX2_unitsOfFails d 0 0 [zR 2 a0, zI a1, zI a2] v Q := gd_enterF (plainFor_of_name (by decide)) (Nat.le_of_ble_eq_true rfl) rfl (w_X2_unitsOfFails hd h)
def wp_X2_valueOfFails (g : ab_E) (d : Nat) (a0 : Nat) (v : gd_D) (Q : ab_O → gd_D → Prop) : Prop :=
  gd_G g mX2_valueOfFails d 0 0 4 [(0, zR 2 a0), (1, zJ 0), (3, zI 0)] [] v Q
theorem w_X2_valueOfFails {g : ab_E} {d : Nat} {a0 : Nat} {v : gd_D} {Q : ab_O → gd_D → Prop} (hd : 0 ≤ d) (h : wp_X2_valueOfFails g d a0 v Q) : gd_G g mX2_valueOfFails d 0 0 0 [(0, zR 2 a0)] [] v Q := by
  unfold wp_X2_valueOfFails at h
  refine gd_lconst (x9 := 0) dX2_valueOfFails_0 (by decide) ?_
  refine gd_lstore_n (L' := [(1, zJ 0), (0, zR 2 a0)]) dX2_valueOfFails_1 rfl (by decide) rfl ?_
  refine gd_iconst (x9 := 0) dX2_valueOfFails_2 (by decide) ?_
  refine gd_istore_n (L' := [(3, zI 0), (1, zJ 0), (0, zR 2 a0)]) dX2_valueOfFails_3 rfl (by decide) rfl ?_
  refine gd_locals [2, 1, 0] rfl ?_
  exact h
def wp_X2_valueOfFails_4 (g : ab_E) (d : Nat) (a0 : Nat) (a1 : Int64) (a3 : Int32) (v : gd_D) (Q : ab_O → gd_D → Prop) : Prop :=
  (((v.1 2 a0 3 : Int32) ≤ a3) →
    Q (Sum.inl (some (zJ a1))) v) ∧
  ((¬ (v.1 2 a0 3 : Int32) ≤ a3) →
    gd_C g mX2_isAsked 2 0 0 [zR 2 a0, zI a3] v (gd_rI (fun (r2 : Int32) v1 =>
      (((r2 : Int32) = 0) →
        gd_G g mX2_valueOfFails d 0 0 4 [(0, zR 2 a0), (1, zJ a1), (3, zI (a3 + 1))] [] v1 Q) ∧
      ((¬ (r2 : Int32) = 0) →
        vp_in a3 24 ∧
        ∀ x3 : Int32, x3 = v1.1 9 (24 * a0 + (a3 : Int32).toNatClampNeg) 3 →
        vp_in a3 24 ∧
        ∀ x4 : Int32, x4 = v1.1 9 (24 * a0 + (a3 : Int32).toNatClampNeg) 5 →
        ∀ y5 : Int64, y5 = ((x3 : Int32).toInt64) * ((x4 : Int32).toInt64) →
        gd_G g mX2_valueOfFails d 0 0 4 [(0, zR 2 a0), (1, zJ (a1 + y5)), (3, zI (a3 + 1))] [] v1 Q)) (fun E v9 => Q (Sum.inr E) v9)))
theorem w_X2_valueOfFails_4 {g : ab_E} {d : Nat} {a0 : Nat} {a1 : Int64} {a3 : Int32} {v : gd_D} {Q : ab_O → gd_D → Prop} (hd : 3 ≤ d) (h : wp_X2_valueOfFails_4 g d a0 a1 a3 v Q) : gd_G g mX2_valueOfFails d 0 0 4 [(0, zR 2 a0), (1, zJ a1), (3, zI a3)] [] v Q := by
  unfold wp_X2_valueOfFails_4 at h
  refine gd_iload_n 2 dX2_valueOfFails_4 rfl rfl ?_
  refine gd_aload_n 0 dX2_valueOfFails_5 rfl rfl ?_
  refine gd_getI fX2_39 rfl dX2_valueOfFails_6 ?_
  refine gd_icmp_ge (tgt := 50) dX2_valueOfFails_9 (by decide) (fun hc => ?_) (fun hc => ?_)
  · have h := h.1 hc
    refine gd_lload_n 1 dX2_valueOfFails_50 rfl rfl ?_
    exact gd_lret dX2_valueOfFails_51 rfl h
  · have h := h.2 hc
    refine gd_aload_n 0 dX2_valueOfFails_12 rfl rfl ?_
    refine gd_iload_n 2 dX2_valueOfFails_13 rfl rfl ?_
    refine gd_callVI (As := [zI a3]) (rest := []) (dy := 2) (my := 0) (sy := 0) (k := 2) (i := a0) lX2_99 iX2_isAsked sX2_isAsked rfl dX2_valueOfFails_14 rfl rfl (gd_room (by omega) (by decide)) (by decide) (Nat.le_of_ble_eq_true rfl) h (fun r2 v1 h => ?_)
    refine gd_if_eq (tgt := 44) dX2_valueOfFails_17 (by decide) (fun hc => ?_) (fun hc => ?_)
    · have h := h.1 hc
      refine gd_iinc (x9 := a3 + 1) (L' := [(3, zI (a3 + 1)), (0, zR 2 a0), (1, zJ a1)]) 2 dX2_valueOfFails_44 rfl rfl (by decide) rfl ?_
      refine gd_goto (tgt := 4) dX2_valueOfFails_47 (by decide) ?_
      refine gd_locals [1, 2, 0] rfl ?_
      exact h
    · have h := h.2 hc
      refine gd_lload_n 1 dX2_valueOfFails_20 rfl rfl ?_
      refine gd_aload_n 0 dX2_valueOfFails_21 rfl rfl ?_
      refine gd_getR (x := a0) (kr := 14) fX2_19 rfl rfl dX2_valueOfFails_22 rfl ?_
      refine gd_iload_n 2 dX2_valueOfFails_25 rfl rfl ?_
      obtain ⟨hb, h⟩ := h
      refine gd_aaload (n := 24) (kr := 9) (y := 24 * a0 + (a3 : Int32).toNatClampNeg) (by decide) rfl rfl dX2_valueOfFails_26 rfl hb (if_pos (ab_inlt hb)) ?_
      refine gd_getI fX2_81 rfl dX2_valueOfFails_27 ?_
      refine gd_nmI (fun x3 ex3 => ?_)
      have h := h x3 ex3
      refine gd_i2l dX2_valueOfFails_30 ?_
      refine gd_aload_n 0 dX2_valueOfFails_31 rfl rfl ?_
      refine gd_getR (x := a0) (kr := 14) fX2_19 rfl rfl dX2_valueOfFails_32 rfl ?_
      refine gd_iload_n 2 dX2_valueOfFails_35 rfl rfl ?_
      obtain ⟨hb, h⟩ := h
      refine gd_aaload (n := 24) (kr := 9) (y := 24 * a0 + (a3 : Int32).toNatClampNeg) (by decide) rfl rfl dX2_valueOfFails_36 rfl hb (if_pos (ab_inlt hb)) ?_
      refine gd_getI fX2_87 rfl dX2_valueOfFails_37 ?_
      refine gd_nmI (fun x4 ex4 => ?_)
      have h := h x4 ex4
      refine gd_i2l dX2_valueOfFails_40 ?_
      refine gd_lmul dX2_valueOfFails_41 ?_
      refine gd_nmJ (fun y5 ey5 => ?_)
      have h := h y5 ey5
      refine gd_ladd dX2_valueOfFails_42 ?_
      refine gd_lstore_n (L' := [(1, zJ (a1 + y5)), (0, zR 2 a0), (3, zI a3)]) dX2_valueOfFails_43 rfl (by decide) rfl ?_
      refine gd_iinc (x9 := a3 + 1) (L' := [(3, zI (a3 + 1)), (1, zJ (a1 + y5)), (0, zR 2 a0)]) 2 dX2_valueOfFails_44 rfl rfl (by decide) rfl ?_
      refine gd_goto (tgt := 4) dX2_valueOfFails_47 (by decide) ?_
      refine gd_locals [2, 1, 0] rfl ?_
      exact h
theorem c_X2_valueOfFails {g : ab_E} {d : Nat} {a0 : Nat} {v : gd_D} {Q : ab_O → gd_D → Prop} (hd : 0 ≤ d) (h : wp_X2_valueOfFails g d a0 v Q) : gd_C g mX2_valueOfFails d 0 0 [zR 2 a0] v Q := gd_enterF (plainFor_of_name (by decide)) (Nat.le_of_ble_eq_true rfl) rfl (w_X2_valueOfFails hd h)
def wp_X2_sellsAsked (g : ab_E) (d : Nat) (a0 : Nat) (a1 : Int32) (v : gd_D) (Q : ab_O → gd_D → Prop) : Prop :=
  gd_C g mX2_unitsOfFails 3 0 0 [zR 2 a0, zI a1, zI (-1)] v (gd_rI (fun (r2 : Int32) v1 =>
    (((r2 : Int32) ≤ 0) →
      Q (Sum.inl (some (zI 0))) v1) ∧
    ((¬ (r2 : Int32) ≤ 0) →
      Q (Sum.inl (some (zI 1))) v1)) (fun E v9 => Q (Sum.inr E) v9))
theorem w_X2_sellsAsked {g : ab_E} {d : Nat} {a0 : Nat} {a1 : Int32} {v : gd_D} {Q : ab_O → gd_D → Prop} (hd : 4 ≤ d) (h : wp_X2_sellsAsked g d a0 a1 v Q) : gd_G g mX2_sellsAsked d 0 0 0 [(0, zR 2 a0), (1, zI a1)] [] v Q := by
  unfold wp_X2_sellsAsked at h
  refine gd_aload_n 0 dX2_sellsAsked_0 rfl rfl ?_
  refine gd_iload_n 1 dX2_sellsAsked_1 rfl rfl ?_
  refine gd_iconst (x9 := (-1)) dX2_sellsAsked_2 (by decide) ?_
  refine gd_callVI (As := [zI a1, zI (-1)]) (rest := []) (dy := 3) (my := 0) (sy := 0) (k := 2) (i := a0) lX2_103 iX2_unitsOfFails sX2_unitsOfFails rfl dX2_sellsAsked_3 rfl rfl (gd_room (by omega) (by decide)) (by decide) (Nat.le_of_ble_eq_true rfl) h (fun r2 v1 h => ?_)
  refine gd_if_le (tgt := 13) dX2_sellsAsked_6 (by decide) (fun hc => ?_) (fun hc => ?_)
  · have h := h.1 hc
    refine gd_iconst (x9 := 0) dX2_sellsAsked_13 (by decide) ?_
    exact gd_iret (ty := .boolean) dX2_sellsAsked_14 rfl rfl h
  · have h := h.2 hc
    refine gd_iconst (x9 := 1) dX2_sellsAsked_9 (by decide) ?_
    refine gd_goto (tgt := 14) dX2_sellsAsked_10 (by decide) ?_
    exact gd_iret (ty := .boolean) dX2_sellsAsked_14 rfl rfl h
theorem c_X2_sellsAsked {g : ab_E} {d : Nat} {a0 : Nat} {a1 : Int32} {v : gd_D} {Q : ab_O → gd_D → Prop} (hd : 4 ≤ d) (h : wp_X2_sellsAsked g d a0 a1 v Q) : gd_C g mX2_sellsAsked d 0 0 [zR 2 a0, zI a1] v Q := gd_enterF (plainFor_of_name (by decide)) (Nat.le_of_ble_eq_true rfl) rfl (w_X2_sellsAsked hd h)
def wp_X2_wholeLots (g : ab_E) (d : Nat) (a0 : Nat) (a1 : Int32) (v : gd_D) (Q : ab_O → gd_D → Prop) : Prop :=
  (((1 : Int32) ≤ (v.1 2 a0 7)) →
    ¬ (v.1 2 a0 7 : Int32) = 0 ∧
    Q (Sum.inl (some (zI (a1 - (a1 - a1 / (v.1 2 a0 7) * (v.1 2 a0 7)))))) v) ∧
  ((¬ (1 : Int32) ≤ (v.1 2 a0 7)) →
    Q (Sum.inl (some (zI 0))) v)
theorem w_X2_wholeLots {g : ab_E} {d : Nat} {a0 : Nat} {a1 : Int32} {v : gd_D} {Q : ab_O → gd_D → Prop} (hd : 0 ≤ d) (h : wp_X2_wholeLots g d a0 a1 v Q) : gd_G g mX2_wholeLots d 0 0 0 [(0, zR 2 a0), (1, zI a1)] [] v Q := by
  unfold wp_X2_wholeLots at h
  refine gd_aload_n 0 dX2_wholeLots_0 rfl rfl ?_
  refine gd_getI fX2_51 rfl dX2_wholeLots_1 ?_
  refine gd_iconst (x9 := 1) dX2_wholeLots_4 (by decide) ?_
  refine gd_icmp_ge (tgt := 12) dX2_wholeLots_5 (by decide) (fun hc => ?_) (fun hc => ?_)
  · have h := h.1 hc
    refine gd_iload_n 1 dX2_wholeLots_12 rfl rfl ?_
    refine gd_iload_n 1 dX2_wholeLots_13 rfl rfl ?_
    refine gd_aload_n 0 dX2_wholeLots_14 rfl rfl ?_
    refine gd_getI fX2_51 rfl dX2_wholeLots_15 ?_
    obtain ⟨hg, h⟩ := h
    refine gd_irem dX2_wholeLots_18 hg ?_
    refine gd_isub dX2_wholeLots_19 ?_
    exact gd_iret (ty := .int) dX2_wholeLots_20 rfl rfl h
  · have h := h.2 hc
    refine gd_iconst (x9 := 0) dX2_wholeLots_8 (by decide) ?_
    refine gd_goto (tgt := 20) dX2_wholeLots_9 (by decide) ?_
    exact gd_iret (ty := .int) dX2_wholeLots_20 rfl rfl h
theorem c_X2_wholeLots {g : ab_E} {d : Nat} {a0 : Nat} {a1 : Int32} {v : gd_D} {Q : ab_O → gd_D → Prop} (hd : 0 ≤ d) (h : wp_X2_wholeLots g d a0 a1 v Q) : gd_C g mX2_wholeLots d 0 0 [zR 2 a0, zI a1] v Q := gd_enterF (plainFor_of_name (by decide)) (Nat.le_of_ble_eq_true rfl) rfl (w_X2_wholeLots hd h)
def wp_X2_payForUnits (g : ab_E) (d : Nat) (a0 : Nat) (a1 : Nat) (a2 : Int32) (v : gd_D) (Q : ab_O → gd_D → Prop) : Prop :=
  ∀ y1 : Int64, y1 = ((a2 : Int32).toInt64) * ((v.1 9 a1 3 : Int32).toInt64) →
  vp_in (v.1 9 a1 1) 8 ∧
  ∀ y2 : Int64, y2 = v.2.1 0 (8 * a0 + (v.1 9 a1 1 : Int32).toNatClampNeg) 1 →
  ∀ v3 : gd_D, v3 = gd_sJ v 0 (8 * a0 + (v.1 9 a1 1 : Int32).toNatClampNeg) 1 (y2 - y1) →
  vp_in (v3.1 9 a1 0) 8 ∧
  ∀ y4 : Int64, y4 = v3.2.1 0 (8 * a0 + (v3.1 9 a1 0 : Int32).toNatClampNeg) 1 →
  ∀ v5 : gd_D, v5 = gd_sJ v3 0 (8 * a0 + (v3.1 9 a1 0 : Int32).toNatClampNeg) 1 (y4 + y1) →
  ∀ v6 : gd_D, v6 = gd_sI v5 9 a1 5 ((v5.1 9 a1 5) - a2) →
  Q (Sum.inl none) v6
theorem w_X2_payForUnits {g : ab_E} {d : Nat} {a0 : Nat} {a1 : Nat} {a2 : Int32} {v : gd_D} {Q : ab_O → gd_D → Prop} (hd : 0 ≤ d) (h : wp_X2_payForUnits g d a0 a1 a2 v Q) : gd_G g mX2_payForUnits d 0 0 0 [(0, zR 2 a0), (1, zR 9 a1), (2, zI a2)] [] v Q := by
  unfold wp_X2_payForUnits at h
  refine gd_iload_n 2 dX2_payForUnits_0 rfl rfl ?_
  refine gd_i2l dX2_payForUnits_1 ?_
  refine gd_aload_n 1 dX2_payForUnits_2 rfl rfl ?_
  refine gd_getI fX2_81 rfl dX2_payForUnits_3 ?_
  refine gd_i2l dX2_payForUnits_6 ?_
  refine gd_lmul dX2_payForUnits_7 ?_
  refine gd_nmJ (fun y1 ey1 => ?_)
  have h := h y1 ey1
  refine gd_lstore_n (L' := [(3, zJ y1), (0, zR 2 a0), (1, zR 9 a1), (2, zI a2)]) dX2_payForUnits_8 rfl (by decide) rfl ?_
  refine gd_aload_n 1 dX2_payForUnits_9 rfl rfl ?_
  refine gd_getR (x := a0) (kr := 13) fX2_11 rfl rfl dX2_payForUnits_10 rfl ?_
  refine gd_aload_n 2 dX2_payForUnits_13 rfl rfl ?_
  refine gd_getI fX2_75 rfl dX2_payForUnits_14 ?_
  obtain ⟨hb, h⟩ := h
  refine gd_aaload (n := 8) (kr := 0) (y := 8 * a0 + (v.1 9 a1 1 : Int32).toNatClampNeg) (by decide) rfl rfl dX2_payForUnits_17 rfl hb (if_pos (ab_inlt hb)) ?_
  refine gd_dup dX2_payForUnits_18 rfl ?_
  refine gd_getJ fX2_107 rfl dX2_payForUnits_19 ?_
  refine gd_nmJ (fun y2 ey2 => ?_)
  have h := h y2 ey2
  refine gd_lload_n 0 dX2_payForUnits_22 rfl rfl ?_
  refine gd_lsub dX2_payForUnits_23 ?_
  refine gd_putJn fX2_107 rfl rfl dX2_payForUnits_24 (fun v3 ev3 => ?_)
  have h := h v3 ev3
  refine gd_aload_n 1 dX2_payForUnits_27 rfl rfl ?_
  refine gd_getR (x := a0) (kr := 13) fX2_11 rfl rfl dX2_payForUnits_28 rfl ?_
  refine gd_aload_n 2 dX2_payForUnits_31 rfl rfl ?_
  refine gd_getI fX2_72 rfl dX2_payForUnits_32 ?_
  obtain ⟨hb, h⟩ := h
  refine gd_aaload (n := 8) (kr := 0) (y := 8 * a0 + (v3.1 9 a1 0 : Int32).toNatClampNeg) (by decide) rfl rfl dX2_payForUnits_35 rfl hb (if_pos (ab_inlt hb)) ?_
  refine gd_dup dX2_payForUnits_36 rfl ?_
  refine gd_getJ fX2_107 rfl dX2_payForUnits_37 ?_
  refine gd_nmJ (fun y4 ey4 => ?_)
  have h := h y4 ey4
  refine gd_lload_n 0 dX2_payForUnits_40 rfl rfl ?_
  refine gd_ladd dX2_payForUnits_41 ?_
  refine gd_putJn fX2_107 rfl rfl dX2_payForUnits_42 (fun v5 ev5 => ?_)
  have h := h v5 ev5
  refine gd_aload_n 2 dX2_payForUnits_45 rfl rfl ?_
  refine gd_dup dX2_payForUnits_46 rfl ?_
  refine gd_getI fX2_87 rfl dX2_payForUnits_47 ?_
  refine gd_iload_n 3 dX2_payForUnits_50 rfl rfl ?_
  refine gd_isub dX2_payForUnits_51 ?_
  refine gd_putIn fX2_87 rfl rfl dX2_payForUnits_52 (fun v6 ev6 => ?_)
  have h := h v6 ev6
  exact gd_vret dX2_payForUnits_55 rfl h
theorem c_X2_payForUnits {g : ab_E} {d : Nat} {a0 : Nat} {a1 : Nat} {a2 : Int32} {v : gd_D} {Q : ab_O → gd_D → Prop} (hd : 0 ≤ d) (h : wp_X2_payForUnits g d a0 a1 a2 v Q) : gd_C g mX2_payForUnits d 0 0 [zR 2 a0, zR 9 a1, zI a2] v Q := gd_enterF (plainFor_of_name (by decide)) (Nat.le_of_ble_eq_true rfl) rfl (w_X2_payForUnits hd h)
def wp_X2_settleInRing (g : ab_E) (d : Nat) (a0 : Nat) (a1 : Int32) (a2 : Int32) (v : gd_D) (Q : ab_O → gd_D → Prop) : Prop :=
  vp_in a1 24 ∧
  gd_C g mX2_payForUnits 2 0 0 [zR 2 a0, zR 9 (24 * a0 + (a1 : Int32).toNatClampNeg), zI a2] v (gd_rV (fun v1 =>
    vp_in a1 24 ∧
    ∀ x3 : Int32, x3 = v1.1 9 (24 * a0 + (a1 : Int32).toNatClampNeg) 6 →
    ∀ v4 : gd_D, v4 = gd_sI v1 9 (24 * a0 + (a1 : Int32).toNatClampNeg) 6 (x3 + a2) →
    Q (Sum.inl none) v4) (fun E v9 => Q (Sum.inr E) v9))
theorem w_X2_settleInRing {g : ab_E} {d : Nat} {a0 : Nat} {a1 : Int32} {a2 : Int32} {v : gd_D} {Q : ab_O → gd_D → Prop} (hd : 3 ≤ d) (h : wp_X2_settleInRing g d a0 a1 a2 v Q) : gd_G g mX2_settleInRing d 0 0 0 [(0, zR 2 a0), (1, zI a1), (2, zI a2)] [] v Q := by
  unfold wp_X2_settleInRing at h
  refine gd_aload_n 0 dX2_settleInRing_0 rfl rfl ?_
  refine gd_aload_n 0 dX2_settleInRing_1 rfl rfl ?_
  refine gd_getR (x := a0) (kr := 14) fX2_19 rfl rfl dX2_settleInRing_2 rfl ?_
  refine gd_iload_n 1 dX2_settleInRing_5 rfl rfl ?_
  obtain ⟨hb, h⟩ := h
  refine gd_aaload (n := 24) (kr := 9) (y := 24 * a0 + (a1 : Int32).toNatClampNeg) (by decide) rfl rfl dX2_settleInRing_6 rfl hb (if_pos (ab_inlt hb)) ?_
  refine gd_iload_n 2 dX2_settleInRing_7 rfl rfl ?_
  refine gd_callVV (As := [zR 9 (24 * a0 + (a1 : Int32).toNatClampNeg), zI a2]) (rest := []) (dy := 2) (my := 0) (sy := 0) (k := 2) (i := a0) lX2_110 iX2_payForUnits sX2_payForUnits rfl dX2_settleInRing_8 rfl rfl (gd_room (by omega) (by decide)) (by decide) (Nat.le_of_ble_eq_true rfl) h (fun v1 h => ?_)
  refine gd_aload_n 0 dX2_settleInRing_11 rfl rfl ?_
  refine gd_getR (x := a0) (kr := 14) fX2_19 rfl rfl dX2_settleInRing_12 rfl ?_
  refine gd_iload_n 1 dX2_settleInRing_15 rfl rfl ?_
  obtain ⟨hb, h⟩ := h
  refine gd_aaload (n := 24) (kr := 9) (y := 24 * a0 + (a1 : Int32).toNatClampNeg) (by decide) rfl rfl dX2_settleInRing_16 rfl hb (if_pos (ab_inlt hb)) ?_
  refine gd_dup dX2_settleInRing_17 rfl ?_
  refine gd_getI fX2_90 rfl dX2_settleInRing_18 ?_
  refine gd_nmI (fun x3 ex3 => ?_)
  have h := h x3 ex3
  refine gd_iload_n 2 dX2_settleInRing_21 rfl rfl ?_
  refine gd_iadd dX2_settleInRing_22 ?_
  refine gd_putIn fX2_90 rfl rfl dX2_settleInRing_23 (fun v4 ev4 => ?_)
  have h := h v4 ev4
  exact gd_vret dX2_settleInRing_26 rfl h
theorem c_X2_settleInRing {g : ab_E} {d : Nat} {a0 : Nat} {a1 : Int32} {a2 : Int32} {v : gd_D} {Q : ab_O → gd_D → Prop} (hd : 3 ≤ d) (h : wp_X2_settleInRing g d a0 a1 a2 v Q) : gd_C g mX2_settleInRing d 0 0 [zR 2 a0, zI a1, zI a2] v Q := gd_enterF (plainFor_of_name (by decide)) (Nat.le_of_ble_eq_true rfl) rfl (w_X2_settleInRing hd h)
def wp_X2_deliver (g : ab_E) (d : Nat) (a0 : Nat) (a1 : Int32) (a2 : Int32) (v : gd_D) (Q : ab_O → gd_D → Prop) : Prop :=
  vp_in a1 24 ∧
  gd_C g mX2_payForUnits 2 0 0 [zR 2 a0, zR 9 (24 * a0 + (a1 : Int32).toNatClampNeg), zI a2] v (gd_rV (fun v1 =>
    vp_in a1 24 ∧
    ∀ x3 : Int32, x3 = v1.1 9 (24 * a0 + (a1 : Int32).toNatClampNeg) 7 →
    ∀ v4 : gd_D, v4 = gd_sI v1 9 (24 * a0 + (a1 : Int32).toNatClampNeg) 7 (x3 + a2) →
    vp_in a1 24 ∧
    ∀ x5 : Int32, x5 = v4.1 9 (24 * a0 + (a1 : Int32).toNatClampNeg) 0 →
    vp_in x5 8 ∧
    ∀ x6 : Int32, x6 = v4.1 0 (8 * a0 + (x5 : Int32).toNatClampNeg) 0 →
    ∀ v7 : gd_D, v7 = gd_sI v4 0 (8 * a0 + (x5 : Int32).toNatClampNeg) 0 (x6 - a2) →
    vp_in a1 24 ∧
    ∀ x8 : Int32, x8 = v7.1 9 (24 * a0 + (a1 : Int32).toNatClampNeg) 1 →
    vp_in x8 8 ∧
    ∀ x9 : Int32, x9 = v7.1 0 (8 * a0 + (x8 : Int32).toNatClampNeg) 0 →
    ∀ v10 : gd_D, v10 = gd_sI v7 0 (8 * a0 + (x8 : Int32).toNatClampNeg) 0 (x9 + a2) →
    Q (Sum.inl none) v10) (fun E v9 => Q (Sum.inr E) v9))
theorem w_X2_deliver {g : ab_E} {d : Nat} {a0 : Nat} {a1 : Int32} {a2 : Int32} {v : gd_D} {Q : ab_O → gd_D → Prop} (hd : 3 ≤ d) (h : wp_X2_deliver g d a0 a1 a2 v Q) : gd_G g mX2_deliver d 0 0 0 [(0, zR 2 a0), (1, zI a1), (2, zI a2)] [] v Q := by
  unfold wp_X2_deliver at h
  refine gd_aload_n 0 dX2_deliver_0 rfl rfl ?_
  refine gd_aload_n 0 dX2_deliver_1 rfl rfl ?_
  refine gd_getR (x := a0) (kr := 14) fX2_19 rfl rfl dX2_deliver_2 rfl ?_
  refine gd_iload_n 1 dX2_deliver_5 rfl rfl ?_
  obtain ⟨hb, h⟩ := h
  refine gd_aaload (n := 24) (kr := 9) (y := 24 * a0 + (a1 : Int32).toNatClampNeg) (by decide) rfl rfl dX2_deliver_6 rfl hb (if_pos (ab_inlt hb)) ?_
  refine gd_iload_n 2 dX2_deliver_7 rfl rfl ?_
  refine gd_callVV (As := [zR 9 (24 * a0 + (a1 : Int32).toNatClampNeg), zI a2]) (rest := []) (dy := 2) (my := 0) (sy := 0) (k := 2) (i := a0) lX2_110 iX2_payForUnits sX2_payForUnits rfl dX2_deliver_8 rfl rfl (gd_room (by omega) (by decide)) (by decide) (Nat.le_of_ble_eq_true rfl) h (fun v1 h => ?_)
  refine gd_aload_n 0 dX2_deliver_11 rfl rfl ?_
  refine gd_getR (x := a0) (kr := 14) fX2_19 rfl rfl dX2_deliver_12 rfl ?_
  refine gd_iload_n 1 dX2_deliver_15 rfl rfl ?_
  obtain ⟨hb, h⟩ := h
  refine gd_aaload (n := 24) (kr := 9) (y := 24 * a0 + (a1 : Int32).toNatClampNeg) (by decide) rfl rfl dX2_deliver_16 rfl hb (if_pos (ab_inlt hb)) ?_
  refine gd_dup dX2_deliver_17 rfl ?_
  refine gd_getI fX2_93 rfl dX2_deliver_18 ?_
  refine gd_nmI (fun x3 ex3 => ?_)
  have h := h x3 ex3
  refine gd_iload_n 2 dX2_deliver_21 rfl rfl ?_
  refine gd_iadd dX2_deliver_22 ?_
  refine gd_putIn fX2_93 rfl rfl dX2_deliver_23 (fun v4 ev4 => ?_)
  have h := h v4 ev4
  refine gd_aload_n 0 dX2_deliver_26 rfl rfl ?_
  refine gd_getR (x := a0) (kr := 13) fX2_11 rfl rfl dX2_deliver_27 rfl ?_
  refine gd_aload_n 0 dX2_deliver_30 rfl rfl ?_
  refine gd_getR (x := a0) (kr := 14) fX2_19 rfl rfl dX2_deliver_31 rfl ?_
  refine gd_iload_n 1 dX2_deliver_34 rfl rfl ?_
  obtain ⟨hb, h⟩ := h
  refine gd_aaload (n := 24) (kr := 9) (y := 24 * a0 + (a1 : Int32).toNatClampNeg) (by decide) rfl rfl dX2_deliver_35 rfl hb (if_pos (ab_inlt hb)) ?_
  refine gd_getI fX2_72 rfl dX2_deliver_36 ?_
  refine gd_nmI (fun x5 ex5 => ?_)
  have h := h x5 ex5
  obtain ⟨hb, h⟩ := h
  refine gd_aaload (n := 8) (kr := 0) (y := 8 * a0 + (x5 : Int32).toNatClampNeg) (by decide) rfl rfl dX2_deliver_39 rfl hb (if_pos (ab_inlt hb)) ?_
  refine gd_dup dX2_deliver_40 rfl ?_
  refine gd_getI fX2_114 rfl dX2_deliver_41 ?_
  refine gd_nmI (fun x6 ex6 => ?_)
  have h := h x6 ex6
  refine gd_iload_n 2 dX2_deliver_44 rfl rfl ?_
  refine gd_isub dX2_deliver_45 ?_
  refine gd_putIn fX2_114 rfl rfl dX2_deliver_46 (fun v7 ev7 => ?_)
  have h := h v7 ev7
  refine gd_aload_n 0 dX2_deliver_49 rfl rfl ?_
  refine gd_getR (x := a0) (kr := 13) fX2_11 rfl rfl dX2_deliver_50 rfl ?_
  refine gd_aload_n 0 dX2_deliver_53 rfl rfl ?_
  refine gd_getR (x := a0) (kr := 14) fX2_19 rfl rfl dX2_deliver_54 rfl ?_
  refine gd_iload_n 1 dX2_deliver_57 rfl rfl ?_
  obtain ⟨hb, h⟩ := h
  refine gd_aaload (n := 24) (kr := 9) (y := 24 * a0 + (a1 : Int32).toNatClampNeg) (by decide) rfl rfl dX2_deliver_58 rfl hb (if_pos (ab_inlt hb)) ?_
  refine gd_getI fX2_75 rfl dX2_deliver_59 ?_
  refine gd_nmI (fun x8 ex8 => ?_)
  have h := h x8 ex8
  obtain ⟨hb, h⟩ := h
  refine gd_aaload (n := 8) (kr := 0) (y := 8 * a0 + (x8 : Int32).toNatClampNeg) (by decide) rfl rfl dX2_deliver_62 rfl hb (if_pos (ab_inlt hb)) ?_
  refine gd_dup dX2_deliver_63 rfl ?_
  refine gd_getI fX2_114 rfl dX2_deliver_64 ?_
  refine gd_nmI (fun x9 ex9 => ?_)
  have h := h x9 ex9
  refine gd_iload_n 2 dX2_deliver_67 rfl rfl ?_
  refine gd_iadd dX2_deliver_68 ?_
  refine gd_putIn fX2_114 rfl rfl dX2_deliver_69 (fun v10 ev10 => ?_)
  have h := h v10 ev10
  exact gd_vret dX2_deliver_72 rfl h
theorem c_X2_deliver {g : ab_E} {d : Nat} {a0 : Nat} {a1 : Int32} {a2 : Int32} {v : gd_D} {Q : ab_O → gd_D → Prop} (hd : 3 ≤ d) (h : wp_X2_deliver g d a0 a1 a2 v Q) : gd_C g mX2_deliver d 0 0 [zR 2 a0, zI a1, zI a2] v Q := gd_enterF (plainFor_of_name (by decide)) (Nat.le_of_ble_eq_true rfl) rfl (w_X2_deliver hd h)
def wp_X2_deliverable (g : ab_E) (d : Nat) (a0 : Nat) (a1 : Int32) (v : gd_D) (Q : ab_O → gd_D → Prop) : Prop :=
  vp_in a1 24 ∧
  ∀ x1 : Int32, x1 = v.1 9 (24 * a0 + (a1 : Int32).toNatClampNeg) 0 →
  vp_in x1 8 ∧
  vp_in a1 24 ∧
  ∀ x2 : Int32, x2 = v.1 9 (24 * a0 + (a1 : Int32).toNatClampNeg) 5 →
  (((v.1 0 (8 * a0 + (x1 : Int32).toNatClampNeg) 0 : Int32) < x2) →
    gd_C g mX2_wholeLots 2 0 0 [zR 2 a0, zI (v.1 0 (8 * a0 + (x1 : Int32).toNatClampNeg) 0)] v (gd_rI (fun (r4 : Int32) v3 =>
      Q (Sum.inl (some (zI r4))) v3) (fun E v9 => Q (Sum.inr E) v9))) ∧
  ((¬ (v.1 0 (8 * a0 + (x1 : Int32).toNatClampNeg) 0 : Int32) < x2) →
    vp_in a1 24 ∧
    ∀ x5 : Int32, x5 = v.1 9 (24 * a0 + (a1 : Int32).toNatClampNeg) 5 →
    Q (Sum.inl (some (zI x5))) v)
theorem w_X2_deliverable {g : ab_E} {d : Nat} {a0 : Nat} {a1 : Int32} {v : gd_D} {Q : ab_O → gd_D → Prop} (hd : 3 ≤ d) (h : wp_X2_deliverable g d a0 a1 v Q) : gd_G g mX2_deliverable d 0 0 0 [(0, zR 2 a0), (1, zI a1)] [] v Q := by
  unfold wp_X2_deliverable at h
  refine gd_aload_n 0 dX2_deliverable_0 rfl rfl ?_
  refine gd_getR (x := a0) (kr := 13) fX2_11 rfl rfl dX2_deliverable_1 rfl ?_
  refine gd_aload_n 0 dX2_deliverable_4 rfl rfl ?_
  refine gd_getR (x := a0) (kr := 14) fX2_19 rfl rfl dX2_deliverable_5 rfl ?_
  refine gd_iload_n 1 dX2_deliverable_8 rfl rfl ?_
  obtain ⟨hb, h⟩ := h
  refine gd_aaload (n := 24) (kr := 9) (y := 24 * a0 + (a1 : Int32).toNatClampNeg) (by decide) rfl rfl dX2_deliverable_9 rfl hb (if_pos (ab_inlt hb)) ?_
  refine gd_getI fX2_72 rfl dX2_deliverable_10 ?_
  refine gd_nmI (fun x1 ex1 => ?_)
  have h := h x1 ex1
  obtain ⟨hb, h⟩ := h
  refine gd_aaload (n := 8) (kr := 0) (y := 8 * a0 + (x1 : Int32).toNatClampNeg) (by decide) rfl rfl dX2_deliverable_13 rfl hb (if_pos (ab_inlt hb)) ?_
  refine gd_getI fX2_114 rfl dX2_deliverable_14 ?_
  refine gd_istore_n (L' := [(2, zI (v.1 0 (8 * a0 + (x1 : Int32).toNatClampNeg) 0)), (0, zR 2 a0), (1, zI a1)]) dX2_deliverable_17 rfl (by decide) rfl ?_
  refine gd_iload_n 0 dX2_deliverable_18 rfl rfl ?_
  refine gd_aload_n 1 dX2_deliverable_19 rfl rfl ?_
  refine gd_getR (x := a0) (kr := 14) fX2_19 rfl rfl dX2_deliverable_20 rfl ?_
  refine gd_iload_n 2 dX2_deliverable_23 rfl rfl ?_
  obtain ⟨hb, h⟩ := h
  refine gd_aaload (n := 24) (kr := 9) (y := 24 * a0 + (a1 : Int32).toNatClampNeg) (by decide) rfl rfl dX2_deliverable_24 rfl hb (if_pos (ab_inlt hb)) ?_
  refine gd_getI fX2_87 rfl dX2_deliverable_25 ?_
  refine gd_nmI (fun x2 ex2 => ?_)
  have h := h x2 ex2
  refine gd_icmp_lt (tgt := 43) dX2_deliverable_28 (by decide) (fun hc => ?_) (fun hc => ?_)
  · have h := h.1 hc
    refine gd_aload_n 1 dX2_deliverable_43 rfl rfl ?_
    refine gd_iload_n 0 dX2_deliverable_44 rfl rfl ?_
    refine gd_callVI (As := [zI (v.1 0 (8 * a0 + (x1 : Int32).toNatClampNeg) 0)]) (rest := []) (dy := 2) (my := 0) (sy := 0) (k := 2) (i := a0) lX2_117 iX2_wholeLots sX2_wholeLots rfl dX2_deliverable_45 rfl rfl (gd_room (by omega) (by decide)) (by decide) (Nat.le_of_ble_eq_true rfl) h (fun r4 v3 h => ?_)
    exact gd_iret (ty := .int) dX2_deliverable_48 rfl rfl h
  · have h := h.2 hc
    refine gd_aload_n 1 dX2_deliverable_31 rfl rfl ?_
    refine gd_getR (x := a0) (kr := 14) fX2_19 rfl rfl dX2_deliverable_32 rfl ?_
    refine gd_iload_n 2 dX2_deliverable_35 rfl rfl ?_
    obtain ⟨hb, h⟩ := h
    refine gd_aaload (n := 24) (kr := 9) (y := 24 * a0 + (a1 : Int32).toNatClampNeg) (by decide) rfl rfl dX2_deliverable_36 rfl hb (if_pos (ab_inlt hb)) ?_
    refine gd_getI fX2_87 rfl dX2_deliverable_37 ?_
    refine gd_nmI (fun x5 ex5 => ?_)
    have h := h x5 ex5
    refine gd_goto (tgt := 48) dX2_deliverable_40 (by decide) ?_
    exact gd_iret (ty := .int) dX2_deliverable_48 rfl rfl h
theorem c_X2_deliverable {g : ab_E} {d : Nat} {a0 : Nat} {a1 : Int32} {v : gd_D} {Q : ab_O → gd_D → Prop} (hd : 3 ≤ d) (h : wp_X2_deliverable g d a0 a1 v Q) : gd_C g mX2_deliverable d 0 0 [zR 2 a0, zI a1] v Q := gd_enterF (plainFor_of_name (by decide)) (Nat.le_of_ble_eq_true rfl) rfl (w_X2_deliverable hd h)
def wp_X2_penaltyOf (g : ab_E) (d : Nat) (a0 : Nat) (a1 : Int32) (v : gd_D) (Q : ab_O → gd_D → Prop) : Prop :=
  vp_in a1 24 ∧
  ∀ x1 : Int32, x1 = v.1 9 (24 * a0 + (a1 : Int32).toNatClampNeg) 5 →
  vp_in a1 24 ∧
  ∀ x2 : Int32, x2 = v.1 9 (24 * a0 + (a1 : Int32).toNatClampNeg) 3 →
  ∀ y3 : Int64, y3 = ((x1 : Int32).toInt64) * ((x2 : Int32).toInt64) →
  ¬ (100000 : Int64) = 0 ∧
  Q (Sum.inl (some (zJ ((y3 * ((v.1 2 a0 6 : Int32).toInt64)) / 100000)))) v
theorem w_X2_penaltyOf {g : ab_E} {d : Nat} {a0 : Nat} {a1 : Int32} {v : gd_D} {Q : ab_O → gd_D → Prop} (hd : 0 ≤ d) (h : wp_X2_penaltyOf g d a0 a1 v Q) : gd_G g mX2_penaltyOf d 0 0 0 [(0, zR 2 a0), (1, zI a1)] [] v Q := by
  unfold wp_X2_penaltyOf at h
  refine gd_aload_n 0 dX2_penaltyOf_0 rfl rfl ?_
  refine gd_getR (x := a0) (kr := 14) fX2_19 rfl rfl dX2_penaltyOf_1 rfl ?_
  refine gd_iload_n 1 dX2_penaltyOf_4 rfl rfl ?_
  obtain ⟨hb, h⟩ := h
  refine gd_aaload (n := 24) (kr := 9) (y := 24 * a0 + (a1 : Int32).toNatClampNeg) (by decide) rfl rfl dX2_penaltyOf_5 rfl hb (if_pos (ab_inlt hb)) ?_
  refine gd_getI fX2_87 rfl dX2_penaltyOf_6 ?_
  refine gd_nmI (fun x1 ex1 => ?_)
  have h := h x1 ex1
  refine gd_i2l dX2_penaltyOf_9 ?_
  refine gd_aload_n 0 dX2_penaltyOf_10 rfl rfl ?_
  refine gd_getR (x := a0) (kr := 14) fX2_19 rfl rfl dX2_penaltyOf_11 rfl ?_
  refine gd_iload_n 1 dX2_penaltyOf_14 rfl rfl ?_
  obtain ⟨hb, h⟩ := h
  refine gd_aaload (n := 24) (kr := 9) (y := 24 * a0 + (a1 : Int32).toNatClampNeg) (by decide) rfl rfl dX2_penaltyOf_15 rfl hb (if_pos (ab_inlt hb)) ?_
  refine gd_getI fX2_81 rfl dX2_penaltyOf_16 ?_
  refine gd_nmI (fun x2 ex2 => ?_)
  have h := h x2 ex2
  refine gd_i2l dX2_penaltyOf_19 ?_
  refine gd_lmul dX2_penaltyOf_20 ?_
  refine gd_nmJ (fun y3 ey3 => ?_)
  have h := h y3 ey3
  refine gd_aload_n 0 dX2_penaltyOf_21 rfl rfl ?_
  refine gd_getI fX2_48 rfl dX2_penaltyOf_22 ?_
  refine gd_i2l dX2_penaltyOf_25 ?_
  refine gd_lmul dX2_penaltyOf_26 ?_
  refine gd_ldc2 kX2_121 dX2_penaltyOf_27 ?_
  obtain ⟨hg, h⟩ := h
  refine gd_ldiv dX2_penaltyOf_30 hg ?_
  exact gd_lret dX2_penaltyOf_31 rfl h
theorem c_X2_penaltyOf {g : ab_E} {d : Nat} {a0 : Nat} {a1 : Int32} {v : gd_D} {Q : ab_O → gd_D → Prop} (hd : 0 ≤ d) (h : wp_X2_penaltyOf g d a0 a1 v Q) : gd_C g mX2_penaltyOf d 0 0 [zR 2 a0, zI a1] v Q := gd_enterF (plainFor_of_name (by decide)) (Nat.le_of_ble_eq_true rfl) rfl (w_X2_penaltyOf hd h)
def wp_X2_payPenalty (g : ab_E) (d : Nat) (a0 : Nat) (a1 : Int32) (a2 : Int64) (v : gd_D) (Q : ab_O → gd_D → Prop) : Prop :=
  vp_in a1 24 ∧
  ∀ x1 : Int32, x1 = v.1 9 (24 * a0 + (a1 : Int32).toNatClampNeg) 0 →
  vp_in x1 8 ∧
  vp_in a1 24 ∧
  ∀ x2 : Int32, x2 = v.1 9 (24 * a0 + (a1 : Int32).toNatClampNeg) 1 →
  vp_in x2 8 ∧
  ∀ y3 : Int64, y3 = v.2.1 0 (8 * a0 + (x1 : Int32).toNatClampNeg) 1 →
  ∀ v4 : gd_D, v4 = gd_sJ v 0 (8 * a0 + (x1 : Int32).toNatClampNeg) 1 (y3 - a2) →
  ∀ y5 : Int64, y5 = v4.2.1 0 (8 * a0 + (x1 : Int32).toNatClampNeg) 2 →
  ∀ v6 : gd_D, v6 = gd_sJ v4 0 (8 * a0 + (x1 : Int32).toNatClampNeg) 2 (y5 + a2) →
  ∀ y7 : Int64, y7 = v6.2.1 0 (8 * a0 + (x2 : Int32).toNatClampNeg) 1 →
  ∀ v8 : gd_D, v8 = gd_sJ v6 0 (8 * a0 + (x2 : Int32).toNatClampNeg) 1 (y7 + a2) →
  ∀ y9 : Int64, y9 = v8.2.1 0 (8 * a0 + (x2 : Int32).toNatClampNeg) 3 →
  ∀ v10 : gd_D, v10 = gd_sJ v8 0 (8 * a0 + (x2 : Int32).toNatClampNeg) 3 (y9 + a2) →
  Q (Sum.inl none) v10
theorem w_X2_payPenalty {g : ab_E} {d : Nat} {a0 : Nat} {a1 : Int32} {a2 : Int64} {v : gd_D} {Q : ab_O → gd_D → Prop} (hd : 0 ≤ d) (h : wp_X2_payPenalty g d a0 a1 a2 v Q) : gd_G g mX2_payPenalty d 0 0 0 [(0, zR 2 a0), (1, zI a1), (2, zJ a2)] [] v Q := by
  unfold wp_X2_payPenalty at h
  refine gd_aload_n 0 dX2_payPenalty_0 rfl rfl ?_
  refine gd_getR (x := a0) (kr := 13) fX2_11 rfl rfl dX2_payPenalty_1 rfl ?_
  refine gd_aload_n 0 dX2_payPenalty_4 rfl rfl ?_
  refine gd_getR (x := a0) (kr := 14) fX2_19 rfl rfl dX2_payPenalty_5 rfl ?_
  refine gd_iload_n 1 dX2_payPenalty_8 rfl rfl ?_
  obtain ⟨hb, h⟩ := h
  refine gd_aaload (n := 24) (kr := 9) (y := 24 * a0 + (a1 : Int32).toNatClampNeg) (by decide) rfl rfl dX2_payPenalty_9 rfl hb (if_pos (ab_inlt hb)) ?_
  refine gd_getI fX2_72 rfl dX2_payPenalty_10 ?_
  refine gd_nmI (fun x1 ex1 => ?_)
  have h := h x1 ex1
  obtain ⟨hb, h⟩ := h
  refine gd_aaload (n := 8) (kr := 0) (y := 8 * a0 + (x1 : Int32).toNatClampNeg) (by decide) rfl rfl dX2_payPenalty_13 rfl hb (if_pos (ab_inlt hb)) ?_
  refine gd_astore (L' := [(4, zR 0 (8 * a0 + (x1 : Int32).toNatClampNeg)), (0, zR 2 a0), (1, zI a1), (2, zJ a2)]) dX2_payPenalty_14 (by decide) rfl ?_
  refine gd_aload_n 1 dX2_payPenalty_16 rfl rfl ?_
  refine gd_getR (x := a0) (kr := 13) fX2_11 rfl rfl dX2_payPenalty_17 rfl ?_
  refine gd_aload_n 1 dX2_payPenalty_20 rfl rfl ?_
  refine gd_getR (x := a0) (kr := 14) fX2_19 rfl rfl dX2_payPenalty_21 rfl ?_
  refine gd_iload_n 2 dX2_payPenalty_24 rfl rfl ?_
  obtain ⟨hb, h⟩ := h
  refine gd_aaload (n := 24) (kr := 9) (y := 24 * a0 + (a1 : Int32).toNatClampNeg) (by decide) rfl rfl dX2_payPenalty_25 rfl hb (if_pos (ab_inlt hb)) ?_
  refine gd_getI fX2_75 rfl dX2_payPenalty_26 ?_
  refine gd_nmI (fun x2 ex2 => ?_)
  have h := h x2 ex2
  obtain ⟨hb, h⟩ := h
  refine gd_aaload (n := 8) (kr := 0) (y := 8 * a0 + (x2 : Int32).toNatClampNeg) (by decide) rfl rfl dX2_payPenalty_29 rfl hb (if_pos (ab_inlt hb)) ?_
  refine gd_astore (L' := [(5, zR 0 (8 * a0 + (x2 : Int32).toNatClampNeg)), (4, zR 0 (8 * a0 + (x1 : Int32).toNatClampNeg)), (0, zR 2 a0), (1, zI a1), (2, zJ a2)]) dX2_payPenalty_30 (by decide) rfl ?_
  refine gd_aload 1 dX2_payPenalty_32 rfl ?_
  refine gd_dup dX2_payPenalty_34 rfl ?_
  refine gd_getJ fX2_107 rfl dX2_payPenalty_35 ?_
  refine gd_nmJ (fun y3 ey3 => ?_)
  have h := h y3 ey3
  refine gd_lload_n 4 dX2_payPenalty_38 rfl rfl ?_
  refine gd_lsub dX2_payPenalty_39 ?_
  refine gd_putJn fX2_107 rfl rfl dX2_payPenalty_40 (fun v4 ev4 => ?_)
  have h := h v4 ev4
  refine gd_aload 1 dX2_payPenalty_43 rfl ?_
  refine gd_dup dX2_payPenalty_45 rfl ?_
  refine gd_getJ fX2_123 rfl dX2_payPenalty_46 ?_
  refine gd_nmJ (fun y5 ey5 => ?_)
  have h := h y5 ey5
  refine gd_lload_n 4 dX2_payPenalty_49 rfl rfl ?_
  refine gd_ladd dX2_payPenalty_50 ?_
  refine gd_putJn fX2_123 rfl rfl dX2_payPenalty_51 (fun v6 ev6 => ?_)
  have h := h v6 ev6
  refine gd_aload 0 dX2_payPenalty_54 rfl ?_
  refine gd_dup dX2_payPenalty_56 rfl ?_
  refine gd_getJ fX2_107 rfl dX2_payPenalty_57 ?_
  refine gd_nmJ (fun y7 ey7 => ?_)
  have h := h y7 ey7
  refine gd_lload_n 4 dX2_payPenalty_60 rfl rfl ?_
  refine gd_ladd dX2_payPenalty_61 ?_
  refine gd_putJn fX2_107 rfl rfl dX2_payPenalty_62 (fun v8 ev8 => ?_)
  have h := h v8 ev8
  refine gd_aload 0 dX2_payPenalty_65 rfl ?_
  refine gd_dup dX2_payPenalty_67 rfl ?_
  refine gd_getJ fX2_126 rfl dX2_payPenalty_68 ?_
  refine gd_nmJ (fun y9 ey9 => ?_)
  have h := h y9 ey9
  refine gd_lload_n 4 dX2_payPenalty_71 rfl rfl ?_
  refine gd_ladd dX2_payPenalty_72 ?_
  refine gd_putJn fX2_126 rfl rfl dX2_payPenalty_73 (fun v10 ev10 => ?_)
  have h := h v10 ev10
  exact gd_vret dX2_payPenalty_76 rfl h
theorem c_X2_payPenalty {g : ab_E} {d : Nat} {a0 : Nat} {a1 : Int32} {a2 : Int64} {v : gd_D} {Q : ab_O → gd_D → Prop} (hd : 0 ≤ d) (h : wp_X2_payPenalty g d a0 a1 a2 v Q) : gd_C g mX2_payPenalty d 0 0 [zR 2 a0, zI a1, zJ a2] v Q := gd_enterF (plainFor_of_name (by decide)) (Nat.le_of_ble_eq_true rfl) rfl (w_X2_payPenalty hd h)
def wp_X2_buyOutside (g : ab_E) (d : Nat) (a0 : Nat) (a1 : Int32) (a2 : Int32) (v : gd_D) (Q : ab_O → gd_D → Prop) : Prop :=
  vp_in a1 24 ∧
  ∀ x1 : Int32, x1 = v.1 9 (24 * a0 + (a1 : Int32).toNatClampNeg) 1 →
  vp_in x1 8 ∧
  ∀ y2 : Int64, y2 = ((a2 : Int32).toInt64) * ((v.1 2 a0 5 : Int32).toInt64) →
  ∀ x3 : Int32, x3 = (v.1 0 (8 * a0 + (x1 : Int32).toNatClampNeg) 0) + a2 →
  ∀ v4 : gd_D, v4 = gd_sI v 0 (8 * a0 + (x1 : Int32).toNatClampNeg) 0 x3 →
  ∀ x5 : Int32, x5 = v4.1 0 (8 * a0 + (x1 : Int32).toNatClampNeg) 5 →
  ∀ v6 : gd_D, v6 = gd_sI v4 0 (8 * a0 + (x1 : Int32).toNatClampNeg) 5 (x5 + a2) →
  ∀ y7 : Int64, y7 = v6.2.1 0 (8 * a0 + (x1 : Int32).toNatClampNeg) 1 →
  ∀ v8 : gd_D, v8 = gd_sJ v6 0 (8 * a0 + (x1 : Int32).toNatClampNeg) 1 (y7 - y2) →
  ∀ v9 : gd_D, v9 = gd_sJ v8 2 a0 9 ((v8.2.1 2 a0 9) + y2) →
  Q (Sum.inl none) v9
theorem w_X2_buyOutside {g : ab_E} {d : Nat} {a0 : Nat} {a1 : Int32} {a2 : Int32} {v : gd_D} {Q : ab_O → gd_D → Prop} (hd : 0 ≤ d) (h : wp_X2_buyOutside g d a0 a1 a2 v Q) : gd_G g mX2_buyOutside d 0 0 0 [(0, zR 2 a0), (1, zI a1), (2, zI a2)] [] v Q := by
  unfold wp_X2_buyOutside at h
  refine gd_aload_n 0 dX2_buyOutside_0 rfl rfl ?_
  refine gd_getR (x := a0) (kr := 13) fX2_11 rfl rfl dX2_buyOutside_1 rfl ?_
  refine gd_aload_n 0 dX2_buyOutside_4 rfl rfl ?_
  refine gd_getR (x := a0) (kr := 14) fX2_19 rfl rfl dX2_buyOutside_5 rfl ?_
  refine gd_iload_n 1 dX2_buyOutside_8 rfl rfl ?_
  obtain ⟨hb, h⟩ := h
  refine gd_aaload (n := 24) (kr := 9) (y := 24 * a0 + (a1 : Int32).toNatClampNeg) (by decide) rfl rfl dX2_buyOutside_9 rfl hb (if_pos (ab_inlt hb)) ?_
  refine gd_getI fX2_75 rfl dX2_buyOutside_10 ?_
  refine gd_nmI (fun x1 ex1 => ?_)
  have h := h x1 ex1
  obtain ⟨hb, h⟩ := h
  refine gd_aaload (n := 8) (kr := 0) (y := 8 * a0 + (x1 : Int32).toNatClampNeg) (by decide) rfl rfl dX2_buyOutside_13 rfl hb (if_pos (ab_inlt hb)) ?_
  refine gd_astore_n (L' := [(3, zR 0 (8 * a0 + (x1 : Int32).toNatClampNeg)), (0, zR 2 a0), (1, zI a1), (2, zI a2)]) dX2_buyOutside_14 rfl (by decide) rfl ?_
  refine gd_iload_n 3 dX2_buyOutside_15 rfl rfl ?_
  refine gd_i2l dX2_buyOutside_16 ?_
  refine gd_aload_n 1 dX2_buyOutside_17 rfl rfl ?_
  refine gd_getI fX2_45 rfl dX2_buyOutside_18 ?_
  refine gd_i2l dX2_buyOutside_21 ?_
  refine gd_lmul dX2_buyOutside_22 ?_
  refine gd_nmJ (fun y2 ey2 => ?_)
  have h := h y2 ey2
  refine gd_lstore (L' := [(4, zJ y2), (3, zR 0 (8 * a0 + (x1 : Int32).toNatClampNeg)), (0, zR 2 a0), (1, zI a1), (2, zI a2)]) dX2_buyOutside_23 (by decide) rfl ?_
  refine gd_aload_n 1 dX2_buyOutside_25 rfl rfl ?_
  refine gd_dup dX2_buyOutside_26 rfl ?_
  refine gd_getI fX2_114 rfl dX2_buyOutside_27 ?_
  refine gd_iload_n 4 dX2_buyOutside_30 rfl rfl ?_
  refine gd_iadd dX2_buyOutside_31 ?_
  refine gd_nmI (fun x3 ex3 => ?_)
  have h := h x3 ex3
  refine gd_putIn fX2_114 rfl rfl dX2_buyOutside_32 (fun v4 ev4 => ?_)
  have h := h v4 ev4
  refine gd_aload_n 1 dX2_buyOutside_35 rfl rfl ?_
  refine gd_dup dX2_buyOutside_36 rfl ?_
  refine gd_getI fX2_129 rfl dX2_buyOutside_37 ?_
  refine gd_nmI (fun x5 ex5 => ?_)
  have h := h x5 ex5
  refine gd_iload_n 4 dX2_buyOutside_40 rfl rfl ?_
  refine gd_iadd dX2_buyOutside_41 ?_
  refine gd_putIn fX2_129 rfl rfl dX2_buyOutside_42 (fun v6 ev6 => ?_)
  have h := h v6 ev6
  refine gd_aload_n 1 dX2_buyOutside_45 rfl rfl ?_
  refine gd_dup dX2_buyOutside_46 rfl ?_
  refine gd_getJ fX2_107 rfl dX2_buyOutside_47 ?_
  refine gd_nmJ (fun y7 ey7 => ?_)
  have h := h y7 ey7
  refine gd_lload 0 dX2_buyOutside_50 rfl ?_
  refine gd_lsub dX2_buyOutside_52 ?_
  refine gd_putJn fX2_107 rfl rfl dX2_buyOutside_53 (fun v8 ev8 => ?_)
  have h := h v8 ev8
  refine gd_aload_n 2 dX2_buyOutside_56 rfl rfl ?_
  refine gd_dup dX2_buyOutside_57 rfl ?_
  refine gd_getJ fX2_57 rfl dX2_buyOutside_58 ?_
  refine gd_lload 0 dX2_buyOutside_61 rfl ?_
  refine gd_ladd dX2_buyOutside_63 ?_
  refine gd_putJn fX2_57 rfl rfl dX2_buyOutside_64 (fun v9 ev9 => ?_)
  have h := h v9 ev9
  exact gd_vret dX2_buyOutside_67 rfl h
theorem c_X2_buyOutside {g : ab_E} {d : Nat} {a0 : Nat} {a1 : Int32} {a2 : Int32} {v : gd_D} {Q : ab_O → gd_D → Prop} (hd : 0 ≤ d) (h : wp_X2_buyOutside g d a0 a1 a2 v Q) : gd_C g mX2_buyOutside d 0 0 [zR 2 a0, zI a1, zI a2] v Q := gd_enterF (plainFor_of_name (by decide)) (Nat.le_of_ble_eq_true rfl) rfl (w_X2_buyOutside hd h)
def wp_X2_close (g : ab_E) (d : Nat) (a0 : Nat) (a1 : Int32) (a2 : Int32) (v : gd_D) (Q : ab_O → gd_D → Prop) : Prop :=
  vp_in a1 24 ∧
  ∀ x1 : Int32, x1 = v.1 9 (24 * a0 + (a1 : Int32).toNatClampNeg) 0 →
  vp_in x1 8 ∧
  vp_in a1 24 ∧
  ∀ x2 : Int32, x2 = v.1 9 (24 * a0 + (a1 : Int32).toNatClampNeg) 3 →
  gd_C g mJ9_max_7cf53 2 0 0 [zI 0, zI ((v.1 2 a0 5) - x2)] v (gd_rI (fun (r4 : Int32) v3 =>
    ∀ y5 : Int64, y5 = ((a2 : Int32).toInt64) * ((r4 : Int32).toInt64) →
    ∀ y6 : Int64, y6 = v3.2.1 0 (8 * a0 + (x1 : Int32).toNatClampNeg) 1 →
    ∀ v7 : gd_D, v7 = gd_sJ v3 0 (8 * a0 + (x1 : Int32).toNatClampNeg) 1 (y6 - y5) →
    ∀ y8 : Int64, y8 = v7.2.1 0 (8 * a0 + (x1 : Int32).toNatClampNeg) 4 →
    ∀ v9 : gd_D, v9 = gd_sJ v7 0 (8 * a0 + (x1 : Int32).toNatClampNeg) 4 (y8 + y5) →
    vp_in a1 24 ∧
    ∀ x10 : Int32, x10 = v9.1 9 (24 * a0 + (a1 : Int32).toNatClampNeg) 1 →
    vp_in x10 8 ∧
    ∀ y11 : Int64, y11 = v9.2.1 0 (8 * a0 + (x10 : Int32).toNatClampNeg) 1 →
    ∀ v12 : gd_D, v12 = gd_sJ v9 0 (8 * a0 + (x10 : Int32).toNatClampNeg) 1 (y11 + y5) →
    vp_in a1 24 ∧
    ∀ x13 : Int32, x13 = v12.1 9 (24 * a0 + (a1 : Int32).toNatClampNeg) 5 →
    ∀ v14 : gd_D, v14 = gd_sI v12 9 (24 * a0 + (a1 : Int32).toNatClampNeg) 5 (x13 - a2) →
    vp_in a1 24 ∧
    ∀ x15 : Int32, x15 = v14.1 9 (24 * a0 + (a1 : Int32).toNatClampNeg) 8 →
    ∀ v16 : gd_D, v16 = gd_sI v14 9 (24 * a0 + (a1 : Int32).toNatClampNeg) 8 (x15 + a2) →
    Q (Sum.inl none) v16) (fun E v9 => Q (Sum.inr E) v9))
theorem w_X2_close {g : ab_E} {d : Nat} {a0 : Nat} {a1 : Int32} {a2 : Int32} {v : gd_D} {Q : ab_O → gd_D → Prop} (hd : 3 ≤ d) (h : wp_X2_close g d a0 a1 a2 v Q) : gd_G g mX2_close d 0 0 0 [(0, zR 2 a0), (1, zI a1), (2, zI a2)] [] v Q := by
  unfold wp_X2_close at h
  refine gd_aload_n 0 dX2_close_0 rfl rfl ?_
  refine gd_getR (x := a0) (kr := 13) fX2_11 rfl rfl dX2_close_1 rfl ?_
  refine gd_aload_n 0 dX2_close_4 rfl rfl ?_
  refine gd_getR (x := a0) (kr := 14) fX2_19 rfl rfl dX2_close_5 rfl ?_
  refine gd_iload_n 1 dX2_close_8 rfl rfl ?_
  obtain ⟨hb, h⟩ := h
  refine gd_aaload (n := 24) (kr := 9) (y := 24 * a0 + (a1 : Int32).toNatClampNeg) (by decide) rfl rfl dX2_close_9 rfl hb (if_pos (ab_inlt hb)) ?_
  refine gd_getI fX2_72 rfl dX2_close_10 ?_
  refine gd_nmI (fun x1 ex1 => ?_)
  have h := h x1 ex1
  obtain ⟨hb, h⟩ := h
  refine gd_aaload (n := 8) (kr := 0) (y := 8 * a0 + (x1 : Int32).toNatClampNeg) (by decide) rfl rfl dX2_close_13 rfl hb (if_pos (ab_inlt hb)) ?_
  refine gd_astore_n (L' := [(3, zR 0 (8 * a0 + (x1 : Int32).toNatClampNeg)), (0, zR 2 a0), (1, zI a1), (2, zI a2)]) dX2_close_14 rfl (by decide) rfl ?_
  refine gd_iload_n 3 dX2_close_15 rfl rfl ?_
  refine gd_i2l dX2_close_16 ?_
  refine gd_iconst (x9 := 0) dX2_close_17 (by decide) ?_
  refine gd_aload_n 1 dX2_close_18 rfl rfl ?_
  refine gd_getI fX2_45 rfl dX2_close_19 ?_
  refine gd_aload_n 1 dX2_close_22 rfl rfl ?_
  refine gd_getR (x := a0) (kr := 14) fX2_19 rfl rfl dX2_close_23 rfl ?_
  refine gd_iload_n 2 dX2_close_26 rfl rfl ?_
  obtain ⟨hb, h⟩ := h
  refine gd_aaload (n := 24) (kr := 9) (y := 24 * a0 + (a1 : Int32).toNatClampNeg) (by decide) rfl rfl dX2_close_27 rfl hb (if_pos (ab_inlt hb)) ?_
  refine gd_getI fX2_81 rfl dX2_close_28 ?_
  refine gd_nmI (fun x2 ex2 => ?_)
  have h := h x2 ex2
  refine gd_isub dX2_close_31 ?_
  refine gd_callSI (As := [zI 0, zI ((v.1 2 a0 5) - x2)]) (rest := [zJ ((a2 : Int32).toInt64)]) (dy := 2) (my := 0) (sy := 0) lX2_132 tJ9_max_7cf53 dX2_close_32 rfl rfl (gd_room (by omega) (by decide)) (by decide) (Nat.le_of_ble_eq_true rfl) h (fun r4 v3 h => ?_)
  refine gd_i2l dX2_close_35 ?_
  refine gd_lmul dX2_close_36 ?_
  refine gd_nmJ (fun y5 ey5 => ?_)
  have h := h y5 ey5
  refine gd_lstore (L' := [(4, zJ y5), (3, zR 0 (8 * a0 + (x1 : Int32).toNatClampNeg)), (0, zR 2 a0), (1, zI a1), (2, zI a2)]) dX2_close_37 (by decide) rfl ?_
  refine gd_aload_n 1 dX2_close_39 rfl rfl ?_
  refine gd_dup dX2_close_40 rfl ?_
  refine gd_getJ fX2_107 rfl dX2_close_41 ?_
  refine gd_nmJ (fun y6 ey6 => ?_)
  have h := h y6 ey6
  refine gd_lload 0 dX2_close_44 rfl ?_
  refine gd_lsub dX2_close_46 ?_
  refine gd_putJn fX2_107 rfl rfl dX2_close_47 (fun v7 ev7 => ?_)
  have h := h v7 ev7
  refine gd_aload_n 1 dX2_close_50 rfl rfl ?_
  refine gd_dup dX2_close_51 rfl ?_
  refine gd_getJ fX2_137 rfl dX2_close_52 ?_
  refine gd_nmJ (fun y8 ey8 => ?_)
  have h := h y8 ey8
  refine gd_lload 0 dX2_close_55 rfl ?_
  refine gd_ladd dX2_close_57 ?_
  refine gd_putJn fX2_137 rfl rfl dX2_close_58 (fun v9 ev9 => ?_)
  have h := h v9 ev9
  refine gd_aload_n 2 dX2_close_61 rfl rfl ?_
  refine gd_getR (x := a0) (kr := 13) fX2_11 rfl rfl dX2_close_62 rfl ?_
  refine gd_aload_n 2 dX2_close_65 rfl rfl ?_
  refine gd_getR (x := a0) (kr := 14) fX2_19 rfl rfl dX2_close_66 rfl ?_
  refine gd_iload_n 3 dX2_close_69 rfl rfl ?_
  obtain ⟨hb, h⟩ := h
  refine gd_aaload (n := 24) (kr := 9) (y := 24 * a0 + (a1 : Int32).toNatClampNeg) (by decide) rfl rfl dX2_close_70 rfl hb (if_pos (ab_inlt hb)) ?_
  refine gd_getI fX2_75 rfl dX2_close_71 ?_
  refine gd_nmI (fun x10 ex10 => ?_)
  have h := h x10 ex10
  obtain ⟨hb, h⟩ := h
  refine gd_aaload (n := 8) (kr := 0) (y := 8 * a0 + (x10 : Int32).toNatClampNeg) (by decide) rfl rfl dX2_close_74 rfl hb (if_pos (ab_inlt hb)) ?_
  refine gd_dup dX2_close_75 rfl ?_
  refine gd_getJ fX2_107 rfl dX2_close_76 ?_
  refine gd_nmJ (fun y11 ey11 => ?_)
  have h := h y11 ey11
  refine gd_lload 0 dX2_close_79 rfl ?_
  refine gd_ladd dX2_close_81 ?_
  refine gd_putJn fX2_107 rfl rfl dX2_close_82 (fun v12 ev12 => ?_)
  have h := h v12 ev12
  refine gd_aload_n 2 dX2_close_85 rfl rfl ?_
  refine gd_getR (x := a0) (kr := 14) fX2_19 rfl rfl dX2_close_86 rfl ?_
  refine gd_iload_n 3 dX2_close_89 rfl rfl ?_
  obtain ⟨hb, h⟩ := h
  refine gd_aaload (n := 24) (kr := 9) (y := 24 * a0 + (a1 : Int32).toNatClampNeg) (by decide) rfl rfl dX2_close_90 rfl hb (if_pos (ab_inlt hb)) ?_
  refine gd_dup dX2_close_91 rfl ?_
  refine gd_getI fX2_87 rfl dX2_close_92 ?_
  refine gd_nmI (fun x13 ex13 => ?_)
  have h := h x13 ex13
  refine gd_iload_n 4 dX2_close_95 rfl rfl ?_
  refine gd_isub dX2_close_96 ?_
  refine gd_putIn fX2_87 rfl rfl dX2_close_97 (fun v14 ev14 => ?_)
  have h := h v14 ev14
  refine gd_aload_n 2 dX2_close_100 rfl rfl ?_
  refine gd_getR (x := a0) (kr := 14) fX2_19 rfl rfl dX2_close_101 rfl ?_
  refine gd_iload_n 3 dX2_close_104 rfl rfl ?_
  obtain ⟨hb, h⟩ := h
  refine gd_aaload (n := 24) (kr := 9) (y := 24 * a0 + (a1 : Int32).toNatClampNeg) (by decide) rfl rfl dX2_close_105 rfl hb (if_pos (ab_inlt hb)) ?_
  refine gd_dup dX2_close_106 rfl ?_
  refine gd_getI fX2_96 rfl dX2_close_107 ?_
  refine gd_nmI (fun x15 ex15 => ?_)
  have h := h x15 ex15
  refine gd_iload_n 4 dX2_close_110 rfl rfl ?_
  refine gd_iadd dX2_close_111 ?_
  refine gd_putIn fX2_96 rfl rfl dX2_close_112 (fun v16 ev16 => ?_)
  have h := h v16 ev16
  exact gd_vret dX2_close_115 rfl h
theorem c_X2_close {g : ab_E} {d : Nat} {a0 : Nat} {a1 : Int32} {a2 : Int32} {v : gd_D} {Q : ab_O → gd_D → Prop} (hd : 3 ≤ d) (h : wp_X2_close g d a0 a1 a2 v Q) : gd_C g mX2_close d 0 0 [zR 2 a0, zI a1, zI a2] v Q := gd_enterF (plainFor_of_name (by decide)) (Nat.le_of_ble_eq_true rfl) rfl (w_X2_close hd h)
