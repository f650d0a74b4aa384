def wp_X11_thrown (g : ab_E) (d : Nat) (v : gd_D) (Q : ab_O → gd_D → Prop) : Prop :=
  Q (Sum.inl (some (zI (v.1 11 0 0)))) v
theorem w_X11_thrown {g : ab_E} {d : Nat} {v : gd_D} {Q : ab_O → gd_D → Prop} (hd : 0 ≤ d) (h : wp_X11_thrown g d v Q) : gd_G g mX11_thrown d 0 0 0 [(0, zR 11 0)] [] v Q := by
  unfold wp_X11_thrown at h
  refine gd_aload_n 0 dX11_thrown_0 rfl rfl ?_
  refine gd_getI fX11_1 rfl dX11_thrown_1 ?_
  exact gd_iret (ty := .int) dX11_thrown_4 rfl rfl h
theorem c_X11_thrown {g : ab_E} {d : Nat} {v : gd_D} {Q : ab_O → gd_D → Prop} (hd : 0 ≤ d) (h : wp_X11_thrown g d v Q) : gd_C g mX11_thrown d 0 0 [zR 11 0] v Q := gd_enterF (plainFor_of_name (by decide)) (Nat.le_of_ble_eq_true rfl) rfl (w_X11_thrown hd h)
def wp_X11_isFine_26 (g : ab_E) (d : Nat) (v : gd_D) (Q : ab_O → gd_D → Prop) : Prop :=
  ((¬ (v.1 11 0 0 : Int32) = 0) →
    Q (Sum.inl (some (zI 0))) v) ∧
  (((v.1 11 0 0 : Int32) = 0) →
    Q (Sum.inl (some (zI 1))) v)
theorem w_X11_isFine_26 {g : ab_E} {d : Nat} {v : gd_D} {Q : ab_O → gd_D → Prop} (hd : 0 ≤ d) (h : wp_X11_isFine_26 g d v Q) : gd_G g mX11_isFine d 0 0 26 [(0, zR 11 0)] [] v Q := by
  unfold wp_X11_isFine_26 at h
  refine gd_aload_n 0 dX11_isFine_26 rfl rfl ?_
  refine gd_getI fX11_1 rfl dX11_isFine_27 ?_
  refine gd_if_ne (tgt := 37) dX11_isFine_30 (by decide) (fun hc => ?_) (fun hc => ?_)
  · have h := h.1 hc
    refine gd_iconst (x9 := 0) dX11_isFine_37 (by decide) ?_
    exact gd_iret (ty := .boolean) dX11_isFine_38 rfl rfl h
  · have h := h.2 hc
    refine gd_iconst (x9 := 1) dX11_isFine_33 (by decide) ?_
    refine gd_goto (tgt := 38) dX11_isFine_34 (by decide) ?_
    exact gd_iret (ty := .boolean) dX11_isFine_38 rfl rfl h
def wp_X11_isFine (g : ab_E) (d : Nat) (a1 : Int32) (a2 : Int32) (a3 : Int32) (v : gd_D) (Q : ab_O → gd_D → Prop) : Prop :=
  ((¬ (a1 : Int32) = 0) →
    wp_X11_isFine_26 g d v Q) ∧
  (((a1 : Int32) = 0) →
    ((¬ (v.1 11 0 0 : Int32) = 0) →
      wp_X11_isFine_26 g d v Q) ∧
    (((v.1 11 0 0 : Int32) = 0) →
      ∀ v1 : gd_D, v1 = gd_sI v 11 0 0 a2 →
      vp_in a3 3 ∧
      vp_in a3 3 ∧
      ∀ v2 : gd_D, v2 = gd_sI v1 39 0 ((a3 : Int32).toNatClampNeg) ((v1.1 39 0 (a3 : Int32).toNatClampNeg) + 1) →
      wp_X11_isFine_26 g d v2 Q))
theorem w_X11_isFine {g : ab_E} {d : Nat} {a1 : Int32} {a2 : Int32} {a3 : Int32} {v : gd_D} {Q : ab_O → gd_D → Prop} (hd : 0 ≤ d) (h : wp_X11_isFine g d a1 a2 a3 v Q) : gd_G g mX11_isFine d 0 0 0 [(0, zR 11 0), (1, zI a1), (2, zI a2), (3, zI a3)] [] v Q := by
  unfold wp_X11_isFine at h
  refine gd_iload_n 1 dX11_isFine_0 rfl rfl ?_
  refine gd_if_ne (tgt := 26) dX11_isFine_1 (by decide) (fun hc => ?_) (fun hc => ?_)
  · have h := h.1 hc
    refine gd_locals [0] rfl ?_
    exact w_X11_isFine_26 (by omega) h
  · have h := h.2 hc
    refine gd_aload_n 0 dX11_isFine_4 rfl rfl ?_
    refine gd_getI fX11_1 rfl dX11_isFine_5 ?_
    refine gd_if_ne (tgt := 26) dX11_isFine_8 (by decide) (fun hc => ?_) (fun hc => ?_)
    · have h := h.1 hc
      refine gd_locals [0] rfl ?_
      exact w_X11_isFine_26 (by omega) h
    · have h := h.2 hc
      refine gd_aload_n 0 dX11_isFine_11 rfl rfl ?_
      refine gd_iload_n 2 dX11_isFine_12 rfl rfl ?_
      refine gd_putIn fX11_1 rfl rfl dX11_isFine_13 (fun v1 ev1 => ?_)
      have h := h v1 ev1
      refine gd_aload_n 0 dX11_isFine_16 rfl rfl ?_
      refine gd_getR (x := 0) (kr := 39) fX11_7 rfl rfl dX11_isFine_17 rfl ?_
      refine gd_iload_n 3 dX11_isFine_20 rfl rfl ?_
      refine gd_dup2_11 dX11_isFine_21 rfl rfl ?_
      obtain ⟨hb, h⟩ := h
      refine gd_iaload (n := 3) (by decide) rfl dX11_isFine_22 rfl hb ?_
      refine gd_iconst (x9 := 1) dX11_isFine_23 (by decide) ?_
      refine gd_iadd dX11_isFine_24 ?_
      obtain ⟨hb, h⟩ := h
      refine gd_iastoren (n := 3) (by decide) rfl rfl dX11_isFine_25 rfl hb (fun v2 ev2 => ?_)
      have h := h v2 ev2
      refine gd_locals [0] rfl ?_
      exact w_X11_isFine_26 (by omega) h
theorem c_X11_isFine {g : ab_E} {d : Nat} {a1 : Int32} {a2 : Int32} {a3 : Int32} {v : gd_D} {Q : ab_O → gd_D → Prop} (hd : 0 ≤ d) (h : wp_X11_isFine g d a1 a2 a3 v Q) : gd_C g mX11_isFine d 0 0 [zR 11 0, zI a1, zI a2, zI a3] v Q := gd_enterF (plainFor_of_name (by decide)) (Nat.le_of_ble_eq_true rfl) rfl (w_X11_isFine hd h)
def wp_X11_lies (g : ab_E) (d : Nat) (a0 : Int64) (a2 : Int64) (a4 : Int64) (v : gd_D) (Q : ab_O → gd_D → Prop) : Prop :=
  (((a0 : Int64) < a2) →
    Q (Sum.inl (some (zI 0))) v) ∧
  ((¬ (a0 : Int64) < a2) →
    (((a4 : Int64) < a0) →
      Q (Sum.inl (some (zI 0))) v) ∧
    ((¬ (a4 : Int64) < a0) →
      Q (Sum.inl (some (zI 1))) v))
theorem w_X11_lies {g : ab_E} {d : Nat} {a0 : Int64} {a2 : Int64} {a4 : Int64} {v : gd_D} {Q : ab_O → gd_D → Prop} (hd : 0 ≤ d) (h : wp_X11_lies g d a0 a2 a4 v Q) : gd_G g mX11_lies d 0 0 0 [(0, zJ a0), (2, zJ a2), (4, zJ a4)] [] v Q := by
  unfold wp_X11_lies at h
  refine gd_lload_n 0 dX11_lies_0 rfl rfl ?_
  refine gd_lload_n 1 dX11_lies_1 rfl rfl ?_
  refine gd_lc_lt (tgt := 17) dX11_lies_2 dX11_lies_3 (by decide) (fun hc => ?_) (fun hc => ?_)
  · have h := h.1 hc
    refine gd_iconst (x9 := 0) dX11_lies_17 (by decide) ?_
    exact gd_iret (ty := .boolean) dX11_lies_18 rfl rfl h
  · have h := h.2 hc
    refine gd_lload_n 0 dX11_lies_6 rfl rfl ?_
    refine gd_lload 2 dX11_lies_7 rfl ?_
    refine gd_lc_gt (tgt := 17) dX11_lies_9 dX11_lies_10 (by decide) (fun hc => ?_) (fun hc => ?_)
    · have h := h.1 hc
      refine gd_iconst (x9 := 0) dX11_lies_17 (by decide) ?_
      exact gd_iret (ty := .boolean) dX11_lies_18 rfl rfl h
    · have h := h.2 hc
      refine gd_iconst (x9 := 1) dX11_lies_13 (by decide) ?_
      refine gd_goto (tgt := 18) dX11_lies_14 (by decide) ?_
      exact gd_iret (ty := .boolean) dX11_lies_18 rfl rfl h
theorem c_X11_lies {g : ab_E} {d : Nat} {a0 : Int64} {a2 : Int64} {a4 : Int64} {v : gd_D} {Q : ab_O → gd_D → Prop} (hd : 0 ≤ d) (h : wp_X11_lies g d a0 a2 a4 v Q) : gd_C g mX11_lies d 0 0 [zJ a0, zJ a2, zJ a4] v Q := gd_enterF (plainFor_of_name (by decide)) (Nat.le_of_ble_eq_true rfl) rfl (w_X11_lies hd h)
def wp_X11_dealers (g : ab_E) (d : Nat) (v : gd_D) (Q : ab_O → gd_D → Prop) : Prop :=
  vp_in 0 773 ∧
  ∀ x1 : Int32, x1 = (v.2.1 40 0 (0 : Int32).toNatClampNeg : Int64).toInt32 →
  Q (Sum.inl (some (zI x1))) v
theorem w_X11_dealers {g : ab_E} {d : Nat} {v : gd_D} {Q : ab_O → gd_D → Prop} (hd : 0 ≤ d) (h : wp_X11_dealers g d v Q) : gd_G g mX11_dealers d 0 0 0 [(0, zR 11 0)] [] v Q := by
  unfold wp_X11_dealers at h
  refine gd_aload_n 0 dX11_dealers_0 rfl rfl ?_
  refine gd_getR (x := 0) (kr := 40) fX11_17 rfl rfl dX11_dealers_1 rfl ?_
  refine gd_iconst (x9 := 0) dX11_dealers_4 (by decide) ?_
  obtain ⟨hb, h⟩ := h
  refine gd_laload (n := 773) (by decide) rfl dX11_dealers_5 rfl hb ?_
  refine gd_l2i dX11_dealers_6 ?_
  refine gd_nmI (fun x1 ex1 => ?_)
  have h := h x1 ex1
  exact gd_iret (ty := .int) dX11_dealers_7 rfl rfl h
theorem c_X11_dealers {g : ab_E} {d : Nat} {v : gd_D} {Q : ab_O → gd_D → Prop} (hd : 0 ≤ d) (h : wp_X11_dealers g d v Q) : gd_C g mX11_dealers d 0 0 [zR 11 0] v Q := gd_enterF (plainFor_of_name (by decide)) (Nat.le_of_ble_eq_true rfl) rfl (w_X11_dealers hd h)
def wp_X11_sales (g : ab_E) (d : Nat) (v : gd_D) (Q : ab_O → gd_D → Prop) : Prop :=
  vp_in 1 773 ∧
  ∀ x1 : Int32, x1 = (v.2.1 40 0 (1 : Int32).toNatClampNeg : Int64).toInt32 →
  Q (Sum.inl (some (zI x1))) v
theorem w_X11_sales {g : ab_E} {d : Nat} {v : gd_D} {Q : ab_O → gd_D → Prop} (hd : 0 ≤ d) (h : wp_X11_sales g d v Q) : gd_G g mX11_sales d 0 0 0 [(0, zR 11 0)] [] v Q := by
  unfold wp_X11_sales at h
  refine gd_aload_n 0 dX11_sales_0 rfl rfl ?_
  refine gd_getR (x := 0) (kr := 40) fX11_17 rfl rfl dX11_sales_1 rfl ?_
  refine gd_iconst (x9 := 1) dX11_sales_4 (by decide) ?_
  obtain ⟨hb, h⟩ := h
  refine gd_laload (n := 773) (by decide) rfl dX11_sales_5 rfl hb ?_
  refine gd_l2i dX11_sales_6 ?_
  refine gd_nmI (fun x1 ex1 => ?_)
  have h := h x1 ex1
  exact gd_iret (ty := .int) dX11_sales_7 rfl rfl h
theorem c_X11_sales {g : ab_E} {d : Nat} {v : gd_D} {Q : ab_O → gd_D → Prop} (hd : 0 ≤ d) (h : wp_X11_sales g d v Q) : gd_C g mX11_sales d 0 0 [zR 11 0] v Q := gd_enterF (plainFor_of_name (by decide)) (Nat.le_of_ble_eq_true rfl) rfl (w_X11_sales hd h)
def wp_X11_of0 (g : ab_E) (d : Nat) (a1 : Int32) (a2 : Int32) (v : gd_D) (Q : ab_O → gd_D → Prop) : Prop :=
  vp_in ((57 + (9 * a1)) + a2) 773 ∧
  ∀ y1 : Int64, y1 = v.2.1 40 0 ((57 + (9 * a1)) + a2 : Int32).toNatClampNeg →
  Q (Sum.inl (some (zI ((y1 : Int64).toInt32)))) v
theorem w_X11_of0 {g : ab_E} {d : Nat} {a1 : Int32} {a2 : Int32} {v : gd_D} {Q : ab_O → gd_D → Prop} (hd : 0 ≤ d) (h : wp_X11_of0 g d a1 a2 v Q) : gd_G g mX11_of0 d 0 0 0 [(0, zR 11 0), (1, zI a1), (2, zI a2)] [] v Q := by
  unfold wp_X11_of0 at h
  refine gd_aload_n 0 dX11_of0_0 rfl rfl ?_
  refine gd_getR (x := 0) (kr := 40) fX11_17 rfl rfl dX11_of0_1 rfl ?_
  refine gd_bipush (x9 := 57) dX11_of0_4 (by decide) ?_
  refine gd_bipush (x9 := 9) dX11_of0_6 (by decide) ?_
  refine gd_iload_n 1 dX11_of0_8 rfl rfl ?_
  refine gd_imul dX11_of0_9 ?_
  refine gd_iadd dX11_of0_10 ?_
  refine gd_iload_n 2 dX11_of0_11 rfl rfl ?_
  refine gd_iadd dX11_of0_12 ?_
  obtain ⟨hb, h⟩ := h
  refine gd_laload (n := 773) (by decide) rfl dX11_of0_13 rfl hb ?_
  refine gd_nmJ (fun y1 ey1 => ?_)
  have h := h y1 ey1
  refine gd_l2i dX11_of0_14 ?_
  exact gd_iret (ty := .int) dX11_of0_15 rfl rfl h
theorem c_X11_of0 {g : ab_E} {d : Nat} {a1 : Int32} {a2 : Int32} {v : gd_D} {Q : ab_O → gd_D → Prop} (hd : 0 ≤ d) (h : wp_X11_of0 g d a1 a2 v Q) : gd_C g mX11_of0 d 0 0 [zR 11 0, zI a1, zI a2] v Q := gd_enterF (plainFor_of_name (by decide)) (Nat.le_of_ble_eq_true rfl) rfl (w_X11_of0 hd h)
def wp_X11_adds (g : ab_E) (d : Nat) (a1 : Int32) (a2 : Int32) (a3 : Int64) (v : gd_D) (Q : ab_O → gd_D → Prop) : Prop :=
  vp_in ((57 + (9 * a1)) + a2) 773 ∧
  ∀ y1 : Int64, y1 = v.2.1 40 0 ((57 + (9 * a1)) + a2 : Int32).toNatClampNeg →
  vp_in ((57 + (9 * a1)) + a2) 773 ∧
  ∀ v2 : gd_D, v2 = gd_sJ v 40 0 (((57 + (9 * a1)) + a2 : Int32).toNatClampNeg) (y1 + a3) →
  Q (Sum.inl none) v2
theorem w_X11_adds {g : ab_E} {d : Nat} {a1 : Int32} {a2 : Int32} {a3 : Int64} {v : gd_D} {Q : ab_O → gd_D → Prop} (hd : 0 ≤ d) (h : wp_X11_adds g d a1 a2 a3 v Q) : gd_G g mX11_adds d 0 0 0 [(0, zR 11 0), (1, zI a1), (2, zI a2), (3, zJ a3)] [] v Q := by
  unfold wp_X11_adds at h
  refine gd_aload_n 0 dX11_adds_0 rfl rfl ?_
  refine gd_getR (x := 0) (kr := 40) fX11_17 rfl rfl dX11_adds_1 rfl ?_
  refine gd_bipush (x9 := 57) dX11_adds_4 (by decide) ?_
  refine gd_bipush (x9 := 9) dX11_adds_6 (by decide) ?_
  refine gd_iload_n 1 dX11_adds_8 rfl rfl ?_
  refine gd_imul dX11_adds_9 ?_
  refine gd_iadd dX11_adds_10 ?_
  refine gd_iload_n 2 dX11_adds_11 rfl rfl ?_
  refine gd_iadd dX11_adds_12 ?_
  refine gd_dup2_11 dX11_adds_13 rfl rfl ?_
  obtain ⟨hb, h⟩ := h
  refine gd_laload (n := 773) (by decide) rfl dX11_adds_14 rfl hb ?_
  refine gd_nmJ (fun y1 ey1 => ?_)
  have h := h y1 ey1
  refine gd_lload_n 3 dX11_adds_15 rfl rfl ?_
  refine gd_ladd dX11_adds_16 ?_
  obtain ⟨hb, h⟩ := h
  refine gd_lastoren (n := 773) (by decide) rfl rfl dX11_adds_17 rfl hb (fun v2 ev2 => ?_)
  have h := h v2 ev2
  exact gd_vret dX11_adds_18 rfl h
theorem c_X11_adds {g : ab_E} {d : Nat} {a1 : Int32} {a2 : Int32} {a3 : Int64} {v : gd_D} {Q : ab_O → gd_D → Prop} (hd : 0 ≤ d) (h : wp_X11_adds g d a1 a2 a3 v Q) : gd_C g mX11_adds d 0 0 [zR 11 0, zI a1, zI a2, zJ a3] v Q := gd_enterF (plainFor_of_name (by decide)) (Nat.le_of_ble_eq_true rfl) rfl (w_X11_adds hd h)
def wp_X11_pays (g : ab_E) (d : Nat) (a1 : Int32) (a2 : Int32) (a3 : Int64) (v : gd_D) (Q : ab_O → gd_D → Prop) : Prop :=
  vp_in ((9 + (6 * a1)) + 1) 773 ∧
  ∀ y1 : Int64, y1 = v.2.1 40 0 ((9 + (6 * a1)) + 1 : Int32).toNatClampNeg →
  vp_in ((9 + (6 * a1)) + 1) 773 ∧
  ∀ v2 : gd_D, v2 = gd_sJ v 40 0 (((9 + (6 * a1)) + 1 : Int32).toNatClampNeg) (y1 - a3) →
  vp_in ((9 + (6 * a2)) + 1) 773 ∧
  ∀ y3 : Int64, y3 = v2.2.1 40 0 ((9 + (6 * a2)) + 1 : Int32).toNatClampNeg →
  vp_in ((9 + (6 * a2)) + 1) 773 ∧
  ∀ v4 : gd_D, v4 = gd_sJ v2 40 0 (((9 + (6 * a2)) + 1 : Int32).toNatClampNeg) (y3 + a3) →
  Q (Sum.inl none) v4
theorem w_X11_pays {g : ab_E} {d : Nat} {a1 : Int32} {a2 : Int32} {a3 : Int64} {v : gd_D} {Q : ab_O → gd_D → Prop} (hd : 0 ≤ d) (h : wp_X11_pays g d a1 a2 a3 v Q) : gd_G g mX11_pays d 0 0 0 [(0, zR 11 0), (1, zI a1), (2, zI a2), (3, zJ a3)] [] v Q := by
  unfold wp_X11_pays at h
  refine gd_aload_n 0 dX11_pays_0 rfl rfl ?_
  refine gd_getR (x := 0) (kr := 40) fX11_17 rfl rfl dX11_pays_1 rfl ?_
  refine gd_bipush (x9 := 9) dX11_pays_4 (by decide) ?_
  refine gd_bipush (x9 := 6) dX11_pays_6 (by decide) ?_
  refine gd_iload_n 1 dX11_pays_8 rfl rfl ?_
  refine gd_imul dX11_pays_9 ?_
  refine gd_iadd dX11_pays_10 ?_
  refine gd_iconst (x9 := 1) dX11_pays_11 (by decide) ?_
  refine gd_iadd dX11_pays_12 ?_
  refine gd_dup2_11 dX11_pays_13 rfl rfl ?_
  obtain ⟨hb, h⟩ := h
  refine gd_laload (n := 773) (by decide) rfl dX11_pays_14 rfl hb ?_
  refine gd_nmJ (fun y1 ey1 => ?_)
  have h := h y1 ey1
  refine gd_lload_n 3 dX11_pays_15 rfl rfl ?_
  refine gd_lsub dX11_pays_16 ?_
  obtain ⟨hb, h⟩ := h
  refine gd_lastoren (n := 773) (by decide) rfl rfl dX11_pays_17 rfl hb (fun v2 ev2 => ?_)
  have h := h v2 ev2
  refine gd_aload_n 0 dX11_pays_18 rfl rfl ?_
  refine gd_getR (x := 0) (kr := 40) fX11_17 rfl rfl dX11_pays_19 rfl ?_
  refine gd_bipush (x9 := 9) dX11_pays_22 (by decide) ?_
  refine gd_bipush (x9 := 6) dX11_pays_24 (by decide) ?_
  refine gd_iload_n 2 dX11_pays_26 rfl rfl ?_
  refine gd_imul dX11_pays_27 ?_
  refine gd_iadd dX11_pays_28 ?_
  refine gd_iconst (x9 := 1) dX11_pays_29 (by decide) ?_
  refine gd_iadd dX11_pays_30 ?_
  refine gd_dup2_11 dX11_pays_31 rfl rfl ?_
  obtain ⟨hb, h⟩ := h
  refine gd_laload (n := 773) (by decide) rfl dX11_pays_32 rfl hb ?_
  refine gd_nmJ (fun y3 ey3 => ?_)
  have h := h y3 ey3
  refine gd_lload_n 3 dX11_pays_33 rfl rfl ?_
  refine gd_ladd dX11_pays_34 ?_
  obtain ⟨hb, h⟩ := h
  refine gd_lastoren (n := 773) (by decide) rfl rfl dX11_pays_35 rfl hb (fun v4 ev4 => ?_)
  have h := h v4 ev4
  exact gd_vret dX11_pays_36 rfl h
theorem c_X11_pays {g : ab_E} {d : Nat} {a1 : Int32} {a2 : Int32} {a3 : Int64} {v : gd_D} {Q : ab_O → gd_D → Prop} (hd : 0 ≤ d) (h : wp_X11_pays g d a1 a2 a3 v Q) : gd_C g mX11_pays d 0 0 [zR 11 0, zI a1, zI a2, zJ a3] v Q := gd_enterF (plainFor_of_name (by decide)) (Nat.le_of_ble_eq_true rfl) rfl (w_X11_pays hd h)
def wp_X11_keeps (g : ab_E) (d : Nat) (v : gd_D) (Q : ab_O → gd_D → Prop) : Prop :=
  ((¬ (v.1 11 0 6 : Int32) = 8) →
    gd_G g mX11_keeps d 0 0 52 [(0, zR 11 0), (1, zI 0)] [] v Q) ∧
  (((v.1 11 0 6 : Int32) = 8) →
    gd_G g mX11_keeps d 0 0 11 [(0, zR 11 0), (1, zI 0)] [] v Q)
theorem w_X11_keeps {g : ab_E} {d : Nat} {v : gd_D} {Q : ab_O → gd_D → Prop} (hd : 0 ≤ d) (h : wp_X11_keeps g d v Q) : gd_G g mX11_keeps d 0 0 0 [(0, zR 11 0)] [] v Q := by
  unfold wp_X11_keeps at h
  refine gd_aload_n 0 dX11_keeps_0 rfl rfl ?_
  refine gd_getI fX11_96 rfl dX11_keeps_1 ?_
  refine gd_bipush (x9 := 8) dX11_keeps_4 (by decide) ?_
  refine gd_icmp_ne (tgt := 50) dX11_keeps_6 (by decide) (fun hc => ?_) (fun hc => ?_)
  · have h := h.1 hc
    refine gd_iconst (x9 := 0) dX11_keeps_50 (by decide) ?_
    refine gd_istore_n (L' := [(1, zI 0), (0, zR 11 0)]) dX11_keeps_51 rfl (by decide) rfl ?_
    refine gd_locals [1, 0] rfl ?_
    exact h
  · have h := h.2 hc
    refine gd_iconst (x9 := 0) dX11_keeps_9 (by decide) ?_
    refine gd_istore_n (L' := [(1, zI 0), (0, zR 11 0)]) dX11_keeps_10 rfl (by decide) rfl ?_
    refine gd_locals [1, 0] rfl ?_
    exact h
def wp_X11_keeps_11 (g : ab_E) (d : Nat) (a1 : Int32) (v : gd_D) (Q : ab_O → gd_D → Prop) : Prop :=
  (((5411 : Int32) ≤ a1) →
    ∀ v1 : gd_D, v1 = gd_sI v 11 0 6 ((v.1 11 0 6) - 1) →
    gd_G g mX11_keeps d 0 0 52 [(0, zR 11 0), (1, zI 0)] [] v1 Q) ∧
  ((¬ (5411 : Int32) ≤ a1) →
    vp_in (a1 + 773) 6184 ∧
    vp_in a1 6184 ∧
    ∀ v2 : gd_D, v2 = gd_sJ v 43 0 ((a1 : Int32).toNatClampNeg) (v.2.1 43 0 (a1 + 773 : Int32).toNatClampNeg) →
    gd_G g mX11_keeps d 0 0 11 [(0, zR 11 0), (1, zI (a1 + 1))] [] v2 Q)
theorem w_X11_keeps_11 {g : ab_E} {d : Nat} {a1 : Int32} {v : gd_D} {Q : ab_O → gd_D → Prop} (hd : 0 ≤ d) (h : wp_X11_keeps_11 g d a1 v Q) : gd_G g mX11_keeps d 0 0 11 [(0, zR 11 0), (1, zI a1)] [] v Q := by
  unfold wp_X11_keeps_11 at h
  refine gd_iload_n 1 dX11_keeps_11 rfl rfl ?_
  refine gd_sipush (x9 := 5411) dX11_keeps_12 (by decide) ?_
  refine gd_icmp_ge (tgt := 40) dX11_keeps_15 (by decide) (fun hc => ?_) (fun hc => ?_)
  · have h := h.1 hc
    refine gd_aload_n 0 dX11_keeps_40 rfl rfl ?_
    refine gd_dup dX11_keeps_41 rfl ?_
    refine gd_getI fX11_96 rfl dX11_keeps_42 ?_
    refine gd_iconst (x9 := 1) dX11_keeps_45 (by decide) ?_
    refine gd_isub dX11_keeps_46 ?_
    refine gd_putIn fX11_96 rfl rfl dX11_keeps_47 (fun v1 ev1 => ?_)
    have h := h v1 ev1
    refine gd_iconst (x9 := 0) dX11_keeps_50 (by decide) ?_
    refine gd_istore_n (L' := [(1, zI 0), (0, zR 11 0)]) dX11_keeps_51 rfl (by decide) rfl ?_
    refine gd_locals [1, 0] rfl ?_
    exact h
  · have h := h.2 hc
    refine gd_aload_n 0 dX11_keeps_18 rfl rfl ?_
    refine gd_getR (x := 0) (kr := 43) fX11_27 rfl rfl dX11_keeps_19 rfl ?_
    refine gd_iload_n 1 dX11_keeps_22 rfl rfl ?_
    refine gd_aload_n 0 dX11_keeps_23 rfl rfl ?_
    refine gd_getR (x := 0) (kr := 43) fX11_27 rfl rfl dX11_keeps_24 rfl ?_
    refine gd_iload_n 1 dX11_keeps_27 rfl rfl ?_
    refine gd_sipush (x9 := 773) dX11_keeps_28 (by decide) ?_
    refine gd_iadd dX11_keeps_31 ?_
    obtain ⟨hb, h⟩ := h
    refine gd_laload (n := 6184) (by decide) rfl dX11_keeps_32 rfl hb ?_
    obtain ⟨hb, h⟩ := h
    refine gd_lastoren (n := 6184) (by decide) rfl rfl dX11_keeps_33 rfl hb (fun v2 ev2 => ?_)
    have h := h v2 ev2
    refine gd_iinc (x9 := a1 + 1) (L' := [(1, zI (a1 + 1)), (0, zR 11 0)]) 1 dX11_keeps_34 rfl rfl (by decide) rfl ?_
    refine gd_goto (tgt := 11) dX11_keeps_37 (by decide) ?_
    refine gd_locals [1, 0] rfl ?_
    exact h
def wp_X11_keeps_52 (g : ab_E) (d : Nat) (a1 : Int32) (v : gd_D) (Q : ab_O → gd_D → Prop) : Prop :=
  (((773 : Int32) ≤ a1) →
    ∀ v1 : gd_D, v1 = gd_sI v 11 0 6 ((v.1 11 0 6) + 1) →
    Q (Sum.inl none) v1) ∧
  ((¬ (773 : Int32) ≤ a1) →
    vp_in a1 773 ∧
    vp_in ((773 * (v.1 11 0 6)) + a1) 6184 ∧
    ∀ v2 : gd_D, v2 = gd_sJ v 43 0 (((773 * (v.1 11 0 6)) + a1 : Int32).toNatClampNeg) (v.2.1 40 0 (a1 : Int32).toNatClampNeg) →
    gd_G g mX11_keeps d 0 0 52 [(0, zR 11 0), (1, zI (a1 + 1))] [] v2 Q)
theorem w_X11_keeps_52 {g : ab_E} {d : Nat} {a1 : Int32} {v : gd_D} {Q : ab_O → gd_D → Prop} (hd : 0 ≤ d) (h : wp_X11_keeps_52 g d a1 v Q) : gd_G g mX11_keeps d 0 0 52 [(0, zR 11 0), (1, zI a1)] [] v Q := by
  unfold wp_X11_keeps_52 at h
  refine gd_iload_n 1 dX11_keeps_52 rfl rfl ?_
  refine gd_sipush (x9 := 773) dX11_keeps_53 (by decide) ?_
  refine gd_icmp_ge (tgt := 86) dX11_keeps_56 (by decide) (fun hc => ?_) (fun hc => ?_)
  · have h := h.1 hc
    refine gd_aload_n 0 dX11_keeps_86 rfl rfl ?_
    refine gd_dup dX11_keeps_87 rfl ?_
    refine gd_getI fX11_96 rfl dX11_keeps_88 ?_
    refine gd_iconst (x9 := 1) dX11_keeps_91 (by decide) ?_
    refine gd_iadd dX11_keeps_92 ?_
    refine gd_putIn fX11_96 rfl rfl dX11_keeps_93 (fun v1 ev1 => ?_)
    have h := h v1 ev1
    exact gd_vret dX11_keeps_96 rfl h
  · have h := h.2 hc
    refine gd_aload_n 0 dX11_keeps_59 rfl rfl ?_
    refine gd_getR (x := 0) (kr := 43) fX11_27 rfl rfl dX11_keeps_60 rfl ?_
    refine gd_sipush (x9 := 773) dX11_keeps_63 (by decide) ?_
    refine gd_aload_n 0 dX11_keeps_66 rfl rfl ?_
    refine gd_getI fX11_96 rfl dX11_keeps_67 ?_
    refine gd_imul dX11_keeps_70 ?_
    refine gd_iload_n 1 dX11_keeps_71 rfl rfl ?_
    refine gd_iadd dX11_keeps_72 ?_
    refine gd_aload_n 0 dX11_keeps_73 rfl rfl ?_
    refine gd_getR (x := 0) (kr := 40) fX11_17 rfl rfl dX11_keeps_74 rfl ?_
    refine gd_iload_n 1 dX11_keeps_77 rfl rfl ?_
    obtain ⟨hb, h⟩ := h
    refine gd_laload (n := 773) (by decide) rfl dX11_keeps_78 rfl hb ?_
    obtain ⟨hb, h⟩ := h
    refine gd_lastoren (n := 6184) (by decide) rfl rfl dX11_keeps_79 rfl hb (fun v2 ev2 => ?_)
    have h := h v2 ev2
    refine gd_iinc (x9 := a1 + 1) (L' := [(1, zI (a1 + 1)), (0, zR 11 0)]) 1 dX11_keeps_80 rfl rfl (by decide) rfl ?_
    refine gd_goto (tgt := 52) dX11_keeps_83 (by decide) ?_
    refine gd_locals [1, 0] rfl ?_
    exact h
theorem c_X11_keeps {g : ab_E} {d : Nat} {v : gd_D} {Q : ab_O → gd_D → Prop} (hd : 0 ≤ d) (h : wp_X11_keeps g d v Q) : gd_C g mX11_keeps d 0 0 [zR 11 0] v Q := gd_enterF (plainFor_of_name (by decide)) (Nat.le_of_ble_eq_true rfl) rfl (w_X11_keeps hd h)
def wp_X11_undo (g : ab_E) (d : Nat) (v : gd_D) (Q : ab_O → gd_D → Prop) : Prop :=
  ∀ v1 : gd_D, v1 = gd_sI v 11 0 0 0 →
  ((¬ (v1.1 11 0 6 : Int32) = 0) →
    ∀ v2 : gd_D, v2 = gd_sI v1 11 0 6 ((v1.1 11 0 6) - 1) →
    gd_G g mX11_undo d 0 0 26 [(0, zR 11 0), (1, zI 0)] [] v2 Q) ∧
  (((v1.1 11 0 6 : Int32) = 0) →
    Q (Sum.inl (some (zI (-1)))) v1)
theorem w_X11_undo {g : ab_E} {d : Nat} {v : gd_D} {Q : ab_O → gd_D → Prop} (hd : 0 ≤ d) (h : wp_X11_undo g d v Q) : gd_G g mX11_undo d 0 0 0 [(0, zR 11 0)] [] v Q := by
  unfold wp_X11_undo at h
  refine gd_aload_n 0 dX11_undo_0 rfl rfl ?_
  refine gd_iconst (x9 := 0) dX11_undo_1 (by decide) ?_
  refine gd_putIn fX11_1 rfl rfl dX11_undo_2 (fun v1 ev1 => ?_)
  have h := h v1 ev1
  refine gd_aload_n 0 dX11_undo_5 rfl rfl ?_
  refine gd_getI fX11_96 rfl dX11_undo_6 ?_
  refine gd_if_ne (tgt := 14) dX11_undo_9 (by decide) (fun hc => ?_) (fun hc => ?_)
  · have h := h.1 hc
    refine gd_aload_n 0 dX11_undo_14 rfl rfl ?_
    refine gd_dup dX11_undo_15 rfl ?_
    refine gd_getI fX11_96 rfl dX11_undo_16 ?_
    refine gd_iconst (x9 := 1) dX11_undo_19 (by decide) ?_
    refine gd_isub dX11_undo_20 ?_
    refine gd_putIn fX11_96 rfl rfl dX11_undo_21 (fun v2 ev2 => ?_)
    have h := h v2 ev2
    refine gd_iconst (x9 := 0) dX11_undo_24 (by decide) ?_
    refine gd_istore_n (L' := [(1, zI 0), (0, zR 11 0)]) dX11_undo_25 rfl (by decide) rfl ?_
    refine gd_locals [1, 0] rfl ?_
    exact h
  · have h := h.2 hc
    refine gd_iconst (x9 := (-1)) dX11_undo_12 (by decide) ?_
    exact gd_iret (ty := .int) dX11_undo_13 rfl rfl h
def wp_X11_undo_26 (g : ab_E) (d : Nat) (a1 : Int32) (v : gd_D) (Q : ab_O → gd_D → Prop) : Prop :=
  (((773 : Int32) ≤ a1) →
    Q (Sum.inl (some (zI (v.1 11 0 6)))) v) ∧
  ((¬ (773 : Int32) ≤ a1) →
    vp_in ((773 * (v.1 11 0 6)) + a1) 6184 ∧
    ∀ y1 : Int64, y1 = v.2.1 43 0 ((773 * (v.1 11 0 6)) + a1 : Int32).toNatClampNeg →
    vp_in a1 773 ∧
    ∀ v2 : gd_D, v2 = gd_sJ v 40 0 ((a1 : Int32).toNatClampNeg) y1 →
    gd_G g mX11_undo d 0 0 26 [(0, zR 11 0), (1, zI (a1 + 1))] [] v2 Q)
theorem w_X11_undo_26 {g : ab_E} {d : Nat} {a1 : Int32} {v : gd_D} {Q : ab_O → gd_D → Prop} (hd : 0 ≤ d) (h : wp_X11_undo_26 g d a1 v Q) : gd_G g mX11_undo d 0 0 26 [(0, zR 11 0), (1, zI a1)] [] v Q := by
  unfold wp_X11_undo_26 at h
  refine gd_iload_n 1 dX11_undo_26 rfl rfl ?_
  refine gd_sipush (x9 := 773) dX11_undo_27 (by decide) ?_
  refine gd_icmp_ge (tgt := 60) dX11_undo_30 (by decide) (fun hc => ?_) (fun hc => ?_)
  · have h := h.1 hc
    refine gd_aload_n 0 dX11_undo_60 rfl rfl ?_
    refine gd_getI fX11_96 rfl dX11_undo_61 ?_
    exact gd_iret (ty := .int) dX11_undo_64 rfl rfl h
  · have h := h.2 hc
    refine gd_aload_n 0 dX11_undo_33 rfl rfl ?_
    refine gd_getR (x := 0) (kr := 40) fX11_17 rfl rfl dX11_undo_34 rfl ?_
    refine gd_iload_n 1 dX11_undo_37 rfl rfl ?_
    refine gd_aload_n 0 dX11_undo_38 rfl rfl ?_
    refine gd_getR (x := 0) (kr := 43) fX11_27 rfl rfl dX11_undo_39 rfl ?_
    refine gd_sipush (x9 := 773) dX11_undo_42 (by decide) ?_
    refine gd_aload_n 0 dX11_undo_45 rfl rfl ?_
    refine gd_getI fX11_96 rfl dX11_undo_46 ?_
    refine gd_imul dX11_undo_49 ?_
    refine gd_iload_n 1 dX11_undo_50 rfl rfl ?_
    refine gd_iadd dX11_undo_51 ?_
    obtain ⟨hb, h⟩ := h
    refine gd_laload (n := 6184) (by decide) rfl dX11_undo_52 rfl hb ?_
    refine gd_nmJ (fun y1 ey1 => ?_)
    have h := h y1 ey1
    obtain ⟨hb, h⟩ := h
    refine gd_lastoren (n := 773) (by decide) rfl rfl dX11_undo_53 rfl hb (fun v2 ev2 => ?_)
    have h := h v2 ev2
    refine gd_iinc (x9 := a1 + 1) (L' := [(1, zI (a1 + 1)), (0, zR 11 0)]) 1 dX11_undo_54 rfl rfl (by decide) rfl ?_
    refine gd_goto (tgt := 26) dX11_undo_57 (by decide) ?_
    refine gd_locals [1, 0] rfl ?_
    exact h
theorem c_X11_undo {g : ab_E} {d : Nat} {v : gd_D} {Q : ab_O → gd_D → Prop} (hd : 0 ≤ d) (h : wp_X11_undo g d v Q) : gd_C g mX11_undo d 0 0 [zR 11 0] v Q := gd_enterF (plainFor_of_name (by decide)) (Nat.le_of_ble_eq_true rfl) rfl (w_X11_undo hd h)
def wp_X11_feed (g : ab_E) (d : Nat) (a1 : Int32) (a2 : Int32) (a3 : Int32) (a4 : Int32) (a5 : Int32) (v : gd_D) (Q : ab_O → gd_D → Prop) : Prop :=
  ∀ v1 : gd_D, v1 = gd_sI v 11 0 0 0 →
  ((((v1.1 11 0 9) + 20 : Int32) ≤ 500) →
    gd_C g mX11_puts 2 0 0 [zR 11 0, zI a1] v1 (gd_rV (fun v2 =>
      gd_C g mX11_puts 2 0 0 [zR 11 0, zI a2] v2 (gd_rV (fun v4 =>
        gd_C g mX11_puts 2 0 0 [zR 11 0, zI a3] v4 (gd_rV (fun v6 =>
          gd_C g mX11_puts 2 0 0 [zR 11 0, zI a4] v6 (gd_rV (fun v8 =>
            gd_C g mX11_puts 2 0 0 [zR 11 0, zI a5] v8 (gd_rV (fun v10 =>
              Q (Sum.inl (some (zI (v10.1 11 0 9)))) v10) (fun E v9 => Q (Sum.inr E) v9))) (fun E v9 => Q (Sum.inr E) v9))) (fun E v9 => Q (Sum.inr E) v9))) (fun E v9 => Q (Sum.inr E) v9))) (fun E v9 => Q (Sum.inr E) v9))) ∧
  ((¬ ((v1.1 11 0 9) + 20 : Int32) ≤ 500) →
    Q (Sum.inl (some (zI (-1)))) v1)
theorem w_X11_feed {g : ab_E} {d : Nat} {a1 : Int32} {a2 : Int32} {a3 : Int32} {a4 : Int32} {a5 : Int32} {v : gd_D} {Q : ab_O → gd_D → Prop} (hd : 3 ≤ d) (h : wp_X11_feed g d a1 a2 a3 a4 a5 v Q) : gd_G g mX11_feed d 0 0 0 [(0, zR 11 0), (1, zI a1), (2, zI a2), (3, zI a3), (4, zI a4), (5, zI a5)] [] v Q := by
  unfold wp_X11_feed at h
  refine gd_aload_n 0 dX11_feed_0 rfl rfl ?_
  refine gd_iconst (x9 := 0) dX11_feed_1 (by decide) ?_
  refine gd_putIn fX11_1 rfl rfl dX11_feed_2 (fun v1 ev1 => ?_)
  have h := h v1 ev1
  refine gd_aload_n 0 dX11_feed_5 rfl rfl ?_
  refine gd_getI fX11_99 rfl dX11_feed_6 ?_
  refine gd_bipush (x9 := 20) dX11_feed_9 (by decide) ?_
  refine gd_iadd dX11_feed_11 ?_
  refine gd_sipush (x9 := 500) dX11_feed_12 (by decide) ?_
  refine gd_icmp_le (tgt := 20) dX11_feed_15 (by decide) (fun hc => ?_) (fun hc => ?_)
  · have h := h.1 hc
    refine gd_aload_n 0 dX11_feed_20 rfl rfl ?_
    refine gd_iload_n 1 dX11_feed_21 rfl rfl ?_
    refine gd_callVV (As := [zI a1]) (rest := []) (dy := 2) (my := 0) (sy := 0) (k := 11) (i := 0) lX11_102 iX11_puts sX11_puts rfl dX11_feed_22 rfl rfl (gd_room (by omega) (by decide)) (by decide) (Nat.le_of_ble_eq_true rfl) h (fun v2 h => ?_)
    refine gd_aload_n 0 dX11_feed_25 rfl rfl ?_
    refine gd_iload_n 2 dX11_feed_26 rfl rfl ?_
    refine gd_callVV (As := [zI a2]) (rest := []) (dy := 2) (my := 0) (sy := 0) (k := 11) (i := 0) lX11_102 iX11_puts sX11_puts rfl dX11_feed_27 rfl rfl (gd_room (by omega) (by decide)) (by decide) (Nat.le_of_ble_eq_true rfl) h (fun v4 h => ?_)
    refine gd_aload_n 0 dX11_feed_30 rfl rfl ?_
    refine gd_iload_n 3 dX11_feed_31 rfl rfl ?_
    refine gd_callVV (As := [zI a3]) (rest := []) (dy := 2) (my := 0) (sy := 0) (k := 11) (i := 0) lX11_102 iX11_puts sX11_puts rfl dX11_feed_32 rfl rfl (gd_room (by omega) (by decide)) (by decide) (Nat.le_of_ble_eq_true rfl) h (fun v6 h => ?_)
    refine gd_aload_n 0 dX11_feed_35 rfl rfl ?_
    refine gd_iload 4 dX11_feed_36 rfl ?_
    refine gd_callVV (As := [zI a4]) (rest := []) (dy := 2) (my := 0) (sy := 0) (k := 11) (i := 0) lX11_102 iX11_puts sX11_puts rfl dX11_feed_38 rfl rfl (gd_room (by omega) (by decide)) (by decide) (Nat.le_of_ble_eq_true rfl) h (fun v8 h => ?_)
    refine gd_aload_n 0 dX11_feed_41 rfl rfl ?_
    refine gd_iload 5 dX11_feed_42 rfl ?_
    refine gd_callVV (As := [zI a5]) (rest := []) (dy := 2) (my := 0) (sy := 0) (k := 11) (i := 0) lX11_102 iX11_puts sX11_puts rfl dX11_feed_44 rfl rfl (gd_room (by omega) (by decide)) (by decide) (Nat.le_of_ble_eq_true rfl) h (fun v10 h => ?_)
    refine gd_aload_n 0 dX11_feed_47 rfl rfl ?_
    refine gd_getI fX11_99 rfl dX11_feed_48 ?_
    exact gd_iret (ty := .int) dX11_feed_51 rfl rfl h
  · have h := h.2 hc
    refine gd_iconst (x9 := (-1)) dX11_feed_18 (by decide) ?_
    exact gd_iret (ty := .int) dX11_feed_19 rfl rfl h
theorem c_X11_feed {g : ab_E} {d : Nat} {a1 : Int32} {a2 : Int32} {a3 : Int32} {a4 : Int32} {a5 : Int32} {v : gd_D} {Q : ab_O → gd_D → Prop} (hd : 3 ≤ d) (h : wp_X11_feed g d a1 a2 a3 a4 a5 v Q) : gd_C g mX11_feed d 0 0 [zR 11 0, zI a1, zI a2, zI a3, zI a4, zI a5] v Q := gd_enterF (plainFor_of_name (by decide)) (Nat.le_of_ble_eq_true rfl) rfl (w_X11_feed hd h)
def wp_X11_puts (g : ab_E) (d : Nat) (a1 : Int32) (v : gd_D) (Q : ab_O → gd_D → Prop) : Prop :=
  gd_G g mX11_puts d 0 0 3 [(0, zR 11 0), (1, zI a1), (2, zI 24)] [] v Q
theorem w_X11_puts {g : ab_E} {d : Nat} {a1 : Int32} {v : gd_D} {Q : ab_O → gd_D → Prop} (hd : 0 ≤ d) (h : wp_X11_puts g d a1 v Q) : gd_G g mX11_puts d 0 0 0 [(0, zR 11 0), (1, zI a1)] [] v Q := by
  unfold wp_X11_puts at h
  refine gd_bipush (x9 := 24) dX11_puts_0 (by decide) ?_
  refine gd_istore_n (L' := [(2, zI 24), (0, zR 11 0), (1, zI a1)]) dX11_puts_2 rfl (by decide) rfl ?_
  refine gd_locals [1, 2, 0] rfl ?_
  exact h
def wp_X11_puts_3 (g : ab_E) (d : Nat) (a1 : Int32) (a2 : Int32) (v : gd_D) (Q : ab_O → gd_D → Prop) : Prop :=
  (((a2 : Int32) < 0) →
    Q (Sum.inl none) v) ∧
  ((¬ (a2 : Int32) < 0) →
    vp_in (v.1 11 0 9) 500 ∧
    ∀ v1 : gd_D, v1 = gd_sI v 44 0 ((v.1 11 0 9 : Int32).toNatClampNeg) ((a1 >>> (a2 &&& 31) : Int32).toInt8.toInt32 : Int32).toInt8.toInt32 →
    ∀ v2 : gd_D, v2 = gd_sI v1 11 0 9 ((v1.1 11 0 9) + 1) →
    gd_G g mX11_puts d 0 0 3 [(0, zR 11 0), (1, zI a1), (2, zI (a2 + (-8)))] [] v2 Q)
theorem w_X11_puts_3 {g : ab_E} {d : Nat} {a1 : Int32} {a2 : Int32} {v : gd_D} {Q : ab_O → gd_D → Prop} (hd : 0 ≤ d) (h : wp_X11_puts_3 g d a1 a2 v Q) : gd_G g mX11_puts d 0 0 3 [(0, zR 11 0), (1, zI a1), (2, zI a2)] [] v Q := by
  unfold wp_X11_puts_3 at h
  refine gd_iload_n 2 dX11_puts_3 rfl rfl ?_
  refine gd_if_lt (tgt := 36) dX11_puts_4 (by decide) (fun hc => ?_) (fun hc => ?_)
  · have h := h.1 hc
    exact gd_vret dX11_puts_36 rfl h
  · have h := h.2 hc
    refine gd_aload_n 0 dX11_puts_7 rfl rfl ?_
    refine gd_getR (x := 0) (kr := 44) fX11_30 rfl rfl dX11_puts_8 rfl ?_
    refine gd_aload_n 0 dX11_puts_11 rfl rfl ?_
    refine gd_getI fX11_99 rfl dX11_puts_12 ?_
    refine gd_iload_n 1 dX11_puts_15 rfl rfl ?_
    refine gd_iload_n 2 dX11_puts_16 rfl rfl ?_
    refine gd_ishr dX11_puts_17 ?_
    refine gd_i2b dX11_puts_18 ?_
    obtain ⟨hb, h⟩ := h
    refine gd_bastoren (n := 500) (by decide) rfl rfl dX11_puts_19 rfl hb (fun v1 ev1 => ?_)
    have h := h v1 ev1
    refine gd_aload_n 0 dX11_puts_20 rfl rfl ?_
    refine gd_dup dX11_puts_21 rfl ?_
    refine gd_getI fX11_99 rfl dX11_puts_22 ?_
    refine gd_iconst (x9 := 1) dX11_puts_25 (by decide) ?_
    refine gd_iadd dX11_puts_26 ?_
    refine gd_putIn fX11_99 rfl rfl dX11_puts_27 (fun v2 ev2 => ?_)
    have h := h v2 ev2
    refine gd_iinc (x9 := a2 + (-8)) (L' := [(2, zI (a2 + (-8))), (0, zR 11 0), (1, zI a1)]) 2 dX11_puts_30 rfl rfl (by decide) rfl ?_
    refine gd_goto (tgt := 3) dX11_puts_33 (by decide) ?_
    refine gd_locals [1, 2, 0] rfl ?_
    exact h
theorem c_X11_puts {g : ab_E} {d : Nat} {a1 : Int32} {v : gd_D} {Q : ab_O → gd_D → Prop} (hd : 0 ≤ d) (h : wp_X11_puts g d a1 v Q) : gd_C g mX11_puts d 0 0 [zR 11 0, zI a1] v Q := gd_enterF (plainFor_of_name (by decide)) (Nat.le_of_ble_eq_true rfl) rfl (w_X11_puts hd h)
def wp_X11_wrong (g : ab_E) (d : Nat) (a1 : Int32) (a2 : Int32) (v : gd_D) (Q : ab_O → gd_D → Prop) : Prop :=
  (((v.1 11 0 13 : Int32) ≤ 0) →
    ∀ v1 : gd_D, v1 = gd_sI v 11 0 13 a1 →
    ∀ v2 : gd_D, v2 = gd_sI v1 11 0 14 a2 →
    Q (Sum.inl none) v2) ∧
  ((¬ (v.1 11 0 13 : Int32) ≤ 0) →
    Q (Sum.inl none) v)
theorem w_X11_wrong {g : ab_E} {d : Nat} {a1 : Int32} {a2 : Int32} {v : gd_D} {Q : ab_O → gd_D → Prop} (hd : 0 ≤ d) (h : wp_X11_wrong g d a1 a2 v Q) : gd_G g mX11_wrong d 0 0 0 [(0, zR 11 0), (1, zI a1), (2, zI a2)] [] v Q := by
  unfold wp_X11_wrong at h
  refine gd_aload_n 0 dX11_wrong_0 rfl rfl ?_
  refine gd_getI fX11_106 rfl dX11_wrong_1 ?_
  refine gd_if_le (tgt := 8) dX11_wrong_4 (by decide) (fun hc => ?_) (fun hc => ?_)
  · have h := h.1 hc
    refine gd_aload_n 0 dX11_wrong_8 rfl rfl ?_
    refine gd_iload_n 1 dX11_wrong_9 rfl rfl ?_
    refine gd_putIn fX11_106 rfl rfl dX11_wrong_10 (fun v1 ev1 => ?_)
    have h := h v1 ev1
    refine gd_aload_n 0 dX11_wrong_13 rfl rfl ?_
    refine gd_iload_n 2 dX11_wrong_14 rfl rfl ?_
    refine gd_putIn fX11_109 rfl rfl dX11_wrong_15 (fun v2 ev2 => ?_)
    have h := h v2 ev2
    exact gd_vret dX11_wrong_18 rfl h
  · have h := h.2 hc
    exact gd_vret dX11_wrong_7 rfl h
theorem c_X11_wrong {g : ab_E} {d : Nat} {a1 : Int32} {a2 : Int32} {v : gd_D} {Q : ab_O → gd_D → Prop} (hd : 0 ≤ d) (h : wp_X11_wrong g d a1 a2 v Q) : gd_C g mX11_wrong d 0 0 [zR 11 0, zI a1, zI a2] v Q := gd_enterF (plainFor_of_name (by decide)) (Nat.le_of_ble_eq_true rfl) rfl (w_X11_wrong hd h)
def wp_X11_sign_38 (g : ab_E) (d : Nat) (v : gd_D) (Q : ab_O → gd_D → Prop) : Prop :=
  (((v.1 11 0 10 : Int32) ≤ (v.1 11 0 11)) →
    Q (Sum.inl (some (zI 0))) v) ∧
  ((¬ (v.1 11 0 10 : Int32) ≤ (v.1 11 0 11)) →
    vp_in (v.1 11 0 11) 500 ∧
    Q (Sum.inl (some (zI (v.1 45 0 (v.1 11 0 11 : Int32).toNatClampNeg)))) v)
theorem w_X11_sign_38 {g : ab_E} {d : Nat} {v : gd_D} {Q : ab_O → gd_D → Prop} (hd : 0 ≤ d) (h : wp_X11_sign_38 g d v Q) : gd_G g mX11_sign d 0 0 38 [(0, zR 11 0)] [] v Q := by
  unfold wp_X11_sign_38 at h
  refine gd_aload_n 0 dX11_sign_38 rfl rfl ?_
  refine gd_getI fX11_112 rfl dX11_sign_39 ?_
  refine gd_aload_n 0 dX11_sign_42 rfl rfl ?_
  refine gd_getI fX11_115 rfl dX11_sign_43 ?_
  refine gd_icmp_ge (tgt := 61) dX11_sign_46 (by decide) (fun hc => ?_) (fun hc => ?_)
  · have h := h.1 hc
    refine gd_iconst (x9 := 0) dX11_sign_61 (by decide) ?_
    exact gd_iret (ty := .int) dX11_sign_62 rfl rfl h
  · have h := h.2 hc
    refine gd_aload_n 0 dX11_sign_49 rfl rfl ?_
    refine gd_getR (x := 0) (kr := 45) fX11_34 rfl rfl dX11_sign_50 rfl ?_
    refine gd_aload_n 0 dX11_sign_53 rfl rfl ?_
    refine gd_getI fX11_112 rfl dX11_sign_54 ?_
    obtain ⟨hb, h⟩ := h
    refine gd_baload (n := 500) (by decide) rfl dX11_sign_57 rfl hb ?_
    refine gd_goto (tgt := 62) dX11_sign_58 (by decide) ?_
    exact gd_iret (ty := .int) dX11_sign_62 rfl rfl h
def wp_X11_sign (g : ab_E) (d : Nat) (v : gd_D) (Q : ab_O → gd_D → Prop) : Prop :=
  (((v.1 11 0 10 : Int32) ≤ (v.1 11 0 11)) →
    wp_X11_sign_38 g d v Q) ∧
  ((¬ (v.1 11 0 10 : Int32) ≤ (v.1 11 0 11)) →
    vp_in (v.1 11 0 11) 500 ∧
    ((¬ (v.1 45 0 (v.1 11 0 11 : Int32).toNatClampNeg : Int32) = 32) →
      wp_X11_sign_38 g d v Q) ∧
    (((v.1 45 0 (v.1 11 0 11 : Int32).toNatClampNeg : Int32) = 32) →
      ∀ v1 : gd_D, v1 = gd_sI v 11 0 11 ((v.1 11 0 11) + 1) →
      gd_G g mX11_sign d 0 0 0 [(0, zR 11 0)] [] v1 Q))
theorem w_X11_sign {g : ab_E} {d : Nat} {v : gd_D} {Q : ab_O → gd_D → Prop} (hd : 0 ≤ d) (h : wp_X11_sign g d v Q) : gd_G g mX11_sign d 0 0 0 [(0, zR 11 0)] [] v Q := by
  unfold wp_X11_sign at h
  refine gd_aload_n 0 dX11_sign_0 rfl rfl ?_
  refine gd_getI fX11_112 rfl dX11_sign_1 ?_
  refine gd_aload_n 0 dX11_sign_4 rfl rfl ?_
  refine gd_getI fX11_115 rfl dX11_sign_5 ?_
  refine gd_icmp_ge (tgt := 38) dX11_sign_8 (by decide) (fun hc => ?_) (fun hc => ?_)
  · have h := h.1 hc
    exact w_X11_sign_38 (by omega) h
  · have h := h.2 hc
    refine gd_aload_n 0 dX11_sign_11 rfl rfl ?_
    refine gd_getR (x := 0) (kr := 45) fX11_34 rfl rfl dX11_sign_12 rfl ?_
    refine gd_aload_n 0 dX11_sign_15 rfl rfl ?_
    refine gd_getI fX11_112 rfl dX11_sign_16 ?_
    obtain ⟨hb, h⟩ := h
    refine gd_baload (n := 500) (by decide) rfl dX11_sign_19 rfl hb ?_
    refine gd_bipush (x9 := 32) dX11_sign_20 (by decide) ?_
    refine gd_icmp_ne (tgt := 38) dX11_sign_22 (by decide) (fun hc => ?_) (fun hc => ?_)
    · have h := h.1 hc
      exact w_X11_sign_38 (by omega) h
    · have h := h.2 hc
      refine gd_aload_n 0 dX11_sign_25 rfl rfl ?_
      refine gd_dup dX11_sign_26 rfl ?_
      refine gd_getI fX11_112 rfl dX11_sign_27 ?_
      refine gd_iconst (x9 := 1) dX11_sign_30 (by decide) ?_
      refine gd_iadd dX11_sign_31 ?_
      refine gd_putIn fX11_112 rfl rfl dX11_sign_32 (fun v1 ev1 => ?_)
      have h := h v1 ev1
      refine gd_goto (tgt := 0) dX11_sign_35 (by decide) ?_
      exact h
theorem c_X11_sign {g : ab_E} {d : Nat} {v : gd_D} {Q : ab_O → gd_D → Prop} (hd : 0 ≤ d) (h : wp_X11_sign g d v Q) : gd_C g mX11_sign d 0 0 [zR 11 0] v Q := gd_enterF (plainFor_of_name (by decide)) (Nat.le_of_ble_eq_true rfl) rfl (w_X11_sign hd h)
def wp_X11_isSmall (g : ab_E) (d : Nat) (a1 : Int32) (v : gd_D) (Q : ab_O → gd_D → Prop) : Prop :=
  (((v.1 11 0 10 : Int32) ≤ a1) →
    Q (Sum.inl (some (zI 0))) v) ∧
  ((¬ (v.1 11 0 10 : Int32) ≤ a1) →
    vp_in a1 500 ∧
    (((v.1 45 0 (a1 : Int32).toNatClampNeg : Int32) < 97) →
      Q (Sum.inl (some (zI 0))) v) ∧
    ((¬ (v.1 45 0 (a1 : Int32).toNatClampNeg : Int32) < 97) →
      vp_in a1 500 ∧
      (((122 : Int32) < (v.1 45 0 (a1 : Int32).toNatClampNeg)) →
        Q (Sum.inl (some (zI 0))) v) ∧
      ((¬ (122 : Int32) < (v.1 45 0 (a1 : Int32).toNatClampNeg)) →
        Q (Sum.inl (some (zI 1))) v)))
theorem w_X11_isSmall {g : ab_E} {d : Nat} {a1 : Int32} {v : gd_D} {Q : ab_O → gd_D → Prop} (hd : 0 ≤ d) (h : wp_X11_isSmall g d a1 v Q) : gd_G g mX11_isSmall d 0 0 0 [(0, zR 11 0), (1, zI a1)] [] v Q := by
  unfold wp_X11_isSmall at h
  refine gd_iload_n 1 dX11_isSmall_0 rfl rfl ?_
  refine gd_aload_n 0 dX11_isSmall_1 rfl rfl ?_
  refine gd_getI fX11_115 rfl dX11_isSmall_2 ?_
  refine gd_icmp_ge (tgt := 34) dX11_isSmall_5 (by decide) (fun hc => ?_) (fun hc => ?_)
  · have h := h.1 hc
    refine gd_iconst (x9 := 0) dX11_isSmall_34 (by decide) ?_
    exact gd_iret (ty := .boolean) dX11_isSmall_35 rfl rfl h
  · have h := h.2 hc
    refine gd_aload_n 0 dX11_isSmall_8 rfl rfl ?_
    refine gd_getR (x := 0) (kr := 45) fX11_34 rfl rfl dX11_isSmall_9 rfl ?_
    refine gd_iload_n 1 dX11_isSmall_12 rfl rfl ?_
    obtain ⟨hb, h⟩ := h
    refine gd_baload (n := 500) (by decide) rfl dX11_isSmall_13 rfl hb ?_
    refine gd_bipush (x9 := 97) dX11_isSmall_14 (by decide) ?_
    refine gd_icmp_lt (tgt := 34) dX11_isSmall_16 (by decide) (fun hc => ?_) (fun hc => ?_)
    · have h := h.1 hc
      refine gd_iconst (x9 := 0) dX11_isSmall_34 (by decide) ?_
      exact gd_iret (ty := .boolean) dX11_isSmall_35 rfl rfl h
    · have h := h.2 hc
      refine gd_aload_n 0 dX11_isSmall_19 rfl rfl ?_
      refine gd_getR (x := 0) (kr := 45) fX11_34 rfl rfl dX11_isSmall_20 rfl ?_
      refine gd_iload_n 1 dX11_isSmall_23 rfl rfl ?_
      obtain ⟨hb, h⟩ := h
      refine gd_baload (n := 500) (by decide) rfl dX11_isSmall_24 rfl hb ?_
      refine gd_bipush (x9 := 122) dX11_isSmall_25 (by decide) ?_
      refine gd_icmp_gt (tgt := 34) dX11_isSmall_27 (by decide) (fun hc => ?_) (fun hc => ?_)
      · have h := h.1 hc
        refine gd_iconst (x9 := 0) dX11_isSmall_34 (by decide) ?_
        exact gd_iret (ty := .boolean) dX11_isSmall_35 rfl rfl h
      · have h := h.2 hc
        refine gd_iconst (x9 := 1) dX11_isSmall_30 (by decide) ?_
        refine gd_goto (tgt := 35) dX11_isSmall_31 (by decide) ?_
        exact gd_iret (ty := .boolean) dX11_isSmall_35 rfl rfl h
theorem c_X11_isSmall {g : ab_E} {d : Nat} {a1 : Int32} {v : gd_D} {Q : ab_O → gd_D → Prop} (hd : 0 ≤ d) (h : wp_X11_isSmall g d a1 v Q) : gd_C g mX11_isSmall d 0 0 [zR 11 0, zI a1] v Q := gd_enterF (plainFor_of_name (by decide)) (Nat.le_of_ble_eq_true rfl) rfl (w_X11_isSmall hd h)
def wp_X11_isFigure (g : ab_E) (d : Nat) (a1 : Int32) (v : gd_D) (Q : ab_O → gd_D → Prop) : Prop :=
  (((v.1 11 0 10 : Int32) ≤ a1) →
    Q (Sum.inl (some (zI 0))) v) ∧
  ((¬ (v.1 11 0 10 : Int32) ≤ a1) →
    vp_in a1 500 ∧
    (((v.1 45 0 (a1 : Int32).toNatClampNeg : Int32) < 48) →
      Q (Sum.inl (some (zI 0))) v) ∧
    ((¬ (v.1 45 0 (a1 : Int32).toNatClampNeg : Int32) < 48) →
      vp_in a1 500 ∧
      (((57 : Int32) < (v.1 45 0 (a1 : Int32).toNatClampNeg)) →
        Q (Sum.inl (some (zI 0))) v) ∧
      ((¬ (57 : Int32) < (v.1 45 0 (a1 : Int32).toNatClampNeg)) →
        Q (Sum.inl (some (zI 1))) v)))
theorem w_X11_isFigure {g : ab_E} {d : Nat} {a1 : Int32} {v : gd_D} {Q : ab_O → gd_D → Prop} (hd : 0 ≤ d) (h : wp_X11_isFigure g d a1 v Q) : gd_G g mX11_isFigure d 0 0 0 [(0, zR 11 0), (1, zI a1)] [] v Q := by
  unfold wp_X11_isFigure at h
  refine gd_iload_n 1 dX11_isFigure_0 rfl rfl ?_
  refine gd_aload_n 0 dX11_isFigure_1 rfl rfl ?_
  refine gd_getI fX11_115 rfl dX11_isFigure_2 ?_
  refine gd_icmp_ge (tgt := 34) dX11_isFigure_5 (by decide) (fun hc => ?_) (fun hc => ?_)
  · have h := h.1 hc
    refine gd_iconst (x9 := 0) dX11_isFigure_34 (by decide) ?_
    exact gd_iret (ty := .boolean) dX11_isFigure_35 rfl rfl h
  · have h := h.2 hc
    refine gd_aload_n 0 dX11_isFigure_8 rfl rfl ?_
    refine gd_getR (x := 0) (kr := 45) fX11_34 rfl rfl dX11_isFigure_9 rfl ?_
    refine gd_iload_n 1 dX11_isFigure_12 rfl rfl ?_
    obtain ⟨hb, h⟩ := h
    refine gd_baload (n := 500) (by decide) rfl dX11_isFigure_13 rfl hb ?_
    refine gd_bipush (x9 := 48) dX11_isFigure_14 (by decide) ?_
    refine gd_icmp_lt (tgt := 34) dX11_isFigure_16 (by decide) (fun hc => ?_) (fun hc => ?_)
    · have h := h.1 hc
      refine gd_iconst (x9 := 0) dX11_isFigure_34 (by decide) ?_
      exact gd_iret (ty := .boolean) dX11_isFigure_35 rfl rfl h
    · have h := h.2 hc
      refine gd_aload_n 0 dX11_isFigure_19 rfl rfl ?_
      refine gd_getR (x := 0) (kr := 45) fX11_34 rfl rfl dX11_isFigure_20 rfl ?_
      refine gd_iload_n 1 dX11_isFigure_23 rfl rfl ?_
      obtain ⟨hb, h⟩ := h
      refine gd_baload (n := 500) (by decide) rfl dX11_isFigure_24 rfl hb ?_
      refine gd_bipush (x9 := 57) dX11_isFigure_25 (by decide) ?_
      refine gd_icmp_gt (tgt := 34) dX11_isFigure_27 (by decide) (fun hc => ?_) (fun hc => ?_)
      · have h := h.1 hc
        refine gd_iconst (x9 := 0) dX11_isFigure_34 (by decide) ?_
        exact gd_iret (ty := .boolean) dX11_isFigure_35 rfl rfl h
      · have h := h.2 hc
        refine gd_iconst (x9 := 1) dX11_isFigure_30 (by decide) ?_
        refine gd_goto (tgt := 35) dX11_isFigure_31 (by decide) ?_
        exact gd_iret (ty := .boolean) dX11_isFigure_35 rfl rfl h
theorem c_X11_isFigure {g : ab_E} {d : Nat} {a1 : Int32} {v : gd_D} {Q : ab_O → gd_D → Prop} (hd : 0 ≤ d) (h : wp_X11_isFigure g d a1 v Q) : gd_C g mX11_isFigure d 0 0 [zR 11 0, zI a1] v Q := gd_enterF (plainFor_of_name (by decide)) (Nat.le_of_ble_eq_true rfl) rfl (w_X11_isFigure hd h)
def wp_X11_isHere (g : ab_E) (d : Nat) (a1 : Nat) (v : gd_D) (Q : ab_O → gd_D → Prop) : Prop :=
  gd_C g mX11_sign 2 0 0 [zR 11 0] v (gd_rI (fun (r2 : Int32) v1 =>
    gd_G g mX11_isHere d 0 0 7 [(0, zR 11 0), (1, zR 100 a1), (2, zI 0)] [] v1 Q) (fun E v9 => Q (Sum.inr E) v9))
theorem w_X11_isHere {g : ab_E} {d : Nat} {a1 : Nat} {v : gd_D} {Q : ab_O → gd_D → Prop} (hd : 3 ≤ d) (h : wp_X11_isHere g d a1 v Q) : gd_G g mX11_isHere d 0 0 0 [(0, zR 11 0), (1, zR 100 a1)] [] v Q := by
  unfold wp_X11_isHere at h
  refine gd_aload_n 0 dX11_isHere_0 rfl rfl ?_
  refine gd_callVI (As := []) (rest := []) (dy := 2) (my := 0) (sy := 0) (k := 11) (i := 0) lX11_118 iX11_sign sX11_sign rfl dX11_isHere_1 rfl rfl (gd_room (by omega) (by decide)) (by decide) (Nat.le_of_ble_eq_true rfl) h (fun r2 v1 h => ?_)
  refine gd_pop dX11_isHere_4 rfl ?_
  refine gd_iconst (x9 := 0) dX11_isHere_5 (by decide) ?_
  refine gd_istore_n (L' := [(2, zI 0), (0, zR 11 0), (1, zR 100 a1)]) dX11_isHere_6 rfl (by decide) rfl ?_
  refine gd_locals [1, 2, 0] rfl ?_
  exact h
def wp_X11_isHere_7 (g : ab_E) (d : Nat) (a1 : Nat) (a2 : Int32) (v : gd_D) (Q : ab_O → gd_D → Prop) : Prop :=
  (((Int32.ofNat (ab_tn.getD a1 0) : Int32) ≤ a2) →
    ∀ x1 : Int32, x1 = (v.1 11 0 11) + (Int32.ofNat (ab_tn.getD a1 0)) →
    gd_C g mX11_isSmall 2 0 0 [zR 11 0, zI x1] v (gd_rI (fun (r3 : Int32) v2 =>
      ((¬ (r3 : Int32) = 0) →
        Q (Sum.inl (some (zI 0))) v2) ∧
      (((r3 : Int32) = 0) →
        Q (Sum.inl (some (zI 1))) v2)) (fun E v9 => Q (Sum.inr E) v9))) ∧
  ((¬ (Int32.ofNat (ab_tn.getD a1 0) : Int32) ≤ a2) →
    gd_C g mX11_isSmall 2 0 0 [zR 11 0, zI ((v.1 11 0 11) + a2)] v (gd_rI (fun (r5 : Int32) v4 =>
      (((r5 : Int32) = 0) →
        Q (Sum.inl (some (zI 0))) v4) ∧
      ((¬ (r5 : Int32) = 0) →
        vp_in ((v4.1 11 0 11) + a2) 500 ∧
        ∀ x6 : Int32, x6 = v4.1 45 0 ((v4.1 11 0 11) + a2 : Int32).toNatClampNeg →
        vp_in a2 (ab_tn.getD a1 0) ∧
        (((x6 : Int32) = ((ab_tb.getD a1 []).getD (a2 : Int32).toNatClampNeg 0)) →
          gd_G g mX11_isHere d 0 0 7 [(0, zR 11 0), (1, zR 100 a1), (2, zI (a2 + 1))] [] v4 Q) ∧
        ((¬ (x6 : Int32) = ((ab_tb.getD a1 []).getD (a2 : Int32).toNatClampNeg 0)) →
          Q (Sum.inl (some (zI 0))) v4))) (fun E v9 => Q (Sum.inr E) v9)))
theorem w_X11_isHere_7 {g : ab_E} {d : Nat} {a1 : Nat} {a2 : Int32} {v : gd_D} {Q : ab_O → gd_D → Prop} (hd : 8 ≤ d) (h : wp_X11_isHere_7 g d a1 a2 v Q) : gd_G g mX11_isHere d 0 0 7 [(0, zR 11 0), (1, zR 100 a1), (2, zI a2)] [] v Q := by
  unfold wp_X11_isHere_7 at h
  refine gd_iload_n 2 dX11_isHere_7 rfl rfl ?_
  refine gd_aload_n 1 dX11_isHere_8 rfl rfl ?_
  refine gd_strlen (i := a1) lX11_122 dX11_isHere_9 (Nat.le_of_ble_eq_true rfl) (by omega) ?_
  refine gd_icmp_ge (tgt := 55) dX11_isHere_12 (by decide) (fun hc => ?_) (fun hc => ?_)
  · have h := h.1 hc
    refine gd_aload_n 0 dX11_isHere_55 rfl rfl ?_
    refine gd_aload_n 0 dX11_isHere_56 rfl rfl ?_
    refine gd_getI fX11_112 rfl dX11_isHere_57 ?_
    refine gd_aload_n 1 dX11_isHere_60 rfl rfl ?_
    refine gd_strlen (i := a1) lX11_122 dX11_isHere_61 (Nat.le_of_ble_eq_true rfl) (by omega) ?_
    refine gd_iadd dX11_isHere_64 ?_
    refine gd_nmI (fun x1 ex1 => ?_)
    have h := h x1 ex1
    refine gd_callVI (As := [zI x1]) (rest := []) (dy := 2) (my := 0) (sy := 0) (k := 11) (i := 0) lX11_127 iX11_isSmall sX11_isSmall rfl dX11_isHere_65 rfl rfl (gd_room (by omega) (by decide)) (by decide) (Nat.le_of_ble_eq_true rfl) h (fun r3 v2 h => ?_)
    refine gd_if_ne (tgt := 75) dX11_isHere_68 (by decide) (fun hc => ?_) (fun hc => ?_)
    · have h := h.1 hc
      refine gd_iconst (x9 := 0) dX11_isHere_75 (by decide) ?_
      exact gd_iret (ty := .boolean) dX11_isHere_76 rfl rfl h
    · have h := h.2 hc
      refine gd_iconst (x9 := 1) dX11_isHere_71 (by decide) ?_
      refine gd_goto (tgt := 76) dX11_isHere_72 (by decide) ?_
      exact gd_iret (ty := .boolean) dX11_isHere_76 rfl rfl h
  · have h := h.2 hc
    refine gd_aload_n 0 dX11_isHere_15 rfl rfl ?_
    refine gd_aload_n 0 dX11_isHere_16 rfl rfl ?_
    refine gd_getI fX11_112 rfl dX11_isHere_17 ?_
    refine gd_iload_n 2 dX11_isHere_20 rfl rfl ?_
    refine gd_iadd dX11_isHere_21 ?_
    refine gd_callVI (As := [zI ((v.1 11 0 11) + a2)]) (rest := []) (dy := 2) (my := 0) (sy := 0) (k := 11) (i := 0) lX11_127 iX11_isSmall sX11_isSmall rfl dX11_isHere_22 rfl rfl (gd_room (by omega) (by decide)) (by decide) (Nat.le_of_ble_eq_true rfl) h (fun r5 v4 h => ?_)
    refine gd_if_eq (tgt := 47) dX11_isHere_25 (by decide) (fun hc => ?_) (fun hc => ?_)
    · have h := h.1 hc
      refine gd_iconst (x9 := 0) dX11_isHere_47 (by decide) ?_
      exact gd_iret (ty := .boolean) dX11_isHere_48 rfl rfl h
    · have h := h.2 hc
      refine gd_aload_n 0 dX11_isHere_28 rfl rfl ?_
      refine gd_getR (x := 0) (kr := 45) fX11_34 rfl rfl dX11_isHere_29 rfl ?_
      refine gd_aload_n 0 dX11_isHere_32 rfl rfl ?_
      refine gd_getI fX11_112 rfl dX11_isHere_33 ?_
      refine gd_iload_n 2 dX11_isHere_36 rfl rfl ?_
      refine gd_iadd dX11_isHere_37 ?_
      obtain ⟨hb, h⟩ := h
      refine gd_baload (n := 500) (by decide) rfl dX11_isHere_38 rfl hb ?_
      refine gd_nmI (fun x6 ex6 => ?_)
      have h := h x6 ex6
      refine gd_aload_n 1 dX11_isHere_39 rfl rfl ?_
      refine gd_iload_n 2 dX11_isHere_40 rfl rfl ?_
      obtain ⟨hb, h⟩ := h
      refine gd_strch (i := a1) lX11_131 dX11_isHere_41 (Nat.le_of_ble_eq_true rfl) (by omega) hb ?_
      refine gd_icmp_eq (tgt := 49) dX11_isHere_44 (by decide) (fun hc => ?_) (fun hc => ?_)
      · have h := h.1 hc
        refine gd_iinc (x9 := a2 + 1) (L' := [(2, zI (a2 + 1)), (0, zR 11 0), (1, zR 100 a1)]) 2 dX11_isHere_49 rfl rfl (by decide) rfl ?_
        refine gd_goto (tgt := 7) dX11_isHere_52 (by decide) ?_
        refine gd_locals [1, 2, 0] rfl ?_
        exact h
      · have h := h.2 hc
        refine gd_iconst (x9 := 0) dX11_isHere_47 (by decide) ?_
        exact gd_iret (ty := .boolean) dX11_isHere_48 rfl rfl h
theorem c_X11_isHere {g : ab_E} {d : Nat} {a1 : Nat} {v : gd_D} {Q : ab_O → gd_D → Prop} (hd : 3 ≤ d) (h : wp_X11_isHere g d a1 v Q) : gd_C g mX11_isHere d 0 0 [zR 11 0, zR 100 a1] v Q := gd_enterF (plainFor_of_name (by decide)) (Nat.le_of_ble_eq_true rfl) rfl (w_X11_isHere hd h)
def wp_X11_passesWord (g : ab_E) (d : Nat) (a1 : Nat) (v : gd_D) (Q : ab_O → gd_D → Prop) : Prop :=
  (((0 : Int32) < (v.1 11 0 13)) →
    Q (Sum.inl (some (zI 0))) v) ∧
  ((¬ (0 : Int32) < (v.1 11 0 13)) →
    gd_C g mX11_isHere 7 0 0 [zR 11 0, zR 100 a1] v (gd_rI (fun (r2 : Int32) v1 =>
      ((¬ (r2 : Int32) = 0) →
        ∀ x3 : Int32, x3 = (v1.1 11 0 11) + (Int32.ofNat (ab_tn.getD a1 0)) →
        ∀ v4 : gd_D, v4 = gd_sI v1 11 0 11 x3 →
        Q (Sum.inl (some (zI 1))) v4) ∧
      (((r2 : Int32) = 0) →
        Q (Sum.inl (some (zI 0))) v1)) (fun E v9 => Q (Sum.inr E) v9)))
theorem w_X11_passesWord {g : ab_E} {d : Nat} {a1 : Nat} {v : gd_D} {Q : ab_O → gd_D → Prop} (hd : 8 ≤ d) (h : wp_X11_passesWord g d a1 v Q) : gd_G g mX11_passesWord d 0 0 0 [(0, zR 11 0), (1, zR 100 a1)] [] v Q := by
  unfold wp_X11_passesWord at h
  refine gd_aload_n 0 dX11_passesWord_0 rfl rfl ?_
  refine gd_getI fX11_106 rfl dX11_passesWord_1 ?_
  refine gd_if_gt (tgt := 15) dX11_passesWord_4 (by decide) (fun hc => ?_) (fun hc => ?_)
  · have h := h.1 hc
    refine gd_iconst (x9 := 0) dX11_passesWord_15 (by decide) ?_
    exact gd_iret (ty := .boolean) dX11_passesWord_16 rfl rfl h
  · have h := h.2 hc
    refine gd_aload_n 0 dX11_passesWord_7 rfl rfl ?_
    refine gd_aload_n 1 dX11_passesWord_8 rfl rfl ?_
    refine gd_callVI (As := [zR 100 a1]) (rest := []) (dy := 7) (my := 0) (sy := 0) (k := 11) (i := 0) lX11_135 iX11_isHere sX11_isHere rfl dX11_passesWord_9 rfl rfl (gd_room (by omega) (by decide)) (by decide) (Nat.le_of_ble_eq_true rfl) h (fun r2 v1 h => ?_)
    refine gd_if_ne (tgt := 17) dX11_passesWord_12 (by decide) (fun hc => ?_) (fun hc => ?_)
    · have h := h.1 hc
      refine gd_aload_n 0 dX11_passesWord_17 rfl rfl ?_
      refine gd_dup dX11_passesWord_18 rfl ?_
      refine gd_getI fX11_112 rfl dX11_passesWord_19 ?_
      refine gd_aload_n 1 dX11_passesWord_22 rfl rfl ?_
      refine gd_strlen (i := a1) lX11_122 dX11_passesWord_23 (Nat.le_of_ble_eq_true rfl) (by omega) ?_
      refine gd_iadd dX11_passesWord_26 ?_
      refine gd_nmI (fun x3 ex3 => ?_)
      have h := h x3 ex3
      refine gd_putIn fX11_112 rfl rfl dX11_passesWord_27 (fun v4 ev4 => ?_)
      have h := h v4 ev4
      refine gd_iconst (x9 := 1) dX11_passesWord_30 (by decide) ?_
      exact gd_iret (ty := .boolean) dX11_passesWord_31 rfl rfl h
    · have h := h.2 hc
      refine gd_iconst (x9 := 0) dX11_passesWord_15 (by decide) ?_
      exact gd_iret (ty := .boolean) dX11_passesWord_16 rfl rfl h
theorem c_X11_passesWord {g : ab_E} {d : Nat} {a1 : Nat} {v : gd_D} {Q : ab_O → gd_D → Prop} (hd : 8 ≤ d) (h : wp_X11_passesWord g d a1 v Q) : gd_C g mX11_passesWord d 0 0 [zR 11 0, zR 100 a1] v Q := gd_enterF (plainFor_of_name (by decide)) (Nat.le_of_ble_eq_true rfl) rfl (w_X11_passesWord hd h)
def wp_X11_passes (g : ab_E) (d : Nat) (a1 : Int32) (v : gd_D) (Q : ab_O → gd_D → Prop) : Prop :=
  (((0 : Int32) < (v.1 11 0 13)) →
    Q (Sum.inl (some (zI 0))) v) ∧
  ((¬ (0 : Int32) < (v.1 11 0 13)) →
    gd_C g mX11_sign 2 0 0 [zR 11 0] v (gd_rI (fun (r2 : Int32) v1 =>
      ((¬ (r2 : Int32) = a1) →
        Q (Sum.inl (some (zI 0))) v1) ∧
      (((r2 : Int32) = a1) →
        (((v1.1 11 0 11 : Int32) < (v1.1 11 0 10)) →
          ∀ v3 : gd_D, v3 = gd_sI v1 11 0 11 ((v1.1 11 0 11) + 1) →
          Q (Sum.inl (some (zI 1))) v3) ∧
        ((¬ (v1.1 11 0 11 : Int32) < (v1.1 11 0 10)) →
          Q (Sum.inl (some (zI 0))) v1))) (fun E v9 => Q (Sum.inr E) v9)))
theorem w_X11_passes {g : ab_E} {d : Nat} {a1 : Int32} {v : gd_D} {Q : ab_O → gd_D → Prop} (hd : 3 ≤ d) (h : wp_X11_passes g d a1 v Q) : gd_G g mX11_passes d 0 0 0 [(0, zR 11 0), (1, zI a1)] [] v Q := by
  unfold wp_X11_passes at h
  refine gd_aload_n 0 dX11_passes_0 rfl rfl ?_
  refine gd_getI fX11_106 rfl dX11_passes_1 ?_
  refine gd_if_gt (tgt := 26) dX11_passes_4 (by decide) (fun hc => ?_) (fun hc => ?_)
  · have h := h.1 hc
    refine gd_iconst (x9 := 0) dX11_passes_26 (by decide) ?_
    exact gd_iret (ty := .boolean) dX11_passes_27 rfl rfl h
  · have h := h.2 hc
    refine gd_aload_n 0 dX11_passes_7 rfl rfl ?_
    refine gd_callVI (As := []) (rest := []) (dy := 2) (my := 0) (sy := 0) (k := 11) (i := 0) lX11_118 iX11_sign sX11_sign rfl dX11_passes_8 rfl rfl (gd_room (by omega) (by decide)) (by decide) (Nat.le_of_ble_eq_true rfl) h (fun r2 v1 h => ?_)
    refine gd_iload_n 1 dX11_passes_11 rfl rfl ?_
    refine gd_icmp_ne (tgt := 26) dX11_passes_12 (by decide) (fun hc => ?_) (fun hc => ?_)
    · have h := h.1 hc
      refine gd_iconst (x9 := 0) dX11_passes_26 (by decide) ?_
      exact gd_iret (ty := .boolean) dX11_passes_27 rfl rfl h
    · have h := h.2 hc
      refine gd_aload_n 0 dX11_passes_15 rfl rfl ?_
      refine gd_getI fX11_112 rfl dX11_passes_16 ?_
      refine gd_aload_n 0 dX11_passes_19 rfl rfl ?_
      refine gd_getI fX11_115 rfl dX11_passes_20 ?_
      refine gd_icmp_lt (tgt := 28) dX11_passes_23 (by decide) (fun hc => ?_) (fun hc => ?_)
      · have h := h.1 hc
        refine gd_aload_n 0 dX11_passes_28 rfl rfl ?_
        refine gd_dup dX11_passes_29 rfl ?_
        refine gd_getI fX11_112 rfl dX11_passes_30 ?_
        refine gd_iconst (x9 := 1) dX11_passes_33 (by decide) ?_
        refine gd_iadd dX11_passes_34 ?_
        refine gd_putIn fX11_112 rfl rfl dX11_passes_35 (fun v3 ev3 => ?_)
        have h := h v3 ev3
        refine gd_iconst (x9 := 1) dX11_passes_38 (by decide) ?_
        exact gd_iret (ty := .boolean) dX11_passes_39 rfl rfl h
      · have h := h.2 hc
        refine gd_iconst (x9 := 0) dX11_passes_26 (by decide) ?_
        exact gd_iret (ty := .boolean) dX11_passes_27 rfl rfl h
theorem c_X11_passes {g : ab_E} {d : Nat} {a1 : Int32} {v : gd_D} {Q : ab_O → gd_D → Prop} (hd : 3 ≤ d) (h : wp_X11_passes g d a1 v Q) : gd_C g mX11_passes d 0 0 [zR 11 0, zI a1] v Q := gd_enterF (plainFor_of_name (by decide)) (Nat.le_of_ble_eq_true rfl) rfl (w_X11_passes hd h)
def wp_X11_needs (g : ab_E) (d : Nat) (a1 : Int32) (v : gd_D) (Q : ab_O → gd_D → Prop) : Prop :=
  ((¬ (v.1 11 0 13 : Int32) = 0) →
    Q (Sum.inl none) v) ∧
  (((v.1 11 0 13 : Int32) = 0) →
    gd_C g mX11_passes 3 0 0 [zR 11 0, zI a1] v (gd_rI (fun (r2 : Int32) v1 =>
      ((¬ (r2 : Int32) = 0) →
        Q (Sum.inl none) v1) ∧
      (((r2 : Int32) = 0) →
        gd_C g mX11_wrong 2 0 0 [zR 11 0, zI 1, zI (v1.1 11 0 11)] v1 (gd_rV (fun v3 =>
          Q (Sum.inl none) v3) (fun E v9 => Q (Sum.inr E) v9)))) (fun E v9 => Q (Sum.inr E) v9)))
theorem w_X11_needs {g : ab_E} {d : Nat} {a1 : Int32} {v : gd_D} {Q : ab_O → gd_D → Prop} (hd : 4 ≤ d) (h : wp_X11_needs g d a1 v Q) : gd_G g mX11_needs d 0 0 0 [(0, zR 11 0), (1, zI a1)] [] v Q := by
  unfold wp_X11_needs at h
  refine gd_aload_n 0 dX11_needs_0 rfl rfl ?_
  refine gd_getI fX11_106 rfl dX11_needs_1 ?_
  refine gd_if_ne (tgt := 24) dX11_needs_4 (by decide) (fun hc => ?_) (fun hc => ?_)
  · have h := h.1 hc
    exact gd_vret dX11_needs_24 rfl h
  · have h := h.2 hc
    refine gd_aload_n 0 dX11_needs_7 rfl rfl ?_
    refine gd_iload_n 1 dX11_needs_8 rfl rfl ?_
    refine gd_callVI (As := [zI a1]) (rest := []) (dy := 3) (my := 0) (sy := 0) (k := 11) (i := 0) lX11_139 iX11_passes sX11_passes rfl dX11_needs_9 rfl rfl (gd_room (by omega) (by decide)) (by decide) (Nat.le_of_ble_eq_true rfl) h (fun r2 v1 h => ?_)
    refine gd_if_ne (tgt := 24) dX11_needs_12 (by decide) (fun hc => ?_) (fun hc => ?_)
    · have h := h.1 hc
      exact gd_vret dX11_needs_24 rfl h
    · have h := h.2 hc
      refine gd_aload_n 0 dX11_needs_15 rfl rfl ?_
      refine gd_iconst (x9 := 1) dX11_needs_16 (by decide) ?_
      refine gd_aload_n 0 dX11_needs_17 rfl rfl ?_
      refine gd_getI fX11_112 rfl dX11_needs_18 ?_
      refine gd_callVV (As := [zI 1, zI (v1.1 11 0 11)]) (rest := []) (dy := 2) (my := 0) (sy := 0) (k := 11) (i := 0) lX11_142 iX11_wrong sX11_wrong rfl dX11_needs_21 rfl rfl (gd_room (by omega) (by decide)) (by decide) (Nat.le_of_ble_eq_true rfl) h (fun v3 h => ?_)
      exact gd_vret dX11_needs_24 rfl h
theorem c_X11_needs {g : ab_E} {d : Nat} {a1 : Int32} {v : gd_D} {Q : ab_O → gd_D → Prop} (hd : 4 ≤ d) (h : wp_X11_needs g d a1 v Q) : gd_C g mX11_needs d 0 0 [zR 11 0, zI a1] v Q := gd_enterF (plainFor_of_name (by decide)) (Nat.le_of_ble_eq_true rfl) rfl (w_X11_needs hd h)
def wp_X11_number_32 (g : ab_E) (d : Nat) (a1 : Int64) (a3 : Int64) (v : gd_D) (Q : ab_O → gd_D → Prop) : Prop :=
  (((v.1 11 0 13 : Int32) ≤ 0) →
    ∀ v1 : gd_D, v1 = gd_sI v 11 0 12 (v.1 11 0 11) →
    gd_G g mX11_number d 0 0 52 [(0, zR 11 0), (1, zJ a1), (3, zJ a3), (5, zJ 0)] [] v1 Q) ∧
  ((¬ (v.1 11 0 13 : Int32) ≤ 0) →
    Q (Sum.inl (some (zJ 0))) v)
theorem w_X11_number_32 {g : ab_E} {d : Nat} {a1 : Int64} {a3 : Int64} {v : gd_D} {Q : ab_O → gd_D → Prop} (hd : 0 ≤ d) (h : wp_X11_number_32 g d a1 a3 v Q) : gd_G g mX11_number d 0 0 32 [(0, zR 11 0), (1, zJ a1), (3, zJ a3)] [] v Q := by
  unfold wp_X11_number_32 at h
  refine gd_aload_n 0 dX11_number_32 rfl rfl ?_
  refine gd_getI fX11_106 rfl dX11_number_33 ?_
  refine gd_if_le (tgt := 41) dX11_number_36 (by decide) (fun hc => ?_) (fun hc => ?_)
  · have h := h.1 hc
    refine gd_aload_n 0 dX11_number_41 rfl rfl ?_
    refine gd_aload_n 0 dX11_number_42 rfl rfl ?_
    refine gd_getI fX11_112 rfl dX11_number_43 ?_
    refine gd_putIn fX11_149 rfl rfl dX11_number_46 (fun v1 ev1 => ?_)
    have h := h v1 ev1
    refine gd_lconst (x9 := 0) dX11_number_49 (by decide) ?_
    refine gd_lstore (L' := [(5, zJ 0), (0, zR 11 0), (1, zJ a1), (3, zJ a3)]) dX11_number_50 (by decide) rfl ?_
    refine gd_locals [1, 2, 3, 0] rfl ?_
    exact h
  · have h := h.2 hc
    refine gd_lconst (x9 := 0) dX11_number_39 (by decide) ?_
    exact gd_lret dX11_number_40 rfl h
def wp_X11_number (g : ab_E) (d : Nat) (a1 : Int64) (a3 : Int64) (v : gd_D) (Q : ab_O → gd_D → Prop) : Prop :=
  gd_C g mX11_sign 2 0 0 [zR 11 0] v (gd_rI (fun (r2 : Int32) v1 =>
    ((¬ (v1.1 11 0 13 : Int32) = 0) →
      wp_X11_number_32 g d a1 a3 v1 Q) ∧
    (((v1.1 11 0 13 : Int32) = 0) →
      gd_C g mX11_isFigure 2 0 0 [zR 11 0, zI (v1.1 11 0 11)] v1 (gd_rI (fun (r4 : Int32) v3 =>
        ((¬ (r4 : Int32) = 0) →
          wp_X11_number_32 g d a1 a3 v3 Q) ∧
        (((r4 : Int32) = 0) →
          gd_C g mX11_wrong 2 0 0 [zR 11 0, zI 1, zI (v3.1 11 0 11)] v3 (gd_rV (fun v5 =>
            wp_X11_number_32 g d a1 a3 v5 Q) (fun E v9 => Q (Sum.inr E) v9)))) (fun E v9 => Q (Sum.inr E) v9)))) (fun E v9 => Q (Sum.inr E) v9))
theorem w_X11_number {g : ab_E} {d : Nat} {a1 : Int64} {a3 : Int64} {v : gd_D} {Q : ab_O → gd_D → Prop} (hd : 3 ≤ d) (h : wp_X11_number g d a1 a3 v Q) : gd_G g mX11_number d 0 0 0 [(0, zR 11 0), (1, zJ a1), (3, zJ a3)] [] v Q := by
  unfold wp_X11_number at h
  refine gd_aload_n 0 dX11_number_0 rfl rfl ?_
  refine gd_callVI (As := []) (rest := []) (dy := 2) (my := 0) (sy := 0) (k := 11) (i := 0) lX11_118 iX11_sign sX11_sign rfl dX11_number_1 rfl rfl (gd_room (by omega) (by decide)) (by decide) (Nat.le_of_ble_eq_true rfl) h (fun r2 v1 h => ?_)
  refine gd_pop dX11_number_4 rfl ?_
  refine gd_aload_n 0 dX11_number_5 rfl rfl ?_
  refine gd_getI fX11_106 rfl dX11_number_6 ?_
  refine gd_if_ne (tgt := 32) dX11_number_9 (by decide) (fun hc => ?_) (fun hc => ?_)
  · have h := h.1 hc
    exact w_X11_number_32 (by omega) h
  · have h := h.2 hc
    refine gd_aload_n 0 dX11_number_12 rfl rfl ?_
    refine gd_aload_n 0 dX11_number_13 rfl rfl ?_
    refine gd_getI fX11_112 rfl dX11_number_14 ?_
    refine gd_callVI (As := [zI (v1.1 11 0 11)]) (rest := []) (dy := 2) (my := 0) (sy := 0) (k := 11) (i := 0) lX11_146 iX11_isFigure sX11_isFigure rfl dX11_number_17 rfl rfl (gd_room (by omega) (by decide)) (by decide) (Nat.le_of_ble_eq_true rfl) h (fun r4 v3 h => ?_)
    refine gd_if_ne (tgt := 32) dX11_number_20 (by decide) (fun hc => ?_) (fun hc => ?_)
    · have h := h.1 hc
      exact w_X11_number_32 (by omega) h
    · have h := h.2 hc
      refine gd_aload_n 0 dX11_number_23 rfl rfl ?_
      refine gd_iconst (x9 := 1) dX11_number_24 (by decide) ?_
      refine gd_aload_n 0 dX11_number_25 rfl rfl ?_
      refine gd_getI fX11_112 rfl dX11_number_26 ?_
      refine gd_callVV (As := [zI 1, zI (v3.1 11 0 11)]) (rest := []) (dy := 2) (my := 0) (sy := 0) (k := 11) (i := 0) lX11_142 iX11_wrong sX11_wrong rfl dX11_number_29 rfl rfl (gd_room (by omega) (by decide)) (by decide) (Nat.le_of_ble_eq_true rfl) h (fun v5 h => ?_)
      exact w_X11_number_32 (by omega) h
def wp_X11_number_52 (g : ab_E) (d : Nat) (a1 : Int64) (a3 : Int64) (a5 : Int64) (v : gd_D) (Q : ab_O → gd_D → Prop) : Prop :=
  gd_C g mX11_isFigure 2 0 0 [zR 11 0, zI (v.1 11 0 11)] v (gd_rI (fun (r2 : Int32) v1 =>
    (((r2 : Int32) = 0) →
      gd_C g mX11_lies 2 0 0 [zJ a5, zJ a1, zJ a3] v1 (gd_rI (fun (r4 : Int32) v3 =>
        ((¬ (r4 : Int32) = 0) →
          Q (Sum.inl (some (zJ a5))) v3) ∧
        (((r4 : Int32) = 0) →
          gd_C g mX11_wrong 2 0 0 [zR 11 0, zI 2, zI (v3.1 11 0 12)] v3 (gd_rV (fun v5 =>
            Q (Sum.inl (some (zJ a5))) v5) (fun E v9 => Q (Sum.inr E) v9)))) (fun E v9 => Q (Sum.inr E) v9))) ∧
    ((¬ (r2 : Int32) = 0) →
      vp_in (v1.1 11 0 11) 500 ∧
      ∀ x7 : Int32, x7 = v1.1 45 0 (v1.1 11 0 11 : Int32).toNatClampNeg →
      gd_C g mJ9_min_f86c9 2 0 0 [zJ (((10 * a5) + ((x7 : Int32).toInt64)) - 48), zJ 1000000] v1 (gd_rJ (fun (r9 : Int64) v8 =>
        ∀ v10 : gd_D, v10 = gd_sI v8 11 0 11 ((v8.1 11 0 11) + 1) →
        gd_G g mX11_number d 0 0 52 [(0, zR 11 0), (1, zJ a1), (3, zJ a3), (5, zJ r9)] [] v10 Q) (fun E v9 => Q (Sum.inr E) v9)))) (fun E v9 => Q (Sum.inr E) v9))
theorem w_X11_number_52 {g : ab_E} {d : Nat} {a1 : Int64} {a3 : Int64} {a5 : Int64} {v : gd_D} {Q : ab_O → gd_D → Prop} (hd : 3 ≤ d) (h : wp_X11_number_52 g d a1 a3 a5 v Q) : gd_G g mX11_number d 0 0 52 [(0, zR 11 0), (1, zJ a1), (3, zJ a3), (5, zJ a5)] [] v Q := by
  unfold wp_X11_number_52 at h
  refine gd_aload_n 0 dX11_number_52 rfl rfl ?_
  refine gd_aload_n 0 dX11_number_53 rfl rfl ?_
  refine gd_getI fX11_112 rfl dX11_number_54 ?_
  refine gd_callVI (As := [zI (v.1 11 0 11)]) (rest := []) (dy := 2) (my := 0) (sy := 0) (k := 11) (i := 0) lX11_146 iX11_isFigure sX11_isFigure rfl dX11_number_57 rfl rfl (gd_room (by omega) (by decide)) (by decide) (Nat.le_of_ble_eq_true rfl) h (fun r2 v1 h => ?_)
  refine gd_if_eq (tgt := 105) dX11_number_60 (by decide) (fun hc => ?_) (fun hc => ?_)
  · have h := h.1 hc
    refine gd_lload 3 dX11_number_105 rfl ?_
    refine gd_lload_n 1 dX11_number_107 rfl rfl ?_
    refine gd_lload_n 2 dX11_number_108 rfl rfl ?_
    refine gd_callSI (As := [zJ a5, zJ a1, zJ a3]) (rest := []) (dy := 2) (my := 0) (sy := 0) lX11_164 tX11_lies dX11_number_109 rfl rfl (gd_room (by omega) (by decide)) (by decide) (Nat.le_of_ble_eq_true rfl) h (fun r4 v3 h => ?_)
    refine gd_if_ne (tgt := 124) dX11_number_112 (by decide) (fun hc => ?_) (fun hc => ?_)
    · have h := h.1 hc
      refine gd_lload 3 dX11_number_124 rfl ?_
      exact gd_lret dX11_number_126 rfl h
    · have h := h.2 hc
      refine gd_aload_n 0 dX11_number_115 rfl rfl ?_
      refine gd_iconst (x9 := 2) dX11_number_116 (by decide) ?_
      refine gd_aload_n 0 dX11_number_117 rfl rfl ?_
      refine gd_getI fX11_149 rfl dX11_number_118 ?_
      refine gd_callVV (As := [zI 2, zI (v3.1 11 0 12)]) (rest := []) (dy := 2) (my := 0) (sy := 0) (k := 11) (i := 0) lX11_142 iX11_wrong sX11_wrong rfl dX11_number_121 rfl rfl (gd_room (by omega) (by decide)) (by decide) (Nat.le_of_ble_eq_true rfl) h (fun v5 h => ?_)
      refine gd_lload 3 dX11_number_124 rfl ?_
      exact gd_lret dX11_number_126 rfl h
  · have h := h.2 hc
    refine gd_ldc2 kX11_152 dX11_number_63 ?_
    refine gd_lload 3 dX11_number_66 rfl ?_
    refine gd_lmul dX11_number_68 ?_
    refine gd_aload_n 0 dX11_number_69 rfl rfl ?_
    refine gd_getR (x := 0) (kr := 45) fX11_34 rfl rfl dX11_number_70 rfl ?_
    refine gd_aload_n 0 dX11_number_73 rfl rfl ?_
    refine gd_getI fX11_112 rfl dX11_number_74 ?_
    obtain ⟨hb, h⟩ := h
    refine gd_baload (n := 500) (by decide) rfl dX11_number_77 rfl hb ?_
    refine gd_nmI (fun x7 ex7 => ?_)
    have h := h x7 ex7
    refine gd_i2l dX11_number_78 ?_
    refine gd_ladd dX11_number_79 ?_
    refine gd_ldc2 kX11_154 dX11_number_80 ?_
    refine gd_lsub dX11_number_83 ?_
    refine gd_ldc2 kX11_156 dX11_number_84 ?_
    refine gd_callSJ (As := [zJ (((10 * a5) + ((x7 : Int32).toInt64)) - 48), zJ 1000000]) (rest := []) (dy := 2) (my := 0) (sy := 0) lX11_158 tJ9_min_f86c9 dX11_number_87 rfl rfl (gd_room (by omega) (by decide)) (by decide) (Nat.le_of_ble_eq_true rfl) h (fun r9 v8 h => ?_)
    refine gd_lstore (L' := [(5, zJ r9), (0, zR 11 0), (1, zJ a1), (3, zJ a3)]) dX11_number_90 (by decide) rfl ?_
    refine gd_aload_n 1 dX11_number_92 rfl rfl ?_
    refine gd_dup dX11_number_93 rfl ?_
    refine gd_getI fX11_112 rfl dX11_number_94 ?_
    refine gd_iconst (x9 := 1) dX11_number_97 (by decide) ?_
    refine gd_iadd dX11_number_98 ?_
    refine gd_putIn fX11_112 rfl rfl dX11_number_99 (fun v10 ev10 => ?_)
    have h := h v10 ev10
    refine gd_goto (tgt := 52) dX11_number_102 (by decide) ?_
    refine gd_locals [1, 2, 3, 0] rfl ?_
    exact h
theorem c_X11_number {g : ab_E} {d : Nat} {a1 : Int64} {a3 : Int64} {v : gd_D} {Q : ab_O → gd_D → Prop} (hd : 3 ≤ d) (h : wp_X11_number g d a1 a3 v Q) : gd_C g mX11_number d 0 0 [zR 11 0, zJ a1, zJ a3] v Q := gd_enterF (plainFor_of_name (by decide)) (Nat.le_of_ble_eq_true rfl) rfl (w_X11_number hd h)
def wp_X11_code (g : ab_E) (d : Nat) (a1 : Int64) (v : gd_D) (Q : ab_O → gd_D → Prop) : Prop :=
  (((v.1 11 0 13 : Int32) ≤ 0) →
    vp_in 7 773 ∧
    ∀ x1 : Int32, x1 = (v.2.1 41 0 (7 : Int32).toNatClampNeg : Int64).toInt32 →
    vp_in (273 + x1) 773 ∧
    ∀ v2 : gd_D, v2 = gd_sJ v 41 0 ((273 + x1 : Int32).toNatClampNeg) a1 →
    vp_in 7 773 ∧
    vp_in 7 773 ∧
    ∀ v3 : gd_D, v3 = gd_sJ v2 41 0 ((7 : Int32).toNatClampNeg) ((v2.2.1 41 0 (7 : Int32).toNatClampNeg) + 1) →
    Q (Sum.inl none) v3) ∧
  ((¬ (v.1 11 0 13 : Int32) ≤ 0) →
    Q (Sum.inl none) v)
theorem w_X11_code {g : ab_E} {d : Nat} {a1 : Int64} {v : gd_D} {Q : ab_O → gd_D → Prop} (hd : 0 ≤ d) (h : wp_X11_code g d a1 v Q) : gd_G g mX11_code d 0 0 0 [(0, zR 11 0), (1, zJ a1)] [] v Q := by
  unfold wp_X11_code at h
  refine gd_aload_n 0 dX11_code_0 rfl rfl ?_
  refine gd_getI fX11_106 rfl dX11_code_1 ?_
  refine gd_if_le (tgt := 8) dX11_code_4 (by decide) (fun hc => ?_) (fun hc => ?_)
  · have h := h.1 hc
    refine gd_aload_n 0 dX11_code_8 rfl rfl ?_
    refine gd_getR (x := 0) (kr := 41) fX11_21 rfl rfl dX11_code_9 rfl ?_
    refine gd_sipush (x9 := 273) dX11_code_12 (by decide) ?_
    refine gd_aload_n 0 dX11_code_15 rfl rfl ?_
    refine gd_getR (x := 0) (kr := 41) fX11_21 rfl rfl dX11_code_16 rfl ?_
    refine gd_bipush (x9 := 7) dX11_code_19 (by decide) ?_
    obtain ⟨hb, h⟩ := h
    refine gd_laload (n := 773) (by decide) rfl dX11_code_21 rfl hb ?_
    refine gd_l2i dX11_code_22 ?_
    refine gd_nmI (fun x1 ex1 => ?_)
    have h := h x1 ex1
    refine gd_iadd dX11_code_23 ?_
    refine gd_lload_n 1 dX11_code_24 rfl rfl ?_
    obtain ⟨hb, h⟩ := h
    refine gd_lastoren (n := 773) (by decide) rfl rfl dX11_code_25 rfl hb (fun v2 ev2 => ?_)
    have h := h v2 ev2
    refine gd_aload_n 0 dX11_code_26 rfl rfl ?_
    refine gd_getR (x := 0) (kr := 41) fX11_21 rfl rfl dX11_code_27 rfl ?_
    refine gd_bipush (x9 := 7) dX11_code_30 (by decide) ?_
    refine gd_dup2_11 dX11_code_32 rfl rfl ?_
    obtain ⟨hb, h⟩ := h
    refine gd_laload (n := 773) (by decide) rfl dX11_code_33 rfl hb ?_
    refine gd_lconst (x9 := 1) dX11_code_34 (by decide) ?_
    refine gd_ladd dX11_code_35 ?_
    obtain ⟨hb, h⟩ := h
    refine gd_lastoren (n := 773) (by decide) rfl rfl dX11_code_36 rfl hb (fun v3 ev3 => ?_)
    have h := h v3 ev3
    exact gd_vret dX11_code_37 rfl h
  · have h := h.2 hc
    exact gd_vret dX11_code_7 rfl h
theorem c_X11_code {g : ab_E} {d : Nat} {a1 : Int64} {v : gd_D} {Q : ab_O → gd_D → Prop} (hd : 0 ≤ d) (h : wp_X11_code g d a1 v Q) : gd_C g mX11_code d 0 0 [zR 11 0, zJ a1] v Q := gd_enterF (plainFor_of_name (by decide)) (Nat.le_of_ble_eq_true rfl) rfl (w_X11_code hd h)
def wp_X11_partWord (g : ab_E) (d : Nat) (a0 : Int32) (v : gd_D) (Q : ab_O → gd_D → Prop) : Prop :=
  ((a0 : Int32) = 0 →
    Q (Sum.inl (some (zR 100 7))) v) ∧
  ((a0 : Int32) = 1 →
    Q (Sum.inl (some (zR 100 8))) v) ∧
  ((a0 : Int32) = 2 →
    Q (Sum.inl (some (zR 100 9))) v) ∧
  ((a0 : Int32) = 3 →
    Q (Sum.inl (some (zR 100 10))) v) ∧
  ((a0 : Int32) = 4 →
    Q (Sum.inl (some (zR 100 11))) v) ∧
  ((a0 : Int32) = 5 →
    Q (Sum.inl (some (zR 100 12))) v) ∧
  (((a0 : Int32).toInt < 0 ∨ 5 < (a0 : Int32).toInt) →
    Q (Sum.inl (some (zR 100 13))) v)
theorem w_X11_partWord {g : ab_E} {d : Nat} {a0 : Int32} {v : gd_D} {Q : ab_O → gd_D → Prop} (hd : 0 ≤ d) (h : wp_X11_partWord g d a0 v Q) : gd_G g mX11_partWord d 0 0 0 [(0, zI a0)] [] v Q := by
  unfold wp_X11_partWord at h
  refine gd_iload_n 0 dX11_partWord_0 rfl rfl ?_
  rcases sw_0_5 a0 with hc | hc | hc | hc | hc | hc | hc
  · refine gd_tableIn (off := 39) (tgt := 40) dX11_partWord_1 (by rw [hc]; decide) (by rw [hc]; decide) (by rw [hc]; decide) (by decide) ?_
    have h := h.1 hc
    refine gd_ldcS (i := 7) (by decide) kX11_168 dX11_partWord_40 ?_
    exact gd_aret (ty := (.object "java/lang/String")) dX11_partWord_42 rfl (Or.inl ⟨_, rfl⟩) h
  · refine gd_tableIn (off := 42) (tgt := 43) dX11_partWord_1 (by rw [hc]; decide) (by rw [hc]; decide) (by rw [hc]; decide) (by decide) ?_
    have h := h.2.1 hc
    refine gd_ldcS (i := 8) (by decide) kX11_170 dX11_partWord_43 ?_
    exact gd_aret (ty := (.object "java/lang/String")) dX11_partWord_45 rfl (Or.inl ⟨_, rfl⟩) h
  · refine gd_tableIn (off := 45) (tgt := 46) dX11_partWord_1 (by rw [hc]; decide) (by rw [hc]; decide) (by rw [hc]; decide) (by decide) ?_
    have h := h.2.2.1 hc
    refine gd_ldcS (i := 9) (by decide) kX11_172 dX11_partWord_46 ?_
    exact gd_aret (ty := (.object "java/lang/String")) dX11_partWord_48 rfl (Or.inl ⟨_, rfl⟩) h
  · refine gd_tableIn (off := 48) (tgt := 49) dX11_partWord_1 (by rw [hc]; decide) (by rw [hc]; decide) (by rw [hc]; decide) (by decide) ?_
    have h := h.2.2.2.1 hc
    refine gd_ldcS (i := 10) (by decide) kX11_174 dX11_partWord_49 ?_
    exact gd_aret (ty := (.object "java/lang/String")) dX11_partWord_51 rfl (Or.inl ⟨_, rfl⟩) h
  · refine gd_tableIn (off := 51) (tgt := 52) dX11_partWord_1 (by rw [hc]; decide) (by rw [hc]; decide) (by rw [hc]; decide) (by decide) ?_
    have h := h.2.2.2.2.1 hc
    refine gd_ldcS (i := 11) (by decide) kX11_176 dX11_partWord_52 ?_
    exact gd_aret (ty := (.object "java/lang/String")) dX11_partWord_54 rfl (Or.inl ⟨_, rfl⟩) h
  · refine gd_tableIn (off := 54) (tgt := 55) dX11_partWord_1 (by rw [hc]; decide) (by rw [hc]; decide) (by rw [hc]; decide) (by decide) ?_
    have h := h.2.2.2.2.2.1 hc
    refine gd_ldcS (i := 12) (by decide) kX11_178 dX11_partWord_55 ?_
    exact gd_aret (ty := (.object "java/lang/String")) dX11_partWord_57 rfl (Or.inl ⟨_, rfl⟩) h
  · refine gd_tableOut (tgt := 58) dX11_partWord_1 hc (by decide) ?_
    have h := h.2.2.2.2.2.2 hc
    refine gd_ldcS (i := 13) (by decide) kX11_180 dX11_partWord_58 ?_
    exact gd_aret (ty := (.object "java/lang/String")) dX11_partWord_60 rfl (Or.inl ⟨_, rfl⟩) h
theorem c_X11_partWord {g : ab_E} {d : Nat} {a0 : Int32} {v : gd_D} {Q : ab_O → gd_D → Prop} (hd : 0 ≤ d) (h : wp_X11_partWord g d a0 v Q) : gd_C g mX11_partWord d 0 0 [zI a0] v Q := gd_enterF (plainFor_of_name (by decide)) (Nat.le_of_ble_eq_true rfl) rfl (w_X11_partWord hd h)
def wp_X11_expression (g : ab_E) (d : Nat) (e : Nat) (v : gd_D) (Q : ab_O → gd_D → Prop) : Prop :=
  gd_C g mX11_term e 0 0 [zR 11 0] v (gd_rV (fun v1 =>
    gd_G g mX11_expression d 0 0 4 [(0, zR 11 0)] [] v1 Q) (fun E v9 => Q (Sum.inr E) v9))
theorem w_X11_expression {g : ab_E} {d : Nat} {e : Nat} {v : gd_D} {Q : ab_O → gd_D → Prop} (he : e + 1 ≤ d) (hd : 0 ≤ d) (h : wp_X11_expression g d e v Q) : gd_G g mX11_expression d 0 0 0 [(0, zR 11 0)] [] v Q := by
  unfold wp_X11_expression at h
  refine gd_aload_n 0 dX11_expression_0 rfl rfl ?_
  refine gd_callVV (As := []) (rest := []) (dy := e) (my := 0) (sy := 0) (k := 11) (i := 0) lX11_182 iX11_term sX11_term rfl dX11_expression_1 rfl rfl (gd_room he (by decide)) (by decide) (Nat.le_of_ble_eq_true rfl) h (fun v1 h => ?_)
  exact h
def wp_X11_expression_29 (g : ab_E) (d : Nat) (e : Nat) (v : gd_D) (Q : ab_O → gd_D → Prop) : Prop :=
  (((v.1 11 0 10 : Int32) ≤ (v.1 11 0 11)) →
    Q (Sum.inl none) v) ∧
  ((¬ (v.1 11 0 10 : Int32) ≤ (v.1 11 0 11)) →
    gd_C g mX11_sign 2 0 0 [zR 11 0] v (gd_rI (fun (r2 : Int32) v1 =>
      ∀ v3 : gd_D, v3 = gd_sI v1 11 0 11 ((v1.1 11 0 11) + 1) →
      gd_C g mX11_term e 0 0 [zR 11 0] v3 (gd_rV (fun v4 =>
        gd_C g mX11_code 2 0 0 [zR 11 0, zJ (2000000 + ((r2 : Int32).toInt64))] v4 (gd_rV (fun v6 =>
          gd_G g mX11_expression d 0 0 4 [(0, zR 11 0)] [] v6 Q) (fun E v9 => Q (Sum.inr E) v9))) (fun E v9 => Q (Sum.inr E) v9))) (fun E v9 => Q (Sum.inr E) v9)))
theorem w_X11_expression_29 {g : ab_E} {d : Nat} {e : Nat} {v : gd_D} {Q : ab_O → gd_D → Prop} (he : e + 1 ≤ d) (hd : 3 ≤ d) (h : wp_X11_expression_29 g d e v Q) : gd_G g mX11_expression d 0 0 29 [(0, zR 11 0)] [] v Q := by
  unfold wp_X11_expression_29 at h
  refine gd_aload_n 0 dX11_expression_29 rfl rfl ?_
  refine gd_getI fX11_112 rfl dX11_expression_30 ?_
  refine gd_aload_n 0 dX11_expression_33 rfl rfl ?_
  refine gd_getI fX11_115 rfl dX11_expression_34 ?_
  refine gd_icmp_ge (tgt := 72) dX11_expression_37 (by decide) (fun hc => ?_) (fun hc => ?_)
  · have h := h.1 hc
    exact gd_vret dX11_expression_72 rfl h
  · have h := h.2 hc
    refine gd_aload_n 0 dX11_expression_40 rfl rfl ?_
    refine gd_callVI (As := []) (rest := []) (dy := 2) (my := 0) (sy := 0) (k := 11) (i := 0) lX11_118 iX11_sign sX11_sign rfl dX11_expression_41 rfl rfl (gd_room (by omega) (by decide)) (by decide) (Nat.le_of_ble_eq_true rfl) h (fun r2 v1 h => ?_)
    refine gd_istore_n (L' := [(1, zI r2), (0, zR 11 0)]) dX11_expression_44 rfl (by decide) rfl ?_
    refine gd_aload_n 1 dX11_expression_45 rfl rfl ?_
    refine gd_dup dX11_expression_46 rfl ?_
    refine gd_getI fX11_112 rfl dX11_expression_47 ?_
    refine gd_iconst (x9 := 1) dX11_expression_50 (by decide) ?_
    refine gd_iadd dX11_expression_51 ?_
    refine gd_putIn fX11_112 rfl rfl dX11_expression_52 (fun v3 ev3 => ?_)
    have h := h v3 ev3
    refine gd_aload_n 1 dX11_expression_55 rfl rfl ?_
    refine gd_callVV (As := []) (rest := []) (dy := e) (my := 0) (sy := 0) (k := 11) (i := 0) lX11_182 iX11_term sX11_term rfl dX11_expression_56 rfl rfl (gd_room he (by decide)) (by decide) (Nat.le_of_ble_eq_true rfl) h (fun v4 h => ?_)
    refine gd_aload_n 1 dX11_expression_59 rfl rfl ?_
    refine gd_ldc2 kX11_185 dX11_expression_60 ?_
    refine gd_iload_n 0 dX11_expression_63 rfl rfl ?_
    refine gd_i2l dX11_expression_64 ?_
    refine gd_ladd dX11_expression_65 ?_
    refine gd_callVV (As := [zJ (2000000 + ((r2 : Int32).toInt64))]) (rest := []) (dy := 2) (my := 0) (sy := 0) (k := 11) (i := 0) lX11_187 iX11_code sX11_code rfl dX11_expression_66 rfl rfl (gd_room (by omega) (by decide)) (by decide) (Nat.le_of_ble_eq_true rfl) h (fun v6 h => ?_)
    refine gd_goto (tgt := 4) dX11_expression_69 (by decide) ?_
    refine gd_locals [1] rfl ?_
    exact h
def wp_X11_expression_4 (g : ab_E) (d : Nat) (e : Nat) (v : gd_D) (Q : ab_O → gd_D → Prop) : Prop :=
  ((¬ (v.1 11 0 13 : Int32) = 0) →
    Q (Sum.inl none) v) ∧
  (((v.1 11 0 13 : Int32) = 0) →
    gd_C g mX11_sign 2 0 0 [zR 11 0] v (gd_rI (fun (r2 : Int32) v1 =>
      (((r2 : Int32) = 43) →
        wp_X11_expression_29 g d e v1 Q) ∧
      ((¬ (r2 : Int32) = 43) →
        gd_C g mX11_sign 2 0 0 [zR 11 0] v1 (gd_rI (fun (r4 : Int32) v3 =>
          ((¬ (r4 : Int32) = 45) →
            Q (Sum.inl none) v3) ∧
          (((r4 : Int32) = 45) →
            wp_X11_expression_29 g d e v3 Q)) (fun E v9 => Q (Sum.inr E) v9)))) (fun E v9 => Q (Sum.inr E) v9)))
theorem w_X11_expression_4 {g : ab_E} {d : Nat} {e : Nat} {v : gd_D} {Q : ab_O → gd_D → Prop} (he : e + 1 ≤ d) (hd : 3 ≤ d) (h : wp_X11_expression_4 g d e v Q) : gd_G g mX11_expression d 0 0 4 [(0, zR 11 0)] [] v Q := by
  unfold wp_X11_expression_4 at h
  refine gd_aload_n 0 dX11_expression_4 rfl rfl ?_
  refine gd_getI fX11_106 rfl dX11_expression_5 ?_
  refine gd_if_ne (tgt := 72) dX11_expression_8 (by decide) (fun hc => ?_) (fun hc => ?_)
  · have h := h.1 hc
    exact gd_vret dX11_expression_72 rfl h
  · have h := h.2 hc
    refine gd_aload_n 0 dX11_expression_11 rfl rfl ?_
    refine gd_callVI (As := []) (rest := []) (dy := 2) (my := 0) (sy := 0) (k := 11) (i := 0) lX11_118 iX11_sign sX11_sign rfl dX11_expression_12 rfl rfl (gd_room (by omega) (by decide)) (by decide) (Nat.le_of_ble_eq_true rfl) h (fun r2 v1 h => ?_)
    refine gd_bipush (x9 := 43) dX11_expression_15 (by decide) ?_
    refine gd_icmp_eq (tgt := 29) dX11_expression_17 (by decide) (fun hc => ?_) (fun hc => ?_)
    · have h := h.1 hc
      exact w_X11_expression_29 he (by omega) h
    · have h := h.2 hc
      refine gd_aload_n 0 dX11_expression_20 rfl rfl ?_
      refine gd_callVI (As := []) (rest := []) (dy := 2) (my := 0) (sy := 0) (k := 11) (i := 0) lX11_118 iX11_sign sX11_sign rfl dX11_expression_21 rfl rfl (gd_room (by omega) (by decide)) (by decide) (Nat.le_of_ble_eq_true rfl) h (fun r4 v3 h => ?_)
      refine gd_bipush (x9 := 45) dX11_expression_24 (by decide) ?_
      refine gd_icmp_ne (tgt := 72) dX11_expression_26 (by decide) (fun hc => ?_) (fun hc => ?_)
      · have h := h.1 hc
        exact gd_vret dX11_expression_72 rfl h
      · have h := h.2 hc
        exact w_X11_expression_29 he (by omega) h
theorem c_X11_expression {g : ab_E} {d : Nat} {e : Nat} {v : gd_D} {Q : ab_O → gd_D → Prop} (he : e + 1 ≤ d) (hd : 0 ≤ d) (h : wp_X11_expression g d e v Q) : gd_C g mX11_expression d 0 0 [zR 11 0] v Q := gd_enterF (plainFor_of_name (by decide)) (Nat.le_of_ble_eq_true rfl) rfl (w_X11_expression he hd h)
def wp_X11_term (g : ab_E) (d : Nat) (e : Nat) (v : gd_D) (Q : ab_O → gd_D → Prop) : Prop :=
  gd_C g mX11_factor e 0 0 [zR 11 0] v (gd_rV (fun v1 =>
    gd_G g mX11_term d 0 0 4 [(0, zR 11 0)] [] v1 Q) (fun E v9 => Q (Sum.inr E) v9))
theorem w_X11_term {g : ab_E} {d : Nat} {e : Nat} {v : gd_D} {Q : ab_O → gd_D → Prop} (he : e + 1 ≤ d) (hd : 0 ≤ d) (h : wp_X11_term g d e v Q) : gd_G g mX11_term d 0 0 0 [(0, zR 11 0)] [] v Q := by
  unfold wp_X11_term at h
  refine gd_aload_n 0 dX11_term_0 rfl rfl ?_
  refine gd_callVV (As := []) (rest := []) (dy := e) (my := 0) (sy := 0) (k := 11) (i := 0) lX11_191 iX11_factor sX11_factor rfl dX11_term_1 rfl rfl (gd_room he (by decide)) (by decide) (Nat.le_of_ble_eq_true rfl) h (fun v1 h => ?_)
  exact h
def wp_X11_term_4 (g : ab_E) (d : Nat) (e : Nat) (v : gd_D) (Q : ab_O → gd_D → Prop) : Prop :=
  gd_C g mX11_passes 3 0 0 [zR 11 0, zI 42] v (gd_rI (fun (r2 : Int32) v1 =>
    (((r2 : Int32) = 0) →
      Q (Sum.inl none) v1) ∧
    ((¬ (r2 : Int32) = 0) →
      gd_C g mX11_factor e 0 0 [zR 11 0] v1 (gd_rV (fun v3 =>
        gd_C g mX11_code 2 0 0 [zR 11 0, zJ 2000042] v3 (gd_rV (fun v5 =>
          gd_G g mX11_term d 0 0 4 [(0, zR 11 0)] [] v5 Q) (fun E v9 => Q (Sum.inr E) v9))) (fun E v9 => Q (Sum.inr E) v9)))) (fun E v9 => Q (Sum.inr E) v9))
theorem w_X11_term_4 {g : ab_E} {d : Nat} {e : Nat} {v : gd_D} {Q : ab_O → gd_D → Prop} (he : e + 1 ≤ d) (hd : 4 ≤ d) (h : wp_X11_term_4 g d e v Q) : gd_G g mX11_term d 0 0 4 [(0, zR 11 0)] [] v Q := by
  unfold wp_X11_term_4 at h
  refine gd_aload_n 0 dX11_term_4 rfl rfl ?_
  refine gd_bipush (x9 := 42) dX11_term_5 (by decide) ?_
  refine gd_callVI (As := [zI 42]) (rest := []) (dy := 3) (my := 0) (sy := 0) (k := 11) (i := 0) lX11_139 iX11_passes sX11_passes rfl dX11_term_7 rfl rfl (gd_room (by omega) (by decide)) (by decide) (Nat.le_of_ble_eq_true rfl) h (fun r2 v1 h => ?_)
  refine gd_if_eq (tgt := 27) dX11_term_10 (by decide) (fun hc => ?_) (fun hc => ?_)
  · have h := h.1 hc
    exact gd_vret dX11_term_27 rfl h
  · have h := h.2 hc
    refine gd_aload_n 0 dX11_term_13 rfl rfl ?_
    refine gd_callVV (As := []) (rest := []) (dy := e) (my := 0) (sy := 0) (k := 11) (i := 0) lX11_191 iX11_factor sX11_factor rfl dX11_term_14 rfl rfl (gd_room he (by decide)) (by decide) (Nat.le_of_ble_eq_true rfl) h (fun v3 h => ?_)
    refine gd_aload_n 0 dX11_term_17 rfl rfl ?_
    refine gd_ldc2 kX11_194 dX11_term_18 ?_
    refine gd_callVV (As := [zJ 2000042]) (rest := []) (dy := 2) (my := 0) (sy := 0) (k := 11) (i := 0) lX11_187 iX11_code sX11_code rfl dX11_term_21 rfl rfl (gd_room (by omega) (by decide)) (by decide) (Nat.le_of_ble_eq_true rfl) h (fun v5 h => ?_)
    refine gd_goto (tgt := 4) dX11_term_24 (by decide) ?_
    exact h
theorem c_X11_term {g : ab_E} {d : Nat} {e : Nat} {v : gd_D} {Q : ab_O → gd_D → Prop} (he : e + 1 ≤ d) (hd : 0 ≤ d) (h : wp_X11_term g d e v Q) : gd_C g mX11_term d 0 0 [zR 11 0] v Q := gd_enterF (plainFor_of_name (by decide)) (Nat.le_of_ble_eq_true rfl) rfl (w_X11_term he hd h)
def wp_X11_opens_17 (g : ab_E) (d : Nat) (v : gd_D) (Q : ab_O → gd_D → Prop) : Prop :=
  ∀ v1 : gd_D, v1 = gd_sI v 11 0 16 ((v.1 11 0 16) + 1) →
  ∀ v2 : gd_D, v2 = gd_sI v1 11 0 11 ((v1.1 11 0 11) + 1) →
  ((¬ (v2.1 11 0 13 : Int32) = 0) →
    Q (Sum.inl (some (zI 0))) v2) ∧
  (((v2.1 11 0 13 : Int32) = 0) →
    Q (Sum.inl (some (zI 1))) v2)
theorem w_X11_opens_17 {g : ab_E} {d : Nat} {v : gd_D} {Q : ab_O → gd_D → Prop} (hd : 0 ≤ d) (h : wp_X11_opens_17 g d v Q) : gd_G g mX11_opens d 0 0 17 [(0, zR 11 0)] [] v Q := by
  unfold wp_X11_opens_17 at h
  refine gd_aload_n 0 dX11_opens_17 rfl rfl ?_
  refine gd_dup dX11_opens_18 rfl ?_
  refine gd_getI fX11_196 rfl dX11_opens_19 ?_
  refine gd_iconst (x9 := 1) dX11_opens_22 (by decide) ?_
  refine gd_iadd dX11_opens_23 ?_
  refine gd_putIn fX11_196 rfl rfl dX11_opens_24 (fun v1 ev1 => ?_)
  have h := h v1 ev1
  refine gd_aload_n 0 dX11_opens_27 rfl rfl ?_
  refine gd_dup dX11_opens_28 rfl ?_
  refine gd_getI fX11_112 rfl dX11_opens_29 ?_
  refine gd_iconst (x9 := 1) dX11_opens_32 (by decide) ?_
  refine gd_iadd dX11_opens_33 ?_
  refine gd_putIn fX11_112 rfl rfl dX11_opens_34 (fun v2 ev2 => ?_)
  have h := h v2 ev2
  refine gd_aload_n 0 dX11_opens_37 rfl rfl ?_
  refine gd_getI fX11_106 rfl dX11_opens_38 ?_
  refine gd_if_ne (tgt := 48) dX11_opens_41 (by decide) (fun hc => ?_) (fun hc => ?_)
  · have h := h.1 hc
    refine gd_iconst (x9 := 0) dX11_opens_48 (by decide) ?_
    exact gd_iret (ty := .boolean) dX11_opens_49 rfl rfl h
  · have h := h.2 hc
    refine gd_iconst (x9 := 1) dX11_opens_44 (by decide) ?_
    refine gd_goto (tgt := 49) dX11_opens_45 (by decide) ?_
    exact gd_iret (ty := .boolean) dX11_opens_49 rfl rfl h
def wp_X11_opens (g : ab_E) (d : Nat) (v : gd_D) (Q : ab_O → gd_D → Prop) : Prop :=
  ((¬ (v.1 11 0 16 : Int32) = 5) →
    wp_X11_opens_17 g d v Q) ∧
  (((v.1 11 0 16 : Int32) = 5) →
    gd_C g mX11_wrong 2 0 0 [zR 11 0, zI 4, zI (v.1 11 0 11)] v (gd_rV (fun v1 =>
      wp_X11_opens_17 g d v1 Q) (fun E v9 => Q (Sum.inr E) v9)))
theorem w_X11_opens {g : ab_E} {d : Nat} {v : gd_D} {Q : ab_O → gd_D → Prop} (hd : 3 ≤ d) (h : wp_X11_opens g d v Q) : gd_G g mX11_opens d 0 0 0 [(0, zR 11 0)] [] v Q := by
  unfold wp_X11_opens at h
  refine gd_aload_n 0 dX11_opens_0 rfl rfl ?_
  refine gd_getI fX11_196 rfl dX11_opens_1 ?_
  refine gd_iconst (x9 := 5) dX11_opens_4 (by decide) ?_
  refine gd_icmp_ne (tgt := 17) dX11_opens_5 (by decide) (fun hc => ?_) (fun hc => ?_)
  · have h := h.1 hc
    exact w_X11_opens_17 (by omega) h
  · have h := h.2 hc
    refine gd_aload_n 0 dX11_opens_8 rfl rfl ?_
    refine gd_iconst (x9 := 4) dX11_opens_9 (by decide) ?_
    refine gd_aload_n 0 dX11_opens_10 rfl rfl ?_
    refine gd_getI fX11_112 rfl dX11_opens_11 ?_
    refine gd_callVV (As := [zI 4, zI (v.1 11 0 11)]) (rest := []) (dy := 2) (my := 0) (sy := 0) (k := 11) (i := 0) lX11_142 iX11_wrong sX11_wrong rfl dX11_opens_14 rfl rfl (gd_room (by omega) (by decide)) (by decide) (Nat.le_of_ble_eq_true rfl) h (fun v1 h => ?_)
    exact w_X11_opens_17 (by omega) h
theorem c_X11_opens {g : ab_E} {d : Nat} {v : gd_D} {Q : ab_O → gd_D → Prop} (hd : 3 ≤ d) (h : wp_X11_opens g d v Q) : gd_C g mX11_opens d 0 0 [zR 11 0] v Q := gd_enterF (plainFor_of_name (by decide)) (Nat.le_of_ble_eq_true rfl) rfl (w_X11_opens hd h)
def wp_X11_factor_83 (g : ab_E) (d : Nat) (e : Nat) (a1 : Int32) (v : gd_D) (Q : ab_O → gd_D → Prop) : Prop :=
  ((¬ (a1 : Int32) = 45) →
    gd_G g mX11_factor d 0 0 132 [(0, zR 11 0), (2, zI 0)] [] v Q) ∧
  (((a1 : Int32) = 45) →
    (((v.1 11 0 10 : Int32) ≤ (v.1 11 0 11)) →
      gd_G g mX11_factor d 0 0 132 [(0, zR 11 0), (2, zI 0)] [] v Q) ∧
    ((¬ (v.1 11 0 10 : Int32) ≤ (v.1 11 0 11)) →
      gd_C g mX11_opens 3 0 0 [zR 11 0] v (gd_rI (fun (r2 : Int32) v1 =>
        ((¬ (r2 : Int32) = 0) →
          gd_C g mX11_factor e 0 0 [zR 11 0] v1 (gd_rV (fun v3 =>
            ∀ v5 : gd_D, v5 = gd_sI v3 11 0 16 ((v3.1 11 0 16) - 1) →
            gd_C g mX11_code 2 0 0 [zR 11 0, zJ 2000110] v5 (gd_rV (fun v6 =>
              Q (Sum.inl none) v6) (fun E v9 => Q (Sum.inr E) v9))) (fun E v9 => Q (Sum.inr E) v9))) ∧
        (((r2 : Int32) = 0) →
          Q (Sum.inl none) v1)) (fun E v9 => Q (Sum.inr E) v9))))
theorem w_X11_factor_83 {g : ab_E} {d : Nat} {e : Nat} {a1 : Int32} {v : gd_D} {Q : ab_O → gd_D → Prop} (he : e + 1 ≤ d) (hd : 4 ≤ d) (h : wp_X11_factor_83 g d e a1 v Q) : gd_G g mX11_factor d 0 0 83 [(0, zR 11 0), (1, zI a1)] [] v Q := by
  unfold wp_X11_factor_83 at h
  refine gd_iload_n 1 dX11_factor_83 rfl rfl ?_
  refine gd_bipush (x9 := 45) dX11_factor_84 (by decide) ?_
  refine gd_icmp_ne (tgt := 130) dX11_factor_86 (by decide) (fun hc => ?_) (fun hc => ?_)
  · have h := h.1 hc
    refine gd_iconst (x9 := 0) dX11_factor_130 (by decide) ?_
    refine gd_istore_n (L' := [(2, zI 0), (0, zR 11 0), (1, zI a1)]) dX11_factor_131 rfl (by decide) rfl ?_
    refine gd_locals [1, 0] rfl ?_
    exact h
  · have h := h.2 hc
    refine gd_aload_n 0 dX11_factor_89 rfl rfl ?_
    refine gd_getI fX11_112 rfl dX11_factor_90 ?_
    refine gd_aload_n 0 dX11_factor_93 rfl rfl ?_
    refine gd_getI fX11_115 rfl dX11_factor_94 ?_
    refine gd_icmp_ge (tgt := 130) dX11_factor_97 (by decide) (fun hc => ?_) (fun hc => ?_)
    · have h := h.1 hc
      refine gd_iconst (x9 := 0) dX11_factor_130 (by decide) ?_
      refine gd_istore_n (L' := [(2, zI 0), (0, zR 11 0), (1, zI a1)]) dX11_factor_131 rfl (by decide) rfl ?_
      refine gd_locals [1, 0] rfl ?_
      exact h
    · have h := h.2 hc
      refine gd_aload_n 0 dX11_factor_100 rfl rfl ?_
      refine gd_callVI (As := []) (rest := []) (dy := 3) (my := 0) (sy := 0) (k := 11) (i := 0) lX11_204 iX11_opens sX11_opens rfl dX11_factor_101 rfl rfl (gd_room (by omega) (by decide)) (by decide) (Nat.le_of_ble_eq_true rfl) h (fun r2 v1 h => ?_)
      refine gd_if_ne (tgt := 108) dX11_factor_104 (by decide) (fun hc => ?_) (fun hc => ?_)
      · have h := h.1 hc
        refine gd_aload_n 0 dX11_factor_108 rfl rfl ?_
        refine gd_callVV (As := []) (rest := []) (dy := e) (my := 0) (sy := 0) (k := 11) (i := 0) lX11_191 iX11_factor sX11_factor rfl dX11_factor_109 rfl rfl (gd_room he (by decide)) (by decide) (Nat.le_of_ble_eq_true rfl) h (fun v3 h => ?_)
        refine gd_aload_n 0 dX11_factor_112 rfl rfl ?_
        refine gd_dup dX11_factor_113 rfl ?_
        refine gd_getI fX11_196 rfl dX11_factor_114 ?_
        refine gd_iconst (x9 := 1) dX11_factor_117 (by decide) ?_
        refine gd_isub dX11_factor_118 ?_
        refine gd_putIn fX11_196 rfl rfl dX11_factor_119 (fun v5 ev5 => ?_)
        have h := h v5 ev5
        refine gd_aload_n 0 dX11_factor_122 rfl rfl ?_
        refine gd_ldc2 kX11_214 dX11_factor_123 ?_
        refine gd_callVV (As := [zJ 2000110]) (rest := []) (dy := 2) (my := 0) (sy := 0) (k := 11) (i := 0) lX11_187 iX11_code sX11_code rfl dX11_factor_126 rfl rfl (gd_room (by omega) (by decide)) (by decide) (Nat.le_of_ble_eq_true rfl) h (fun v6 h => ?_)
        exact gd_vret dX11_factor_129 rfl h
      · have h := h.2 hc
        exact gd_vret dX11_factor_107 rfl h
def wp_X11_factor (g : ab_E) (d : Nat) (e : Nat) (v : gd_D) (Q : ab_O → gd_D → Prop) : Prop :=
  (((v.1 11 0 13 : Int32) ≤ 0) →
    gd_C g mX11_sign 2 0 0 [zR 11 0] v (gd_rI (fun (r2 : Int32) v1 =>
      gd_C g mX11_isFigure 2 0 0 [zR 11 0, zI (v1.1 11 0 11)] v1 (gd_rI (fun (r4 : Int32) v3 =>
        (((r4 : Int32) = 0) →
          ((¬ (r2 : Int32) = 40) →
            wp_X11_factor_83 g d e r2 v3 Q) ∧
          (((r2 : Int32) = 40) →
            (((v3.1 11 0 10 : Int32) ≤ (v3.1 11 0 11)) →
              wp_X11_factor_83 g d e r2 v3 Q) ∧
            ((¬ (v3.1 11 0 10 : Int32) ≤ (v3.1 11 0 11)) →
              gd_C g mX11_opens 3 0 0 [zR 11 0] v3 (gd_rI (fun (r6 : Int32) v5 =>
                ((¬ (r6 : Int32) = 0) →
                  gd_C g mX11_expression e 0 0 [zR 11 0] v5 (gd_rV (fun v7 =>
                    gd_C g mX11_needs 4 0 0 [zR 11 0, zI 41] v7 (gd_rV (fun v9 =>
                      ∀ v11 : gd_D, v11 = gd_sI v9 11 0 16 ((v9.1 11 0 16) - 1) →
                      Q (Sum.inl none) v11) (fun E v9 => Q (Sum.inr E) v9))) (fun E v9 => Q (Sum.inr E) v9))) ∧
                (((r6 : Int32) = 0) →
                  Q (Sum.inl none) v5)) (fun E v9 => Q (Sum.inr E) v9))))) ∧
        ((¬ (r4 : Int32) = 0) →
          gd_C g mX11_number 3 0 0 [zR 11 0, zJ 0, zJ 9999] v3 (gd_rJ (fun (r13 : Int64) v12 =>
            gd_C g mX11_code 2 0 0 [zR 11 0, zJ r13] v12 (gd_rV (fun v14 =>
              Q (Sum.inl none) v14) (fun E v9 => Q (Sum.inr E) v9))) (fun E v9 => Q (Sum.inr E) v9)))) (fun E v9 => Q (Sum.inr E) v9))) (fun E v9 => Q (Sum.inr E) v9))) ∧
  ((¬ (v.1 11 0 13 : Int32) ≤ 0) →
    Q (Sum.inl none) v)
theorem w_X11_factor {g : ab_E} {d : Nat} {e : Nat} {v : gd_D} {Q : ab_O → gd_D → Prop} (he : e + 1 ≤ d) (hd : 5 ≤ d) (h : wp_X11_factor g d e v Q) : gd_G g mX11_factor d 0 0 0 [(0, zR 11 0)] [] v Q := by
  unfold wp_X11_factor at h
  refine gd_aload_n 0 dX11_factor_0 rfl rfl ?_
  refine gd_getI fX11_106 rfl dX11_factor_1 ?_
  refine gd_if_le (tgt := 8) dX11_factor_4 (by decide) (fun hc => ?_) (fun hc => ?_)
  · have h := h.1 hc
    refine gd_aload_n 0 dX11_factor_8 rfl rfl ?_
    refine gd_callVI (As := []) (rest := []) (dy := 2) (my := 0) (sy := 0) (k := 11) (i := 0) lX11_118 iX11_sign sX11_sign rfl dX11_factor_9 rfl rfl (gd_room (by omega) (by decide)) (by decide) (Nat.le_of_ble_eq_true rfl) h (fun r2 v1 h => ?_)
    refine gd_istore_n (L' := [(1, zI r2), (0, zR 11 0)]) dX11_factor_12 rfl (by decide) rfl ?_
    refine gd_aload_n 1 dX11_factor_13 rfl rfl ?_
    refine gd_aload_n 1 dX11_factor_14 rfl rfl ?_
    refine gd_getI fX11_112 rfl dX11_factor_15 ?_
    refine gd_callVI (As := [zI (v1.1 11 0 11)]) (rest := []) (dy := 2) (my := 0) (sy := 0) (k := 11) (i := 0) lX11_146 iX11_isFigure sX11_isFigure rfl dX11_factor_18 rfl rfl (gd_room (by omega) (by decide)) (by decide) (Nat.le_of_ble_eq_true rfl) h (fun r4 v3 h => ?_)
    refine gd_if_eq (tgt := 37) dX11_factor_21 (by decide) (fun hc => ?_) (fun hc => ?_)
    · have h := h.1 hc
      refine gd_iload_n 0 dX11_factor_37 rfl rfl ?_
      refine gd_bipush (x9 := 40) dX11_factor_38 (by decide) ?_
      refine gd_icmp_ne (tgt := 83) dX11_factor_40 (by decide) (fun hc => ?_) (fun hc => ?_)
      · have h := h.1 hc
        refine gd_locals [1, 0] rfl ?_
        exact w_X11_factor_83 he (by omega) h
      · have h := h.2 hc
        refine gd_aload_n 1 dX11_factor_43 rfl rfl ?_
        refine gd_getI fX11_112 rfl dX11_factor_44 ?_
        refine gd_aload_n 1 dX11_factor_47 rfl rfl ?_
        refine gd_getI fX11_115 rfl dX11_factor_48 ?_
        refine gd_icmp_ge (tgt := 83) dX11_factor_51 (by decide) (fun hc => ?_) (fun hc => ?_)
        · have h := h.1 hc
          refine gd_locals [1, 0] rfl ?_
          exact w_X11_factor_83 he (by omega) h
        · have h := h.2 hc
          refine gd_aload_n 1 dX11_factor_54 rfl rfl ?_
          refine gd_callVI (As := []) (rest := []) (dy := 3) (my := 0) (sy := 0) (k := 11) (i := 0) lX11_204 iX11_opens sX11_opens rfl dX11_factor_55 rfl rfl (gd_room (by omega) (by decide)) (by decide) (Nat.le_of_ble_eq_true rfl) h (fun r6 v5 h => ?_)
          refine gd_if_ne (tgt := 62) dX11_factor_58 (by decide) (fun hc => ?_) (fun hc => ?_)
          · have h := h.1 hc
            refine gd_aload_n 1 dX11_factor_62 rfl rfl ?_
            refine gd_callVV (As := []) (rest := []) (dy := e) (my := 0) (sy := 0) (k := 11) (i := 0) lX11_208 iX11_expression sX11_expression rfl dX11_factor_63 rfl rfl (gd_room he (by decide)) (by decide) (Nat.le_of_ble_eq_true rfl) h (fun v7 h => ?_)
            refine gd_aload_n 1 dX11_factor_66 rfl rfl ?_
            refine gd_bipush (x9 := 41) dX11_factor_67 (by decide) ?_
            refine gd_callVV (As := [zI 41]) (rest := []) (dy := 4) (my := 0) (sy := 0) (k := 11) (i := 0) lX11_211 iX11_needs sX11_needs rfl dX11_factor_69 rfl rfl (gd_room (by omega) (by decide)) (by decide) (Nat.le_of_ble_eq_true rfl) h (fun v9 h => ?_)
            refine gd_aload_n 1 dX11_factor_72 rfl rfl ?_
            refine gd_dup dX11_factor_73 rfl ?_
            refine gd_getI fX11_196 rfl dX11_factor_74 ?_
            refine gd_iconst (x9 := 1) dX11_factor_77 (by decide) ?_
            refine gd_isub dX11_factor_78 ?_
            refine gd_putIn fX11_196 rfl rfl dX11_factor_79 (fun v11 ev11 => ?_)
            have h := h v11 ev11
            exact gd_vret dX11_factor_82 rfl h
          · have h := h.2 hc
            exact gd_vret dX11_factor_61 rfl h
    · have h := h.2 hc
      refine gd_aload_n 1 dX11_factor_24 rfl rfl ?_
      refine gd_aload_n 1 dX11_factor_25 rfl rfl ?_
      refine gd_lconst (x9 := 0) dX11_factor_26 (by decide) ?_
      refine gd_ldc2 kX11_199 dX11_factor_27 ?_
      refine gd_callVJ (As := [zJ 0, zJ 9999]) (rest := [zR 11 0]) (dy := 3) (my := 0) (sy := 0) (k := 11) (i := 0) lX11_201 iX11_number sX11_number rfl dX11_factor_30 rfl rfl (gd_room (by omega) (by decide)) (by decide) (Nat.le_of_ble_eq_true rfl) h (fun r13 v12 h => ?_)
      refine gd_callVV (As := [zJ r13]) (rest := []) (dy := 2) (my := 0) (sy := 0) (k := 11) (i := 0) lX11_187 iX11_code sX11_code rfl dX11_factor_33 rfl rfl (gd_room (by omega) (by decide)) (by decide) (Nat.le_of_ble_eq_true rfl) h (fun v14 h => ?_)
      exact gd_vret dX11_factor_36 rfl h
  · have h := h.2 hc
    exact gd_vret dX11_factor_7 rfl h
def wp_X11_factor_132 (g : ab_E) (d : Nat) (e : Nat) (a2 : Int32) (v : gd_D) (Q : ab_O → gd_D → Prop) : Prop :=
  (((7 : Int32) ≤ a2) →
    gd_C g mX11_wrong 2 0 0 [zR 11 0, zI 1, zI (v.1 11 0 11)] v (gd_rV (fun v1 =>
      Q (Sum.inl none) v1) (fun E v9 => Q (Sum.inr E) v9))) ∧
  ((¬ (7 : Int32) ≤ a2) →
    gd_C g mX11_partWord 2 0 0 [zI a2] v (gd_rR 100 (fun (r4 : Nat) v3 =>
      gd_C g mX11_passesWord 8 0 0 [zR 11 0, zR 100 r4] v3 (gd_rI (fun (r6 : Int32) v5 =>
        ((¬ (r6 : Int32) = 0) →
          gd_C g mX11_code 2 0 0 [zR 11 0, zJ (3000000 + ((a2 : Int32).toInt64))] v5 (gd_rV (fun v7 =>
            Q (Sum.inl none) v7) (fun E v9 => Q (Sum.inr E) v9))) ∧
        (((r6 : Int32) = 0) →
          gd_G g mX11_factor d 0 0 132 [(0, zR 11 0), (2, zI (a2 + 1))] [] v5 Q)) (fun E v9 => Q (Sum.inr E) v9))) (fun E v9 => Q (Sum.inr E) v9)))
theorem w_X11_factor_132 {g : ab_E} {d : Nat} {e : Nat} {a2 : Int32} {v : gd_D} {Q : ab_O → gd_D → Prop} (he : e + 1 ≤ d) (hd : 9 ≤ d) (h : wp_X11_factor_132 g d e a2 v Q) : gd_G g mX11_factor d 0 0 132 [(0, zR 11 0), (2, zI a2)] [] v Q := by
  unfold wp_X11_factor_132 at h
  refine gd_iload_n 1 dX11_factor_132 rfl rfl ?_
  refine gd_bipush (x9 := 7) dX11_factor_133 (by decide) ?_
  refine gd_icmp_ge (tgt := 169) dX11_factor_135 (by decide) (fun hc => ?_) (fun hc => ?_)
  · have h := h.1 hc
    refine gd_aload_n 0 dX11_factor_169 rfl rfl ?_
    refine gd_iconst (x9 := 1) dX11_factor_170 (by decide) ?_
    refine gd_aload_n 0 dX11_factor_171 rfl rfl ?_
    refine gd_getI fX11_112 rfl dX11_factor_172 ?_
    refine gd_callVV (As := [zI 1, zI (v.1 11 0 11)]) (rest := []) (dy := 2) (my := 0) (sy := 0) (k := 11) (i := 0) lX11_142 iX11_wrong sX11_wrong rfl dX11_factor_175 rfl rfl (gd_room (by omega) (by decide)) (by decide) (Nat.le_of_ble_eq_true rfl) h (fun v1 h => ?_)
    exact gd_vret dX11_factor_178 rfl h
  · have h := h.2 hc
    refine gd_aload_n 0 dX11_factor_138 rfl rfl ?_
    refine gd_iload_n 1 dX11_factor_139 rfl rfl ?_
    refine gd_callSR (As := [zI a2]) (rest := [zR 11 0]) (dy := 2) (my := 0) (sy := 0) lX11_216 tX11_partWord dX11_factor_140 rfl rfl (gd_room (by omega) (by decide)) (by decide) (Nat.le_of_ble_eq_true rfl) h (fun r4 v3 h => ?_)
    refine gd_callVI (As := [zR 100 r4]) (rest := []) (dy := 8) (my := 0) (sy := 0) (k := 11) (i := 0) lX11_220 iX11_passesWord sX11_passesWord rfl dX11_factor_143 rfl rfl (gd_room (by omega) (by decide)) (by decide) (Nat.le_of_ble_eq_true rfl) h (fun r6 v5 h => ?_)
    refine gd_if_ne (tgt := 152) dX11_factor_146 (by decide) (fun hc => ?_) (fun hc => ?_)
    · have h := h.1 hc
      refine gd_aload_n 0 dX11_factor_152 rfl rfl ?_
      refine gd_ldc2 kX11_223 dX11_factor_153 ?_
      refine gd_iload_n 1 dX11_factor_156 rfl rfl ?_
      refine gd_i2l dX11_factor_157 ?_
      refine gd_ladd dX11_factor_158 ?_
      refine gd_callVV (As := [zJ (3000000 + ((a2 : Int32).toInt64))]) (rest := []) (dy := 2) (my := 0) (sy := 0) (k := 11) (i := 0) lX11_187 iX11_code sX11_code rfl dX11_factor_159 rfl rfl (gd_room (by omega) (by decide)) (by decide) (Nat.le_of_ble_eq_true rfl) h (fun v7 h => ?_)
      exact gd_vret dX11_factor_162 rfl h
    · have h := h.2 hc
      refine gd_goto (tgt := 163) dX11_factor_149 (by decide) ?_
      refine gd_iinc (x9 := a2 + 1) (L' := [(2, zI (a2 + 1)), (0, zR 11 0)]) 1 dX11_factor_163 rfl rfl (by decide) rfl ?_
      refine gd_goto (tgt := 132) dX11_factor_166 (by decide) ?_
      refine gd_locals [1, 0] rfl ?_
      exact h
theorem c_X11_factor {g : ab_E} {d : Nat} {e : Nat} {v : gd_D} {Q : ab_O → gd_D → Prop} (he : e + 1 ≤ d) (hd : 5 ≤ d) (h : wp_X11_factor g d e v Q) : gd_C g mX11_factor d 0 0 [zR 11 0] v Q := gd_enterF (plainFor_of_name (by decide)) (Nat.le_of_ble_eq_true rfl) rfl (w_X11_factor he hd h)
def wp_X11_isOnce_39 (g : ab_E) (d : Nat) (a1 : Nat) (a2 : Int32) (a3 : Int32) (a4 : Int32) (v : gd_D) (Q : ab_O → gd_D → Prop) : Prop :=
  ∀ x1 : Int32, x1 = (v.1 11 0 11) + (Int32.ofNat (ab_tn.getD a1 0)) →
  ∀ v2 : gd_D, v2 = gd_sI v 11 0 11 x1 →
  gd_C g mX11_number 3 0 0 [zR 11 0, zJ ((a3 : Int32).toInt64), zJ ((a4 : Int32).toInt64)] v2 (gd_rJ (fun (r4 : Int64) v3 =>
    ((¬ (v3.1 11 0 13 : Int32) = 0) →
      Q (Sum.inl (some (zI 1))) v3) ∧
    (((v3.1 11 0 13 : Int32) = 0) →
      vp_in a2 773 ∧
      ∀ v5 : gd_D, v5 = gd_sJ v3 41 0 ((a2 : Int32).toNatClampNeg) r4 →
      Q (Sum.inl (some (zI 1))) v5)) (fun E v9 => Q (Sum.inr E) v9))
theorem w_X11_isOnce_39 {g : ab_E} {d : Nat} {a1 : Nat} {a2 : Int32} {a3 : Int32} {a4 : Int32} {v : gd_D} {Q : ab_O → gd_D → Prop} (hd : 8 ≤ d) (h : wp_X11_isOnce_39 g d a1 a2 a3 a4 v Q) : gd_G g mX11_isOnce d 0 0 39 [(0, zR 11 0), (1, zR 100 a1), (2, zI a2), (3, zI a3), (4, zI a4)] [] v Q := by
  unfold wp_X11_isOnce_39 at h
  refine gd_aload_n 0 dX11_isOnce_39 rfl rfl ?_
  refine gd_dup dX11_isOnce_40 rfl ?_
  refine gd_getI fX11_112 rfl dX11_isOnce_41 ?_
  refine gd_aload_n 1 dX11_isOnce_44 rfl rfl ?_
  refine gd_strlen (i := a1) lX11_122 dX11_isOnce_45 (Nat.le_of_ble_eq_true rfl) (by omega) ?_
  refine gd_iadd dX11_isOnce_48 ?_
  refine gd_nmI (fun x1 ex1 => ?_)
  have h := h x1 ex1
  refine gd_putIn fX11_112 rfl rfl dX11_isOnce_49 (fun v2 ev2 => ?_)
  have h := h v2 ev2
  refine gd_aload_n 0 dX11_isOnce_52 rfl rfl ?_
  refine gd_iload_n 3 dX11_isOnce_53 rfl rfl ?_
  refine gd_i2l dX11_isOnce_54 ?_
  refine gd_iload 4 dX11_isOnce_55 rfl ?_
  refine gd_i2l dX11_isOnce_57 ?_
  refine gd_callVJ (As := [zJ ((a3 : Int32).toInt64), zJ ((a4 : Int32).toInt64)]) (rest := []) (dy := 3) (my := 0) (sy := 0) (k := 11) (i := 0) lX11_201 iX11_number sX11_number rfl dX11_isOnce_58 rfl rfl (gd_room (by omega) (by decide)) (by decide) (Nat.le_of_ble_eq_true rfl) h (fun r4 v3 h => ?_)
  refine gd_lstore (L' := [(5, zJ r4), (0, zR 11 0), (1, zR 100 a1), (2, zI a2), (3, zI a3), (4, zI a4)]) dX11_isOnce_61 (by decide) rfl ?_
  refine gd_aload_n 1 dX11_isOnce_63 rfl rfl ?_
  refine gd_getI fX11_106 rfl dX11_isOnce_64 ?_
  refine gd_if_ne (tgt := 78) dX11_isOnce_67 (by decide) (fun hc => ?_) (fun hc => ?_)
  · have h := h.1 hc
    refine gd_iconst (x9 := 1) dX11_isOnce_78 (by decide) ?_
    exact gd_iret (ty := .boolean) dX11_isOnce_79 rfl rfl h
  · have h := h.2 hc
    refine gd_aload_n 1 dX11_isOnce_70 rfl rfl ?_
    refine gd_getR (x := 0) (kr := 41) fX11_21 rfl rfl dX11_isOnce_71 rfl ?_
    refine gd_iload_n 3 dX11_isOnce_74 rfl rfl ?_
    refine gd_lload 0 dX11_isOnce_75 rfl ?_
    obtain ⟨hb, h⟩ := h
    refine gd_lastoren (n := 773) (by decide) rfl rfl dX11_isOnce_77 rfl hb (fun v5 ev5 => ?_)
    have h := h v5 ev5
    refine gd_iconst (x9 := 1) dX11_isOnce_78 (by decide) ?_
    exact gd_iret (ty := .boolean) dX11_isOnce_79 rfl rfl h
def wp_X11_isOnce (g : ab_E) (d : Nat) (a1 : Nat) (a2 : Int32) (a3 : Int32) (a4 : Int32) (v : gd_D) (Q : ab_O → gd_D → Prop) : Prop :=
  (((0 : Int32) < (v.1 11 0 13)) →
    Q (Sum.inl (some (zI 0))) v) ∧
  ((¬ (0 : Int32) < (v.1 11 0 13)) →
    gd_C g mX11_isHere 7 0 0 [zR 11 0, zR 100 a1] v (gd_rI (fun (r2 : Int32) v1 =>
      ((¬ (r2 : Int32) = 0) →
        vp_in a2 773 ∧
        (((v1.2.1 41 0 (a2 : Int32).toNatClampNeg : Int64) = (-1)) →
          wp_X11_isOnce_39 g d a1 a2 a3 a4 v1 Q) ∧
        ((¬ (v1.2.1 41 0 (a2 : Int32).toNatClampNeg : Int64) = (-1)) →
          gd_C g mX11_wrong 2 0 0 [zR 11 0, zI 1, zI (v1.1 11 0 11)] v1 (gd_rV (fun v3 =>
            wp_X11_isOnce_39 g d a1 a2 a3 a4 v3 Q) (fun E v9 => Q (Sum.inr E) v9)))) ∧
      (((r2 : Int32) = 0) →
        Q (Sum.inl (some (zI 0))) v1)) (fun E v9 => Q (Sum.inr E) v9)))
theorem w_X11_isOnce {g : ab_E} {d : Nat} {a1 : Nat} {a2 : Int32} {a3 : Int32} {a4 : Int32} {v : gd_D} {Q : ab_O → gd_D → Prop} (hd : 8 ≤ d) (h : wp_X11_isOnce g d a1 a2 a3 a4 v Q) : gd_G g mX11_isOnce d 0 0 0 [(0, zR 11 0), (1, zR 100 a1), (2, zI a2), (3, zI a3), (4, zI a4)] [] v Q := by
  unfold wp_X11_isOnce at h
  refine gd_aload_n 0 dX11_isOnce_0 rfl rfl ?_
  refine gd_getI fX11_106 rfl dX11_isOnce_1 ?_
  refine gd_if_gt (tgt := 15) dX11_isOnce_4 (by decide) (fun hc => ?_) (fun hc => ?_)
  · have h := h.1 hc
    refine gd_iconst (x9 := 0) dX11_isOnce_15 (by decide) ?_
    exact gd_iret (ty := .boolean) dX11_isOnce_16 rfl rfl h
  · have h := h.2 hc
    refine gd_aload_n 0 dX11_isOnce_7 rfl rfl ?_
    refine gd_aload_n 1 dX11_isOnce_8 rfl rfl ?_
    refine gd_callVI (As := [zR 100 a1]) (rest := []) (dy := 7) (my := 0) (sy := 0) (k := 11) (i := 0) lX11_135 iX11_isHere sX11_isHere rfl dX11_isOnce_9 rfl rfl (gd_room (by omega) (by decide)) (by decide) (Nat.le_of_ble_eq_true rfl) h (fun r2 v1 h => ?_)
    refine gd_if_ne (tgt := 17) dX11_isOnce_12 (by decide) (fun hc => ?_) (fun hc => ?_)
    · have h := h.1 hc
      refine gd_aload_n 0 dX11_isOnce_17 rfl rfl ?_
      refine gd_getR (x := 0) (kr := 41) fX11_21 rfl rfl dX11_isOnce_18 rfl ?_
      refine gd_iload_n 2 dX11_isOnce_21 rfl rfl ?_
      obtain ⟨hb, h⟩ := h
      refine gd_laload (n := 773) (by decide) rfl dX11_isOnce_22 rfl hb ?_
      refine gd_ldc2 kX11_225 dX11_isOnce_23 ?_
      refine gd_lc_eq (tgt := 39) dX11_isOnce_26 dX11_isOnce_27 (by decide) (fun hc => ?_) (fun hc => ?_)
      · have h := h.1 hc
        exact w_X11_isOnce_39 (by omega) h
      · have h := h.2 hc
        refine gd_aload_n 0 dX11_isOnce_30 rfl rfl ?_
        refine gd_iconst (x9 := 1) dX11_isOnce_31 (by decide) ?_
        refine gd_aload_n 0 dX11_isOnce_32 rfl rfl ?_
        refine gd_getI fX11_112 rfl dX11_isOnce_33 ?_
        refine gd_callVV (As := [zI 1, zI (v1.1 11 0 11)]) (rest := []) (dy := 2) (my := 0) (sy := 0) (k := 11) (i := 0) lX11_142 iX11_wrong sX11_wrong rfl dX11_isOnce_36 rfl rfl (gd_room (by omega) (by decide)) (by decide) (Nat.le_of_ble_eq_true rfl) h (fun v3 h => ?_)
        exact w_X11_isOnce_39 (by omega) h
    · have h := h.2 hc
      refine gd_iconst (x9 := 0) dX11_isOnce_15 (by decide) ?_
      exact gd_iret (ty := .boolean) dX11_isOnce_16 rfl rfl h
theorem c_X11_isOnce {g : ab_E} {d : Nat} {a1 : Nat} {a2 : Int32} {a3 : Int32} {a4 : Int32} {v : gd_D} {Q : ab_O → gd_D → Prop} (hd : 8 ≤ d) (h : wp_X11_isOnce g d a1 a2 a3 a4 v Q) : gd_C g mX11_isOnce d 0 0 [zR 11 0, zR 100 a1, zI a2, zI a3, zI a4] v Q := gd_enterF (plainFor_of_name (by decide)) (Nat.le_of_ble_eq_true rfl) rfl (w_X11_isOnce hd h)
def wp_X11_dealerRead_22 (g : ab_E) (d : Nat) (v : gd_D) (Q : ab_O → gd_D → Prop) : Prop :=
  ∀ v1 : gd_D, v1 = gd_sI v 11 0 11 ((v.1 11 0 11) + 6) →
  gd_C g mX11_number 3 0 0 [zR 11 0, zJ 0, zJ 9999] v1 (gd_rJ (fun (r3 : Int64) v2 =>
    (((v2.1 11 0 13 : Int32) ≤ 0) →
      vp_in 0 773 ∧
      ∀ x4 : Int32, x4 = (v2.2.1 41 0 (0 : Int32).toNatClampNeg : Int64).toInt32 →
      vp_in ((9 + (6 * x4)) + 0) 773 ∧
      ∀ v5 : gd_D, v5 = gd_sJ v2 41 0 (((9 + (6 * x4)) + 0 : Int32).toNatClampNeg) r3 →
      vp_in 0 773 ∧
      vp_in 0 773 ∧
      ∀ v6 : gd_D, v6 = gd_sJ v5 41 0 ((0 : Int32).toNatClampNeg) ((v5.2.1 41 0 (0 : Int32).toNatClampNeg) + 1) →
      Q (Sum.inl none) v6) ∧
    ((¬ (v2.1 11 0 13 : Int32) ≤ 0) →
      Q (Sum.inl none) v2)) (fun E v9 => Q (Sum.inr E) v9))
theorem w_X11_dealerRead_22 {g : ab_E} {d : Nat} {v : gd_D} {Q : ab_O → gd_D → Prop} (hd : 4 ≤ d) (h : wp_X11_dealerRead_22 g d v Q) : gd_G g mX11_dealerRead d 0 0 22 [(0, zR 11 0)] [] v Q := by
  unfold wp_X11_dealerRead_22 at h
  refine gd_aload_n 0 dX11_dealerRead_22 rfl rfl ?_
  refine gd_dup dX11_dealerRead_23 rfl ?_
  refine gd_getI fX11_112 rfl dX11_dealerRead_24 ?_
  refine gd_bipush (x9 := 6) dX11_dealerRead_27 (by decide) ?_
  refine gd_iadd dX11_dealerRead_29 ?_
  refine gd_putIn fX11_112 rfl rfl dX11_dealerRead_30 (fun v1 ev1 => ?_)
  have h := h v1 ev1
  refine gd_aload_n 0 dX11_dealerRead_33 rfl rfl ?_
  refine gd_lconst (x9 := 0) dX11_dealerRead_34 (by decide) ?_
  refine gd_ldc2 kX11_199 dX11_dealerRead_35 ?_
  refine gd_callVJ (As := [zJ 0, zJ 9999]) (rest := []) (dy := 3) (my := 0) (sy := 0) (k := 11) (i := 0) lX11_201 iX11_number sX11_number rfl dX11_dealerRead_38 rfl rfl (gd_room (by omega) (by decide)) (by decide) (Nat.le_of_ble_eq_true rfl) h (fun r3 v2 h => ?_)
  refine gd_lstore_n (L' := [(1, zJ r3), (0, zR 11 0)]) dX11_dealerRead_41 rfl (by decide) rfl ?_
  refine gd_aload_n 1 dX11_dealerRead_42 rfl rfl ?_
  refine gd_getI fX11_106 rfl dX11_dealerRead_43 ?_
  refine gd_if_le (tgt := 50) dX11_dealerRead_46 (by decide) (fun hc => ?_) (fun hc => ?_)
  · have h := h.1 hc
    refine gd_aload_n 1 dX11_dealerRead_50 rfl rfl ?_
    refine gd_getR (x := 0) (kr := 41) fX11_21 rfl rfl dX11_dealerRead_51 rfl ?_
    refine gd_bipush (x9 := 9) dX11_dealerRead_54 (by decide) ?_
    refine gd_bipush (x9 := 6) dX11_dealerRead_56 (by decide) ?_
    refine gd_aload_n 1 dX11_dealerRead_58 rfl rfl ?_
    refine gd_getR (x := 0) (kr := 41) fX11_21 rfl rfl dX11_dealerRead_59 rfl ?_
    refine gd_iconst (x9 := 0) dX11_dealerRead_62 (by decide) ?_
    obtain ⟨hb, h⟩ := h
    refine gd_laload (n := 773) (by decide) rfl dX11_dealerRead_63 rfl hb ?_
    refine gd_l2i dX11_dealerRead_64 ?_
    refine gd_nmI (fun x4 ex4 => ?_)
    have h := h x4 ex4
    refine gd_imul dX11_dealerRead_65 ?_
    refine gd_iadd dX11_dealerRead_66 ?_
    refine gd_iconst (x9 := 0) dX11_dealerRead_67 (by decide) ?_
    refine gd_iadd dX11_dealerRead_68 ?_
    refine gd_lload_n 0 dX11_dealerRead_69 rfl rfl ?_
    obtain ⟨hb, h⟩ := h
    refine gd_lastoren (n := 773) (by decide) rfl rfl dX11_dealerRead_70 rfl hb (fun v5 ev5 => ?_)
    have h := h v5 ev5
    refine gd_aload_n 1 dX11_dealerRead_71 rfl rfl ?_
    refine gd_getR (x := 0) (kr := 41) fX11_21 rfl rfl dX11_dealerRead_72 rfl ?_
    refine gd_iconst (x9 := 0) dX11_dealerRead_75 (by decide) ?_
    refine gd_dup2_11 dX11_dealerRead_76 rfl rfl ?_
    obtain ⟨hb, h⟩ := h
    refine gd_laload (n := 773) (by decide) rfl dX11_dealerRead_77 rfl hb ?_
    refine gd_lconst (x9 := 1) dX11_dealerRead_78 (by decide) ?_
    refine gd_ladd dX11_dealerRead_79 ?_
    obtain ⟨hb, h⟩ := h
    refine gd_lastoren (n := 773) (by decide) rfl rfl dX11_dealerRead_80 rfl hb (fun v6 ev6 => ?_)
    have h := h v6 ev6
    exact gd_vret dX11_dealerRead_81 rfl h
  · have h := h.2 hc
    exact gd_vret dX11_dealerRead_49 rfl h
def wp_X11_dealerRead (g : ab_E) (d : Nat) (v : gd_D) (Q : ab_O → gd_D → Prop) : Prop :=
  vp_in 0 773 ∧
  ((¬ (v.2.1 41 0 (0 : Int32).toNatClampNeg : Int64) = 8) →
    wp_X11_dealerRead_22 g d v Q) ∧
  (((v.2.1 41 0 (0 : Int32).toNatClampNeg : Int64) = 8) →
    gd_C g mX11_wrong 2 0 0 [zR 11 0, zI 3, zI (v.1 11 0 11)] v (gd_rV (fun v1 =>
      wp_X11_dealerRead_22 g d v1 Q) (fun E v9 => Q (Sum.inr E) v9)))
theorem w_X11_dealerRead {g : ab_E} {d : Nat} {v : gd_D} {Q : ab_O → gd_D → Prop} (hd : 4 ≤ d) (h : wp_X11_dealerRead g d v Q) : gd_G g mX11_dealerRead d 0 0 0 [(0, zR 11 0)] [] v Q := by
  unfold wp_X11_dealerRead at h
  refine gd_aload_n 0 dX11_dealerRead_0 rfl rfl ?_
  refine gd_getR (x := 0) (kr := 41) fX11_21 rfl rfl dX11_dealerRead_1 rfl ?_
  refine gd_iconst (x9 := 0) dX11_dealerRead_4 (by decide) ?_
  obtain ⟨hb, h⟩ := h
  refine gd_laload (n := 773) (by decide) rfl dX11_dealerRead_5 rfl hb ?_
  refine gd_ldc2 kX11_227 dX11_dealerRead_6 ?_
  refine gd_lc_ne (tgt := 22) dX11_dealerRead_9 dX11_dealerRead_10 (by decide) (fun hc => ?_) (fun hc => ?_)
  · have h := h.1 hc
    exact w_X11_dealerRead_22 (by omega) h
  · have h := h.2 hc
    refine gd_aload_n 0 dX11_dealerRead_13 rfl rfl ?_
    refine gd_iconst (x9 := 3) dX11_dealerRead_14 (by decide) ?_
    refine gd_aload_n 0 dX11_dealerRead_15 rfl rfl ?_
    refine gd_getI fX11_112 rfl dX11_dealerRead_16 ?_
    refine gd_callVV (As := [zI 3, zI (v.1 11 0 11)]) (rest := []) (dy := 2) (my := 0) (sy := 0) (k := 11) (i := 0) lX11_142 iX11_wrong sX11_wrong rfl dX11_dealerRead_19 rfl rfl (gd_room (by omega) (by decide)) (by decide) (Nat.le_of_ble_eq_true rfl) h (fun v1 h => ?_)
    exact w_X11_dealerRead_22 (by omega) h
theorem c_X11_dealerRead {g : ab_E} {d : Nat} {v : gd_D} {Q : ab_O → gd_D → Prop} (hd : 4 ≤ d) (h : wp_X11_dealerRead g d v Q) : gd_C g mX11_dealerRead d 0 0 [zR 11 0] v Q := gd_enterF (plainFor_of_name (by decide)) (Nat.le_of_ble_eq_true rfl) rfl (w_X11_dealerRead hd h)
