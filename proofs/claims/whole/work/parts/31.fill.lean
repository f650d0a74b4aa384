def wp_fill28 (g : ab_E) (d : Nat) (a0 : Nat) (a1 : Int32) (v : gd_D) (Q : ab_O → gd_D → Prop) : Prop :=
  gd_G g mJ7_fill_53178 d 0 0 5 [(0, zR 28 a0), (1, zI a1), (2, zI 0), (3, zI 8)] [] v Q
theorem w_fill28 {g : ab_E} {d : Nat} {a0 : Nat} {a1 : Int32} {v : gd_D} {Q : ab_O → gd_D → Prop} (hd : 0 ≤ d) (h : wp_fill28 g d a0 a1 v Q) : gd_G g mJ7_fill_53178 d 0 0 0 [(0, zR 28 a0), (1, zI a1)] [] v Q := by
  unfold wp_fill28 at h
  refine gd_iconst (x9 := 0) dJ7_fill_53178_0 (by decide) ?_
  refine gd_istore_n (L' := [(2, zI 0), (0, zR 28 a0), (1, zI a1)]) dJ7_fill_53178_1 rfl (by decide) rfl ?_
  refine gd_aload_n 1 dJ7_fill_53178_2 rfl rfl ?_
  refine gd_alen (n := 8) (x9 := 8) (by decide) dJ7_fill_53178_3 rfl (by decide) ?_
  refine gd_istore_n (L' := [(3, zI 8), (2, zI 0), (0, zR 28 a0), (1, zI a1)]) dJ7_fill_53178_4 rfl (by decide) rfl ?_
  refine gd_locals [2, 3, 1, 0] rfl ?_
  exact h
def wp_fill28_5 (g : ab_E) (d : Nat) (a0 : Nat) (a1 : Int32) (a2 : Int32) (a3 : Int32) (v : gd_D) (Q : ab_O → gd_D → Prop) : Prop :=
  (((a3 : Int32) ≤ a2) →
    Q (Sum.inl none) v) ∧
  ((¬ (a3 : Int32) ≤ a2) →
    vp_in a2 8 ∧
    ∀ v1 : gd_D, v1 = gd_sI v 28 a0 ((a2 : Int32).toNatClampNeg) a1 →
    gd_G g mJ7_fill_53178 d 0 0 5 [(0, zR 28 a0), (1, zI a1), (2, zI (a2 + 1)), (3, zI a3)] [] v1 Q)
theorem w_fill28_5 {g : ab_E} {d : Nat} {a0 : Nat} {a1 : Int32} {a2 : Int32} {a3 : Int32} {v : gd_D} {Q : ab_O → gd_D → Prop} (hd : 0 ≤ d) (h : wp_fill28_5 g d a0 a1 a2 a3 v Q) : gd_G g mJ7_fill_53178 d 0 0 5 [(0, zR 28 a0), (1, zI a1), (2, zI a2), (3, zI a3)] [] v Q := by
  unfold wp_fill28_5 at h
  refine gd_iload_n 2 dJ7_fill_53178_5 rfl rfl ?_
  refine gd_iload_n 3 dJ7_fill_53178_6 rfl rfl ?_
  refine gd_icmp_ge (tgt := 20) dJ7_fill_53178_7 (by decide) (fun hc => ?_) (fun hc => ?_)
  · have h := h.1 hc
    exact gd_vret dJ7_fill_53178_20 rfl h
  · have h := h.2 hc
    refine gd_aload_n 0 dJ7_fill_53178_10 rfl rfl ?_
    refine gd_iload_n 2 dJ7_fill_53178_11 rfl rfl ?_
    refine gd_iload_n 1 dJ7_fill_53178_12 rfl rfl ?_
    obtain ⟨hb, h⟩ := h
    refine gd_iastoren (n := 8) (by decide) rfl rfl dJ7_fill_53178_13 rfl hb (fun v1 ev1 => ?_)
    have h := h v1 ev1
    refine gd_iinc (x9 := a2 + 1) (L' := [(2, zI (a2 + 1)), (0, zR 28 a0), (1, zI a1), (3, zI a3)]) 2 dJ7_fill_53178_14 rfl rfl (by decide) rfl ?_
    refine gd_goto (tgt := 5) dJ7_fill_53178_17 (by decide) ?_
    refine gd_locals [1, 2, 0, 3] rfl ?_
    exact h
theorem c_fill28 {g : ab_E} {d : Nat} {a0 : Nat} {a1 : Int32} {v : gd_D} {Q : ab_O → gd_D → Prop} (hd : 0 ≤ d) (h : wp_fill28 g d a0 a1 v Q) : gd_C g mJ7_fill_53178 d 0 0 [zR 28 a0, zI a1] v Q := gd_enterF (by decide +kernel) (Nat.le_of_ble_eq_true rfl) rfl (w_fill28 hd h)
def wp_fill37 (g : ab_E) (d : Nat) (a0 : Nat) (a1 : Int32) (v : gd_D) (Q : ab_O → gd_D → Prop) : Prop :=
  gd_G g mJ7_fill_53178 d 0 0 5 [(0, zR 37 a0), (1, zI a1), (2, zI 0), (3, zI 8)] [] v Q
theorem w_fill37 {g : ab_E} {d : Nat} {a0 : Nat} {a1 : Int32} {v : gd_D} {Q : ab_O → gd_D → Prop} (hd : 0 ≤ d) (h : wp_fill37 g d a0 a1 v Q) : gd_G g mJ7_fill_53178 d 0 0 0 [(0, zR 37 a0), (1, zI a1)] [] v Q := by
  unfold wp_fill37 at h
  refine gd_iconst (x9 := 0) dJ7_fill_53178_0 (by decide) ?_
  refine gd_istore_n (L' := [(2, zI 0), (0, zR 37 a0), (1, zI a1)]) dJ7_fill_53178_1 rfl (by decide) rfl ?_
  refine gd_aload_n 1 dJ7_fill_53178_2 rfl rfl ?_
  refine gd_alen (n := 8) (x9 := 8) (by decide) dJ7_fill_53178_3 rfl (by decide) ?_
  refine gd_istore_n (L' := [(3, zI 8), (2, zI 0), (0, zR 37 a0), (1, zI a1)]) dJ7_fill_53178_4 rfl (by decide) rfl ?_
  refine gd_locals [2, 3, 1, 0] rfl ?_
  exact h
def wp_fill37_5 (g : ab_E) (d : Nat) (a0 : Nat) (a1 : Int32) (a2 : Int32) (a3 : Int32) (v : gd_D) (Q : ab_O → gd_D → Prop) : Prop :=
  (((a3 : Int32) ≤ a2) →
    Q (Sum.inl none) v) ∧
  ((¬ (a3 : Int32) ≤ a2) →
    vp_in a2 8 ∧
    ∀ v1 : gd_D, v1 = gd_sI v 37 a0 ((a2 : Int32).toNatClampNeg) a1 →
    gd_G g mJ7_fill_53178 d 0 0 5 [(0, zR 37 a0), (1, zI a1), (2, zI (a2 + 1)), (3, zI a3)] [] v1 Q)
theorem w_fill37_5 {g : ab_E} {d : Nat} {a0 : Nat} {a1 : Int32} {a2 : Int32} {a3 : Int32} {v : gd_D} {Q : ab_O → gd_D → Prop} (hd : 0 ≤ d) (h : wp_fill37_5 g d a0 a1 a2 a3 v Q) : gd_G g mJ7_fill_53178 d 0 0 5 [(0, zR 37 a0), (1, zI a1), (2, zI a2), (3, zI a3)] [] v Q := by
  unfold wp_fill37_5 at h
  refine gd_iload_n 2 dJ7_fill_53178_5 rfl rfl ?_
  refine gd_iload_n 3 dJ7_fill_53178_6 rfl rfl ?_
  refine gd_icmp_ge (tgt := 20) dJ7_fill_53178_7 (by decide) (fun hc => ?_) (fun hc => ?_)
  · have h := h.1 hc
    exact gd_vret dJ7_fill_53178_20 rfl h
  · have h := h.2 hc
    refine gd_aload_n 0 dJ7_fill_53178_10 rfl rfl ?_
    refine gd_iload_n 2 dJ7_fill_53178_11 rfl rfl ?_
    refine gd_iload_n 1 dJ7_fill_53178_12 rfl rfl ?_
    obtain ⟨hb, h⟩ := h
    refine gd_iastoren (n := 8) (by decide) rfl rfl dJ7_fill_53178_13 rfl hb (fun v1 ev1 => ?_)
    have h := h v1 ev1
    refine gd_iinc (x9 := a2 + 1) (L' := [(2, zI (a2 + 1)), (0, zR 37 a0), (1, zI a1), (3, zI a3)]) 2 dJ7_fill_53178_14 rfl rfl (by decide) rfl ?_
    refine gd_goto (tgt := 5) dJ7_fill_53178_17 (by decide) ?_
    refine gd_locals [1, 2, 0, 3] rfl ?_
    exact h
theorem c_fill37 {g : ab_E} {d : Nat} {a0 : Nat} {a1 : Int32} {v : gd_D} {Q : ab_O → gd_D → Prop} (hd : 0 ≤ d) (h : wp_fill37 g d a0 a1 v Q) : gd_C g mJ7_fill_53178 d 0 0 [zR 37 a0, zI a1] v Q := gd_enterF (by decide +kernel) (Nat.le_of_ble_eq_true rfl) rfl (w_fill37 hd h)
