/-! THE LAW BEGINS -/
section LB
variable {g : ab_E} {d L : Nat} {xs : Nat → Int32}
theorem lw_first {Q : ab_O → ab_W → Prop} (hd : 6 ≤ d) {bc bs : Nat} (hb : 1000 ≤ bc) (hb2 : 100000 ≤ bs) (kk : ab_G g mL_law d (bc - 1000) (bs - 100000) 23 [(4, zI (nI 0)), (3, zR 64 0), (2, zR 11 0), (1, zR 10 0), (0, zR 63 0)] [] (T0 xs L) Q) : ab_G g mL_law d bc bs 0 [(0, zR 63 0)] [] (TT (T0 xs L) c0) Q := by
  refine kw_newc (k := 10) kcX10 knL_8 dL_law_0 ⟨by omega, by omega⟩ (ab_dup dL_law_3 rfl ?_)
  refine ab_callI (dy := 5) (my := 431) (sy := 6630) lL_76 rfl kiX10 dL_law_4 ⟨by omega, by omega⟩ ⟨by omega, by omega⟩ (Nat.le_of_ble_eq_true rfl) (n_X10 (xs := xs) (L := L) (by decide) kw_blank) ?_
  rw [show kw_e (T0 xs L) (ab_na (TT (T0 xs L) c0) 10 0) 10 0 (x10c (kw_u c0 10)) = TT (T0 xs L) (x10c (kw_u c0 10)) from kw_TT (c := c0) (k := 10) rfl]
  refine ab_astore_n (x := 10) (y := 0) (L' := [(1, zR 10 0), (0, zR 63 0)]) dL_law_7 rfl (by decide) rfl ?_
  refine kw_newc (k := 11) kcX11 knL_77 dL_law_8 ⟨by omega, by omega⟩ (ab_dup dL_law_11 rfl ?_)
  have b11 : kw_b (ab_na (TT (T0 xs L) (x10c (kw_u c0 10))) 11 0) 11 0 := kw_blank' rfl
  have h11 : ∀ k, 39 ≤ k → k ≤ 62 → kw_u (x10c (kw_u c0 10)) 11 k = 0 := by
    have : ∀ k, k < 63 → 39 ≤ k → kw_u (x10c (kw_u c0 10)) 11 k = 0 := by decide +kernel
    exact fun k h1 h2 => this k (by omega) h1
  refine ab_callI (dy := 1) (my := 24) (sy := 11512) lL_79 rfl kiX11 dL_law_12 ⟨by omega, by omega⟩ ⟨by omega, by omega⟩ (Nat.le_of_ble_eq_true rfl) (n_X11 (xs := xs) (L := L) (by decide) b11 h11) ?_
  rw [show kw_e (T0 xs L) (ab_na (TT (T0 xs L) (x10c (kw_u c0 10))) 11 0) 11 0 (x11c (ab_na (TT (T0 xs L) (x10c (kw_u c0 10))) 11 0).2.2.2.1) = TT (T0 xs L) (x11c (kw_u (x10c (kw_u c0 10)) 11)) from kw_TT (c := x10c (kw_u c0 10)) (k := 11) rfl]
  refine ab_astore_n (x := 11) (y := 0) (L' := [(2, zR 11 0), (1, zR 10 0), (0, zR 63 0)]) dL_law_15 rfl (by decide) rfl ?_
  refine ab_iconst (v := 1) dL_law_16 (by decide) ?_
  refine ab_newa (k := 64) (N := 1) (ty := .long) ⟨by decide, by decide⟩ rfl rfl (Or.inr (Or.inl rfl)) ka_long (fun q => absurd q.1 (by decide)) dL_law_17 (by decide) (by decide) (by decide) ⟨by omega, by omega⟩ ?_
  rw [show ab_na (TT (T0 xs L) (x11c (kw_u (x10c (kw_u c0 10)) 11))) 64 1 = T0 xs L from (na_TT (N := 1) ⟨fun _ => rfl, fun _ => rfl, fun _ => rfl, rfl⟩).trans (by rw [c_all]; rfl)]
  refine ab_astore_n (x := 64) (y := 0) (L' := [(3, zR 64 0), (2, zR 11 0), (1, zR 10 0), (0, zR 63 0)]) dL_law_19 rfl (by decide) rfl ?_
  refine ab_iconst (v := nI 0) dL_law_20 (by decide) ?_
  refine ab_istore (L' := [(4, zI (nI 0)), (3, zR 64 0), (2, zR 11 0), (1, zR 10 0), (0, zR 63 0)]) dL_law_21 (by decide) rfl ?_
  exact ab_less (by omega) (by omega) kk
end LB
