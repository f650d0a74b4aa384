def wp_X11_saleRead_98 (g : ab_E) (d : Nat) (a1 : Int32) (a2 : Int64) (a4 : Int64) (v : gd_D) (Q : ab_O → gd_D → Prop) : Prop :=
  gd_C g mX11_number 3 0 0 [zR 11 0, zJ 1, zJ 1000] v (gd_rJ (fun (r2 : Int64) v1 =>
    gd_C g mX11_number 3 0 0 [zR 11 0, zJ 1, zJ 10000] v1 (gd_rJ (fun (r4 : Int64) v3 =>
      gd_C g mX11_number 3 0 0 [zR 11 0, zJ 0, zJ 999] v3 (gd_rJ (fun (r6 : Int64) v5 =>
        (((v5.1 11 0 13 : Int32) ≤ 0) →
          vp_in (a1 + 0) 773 ∧
          ∀ v7 : gd_D, v7 = gd_sJ v5 41 0 ((a1 + 0 : Int32).toNatClampNeg) a2 →
          vp_in (a1 + 1) 773 ∧
          ∀ v8 : gd_D, v8 = gd_sJ v7 41 0 ((a1 + 1 : Int32).toNatClampNeg) a4 →
          vp_in (a1 + 2) 773 ∧
          ∀ v9 : gd_D, v9 = gd_sJ v8 41 0 ((a1 + 2 : Int32).toNatClampNeg) r2 →
          vp_in (a1 + 5) 773 ∧
          ∀ v10 : gd_D, v10 = gd_sJ v9 41 0 ((a1 + 5 : Int32).toNatClampNeg) r2 →
          vp_in (a1 + 3) 773 ∧
          ∀ v11 : gd_D, v11 = gd_sJ v10 41 0 ((a1 + 3 : Int32).toNatClampNeg) r4 →
          vp_in (a1 + 4) 773 ∧
          ∀ v12 : gd_D, v12 = gd_sJ v11 41 0 ((a1 + 4 : Int32).toNatClampNeg) r6 →
          vp_in 1 773 ∧
          vp_in 1 773 ∧
          ∀ v13 : gd_D, v13 = gd_sJ v12 41 0 ((1 : Int32).toNatClampNeg) ((v12.2.1 41 0 (1 : Int32).toNatClampNeg) + 1) →
          Q (Sum.inl none) v13) ∧
        ((¬ (v5.1 11 0 13 : Int32) ≤ 0) →
          Q (Sum.inl none) v5)) (fun E v9 => Q (Sum.inr E) v9))) (fun E v9 => Q (Sum.inr E) v9))) (fun E v9 => Q (Sum.inr E) v9))
theorem w_X11_saleRead_98 {g : ab_E} {d : Nat} {a1 : Int32} {a2 : Int64} {a4 : Int64} {v : gd_D} {Q : ab_O → gd_D → Prop} (hd : 4 ≤ d) (h : wp_X11_saleRead_98 g d a1 a2 a4 v Q) : gd_G g mX11_saleRead d 0 0 98 [(0, zR 11 0), (1, zI a1), (2, zJ a2), (4, zJ a4)] [] v Q := by
  unfold wp_X11_saleRead_98 at h
  refine gd_aload_n 0 dX11_saleRead_98 rfl rfl ?_
  refine gd_lconst (x9 := 1) dX11_saleRead_99 (by decide) ?_
  refine gd_ldc2 kX11_231 dX11_saleRead_100 ?_
  refine gd_callVJ (As := [zJ 1, zJ 1000]) (rest := []) (dy := 3) (my := 0) (sy := 0) (k := 11) (i := 0) lX11_201 iX11_number sX11_number rfl dX11_saleRead_103 rfl rfl (gd_room (by omega) (by decide)) (by decide) (Nat.le_of_ble_eq_true rfl) h (fun r2 v1 h => ?_)
  refine gd_lstore (L' := [(6, zJ r2), (0, zR 11 0), (1, zI a1), (2, zJ a2), (4, zJ a4)]) dX11_saleRead_106 (by decide) rfl ?_
  refine gd_aload_n 1 dX11_saleRead_108 rfl rfl ?_
  refine gd_lconst (x9 := 1) dX11_saleRead_109 (by decide) ?_
  refine gd_ldc2 kX11_233 dX11_saleRead_110 ?_
  refine gd_callVJ (As := [zJ 1, zJ 10000]) (rest := []) (dy := 3) (my := 0) (sy := 0) (k := 11) (i := 0) lX11_201 iX11_number sX11_number rfl dX11_saleRead_113 rfl rfl (gd_room (by omega) (by decide)) (by decide) (Nat.le_of_ble_eq_true rfl) h (fun r4 v3 h => ?_)
  refine gd_lstore (L' := [(8, zJ r4), (6, zJ r2), (0, zR 11 0), (1, zI a1), (2, zJ a2), (4, zJ a4)]) dX11_saleRead_116 (by decide) rfl ?_
  refine gd_aload_n 2 dX11_saleRead_118 rfl rfl ?_
  refine gd_lconst (x9 := 0) dX11_saleRead_119 (by decide) ?_
  refine gd_ldc2 kX11_235 dX11_saleRead_120 ?_
  refine gd_callVJ (As := [zJ 0, zJ 999]) (rest := []) (dy := 3) (my := 0) (sy := 0) (k := 11) (i := 0) lX11_201 iX11_number sX11_number rfl dX11_saleRead_123 rfl rfl (gd_room (by omega) (by decide)) (by decide) (Nat.le_of_ble_eq_true rfl) h (fun r6 v5 h => ?_)
  refine gd_lstore (L' := [(10, zJ r6), (8, zJ r4), (6, zJ r2), (0, zR 11 0), (1, zI a1), (2, zJ a2), (4, zJ a4)]) dX11_saleRead_126 (by decide) rfl ?_
  refine gd_aload_n 3 dX11_saleRead_128 rfl rfl ?_
  refine gd_getI fX11_106 rfl dX11_saleRead_129 ?_
  refine gd_if_le (tgt := 136) dX11_saleRead_132 (by decide) (fun hc => ?_) (fun hc => ?_)
  · have h := h.1 hc
    refine gd_aload_n 3 dX11_saleRead_136 rfl rfl ?_
    refine gd_getR (x := 0) (kr := 41) fX11_21 rfl rfl dX11_saleRead_137 rfl ?_
    refine gd_iload_n 4 dX11_saleRead_140 rfl rfl ?_
    refine gd_iconst (x9 := 0) dX11_saleRead_141 (by decide) ?_
    refine gd_iadd dX11_saleRead_142 ?_
    refine gd_lload_n 5 dX11_saleRead_143 rfl rfl ?_
    obtain ⟨hb, h⟩ := h
    refine gd_lastoren (n := 773) (by decide) rfl rfl dX11_saleRead_144 rfl hb (fun v7 ev7 => ?_)
    have h := h v7 ev7
    refine gd_aload_n 3 dX11_saleRead_145 rfl rfl ?_
    refine gd_getR (x := 0) (kr := 41) fX11_21 rfl rfl dX11_saleRead_146 rfl ?_
    refine gd_iload_n 4 dX11_saleRead_149 rfl rfl ?_
    refine gd_iconst (x9 := 1) dX11_saleRead_150 (by decide) ?_
    refine gd_iadd dX11_saleRead_151 ?_
    refine gd_lload 6 dX11_saleRead_152 rfl ?_
    obtain ⟨hb, h⟩ := h
    refine gd_lastoren (n := 773) (by decide) rfl rfl dX11_saleRead_154 rfl hb (fun v8 ev8 => ?_)
    have h := h v8 ev8
    refine gd_aload_n 3 dX11_saleRead_155 rfl rfl ?_
    refine gd_getR (x := 0) (kr := 41) fX11_21 rfl rfl dX11_saleRead_156 rfl ?_
    refine gd_iload_n 4 dX11_saleRead_159 rfl rfl ?_
    refine gd_iconst (x9 := 2) dX11_saleRead_160 (by decide) ?_
    refine gd_iadd dX11_saleRead_161 ?_
    refine gd_lload 2 dX11_saleRead_162 rfl ?_
    obtain ⟨hb, h⟩ := h
    refine gd_lastoren (n := 773) (by decide) rfl rfl dX11_saleRead_164 rfl hb (fun v9 ev9 => ?_)
    have h := h v9 ev9
    refine gd_aload_n 3 dX11_saleRead_165 rfl rfl ?_
    refine gd_getR (x := 0) (kr := 41) fX11_21 rfl rfl dX11_saleRead_166 rfl ?_
    refine gd_iload_n 4 dX11_saleRead_169 rfl rfl ?_
    refine gd_iconst (x9 := 5) dX11_saleRead_170 (by decide) ?_
    refine gd_iadd dX11_saleRead_171 ?_
    refine gd_lload 2 dX11_saleRead_172 rfl ?_
    obtain ⟨hb, h⟩ := h
    refine gd_lastoren (n := 773) (by decide) rfl rfl dX11_saleRead_174 rfl hb (fun v10 ev10 => ?_)
    have h := h v10 ev10
    refine gd_aload_n 3 dX11_saleRead_175 rfl rfl ?_
    refine gd_getR (x := 0) (kr := 41) fX11_21 rfl rfl dX11_saleRead_176 rfl ?_
    refine gd_iload_n 4 dX11_saleRead_179 rfl rfl ?_
    refine gd_iconst (x9 := 3) dX11_saleRead_180 (by decide) ?_
    refine gd_iadd dX11_saleRead_181 ?_
    refine gd_lload 1 dX11_saleRead_182 rfl ?_
    obtain ⟨hb, h⟩ := h
    refine gd_lastoren (n := 773) (by decide) rfl rfl dX11_saleRead_184 rfl hb (fun v11 ev11 => ?_)
    have h := h v11 ev11
    refine gd_aload_n 3 dX11_saleRead_185 rfl rfl ?_
    refine gd_getR (x := 0) (kr := 41) fX11_21 rfl rfl dX11_saleRead_186 rfl ?_
    refine gd_iload_n 4 dX11_saleRead_189 rfl rfl ?_
    refine gd_iconst (x9 := 4) dX11_saleRead_190 (by decide) ?_
    refine gd_iadd dX11_saleRead_191 ?_
    refine gd_lload 0 dX11_saleRead_192 rfl ?_
    obtain ⟨hb, h⟩ := h
    refine gd_lastoren (n := 773) (by decide) rfl rfl dX11_saleRead_194 rfl hb (fun v12 ev12 => ?_)
    have h := h v12 ev12
    refine gd_aload_n 3 dX11_saleRead_195 rfl rfl ?_
    refine gd_getR (x := 0) (kr := 41) fX11_21 rfl rfl dX11_saleRead_196 rfl ?_
    refine gd_iconst (x9 := 1) dX11_saleRead_199 (by decide) ?_
    refine gd_dup2_11 dX11_saleRead_200 rfl rfl ?_
    obtain ⟨hb, h⟩ := h
    refine gd_laload (n := 773) (by decide) rfl dX11_saleRead_201 rfl hb ?_
    refine gd_lconst (x9 := 1) dX11_saleRead_202 (by decide) ?_
    refine gd_ladd dX11_saleRead_203 ?_
    obtain ⟨hb, h⟩ := h
    refine gd_lastoren (n := 773) (by decide) rfl rfl dX11_saleRead_204 rfl hb (fun v13 ev13 => ?_)
    have h := h v13 ev13
    exact gd_vret dX11_saleRead_205 rfl h
  · have h := h.2 hc
    exact gd_vret dX11_saleRead_135 rfl h
def wp_X11_saleRead_22 (g : ab_E) (d : Nat) (v : gd_D) (Q : ab_O → gd_D → Prop) : Prop :=
  ∀ v1 : gd_D, v1 = gd_sI v 11 0 11 ((v.1 11 0 11) + 4) →
  vp_in 1 773 ∧
  ∀ x2 : Int32, x2 = (v1.2.1 41 0 (1 : Int32).toNatClampNeg : Int64).toInt32 →
  vp_in 0 773 ∧
  gd_C g mX11_number 3 0 0 [zR 11 0, zJ 0, zJ ((v1.2.1 41 0 (0 : Int32).toNatClampNeg) - 1)] v1 (gd_rJ (fun (r4 : Int64) v3 =>
    vp_in 0 773 ∧
    gd_C g mX11_number 3 0 0 [zR 11 0, zJ 0, zJ ((v3.2.1 41 0 (0 : Int32).toNatClampNeg) - 1)] v3 (gd_rJ (fun (r6 : Int64) v5 =>
      ((¬ (v5.1 11 0 13 : Int32) = 0) →
        wp_X11_saleRead_98 g d (57 + (9 * x2)) r4 r6 v5 Q) ∧
      (((v5.1 11 0 13 : Int32) = 0) →
        ((¬ (r4 : Int64) = r6) →
          wp_X11_saleRead_98 g d (57 + (9 * x2)) r4 r6 v5 Q) ∧
        (((r4 : Int64) = r6) →
          gd_C g mX11_wrong 2 0 0 [zR 11 0, zI 2, zI (v5.1 11 0 12)] v5 (gd_rV (fun v7 =>
            wp_X11_saleRead_98 g d (57 + (9 * x2)) r4 r6 v7 Q) (fun E v9 => Q (Sum.inr E) v9))))) (fun E v9 => Q (Sum.inr E) v9))) (fun E v9 => Q (Sum.inr E) v9))
theorem w_X11_saleRead_22 {g : ab_E} {d : Nat} {v : gd_D} {Q : ab_O → gd_D → Prop} (hd : 4 ≤ d) (h : wp_X11_saleRead_22 g d v Q) : gd_G g mX11_saleRead d 0 0 22 [(0, zR 11 0)] [] v Q := by
  unfold wp_X11_saleRead_22 at h
  refine gd_aload_n 0 dX11_saleRead_22 rfl rfl ?_
  refine gd_dup dX11_saleRead_23 rfl ?_
  refine gd_getI fX11_112 rfl dX11_saleRead_24 ?_
  refine gd_iconst (x9 := 4) dX11_saleRead_27 (by decide) ?_
  refine gd_iadd dX11_saleRead_28 ?_
  refine gd_putIn fX11_112 rfl rfl dX11_saleRead_29 (fun v1 ev1 => ?_)
  have h := h v1 ev1
  refine gd_bipush (x9 := 57) dX11_saleRead_32 (by decide) ?_
  refine gd_bipush (x9 := 9) dX11_saleRead_34 (by decide) ?_
  refine gd_aload_n 0 dX11_saleRead_36 rfl rfl ?_
  refine gd_getR (x := 0) (kr := 41) fX11_21 rfl rfl dX11_saleRead_37 rfl ?_
  refine gd_iconst (x9 := 1) dX11_saleRead_40 (by decide) ?_
  obtain ⟨hb, h⟩ := h
  refine gd_laload (n := 773) (by decide) rfl dX11_saleRead_41 rfl hb ?_
  refine gd_l2i dX11_saleRead_42 ?_
  refine gd_nmI (fun x2 ex2 => ?_)
  have h := h x2 ex2
  refine gd_imul dX11_saleRead_43 ?_
  refine gd_iadd dX11_saleRead_44 ?_
  refine gd_istore_n (L' := [(1, zI (57 + (9 * x2))), (0, zR 11 0)]) dX11_saleRead_45 rfl (by decide) rfl ?_
  refine gd_aload_n 1 dX11_saleRead_46 rfl rfl ?_
  refine gd_lconst (x9 := 0) dX11_saleRead_47 (by decide) ?_
  refine gd_aload_n 1 dX11_saleRead_48 rfl rfl ?_
  refine gd_getR (x := 0) (kr := 41) fX11_21 rfl rfl dX11_saleRead_49 rfl ?_
  refine gd_iconst (x9 := 0) dX11_saleRead_52 (by decide) ?_
  obtain ⟨hb, h⟩ := h
  refine gd_laload (n := 773) (by decide) rfl dX11_saleRead_53 rfl hb ?_
  refine gd_lconst (x9 := 1) dX11_saleRead_54 (by decide) ?_
  refine gd_lsub dX11_saleRead_55 ?_
  refine gd_callVJ (As := [zJ 0, zJ ((v1.2.1 41 0 (0 : Int32).toNatClampNeg) - 1)]) (rest := []) (dy := 3) (my := 0) (sy := 0) (k := 11) (i := 0) lX11_201 iX11_number sX11_number rfl dX11_saleRead_56 rfl rfl (gd_room (by omega) (by decide)) (by decide) (Nat.le_of_ble_eq_true rfl) h (fun r4 v3 h => ?_)
  refine gd_lstore_n (L' := [(2, zJ r4), (1, zI (57 + (9 * x2))), (0, zR 11 0)]) dX11_saleRead_59 rfl (by decide) rfl ?_
  refine gd_aload_n 2 dX11_saleRead_60 rfl rfl ?_
  refine gd_lconst (x9 := 0) dX11_saleRead_61 (by decide) ?_
  refine gd_aload_n 2 dX11_saleRead_62 rfl rfl ?_
  refine gd_getR (x := 0) (kr := 41) fX11_21 rfl rfl dX11_saleRead_63 rfl ?_
  refine gd_iconst (x9 := 0) dX11_saleRead_66 (by decide) ?_
  obtain ⟨hb, h⟩ := h
  refine gd_laload (n := 773) (by decide) rfl dX11_saleRead_67 rfl hb ?_
  refine gd_lconst (x9 := 1) dX11_saleRead_68 (by decide) ?_
  refine gd_lsub dX11_saleRead_69 ?_
  refine gd_callVJ (As := [zJ 0, zJ ((v3.2.1 41 0 (0 : Int32).toNatClampNeg) - 1)]) (rest := []) (dy := 3) (my := 0) (sy := 0) (k := 11) (i := 0) lX11_201 iX11_number sX11_number rfl dX11_saleRead_70 rfl rfl (gd_room (by omega) (by decide)) (by decide) (Nat.le_of_ble_eq_true rfl) h (fun r6 v5 h => ?_)
  refine gd_lstore (L' := [(4, zJ r6), (2, zJ r4), (1, zI (57 + (9 * x2))), (0, zR 11 0)]) dX11_saleRead_73 (by decide) rfl ?_
  refine gd_aload_n 3 dX11_saleRead_75 rfl rfl ?_
  refine gd_getI fX11_106 rfl dX11_saleRead_76 ?_
  refine gd_if_ne (tgt := 98) dX11_saleRead_79 (by decide) (fun hc => ?_) (fun hc => ?_)
  · have h := h.1 hc
    refine gd_locals [3, 2, 1, 0] rfl ?_
    exact w_X11_saleRead_98 (by omega) h
  · have h := h.2 hc
    refine gd_lload_n 1 dX11_saleRead_82 rfl rfl ?_
    refine gd_lload 0 dX11_saleRead_83 rfl ?_
    refine gd_lc_ne (tgt := 98) dX11_saleRead_85 dX11_saleRead_86 (by decide) (fun hc => ?_) (fun hc => ?_)
    · have h := h.1 hc
      refine gd_locals [3, 2, 1, 0] rfl ?_
      exact w_X11_saleRead_98 (by omega) h
    · have h := h.2 hc
      refine gd_aload_n 3 dX11_saleRead_89 rfl rfl ?_
      refine gd_iconst (x9 := 2) dX11_saleRead_90 (by decide) ?_
      refine gd_aload_n 3 dX11_saleRead_91 rfl rfl ?_
      refine gd_getI fX11_149 rfl dX11_saleRead_92 ?_
      refine gd_callVV (As := [zI 2, zI (v5.1 11 0 12)]) (rest := []) (dy := 2) (my := 0) (sy := 0) (k := 11) (i := 0) lX11_142 iX11_wrong sX11_wrong rfl dX11_saleRead_95 rfl rfl (gd_room (by omega) (by decide)) (by decide) (Nat.le_of_ble_eq_true rfl) h (fun v7 h => ?_)
      refine gd_locals [3, 2, 1, 0] rfl ?_
      exact w_X11_saleRead_98 (by omega) h
def wp_X11_saleRead (g : ab_E) (d : Nat) (v : gd_D) (Q : ab_O → gd_D → Prop) : Prop :=
  vp_in 1 773 ∧
  ((¬ (v.2.1 41 0 (1 : Int32).toNatClampNeg : Int64) = 24) →
    wp_X11_saleRead_22 g d v Q) ∧
  (((v.2.1 41 0 (1 : Int32).toNatClampNeg : Int64) = 24) →
    gd_C g mX11_wrong 2 0 0 [zR 11 0, zI 3, zI (v.1 11 0 11)] v (gd_rV (fun v1 =>
      wp_X11_saleRead_22 g d v1 Q) (fun E v9 => Q (Sum.inr E) v9)))
theorem w_X11_saleRead {g : ab_E} {d : Nat} {v : gd_D} {Q : ab_O → gd_D → Prop} (hd : 4 ≤ d) (h : wp_X11_saleRead g d v Q) : gd_G g mX11_saleRead d 0 0 0 [(0, zR 11 0)] [] v Q := by
  unfold wp_X11_saleRead at h
  refine gd_aload_n 0 dX11_saleRead_0 rfl rfl ?_
  refine gd_getR (x := 0) (kr := 41) fX11_21 rfl rfl dX11_saleRead_1 rfl ?_
  refine gd_iconst (x9 := 1) dX11_saleRead_4 (by decide) ?_
  obtain ⟨hb, h⟩ := h
  refine gd_laload (n := 773) (by decide) rfl dX11_saleRead_5 rfl hb ?_
  refine gd_ldc2 kX11_229 dX11_saleRead_6 ?_
  refine gd_lc_ne (tgt := 22) dX11_saleRead_9 dX11_saleRead_10 (by decide) (fun hc => ?_) (fun hc => ?_)
  · have h := h.1 hc
    exact w_X11_saleRead_22 (by omega) h
  · have h := h.2 hc
    refine gd_aload_n 0 dX11_saleRead_13 rfl rfl ?_
    refine gd_iconst (x9 := 3) dX11_saleRead_14 (by decide) ?_
    refine gd_aload_n 0 dX11_saleRead_15 rfl rfl ?_
    refine gd_getI fX11_112 rfl dX11_saleRead_16 ?_
    refine gd_callVV (As := [zI 3, zI (v.1 11 0 11)]) (rest := []) (dy := 2) (my := 0) (sy := 0) (k := 11) (i := 0) lX11_142 iX11_wrong sX11_wrong rfl dX11_saleRead_19 rfl rfl (gd_room (by omega) (by decide)) (by decide) (Nat.le_of_ble_eq_true rfl) h (fun v1 h => ?_)
    exact w_X11_saleRead_22 (by omega) h
theorem c_X11_saleRead {g : ab_E} {d : Nat} {v : gd_D} {Q : ab_O → gd_D → Prop} (hd : 4 ≤ d) (h : wp_X11_saleRead g d v Q) : gd_C g mX11_saleRead d 0 0 [zR 11 0] v Q := gd_enterF (plainFor_of_name (by decide)) (Nat.le_of_ble_eq_true rfl) rfl (w_X11_saleRead hd h)
def wp_X11_ruleRead_21 (g : ab_E) (d : Nat) (v : gd_D) (Q : ab_O → gd_D → Prop) : Prop :=
  ∀ v1 : gd_D, v1 = gd_sI v 11 0 11 ((v.1 11 0 11) + 4) →
  ∀ v2 : gd_D, v2 = gd_sI v1 11 0 16 0 →
  gd_C g mX11_expression 40 0 0 [zR 11 0] v2 (gd_rV (fun v3 =>
    Q (Sum.inl none) v3) (fun E v9 => Q (Sum.inr E) v9))
theorem w_X11_ruleRead_21 {g : ab_E} {d : Nat} {v : gd_D} {Q : ab_O → gd_D → Prop} (hd : 41 ≤ d) (h : wp_X11_ruleRead_21 g d v Q) : gd_G g mX11_ruleRead d 0 0 21 [(0, zR 11 0)] [] v Q := by
  unfold wp_X11_ruleRead_21 at h
  refine gd_aload_n 0 dX11_ruleRead_21 rfl rfl ?_
  refine gd_dup dX11_ruleRead_22 rfl ?_
  refine gd_getI fX11_112 rfl dX11_ruleRead_23 ?_
  refine gd_iconst (x9 := 4) dX11_ruleRead_26 (by decide) ?_
  refine gd_iadd dX11_ruleRead_27 ?_
  refine gd_putIn fX11_112 rfl rfl dX11_ruleRead_28 (fun v1 ev1 => ?_)
  have h := h v1 ev1
  refine gd_aload_n 0 dX11_ruleRead_31 rfl rfl ?_
  refine gd_iconst (x9 := 0) dX11_ruleRead_32 (by decide) ?_
  refine gd_putIn fX11_196 rfl rfl dX11_ruleRead_33 (fun v2 ev2 => ?_)
  have h := h v2 ev2
  refine gd_aload_n 0 dX11_ruleRead_36 rfl rfl ?_
  refine gd_callVV (As := []) (rest := []) (dy := 40) (my := 0) (sy := 0) (k := 11) (i := 0) lX11_208 iX11_expression sX11_expression rfl dX11_ruleRead_37 rfl rfl (gd_room (by omega) (by decide)) (by decide) (Nat.le_of_ble_eq_true rfl) h (fun v3 h => ?_)
  exact gd_vret dX11_ruleRead_40 rfl h
def wp_X11_ruleRead (g : ab_E) (d : Nat) (v : gd_D) (Q : ab_O → gd_D → Prop) : Prop :=
  vp_in 7 773 ∧
  (((v.2.1 41 0 (7 : Int32).toNatClampNeg : Int64) ≤ 0) →
    wp_X11_ruleRead_21 g d v Q) ∧
  ((¬ (v.2.1 41 0 (7 : Int32).toNatClampNeg : Int64) ≤ 0) →
    gd_C g mX11_wrong 2 0 0 [zR 11 0, zI 1, zI (v.1 11 0 11)] v (gd_rV (fun v1 =>
      wp_X11_ruleRead_21 g d v1 Q) (fun E v9 => Q (Sum.inr E) v9)))
theorem w_X11_ruleRead {g : ab_E} {d : Nat} {v : gd_D} {Q : ab_O → gd_D → Prop} (hd : 41 ≤ d) (h : wp_X11_ruleRead g d v Q) : gd_G g mX11_ruleRead d 0 0 0 [(0, zR 11 0)] [] v Q := by
  unfold wp_X11_ruleRead at h
  refine gd_aload_n 0 dX11_ruleRead_0 rfl rfl ?_
  refine gd_getR (x := 0) (kr := 41) fX11_21 rfl rfl dX11_ruleRead_1 rfl ?_
  refine gd_bipush (x9 := 7) dX11_ruleRead_4 (by decide) ?_
  obtain ⟨hb, h⟩ := h
  refine gd_laload (n := 773) (by decide) rfl dX11_ruleRead_6 rfl hb ?_
  refine gd_lconst (x9 := 0) dX11_ruleRead_7 (by decide) ?_
  refine gd_lc_le (tgt := 21) dX11_ruleRead_8 dX11_ruleRead_9 (by decide) (fun hc => ?_) (fun hc => ?_)
  · have h := h.1 hc
    exact w_X11_ruleRead_21 (by omega) h
  · have h := h.2 hc
    refine gd_aload_n 0 dX11_ruleRead_12 rfl rfl ?_
    refine gd_iconst (x9 := 1) dX11_ruleRead_13 (by decide) ?_
    refine gd_aload_n 0 dX11_ruleRead_14 rfl rfl ?_
    refine gd_getI fX11_112 rfl dX11_ruleRead_15 ?_
    refine gd_callVV (As := [zI 1, zI (v.1 11 0 11)]) (rest := []) (dy := 2) (my := 0) (sy := 0) (k := 11) (i := 0) lX11_142 iX11_wrong sX11_wrong rfl dX11_ruleRead_18 rfl rfl (gd_room (by omega) (by decide)) (by decide) (Nat.le_of_ble_eq_true rfl) h (fun v1 h => ?_)
    exact w_X11_ruleRead_21 (by omega) h
theorem c_X11_ruleRead {g : ab_E} {d : Nat} {v : gd_D} {Q : ab_O → gd_D → Prop} (hd : 41 ≤ d) (h : wp_X11_ruleRead g d v Q) : gd_C g mX11_ruleRead d 0 0 [zR 11 0] v Q := gd_enterF (plainFor_of_name (by decide)) (Nat.le_of_ble_eq_true rfl) rfl (w_X11_ruleRead hd h)
def wp_X11_line_115 (g : ab_E) (d : Nat) (v : gd_D) (Q : ab_O → gd_D → Prop) : Prop :=
  gd_C g mX11_needs 4 0 0 [zR 11 0, zI 59] v (gd_rV (fun v1 =>
    Q (Sum.inl none) v1) (fun E v9 => Q (Sum.inr E) v9))
theorem w_X11_line_115 {g : ab_E} {d : Nat} {v : gd_D} {Q : ab_O → gd_D → Prop} (hd : 5 ≤ d) (h : wp_X11_line_115 g d v Q) : gd_G g mX11_line d 0 0 115 [(0, zR 11 0)] [] v Q := by
  unfold wp_X11_line_115 at h
  refine gd_aload_n 0 dX11_line_115 rfl rfl ?_
  refine gd_bipush (x9 := 59) dX11_line_116 (by decide) ?_
  refine gd_callVV (As := [zI 59]) (rest := []) (dy := 4) (my := 0) (sy := 0) (k := 11) (i := 0) lX11_211 iX11_needs sX11_needs rfl dX11_line_118 rfl rfl (gd_room (by omega) (by decide)) (by decide) (Nat.le_of_ble_eq_true rfl) h (fun v1 h => ?_)
  exact gd_vret dX11_line_121 rfl h
def wp_X11_line (g : ab_E) (d : Nat) (v : gd_D) (Q : ab_O → gd_D → Prop) : Prop :=
  gd_C g mX11_isHere 7 0 0 [zR 11 0, zR 100 0] v (gd_rI (fun (r2 : Int32) v1 =>
    (((r2 : Int32) = 0) →
      gd_C g mX11_isHere 7 0 0 [zR 11 0, zR 100 1] v1 (gd_rI (fun (r4 : Int32) v3 =>
        (((r4 : Int32) = 0) →
          gd_C g mX11_isHere 7 0 0 [zR 11 0, zR 100 6] v3 (gd_rI (fun (r6 : Int32) v5 =>
            (((r6 : Int32) = 0) →
              gd_C g mX11_isOnce 8 0 0 [zR 11 0, zR 100 2, zI 4, zI 0, zI 999] v5 (gd_rI (fun (r8 : Int32) v7 =>
                ((¬ (r8 : Int32) = 0) →
                  wp_X11_line_115 g d v7 Q) ∧
                (((r8 : Int32) = 0) →
                  gd_C g mX11_isOnce 8 0 0 [zR 11 0, zR 100 3, zI 5, zI 1, zI 100] v7 (gd_rI (fun (r10 : Int32) v9 =>
                    ((¬ (r10 : Int32) = 0) →
                      wp_X11_line_115 g d v9 Q) ∧
                    (((r10 : Int32) = 0) →
                      gd_C g mX11_isOnce 8 0 0 [zR 11 0, zR 100 4, zI 6, zI 0, zI 30] v9 (gd_rI (fun (r12 : Int32) v11 =>
                        ((¬ (r12 : Int32) = 0) →
                          wp_X11_line_115 g d v11 Q) ∧
                        (((r12 : Int32) = 0) →
                          gd_C g mX11_isOnce 8 0 0 [zR 11 0, zR 100 5, zI 3, zI 1, zI 10000] v11 (gd_rI (fun (r14 : Int32) v13 =>
                            ((¬ (r14 : Int32) = 0) →
                              wp_X11_line_115 g d v13 Q) ∧
                            (((r14 : Int32) = 0) →
                              gd_C g mX11_wrong 2 0 0 [zR 11 0, zI 1, zI (v13.1 11 0 11)] v13 (gd_rV (fun v15 =>
                                wp_X11_line_115 g d v15 Q) (fun E v9 => Q (Sum.inr E) v9)))) (fun E v9 => Q (Sum.inr E) v9)))) (fun E v9 => Q (Sum.inr E) v9)))) (fun E v9 => Q (Sum.inr E) v9)))) (fun E v9 => Q (Sum.inr E) v9))) ∧
            ((¬ (r6 : Int32) = 0) →
              gd_C g mX11_ruleRead 41 0 0 [zR 11 0] v5 (gd_rV (fun v17 =>
                wp_X11_line_115 g d v17 Q) (fun E v9 => Q (Sum.inr E) v9)))) (fun E v9 => Q (Sum.inr E) v9))) ∧
        ((¬ (r4 : Int32) = 0) →
          gd_C g mX11_saleRead 4 0 0 [zR 11 0] v3 (gd_rV (fun v19 =>
            wp_X11_line_115 g d v19 Q) (fun E v9 => Q (Sum.inr E) v9)))) (fun E v9 => Q (Sum.inr E) v9))) ∧
    ((¬ (r2 : Int32) = 0) →
      gd_C g mX11_dealerRead 4 0 0 [zR 11 0] v1 (gd_rV (fun v21 =>
        wp_X11_line_115 g d v21 Q) (fun E v9 => Q (Sum.inr E) v9)))) (fun E v9 => Q (Sum.inr E) v9))
theorem w_X11_line {g : ab_E} {d : Nat} {v : gd_D} {Q : ab_O → gd_D → Prop} (hd : 42 ≤ d) (h : wp_X11_line g d v Q) : gd_G g mX11_line d 0 0 0 [(0, zR 11 0)] [] v Q := by
  unfold wp_X11_line at h
  refine gd_aload_n 0 dX11_line_0 rfl rfl ?_
  refine gd_ldcS (i := 0) (by decide) kX11_237 dX11_line_1 ?_
  refine gd_callVI (As := [zR 100 0]) (rest := []) (dy := 7) (my := 0) (sy := 0) (k := 11) (i := 0) lX11_135 iX11_isHere sX11_isHere rfl dX11_line_3 rfl rfl (gd_room (by omega) (by decide)) (by decide) (Nat.le_of_ble_eq_true rfl) h (fun r2 v1 h => ?_)
  refine gd_if_eq (tgt := 16) dX11_line_6 (by decide) (fun hc => ?_) (fun hc => ?_)
  · have h := h.1 hc
    refine gd_aload_n 0 dX11_line_16 rfl rfl ?_
    refine gd_ldcS (i := 1) (by decide) kX11_242 dX11_line_17 ?_
    refine gd_callVI (As := [zR 100 1]) (rest := []) (dy := 7) (my := 0) (sy := 0) (k := 11) (i := 0) lX11_135 iX11_isHere sX11_isHere rfl dX11_line_19 rfl rfl (gd_room (by omega) (by decide)) (by decide) (Nat.le_of_ble_eq_true rfl) h (fun r4 v3 h => ?_)
    refine gd_if_eq (tgt := 32) dX11_line_22 (by decide) (fun hc => ?_) (fun hc => ?_)
    · have h := h.1 hc
      refine gd_aload_n 0 dX11_line_32 rfl rfl ?_
      refine gd_ldcS (i := 6) (by decide) kX11_247 dX11_line_33 ?_
      refine gd_callVI (As := [zR 100 6]) (rest := []) (dy := 7) (my := 0) (sy := 0) (k := 11) (i := 0) lX11_135 iX11_isHere sX11_isHere rfl dX11_line_35 rfl rfl (gd_room (by omega) (by decide)) (by decide) (Nat.le_of_ble_eq_true rfl) h (fun r6 v5 h => ?_)
      refine gd_if_eq (tgt := 48) dX11_line_38 (by decide) (fun hc => ?_) (fun hc => ?_)
      · have h := h.1 hc
        refine gd_aload_n 0 dX11_line_48 rfl rfl ?_
        refine gd_ldcS (i := 2) (by decide) kX11_252 dX11_line_49 ?_
        refine gd_iconst (x9 := 4) dX11_line_51 (by decide) ?_
        refine gd_iconst (x9 := 0) dX11_line_52 (by decide) ?_
        refine gd_sipush (x9 := 999) dX11_line_53 (by decide) ?_
        refine gd_callVI (As := [zR 100 2, zI 4, zI 0, zI 999]) (rest := []) (dy := 8) (my := 0) (sy := 0) (k := 11) (i := 0) lX11_254 iX11_isOnce sX11_isOnce rfl dX11_line_56 rfl rfl (gd_room (by omega) (by decide)) (by decide) (Nat.le_of_ble_eq_true rfl) h (fun r8 v7 h => ?_)
        refine gd_if_ne (tgt := 115) dX11_line_59 (by decide) (fun hc => ?_) (fun hc => ?_)
        · have h := h.1 hc
          exact w_X11_line_115 (by omega) h
        · have h := h.2 hc
          refine gd_aload_n 0 dX11_line_62 rfl rfl ?_
          refine gd_ldc_wS (i := 3) (by decide) kX11_258 dX11_line_63 ?_
          refine gd_iconst (x9 := 5) dX11_line_66 (by decide) ?_
          refine gd_iconst (x9 := 1) dX11_line_67 (by decide) ?_
          refine gd_bipush (x9 := 100) dX11_line_68 (by decide) ?_
          refine gd_callVI (As := [zR 100 3, zI 5, zI 1, zI 100]) (rest := []) (dy := 8) (my := 0) (sy := 0) (k := 11) (i := 0) lX11_254 iX11_isOnce sX11_isOnce rfl dX11_line_70 rfl rfl (gd_room (by omega) (by decide)) (by decide) (Nat.le_of_ble_eq_true rfl) h (fun r10 v9 h => ?_)
          refine gd_if_ne (tgt := 115) dX11_line_73 (by decide) (fun hc => ?_) (fun hc => ?_)
          · have h := h.1 hc
            exact w_X11_line_115 (by omega) h
          · have h := h.2 hc
            refine gd_aload_n 0 dX11_line_76 rfl rfl ?_
            refine gd_ldc_wS (i := 4) (by decide) kX11_260 dX11_line_77 ?_
            refine gd_bipush (x9 := 6) dX11_line_80 (by decide) ?_
            refine gd_iconst (x9 := 0) dX11_line_82 (by decide) ?_
            refine gd_bipush (x9 := 30) dX11_line_83 (by decide) ?_
            refine gd_callVI (As := [zR 100 4, zI 6, zI 0, zI 30]) (rest := []) (dy := 8) (my := 0) (sy := 0) (k := 11) (i := 0) lX11_254 iX11_isOnce sX11_isOnce rfl dX11_line_85 rfl rfl (gd_room (by omega) (by decide)) (by decide) (Nat.le_of_ble_eq_true rfl) h (fun r12 v11 h => ?_)
            refine gd_if_ne (tgt := 115) dX11_line_88 (by decide) (fun hc => ?_) (fun hc => ?_)
            · have h := h.1 hc
              exact w_X11_line_115 (by omega) h
            · have h := h.2 hc
              refine gd_aload_n 0 dX11_line_91 rfl rfl ?_
              refine gd_ldc_wS (i := 5) (by decide) kX11_262 dX11_line_92 ?_
              refine gd_iconst (x9 := 3) dX11_line_95 (by decide) ?_
              refine gd_iconst (x9 := 1) dX11_line_96 (by decide) ?_
              refine gd_sipush (x9 := 10000) dX11_line_97 (by decide) ?_
              refine gd_callVI (As := [zR 100 5, zI 3, zI 1, zI 10000]) (rest := []) (dy := 8) (my := 0) (sy := 0) (k := 11) (i := 0) lX11_254 iX11_isOnce sX11_isOnce rfl dX11_line_100 rfl rfl (gd_room (by omega) (by decide)) (by decide) (Nat.le_of_ble_eq_true rfl) h (fun r14 v13 h => ?_)
              refine gd_if_ne (tgt := 115) dX11_line_103 (by decide) (fun hc => ?_) (fun hc => ?_)
              · have h := h.1 hc
                exact w_X11_line_115 (by omega) h
              · have h := h.2 hc
                refine gd_aload_n 0 dX11_line_106 rfl rfl ?_
                refine gd_iconst (x9 := 1) dX11_line_107 (by decide) ?_
                refine gd_aload_n 0 dX11_line_108 rfl rfl ?_
                refine gd_getI fX11_112 rfl dX11_line_109 ?_
                refine gd_callVV (As := [zI 1, zI (v13.1 11 0 11)]) (rest := []) (dy := 2) (my := 0) (sy := 0) (k := 11) (i := 0) lX11_142 iX11_wrong sX11_wrong rfl dX11_line_112 rfl rfl (gd_room (by omega) (by decide)) (by decide) (Nat.le_of_ble_eq_true rfl) h (fun v15 h => ?_)
                exact w_X11_line_115 (by omega) h
      · have h := h.2 hc
        refine gd_aload_n 0 dX11_line_41 rfl rfl ?_
        refine gd_callVV (As := []) (rest := []) (dy := 41) (my := 0) (sy := 0) (k := 11) (i := 0) lX11_249 iX11_ruleRead sX11_ruleRead rfl dX11_line_42 rfl rfl (gd_room (by omega) (by decide)) (by decide) (Nat.le_of_ble_eq_true rfl) h (fun v17 h => ?_)
        refine gd_goto (tgt := 115) dX11_line_45 (by decide) ?_
        exact w_X11_line_115 (by omega) h
    · have h := h.2 hc
      refine gd_aload_n 0 dX11_line_25 rfl rfl ?_
      refine gd_callVV (As := []) (rest := []) (dy := 4) (my := 0) (sy := 0) (k := 11) (i := 0) lX11_244 iX11_saleRead sX11_saleRead rfl dX11_line_26 rfl rfl (gd_room (by omega) (by decide)) (by decide) (Nat.le_of_ble_eq_true rfl) h (fun v19 h => ?_)
      refine gd_goto (tgt := 115) dX11_line_29 (by decide) ?_
      exact w_X11_line_115 (by omega) h
  · have h := h.2 hc
    refine gd_aload_n 0 dX11_line_9 rfl rfl ?_
    refine gd_callVV (As := []) (rest := []) (dy := 4) (my := 0) (sy := 0) (k := 11) (i := 0) lX11_239 iX11_dealerRead sX11_dealerRead rfl dX11_line_10 rfl rfl (gd_room (by omega) (by decide)) (by decide) (Nat.le_of_ble_eq_true rfl) h (fun v21 h => ?_)
    refine gd_goto (tgt := 115) dX11_line_13 (by decide) ?_
    exact w_X11_line_115 (by omega) h
theorem c_X11_line {g : ab_E} {d : Nat} {v : gd_D} {Q : ab_O → gd_D → Prop} (hd : 42 ≤ d) (h : wp_X11_line g d v Q) : gd_C g mX11_line d 0 0 [zR 11 0] v Q := gd_enterF (plainFor_of_name (by decide)) (Nat.le_of_ble_eq_true rfl) rfl (w_X11_line hd h)
def wp_X11_plain (g : ab_E) (d : Nat) (a1 : Int32) (a2 : Int64) (v : gd_D) (Q : ab_O → gd_D → Prop) : Prop :=
  vp_in a1 773 ∧
  ((¬ (v.2.1 41 0 (a1 : Int32).toNatClampNeg : Int64) = (-1)) →
    Q (Sum.inl none) v) ∧
  (((v.2.1 41 0 (a1 : Int32).toNatClampNeg : Int64) = (-1)) →
    vp_in a1 773 ∧
    ∀ v1 : gd_D, v1 = gd_sJ v 41 0 ((a1 : Int32).toNatClampNeg) a2 →
    Q (Sum.inl none) v1)
theorem w_X11_plain {g : ab_E} {d : Nat} {a1 : Int32} {a2 : Int64} {v : gd_D} {Q : ab_O → gd_D → Prop} (hd : 0 ≤ d) (h : wp_X11_plain g d a1 a2 v Q) : gd_G g mX11_plain d 0 0 0 [(0, zR 11 0), (1, zI a1), (2, zJ a2)] [] v Q := by
  unfold wp_X11_plain at h
  refine gd_aload_n 0 dX11_plain_0 rfl rfl ?_
  refine gd_getR (x := 0) (kr := 41) fX11_21 rfl rfl dX11_plain_1 rfl ?_
  refine gd_iload_n 1 dX11_plain_4 rfl rfl ?_
  obtain ⟨hb, h⟩ := h
  refine gd_laload (n := 773) (by decide) rfl dX11_plain_5 rfl hb ?_
  refine gd_ldc2 kX11_225 dX11_plain_6 ?_
  refine gd_lc_ne (tgt := 20) dX11_plain_9 dX11_plain_10 (by decide) (fun hc => ?_) (fun hc => ?_)
  · have h := h.1 hc
    exact gd_vret dX11_plain_20 rfl h
  · have h := h.2 hc
    refine gd_aload_n 0 dX11_plain_13 rfl rfl ?_
    refine gd_getR (x := 0) (kr := 41) fX11_21 rfl rfl dX11_plain_14 rfl ?_
    refine gd_iload_n 1 dX11_plain_17 rfl rfl ?_
    refine gd_lload_n 2 dX11_plain_18 rfl rfl ?_
    obtain ⟨hb, h⟩ := h
    refine gd_lastoren (n := 773) (by decide) rfl rfl dX11_plain_19 rfl hb (fun v1 ev1 => ?_)
    have h := h v1 ev1
    exact gd_vret dX11_plain_20 rfl h
theorem c_X11_plain {g : ab_E} {d : Nat} {a1 : Int32} {a2 : Int64} {v : gd_D} {Q : ab_O → gd_D → Prop} (hd : 0 ≤ d) (h : wp_X11_plain g d a1 a2 v Q) : gd_C g mX11_plain d 0 0 [zR 11 0, zI a1, zJ a2] v Q := gd_enterF (plainFor_of_name (by decide)) (Nat.le_of_ble_eq_true rfl) rfl (w_X11_plain hd h)
def wp_X11_text (g : ab_E) (d : Nat) (a1 : Int32) (v : gd_D) (Q : ab_O → gd_D → Prop) : Prop :=
  ∀ v1 : gd_D, v1 = gd_sI v 11 0 0 0 →
  gd_C g mX11_lies 2 0 0 [zJ ((a1 : Int32).toInt64), zJ 0, zJ ((v1.1 11 0 9 : Int32).toInt64)] v1 (gd_rI (fun (r3 : Int32) v2 =>
    gd_C g mX11_isFine 2 0 0 [zR 11 0, zI r3, zI 1, zI 1] v2 (gd_rI (fun (r5 : Int32) v4 =>
      ((¬ (r5 : Int32) = 0) →
        gd_G g mX11_text d 0 0 29 [(0, zR 11 0), (1, zI a1), (2, zI 0)] [] v4 Q) ∧
      (((r5 : Int32) = 0) →
        Q (Sum.inl (some (zI 0))) v4)) (fun E v9 => Q (Sum.inr E) v9))) (fun E v9 => Q (Sum.inr E) v9))
theorem w_X11_text {g : ab_E} {d : Nat} {a1 : Int32} {v : gd_D} {Q : ab_O → gd_D → Prop} (hd : 3 ≤ d) (h : wp_X11_text g d a1 v Q) : gd_G g mX11_text d 0 0 0 [(0, zR 11 0), (1, zI a1)] [] v Q := by
  unfold wp_X11_text at h
  refine gd_aload_n 0 dX11_text_0 rfl rfl ?_
  refine gd_iconst (x9 := 0) dX11_text_1 (by decide) ?_
  refine gd_putIn fX11_1 rfl rfl dX11_text_2 (fun v1 ev1 => ?_)
  have h := h v1 ev1
  refine gd_aload_n 0 dX11_text_5 rfl rfl ?_
  refine gd_iload_n 1 dX11_text_6 rfl rfl ?_
  refine gd_i2l dX11_text_7 ?_
  refine gd_lconst (x9 := 0) dX11_text_8 (by decide) ?_
  refine gd_aload_n 0 dX11_text_9 rfl rfl ?_
  refine gd_getI fX11_99 rfl dX11_text_10 ?_
  refine gd_i2l dX11_text_13 ?_
  refine gd_callSI (As := [zJ ((a1 : Int32).toInt64), zJ 0, zJ ((v1.1 11 0 9 : Int32).toInt64)]) (rest := [zR 11 0]) (dy := 2) (my := 0) (sy := 0) lX11_164 tX11_lies dX11_text_14 rfl rfl (gd_room (by omega) (by decide)) (by decide) (Nat.le_of_ble_eq_true rfl) h (fun r3 v2 h => ?_)
  refine gd_iconst (x9 := 1) dX11_text_17 (by decide) ?_
  refine gd_iconst (x9 := 1) dX11_text_18 (by decide) ?_
  refine gd_callVI (As := [zI r3, zI 1, zI 1]) (rest := []) (dy := 2) (my := 0) (sy := 0) (k := 11) (i := 0) lX11_264 iX11_isFine sX11_isFine rfl dX11_text_19 rfl rfl (gd_room (by omega) (by decide)) (by decide) (Nat.le_of_ble_eq_true rfl) h (fun r5 v4 h => ?_)
  refine gd_if_ne (tgt := 27) dX11_text_22 (by decide) (fun hc => ?_) (fun hc => ?_)
  · have h := h.1 hc
    refine gd_iconst (x9 := 0) dX11_text_27 (by decide) ?_
    refine gd_istore_n (L' := [(2, zI 0), (0, zR 11 0), (1, zI a1)]) dX11_text_28 rfl (by decide) rfl ?_
    refine gd_locals [1, 2, 0] rfl ?_
    exact h
  · have h := h.2 hc
    refine gd_iconst (x9 := 0) dX11_text_25 (by decide) ?_
    exact gd_iret (ty := .int) dX11_text_26 rfl rfl h
def wp_X11_text_29 (g : ab_E) (d : Nat) (a1 : Int32) (a2 : Int32) (v : gd_D) (Q : ab_O → gd_D → Prop) : Prop :=
  (((a1 : Int32) ≤ a2) →
    ∀ v1 : gd_D, v1 = gd_sI v 11 0 9 0 →
    ∀ v2 : gd_D, v2 = gd_sI v1 11 0 10 a1 →
    ∀ v3 : gd_D, v3 = gd_sI v2 11 0 11 0 →
    ∀ v4 : gd_D, v4 = gd_sI v3 11 0 13 0 →
    gd_G g mX11_text d 0 0 74 [(0, zR 11 0), (2, zI 0)] [] v4 Q) ∧
  ((¬ (a1 : Int32) ≤ a2) →
    vp_in a2 500 ∧
    vp_in a2 500 ∧
    ∀ v5 : gd_D, v5 = gd_sI v 45 0 ((a2 : Int32).toNatClampNeg) (v.1 44 0 (a2 : Int32).toNatClampNeg : Int32).toInt8.toInt32 →
    gd_G g mX11_text d 0 0 29 [(0, zR 11 0), (1, zI a1), (2, zI (a2 + 1))] [] v5 Q)
theorem w_X11_text_29 {g : ab_E} {d : Nat} {a1 : Int32} {a2 : Int32} {v : gd_D} {Q : ab_O → gd_D → Prop} (hd : 0 ≤ d) (h : wp_X11_text_29 g d a1 a2 v Q) : gd_G g mX11_text d 0 0 29 [(0, zR 11 0), (1, zI a1), (2, zI a2)] [] v Q := by
  unfold wp_X11_text_29 at h
  refine gd_iload_n 2 dX11_text_29 rfl rfl ?_
  refine gd_iload_n 1 dX11_text_30 rfl rfl ?_
  refine gd_icmp_ge (tgt := 52) dX11_text_31 (by decide) (fun hc => ?_) (fun hc => ?_)
  · have h := h.1 hc
    refine gd_aload_n 0 dX11_text_52 rfl rfl ?_
    refine gd_iconst (x9 := 0) dX11_text_53 (by decide) ?_
    refine gd_putIn fX11_99 rfl rfl dX11_text_54 (fun v1 ev1 => ?_)
    have h := h v1 ev1
    refine gd_aload_n 0 dX11_text_57 rfl rfl ?_
    refine gd_iload_n 1 dX11_text_58 rfl rfl ?_
    refine gd_putIn fX11_115 rfl rfl dX11_text_59 (fun v2 ev2 => ?_)
    have h := h v2 ev2
    refine gd_aload_n 0 dX11_text_62 rfl rfl ?_
    refine gd_iconst (x9 := 0) dX11_text_63 (by decide) ?_
    refine gd_putIn fX11_112 rfl rfl dX11_text_64 (fun v3 ev3 => ?_)
    have h := h v3 ev3
    refine gd_aload_n 0 dX11_text_67 rfl rfl ?_
    refine gd_iconst (x9 := 0) dX11_text_68 (by decide) ?_
    refine gd_putIn fX11_106 rfl rfl dX11_text_69 (fun v4 ev4 => ?_)
    have h := h v4 ev4
    refine gd_iconst (x9 := 0) dX11_text_72 (by decide) ?_
    refine gd_istore_n (L' := [(2, zI 0), (0, zR 11 0), (1, zI a1)]) dX11_text_73 rfl (by decide) rfl ?_
    refine gd_locals [1, 0] rfl ?_
    exact h
  · have h := h.2 hc
    refine gd_aload_n 0 dX11_text_34 rfl rfl ?_
    refine gd_getR (x := 0) (kr := 45) fX11_34 rfl rfl dX11_text_35 rfl ?_
    refine gd_iload_n 2 dX11_text_38 rfl rfl ?_
    refine gd_aload_n 0 dX11_text_39 rfl rfl ?_
    refine gd_getR (x := 0) (kr := 44) fX11_30 rfl rfl dX11_text_40 rfl ?_
    refine gd_iload_n 2 dX11_text_43 rfl rfl ?_
    obtain ⟨hb, h⟩ := h
    refine gd_baload (n := 500) (by decide) rfl dX11_text_44 rfl hb ?_
    obtain ⟨hb, h⟩ := h
    refine gd_bastoren (n := 500) (by decide) rfl rfl dX11_text_45 rfl hb (fun v5 ev5 => ?_)
    have h := h v5 ev5
    refine gd_iinc (x9 := a2 + 1) (L' := [(2, zI (a2 + 1)), (0, zR 11 0), (1, zI a1)]) 2 dX11_text_46 rfl rfl (by decide) rfl ?_
    refine gd_goto (tgt := 29) dX11_text_49 (by decide) ?_
    refine gd_locals [1, 2, 0] rfl ?_
    exact h
def wp_X11_text_104 (g : ab_E) (d : Nat) (a2 : Int32) (s1 : Int32) (s2 : Int64) (v : gd_D) (Q : ab_O → gd_D → Prop) : Prop :=
  vp_in s1 773 ∧
  ∀ v1 : gd_D, v1 = gd_sJ v 41 0 ((s1 : Int32).toNatClampNeg) s2 →
  gd_G g mX11_text d 0 0 74 [(0, zR 11 0), (2, zI (a2 + 1))] [] v1 Q
theorem w_X11_text_104 {g : ab_E} {d : Nat} {a2 : Int32} {s1 : Int32} {s2 : Int64} {v : gd_D} {Q : ab_O → gd_D → Prop} (hd : 0 ≤ d) (h : wp_X11_text_104 g d a2 s1 s2 v Q) : gd_G g mX11_text d 0 0 104 [(0, zR 11 0), (2, zI a2)] [zJ s2, zI s1, zR 41 0] v Q := by
  unfold wp_X11_text_104 at h
  obtain ⟨hb, h⟩ := h
  refine gd_lastoren (n := 773) (by decide) rfl rfl dX11_text_104 rfl hb (fun v1 ev1 => ?_)
  have h := h v1 ev1
  refine gd_iinc (x9 := a2 + 1) (L' := [(2, zI (a2 + 1)), (0, zR 11 0)]) 1 dX11_text_105 rfl rfl (by decide) rfl ?_
  refine gd_goto (tgt := 74) dX11_text_108 (by decide) ?_
  refine gd_locals [1, 0] rfl ?_
  exact h
def wp_X11_text_103 (g : ab_E) (d : Nat) (a2 : Int32) (s1 : Int32) (v : gd_D) (Q : ab_O → gd_D → Prop) : Prop :=
  wp_X11_text_104 g d a2 s1 0 v Q
theorem w_X11_text_103 {g : ab_E} {d : Nat} {a2 : Int32} {s1 : Int32} {v : gd_D} {Q : ab_O → gd_D → Prop} (hd : 0 ≤ d) (h : wp_X11_text_103 g d a2 s1 v Q) : gd_G g mX11_text d 0 0 103 [(0, zR 11 0), (2, zI a2)] [zI s1, zR 41 0] v Q := by
  unfold wp_X11_text_103 at h
  refine gd_lconst (x9 := 0) dX11_text_103 (by decide) ?_
  exact w_X11_text_104 (by omega) h
def wp_X11_text_74 (g : ab_E) (d : Nat) (a2 : Int32) (v : gd_D) (Q : ab_O → gd_D → Prop) : Prop :=
  (((773 : Int32) ≤ a2) →
    gd_G g mX11_text d 0 0 111 [(0, zR 11 0)] [] v Q) ∧
  ((¬ (773 : Int32) ≤ a2) →
    (((a2 : Int32) < 3) →
      wp_X11_text_103 g d a2 a2 v Q) ∧
    ((¬ (a2 : Int32) < 3) →
      (((6 : Int32) < a2) →
        wp_X11_text_103 g d a2 a2 v Q) ∧
      ((¬ (6 : Int32) < a2) →
        wp_X11_text_104 g d a2 a2 (-1) v Q)))
theorem w_X11_text_74 {g : ab_E} {d : Nat} {a2 : Int32} {v : gd_D} {Q : ab_O → gd_D → Prop} (hd : 0 ≤ d) (h : wp_X11_text_74 g d a2 v Q) : gd_G g mX11_text d 0 0 74 [(0, zR 11 0), (2, zI a2)] [] v Q := by
  unfold wp_X11_text_74 at h
  refine gd_iload_n 1 dX11_text_74 rfl rfl ?_
  refine gd_sipush (x9 := 773) dX11_text_75 (by decide) ?_
  refine gd_icmp_ge (tgt := 111) dX11_text_78 (by decide) (fun hc => ?_) (fun hc => ?_)
  · have h := h.1 hc
    refine gd_locals [0] rfl ?_
    exact h
  · have h := h.2 hc
    refine gd_aload_n 0 dX11_text_81 rfl rfl ?_
    refine gd_getR (x := 0) (kr := 41) fX11_21 rfl rfl dX11_text_82 rfl ?_
    refine gd_iload_n 1 dX11_text_85 rfl rfl ?_
    refine gd_iload_n 1 dX11_text_86 rfl rfl ?_
    refine gd_iconst (x9 := 3) dX11_text_87 (by decide) ?_
    refine gd_icmp_lt (tgt := 103) dX11_text_88 (by decide) (fun hc => ?_) (fun hc => ?_)
    · have h := h.1 hc
      exact w_X11_text_103 (by omega) h
    · have h := h.2 hc
      refine gd_iload_n 1 dX11_text_91 rfl rfl ?_
      refine gd_bipush (x9 := 6) dX11_text_92 (by decide) ?_
      refine gd_icmp_gt (tgt := 103) dX11_text_94 (by decide) (fun hc => ?_) (fun hc => ?_)
      · have h := h.1 hc
        exact w_X11_text_103 (by omega) h
      · have h := h.2 hc
        refine gd_ldc2 kX11_225 dX11_text_97 ?_
        refine gd_goto (tgt := 104) dX11_text_100 (by decide) ?_
        exact w_X11_text_104 (by omega) h
def wp_X11_text_136 (g : ab_E) (d : Nat) (v : gd_D) (Q : ab_O → gd_D → Prop) : Prop :=
  gd_C g mX11_line 42 0 0 [zR 11 0] v (gd_rV (fun v1 =>
    gd_G g mX11_text d 0 0 111 [(0, zR 11 0)] [] v1 Q) (fun E v9 => Q (Sum.inr E) v9))
theorem w_X11_text_136 {g : ab_E} {d : Nat} {v : gd_D} {Q : ab_O → gd_D → Prop} (hd : 43 ≤ d) (h : wp_X11_text_136 g d v Q) : gd_G g mX11_text d 0 0 136 [(0, zR 11 0)] [] v Q := by
  unfold wp_X11_text_136 at h
  refine gd_aload_n 0 dX11_text_136 rfl rfl ?_
  refine gd_callVV (As := []) (rest := []) (dy := 42) (my := 0) (sy := 0) (k := 11) (i := 0) lX11_268 iX11_line sX11_line rfl dX11_text_137 rfl rfl (gd_room (by omega) (by decide)) (by decide) (Nat.le_of_ble_eq_true rfl) h (fun v1 h => ?_)
  refine gd_goto (tgt := 111) dX11_text_140 (by decide) ?_
  exact h
def wp_X11_text_159 (g : ab_E) (d : Nat) (s1 : Int32) (v : gd_D) (Q : ab_O → gd_D → Prop) : Prop :=
  ∀ v1 : gd_D, v1 = gd_sI v 11 0 15 s1 →
  (((v1.1 11 0 13 : Int32) ≤ 0) →
    gd_C g mX11_plain 2 0 0 [zR 11 0, zI 3, zJ 100] v1 (gd_rV (fun v2 =>
      gd_C g mX11_plain 2 0 0 [zR 11 0, zI 4, zJ 0] v2 (gd_rV (fun v4 =>
        gd_C g mX11_plain 2 0 0 [zR 11 0, zI 5, zJ 1] v4 (gd_rV (fun v6 =>
          gd_C g mX11_plain 2 0 0 [zR 11 0, zI 6, zJ 4] v6 (gd_rV (fun v8 =>
            gd_C g mX11_keeps 2 0 0 [zR 11 0] v8 (gd_rV (fun v10 =>
              gd_G g mX11_text d 0 0 212 [(0, zR 11 0), (2, zI 0)] [] v10 Q) (fun E v9 => Q (Sum.inr E) v9))) (fun E v9 => Q (Sum.inr E) v9))) (fun E v9 => Q (Sum.inr E) v9))) (fun E v9 => Q (Sum.inr E) v9))) (fun E v9 => Q (Sum.inr E) v9))) ∧
  ((¬ (v1.1 11 0 13 : Int32) ≤ 0) →
    Q (Sum.inl (some (zI ((v1.1 11 0 13) - 10)))) v1)
theorem w_X11_text_159 {g : ab_E} {d : Nat} {s1 : Int32} {v : gd_D} {Q : ab_O → gd_D → Prop} (hd : 3 ≤ d) (h : wp_X11_text_159 g d s1 v Q) : gd_G g mX11_text d 0 0 159 [(0, zR 11 0)] [zI s1, zR 11 0] v Q := by
  unfold wp_X11_text_159 at h
  refine gd_putIn fX11_37 rfl rfl dX11_text_159 (fun v1 ev1 => ?_)
  have h := h v1 ev1
  refine gd_aload_n 0 dX11_text_162 rfl rfl ?_
  refine gd_getI fX11_106 rfl dX11_text_163 ?_
  refine gd_if_le (tgt := 177) dX11_text_166 (by decide) (fun hc => ?_) (fun hc => ?_)
  · have h := h.1 hc
    refine gd_aload_n 0 dX11_text_177 rfl rfl ?_
    refine gd_iconst (x9 := 3) dX11_text_178 (by decide) ?_
    refine gd_ldc2 kX11_92 dX11_text_179 ?_
    refine gd_callVV (As := [zI 3, zJ 100]) (rest := []) (dy := 2) (my := 0) (sy := 0) (k := 11) (i := 0) lX11_271 iX11_plain sX11_plain rfl dX11_text_182 rfl rfl (gd_room (by omega) (by decide)) (by decide) (Nat.le_of_ble_eq_true rfl) h (fun v2 h => ?_)
    refine gd_aload_n 0 dX11_text_185 rfl rfl ?_
    refine gd_iconst (x9 := 4) dX11_text_186 (by decide) ?_
    refine gd_lconst (x9 := 0) dX11_text_187 (by decide) ?_
    refine gd_callVV (As := [zI 4, zJ 0]) (rest := []) (dy := 2) (my := 0) (sy := 0) (k := 11) (i := 0) lX11_271 iX11_plain sX11_plain rfl dX11_text_188 rfl rfl (gd_room (by omega) (by decide)) (by decide) (Nat.le_of_ble_eq_true rfl) h (fun v4 h => ?_)
    refine gd_aload_n 0 dX11_text_191 rfl rfl ?_
    refine gd_iconst (x9 := 5) dX11_text_192 (by decide) ?_
    refine gd_lconst (x9 := 1) dX11_text_193 (by decide) ?_
    refine gd_callVV (As := [zI 5, zJ 1]) (rest := []) (dy := 2) (my := 0) (sy := 0) (k := 11) (i := 0) lX11_271 iX11_plain sX11_plain rfl dX11_text_194 rfl rfl (gd_room (by omega) (by decide)) (by decide) (Nat.le_of_ble_eq_true rfl) h (fun v6 h => ?_)
    refine gd_aload_n 0 dX11_text_197 rfl rfl ?_
    refine gd_bipush (x9 := 6) dX11_text_198 (by decide) ?_
    refine gd_ldc2 kX11_94 dX11_text_200 ?_
    refine gd_callVV (As := [zI 6, zJ 4]) (rest := []) (dy := 2) (my := 0) (sy := 0) (k := 11) (i := 0) lX11_271 iX11_plain sX11_plain rfl dX11_text_203 rfl rfl (gd_room (by omega) (by decide)) (by decide) (Nat.le_of_ble_eq_true rfl) h (fun v8 h => ?_)
    refine gd_aload_n 0 dX11_text_206 rfl rfl ?_
    refine gd_callVV (As := []) (rest := []) (dy := 2) (my := 0) (sy := 0) (k := 11) (i := 0) lX11_275 iX11_keeps sX11_keeps rfl dX11_text_207 rfl rfl (gd_room (by omega) (by decide)) (by decide) (Nat.le_of_ble_eq_true rfl) h (fun v10 h => ?_)
    refine gd_iconst (x9 := 0) dX11_text_210 (by decide) ?_
    refine gd_istore_n (L' := [(2, zI 0), (0, zR 11 0)]) dX11_text_211 rfl (by decide) rfl ?_
    refine gd_locals [1, 0] rfl ?_
    exact h
  · have h := h.2 hc
    refine gd_aload_n 0 dX11_text_169 rfl rfl ?_
    refine gd_getI fX11_106 rfl dX11_text_170 ?_
    refine gd_bipush (x9 := 10) dX11_text_173 (by decide) ?_
    refine gd_isub dX11_text_175 ?_
    exact gd_iret (ty := .int) dX11_text_176 rfl rfl h
def wp_X11_text_143 (g : ab_E) (d : Nat) (v : gd_D) (Q : ab_O → gd_D → Prop) : Prop :=
  (((v.1 11 0 13 : Int32) ≤ 0) →
    wp_X11_text_159 g d (-1) v Q) ∧
  ((¬ (v.1 11 0 13 : Int32) ≤ 0) →
    wp_X11_text_159 g d (v.1 11 0 14) v Q)
theorem w_X11_text_143 {g : ab_E} {d : Nat} {v : gd_D} {Q : ab_O → gd_D → Prop} (hd : 3 ≤ d) (h : wp_X11_text_143 g d v Q) : gd_G g mX11_text d 0 0 143 [(0, zR 11 0)] [] v Q := by
  unfold wp_X11_text_143 at h
  refine gd_aload_n 0 dX11_text_143 rfl rfl ?_
  refine gd_aload_n 0 dX11_text_144 rfl rfl ?_
  refine gd_getI fX11_106 rfl dX11_text_145 ?_
  refine gd_if_le (tgt := 158) dX11_text_148 (by decide) (fun hc => ?_) (fun hc => ?_)
  · have h := h.1 hc
    refine gd_iconst (x9 := (-1)) dX11_text_158 (by decide) ?_
    exact w_X11_text_159 (by omega) h
  · have h := h.2 hc
    refine gd_aload_n 0 dX11_text_151 rfl rfl ?_
    refine gd_getI fX11_109 rfl dX11_text_152 ?_
    refine gd_goto (tgt := 159) dX11_text_155 (by decide) ?_
    exact w_X11_text_159 (by omega) h
def wp_X11_text_111 (g : ab_E) (d : Nat) (v : gd_D) (Q : ab_O → gd_D → Prop) : Prop :=
  ((¬ (v.1 11 0 13 : Int32) = 0) →
    wp_X11_text_143 g d v Q) ∧
  (((v.1 11 0 13 : Int32) = 0) →
    gd_C g mX11_sign 2 0 0 [zR 11 0] v (gd_rI (fun (r2 : Int32) v1 =>
      ((¬ (r2 : Int32) = 0) →
        wp_X11_text_136 g d v1 Q) ∧
      (((r2 : Int32) = 0) →
        (((v1.1 11 0 10 : Int32) ≤ (v1.1 11 0 11)) →
          wp_X11_text_143 g d v1 Q) ∧
        ((¬ (v1.1 11 0 10 : Int32) ≤ (v1.1 11 0 11)) →
          wp_X11_text_136 g d v1 Q))) (fun E v9 => Q (Sum.inr E) v9)))
theorem w_X11_text_111 {g : ab_E} {d : Nat} {v : gd_D} {Q : ab_O → gd_D → Prop} (hd : 43 ≤ d) (h : wp_X11_text_111 g d v Q) : gd_G g mX11_text d 0 0 111 [(0, zR 11 0)] [] v Q := by
  unfold wp_X11_text_111 at h
  refine gd_aload_n 0 dX11_text_111 rfl rfl ?_
  refine gd_getI fX11_106 rfl dX11_text_112 ?_
  refine gd_if_ne (tgt := 143) dX11_text_115 (by decide) (fun hc => ?_) (fun hc => ?_)
  · have h := h.1 hc
    exact w_X11_text_143 (by omega) h
  · have h := h.2 hc
    refine gd_aload_n 0 dX11_text_118 rfl rfl ?_
    refine gd_callVI (As := []) (rest := []) (dy := 2) (my := 0) (sy := 0) (k := 11) (i := 0) lX11_118 iX11_sign sX11_sign rfl dX11_text_119 rfl rfl (gd_room (by omega) (by decide)) (by decide) (Nat.le_of_ble_eq_true rfl) h (fun r2 v1 h => ?_)
    refine gd_if_ne (tgt := 136) dX11_text_122 (by decide) (fun hc => ?_) (fun hc => ?_)
    · have h := h.1 hc
      exact w_X11_text_136 (by omega) h
    · have h := h.2 hc
      refine gd_aload_n 0 dX11_text_125 rfl rfl ?_
      refine gd_getI fX11_112 rfl dX11_text_126 ?_
      refine gd_aload_n 0 dX11_text_129 rfl rfl ?_
      refine gd_getI fX11_115 rfl dX11_text_130 ?_
      refine gd_icmp_ge (tgt := 143) dX11_text_133 (by decide) (fun hc => ?_) (fun hc => ?_)
      · have h := h.1 hc
        exact w_X11_text_143 (by omega) h
      · have h := h.2 hc
        exact w_X11_text_136 (by omega) h
def wp_X11_text_212 (g : ab_E) (d : Nat) (a2 : Int32) (v : gd_D) (Q : ab_O → gd_D → Prop) : Prop :=
  (((773 : Int32) ≤ a2) →
    gd_C g mX11_sales 2 0 0 [zR 11 0] v (gd_rI (fun (r2 : Int32) v1 =>
      Q (Sum.inl (some (zI r2))) v1) (fun E v9 => Q (Sum.inr E) v9))) ∧
  ((¬ (773 : Int32) ≤ a2) →
    vp_in a2 773 ∧
    vp_in a2 773 ∧
    ∀ v3 : gd_D, v3 = gd_sJ v 40 0 ((a2 : Int32).toNatClampNeg) (v.2.1 41 0 (a2 : Int32).toNatClampNeg) →
    gd_G g mX11_text d 0 0 212 [(0, zR 11 0), (2, zI (a2 + 1))] [] v3 Q)
theorem w_X11_text_212 {g : ab_E} {d : Nat} {a2 : Int32} {v : gd_D} {Q : ab_O → gd_D → Prop} (hd : 3 ≤ d) (h : wp_X11_text_212 g d a2 v Q) : gd_G g mX11_text d 0 0 212 [(0, zR 11 0), (2, zI a2)] [] v Q := by
  unfold wp_X11_text_212 at h
  refine gd_iload_n 1 dX11_text_212 rfl rfl ?_
  refine gd_sipush (x9 := 773) dX11_text_213 (by decide) ?_
  refine gd_icmp_ge (tgt := 237) dX11_text_216 (by decide) (fun hc => ?_) (fun hc => ?_)
  · have h := h.1 hc
    refine gd_aload_n 0 dX11_text_237 rfl rfl ?_
    refine gd_callVI (As := []) (rest := []) (dy := 2) (my := 0) (sy := 0) (k := 11) (i := 0) lX11_278 iX11_sales sX11_sales rfl dX11_text_238 rfl rfl (gd_room (by omega) (by decide)) (by decide) (Nat.le_of_ble_eq_true rfl) h (fun r2 v1 h => ?_)
    exact gd_iret (ty := .int) dX11_text_241 rfl rfl h
  · have h := h.2 hc
    refine gd_aload_n 0 dX11_text_219 rfl rfl ?_
    refine gd_getR (x := 0) (kr := 40) fX11_17 rfl rfl dX11_text_220 rfl ?_
    refine gd_iload_n 1 dX11_text_223 rfl rfl ?_
    refine gd_aload_n 0 dX11_text_224 rfl rfl ?_
    refine gd_getR (x := 0) (kr := 41) fX11_21 rfl rfl dX11_text_225 rfl ?_
    refine gd_iload_n 1 dX11_text_228 rfl rfl ?_
    obtain ⟨hb, h⟩ := h
    refine gd_laload (n := 773) (by decide) rfl dX11_text_229 rfl hb ?_
    obtain ⟨hb, h⟩ := h
    refine gd_lastoren (n := 773) (by decide) rfl rfl dX11_text_230 rfl hb (fun v3 ev3 => ?_)
    have h := h v3 ev3
    refine gd_iinc (x9 := a2 + 1) (L' := [(2, zI (a2 + 1)), (0, zR 11 0)]) 1 dX11_text_231 rfl rfl (by decide) rfl ?_
    refine gd_goto (tgt := 212) dX11_text_234 (by decide) ?_
    refine gd_locals [1, 0] rfl ?_
    exact h
theorem c_X11_text {g : ab_E} {d : Nat} {a1 : Int32} {v : gd_D} {Q : ab_O → gd_D → Prop} (hd : 3 ≤ d) (h : wp_X11_text g d a1 v Q) : gd_C g mX11_text d 0 0 [zR 11 0, zI a1] v Q := gd_enterF (plainFor_of_name (by decide)) (Nat.le_of_ble_eq_true rfl) rfl (w_X11_text hd h)
def wp_X11_fault (g : ab_E) (d : Nat) (v : gd_D) (Q : ab_O → gd_D → Prop) : Prop :=
  ∀ v1 : gd_D, v1 = gd_sI v 11 0 0 0 →
  Q (Sum.inl (some (zI (v1.1 11 0 15)))) v1
theorem w_X11_fault {g : ab_E} {d : Nat} {v : gd_D} {Q : ab_O → gd_D → Prop} (hd : 0 ≤ d) (h : wp_X11_fault g d v Q) : gd_G g mX11_fault d 0 0 0 [(0, zR 11 0)] [] v Q := by
  unfold wp_X11_fault at h
  refine gd_aload_n 0 dX11_fault_0 rfl rfl ?_
  refine gd_iconst (x9 := 0) dX11_fault_1 (by decide) ?_
  refine gd_putIn fX11_1 rfl rfl dX11_fault_2 (fun v1 ev1 => ?_)
  have h := h v1 ev1
  refine gd_aload_n 0 dX11_fault_5 rfl rfl ?_
  refine gd_getI fX11_37 rfl dX11_fault_6 ?_
  exact gd_iret (ty := .int) dX11_fault_9 rfl rfl h
theorem c_X11_fault {g : ab_E} {d : Nat} {v : gd_D} {Q : ab_O → gd_D → Prop} (hd : 0 ≤ d) (h : wp_X11_fault g d v Q) : gd_C g mX11_fault d 0 0 [zR 11 0] v Q := gd_enterF (plainFor_of_name (by decide)) (Nat.le_of_ble_eq_true rfl) rfl (w_X11_fault hd h)
def wp_X11_isDealer (g : ab_E) (d : Nat) (a1 : Int32) (v : gd_D) (Q : ab_O → gd_D → Prop) : Prop :=
  gd_C g mX11_dealers 2 0 0 [zR 11 0] v (gd_rI (fun (r2 : Int32) v1 =>
    gd_C g mX11_lies 2 0 0 [zJ ((a1 : Int32).toInt64), zJ 0, zJ ((r2 - 1 : Int32).toInt64)] v1 (gd_rI (fun (r4 : Int32) v3 =>
      narrow .boolean (.int r4) = .int r4 ∧
      Q (Sum.inl (some (zI r4))) v3) (fun E v9 => Q (Sum.inr E) v9))) (fun E v9 => Q (Sum.inr E) v9))
theorem w_X11_isDealer {g : ab_E} {d : Nat} {a1 : Int32} {v : gd_D} {Q : ab_O → gd_D → Prop} (hd : 3 ≤ d) (h : wp_X11_isDealer g d a1 v Q) : gd_G g mX11_isDealer d 0 0 0 [(0, zR 11 0), (1, zI a1)] [] v Q := by
  unfold wp_X11_isDealer at h
  refine gd_iload_n 1 dX11_isDealer_0 rfl rfl ?_
  refine gd_i2l dX11_isDealer_1 ?_
  refine gd_lconst (x9 := 0) dX11_isDealer_2 (by decide) ?_
  refine gd_aload_n 0 dX11_isDealer_3 rfl rfl ?_
  refine gd_callVI (As := []) (rest := [zJ 0, zJ ((a1 : Int32).toInt64)]) (dy := 2) (my := 0) (sy := 0) (k := 11) (i := 0) lX11_281 iX11_dealers sX11_dealers rfl dX11_isDealer_4 rfl rfl (gd_room (by omega) (by decide)) (by decide) (Nat.le_of_ble_eq_true rfl) h (fun r2 v1 h => ?_)
  refine gd_iconst (x9 := 1) dX11_isDealer_7 (by decide) ?_
  refine gd_isub dX11_isDealer_8 ?_
  refine gd_i2l dX11_isDealer_9 ?_
  refine gd_callSI (As := [zJ ((a1 : Int32).toInt64), zJ 0, zJ ((r2 - 1 : Int32).toInt64)]) (rest := []) (dy := 2) (my := 0) (sy := 0) lX11_164 tX11_lies dX11_isDealer_10 rfl rfl (gd_room (by omega) (by decide)) (by decide) (Nat.le_of_ble_eq_true rfl) h (fun r4 v3 h => ?_)
  obtain ⟨hn, h⟩ := h
  exact gd_iret (ty := .boolean) dX11_isDealer_13 rfl hn h
theorem c_X11_isDealer {g : ab_E} {d : Nat} {a1 : Int32} {v : gd_D} {Q : ab_O → gd_D → Prop} (hd : 3 ≤ d) (h : wp_X11_isDealer g d a1 v Q) : gd_C g mX11_isDealer d 0 0 [zR 11 0, zI a1] v Q := gd_enterF (plainFor_of_name (by decide)) (Nat.le_of_ble_eq_true rfl) rfl (w_X11_isDealer hd h)
def wp_X11_isSale (g : ab_E) (d : Nat) (a1 : Int32) (v : gd_D) (Q : ab_O → gd_D → Prop) : Prop :=
  gd_C g mX11_sales 2 0 0 [zR 11 0] v (gd_rI (fun (r2 : Int32) v1 =>
    gd_C g mX11_lies 2 0 0 [zJ ((a1 : Int32).toInt64), zJ 0, zJ ((r2 - 1 : Int32).toInt64)] v1 (gd_rI (fun (r4 : Int32) v3 =>
      narrow .boolean (.int r4) = .int r4 ∧
      Q (Sum.inl (some (zI r4))) v3) (fun E v9 => Q (Sum.inr E) v9))) (fun E v9 => Q (Sum.inr E) v9))
theorem w_X11_isSale {g : ab_E} {d : Nat} {a1 : Int32} {v : gd_D} {Q : ab_O → gd_D → Prop} (hd : 3 ≤ d) (h : wp_X11_isSale g d a1 v Q) : gd_G g mX11_isSale d 0 0 0 [(0, zR 11 0), (1, zI a1)] [] v Q := by
  unfold wp_X11_isSale at h
  refine gd_iload_n 1 dX11_isSale_0 rfl rfl ?_
  refine gd_i2l dX11_isSale_1 ?_
  refine gd_lconst (x9 := 0) dX11_isSale_2 (by decide) ?_
  refine gd_aload_n 0 dX11_isSale_3 rfl rfl ?_
  refine gd_callVI (As := []) (rest := [zJ 0, zJ ((a1 : Int32).toInt64)]) (dy := 2) (my := 0) (sy := 0) (k := 11) (i := 0) lX11_278 iX11_sales sX11_sales rfl dX11_isSale_4 rfl rfl (gd_room (by omega) (by decide)) (by decide) (Nat.le_of_ble_eq_true rfl) h (fun r2 v1 h => ?_)
  refine gd_iconst (x9 := 1) dX11_isSale_7 (by decide) ?_
  refine gd_isub dX11_isSale_8 ?_
  refine gd_i2l dX11_isSale_9 ?_
  refine gd_callSI (As := [zJ ((a1 : Int32).toInt64), zJ 0, zJ ((r2 - 1 : Int32).toInt64)]) (rest := []) (dy := 2) (my := 0) (sy := 0) lX11_164 tX11_lies dX11_isSale_10 rfl rfl (gd_room (by omega) (by decide)) (by decide) (Nat.le_of_ble_eq_true rfl) h (fun r4 v3 h => ?_)
  obtain ⟨hn, h⟩ := h
  exact gd_iret (ty := .boolean) dX11_isSale_13 rfl hn h
theorem c_X11_isSale {g : ab_E} {d : Nat} {a1 : Int32} {v : gd_D} {Q : ab_O → gd_D → Prop} (hd : 3 ≤ d) (h : wp_X11_isSale g d a1 v Q) : gd_C g mX11_isSale d 0 0 [zR 11 0, zI a1] v Q := gd_enterF (plainFor_of_name (by decide)) (Nat.le_of_ble_eq_true rfl) rfl (w_X11_isSale hd h)
def wp_X11_sale_109 (g : ab_E) (d : Nat) (a1 : Int32) (a2 : Int32) (a3 : Int32) (a4 : Int32) (a5 : Int32) (s1 : Int32) (v : gd_D) (Q : ab_O → gd_D → Prop) : Prop :=
  gd_C g mX11_isFine 2 0 0 [zR 11 0, zI s1, zI 3, zI 2] v (gd_rI (fun (r2 : Int32) v1 =>
    ((¬ (r2 : Int32) = 0) →
      gd_C g mX11_keeps 2 0 0 [zR 11 0] v1 (gd_rV (fun v3 =>
        gd_C g mX11_sales 2 0 0 [zR 11 0] v3 (gd_rI (fun (r6 : Int32) v5 =>
          gd_G g mX11_sale d 0 0 138 [(0, zR 11 0), (1, zI a1), (2, zI a2), (3, zI a3), (4, zI a4), (5, zI a5), (6, zI (57 + (9 * r6))), (7, zI 0)] [] v5 Q) (fun E v9 => Q (Sum.inr E) v9))) (fun E v9 => Q (Sum.inr E) v9))) ∧
    (((r2 : Int32) = 0) →
      Q (Sum.inl (some (zI 0))) v1)) (fun E v9 => Q (Sum.inr E) v9))
theorem w_X11_sale_109 {g : ab_E} {d : Nat} {a1 : Int32} {a2 : Int32} {a3 : Int32} {a4 : Int32} {a5 : Int32} {s1 : Int32} {v : gd_D} {Q : ab_O → gd_D → Prop} (hd : 3 ≤ d) (h : wp_X11_sale_109 g d a1 a2 a3 a4 a5 s1 v Q) : gd_G g mX11_sale d 0 0 109 [(0, zR 11 0), (1, zI a1), (2, zI a2), (3, zI a3), (4, zI a4), (5, zI a5)] [zI s1, zR 11 0] v Q := by
  unfold wp_X11_sale_109 at h
  refine gd_iconst (x9 := 3) dX11_sale_109 (by decide) ?_
  refine gd_iconst (x9 := 2) dX11_sale_110 (by decide) ?_
  refine gd_callVI (As := [zI s1, zI 3, zI 2]) (rest := []) (dy := 2) (my := 0) (sy := 0) (k := 11) (i := 0) lX11_264 iX11_isFine sX11_isFine rfl dX11_sale_111 rfl rfl (gd_room (by omega) (by decide)) (by decide) (Nat.le_of_ble_eq_true rfl) h (fun r2 v1 h => ?_)
  refine gd_if_ne (tgt := 119) dX11_sale_114 (by decide) (fun hc => ?_) (fun hc => ?_)
  · have h := h.1 hc
    refine gd_aload_n 0 dX11_sale_119 rfl rfl ?_
    refine gd_callVV (As := []) (rest := []) (dy := 2) (my := 0) (sy := 0) (k := 11) (i := 0) lX11_275 iX11_keeps sX11_keeps rfl dX11_sale_120 rfl rfl (gd_room (by omega) (by decide)) (by decide) (Nat.le_of_ble_eq_true rfl) h (fun v3 h => ?_)
    refine gd_bipush (x9 := 57) dX11_sale_123 (by decide) ?_
    refine gd_bipush (x9 := 9) dX11_sale_125 (by decide) ?_
    refine gd_aload_n 0 dX11_sale_127 rfl rfl ?_
    refine gd_callVI (As := []) (rest := [zI 9, zI 57]) (dy := 2) (my := 0) (sy := 0) (k := 11) (i := 0) lX11_278 iX11_sales sX11_sales rfl dX11_sale_128 rfl rfl (gd_room (by omega) (by decide)) (by decide) (Nat.le_of_ble_eq_true rfl) h (fun r6 v5 h => ?_)
    refine gd_imul dX11_sale_131 ?_
    refine gd_iadd dX11_sale_132 ?_
    refine gd_istore (L' := [(6, zI (57 + (9 * r6))), (0, zR 11 0), (1, zI a1), (2, zI a2), (3, zI a3), (4, zI a4), (5, zI a5)]) dX11_sale_133 (by decide) rfl ?_
    refine gd_iconst (x9 := 0) dX11_sale_135 (by decide) ?_
    refine gd_istore (L' := [(7, zI 0), (6, zI (57 + (9 * r6))), (0, zR 11 0), (1, zI a1), (2, zI a2), (3, zI a3), (4, zI a4), (5, zI a5)]) dX11_sale_136 (by decide) rfl ?_
    refine gd_locals [2, 3, 4, 5, 6, 7, 1, 0] rfl ?_
    exact h
  · have h := h.2 hc
    refine gd_iconst (x9 := 0) dX11_sale_117 (by decide) ?_
    exact gd_iret (ty := .int) dX11_sale_118 rfl rfl h
def wp_X11_sale_86 (g : ab_E) (d : Nat) (a1 : Int32) (a2 : Int32) (a3 : Int32) (a4 : Int32) (a5 : Int32) (s1 : Int32) (v : gd_D) (Q : ab_O → gd_D → Prop) : Prop :=
  gd_C g mX11_isFine 2 0 0 [zR 11 0, zI s1, zI 2, zI 1] v (gd_rI (fun (r2 : Int32) v1 =>
    (((r2 : Int32) = 0) →
      Q (Sum.inl (some (zI 0))) v1) ∧
    ((¬ (r2 : Int32) = 0) →
      gd_C g mX11_sales 2 0 0 [zR 11 0] v1 (gd_rI (fun (r4 : Int32) v3 =>
        (((24 : Int32) ≤ r4) →
          wp_X11_sale_109 g d a1 a2 a3 a4 a5 0 v3 Q) ∧
        ((¬ (24 : Int32) ≤ r4) →
          wp_X11_sale_109 g d a1 a2 a3 a4 a5 1 v3 Q)) (fun E v9 => Q (Sum.inr E) v9)))) (fun E v9 => Q (Sum.inr E) v9))
theorem w_X11_sale_86 {g : ab_E} {d : Nat} {a1 : Int32} {a2 : Int32} {a3 : Int32} {a4 : Int32} {a5 : Int32} {s1 : Int32} {v : gd_D} {Q : ab_O → gd_D → Prop} (hd : 3 ≤ d) (h : wp_X11_sale_86 g d a1 a2 a3 a4 a5 s1 v Q) : gd_G g mX11_sale d 0 0 86 [(0, zR 11 0), (1, zI a1), (2, zI a2), (3, zI a3), (4, zI a4), (5, zI a5)] [zI s1, zR 11 0] v Q := by
  unfold wp_X11_sale_86 at h
  refine gd_iconst (x9 := 2) dX11_sale_86 (by decide) ?_
  refine gd_iconst (x9 := 1) dX11_sale_87 (by decide) ?_
  refine gd_callVI (As := [zI s1, zI 2, zI 1]) (rest := []) (dy := 2) (my := 0) (sy := 0) (k := 11) (i := 0) lX11_264 iX11_isFine sX11_isFine rfl dX11_sale_88 rfl rfl (gd_room (by omega) (by decide)) (by decide) (Nat.le_of_ble_eq_true rfl) h (fun r2 v1 h => ?_)
  refine gd_if_eq (tgt := 117) dX11_sale_91 (by decide) (fun hc => ?_) (fun hc => ?_)
  · have h := h.1 hc
    refine gd_iconst (x9 := 0) dX11_sale_117 (by decide) ?_
    exact gd_iret (ty := .int) dX11_sale_118 rfl rfl h
  · have h := h.2 hc
    refine gd_aload_n 0 dX11_sale_94 rfl rfl ?_
    refine gd_aload_n 0 dX11_sale_95 rfl rfl ?_
    refine gd_callVI (As := []) (rest := [zR 11 0]) (dy := 2) (my := 0) (sy := 0) (k := 11) (i := 0) lX11_278 iX11_sales sX11_sales rfl dX11_sale_96 rfl rfl (gd_room (by omega) (by decide)) (by decide) (Nat.le_of_ble_eq_true rfl) h (fun r4 v3 h => ?_)
    refine gd_bipush (x9 := 24) dX11_sale_99 (by decide) ?_
    refine gd_icmp_ge (tgt := 108) dX11_sale_101 (by decide) (fun hc => ?_) (fun hc => ?_)
    · have h := h.1 hc
      refine gd_iconst (x9 := 0) dX11_sale_108 (by decide) ?_
      exact w_X11_sale_109 (by omega) h
    · have h := h.2 hc
      refine gd_iconst (x9 := 1) dX11_sale_104 (by decide) ?_
      refine gd_goto (tgt := 109) dX11_sale_105 (by decide) ?_
      exact w_X11_sale_109 (by omega) h
def wp_X11_sale_85 (g : ab_E) (d : Nat) (a1 : Int32) (a2 : Int32) (a3 : Int32) (a4 : Int32) (a5 : Int32) (v : gd_D) (Q : ab_O → gd_D → Prop) : Prop :=
  wp_X11_sale_86 g d a1 a2 a3 a4 a5 0 v Q
theorem w_X11_sale_85 {g : ab_E} {d : Nat} {a1 : Int32} {a2 : Int32} {a3 : Int32} {a4 : Int32} {a5 : Int32} {v : gd_D} {Q : ab_O → gd_D → Prop} (hd : 3 ≤ d) (h : wp_X11_sale_85 g d a1 a2 a3 a4 a5 v Q) : gd_G g mX11_sale d 0 0 85 [(0, zR 11 0), (1, zI a1), (2, zI a2), (3, zI a3), (4, zI a4), (5, zI a5)] [zR 11 0] v Q := by
  unfold wp_X11_sale_85 at h
  refine gd_iconst (x9 := 0) dX11_sale_85 (by decide) ?_
  exact w_X11_sale_86 (by omega) h
def wp_X11_sale_27 (g : ab_E) (d : Nat) (a1 : Int32) (a2 : Int32) (a3 : Int32) (a4 : Int32) (a5 : Int32) (s1 : Int32) (v : gd_D) (Q : ab_O → gd_D → Prop) : Prop :=
  gd_C g mX11_isFine 2 0 0 [zR 11 0, zI s1, zI 1, zI 0] v (gd_rI (fun (r2 : Int32) v1 =>
    ((¬ (r2 : Int32) = 0) →
      (((a1 : Int32) = a2) →
        wp_X11_sale_85 g d a1 a2 a3 a4 a5 v1 Q) ∧
      ((¬ (a1 : Int32) = a2) →
        gd_C g mX11_lies 2 0 0 [zJ ((a3 : Int32).toInt64), zJ 1, zJ 1000] v1 (gd_rI (fun (r4 : Int32) v3 =>
          (((r4 : Int32) = 0) →
            wp_X11_sale_85 g d a1 a2 a3 a4 a5 v3 Q) ∧
          ((¬ (r4 : Int32) = 0) →
            gd_C g mX11_lies 2 0 0 [zJ ((a4 : Int32).toInt64), zJ 1, zJ 10000] v3 (gd_rI (fun (r6 : Int32) v5 =>
              (((r6 : Int32) = 0) →
                wp_X11_sale_85 g d a1 a2 a3 a4 a5 v5 Q) ∧
              ((¬ (r6 : Int32) = 0) →
                gd_C g mX11_lies 2 0 0 [zJ ((a5 : Int32).toInt64), zJ 0, zJ 999] v5 (gd_rI (fun (r8 : Int32) v7 =>
                  (((r8 : Int32) = 0) →
                    wp_X11_sale_85 g d a1 a2 a3 a4 a5 v7 Q) ∧
                  ((¬ (r8 : Int32) = 0) →
                    wp_X11_sale_86 g d a1 a2 a3 a4 a5 1 v7 Q)) (fun E v9 => Q (Sum.inr E) v9)))) (fun E v9 => Q (Sum.inr E) v9)))) (fun E v9 => Q (Sum.inr E) v9)))) ∧
    (((r2 : Int32) = 0) →
      Q (Sum.inl (some (zI 0))) v1)) (fun E v9 => Q (Sum.inr E) v9))
theorem w_X11_sale_27 {g : ab_E} {d : Nat} {a1 : Int32} {a2 : Int32} {a3 : Int32} {a4 : Int32} {a5 : Int32} {s1 : Int32} {v : gd_D} {Q : ab_O → gd_D → Prop} (hd : 3 ≤ d) (h : wp_X11_sale_27 g d a1 a2 a3 a4 a5 s1 v Q) : gd_G g mX11_sale d 0 0 27 [(0, zR 11 0), (1, zI a1), (2, zI a2), (3, zI a3), (4, zI a4), (5, zI a5)] [zI s1, zR 11 0] v Q := by
  unfold wp_X11_sale_27 at h
  refine gd_iconst (x9 := 1) dX11_sale_27 (by decide) ?_
  refine gd_iconst (x9 := 0) dX11_sale_28 (by decide) ?_
  refine gd_callVI (As := [zI s1, zI 1, zI 0]) (rest := []) (dy := 2) (my := 0) (sy := 0) (k := 11) (i := 0) lX11_264 iX11_isFine sX11_isFine rfl dX11_sale_29 rfl rfl (gd_room (by omega) (by decide)) (by decide) (Nat.le_of_ble_eq_true rfl) h (fun r2 v1 h => ?_)
  refine gd_if_ne (tgt := 37) dX11_sale_32 (by decide) (fun hc => ?_) (fun hc => ?_)
  · have h := h.1 hc
    refine gd_aload_n 0 dX11_sale_37 rfl rfl ?_
    refine gd_iload_n 1 dX11_sale_38 rfl rfl ?_
    refine gd_iload_n 2 dX11_sale_39 rfl rfl ?_
    refine gd_icmp_eq (tgt := 85) dX11_sale_40 (by decide) (fun hc => ?_) (fun hc => ?_)
    · have h := h.1 hc
      exact w_X11_sale_85 (by omega) h
    · have h := h.2 hc
      refine gd_iload_n 3 dX11_sale_43 rfl rfl ?_
      refine gd_i2l dX11_sale_44 ?_
      refine gd_lconst (x9 := 1) dX11_sale_45 (by decide) ?_
      refine gd_ldc2 kX11_231 dX11_sale_46 ?_
      refine gd_callSI (As := [zJ ((a3 : Int32).toInt64), zJ 1, zJ 1000]) (rest := [zR 11 0]) (dy := 2) (my := 0) (sy := 0) lX11_164 tX11_lies dX11_sale_49 rfl rfl (gd_room (by omega) (by decide)) (by decide) (Nat.le_of_ble_eq_true rfl) h (fun r4 v3 h => ?_)
      refine gd_if_eq (tgt := 85) dX11_sale_52 (by decide) (fun hc => ?_) (fun hc => ?_)
      · have h := h.1 hc
        exact w_X11_sale_85 (by omega) h
      · have h := h.2 hc
        refine gd_iload 4 dX11_sale_55 rfl ?_
        refine gd_i2l dX11_sale_57 ?_
        refine gd_lconst (x9 := 1) dX11_sale_58 (by decide) ?_
        refine gd_ldc2 kX11_233 dX11_sale_59 ?_
        refine gd_callSI (As := [zJ ((a4 : Int32).toInt64), zJ 1, zJ 10000]) (rest := [zR 11 0]) (dy := 2) (my := 0) (sy := 0) lX11_164 tX11_lies dX11_sale_62 rfl rfl (gd_room (by omega) (by decide)) (by decide) (Nat.le_of_ble_eq_true rfl) h (fun r6 v5 h => ?_)
        refine gd_if_eq (tgt := 85) dX11_sale_65 (by decide) (fun hc => ?_) (fun hc => ?_)
        · have h := h.1 hc
          exact w_X11_sale_85 (by omega) h
        · have h := h.2 hc
          refine gd_iload 5 dX11_sale_68 rfl ?_
          refine gd_i2l dX11_sale_70 ?_
          refine gd_lconst (x9 := 0) dX11_sale_71 (by decide) ?_
          refine gd_ldc2 kX11_235 dX11_sale_72 ?_
          refine gd_callSI (As := [zJ ((a5 : Int32).toInt64), zJ 0, zJ 999]) (rest := [zR 11 0]) (dy := 2) (my := 0) (sy := 0) lX11_164 tX11_lies dX11_sale_75 rfl rfl (gd_room (by omega) (by decide)) (by decide) (Nat.le_of_ble_eq_true rfl) h (fun r8 v7 h => ?_)
          refine gd_if_eq (tgt := 85) dX11_sale_78 (by decide) (fun hc => ?_) (fun hc => ?_)
          · have h := h.1 hc
            exact w_X11_sale_85 (by omega) h
          · have h := h.2 hc
            refine gd_iconst (x9 := 1) dX11_sale_81 (by decide) ?_
            refine gd_goto (tgt := 86) dX11_sale_82 (by decide) ?_
            exact w_X11_sale_86 (by omega) h
  · have h := h.2 hc
    refine gd_iconst (x9 := 0) dX11_sale_35 (by decide) ?_
    exact gd_iret (ty := .int) dX11_sale_36 rfl rfl h
def wp_X11_sale_26 (g : ab_E) (d : Nat) (a1 : Int32) (a2 : Int32) (a3 : Int32) (a4 : Int32) (a5 : Int32) (v : gd_D) (Q : ab_O → gd_D → Prop) : Prop :=
  wp_X11_sale_27 g d a1 a2 a3 a4 a5 0 v Q
theorem w_X11_sale_26 {g : ab_E} {d : Nat} {a1 : Int32} {a2 : Int32} {a3 : Int32} {a4 : Int32} {a5 : Int32} {v : gd_D} {Q : ab_O → gd_D → Prop} (hd : 3 ≤ d) (h : wp_X11_sale_26 g d a1 a2 a3 a4 a5 v Q) : gd_G g mX11_sale d 0 0 26 [(0, zR 11 0), (1, zI a1), (2, zI a2), (3, zI a3), (4, zI a4), (5, zI a5)] [zR 11 0] v Q := by
  unfold wp_X11_sale_26 at h
  refine gd_iconst (x9 := 0) dX11_sale_26 (by decide) ?_
  exact w_X11_sale_27 (by omega) h
def wp_X11_sale (g : ab_E) (d : Nat) (a1 : Int32) (a2 : Int32) (a3 : Int32) (a4 : Int32) (a5 : Int32) (v : gd_D) (Q : ab_O → gd_D → Prop) : Prop :=
  ∀ v1 : gd_D, v1 = gd_sI v 11 0 0 0 →
  gd_C g mX11_isDealer 3 0 0 [zR 11 0, zI a1] v1 (gd_rI (fun (r3 : Int32) v2 =>
    (((r3 : Int32) = 0) →
      wp_X11_sale_26 g d a1 a2 a3 a4 a5 v2 Q) ∧
    ((¬ (r3 : Int32) = 0) →
      gd_C g mX11_isDealer 3 0 0 [zR 11 0, zI a2] v2 (gd_rI (fun (r5 : Int32) v4 =>
        (((r5 : Int32) = 0) →
          wp_X11_sale_26 g d a1 a2 a3 a4 a5 v4 Q) ∧
        ((¬ (r5 : Int32) = 0) →
          wp_X11_sale_27 g d a1 a2 a3 a4 a5 1 v4 Q)) (fun E v9 => Q (Sum.inr E) v9)))) (fun E v9 => Q (Sum.inr E) v9))
theorem w_X11_sale {g : ab_E} {d : Nat} {a1 : Int32} {a2 : Int32} {a3 : Int32} {a4 : Int32} {a5 : Int32} {v : gd_D} {Q : ab_O → gd_D → Prop} (hd : 4 ≤ d) (h : wp_X11_sale g d a1 a2 a3 a4 a5 v Q) : gd_G g mX11_sale d 0 0 0 [(0, zR 11 0), (1, zI a1), (2, zI a2), (3, zI a3), (4, zI a4), (5, zI a5)] [] v Q := by
  unfold wp_X11_sale at h
  refine gd_aload_n 0 dX11_sale_0 rfl rfl ?_
  refine gd_iconst (x9 := 0) dX11_sale_1 (by decide) ?_
  refine gd_putIn fX11_1 rfl rfl dX11_sale_2 (fun v1 ev1 => ?_)
  have h := h v1 ev1
  refine gd_aload_n 0 dX11_sale_5 rfl rfl ?_
  refine gd_aload_n 0 dX11_sale_6 rfl rfl ?_
  refine gd_iload_n 1 dX11_sale_7 rfl rfl ?_
  refine gd_callVI (As := [zI a1]) (rest := [zR 11 0]) (dy := 3) (my := 0) (sy := 0) (k := 11) (i := 0) lX11_284 iX11_isDealer sX11_isDealer rfl dX11_sale_8 rfl rfl (gd_room (by omega) (by decide)) (by decide) (Nat.le_of_ble_eq_true rfl) h (fun r3 v2 h => ?_)
  refine gd_if_eq (tgt := 26) dX11_sale_11 (by decide) (fun hc => ?_) (fun hc => ?_)
  · have h := h.1 hc
    exact w_X11_sale_26 (by omega) h
  · have h := h.2 hc
    refine gd_aload_n 0 dX11_sale_14 rfl rfl ?_
    refine gd_iload_n 2 dX11_sale_15 rfl rfl ?_
    refine gd_callVI (As := [zI a2]) (rest := [zR 11 0]) (dy := 3) (my := 0) (sy := 0) (k := 11) (i := 0) lX11_284 iX11_isDealer sX11_isDealer rfl dX11_sale_16 rfl rfl (gd_room (by omega) (by decide)) (by decide) (Nat.le_of_ble_eq_true rfl) h (fun r5 v4 h => ?_)
    refine gd_if_eq (tgt := 26) dX11_sale_19 (by decide) (fun hc => ?_) (fun hc => ?_)
    · have h := h.1 hc
      exact w_X11_sale_26 (by omega) h
    · have h := h.2 hc
      refine gd_iconst (x9 := 1) dX11_sale_22 (by decide) ?_
      refine gd_goto (tgt := 27) dX11_sale_23 (by decide) ?_
      exact w_X11_sale_27 (by omega) h
def wp_X11_sale_138 (g : ab_E) (d : Nat) (a1 : Int32) (a2 : Int32) (a3 : Int32) (a4 : Int32) (a5 : Int32) (a6 : Int32) (a7 : Int32) (v : gd_D) (Q : ab_O → gd_D → Prop) : Prop :=
  (((9 : Int32) ≤ a7) →
    vp_in (a6 + 0) 773 ∧
    ∀ v1 : gd_D, v1 = gd_sJ v 40 0 ((a6 + 0 : Int32).toNatClampNeg) ((a1 : Int32).toInt64) →
    vp_in (a6 + 1) 773 ∧
    ∀ v2 : gd_D, v2 = gd_sJ v1 40 0 ((a6 + 1 : Int32).toNatClampNeg) ((a2 : Int32).toInt64) →
    vp_in (a6 + 2) 773 ∧
    ∀ v3 : gd_D, v3 = gd_sJ v2 40 0 ((a6 + 2 : Int32).toNatClampNeg) ((a3 : Int32).toInt64) →
    vp_in (a6 + 5) 773 ∧
    ∀ v4 : gd_D, v4 = gd_sJ v3 40 0 ((a6 + 5 : Int32).toNatClampNeg) ((a3 : Int32).toInt64) →
    vp_in (a6 + 3) 773 ∧
    ∀ v5 : gd_D, v5 = gd_sJ v4 40 0 ((a6 + 3 : Int32).toNatClampNeg) ((a4 : Int32).toInt64) →
    vp_in (a6 + 4) 773 ∧
    ∀ v6 : gd_D, v6 = gd_sJ v5 40 0 ((a6 + 4 : Int32).toNatClampNeg) ((a5 : Int32).toInt64) →
    vp_in 1 773 ∧
    vp_in 1 773 ∧
    ∀ v7 : gd_D, v7 = gd_sJ v6 40 0 ((1 : Int32).toNatClampNeg) ((v6.2.1 40 0 (1 : Int32).toNatClampNeg) + 1) →
    gd_C g mX11_sales 2 0 0 [zR 11 0] v7 (gd_rI (fun (r9 : Int32) v8 =>
      Q (Sum.inl (some (zI (r9 - 1)))) v8) (fun E v9 => Q (Sum.inr E) v9))) ∧
  ((¬ (9 : Int32) ≤ a7) →
    vp_in (a6 + a7) 773 ∧
    ∀ v10 : gd_D, v10 = gd_sJ v 40 0 ((a6 + a7 : Int32).toNatClampNeg) 0 →
    gd_G g mX11_sale d 0 0 138 [(0, zR 11 0), (1, zI a1), (2, zI a2), (3, zI a3), (4, zI a4), (5, zI a5), (6, zI a6), (7, zI (a7 + 1))] [] v10 Q)
theorem w_X11_sale_138 {g : ab_E} {d : Nat} {a1 : Int32} {a2 : Int32} {a3 : Int32} {a4 : Int32} {a5 : Int32} {a6 : Int32} {a7 : Int32} {v : gd_D} {Q : ab_O → gd_D → Prop} (hd : 3 ≤ d) (h : wp_X11_sale_138 g d a1 a2 a3 a4 a5 a6 a7 v Q) : gd_G g mX11_sale d 0 0 138 [(0, zR 11 0), (1, zI a1), (2, zI a2), (3, zI a3), (4, zI a4), (5, zI a5), (6, zI a6), (7, zI a7)] [] v Q := by
  unfold wp_X11_sale_138 at h
  refine gd_iload 7 dX11_sale_138 rfl ?_
  refine gd_bipush (x9 := 9) dX11_sale_140 (by decide) ?_
  refine gd_icmp_ge (tgt := 162) dX11_sale_142 (by decide) (fun hc => ?_) (fun hc => ?_)
  · have h := h.1 hc
    refine gd_aload_n 0 dX11_sale_162 rfl rfl ?_
    refine gd_getR (x := 0) (kr := 40) fX11_17 rfl rfl dX11_sale_163 rfl ?_
    refine gd_iload 6 dX11_sale_166 rfl ?_
    refine gd_iconst (x9 := 0) dX11_sale_168 (by decide) ?_
    refine gd_iadd dX11_sale_169 ?_
    refine gd_iload_n 1 dX11_sale_170 rfl rfl ?_
    refine gd_i2l dX11_sale_171 ?_
    obtain ⟨hb, h⟩ := h
    refine gd_lastoren (n := 773) (by decide) rfl rfl dX11_sale_172 rfl hb (fun v1 ev1 => ?_)
    have h := h v1 ev1
    refine gd_aload_n 0 dX11_sale_173 rfl rfl ?_
    refine gd_getR (x := 0) (kr := 40) fX11_17 rfl rfl dX11_sale_174 rfl ?_
    refine gd_iload 6 dX11_sale_177 rfl ?_
    refine gd_iconst (x9 := 1) dX11_sale_179 (by decide) ?_
    refine gd_iadd dX11_sale_180 ?_
    refine gd_iload_n 2 dX11_sale_181 rfl rfl ?_
    refine gd_i2l dX11_sale_182 ?_
    obtain ⟨hb, h⟩ := h
    refine gd_lastoren (n := 773) (by decide) rfl rfl dX11_sale_183 rfl hb (fun v2 ev2 => ?_)
    have h := h v2 ev2
    refine gd_aload_n 0 dX11_sale_184 rfl rfl ?_
    refine gd_getR (x := 0) (kr := 40) fX11_17 rfl rfl dX11_sale_185 rfl ?_
    refine gd_iload 6 dX11_sale_188 rfl ?_
    refine gd_iconst (x9 := 2) dX11_sale_190 (by decide) ?_
    refine gd_iadd dX11_sale_191 ?_
    refine gd_iload_n 3 dX11_sale_192 rfl rfl ?_
    refine gd_i2l dX11_sale_193 ?_
    obtain ⟨hb, h⟩ := h
    refine gd_lastoren (n := 773) (by decide) rfl rfl dX11_sale_194 rfl hb (fun v3 ev3 => ?_)
    have h := h v3 ev3
    refine gd_aload_n 0 dX11_sale_195 rfl rfl ?_
    refine gd_getR (x := 0) (kr := 40) fX11_17 rfl rfl dX11_sale_196 rfl ?_
    refine gd_iload 6 dX11_sale_199 rfl ?_
    refine gd_iconst (x9 := 5) dX11_sale_201 (by decide) ?_
    refine gd_iadd dX11_sale_202 ?_
    refine gd_iload_n 3 dX11_sale_203 rfl rfl ?_
    refine gd_i2l dX11_sale_204 ?_
    obtain ⟨hb, h⟩ := h
    refine gd_lastoren (n := 773) (by decide) rfl rfl dX11_sale_205 rfl hb (fun v4 ev4 => ?_)
    have h := h v4 ev4
    refine gd_aload_n 0 dX11_sale_206 rfl rfl ?_
    refine gd_getR (x := 0) (kr := 40) fX11_17 rfl rfl dX11_sale_207 rfl ?_
    refine gd_iload 6 dX11_sale_210 rfl ?_
    refine gd_iconst (x9 := 3) dX11_sale_212 (by decide) ?_
    refine gd_iadd dX11_sale_213 ?_
    refine gd_iload 4 dX11_sale_214 rfl ?_
    refine gd_i2l dX11_sale_216 ?_
    obtain ⟨hb, h⟩ := h
    refine gd_lastoren (n := 773) (by decide) rfl rfl dX11_sale_217 rfl hb (fun v5 ev5 => ?_)
    have h := h v5 ev5
    refine gd_aload_n 0 dX11_sale_218 rfl rfl ?_
    refine gd_getR (x := 0) (kr := 40) fX11_17 rfl rfl dX11_sale_219 rfl ?_
    refine gd_iload 6 dX11_sale_222 rfl ?_
    refine gd_iconst (x9 := 4) dX11_sale_224 (by decide) ?_
    refine gd_iadd dX11_sale_225 ?_
    refine gd_iload 5 dX11_sale_226 rfl ?_
    refine gd_i2l dX11_sale_228 ?_
    obtain ⟨hb, h⟩ := h
    refine gd_lastoren (n := 773) (by decide) rfl rfl dX11_sale_229 rfl hb (fun v6 ev6 => ?_)
    have h := h v6 ev6
    refine gd_aload_n 0 dX11_sale_230 rfl rfl ?_
    refine gd_getR (x := 0) (kr := 40) fX11_17 rfl rfl dX11_sale_231 rfl ?_
    refine gd_iconst (x9 := 1) dX11_sale_234 (by decide) ?_
    refine gd_dup2_11 dX11_sale_235 rfl rfl ?_
    obtain ⟨hb, h⟩ := h
    refine gd_laload (n := 773) (by decide) rfl dX11_sale_236 rfl hb ?_
    refine gd_lconst (x9 := 1) dX11_sale_237 (by decide) ?_
    refine gd_ladd dX11_sale_238 ?_
    obtain ⟨hb, h⟩ := h
    refine gd_lastoren (n := 773) (by decide) rfl rfl dX11_sale_239 rfl hb (fun v7 ev7 => ?_)
    have h := h v7 ev7
    refine gd_aload_n 0 dX11_sale_240 rfl rfl ?_
    refine gd_callVI (As := []) (rest := []) (dy := 2) (my := 0) (sy := 0) (k := 11) (i := 0) lX11_278 iX11_sales sX11_sales rfl dX11_sale_241 rfl rfl (gd_room (by omega) (by decide)) (by decide) (Nat.le_of_ble_eq_true rfl) h (fun r9 v8 h => ?_)
    refine gd_iconst (x9 := 1) dX11_sale_244 (by decide) ?_
    refine gd_isub dX11_sale_245 ?_
    exact gd_iret (ty := .int) dX11_sale_246 rfl rfl h
  · have h := h.2 hc
    refine gd_aload_n 0 dX11_sale_145 rfl rfl ?_
    refine gd_getR (x := 0) (kr := 40) fX11_17 rfl rfl dX11_sale_146 rfl ?_
    refine gd_iload 6 dX11_sale_149 rfl ?_
    refine gd_iload 7 dX11_sale_151 rfl ?_
    refine gd_iadd dX11_sale_153 ?_
    refine gd_lconst (x9 := 0) dX11_sale_154 (by decide) ?_
    obtain ⟨hb, h⟩ := h
    refine gd_lastoren (n := 773) (by decide) rfl rfl dX11_sale_155 rfl hb (fun v10 ev10 => ?_)
    have h := h v10 ev10
    refine gd_iinc (x9 := a7 + 1) (L' := [(7, zI (a7 + 1)), (0, zR 11 0), (1, zI a1), (2, zI a2), (3, zI a3), (4, zI a4), (5, zI a5), (6, zI a6)]) 7 dX11_sale_156 rfl rfl (by decide) rfl ?_
    refine gd_goto (tgt := 138) dX11_sale_159 (by decide) ?_
    refine gd_locals [1, 2, 3, 4, 5, 6, 7, 0] rfl ?_
    exact h
theorem c_X11_sale {g : ab_E} {d : Nat} {a1 : Int32} {a2 : Int32} {a3 : Int32} {a4 : Int32} {a5 : Int32} {v : gd_D} {Q : ab_O → gd_D → Prop} (hd : 4 ≤ d) (h : wp_X11_sale g d a1 a2 a3 a4 a5 v Q) : gd_C g mX11_sale d 0 0 [zR 11 0, zI a1, zI a2, zI a3, zI a4, zI a5] v Q := gd_enterF (plainFor_of_name (by decide)) (Nat.le_of_ble_eq_true rfl) rfl (w_X11_sale hd h)
def wp_X11_stock (g : ab_E) (d : Nat) (a1 : Int32) (a2 : Int32) (v : gd_D) (Q : ab_O → gd_D → Prop) : Prop :=
  ∀ v1 : gd_D, v1 = gd_sI v 11 0 0 0 →
  gd_C g mX11_isDealer 3 0 0 [zR 11 0, zI a1] v1 (gd_rI (fun (r3 : Int32) v2 =>
    gd_C g mX11_isFine 2 0 0 [zR 11 0, zI r3, zI 1, zI 0] v2 (gd_rI (fun (r5 : Int32) v4 =>
      (((r5 : Int32) = 0) →
        Q (Sum.inl (some (zI 0))) v4) ∧
      ((¬ (r5 : Int32) = 0) →
        gd_C g mX11_lies 2 0 0 [zJ ((a2 : Int32).toInt64), zJ 0, zJ 100000] v4 (gd_rI (fun (r7 : Int32) v6 =>
          gd_C g mX11_isFine 2 0 0 [zR 11 0, zI r7, zI 2, zI 1] v6 (gd_rI (fun (r9 : Int32) v8 =>
            ((¬ (r9 : Int32) = 0) →
              gd_C g mX11_keeps 2 0 0 [zR 11 0] v8 (gd_rV (fun v10 =>
                vp_in ((9 + (6 * a1)) + 0) 773 ∧
                ∀ y12 : Int64, y12 = v10.2.1 40 0 ((9 + (6 * a1)) + 0 : Int32).toNatClampNeg →
                vp_in ((9 + (6 * a1)) + 0) 773 ∧
                ∀ v13 : gd_D, v13 = gd_sJ v10 40 0 (((9 + (6 * a1)) + 0 : Int32).toNatClampNeg) ((a2 : Int32).toInt64) →
                Q (Sum.inl (some (zI ((y12 : Int64).toInt32)))) v13) (fun E v9 => Q (Sum.inr E) v9))) ∧
            (((r9 : Int32) = 0) →
              Q (Sum.inl (some (zI 0))) v8)) (fun E v9 => Q (Sum.inr E) v9))) (fun E v9 => Q (Sum.inr E) v9)))) (fun E v9 => Q (Sum.inr E) v9))) (fun E v9 => Q (Sum.inr E) v9))
theorem w_X11_stock {g : ab_E} {d : Nat} {a1 : Int32} {a2 : Int32} {v : gd_D} {Q : ab_O → gd_D → Prop} (hd : 4 ≤ d) (h : wp_X11_stock g d a1 a2 v Q) : gd_G g mX11_stock d 0 0 0 [(0, zR 11 0), (1, zI a1), (2, zI a2)] [] v Q := by
  unfold wp_X11_stock at h
  refine gd_aload_n 0 dX11_stock_0 rfl rfl ?_
  refine gd_iconst (x9 := 0) dX11_stock_1 (by decide) ?_
  refine gd_putIn fX11_1 rfl rfl dX11_stock_2 (fun v1 ev1 => ?_)
  have h := h v1 ev1
  refine gd_aload_n 0 dX11_stock_5 rfl rfl ?_
  refine gd_aload_n 0 dX11_stock_6 rfl rfl ?_
  refine gd_iload_n 1 dX11_stock_7 rfl rfl ?_
  refine gd_callVI (As := [zI a1]) (rest := [zR 11 0]) (dy := 3) (my := 0) (sy := 0) (k := 11) (i := 0) lX11_284 iX11_isDealer sX11_isDealer rfl dX11_stock_8 rfl rfl (gd_room (by omega) (by decide)) (by decide) (Nat.le_of_ble_eq_true rfl) h (fun r3 v2 h => ?_)
  refine gd_iconst (x9 := 1) dX11_stock_11 (by decide) ?_
  refine gd_iconst (x9 := 0) dX11_stock_12 (by decide) ?_
  refine gd_callVI (As := [zI r3, zI 1, zI 0]) (rest := []) (dy := 2) (my := 0) (sy := 0) (k := 11) (i := 0) lX11_264 iX11_isFine sX11_isFine rfl dX11_stock_13 rfl rfl (gd_room (by omega) (by decide)) (by decide) (Nat.le_of_ble_eq_true rfl) h (fun r5 v4 h => ?_)
  refine gd_if_eq (tgt := 37) dX11_stock_16 (by decide) (fun hc => ?_) (fun hc => ?_)
  · have h := h.1 hc
    refine gd_iconst (x9 := 0) dX11_stock_37 (by decide) ?_
    exact gd_iret (ty := .int) dX11_stock_38 rfl rfl h
  · have h := h.2 hc
    refine gd_aload_n 0 dX11_stock_19 rfl rfl ?_
    refine gd_iload_n 2 dX11_stock_20 rfl rfl ?_
    refine gd_i2l dX11_stock_21 ?_
    refine gd_lconst (x9 := 0) dX11_stock_22 (by decide) ?_
    refine gd_ldc2 kX11_287 dX11_stock_23 ?_
    refine gd_callSI (As := [zJ ((a2 : Int32).toInt64), zJ 0, zJ 100000]) (rest := [zR 11 0]) (dy := 2) (my := 0) (sy := 0) lX11_164 tX11_lies dX11_stock_26 rfl rfl (gd_room (by omega) (by decide)) (by decide) (Nat.le_of_ble_eq_true rfl) h (fun r7 v6 h => ?_)
    refine gd_iconst (x9 := 2) dX11_stock_29 (by decide) ?_
    refine gd_iconst (x9 := 1) dX11_stock_30 (by decide) ?_
    refine gd_callVI (As := [zI r7, zI 2, zI 1]) (rest := []) (dy := 2) (my := 0) (sy := 0) (k := 11) (i := 0) lX11_264 iX11_isFine sX11_isFine rfl dX11_stock_31 rfl rfl (gd_room (by omega) (by decide)) (by decide) (Nat.le_of_ble_eq_true rfl) h (fun r9 v8 h => ?_)
    refine gd_if_ne (tgt := 39) dX11_stock_34 (by decide) (fun hc => ?_) (fun hc => ?_)
    · have h := h.1 hc
      refine gd_aload_n 0 dX11_stock_39 rfl rfl ?_
      refine gd_callVV (As := []) (rest := []) (dy := 2) (my := 0) (sy := 0) (k := 11) (i := 0) lX11_275 iX11_keeps sX11_keeps rfl dX11_stock_40 rfl rfl (gd_room (by omega) (by decide)) (by decide) (Nat.le_of_ble_eq_true rfl) h (fun v10 h => ?_)
      refine gd_aload_n 0 dX11_stock_43 rfl rfl ?_
      refine gd_getR (x := 0) (kr := 40) fX11_17 rfl rfl dX11_stock_44 rfl ?_
      refine gd_bipush (x9 := 9) dX11_stock_47 (by decide) ?_
      refine gd_bipush (x9 := 6) dX11_stock_49 (by decide) ?_
      refine gd_iload_n 1 dX11_stock_51 rfl rfl ?_
      refine gd_imul dX11_stock_52 ?_
      refine gd_iadd dX11_stock_53 ?_
      refine gd_iconst (x9 := 0) dX11_stock_54 (by decide) ?_
      refine gd_iadd dX11_stock_55 ?_
      obtain ⟨hb, h⟩ := h
      refine gd_laload (n := 773) (by decide) rfl dX11_stock_56 rfl hb ?_
      refine gd_nmJ (fun y12 ey12 => ?_)
      have h := h y12 ey12
      refine gd_l2i dX11_stock_57 ?_
      refine gd_istore_n (L' := [(3, zI ((y12 : Int64).toInt32)), (0, zR 11 0), (1, zI a1), (2, zI a2)]) dX11_stock_58 rfl (by decide) rfl ?_
      refine gd_aload_n 1 dX11_stock_59 rfl rfl ?_
      refine gd_getR (x := 0) (kr := 40) fX11_17 rfl rfl dX11_stock_60 rfl ?_
      refine gd_bipush (x9 := 9) dX11_stock_63 (by decide) ?_
      refine gd_bipush (x9 := 6) dX11_stock_65 (by decide) ?_
      refine gd_iload_n 2 dX11_stock_67 rfl rfl ?_
      refine gd_imul dX11_stock_68 ?_
      refine gd_iadd dX11_stock_69 ?_
      refine gd_iconst (x9 := 0) dX11_stock_70 (by decide) ?_
      refine gd_iadd dX11_stock_71 ?_
      refine gd_iload_n 3 dX11_stock_72 rfl rfl ?_
      refine gd_i2l dX11_stock_73 ?_
      obtain ⟨hb, h⟩ := h
      refine gd_lastoren (n := 773) (by decide) rfl rfl dX11_stock_74 rfl hb (fun v13 ev13 => ?_)
      have h := h v13 ev13
      refine gd_iload_n 0 dX11_stock_75 rfl rfl ?_
      exact gd_iret (ty := .int) dX11_stock_76 rfl rfl h
    · have h := h.2 hc
      refine gd_iconst (x9 := 0) dX11_stock_37 (by decide) ?_
      exact gd_iret (ty := .int) dX11_stock_38 rfl rfl h
theorem c_X11_stock {g : ab_E} {d : Nat} {a1 : Int32} {a2 : Int32} {v : gd_D} {Q : ab_O → gd_D → Prop} (hd : 4 ≤ d) (h : wp_X11_stock g d a1 a2 v Q) : gd_C g mX11_stock d 0 0 [zR 11 0, zI a1, zI a2] v Q := gd_enterF (plainFor_of_name (by decide)) (Nat.le_of_ble_eq_true rfl) rfl (w_X11_stock hd h)
def wp_X11_mark (g : ab_E) (d : Nat) (a1 : Int32) (v : gd_D) (Q : ab_O → gd_D → Prop) : Prop :=
  ∀ v1 : gd_D, v1 = gd_sI v 11 0 0 0 →
  gd_C g mX11_lies 2 0 0 [zJ ((a1 : Int32).toInt64), zJ 1, zJ 10000] v1 (gd_rI (fun (r3 : Int32) v2 =>
    gd_C g mX11_isFine 2 0 0 [zR 11 0, zI r3, zI 1, zI 1] v2 (gd_rI (fun (r5 : Int32) v4 =>
      ((¬ (r5 : Int32) = 0) →
        gd_C g mX11_keeps 2 0 0 [zR 11 0] v4 (gd_rV (fun v6 =>
          vp_in 3 773 ∧
          ∀ x8 : Int32, x8 = (v6.2.1 40 0 (3 : Int32).toNatClampNeg : Int64).toInt32 →
          vp_in 3 773 ∧
          ∀ v9 : gd_D, v9 = gd_sJ v6 40 0 ((3 : Int32).toNatClampNeg) ((a1 : Int32).toInt64) →
          Q (Sum.inl (some (zI x8))) v9) (fun E v9 => Q (Sum.inr E) v9))) ∧
      (((r5 : Int32) = 0) →
        Q (Sum.inl (some (zI 0))) v4)) (fun E v9 => Q (Sum.inr E) v9))) (fun E v9 => Q (Sum.inr E) v9))
theorem w_X11_mark {g : ab_E} {d : Nat} {a1 : Int32} {v : gd_D} {Q : ab_O → gd_D → Prop} (hd : 3 ≤ d) (h : wp_X11_mark g d a1 v Q) : gd_G g mX11_mark d 0 0 0 [(0, zR 11 0), (1, zI a1)] [] v Q := by
  unfold wp_X11_mark at h
  refine gd_aload_n 0 dX11_mark_0 rfl rfl ?_
  refine gd_iconst (x9 := 0) dX11_mark_1 (by decide) ?_
  refine gd_putIn fX11_1 rfl rfl dX11_mark_2 (fun v1 ev1 => ?_)
  have h := h v1 ev1
  refine gd_aload_n 0 dX11_mark_5 rfl rfl ?_
  refine gd_iload_n 1 dX11_mark_6 rfl rfl ?_
  refine gd_i2l dX11_mark_7 ?_
  refine gd_lconst (x9 := 1) dX11_mark_8 (by decide) ?_
  refine gd_ldc2 kX11_233 dX11_mark_9 ?_
  refine gd_callSI (As := [zJ ((a1 : Int32).toInt64), zJ 1, zJ 10000]) (rest := [zR 11 0]) (dy := 2) (my := 0) (sy := 0) lX11_164 tX11_lies dX11_mark_12 rfl rfl (gd_room (by omega) (by decide)) (by decide) (Nat.le_of_ble_eq_true rfl) h (fun r3 v2 h => ?_)
  refine gd_iconst (x9 := 1) dX11_mark_15 (by decide) ?_
  refine gd_iconst (x9 := 1) dX11_mark_16 (by decide) ?_
  refine gd_callVI (As := [zI r3, zI 1, zI 1]) (rest := []) (dy := 2) (my := 0) (sy := 0) (k := 11) (i := 0) lX11_264 iX11_isFine sX11_isFine rfl dX11_mark_17 rfl rfl (gd_room (by omega) (by decide)) (by decide) (Nat.le_of_ble_eq_true rfl) h (fun r5 v4 h => ?_)
  refine gd_if_ne (tgt := 25) dX11_mark_20 (by decide) (fun hc => ?_) (fun hc => ?_)
  · have h := h.1 hc
    refine gd_aload_n 0 dX11_mark_25 rfl rfl ?_
    refine gd_callVV (As := []) (rest := []) (dy := 2) (my := 0) (sy := 0) (k := 11) (i := 0) lX11_275 iX11_keeps sX11_keeps rfl dX11_mark_26 rfl rfl (gd_room (by omega) (by decide)) (by decide) (Nat.le_of_ble_eq_true rfl) h (fun v6 h => ?_)
    refine gd_aload_n 0 dX11_mark_29 rfl rfl ?_
    refine gd_getR (x := 0) (kr := 40) fX11_17 rfl rfl dX11_mark_30 rfl ?_
    refine gd_iconst (x9 := 3) dX11_mark_33 (by decide) ?_
    obtain ⟨hb, h⟩ := h
    refine gd_laload (n := 773) (by decide) rfl dX11_mark_34 rfl hb ?_
    refine gd_l2i dX11_mark_35 ?_
    refine gd_nmI (fun x8 ex8 => ?_)
    have h := h x8 ex8
    refine gd_istore_n (L' := [(2, zI x8), (0, zR 11 0), (1, zI a1)]) dX11_mark_36 rfl (by decide) rfl ?_
    refine gd_aload_n 1 dX11_mark_37 rfl rfl ?_
    refine gd_getR (x := 0) (kr := 40) fX11_17 rfl rfl dX11_mark_38 rfl ?_
    refine gd_iconst (x9 := 3) dX11_mark_41 (by decide) ?_
    refine gd_iload_n 2 dX11_mark_42 rfl rfl ?_
    refine gd_i2l dX11_mark_43 ?_
    obtain ⟨hb, h⟩ := h
    refine gd_lastoren (n := 773) (by decide) rfl rfl dX11_mark_44 rfl hb (fun v9 ev9 => ?_)
    have h := h v9 ev9
    refine gd_iload_n 0 dX11_mark_45 rfl rfl ?_
    exact gd_iret (ty := .int) dX11_mark_46 rfl rfl h
  · have h := h.2 hc
    refine gd_iconst (x9 := 0) dX11_mark_23 (by decide) ?_
    exact gd_iret (ty := .int) dX11_mark_24 rfl rfl h
theorem c_X11_mark {g : ab_E} {d : Nat} {a1 : Int32} {v : gd_D} {Q : ab_O → gd_D → Prop} (hd : 3 ≤ d) (h : wp_X11_mark g d a1 v Q) : gd_C g mX11_mark d 0 0 [zR 11 0, zI a1] v Q := gd_enterF (plainFor_of_name (by decide)) (Nat.le_of_ble_eq_true rfl) rfl (w_X11_mark hd h)
def wp_X11_partOf (g : ab_E) (d : Nat) (a1 : Int32) (a2 : Int32) (v : gd_D) (Q : ab_O → gd_D → Prop) : Prop :=
  ((a2 : Int32) = 0 →
    vp_in 2 773 ∧
    gd_C g mX11_of0 2 0 0 [zR 11 0, zI a1, zI 4] v (gd_rI (fun (r2 : Int32) v1 =>
      ∀ y3 : Int64, y3 = (v.2.1 40 0 (2 : Int32).toNatClampNeg) - ((r2 : Int32).toInt64) →
      Q (Sum.inl (some (zJ y3))) v1) (fun E v9 => Q (Sum.inr E) v9))) ∧
  ((a2 : Int32) = 1 →
    gd_C g mX11_of0 2 0 0 [zR 11 0, zI a1, zI 5] v (gd_rI (fun (r5 : Int32) v4 =>
      Q (Sum.inl (some (zJ ((r5 : Int32).toInt64)))) v4) (fun E v9 => Q (Sum.inr E) v9))) ∧
  ((a2 : Int32) = 2 →
    gd_C g mX11_of0 2 0 0 [zR 11 0, zI a1, zI 2] v (gd_rI (fun (r7 : Int32) v6 =>
      Q (Sum.inl (some (zJ ((r7 : Int32).toInt64)))) v6) (fun E v9 => Q (Sum.inr E) v9))) ∧
  ((a2 : Int32) = 3 →
    gd_C g mX11_of0 2 0 0 [zR 11 0, zI a1, zI 3] v (gd_rI (fun (r9 : Int32) v8 =>
      Q (Sum.inl (some (zJ ((r9 : Int32).toInt64)))) v8) (fun E v9 => Q (Sum.inr E) v9))) ∧
  ((a2 : Int32) = 4 →
    gd_C g mX11_of0 2 0 0 [zR 11 0, zI a1, zI 0] v (gd_rI (fun (r11 : Int32) v10 =>
      Q (Sum.inl (some (zJ ((r11 : Int32).toInt64)))) v10) (fun E v9 => Q (Sum.inr E) v9))) ∧
  ((a2 : Int32) = 5 →
    gd_C g mX11_of0 2 0 0 [zR 11 0, zI a1, zI 1] v (gd_rI (fun (r13 : Int32) v12 =>
      Q (Sum.inl (some (zJ ((r13 : Int32).toInt64)))) v12) (fun E v9 => Q (Sum.inr E) v9))) ∧
  (((a2 : Int32).toInt < 0 ∨ 5 < (a2 : Int32).toInt) →
    gd_C g mX11_of0 2 0 0 [zR 11 0, zI a1, zI 4] v (gd_rI (fun (r15 : Int32) v14 =>
      Q (Sum.inl (some (zJ ((r15 : Int32).toInt64)))) v14) (fun E v9 => Q (Sum.inr E) v9)))
theorem w_X11_partOf {g : ab_E} {d : Nat} {a1 : Int32} {a2 : Int32} {v : gd_D} {Q : ab_O → gd_D → Prop} (hd : 3 ≤ d) (h : wp_X11_partOf g d a1 a2 v Q) : gd_G g mX11_partOf d 0 0 0 [(0, zR 11 0), (1, zI a1), (2, zI a2)] [] v Q := by
  unfold wp_X11_partOf at h
  refine gd_iload_n 2 dX11_partOf_0 rfl rfl ?_
  rcases sw_0_5 a2 with hc | hc | hc | hc | hc | hc | hc
  · refine gd_tableIn (off := 39) (tgt := 40) dX11_partOf_1 (by rw [hc]; decide) (by rw [hc]; decide) (by rw [hc]; decide) (by decide) ?_
    have h := h.1 hc
    refine gd_aload_n 0 dX11_partOf_40 rfl rfl ?_
    refine gd_getR (x := 0) (kr := 40) fX11_17 rfl rfl dX11_partOf_41 rfl ?_
    refine gd_iconst (x9 := 2) dX11_partOf_44 (by decide) ?_
    obtain ⟨hb, h⟩ := h
    refine gd_laload (n := 773) (by decide) rfl dX11_partOf_45 rfl hb ?_
    refine gd_aload_n 0 dX11_partOf_46 rfl rfl ?_
    refine gd_iload_n 1 dX11_partOf_47 rfl rfl ?_
    refine gd_iconst (x9 := 4) dX11_partOf_48 (by decide) ?_
    refine gd_callVI (As := [zI a1, zI 4]) (rest := [zJ (v.2.1 40 0 (2 : Int32).toNatClampNeg)]) (dy := 2) (my := 0) (sy := 0) (k := 11) (i := 0) lX11_289 iX11_of0 sX11_of0 rfl dX11_partOf_49 rfl rfl (gd_room (by omega) (by decide)) (by decide) (Nat.le_of_ble_eq_true rfl) h (fun r2 v1 h => ?_)
    refine gd_i2l dX11_partOf_52 ?_
    refine gd_lsub dX11_partOf_53 ?_
    refine gd_nmJ (fun y3 ey3 => ?_)
    have h := h y3 ey3
    exact gd_lret dX11_partOf_54 rfl h
  · refine gd_tableIn (off := 54) (tgt := 55) dX11_partOf_1 (by rw [hc]; decide) (by rw [hc]; decide) (by rw [hc]; decide) (by decide) ?_
    have h := h.2.1 hc
    refine gd_aload_n 0 dX11_partOf_55 rfl rfl ?_
    refine gd_iload_n 1 dX11_partOf_56 rfl rfl ?_
    refine gd_iconst (x9 := 5) dX11_partOf_57 (by decide) ?_
    refine gd_callVI (As := [zI a1, zI 5]) (rest := []) (dy := 2) (my := 0) (sy := 0) (k := 11) (i := 0) lX11_289 iX11_of0 sX11_of0 rfl dX11_partOf_58 rfl rfl (gd_room (by omega) (by decide)) (by decide) (Nat.le_of_ble_eq_true rfl) h (fun r5 v4 h => ?_)
    refine gd_i2l dX11_partOf_61 ?_
    exact gd_lret dX11_partOf_62 rfl h
  · refine gd_tableIn (off := 62) (tgt := 63) dX11_partOf_1 (by rw [hc]; decide) (by rw [hc]; decide) (by rw [hc]; decide) (by decide) ?_
    have h := h.2.2.1 hc
    refine gd_aload_n 0 dX11_partOf_63 rfl rfl ?_
    refine gd_iload_n 1 dX11_partOf_64 rfl rfl ?_
    refine gd_iconst (x9 := 2) dX11_partOf_65 (by decide) ?_
    refine gd_callVI (As := [zI a1, zI 2]) (rest := []) (dy := 2) (my := 0) (sy := 0) (k := 11) (i := 0) lX11_289 iX11_of0 sX11_of0 rfl dX11_partOf_66 rfl rfl (gd_room (by omega) (by decide)) (by decide) (Nat.le_of_ble_eq_true rfl) h (fun r7 v6 h => ?_)
    refine gd_i2l dX11_partOf_69 ?_
    exact gd_lret dX11_partOf_70 rfl h
  · refine gd_tableIn (off := 70) (tgt := 71) dX11_partOf_1 (by rw [hc]; decide) (by rw [hc]; decide) (by rw [hc]; decide) (by decide) ?_
    have h := h.2.2.2.1 hc
    refine gd_aload_n 0 dX11_partOf_71 rfl rfl ?_
    refine gd_iload_n 1 dX11_partOf_72 rfl rfl ?_
    refine gd_iconst (x9 := 3) dX11_partOf_73 (by decide) ?_
    refine gd_callVI (As := [zI a1, zI 3]) (rest := []) (dy := 2) (my := 0) (sy := 0) (k := 11) (i := 0) lX11_289 iX11_of0 sX11_of0 rfl dX11_partOf_74 rfl rfl (gd_room (by omega) (by decide)) (by decide) (Nat.le_of_ble_eq_true rfl) h (fun r9 v8 h => ?_)
    refine gd_i2l dX11_partOf_77 ?_
    exact gd_lret dX11_partOf_78 rfl h
  · refine gd_tableIn (off := 78) (tgt := 79) dX11_partOf_1 (by rw [hc]; decide) (by rw [hc]; decide) (by rw [hc]; decide) (by decide) ?_
    have h := h.2.2.2.2.1 hc
    refine gd_aload_n 0 dX11_partOf_79 rfl rfl ?_
    refine gd_iload_n 1 dX11_partOf_80 rfl rfl ?_
    refine gd_iconst (x9 := 0) dX11_partOf_81 (by decide) ?_
    refine gd_callVI (As := [zI a1, zI 0]) (rest := []) (dy := 2) (my := 0) (sy := 0) (k := 11) (i := 0) lX11_289 iX11_of0 sX11_of0 rfl dX11_partOf_82 rfl rfl (gd_room (by omega) (by decide)) (by decide) (Nat.le_of_ble_eq_true rfl) h (fun r11 v10 h => ?_)
    refine gd_i2l dX11_partOf_85 ?_
    exact gd_lret dX11_partOf_86 rfl h
  · refine gd_tableIn (off := 86) (tgt := 87) dX11_partOf_1 (by rw [hc]; decide) (by rw [hc]; decide) (by rw [hc]; decide) (by decide) ?_
    have h := h.2.2.2.2.2.1 hc
    refine gd_aload_n 0 dX11_partOf_87 rfl rfl ?_
    refine gd_iload_n 1 dX11_partOf_88 rfl rfl ?_
    refine gd_iconst (x9 := 1) dX11_partOf_89 (by decide) ?_
    refine gd_callVI (As := [zI a1, zI 1]) (rest := []) (dy := 2) (my := 0) (sy := 0) (k := 11) (i := 0) lX11_289 iX11_of0 sX11_of0 rfl dX11_partOf_90 rfl rfl (gd_room (by omega) (by decide)) (by decide) (Nat.le_of_ble_eq_true rfl) h (fun r13 v12 h => ?_)
    refine gd_i2l dX11_partOf_93 ?_
    exact gd_lret dX11_partOf_94 rfl h
  · refine gd_tableOut (tgt := 95) dX11_partOf_1 hc (by decide) ?_
    have h := h.2.2.2.2.2.2 hc
    refine gd_aload_n 0 dX11_partOf_95 rfl rfl ?_
    refine gd_iload_n 1 dX11_partOf_96 rfl rfl ?_
    refine gd_iconst (x9 := 4) dX11_partOf_97 (by decide) ?_
    refine gd_callVI (As := [zI a1, zI 4]) (rest := []) (dy := 2) (my := 0) (sy := 0) (k := 11) (i := 0) lX11_289 iX11_of0 sX11_of0 rfl dX11_partOf_98 rfl rfl (gd_room (by omega) (by decide)) (by decide) (Nat.le_of_ble_eq_true rfl) h (fun r15 v14 h => ?_)
    refine gd_i2l dX11_partOf_101 ?_
    exact gd_lret dX11_partOf_102 rfl h
theorem c_X11_partOf {g : ab_E} {d : Nat} {a1 : Int32} {a2 : Int32} {v : gd_D} {Q : ab_O → gd_D → Prop} (hd : 3 ≤ d) (h : wp_X11_partOf g d a1 a2 v Q) : gd_C g mX11_partOf d 0 0 [zR 11 0, zI a1, zI a2] v Q := gd_enterF (plainFor_of_name (by decide)) (Nat.le_of_ble_eq_true rfl) rfl (w_X11_partOf hd h)
def wp_X11_ruled (g : ab_E) (d : Nat) (a1 : Int32) (v : gd_D) (Q : ab_O → gd_D → Prop) : Prop :=
  gd_G g mX11_ruled d 0 0 4 [(0, zR 11 0), (1, zI a1), (2, zI 0), (3, zI 0)] [] v Q
theorem w_X11_ruled {g : ab_E} {d : Nat} {a1 : Int32} {v : gd_D} {Q : ab_O → gd_D → Prop} (hd : 0 ≤ d) (h : wp_X11_ruled g d a1 v Q) : gd_G g mX11_ruled d 0 0 0 [(0, zR 11 0), (1, zI a1)] [] v Q := by
  unfold wp_X11_ruled at h
  refine gd_iconst (x9 := 0) dX11_ruled_0 (by decide) ?_
  refine gd_istore_n (L' := [(2, zI 0), (0, zR 11 0), (1, zI a1)]) dX11_ruled_1 rfl (by decide) rfl ?_
  refine gd_iconst (x9 := 0) dX11_ruled_2 (by decide) ?_
  refine gd_istore_n (L' := [(3, zI 0), (2, zI 0), (0, zR 11 0), (1, zI a1)]) dX11_ruled_3 rfl (by decide) rfl ?_
  refine gd_locals [2, 3, 1, 0] rfl ?_
  exact h
def wp_X11_ruled_185 (g : ab_E) (d : Nat) (a1 : Int32) (a2 : Int32) (a3 : Int32) (s1 : Int32) (s2 : Int64) (v : gd_D) (Q : ab_O → gd_D → Prop) : Prop :=
  vp_in s1 500 ∧
  ∀ v1 : gd_D, v1 = gd_sJ v 46 0 ((s1 : Int32).toNatClampNeg) s2 →
  gd_G g mX11_ruled d 0 0 4 [(0, zR 11 0), (1, zI a1), (2, zI a2), (3, zI (a3 + 1))] [] v1 Q
theorem w_X11_ruled_185 {g : ab_E} {d : Nat} {a1 : Int32} {a2 : Int32} {a3 : Int32} {s1 : Int32} {s2 : Int64} {v : gd_D} {Q : ab_O → gd_D → Prop} (hd : 0 ≤ d) (h : wp_X11_ruled_185 g d a1 a2 a3 s1 s2 v Q) : gd_G g mX11_ruled d 0 0 185 [(0, zR 11 0), (1, zI a1), (2, zI a2), (3, zI a3)] [zJ s2, zI s1, zR 46 0] v Q := by
  unfold wp_X11_ruled_185 at h
  obtain ⟨hb, h⟩ := h
  refine gd_lastoren (n := 500) (by decide) rfl rfl dX11_ruled_185 rfl hb (fun v1 ev1 => ?_)
  have h := h v1 ev1
  refine gd_iinc (x9 := a3 + 1) (L' := [(3, zI (a3 + 1)), (0, zR 11 0), (1, zI a1), (2, zI a2)]) 3 dX11_ruled_186 rfl rfl (by decide) rfl ?_
  refine gd_goto (tgt := 4) dX11_ruled_189 (by decide) ?_
  refine gd_locals [1, 2, 3, 0] rfl ?_
  exact h
def wp_X11_ruled_78 (g : ab_E) (d : Nat) (a1 : Int32) (a2 : Int32) (a3 : Int32) (s1 : Int32) (s2 : Int64) (v : gd_D) (Q : ab_O → gd_D → Prop) : Prop :=
  vp_in s1 500 ∧
  ∀ v1 : gd_D, v1 = gd_sJ v 46 0 ((s1 : Int32).toNatClampNeg) s2 →
  gd_G g mX11_ruled d 0 0 4 [(0, zR 11 0), (1, zI a1), (2, zI (a2 + 1)), (3, zI (a3 + 1))] [] v1 Q
theorem w_X11_ruled_78 {g : ab_E} {d : Nat} {a1 : Int32} {a2 : Int32} {a3 : Int32} {s1 : Int32} {s2 : Int64} {v : gd_D} {Q : ab_O → gd_D → Prop} (hd : 0 ≤ d) (h : wp_X11_ruled_78 g d a1 a2 a3 s1 s2 v Q) : gd_G g mX11_ruled d 0 0 78 [(0, zR 11 0), (1, zI a1), (2, zI a2), (3, zI a3)] [zJ s2, zI s1, zR 46 0] v Q := by
  unfold wp_X11_ruled_78 at h
  obtain ⟨hb, h⟩ := h
  refine gd_lastoren (n := 500) (by decide) rfl rfl dX11_ruled_78 rfl hb (fun v1 ev1 => ?_)
  have h := h v1 ev1
  refine gd_iinc (x9 := a2 + 1) (L' := [(2, zI (a2 + 1)), (0, zR 11 0), (1, zI a1), (3, zI a3)]) 2 dX11_ruled_79 rfl rfl (by decide) rfl ?_
  refine gd_goto (tgt := 186) dX11_ruled_82 (by decide) ?_
  refine gd_iinc (x9 := a3 + 1) (L' := [(3, zI (a3 + 1)), (2, zI (a2 + 1)), (0, zR 11 0), (1, zI a1)]) 3 dX11_ruled_186 rfl rfl (by decide) rfl ?_
  refine gd_goto (tgt := 4) dX11_ruled_189 (by decide) ?_
  refine gd_locals [2, 3, 1, 0] rfl ?_
  exact h
def wp_X11_ruled_47 (g : ab_E) (d : Nat) (a1 : Int32) (a2 : Int32) (a3 : Int32) (a4 : Int64) (v : gd_D) (Q : ab_O → gd_D → Prop) : Prop :=
  (((2000000 : Int64) ≤ a4) →
    gd_C g mX11_partOf 3 0 0 [zR 11 0, zI a1, zI ((a4 - 3000000 : Int64).toInt32)] v (gd_rJ (fun (r2 : Int64) v1 =>
      wp_X11_ruled_78 g d a1 a2 a3 a2 r2 v1 Q) (fun E v9 => Q (Sum.inr E) v9))) ∧
  ((¬ (2000000 : Int64) ≤ a4) →
    wp_X11_ruled_78 g d a1 a2 a3 a2 a4 v Q)
theorem w_X11_ruled_47 {g : ab_E} {d : Nat} {a1 : Int32} {a2 : Int32} {a3 : Int32} {a4 : Int64} {v : gd_D} {Q : ab_O → gd_D → Prop} (hd : 4 ≤ d) (h : wp_X11_ruled_47 g d a1 a2 a3 a4 v Q) : gd_G g mX11_ruled d 0 0 47 [(0, zR 11 0), (1, zI a1), (2, zI a2), (3, zI a3), (4, zJ a4)] [] v Q := by
  unfold wp_X11_ruled_47 at h
  refine gd_aload_n 0 dX11_ruled_47 rfl rfl ?_
  refine gd_getR (x := 0) (kr := 46) fX11_40 rfl rfl dX11_ruled_48 rfl ?_
  refine gd_iload_n 2 dX11_ruled_51 rfl rfl ?_
  refine gd_lload 4 dX11_ruled_52 rfl ?_
  refine gd_ldc2 kX11_185 dX11_ruled_54 ?_
  refine gd_lc_ge (tgt := 66) dX11_ruled_57 dX11_ruled_58 (by decide) (fun hc => ?_) (fun hc => ?_)
  · have h := h.1 hc
    refine gd_aload_n 0 dX11_ruled_66 rfl rfl ?_
    refine gd_iload_n 1 dX11_ruled_67 rfl rfl ?_
    refine gd_lload 4 dX11_ruled_68 rfl ?_
    refine gd_ldc2 kX11_223 dX11_ruled_70 ?_
    refine gd_lsub dX11_ruled_73 ?_
    refine gd_l2i dX11_ruled_74 ?_
    refine gd_callVJ (As := [zI a1, zI ((a4 - 3000000 : Int64).toInt32)]) (rest := [zI a2, zR 46 0]) (dy := 3) (my := 0) (sy := 0) (k := 11) (i := 0) lX11_293 iX11_partOf sX11_partOf rfl dX11_ruled_75 rfl rfl (gd_room (by omega) (by decide)) (by decide) (Nat.le_of_ble_eq_true rfl) h (fun r2 v1 h => ?_)
    refine gd_locals [0, 1, 2, 3] rfl ?_
    exact w_X11_ruled_78 (by omega) h
  · have h := h.2 hc
    refine gd_lload 4 dX11_ruled_61 rfl ?_
    refine gd_goto (tgt := 78) dX11_ruled_63 (by decide) ?_
    refine gd_locals [0, 1, 2, 3] rfl ?_
    exact w_X11_ruled_78 (by omega) h
def wp_X11_ruled_4 (g : ab_E) (d : Nat) (a1 : Int32) (a2 : Int32) (a3 : Int32) (v : gd_D) (Q : ab_O → gd_D → Prop) : Prop :=
  vp_in 7 773 ∧
  (((v.2.1 40 0 (7 : Int32).toNatClampNeg : Int64) ≤ ((a3 : Int32).toInt64)) →
    ((¬ (a2 : Int32) = 0) →
      vp_in 0 500 ∧
      Q (Sum.inl (some (zJ (v.2.1 46 0 (0 : Int32).toNatClampNeg)))) v) ∧
    (((a2 : Int32) = 0) →
      Q (Sum.inl (some (zJ 0))) v)) ∧
  ((¬ (v.2.1 40 0 (7 : Int32).toNatClampNeg : Int64) ≤ ((a3 : Int32).toInt64)) →
    vp_in (273 + a3) 773 ∧
    (((v.2.1 40 0 (273 + a3 : Int32).toNatClampNeg : Int64) < 2000000) →
      wp_X11_ruled_47 g d a1 a2 a3 (v.2.1 40 0 (273 + a3 : Int32).toNatClampNeg) v Q) ∧
    ((¬ (v.2.1 40 0 (273 + a3 : Int32).toNatClampNeg : Int64) < 2000000) →
      (((v.2.1 40 0 (273 + a3 : Int32).toNatClampNeg : Int64) < 3000000) →
        ((¬ (v.2.1 40 0 (273 + a3 : Int32).toNatClampNeg : Int64) = 2000110) →
          vp_in ((a2 + (-1)) - 1) 500 ∧
          ∀ y1 : Int64, y1 = v.2.1 46 0 ((a2 + (-1)) - 1 : Int32).toNatClampNeg →
          ((¬ (v.2.1 40 0 (273 + a3 : Int32).toNatClampNeg : Int64) = 2000043) →
            ((¬ (v.2.1 40 0 (273 + a3 : Int32).toNatClampNeg : Int64) = 2000045) →
              vp_in (a2 + (-1)) 500 ∧
              ∀ y2 : Int64, y2 = y1 * (v.2.1 46 0 (a2 + (-1) : Int32).toNatClampNeg) →
              wp_X11_ruled_185 g d a1 (a2 + (-1)) a3 ((a2 + (-1)) - 1) y2 v Q) ∧
            (((v.2.1 40 0 (273 + a3 : Int32).toNatClampNeg : Int64) = 2000045) →
              vp_in (a2 + (-1)) 500 ∧
              ∀ y3 : Int64, y3 = y1 - (v.2.1 46 0 (a2 + (-1) : Int32).toNatClampNeg) →
              wp_X11_ruled_185 g d a1 (a2 + (-1)) a3 ((a2 + (-1)) - 1) y3 v Q)) ∧
          (((v.2.1 40 0 (273 + a3 : Int32).toNatClampNeg : Int64) = 2000043) →
            vp_in (a2 + (-1)) 500 ∧
            ∀ y4 : Int64, y4 = y1 + (v.2.1 46 0 (a2 + (-1) : Int32).toNatClampNeg) →
            wp_X11_ruled_185 g d a1 (a2 + (-1)) a3 ((a2 + (-1)) - 1) y4 v Q)) ∧
        (((v.2.1 40 0 (273 + a3 : Int32).toNatClampNeg : Int64) = 2000110) →
          vp_in (a2 - 1) 500 ∧
          vp_in (a2 - 1) 500 ∧
          ∀ v5 : gd_D, v5 = gd_sJ v 46 0 ((a2 - 1 : Int32).toNatClampNeg) (-(v.2.1 46 0 (a2 - 1 : Int32).toNatClampNeg)) →
          gd_G g mX11_ruled d 0 0 4 [(0, zR 11 0), (1, zI a1), (2, zI a2), (3, zI (a3 + 1))] [] v5 Q)) ∧
      ((¬ (v.2.1 40 0 (273 + a3 : Int32).toNatClampNeg : Int64) < 3000000) →
        wp_X11_ruled_47 g d a1 a2 a3 (v.2.1 40 0 (273 + a3 : Int32).toNatClampNeg) v Q)))
theorem w_X11_ruled_4 {g : ab_E} {d : Nat} {a1 : Int32} {a2 : Int32} {a3 : Int32} {v : gd_D} {Q : ab_O → gd_D → Prop} (hd : 4 ≤ d) (h : wp_X11_ruled_4 g d a1 a2 a3 v Q) : gd_G g mX11_ruled d 0 0 4 [(0, zR 11 0), (1, zI a1), (2, zI a2), (3, zI a3)] [] v Q := by
  unfold wp_X11_ruled_4 at h
  refine gd_iload_n 3 dX11_ruled_4 rfl rfl ?_
  refine gd_i2l dX11_ruled_5 ?_
  refine gd_aload_n 0 dX11_ruled_6 rfl rfl ?_
  refine gd_getR (x := 0) (kr := 40) fX11_17 rfl rfl dX11_ruled_7 rfl ?_
  refine gd_bipush (x9 := 7) dX11_ruled_10 (by decide) ?_
  obtain ⟨hb, h⟩ := h
  refine gd_laload (n := 773) (by decide) rfl dX11_ruled_12 rfl hb ?_
  refine gd_lc_ge (tgt := 192) dX11_ruled_13 dX11_ruled_14 (by decide) (fun hc => ?_) (fun hc => ?_)
  · have h := h.1 hc
    refine gd_iload_n 2 dX11_ruled_192 rfl rfl ?_
    refine gd_if_ne (tgt := 200) dX11_ruled_193 (by decide) (fun hc => ?_) (fun hc => ?_)
    · have h := h.1 hc
      refine gd_aload_n 0 dX11_ruled_200 rfl rfl ?_
      refine gd_getR (x := 0) (kr := 46) fX11_40 rfl rfl dX11_ruled_201 rfl ?_
      refine gd_iconst (x9 := 0) dX11_ruled_204 (by decide) ?_
      obtain ⟨hb, h⟩ := h
      refine gd_laload (n := 500) (by decide) rfl dX11_ruled_205 rfl hb ?_
      exact gd_lret dX11_ruled_206 rfl h
    · have h := h.2 hc
      refine gd_lconst (x9 := 0) dX11_ruled_196 (by decide) ?_
      refine gd_goto (tgt := 206) dX11_ruled_197 (by decide) ?_
      exact gd_lret dX11_ruled_206 rfl h
  · have h := h.2 hc
    refine gd_aload_n 0 dX11_ruled_17 rfl rfl ?_
    refine gd_getR (x := 0) (kr := 40) fX11_17 rfl rfl dX11_ruled_18 rfl ?_
    refine gd_sipush (x9 := 273) dX11_ruled_21 (by decide) ?_
    refine gd_iload_n 3 dX11_ruled_24 rfl rfl ?_
    refine gd_iadd dX11_ruled_25 ?_
    obtain ⟨hb, h⟩ := h
    refine gd_laload (n := 773) (by decide) rfl dX11_ruled_26 rfl hb ?_
    refine gd_lstore (L' := [(4, zJ (v.2.1 40 0 (273 + a3 : Int32).toNatClampNeg)), (0, zR 11 0), (1, zI a1), (2, zI a2), (3, zI a3)]) dX11_ruled_27 (by decide) rfl ?_
    refine gd_lload 0 dX11_ruled_29 rfl ?_
    refine gd_ldc2 kX11_185 dX11_ruled_31 ?_
    refine gd_lc_lt (tgt := 47) dX11_ruled_34 dX11_ruled_35 (by decide) (fun hc => ?_) (fun hc => ?_)
    · have h := h.1 hc
      refine gd_locals [1, 2, 3, 4, 0] rfl ?_
      exact w_X11_ruled_47 (by omega) h
    · have h := h.2 hc
      refine gd_lload 0 dX11_ruled_38 rfl ?_
      refine gd_ldc2 kX11_223 dX11_ruled_40 ?_
      refine gd_lc_lt (tgt := 85) dX11_ruled_43 dX11_ruled_44 (by decide) (fun hc => ?_) (fun hc => ?_)
      · have h := h.1 hc
        refine gd_lload 0 dX11_ruled_85 rfl ?_
        refine gd_ldc2 kX11_214 dX11_ruled_87 ?_
        refine gd_lc_ne (tgt := 114) dX11_ruled_90 dX11_ruled_91 (by decide) (fun hc => ?_) (fun hc => ?_)
        · have h := h.1 hc
          refine gd_iinc (x9 := a2 + (-1)) (L' := [(2, zI (a2 + (-1))), (4, zJ (v.2.1 40 0 (273 + a3 : Int32).toNatClampNeg)), (0, zR 11 0), (1, zI a1), (3, zI a3)]) 3 dX11_ruled_114 rfl rfl (by decide) rfl ?_
          refine gd_aload_n 2 dX11_ruled_117 rfl rfl ?_
          refine gd_getR (x := 0) (kr := 46) fX11_40 rfl rfl dX11_ruled_118 rfl ?_
          refine gd_iload_n 0 dX11_ruled_121 rfl rfl ?_
          refine gd_iconst (x9 := 1) dX11_ruled_122 (by decide) ?_
          refine gd_isub dX11_ruled_123 ?_
          obtain ⟨hb, h⟩ := h
          refine gd_laload (n := 500) (by decide) rfl dX11_ruled_124 rfl hb ?_
          refine gd_nmJ (fun y1 ey1 => ?_)
          have h := h y1 ey1
          refine gd_lstore (L' := [(6, zJ y1), (2, zI (a2 + (-1))), (4, zJ (v.2.1 40 0 (273 + a3 : Int32).toNatClampNeg)), (0, zR 11 0), (1, zI a1), (3, zI a3)]) dX11_ruled_125 (by decide) rfl ?_
          refine gd_aload_n 3 dX11_ruled_127 rfl rfl ?_
          refine gd_getR (x := 0) (kr := 46) fX11_40 rfl rfl dX11_ruled_128 rfl ?_
          refine gd_iload_n 1 dX11_ruled_131 rfl rfl ?_
          refine gd_iconst (x9 := 1) dX11_ruled_132 (by decide) ?_
          refine gd_isub dX11_ruled_133 ?_
          refine gd_lload 2 dX11_ruled_134 rfl ?_
          refine gd_ldc2 kX11_297 dX11_ruled_136 ?_
          refine gd_lc_ne (tgt := 155) dX11_ruled_139 dX11_ruled_140 (by decide) (fun hc => ?_) (fun hc => ?_)
          · have h := h.1 hc
            refine gd_lload 2 dX11_ruled_155 rfl ?_
            refine gd_ldc2 kX11_299 dX11_ruled_157 ?_
            refine gd_lc_ne (tgt := 176) dX11_ruled_160 dX11_ruled_161 (by decide) (fun hc => ?_) (fun hc => ?_)
            · have h := h.1 hc
              refine gd_lload 0 dX11_ruled_176 rfl ?_
              refine gd_aload_n 3 dX11_ruled_178 rfl rfl ?_
              refine gd_getR (x := 0) (kr := 46) fX11_40 rfl rfl dX11_ruled_179 rfl ?_
              refine gd_iload_n 1 dX11_ruled_182 rfl rfl ?_
              obtain ⟨hb, h⟩ := h
              refine gd_laload (n := 500) (by decide) rfl dX11_ruled_183 rfl hb ?_
              refine gd_lmul dX11_ruled_184 ?_
              refine gd_nmJ (fun y2 ey2 => ?_)
              have h := h y2 ey2
              refine gd_locals [3, 4, 1, 5] rfl ?_
              exact w_X11_ruled_185 (by omega) h
            · have h := h.2 hc
              refine gd_lload 0 dX11_ruled_164 rfl ?_
              refine gd_aload_n 3 dX11_ruled_166 rfl rfl ?_
              refine gd_getR (x := 0) (kr := 46) fX11_40 rfl rfl dX11_ruled_167 rfl ?_
              refine gd_iload_n 1 dX11_ruled_170 rfl rfl ?_
              obtain ⟨hb, h⟩ := h
              refine gd_laload (n := 500) (by decide) rfl dX11_ruled_171 rfl hb ?_
              refine gd_lsub dX11_ruled_172 ?_
              refine gd_nmJ (fun y3 ey3 => ?_)
              have h := h y3 ey3
              refine gd_goto (tgt := 185) dX11_ruled_173 (by decide) ?_
              refine gd_locals [3, 4, 1, 5] rfl ?_
              exact w_X11_ruled_185 (by omega) h
          · have h := h.2 hc
            refine gd_lload 0 dX11_ruled_143 rfl ?_
            refine gd_aload_n 3 dX11_ruled_145 rfl rfl ?_
            refine gd_getR (x := 0) (kr := 46) fX11_40 rfl rfl dX11_ruled_146 rfl ?_
            refine gd_iload_n 1 dX11_ruled_149 rfl rfl ?_
            obtain ⟨hb, h⟩ := h
            refine gd_laload (n := 500) (by decide) rfl dX11_ruled_150 rfl hb ?_
            refine gd_ladd dX11_ruled_151 ?_
            refine gd_nmJ (fun y4 ey4 => ?_)
            have h := h y4 ey4
            refine gd_goto (tgt := 185) dX11_ruled_152 (by decide) ?_
            refine gd_locals [3, 4, 1, 5] rfl ?_
            exact w_X11_ruled_185 (by omega) h
        · have h := h.2 hc
          refine gd_aload_n 1 dX11_ruled_94 rfl rfl ?_
          refine gd_getR (x := 0) (kr := 46) fX11_40 rfl rfl dX11_ruled_95 rfl ?_
          refine gd_iload_n 3 dX11_ruled_98 rfl rfl ?_
          refine gd_iconst (x9 := 1) dX11_ruled_99 (by decide) ?_
          refine gd_isub dX11_ruled_100 ?_
          refine gd_aload_n 1 dX11_ruled_101 rfl rfl ?_
          refine gd_getR (x := 0) (kr := 46) fX11_40 rfl rfl dX11_ruled_102 rfl ?_
          refine gd_iload_n 3 dX11_ruled_105 rfl rfl ?_
          refine gd_iconst (x9 := 1) dX11_ruled_106 (by decide) ?_
          refine gd_isub dX11_ruled_107 ?_
          obtain ⟨hb, h⟩ := h
          refine gd_laload (n := 500) (by decide) rfl dX11_ruled_108 rfl hb ?_
          refine gd_lneg dX11_ruled_109 ?_
          obtain ⟨hb, h⟩ := h
          refine gd_lastoren (n := 500) (by decide) rfl rfl dX11_ruled_110 rfl hb (fun v5 ev5 => ?_)
          have h := h v5 ev5
          refine gd_goto (tgt := 186) dX11_ruled_111 (by decide) ?_
          refine gd_iinc (x9 := a3 + 1) (L' := [(3, zI (a3 + 1)), (4, zJ (v.2.1 40 0 (273 + a3 : Int32).toNatClampNeg)), (0, zR 11 0), (1, zI a1), (2, zI a2)]) 4 dX11_ruled_186 rfl rfl (by decide) rfl ?_
          refine gd_goto (tgt := 4) dX11_ruled_189 (by decide) ?_
          refine gd_locals [2, 3, 4, 0] rfl ?_
          exact h
      · have h := h.2 hc
        refine gd_locals [1, 2, 3, 4, 0] rfl ?_
        exact w_X11_ruled_47 (by omega) h
theorem c_X11_ruled {g : ab_E} {d : Nat} {a1 : Int32} {v : gd_D} {Q : ab_O → gd_D → Prop} (hd : 0 ≤ d) (h : wp_X11_ruled g d a1 v Q) : gd_C g mX11_ruled d 0 0 [zR 11 0, zI a1] v Q := gd_enterF (plainFor_of_name (by decide)) (Nat.le_of_ble_eq_true rfl) rfl (w_X11_ruled hd h)
def wp_X11_orders (g : ab_E) (d : Nat) (v : gd_D) (Q : ab_O → gd_D → Prop) : Prop :=
  gd_G g mX11_orders d 0 0 2 [(0, zR 11 0), (1, zI 0)] [] v Q
theorem w_X11_orders {g : ab_E} {d : Nat} {v : gd_D} {Q : ab_O → gd_D → Prop} (hd : 0 ≤ d) (h : wp_X11_orders g d v Q) : gd_G g mX11_orders d 0 0 0 [(0, zR 11 0)] [] v Q := by
  unfold wp_X11_orders at h
  refine gd_iconst (x9 := 0) dX11_orders_0 (by decide) ?_
  refine gd_istore_n (L' := [(1, zI 0), (0, zR 11 0)]) dX11_orders_1 rfl (by decide) rfl ?_
  refine gd_locals [1, 0] rfl ?_
  exact h
def wp_X11_orders_2 (g : ab_E) (d : Nat) (a1 : Int32) (v : gd_D) (Q : ab_O → gd_D → Prop) : Prop :=
  gd_C g mX11_sales 2 0 0 [zR 11 0] v (gd_rI (fun (r2 : Int32) v1 =>
    (((r2 : Int32) ≤ a1) →
      Q (Sum.inl none) v1) ∧
    ((¬ (r2 : Int32) ≤ a1) →
      gd_C g mX11_ruled 4 0 0 [zR 11 0, zI a1] v1 (gd_rJ (fun (r4 : Int64) v3 =>
        vp_in a1 24 ∧
        ∀ v5 : gd_D, v5 = gd_sJ v3 48 0 ((a1 : Int32).toNatClampNeg) r4 →
        gd_G g mX11_orders d 0 0 23 [(0, zR 11 0), (1, zI a1), (2, zI a1)] [] v5 Q) (fun E v9 => Q (Sum.inr E) v9)))) (fun E v9 => Q (Sum.inr E) v9))
theorem w_X11_orders_2 {g : ab_E} {d : Nat} {a1 : Int32} {v : gd_D} {Q : ab_O → gd_D → Prop} (hd : 5 ≤ d) (h : wp_X11_orders_2 g d a1 v Q) : gd_G g mX11_orders d 0 0 2 [(0, zR 11 0), (1, zI a1)] [] v Q := by
  unfold wp_X11_orders_2 at h
  refine gd_iload_n 1 dX11_orders_2 rfl rfl ?_
  refine gd_aload_n 0 dX11_orders_3 rfl rfl ?_
  refine gd_callVI (As := []) (rest := [zI a1]) (dy := 2) (my := 0) (sy := 0) (k := 11) (i := 0) lX11_278 iX11_sales sX11_sales rfl dX11_orders_4 rfl rfl (gd_room (by omega) (by decide)) (by decide) (Nat.le_of_ble_eq_true rfl) h (fun r2 v1 h => ?_)
  refine gd_icmp_ge (tgt := 83) dX11_orders_7 (by decide) (fun hc => ?_) (fun hc => ?_)
  · have h := h.1 hc
    exact gd_vret dX11_orders_83 rfl h
  · have h := h.2 hc
    refine gd_aload_n 0 dX11_orders_10 rfl rfl ?_
    refine gd_getR (x := 0) (kr := 48) fX11_46 rfl rfl dX11_orders_11 rfl ?_
    refine gd_iload_n 1 dX11_orders_14 rfl rfl ?_
    refine gd_aload_n 0 dX11_orders_15 rfl rfl ?_
    refine gd_iload_n 1 dX11_orders_16 rfl rfl ?_
    refine gd_callVJ (As := [zI a1]) (rest := [zI a1, zR 48 0]) (dy := 4) (my := 0) (sy := 0) (k := 11) (i := 0) lX11_301 iX11_ruled sX11_ruled rfl dX11_orders_17 rfl rfl (gd_room (by omega) (by decide)) (by decide) (Nat.le_of_ble_eq_true rfl) h (fun r4 v3 h => ?_)
    obtain ⟨hb, h⟩ := h
    refine gd_lastoren (n := 24) (by decide) rfl rfl dX11_orders_20 rfl hb (fun v5 ev5 => ?_)
    have h := h v5 ev5
    refine gd_iload_n 1 dX11_orders_21 rfl rfl ?_
    refine gd_istore_n (L' := [(2, zI a1), (0, zR 11 0), (1, zI a1)]) dX11_orders_22 rfl (by decide) rfl ?_
    refine gd_locals [1, 2, 0] rfl ?_
    exact h
def wp_X11_orders_70 (g : ab_E) (d : Nat) (a1 : Int32) (a2 : Int32) (v : gd_D) (Q : ab_O → gd_D → Prop) : Prop :=
  vp_in a2 24 ∧
  ∀ v1 : gd_D, v1 = gd_sI v 47 0 ((a2 : Int32).toNatClampNeg) a1 →
  gd_G g mX11_orders d 0 0 2 [(0, zR 11 0), (1, zI (a1 + 1))] [] v1 Q
theorem w_X11_orders_70 {g : ab_E} {d : Nat} {a1 : Int32} {a2 : Int32} {v : gd_D} {Q : ab_O → gd_D → Prop} (hd : 0 ≤ d) (h : wp_X11_orders_70 g d a1 a2 v Q) : gd_G g mX11_orders d 0 0 70 [(0, zR 11 0), (1, zI a1), (2, zI a2)] [] v Q := by
  unfold wp_X11_orders_70 at h
  refine gd_aload_n 0 dX11_orders_70 rfl rfl ?_
  refine gd_getR (x := 0) (kr := 47) fX11_43 rfl rfl dX11_orders_71 rfl ?_
  refine gd_iload_n 2 dX11_orders_74 rfl rfl ?_
  refine gd_iload_n 1 dX11_orders_75 rfl rfl ?_
  obtain ⟨hb, h⟩ := h
  refine gd_iastoren (n := 24) (by decide) rfl rfl dX11_orders_76 rfl hb (fun v1 ev1 => ?_)
  have h := h v1 ev1
  refine gd_iinc (x9 := a1 + 1) (L' := [(1, zI (a1 + 1)), (0, zR 11 0), (2, zI a2)]) 1 dX11_orders_77 rfl rfl (by decide) rfl ?_
  refine gd_goto (tgt := 2) dX11_orders_80 (by decide) ?_
  refine gd_locals [1, 0] rfl ?_
  exact h
def wp_X11_orders_23 (g : ab_E) (d : Nat) (a1 : Int32) (a2 : Int32) (v : gd_D) (Q : ab_O → gd_D → Prop) : Prop :=
  (((a2 : Int32) ≤ 0) →
    wp_X11_orders_70 g d a1 a2 v Q) ∧
  ((¬ (a2 : Int32) ≤ 0) →
    vp_in (a2 - 1) 24 ∧
    vp_in (v.1 47 0 (a2 - 1 : Int32).toNatClampNeg) 24 ∧
    ∀ y1 : Int64, y1 = v.2.1 48 0 (v.1 47 0 (a2 - 1 : Int32).toNatClampNeg : Int32).toNatClampNeg →
    vp_in a1 24 ∧
    (((v.2.1 48 0 (a1 : Int32).toNatClampNeg : Int64) ≤ y1) →
      wp_X11_orders_70 g d a1 a2 v Q) ∧
    ((¬ (v.2.1 48 0 (a1 : Int32).toNatClampNeg : Int64) ≤ y1) →
      vp_in (a2 - 1) 24 ∧
      vp_in a2 24 ∧
      ∀ v2 : gd_D, v2 = gd_sI v 47 0 ((a2 : Int32).toNatClampNeg) (v.1 47 0 (a2 - 1 : Int32).toNatClampNeg) →
      gd_G g mX11_orders d 0 0 23 [(0, zR 11 0), (1, zI a1), (2, zI (a2 + (-1)))] [] v2 Q))
theorem w_X11_orders_23 {g : ab_E} {d : Nat} {a1 : Int32} {a2 : Int32} {v : gd_D} {Q : ab_O → gd_D → Prop} (hd : 0 ≤ d) (h : wp_X11_orders_23 g d a1 a2 v Q) : gd_G g mX11_orders d 0 0 23 [(0, zR 11 0), (1, zI a1), (2, zI a2)] [] v Q := by
  unfold wp_X11_orders_23 at h
  refine gd_iload_n 2 dX11_orders_23 rfl rfl ?_
  refine gd_if_le (tgt := 70) dX11_orders_24 (by decide) (fun hc => ?_) (fun hc => ?_)
  · have h := h.1 hc
    exact w_X11_orders_70 (by omega) h
  · have h := h.2 hc
    refine gd_aload_n 0 dX11_orders_27 rfl rfl ?_
    refine gd_getR (x := 0) (kr := 48) fX11_46 rfl rfl dX11_orders_28 rfl ?_
    refine gd_aload_n 0 dX11_orders_31 rfl rfl ?_
    refine gd_getR (x := 0) (kr := 47) fX11_43 rfl rfl dX11_orders_32 rfl ?_
    refine gd_iload_n 2 dX11_orders_35 rfl rfl ?_
    refine gd_iconst (x9 := 1) dX11_orders_36 (by decide) ?_
    refine gd_isub dX11_orders_37 ?_
    obtain ⟨hb, h⟩ := h
    refine gd_iaload (n := 24) (by decide) rfl dX11_orders_38 rfl hb ?_
    obtain ⟨hb, h⟩ := h
    refine gd_laload (n := 24) (by decide) rfl dX11_orders_39 rfl hb ?_
    refine gd_nmJ (fun y1 ey1 => ?_)
    have h := h y1 ey1
    refine gd_aload_n 0 dX11_orders_40 rfl rfl ?_
    refine gd_getR (x := 0) (kr := 48) fX11_46 rfl rfl dX11_orders_41 rfl ?_
    refine gd_iload_n 1 dX11_orders_44 rfl rfl ?_
    obtain ⟨hb, h⟩ := h
    refine gd_laload (n := 24) (by decide) rfl dX11_orders_45 rfl hb ?_
    refine gd_lc_ge (tgt := 70) dX11_orders_46 dX11_orders_47 (by decide) (fun hc => ?_) (fun hc => ?_)
    · have h := h.1 hc
      exact w_X11_orders_70 (by omega) h
    · have h := h.2 hc
      refine gd_aload_n 0 dX11_orders_50 rfl rfl ?_
      refine gd_getR (x := 0) (kr := 47) fX11_43 rfl rfl dX11_orders_51 rfl ?_
      refine gd_iload_n 2 dX11_orders_54 rfl rfl ?_
      refine gd_aload_n 0 dX11_orders_55 rfl rfl ?_
      refine gd_getR (x := 0) (kr := 47) fX11_43 rfl rfl dX11_orders_56 rfl ?_
      refine gd_iload_n 2 dX11_orders_59 rfl rfl ?_
      refine gd_iconst (x9 := 1) dX11_orders_60 (by decide) ?_
      refine gd_isub dX11_orders_61 ?_
      obtain ⟨hb, h⟩ := h
      refine gd_iaload (n := 24) (by decide) rfl dX11_orders_62 rfl hb ?_
      obtain ⟨hb, h⟩ := h
      refine gd_iastoren (n := 24) (by decide) rfl rfl dX11_orders_63 rfl hb (fun v2 ev2 => ?_)
      have h := h v2 ev2
      refine gd_iinc (x9 := a2 + (-1)) (L' := [(2, zI (a2 + (-1))), (0, zR 11 0), (1, zI a1)]) 2 dX11_orders_64 rfl rfl (by decide) rfl ?_
      refine gd_goto (tgt := 23) dX11_orders_67 (by decide) ?_
      refine gd_locals [1, 2, 0] rfl ?_
      exact h
theorem c_X11_orders {g : ab_E} {d : Nat} {v : gd_D} {Q : ab_O → gd_D → Prop} (hd : 0 ≤ d) (h : wp_X11_orders g d v Q) : gd_C g mX11_orders d 0 0 [zR 11 0] v Q := gd_enterF (plainFor_of_name (by decide)) (Nat.le_of_ble_eq_true rfl) rfl (w_X11_orders hd h)
def wp_X11_isAsked (g : ab_E) (d : Nat) (a1 : Int32) (v : gd_D) (Q : ab_O → gd_D → Prop) : Prop :=
  gd_C g mX11_of0 2 0 0 [zR 11 0, zI a1, zI 4] v (gd_rI (fun (r2 : Int32) v1 =>
    vp_in 2 773 ∧
    (((v1.2.1 40 0 (2 : Int32).toNatClampNeg : Int64) < ((r2 : Int32).toInt64)) →
      Q (Sum.inl (some (zI 0))) v1) ∧
    ((¬ (v1.2.1 40 0 (2 : Int32).toNatClampNeg : Int64) < ((r2 : Int32).toInt64)) →
      gd_C g mX11_of0 2 0 0 [zR 11 0, zI a1, zI 5] v1 (gd_rI (fun (r4 : Int32) v3 =>
        (((r4 : Int32) ≤ 0) →
          Q (Sum.inl (some (zI 0))) v3) ∧
        ((¬ (r4 : Int32) ≤ 0) →
          Q (Sum.inl (some (zI 1))) v3)) (fun E v9 => Q (Sum.inr E) v9)))) (fun E v9 => Q (Sum.inr E) v9))
theorem w_X11_isAsked {g : ab_E} {d : Nat} {a1 : Int32} {v : gd_D} {Q : ab_O → gd_D → Prop} (hd : 3 ≤ d) (h : wp_X11_isAsked g d a1 v Q) : gd_G g mX11_isAsked d 0 0 0 [(0, zR 11 0), (1, zI a1)] [] v Q := by
  unfold wp_X11_isAsked at h
  refine gd_aload_n 0 dX11_isAsked_0 rfl rfl ?_
  refine gd_iload_n 1 dX11_isAsked_1 rfl rfl ?_
  refine gd_iconst (x9 := 4) dX11_isAsked_2 (by decide) ?_
  refine gd_callVI (As := [zI a1, zI 4]) (rest := []) (dy := 2) (my := 0) (sy := 0) (k := 11) (i := 0) lX11_289 iX11_of0 sX11_of0 rfl dX11_isAsked_3 rfl rfl (gd_room (by omega) (by decide)) (by decide) (Nat.le_of_ble_eq_true rfl) h (fun r2 v1 h => ?_)
  refine gd_i2l dX11_isAsked_6 ?_
  refine gd_aload_n 0 dX11_isAsked_7 rfl rfl ?_
  refine gd_getR (x := 0) (kr := 40) fX11_17 rfl rfl dX11_isAsked_8 rfl ?_
  refine gd_iconst (x9 := 2) dX11_isAsked_11 (by decide) ?_
  obtain ⟨hb, h⟩ := h
  refine gd_laload (n := 773) (by decide) rfl dX11_isAsked_12 rfl hb ?_
  refine gd_lc_gt (tgt := 30) dX11_isAsked_13 dX11_isAsked_14 (by decide) (fun hc => ?_) (fun hc => ?_)
  · have h := h.1 hc
    refine gd_iconst (x9 := 0) dX11_isAsked_30 (by decide) ?_
    exact gd_iret (ty := .boolean) dX11_isAsked_31 rfl rfl h
  · have h := h.2 hc
    refine gd_aload_n 0 dX11_isAsked_17 rfl rfl ?_
    refine gd_iload_n 1 dX11_isAsked_18 rfl rfl ?_
    refine gd_iconst (x9 := 5) dX11_isAsked_19 (by decide) ?_
    refine gd_callVI (As := [zI a1, zI 5]) (rest := []) (dy := 2) (my := 0) (sy := 0) (k := 11) (i := 0) lX11_289 iX11_of0 sX11_of0 rfl dX11_isAsked_20 rfl rfl (gd_room (by omega) (by decide)) (by decide) (Nat.le_of_ble_eq_true rfl) h (fun r4 v3 h => ?_)
    refine gd_if_le (tgt := 30) dX11_isAsked_23 (by decide) (fun hc => ?_) (fun hc => ?_)
    · have h := h.1 hc
      refine gd_iconst (x9 := 0) dX11_isAsked_30 (by decide) ?_
      exact gd_iret (ty := .boolean) dX11_isAsked_31 rfl rfl h
    · have h := h.2 hc
      refine gd_iconst (x9 := 1) dX11_isAsked_26 (by decide) ?_
      refine gd_goto (tgt := 31) dX11_isAsked_27 (by decide) ?_
      exact gd_iret (ty := .boolean) dX11_isAsked_31 rfl rfl h
theorem c_X11_isAsked {g : ab_E} {d : Nat} {a1 : Int32} {v : gd_D} {Q : ab_O → gd_D → Prop} (hd : 3 ≤ d) (h : wp_X11_isAsked g d a1 v Q) : gd_C g mX11_isAsked d 0 0 [zR 11 0, zI a1] v Q := gd_enterF (plainFor_of_name (by decide)) (Nat.le_of_ble_eq_true rfl) rfl (w_X11_isAsked hd h)
def wp_X11_isRung (g : ab_E) (d : Nat) (a1 : Int32) (v : gd_D) (Q : ab_O → gd_D → Prop) : Prop :=
  gd_C g mX11_isAsked 3 0 0 [zR 11 0, zI a1] v (gd_rI (fun (r2 : Int32) v1 =>
    (((r2 : Int32) = 0) →
      Q (Sum.inl (some (zI 0))) v1) ∧
    ((¬ (r2 : Int32) = 0) →
      gd_C g mX11_of0 2 0 0 [zR 11 0, zI a1, zI 5] v1 (gd_rI (fun (r4 : Int32) v3 =>
        vp_in 5 773 ∧
        ((((r4 : Int32).toInt64 : Int64) < (v3.2.1 40 0 (5 : Int32).toNatClampNeg)) →
          Q (Sum.inl (some (zI 0))) v3) ∧
        ((¬ ((r4 : Int32).toInt64 : Int64) < (v3.2.1 40 0 (5 : Int32).toNatClampNeg)) →
          Q (Sum.inl (some (zI 1))) v3)) (fun E v9 => Q (Sum.inr E) v9)))) (fun E v9 => Q (Sum.inr E) v9))
theorem w_X11_isRung {g : ab_E} {d : Nat} {a1 : Int32} {v : gd_D} {Q : ab_O → gd_D → Prop} (hd : 4 ≤ d) (h : wp_X11_isRung g d a1 v Q) : gd_G g mX11_isRung d 0 0 0 [(0, zR 11 0), (1, zI a1)] [] v Q := by
  unfold wp_X11_isRung at h
  refine gd_aload_n 0 dX11_isRung_0 rfl rfl ?_
  refine gd_iload_n 1 dX11_isRung_1 rfl rfl ?_
  refine gd_callVI (As := [zI a1]) (rest := []) (dy := 3) (my := 0) (sy := 0) (k := 11) (i := 0) lX11_305 iX11_isAsked sX11_isAsked rfl dX11_isRung_2 rfl rfl (gd_room (by omega) (by decide)) (by decide) (Nat.le_of_ble_eq_true rfl) h (fun r2 v1 h => ?_)
  refine gd_if_eq (tgt := 29) dX11_isRung_5 (by decide) (fun hc => ?_) (fun hc => ?_)
  · have h := h.1 hc
    refine gd_iconst (x9 := 0) dX11_isRung_29 (by decide) ?_
    exact gd_iret (ty := .boolean) dX11_isRung_30 rfl rfl h
  · have h := h.2 hc
    refine gd_aload_n 0 dX11_isRung_8 rfl rfl ?_
    refine gd_iload_n 1 dX11_isRung_9 rfl rfl ?_
    refine gd_iconst (x9 := 5) dX11_isRung_10 (by decide) ?_
    refine gd_callVI (As := [zI a1, zI 5]) (rest := []) (dy := 2) (my := 0) (sy := 0) (k := 11) (i := 0) lX11_289 iX11_of0 sX11_of0 rfl dX11_isRung_11 rfl rfl (gd_room (by omega) (by decide)) (by decide) (Nat.le_of_ble_eq_true rfl) h (fun r4 v3 h => ?_)
    refine gd_i2l dX11_isRung_14 ?_
    refine gd_aload_n 0 dX11_isRung_15 rfl rfl ?_
    refine gd_getR (x := 0) (kr := 40) fX11_17 rfl rfl dX11_isRung_16 rfl ?_
    refine gd_iconst (x9 := 5) dX11_isRung_19 (by decide) ?_
    obtain ⟨hb, h⟩ := h
    refine gd_laload (n := 773) (by decide) rfl dX11_isRung_20 rfl hb ?_
    refine gd_lc_lt (tgt := 29) dX11_isRung_21 dX11_isRung_22 (by decide) (fun hc => ?_) (fun hc => ?_)
    · have h := h.1 hc
      refine gd_iconst (x9 := 0) dX11_isRung_29 (by decide) ?_
      exact gd_iret (ty := .boolean) dX11_isRung_30 rfl rfl h
    · have h := h.2 hc
      refine gd_iconst (x9 := 1) dX11_isRung_25 (by decide) ?_
      refine gd_goto (tgt := 30) dX11_isRung_26 (by decide) ?_
      exact gd_iret (ty := .boolean) dX11_isRung_30 rfl rfl h
theorem c_X11_isRung {g : ab_E} {d : Nat} {a1 : Int32} {v : gd_D} {Q : ab_O → gd_D → Prop} (hd : 4 ≤ d) (h : wp_X11_isRung g d a1 v Q) : gd_C g mX11_isRung d 0 0 [zR 11 0, zI a1] v Q := gd_enterF (plainFor_of_name (by decide)) (Nat.le_of_ble_eq_true rfl) rfl (w_X11_isRung hd h)
def wp_X11_hasSeller (g : ab_E) (d : Nat) (a1 : Int32) (v : gd_D) (Q : ab_O → gd_D → Prop) : Prop :=
  gd_G g mX11_hasSeller d 0 0 2 [(0, zR 11 0), (1, zI a1), (2, zI 0)] [] v Q
theorem w_X11_hasSeller {g : ab_E} {d : Nat} {a1 : Int32} {v : gd_D} {Q : ab_O → gd_D → Prop} (hd : 0 ≤ d) (h : wp_X11_hasSeller g d a1 v Q) : gd_G g mX11_hasSeller d 0 0 0 [(0, zR 11 0), (1, zI a1)] [] v Q := by
  unfold wp_X11_hasSeller at h
  refine gd_iconst (x9 := 0) dX11_hasSeller_0 (by decide) ?_
  refine gd_istore_n (L' := [(2, zI 0), (0, zR 11 0), (1, zI a1)]) dX11_hasSeller_1 rfl (by decide) rfl ?_
  refine gd_locals [1, 2, 0] rfl ?_
  exact h
def wp_X11_hasSeller_2 (g : ab_E) (d : Nat) (a1 : Int32) (a2 : Int32) (v : gd_D) (Q : ab_O → gd_D → Prop) : Prop :=
  (((v.1 11 0 22 : Int32) ≤ a2) →
    Q (Sum.inl (some (zI 0))) v) ∧
  ((¬ (v.1 11 0 22 : Int32) ≤ a2) →
    vp_in a2 8 ∧
    gd_C g mX11_of0 2 0 0 [zR 11 0, zI (v.1 49 0 (a2 : Int32).toNatClampNeg), zI 0] v (gd_rI (fun (r2 : Int32) v1 =>
      ((¬ (r2 : Int32) = a1) →
        gd_G g mX11_hasSeller d 0 0 2 [(0, zR 11 0), (1, zI a1), (2, zI (a2 + 1))] [] v1 Q) ∧
      (((r2 : Int32) = a1) →
        Q (Sum.inl (some (zI 1))) v1)) (fun E v9 => Q (Sum.inr E) v9)))
theorem w_X11_hasSeller_2 {g : ab_E} {d : Nat} {a1 : Int32} {a2 : Int32} {v : gd_D} {Q : ab_O → gd_D → Prop} (hd : 3 ≤ d) (h : wp_X11_hasSeller_2 g d a1 a2 v Q) : gd_G g mX11_hasSeller d 0 0 2 [(0, zR 11 0), (1, zI a1), (2, zI a2)] [] v Q := by
  unfold wp_X11_hasSeller_2 at h
  refine gd_iload_n 2 dX11_hasSeller_2 rfl rfl ?_
  refine gd_aload_n 0 dX11_hasSeller_3 rfl rfl ?_
  refine gd_getI fX11_308 rfl dX11_hasSeller_4 ?_
  refine gd_icmp_ge (tgt := 33) dX11_hasSeller_7 (by decide) (fun hc => ?_) (fun hc => ?_)
  · have h := h.1 hc
    refine gd_iconst (x9 := 0) dX11_hasSeller_33 (by decide) ?_
    exact gd_iret (ty := .boolean) dX11_hasSeller_34 rfl rfl h
  · have h := h.2 hc
    refine gd_aload_n 0 dX11_hasSeller_10 rfl rfl ?_
    refine gd_aload_n 0 dX11_hasSeller_11 rfl rfl ?_
    refine gd_getR (x := 0) (kr := 49) fX11_49 rfl rfl dX11_hasSeller_12 rfl ?_
    refine gd_iload_n 2 dX11_hasSeller_15 rfl rfl ?_
    obtain ⟨hb, h⟩ := h
    refine gd_iaload (n := 8) (by decide) rfl dX11_hasSeller_16 rfl hb ?_
    refine gd_iconst (x9 := 0) dX11_hasSeller_17 (by decide) ?_
    refine gd_callVI (As := [zI (v.1 49 0 (a2 : Int32).toNatClampNeg), zI 0]) (rest := []) (dy := 2) (my := 0) (sy := 0) (k := 11) (i := 0) lX11_289 iX11_of0 sX11_of0 rfl dX11_hasSeller_18 rfl rfl (gd_room (by omega) (by decide)) (by decide) (Nat.le_of_ble_eq_true rfl) h (fun r2 v1 h => ?_)
    refine gd_iload_n 1 dX11_hasSeller_21 rfl rfl ?_
    refine gd_icmp_ne (tgt := 27) dX11_hasSeller_22 (by decide) (fun hc => ?_) (fun hc => ?_)
    · have h := h.1 hc
      refine gd_iinc (x9 := a2 + 1) (L' := [(2, zI (a2 + 1)), (0, zR 11 0), (1, zI a1)]) 2 dX11_hasSeller_27 rfl rfl (by decide) rfl ?_
      refine gd_goto (tgt := 2) dX11_hasSeller_30 (by decide) ?_
      refine gd_locals [1, 2, 0] rfl ?_
      exact h
    · have h := h.2 hc
      refine gd_iconst (x9 := 1) dX11_hasSeller_25 (by decide) ?_
      exact gd_iret (ty := .boolean) dX11_hasSeller_26 rfl rfl h
theorem c_X11_hasSeller {g : ab_E} {d : Nat} {a1 : Int32} {v : gd_D} {Q : ab_O → gd_D → Prop} (hd : 0 ≤ d) (h : wp_X11_hasSeller g d a1 v Q) : gd_C g mX11_hasSeller d 0 0 [zR 11 0, zI a1] v Q := gd_enterF (plainFor_of_name (by decide)) (Nat.le_of_ble_eq_true rfl) rfl (w_X11_hasSeller hd h)
def wp_X11_canRing (g : ab_E) (d : Nat) (a1 : Int32) (v : gd_D) (Q : ab_O → gd_D → Prop) : Prop :=
  gd_C g mX11_isRung 4 0 0 [zR 11 0, zI a1] v (gd_rI (fun (r2 : Int32) v1 =>
    (((r2 : Int32) = 0) →
      Q (Sum.inl (some (zI 0))) v1) ∧
    ((¬ (r2 : Int32) = 0) →
      gd_C g mX11_of0 2 0 0 [zR 11 0, zI a1, zI 0] v1 (gd_rI (fun (r4 : Int32) v3 =>
        gd_C g mX11_hasSeller 3 0 0 [zR 11 0, zI r4] v3 (gd_rI (fun (r6 : Int32) v5 =>
          (((r6 : Int32) = 0) →
            (((v5.1 11 0 22 : Int32) = 0) →
              Q (Sum.inl (some (zI 1))) v5) ∧
            ((¬ (v5.1 11 0 22 : Int32) = 0) →
              vp_in ((v5.1 11 0 22) - 1) 8 ∧
              ∀ x7 : Int32, x7 = v5.1 49 0 ((v5.1 11 0 22) - 1 : Int32).toNatClampNeg →
              gd_C g mX11_of0 2 0 0 [zR 11 0, zI x7, zI 1] v5 (gd_rI (fun (r9 : Int32) v8 =>
                gd_C g mX11_of0 2 0 0 [zR 11 0, zI a1, zI 0] v8 (gd_rI (fun (r11 : Int32) v10 =>
                  ((¬ (r9 : Int32) = r11) →
                    Q (Sum.inl (some (zI 0))) v10) ∧
                  (((r9 : Int32) = r11) →
                    Q (Sum.inl (some (zI 1))) v10)) (fun E v9 => Q (Sum.inr E) v9))) (fun E v9 => Q (Sum.inr E) v9)))) ∧
          ((¬ (r6 : Int32) = 0) →
            Q (Sum.inl (some (zI 0))) v5)) (fun E v9 => Q (Sum.inr E) v9))) (fun E v9 => Q (Sum.inr E) v9)))) (fun E v9 => Q (Sum.inr E) v9))
theorem w_X11_canRing {g : ab_E} {d : Nat} {a1 : Int32} {v : gd_D} {Q : ab_O → gd_D → Prop} (hd : 5 ≤ d) (h : wp_X11_canRing g d a1 v Q) : gd_G g mX11_canRing d 0 0 0 [(0, zR 11 0), (1, zI a1)] [] v Q := by
  unfold wp_X11_canRing at h
  refine gd_aload_n 0 dX11_canRing_0 rfl rfl ?_
  refine gd_iload_n 1 dX11_canRing_1 rfl rfl ?_
  refine gd_callVI (As := [zI a1]) (rest := []) (dy := 4) (my := 0) (sy := 0) (k := 11) (i := 0) lX11_311 iX11_isRung sX11_isRung rfl dX11_canRing_2 rfl rfl (gd_room (by omega) (by decide)) (by decide) (Nat.le_of_ble_eq_true rfl) h (fun r2 v1 h => ?_)
  refine gd_if_eq (tgt := 21) dX11_canRing_5 (by decide) (fun hc => ?_) (fun hc => ?_)
  · have h := h.1 hc
    refine gd_iconst (x9 := 0) dX11_canRing_21 (by decide) ?_
    exact gd_iret (ty := .boolean) dX11_canRing_22 rfl rfl h
  · have h := h.2 hc
    refine gd_aload_n 0 dX11_canRing_8 rfl rfl ?_
    refine gd_aload_n 0 dX11_canRing_9 rfl rfl ?_
    refine gd_iload_n 1 dX11_canRing_10 rfl rfl ?_
    refine gd_iconst (x9 := 0) dX11_canRing_11 (by decide) ?_
    refine gd_callVI (As := [zI a1, zI 0]) (rest := [zR 11 0]) (dy := 2) (my := 0) (sy := 0) (k := 11) (i := 0) lX11_289 iX11_of0 sX11_of0 rfl dX11_canRing_12 rfl rfl (gd_room (by omega) (by decide)) (by decide) (Nat.le_of_ble_eq_true rfl) h (fun r4 v3 h => ?_)
    refine gd_callVI (As := [zI r4]) (rest := []) (dy := 3) (my := 0) (sy := 0) (k := 11) (i := 0) lX11_314 iX11_hasSeller sX11_hasSeller rfl dX11_canRing_15 rfl rfl (gd_room (by omega) (by decide)) (by decide) (Nat.le_of_ble_eq_true rfl) h (fun r6 v5 h => ?_)
    refine gd_if_eq (tgt := 23) dX11_canRing_18 (by decide) (fun hc => ?_) (fun hc => ?_)
    · have h := h.1 hc
      refine gd_aload_n 0 dX11_canRing_23 rfl rfl ?_
      refine gd_getI fX11_308 rfl dX11_canRing_24 ?_
      refine gd_if_eq (tgt := 55) dX11_canRing_27 (by decide) (fun hc => ?_) (fun hc => ?_)
      · have h := h.1 hc
        refine gd_iconst (x9 := 1) dX11_canRing_55 (by decide) ?_
        refine gd_goto (tgt := 60) dX11_canRing_56 (by decide) ?_
        exact gd_iret (ty := .boolean) dX11_canRing_60 rfl rfl h
      · have h := h.2 hc
        refine gd_aload_n 0 dX11_canRing_30 rfl rfl ?_
        refine gd_aload_n 0 dX11_canRing_31 rfl rfl ?_
        refine gd_getR (x := 0) (kr := 49) fX11_49 rfl rfl dX11_canRing_32 rfl ?_
        refine gd_aload_n 0 dX11_canRing_35 rfl rfl ?_
        refine gd_getI fX11_308 rfl dX11_canRing_36 ?_
        refine gd_iconst (x9 := 1) dX11_canRing_39 (by decide) ?_
        refine gd_isub dX11_canRing_40 ?_
        obtain ⟨hb, h⟩ := h
        refine gd_iaload (n := 8) (by decide) rfl dX11_canRing_41 rfl hb ?_
        refine gd_nmI (fun x7 ex7 => ?_)
        have h := h x7 ex7
        refine gd_iconst (x9 := 1) dX11_canRing_42 (by decide) ?_
        refine gd_callVI (As := [zI x7, zI 1]) (rest := []) (dy := 2) (my := 0) (sy := 0) (k := 11) (i := 0) lX11_289 iX11_of0 sX11_of0 rfl dX11_canRing_43 rfl rfl (gd_room (by omega) (by decide)) (by decide) (Nat.le_of_ble_eq_true rfl) h (fun r9 v8 h => ?_)
        refine gd_aload_n 0 dX11_canRing_46 rfl rfl ?_
        refine gd_iload_n 1 dX11_canRing_47 rfl rfl ?_
        refine gd_iconst (x9 := 0) dX11_canRing_48 (by decide) ?_
        refine gd_callVI (As := [zI a1, zI 0]) (rest := [zI r9]) (dy := 2) (my := 0) (sy := 0) (k := 11) (i := 0) lX11_289 iX11_of0 sX11_of0 rfl dX11_canRing_49 rfl rfl (gd_room (by omega) (by decide)) (by decide) (Nat.le_of_ble_eq_true rfl) h (fun r11 v10 h => ?_)
        refine gd_icmp_ne (tgt := 59) dX11_canRing_52 (by decide) (fun hc => ?_) (fun hc => ?_)
        · have h := h.1 hc
          refine gd_iconst (x9 := 0) dX11_canRing_59 (by decide) ?_
          exact gd_iret (ty := .boolean) dX11_canRing_60 rfl rfl h
        · have h := h.2 hc
          refine gd_iconst (x9 := 1) dX11_canRing_55 (by decide) ?_
          refine gd_goto (tgt := 60) dX11_canRing_56 (by decide) ?_
          exact gd_iret (ty := .boolean) dX11_canRing_60 rfl rfl h
    · have h := h.2 hc
      refine gd_iconst (x9 := 0) dX11_canRing_21 (by decide) ?_
      exact gd_iret (ty := .boolean) dX11_canRing_22 rfl rfl h
theorem c_X11_canRing {g : ab_E} {d : Nat} {a1 : Int32} {v : gd_D} {Q : ab_O → gd_D → Prop} (hd : 5 ≤ d) (h : wp_X11_canRing g d a1 v Q) : gd_C g mX11_canRing d 0 0 [zR 11 0, zI a1] v Q := gd_enterF (plainFor_of_name (by decide)) (Nat.le_of_ble_eq_true rfl) rfl (w_X11_canRing hd h)
def wp_X11_finds (g : ab_E) (d : Nat) (v : gd_D) (Q : ab_O → gd_D → Prop) : Prop :=
  ∀ v1 : gd_D, v1 = gd_sI v 11 0 22 0 →
  vp_in 0 8 ∧
  ∀ v2 : gd_D, v2 = gd_sI v1 50 0 ((0 : Int32).toNatClampNeg) 0 →
  gd_G g mX11_finds d 0 0 12 [(0, zR 11 0)] [] v2 Q
theorem w_X11_finds {g : ab_E} {d : Nat} {v : gd_D} {Q : ab_O → gd_D → Prop} (hd : 0 ≤ d) (h : wp_X11_finds g d v Q) : gd_G g mX11_finds d 0 0 0 [(0, zR 11 0)] [] v Q := by
  unfold wp_X11_finds at h
  refine gd_aload_n 0 dX11_finds_0 rfl rfl ?_
  refine gd_iconst (x9 := 0) dX11_finds_1 (by decide) ?_
  refine gd_putIn fX11_308 rfl rfl dX11_finds_2 (fun v1 ev1 => ?_)
  have h := h v1 ev1
  refine gd_aload_n 0 dX11_finds_5 rfl rfl ?_
  refine gd_getR (x := 0) (kr := 50) fX11_52 rfl rfl dX11_finds_6 rfl ?_
  refine gd_iconst (x9 := 0) dX11_finds_9 (by decide) ?_
  refine gd_iconst (x9 := 0) dX11_finds_10 (by decide) ?_
  obtain ⟨hb, h⟩ := h
  refine gd_iastoren (n := 8) (by decide) rfl rfl dX11_finds_11 rfl hb (fun v2 ev2 => ?_)
  have h := h v2 ev2
  exact h
def wp_X11_finds_12 (g : ab_E) (d : Nat) (v : gd_D) (Q : ab_O → gd_D → Prop) : Prop :=
  vp_in (v.1 11 0 22) 8 ∧
  gd_C g mX11_sales 2 0 0 [zR 11 0] v (gd_rI (fun (r2 : Int32) v1 =>
    ((¬ (v.1 50 0 (v.1 11 0 22 : Int32).toNatClampNeg : Int32) = r2) →
      vp_in (v1.1 11 0 22) 8 ∧
      ∀ x3 : Int32, x3 = v1.1 50 0 (v1.1 11 0 22 : Int32).toNatClampNeg →
      vp_in x3 24 ∧
      vp_in (v1.1 11 0 22) 8 ∧
      ∀ x4 : Int32, x4 = v1.1 50 0 (v1.1 11 0 22 : Int32).toNatClampNeg →
      vp_in (v1.1 11 0 22) 8 ∧
      ∀ v5 : gd_D, v5 = gd_sI v1 50 0 ((v1.1 11 0 22 : Int32).toNatClampNeg) (x4 + 1) →
      gd_C g mX11_canRing 5 0 0 [zR 11 0, zI (v1.1 47 0 (x3 : Int32).toNatClampNeg)] v5 (gd_rI (fun (r7 : Int32) v6 =>
        ((¬ (r7 : Int32) = 0) →
          vp_in (v6.1 11 0 22) 8 ∧
          ∀ v8 : gd_D, v8 = gd_sI v6 49 0 ((v6.1 11 0 22 : Int32).toNatClampNeg) (v1.1 47 0 (x3 : Int32).toNatClampNeg) →
          ∀ v9 : gd_D, v9 = gd_sI v8 11 0 22 ((v8.1 11 0 22) + 1) →
          gd_C g mX11_of0 2 0 0 [zR 11 0, zI (v1.1 47 0 (x3 : Int32).toNatClampNeg), zI 1] v9 (gd_rI (fun (r11 : Int32) v10 =>
            vp_in 0 8 ∧
            gd_C g mX11_of0 2 0 0 [zR 11 0, zI (v10.1 49 0 (0 : Int32).toNatClampNeg), zI 0] v10 (gd_rI (fun (r13 : Int32) v12 =>
              ((¬ (r11 : Int32) = r13) →
                (((8 : Int32) ≤ (v12.1 11 0 22)) →
                  ∀ v14 : gd_D, v14 = gd_sI v12 11 0 22 ((v12.1 11 0 22) - 1) →
                  gd_G g mX11_finds d 0 0 12 [(0, zR 11 0)] [] v14 Q) ∧
                ((¬ (8 : Int32) ≤ (v12.1 11 0 22)) →
                  vp_in (v12.1 11 0 22) 8 ∧
                  ∀ v15 : gd_D, v15 = gd_sI v12 50 0 ((v12.1 11 0 22 : Int32).toNatClampNeg) 0 →
                  gd_G g mX11_finds d 0 0 12 [(0, zR 11 0)] [] v15 Q)) ∧
              (((r11 : Int32) = r13) →
                Q (Sum.inl (some (zI 1))) v12)) (fun E v9 => Q (Sum.inr E) v9))) (fun E v9 => Q (Sum.inr E) v9))) ∧
        (((r7 : Int32) = 0) →
          gd_G g mX11_finds d 0 0 12 [(0, zR 11 0)] [] v6 Q)) (fun E v9 => Q (Sum.inr E) v9))) ∧
    (((v.1 50 0 (v.1 11 0 22 : Int32).toNatClampNeg : Int32) = r2) →
      ((¬ (v1.1 11 0 22 : Int32) = 0) →
        ∀ v16 : gd_D, v16 = gd_sI v1 11 0 22 ((v1.1 11 0 22) - 1) →
        gd_G g mX11_finds d 0 0 12 [(0, zR 11 0)] [] v16 Q) ∧
      (((v1.1 11 0 22 : Int32) = 0) →
        Q (Sum.inl (some (zI 0))) v1))) (fun E v9 => Q (Sum.inr E) v9))
theorem w_X11_finds_12 {g : ab_E} {d : Nat} {v : gd_D} {Q : ab_O → gd_D → Prop} (hd : 6 ≤ d) (h : wp_X11_finds_12 g d v Q) : gd_G g mX11_finds d 0 0 12 [(0, zR 11 0)] [] v Q := by
  unfold wp_X11_finds_12 at h
  refine gd_aload_n 0 dX11_finds_12 rfl rfl ?_
  refine gd_getR (x := 0) (kr := 50) fX11_52 rfl rfl dX11_finds_13 rfl ?_
  refine gd_aload_n 0 dX11_finds_16 rfl rfl ?_
  refine gd_getI fX11_308 rfl dX11_finds_17 ?_
  obtain ⟨hb, h⟩ := h
  refine gd_iaload (n := 8) (by decide) rfl dX11_finds_20 rfl hb ?_
  refine gd_aload_n 0 dX11_finds_21 rfl rfl ?_
  refine gd_callVI (As := []) (rest := [zI (v.1 50 0 (v.1 11 0 22 : Int32).toNatClampNeg)]) (dy := 2) (my := 0) (sy := 0) (k := 11) (i := 0) lX11_278 iX11_sales sX11_sales rfl dX11_finds_22 rfl rfl (gd_room (by omega) (by decide)) (by decide) (Nat.le_of_ble_eq_true rfl) h (fun r2 v1 h => ?_)
  refine gd_icmp_ne (tgt := 50) dX11_finds_25 (by decide) (fun hc => ?_) (fun hc => ?_)
  · have h := h.1 hc
    refine gd_aload_n 0 dX11_finds_50 rfl rfl ?_
    refine gd_getR (x := 0) (kr := 47) fX11_43 rfl rfl dX11_finds_51 rfl ?_
    refine gd_aload_n 0 dX11_finds_54 rfl rfl ?_
    refine gd_getR (x := 0) (kr := 50) fX11_52 rfl rfl dX11_finds_55 rfl ?_
    refine gd_aload_n 0 dX11_finds_58 rfl rfl ?_
    refine gd_getI fX11_308 rfl dX11_finds_59 ?_
    obtain ⟨hb, h⟩ := h
    refine gd_iaload (n := 8) (by decide) rfl dX11_finds_62 rfl hb ?_
    refine gd_nmI (fun x3 ex3 => ?_)
    have h := h x3 ex3
    obtain ⟨hb, h⟩ := h
    refine gd_iaload (n := 24) (by decide) rfl dX11_finds_63 rfl hb ?_
    refine gd_istore_n (L' := [(1, zI (v1.1 47 0 (x3 : Int32).toNatClampNeg)), (0, zR 11 0)]) dX11_finds_64 rfl (by decide) rfl ?_
    refine gd_aload_n 1 dX11_finds_65 rfl rfl ?_
    refine gd_getR (x := 0) (kr := 50) fX11_52 rfl rfl dX11_finds_66 rfl ?_
    refine gd_aload_n 1 dX11_finds_69 rfl rfl ?_
    refine gd_getI fX11_308 rfl dX11_finds_70 ?_
    refine gd_dup2_11 dX11_finds_73 rfl rfl ?_
    obtain ⟨hb, h⟩ := h
    refine gd_iaload (n := 8) (by decide) rfl dX11_finds_74 rfl hb ?_
    refine gd_nmI (fun x4 ex4 => ?_)
    have h := h x4 ex4
    refine gd_iconst (x9 := 1) dX11_finds_75 (by decide) ?_
    refine gd_iadd dX11_finds_76 ?_
    obtain ⟨hb, h⟩ := h
    refine gd_iastoren (n := 8) (by decide) rfl rfl dX11_finds_77 rfl hb (fun v5 ev5 => ?_)
    have h := h v5 ev5
    refine gd_aload_n 1 dX11_finds_78 rfl rfl ?_
    refine gd_iload_n 0 dX11_finds_79 rfl rfl ?_
    refine gd_callVI (As := [zI (v1.1 47 0 (x3 : Int32).toNatClampNeg)]) (rest := []) (dy := 5) (my := 0) (sy := 0) (k := 11) (i := 0) lX11_317 iX11_canRing sX11_canRing rfl dX11_finds_80 rfl rfl (gd_room (by omega) (by decide)) (by decide) (Nat.le_of_ble_eq_true rfl) h (fun r7 v6 h => ?_)
    refine gd_if_ne (tgt := 89) dX11_finds_83 (by decide) (fun hc => ?_) (fun hc => ?_)
    · have h := h.1 hc
      refine gd_aload_n 1 dX11_finds_89 rfl rfl ?_
      refine gd_getR (x := 0) (kr := 49) fX11_49 rfl rfl dX11_finds_90 rfl ?_
      refine gd_aload_n 1 dX11_finds_93 rfl rfl ?_
      refine gd_getI fX11_308 rfl dX11_finds_94 ?_
      refine gd_iload_n 0 dX11_finds_97 rfl rfl ?_
      obtain ⟨hb, h⟩ := h
      refine gd_iastoren (n := 8) (by decide) rfl rfl dX11_finds_98 rfl hb (fun v8 ev8 => ?_)
      have h := h v8 ev8
      refine gd_aload_n 1 dX11_finds_99 rfl rfl ?_
      refine gd_dup dX11_finds_100 rfl ?_
      refine gd_getI fX11_308 rfl dX11_finds_101 ?_
      refine gd_iconst (x9 := 1) dX11_finds_104 (by decide) ?_
      refine gd_iadd dX11_finds_105 ?_
      refine gd_putIn fX11_308 rfl rfl dX11_finds_106 (fun v9 ev9 => ?_)
      have h := h v9 ev9
      refine gd_aload_n 1 dX11_finds_109 rfl rfl ?_
      refine gd_iload_n 0 dX11_finds_110 rfl rfl ?_
      refine gd_iconst (x9 := 1) dX11_finds_111 (by decide) ?_
      refine gd_callVI (As := [zI (v1.1 47 0 (x3 : Int32).toNatClampNeg), zI 1]) (rest := []) (dy := 2) (my := 0) (sy := 0) (k := 11) (i := 0) lX11_289 iX11_of0 sX11_of0 rfl dX11_finds_112 rfl rfl (gd_room (by omega) (by decide)) (by decide) (Nat.le_of_ble_eq_true rfl) h (fun r11 v10 h => ?_)
      refine gd_aload_n 1 dX11_finds_115 rfl rfl ?_
      refine gd_aload_n 1 dX11_finds_116 rfl rfl ?_
      refine gd_getR (x := 0) (kr := 49) fX11_49 rfl rfl dX11_finds_117 rfl ?_
      refine gd_iconst (x9 := 0) dX11_finds_120 (by decide) ?_
      obtain ⟨hb, h⟩ := h
      refine gd_iaload (n := 8) (by decide) rfl dX11_finds_121 rfl hb ?_
      refine gd_iconst (x9 := 0) dX11_finds_122 (by decide) ?_
      refine gd_callVI (As := [zI (v10.1 49 0 (0 : Int32).toNatClampNeg), zI 0]) (rest := [zI r11]) (dy := 2) (my := 0) (sy := 0) (k := 11) (i := 0) lX11_289 iX11_of0 sX11_of0 rfl dX11_finds_123 rfl rfl (gd_room (by omega) (by decide)) (by decide) (Nat.le_of_ble_eq_true rfl) h (fun r13 v12 h => ?_)
      refine gd_icmp_ne (tgt := 131) dX11_finds_126 (by decide) (fun hc => ?_) (fun hc => ?_)
      · have h := h.1 hc
        refine gd_aload_n 1 dX11_finds_131 rfl rfl ?_
        refine gd_getI fX11_308 rfl dX11_finds_132 ?_
        refine gd_bipush (x9 := 8) dX11_finds_135 (by decide) ?_
        refine gd_icmp_ge (tgt := 153) dX11_finds_137 (by decide) (fun hc => ?_) (fun hc => ?_)
        · have h := h.1 hc
          refine gd_aload_n 1 dX11_finds_153 rfl rfl ?_
          refine gd_dup dX11_finds_154 rfl ?_
          refine gd_getI fX11_308 rfl dX11_finds_155 ?_
          refine gd_iconst (x9 := 1) dX11_finds_158 (by decide) ?_
          refine gd_isub dX11_finds_159 ?_
          refine gd_putIn fX11_308 rfl rfl dX11_finds_160 (fun v14 ev14 => ?_)
          have h := h v14 ev14
          refine gd_goto (tgt := 12) dX11_finds_163 (by decide) ?_
          refine gd_locals [1] rfl ?_
          exact h
        · have h := h.2 hc
          refine gd_aload_n 1 dX11_finds_140 rfl rfl ?_
          refine gd_getR (x := 0) (kr := 50) fX11_52 rfl rfl dX11_finds_141 rfl ?_
          refine gd_aload_n 1 dX11_finds_144 rfl rfl ?_
          refine gd_getI fX11_308 rfl dX11_finds_145 ?_
          refine gd_iconst (x9 := 0) dX11_finds_148 (by decide) ?_
          obtain ⟨hb, h⟩ := h
          refine gd_iastoren (n := 8) (by decide) rfl rfl dX11_finds_149 rfl hb (fun v15 ev15 => ?_)
          have h := h v15 ev15
          refine gd_goto (tgt := 163) dX11_finds_150 (by decide) ?_
          refine gd_goto (tgt := 12) dX11_finds_163 (by decide) ?_
          refine gd_locals [1] rfl ?_
          exact h
      · have h := h.2 hc
        refine gd_iconst (x9 := 1) dX11_finds_129 (by decide) ?_
        exact gd_iret (ty := .boolean) dX11_finds_130 rfl rfl h
    · have h := h.2 hc
      refine gd_goto (tgt := 12) dX11_finds_86 (by decide) ?_
      refine gd_locals [1] rfl ?_
      exact h
  · have h := h.2 hc
    refine gd_aload_n 0 dX11_finds_28 rfl rfl ?_
    refine gd_getI fX11_308 rfl dX11_finds_29 ?_
    refine gd_if_ne (tgt := 37) dX11_finds_32 (by decide) (fun hc => ?_) (fun hc => ?_)
    · have h := h.1 hc
      refine gd_aload_n 0 dX11_finds_37 rfl rfl ?_
      refine gd_dup dX11_finds_38 rfl ?_
      refine gd_getI fX11_308 rfl dX11_finds_39 ?_
      refine gd_iconst (x9 := 1) dX11_finds_42 (by decide) ?_
      refine gd_isub dX11_finds_43 ?_
      refine gd_putIn fX11_308 rfl rfl dX11_finds_44 (fun v16 ev16 => ?_)
      have h := h v16 ev16
      refine gd_goto (tgt := 12) dX11_finds_47 (by decide) ?_
      exact h
    · have h := h.2 hc
      refine gd_iconst (x9 := 0) dX11_finds_35 (by decide) ?_
      exact gd_iret (ty := .boolean) dX11_finds_36 rfl rfl h
theorem c_X11_finds {g : ab_E} {d : Nat} {v : gd_D} {Q : ab_O → gd_D → Prop} (hd : 0 ≤ d) (h : wp_X11_finds g d v Q) : gd_C g mX11_finds d 0 0 [zR 11 0] v Q := gd_enterF (plainFor_of_name (by decide)) (Nat.le_of_ble_eq_true rfl) rfl (w_X11_finds hd h)
def wp_X11_ringUnits (g : ab_E) (d : Nat) (v : gd_D) (Q : ab_O → gd_D → Prop) : Prop :=
  vp_in 0 8 ∧
  gd_C g mX11_of0 2 0 0 [zR 11 0, zI (v.1 49 0 (0 : Int32).toNatClampNeg), zI 5] v (gd_rI (fun (r2 : Int32) v1 =>
    gd_G g mX11_ringUnits d 0 0 14 [(0, zR 11 0), (1, zI r2), (2, zI 1)] [] v1 Q) (fun E v9 => Q (Sum.inr E) v9))
theorem w_X11_ringUnits {g : ab_E} {d : Nat} {v : gd_D} {Q : ab_O → gd_D → Prop} (hd : 3 ≤ d) (h : wp_X11_ringUnits g d v Q) : gd_G g mX11_ringUnits d 0 0 0 [(0, zR 11 0)] [] v Q := by
  unfold wp_X11_ringUnits at h
  refine gd_aload_n 0 dX11_ringUnits_0 rfl rfl ?_
  refine gd_aload_n 0 dX11_ringUnits_1 rfl rfl ?_
  refine gd_getR (x := 0) (kr := 49) fX11_49 rfl rfl dX11_ringUnits_2 rfl ?_
  refine gd_iconst (x9 := 0) dX11_ringUnits_5 (by decide) ?_
  obtain ⟨hb, h⟩ := h
  refine gd_iaload (n := 8) (by decide) rfl dX11_ringUnits_6 rfl hb ?_
  refine gd_iconst (x9 := 5) dX11_ringUnits_7 (by decide) ?_
  refine gd_callVI (As := [zI (v.1 49 0 (0 : Int32).toNatClampNeg), zI 5]) (rest := []) (dy := 2) (my := 0) (sy := 0) (k := 11) (i := 0) lX11_289 iX11_of0 sX11_of0 rfl dX11_ringUnits_8 rfl rfl (gd_room (by omega) (by decide)) (by decide) (Nat.le_of_ble_eq_true rfl) h (fun r2 v1 h => ?_)
  refine gd_istore_n (L' := [(1, zI r2), (0, zR 11 0)]) dX11_ringUnits_11 rfl (by decide) rfl ?_
  refine gd_iconst (x9 := 1) dX11_ringUnits_12 (by decide) ?_
  refine gd_istore_n (L' := [(2, zI 1), (1, zI r2), (0, zR 11 0)]) dX11_ringUnits_13 rfl (by decide) rfl ?_
  refine gd_locals [2, 1, 0] rfl ?_
  exact h
def wp_X11_ringUnits_14 (g : ab_E) (d : Nat) (a1 : Int32) (a2 : Int32) (v : gd_D) (Q : ab_O → gd_D → Prop) : Prop :=
  (((v.1 11 0 22 : Int32) ≤ a2) →
    vp_in 5 773 ∧
    ∀ x1 : Int32, x1 = (v.2.1 40 0 (5 : Int32).toNatClampNeg : Int64).toInt32 →
    ¬ (x1 : Int32) = 0 ∧
    Q (Sum.inl (some (zI (a1 - (a1 - a1 / x1 * x1))))) v) ∧
  ((¬ (v.1 11 0 22 : Int32) ≤ a2) →
    vp_in a2 8 ∧
    gd_C g mX11_of0 2 0 0 [zR 11 0, zI (v.1 49 0 (a2 : Int32).toNatClampNeg), zI 5] v (gd_rI (fun (r3 : Int32) v2 =>
      gd_C g mJ9_min_7cf53 2 0 0 [zI a1, zI r3] v2 (gd_rI (fun (r5 : Int32) v4 =>
        gd_G g mX11_ringUnits d 0 0 14 [(0, zR 11 0), (1, zI r5), (2, zI (a2 + 1))] [] v4 Q) (fun E v9 => Q (Sum.inr E) v9))) (fun E v9 => Q (Sum.inr E) v9)))
theorem w_X11_ringUnits_14 {g : ab_E} {d : Nat} {a1 : Int32} {a2 : Int32} {v : gd_D} {Q : ab_O → gd_D → Prop} (hd : 3 ≤ d) (h : wp_X11_ringUnits_14 g d a1 a2 v Q) : gd_G g mX11_ringUnits d 0 0 14 [(0, zR 11 0), (1, zI a1), (2, zI a2)] [] v Q := by
  unfold wp_X11_ringUnits_14 at h
  refine gd_iload_n 2 dX11_ringUnits_14 rfl rfl ?_
  refine gd_aload_n 0 dX11_ringUnits_15 rfl rfl ?_
  refine gd_getI fX11_308 rfl dX11_ringUnits_16 ?_
  refine gd_icmp_ge (tgt := 44) dX11_ringUnits_19 (by decide) (fun hc => ?_) (fun hc => ?_)
  · have h := h.1 hc
    refine gd_iload_n 1 dX11_ringUnits_44 rfl rfl ?_
    refine gd_iload_n 1 dX11_ringUnits_45 rfl rfl ?_
    refine gd_aload_n 0 dX11_ringUnits_46 rfl rfl ?_
    refine gd_getR (x := 0) (kr := 40) fX11_17 rfl rfl dX11_ringUnits_47 rfl ?_
    refine gd_iconst (x9 := 5) dX11_ringUnits_50 (by decide) ?_
    obtain ⟨hb, h⟩ := h
    refine gd_laload (n := 773) (by decide) rfl dX11_ringUnits_51 rfl hb ?_
    refine gd_l2i dX11_ringUnits_52 ?_
    refine gd_nmI (fun x1 ex1 => ?_)
    have h := h x1 ex1
    obtain ⟨hg, h⟩ := h
    refine gd_irem dX11_ringUnits_53 hg ?_
    refine gd_isub dX11_ringUnits_54 ?_
    exact gd_iret (ty := .int) dX11_ringUnits_55 rfl rfl h
  · have h := h.2 hc
    refine gd_iload_n 1 dX11_ringUnits_22 rfl rfl ?_
    refine gd_aload_n 0 dX11_ringUnits_23 rfl rfl ?_
    refine gd_aload_n 0 dX11_ringUnits_24 rfl rfl ?_
    refine gd_getR (x := 0) (kr := 49) fX11_49 rfl rfl dX11_ringUnits_25 rfl ?_
    refine gd_iload_n 2 dX11_ringUnits_28 rfl rfl ?_
    obtain ⟨hb, h⟩ := h
    refine gd_iaload (n := 8) (by decide) rfl dX11_ringUnits_29 rfl hb ?_
    refine gd_iconst (x9 := 5) dX11_ringUnits_30 (by decide) ?_
    refine gd_callVI (As := [zI (v.1 49 0 (a2 : Int32).toNatClampNeg), zI 5]) (rest := [zI a1]) (dy := 2) (my := 0) (sy := 0) (k := 11) (i := 0) lX11_289 iX11_of0 sX11_of0 rfl dX11_ringUnits_31 rfl rfl (gd_room (by omega) (by decide)) (by decide) (Nat.le_of_ble_eq_true rfl) h (fun r3 v2 h => ?_)
    refine gd_callSI (As := [zI a1, zI r3]) (rest := []) (dy := 2) (my := 0) (sy := 0) lX11_320 tJ9_min_7cf53 dX11_ringUnits_34 rfl rfl (gd_room (by omega) (by decide)) (by decide) (Nat.le_of_ble_eq_true rfl) h (fun r5 v4 h => ?_)
    refine gd_istore_n (L' := [(1, zI r5), (0, zR 11 0), (2, zI a2)]) dX11_ringUnits_37 rfl (by decide) rfl ?_
    refine gd_iinc (x9 := a2 + 1) (L' := [(2, zI (a2 + 1)), (1, zI r5), (0, zR 11 0)]) 2 dX11_ringUnits_38 rfl rfl (by decide) rfl ?_
    refine gd_goto (tgt := 14) dX11_ringUnits_41 (by decide) ?_
    refine gd_locals [2, 1, 0] rfl ?_
    exact h
theorem c_X11_ringUnits {g : ab_E} {d : Nat} {v : gd_D} {Q : ab_O → gd_D → Prop} (hd : 3 ≤ d) (h : wp_X11_ringUnits g d v Q) : gd_C g mX11_ringUnits d 0 0 [zR 11 0] v Q := gd_enterF (plainFor_of_name (by decide)) (Nat.le_of_ble_eq_true rfl) rfl (w_X11_ringUnits hd h)
def wp_X11_settles (g : ab_E) (d : Nat) (a1 : Int32) (a2 : Int32) (a3 : Int32) (v : gd_D) (Q : ab_O → gd_D → Prop) : Prop :=
  gd_C g mX11_adds 2 0 0 [zR 11 0, zI a1, zI 5, zJ ((-a2 : Int32).toInt64)] v (gd_rV (fun v1 =>
    gd_C g mX11_adds 2 0 0 [zR 11 0, zI a1, zI a3, zJ ((a2 : Int32).toInt64)] v1 (gd_rV (fun v3 =>
      gd_C g mX11_of0 2 0 0 [zR 11 0, zI a1, zI 1] v3 (gd_rI (fun (r6 : Int32) v5 =>
        gd_C g mX11_of0 2 0 0 [zR 11 0, zI a1, zI 0] v5 (gd_rI (fun (r8 : Int32) v7 =>
          gd_C g mX11_of0 2 0 0 [zR 11 0, zI a1, zI 3] v7 (gd_rI (fun (r10 : Int32) v9 =>
            ∀ y11 : Int64, y11 = ((a2 : Int32).toInt64) * ((r10 : Int32).toInt64) →
            gd_C g mX11_pays 2 0 0 [zR 11 0, zI r6, zI r8, zJ y11] v9 (gd_rV (fun v12 =>
              Q (Sum.inl none) v12) (fun E v9 => Q (Sum.inr E) v9))) (fun E v9 => Q (Sum.inr E) v9))) (fun E v9 => Q (Sum.inr E) v9))) (fun E v9 => Q (Sum.inr E) v9))) (fun E v9 => Q (Sum.inr E) v9))) (fun E v9 => Q (Sum.inr E) v9))
theorem w_X11_settles {g : ab_E} {d : Nat} {a1 : Int32} {a2 : Int32} {a3 : Int32} {v : gd_D} {Q : ab_O → gd_D → Prop} (hd : 3 ≤ d) (h : wp_X11_settles g d a1 a2 a3 v Q) : gd_G g mX11_settles d 0 0 0 [(0, zR 11 0), (1, zI a1), (2, zI a2), (3, zI a3)] [] v Q := by
  unfold wp_X11_settles at h
  refine gd_aload_n 0 dX11_settles_0 rfl rfl ?_
  refine gd_iload_n 1 dX11_settles_1 rfl rfl ?_
  refine gd_iconst (x9 := 5) dX11_settles_2 (by decide) ?_
  refine gd_iload_n 2 dX11_settles_3 rfl rfl ?_
  refine gd_ineg dX11_settles_4 ?_
  refine gd_i2l dX11_settles_5 ?_
  refine gd_callVV (As := [zI a1, zI 5, zJ ((-a2 : Int32).toInt64)]) (rest := []) (dy := 2) (my := 0) (sy := 0) (k := 11) (i := 0) lX11_322 iX11_adds sX11_adds rfl dX11_settles_6 rfl rfl (gd_room (by omega) (by decide)) (by decide) (Nat.le_of_ble_eq_true rfl) h (fun v1 h => ?_)
  refine gd_aload_n 0 dX11_settles_9 rfl rfl ?_
  refine gd_iload_n 1 dX11_settles_10 rfl rfl ?_
  refine gd_iload_n 3 dX11_settles_11 rfl rfl ?_
  refine gd_iload_n 2 dX11_settles_12 rfl rfl ?_
  refine gd_i2l dX11_settles_13 ?_
  refine gd_callVV (As := [zI a1, zI a3, zJ ((a2 : Int32).toInt64)]) (rest := []) (dy := 2) (my := 0) (sy := 0) (k := 11) (i := 0) lX11_322 iX11_adds sX11_adds rfl dX11_settles_14 rfl rfl (gd_room (by omega) (by decide)) (by decide) (Nat.le_of_ble_eq_true rfl) h (fun v3 h => ?_)
  refine gd_aload_n 0 dX11_settles_17 rfl rfl ?_
  refine gd_aload_n 0 dX11_settles_18 rfl rfl ?_
  refine gd_iload_n 1 dX11_settles_19 rfl rfl ?_
  refine gd_iconst (x9 := 1) dX11_settles_20 (by decide) ?_
  refine gd_callVI (As := [zI a1, zI 1]) (rest := [zR 11 0]) (dy := 2) (my := 0) (sy := 0) (k := 11) (i := 0) lX11_289 iX11_of0 sX11_of0 rfl dX11_settles_21 rfl rfl (gd_room (by omega) (by decide)) (by decide) (Nat.le_of_ble_eq_true rfl) h (fun r6 v5 h => ?_)
  refine gd_aload_n 0 dX11_settles_24 rfl rfl ?_
  refine gd_iload_n 1 dX11_settles_25 rfl rfl ?_
  refine gd_iconst (x9 := 0) dX11_settles_26 (by decide) ?_
  refine gd_callVI (As := [zI a1, zI 0]) (rest := [zI r6, zR 11 0]) (dy := 2) (my := 0) (sy := 0) (k := 11) (i := 0) lX11_289 iX11_of0 sX11_of0 rfl dX11_settles_27 rfl rfl (gd_room (by omega) (by decide)) (by decide) (Nat.le_of_ble_eq_true rfl) h (fun r8 v7 h => ?_)
  refine gd_iload_n 2 dX11_settles_30 rfl rfl ?_
  refine gd_i2l dX11_settles_31 ?_
  refine gd_aload_n 0 dX11_settles_32 rfl rfl ?_
  refine gd_iload_n 1 dX11_settles_33 rfl rfl ?_
  refine gd_iconst (x9 := 3) dX11_settles_34 (by decide) ?_
  refine gd_callVI (As := [zI a1, zI 3]) (rest := [zJ ((a2 : Int32).toInt64), zI r8, zI r6, zR 11 0]) (dy := 2) (my := 0) (sy := 0) (k := 11) (i := 0) lX11_289 iX11_of0 sX11_of0 rfl dX11_settles_35 rfl rfl (gd_room (by omega) (by decide)) (by decide) (Nat.le_of_ble_eq_true rfl) h (fun r10 v9 h => ?_)
  refine gd_i2l dX11_settles_38 ?_
  refine gd_lmul dX11_settles_39 ?_
  refine gd_nmJ (fun y11 ey11 => ?_)
  have h := h y11 ey11
  refine gd_callVV (As := [zI r6, zI r8, zJ y11]) (rest := []) (dy := 2) (my := 0) (sy := 0) (k := 11) (i := 0) lX11_326 iX11_pays sX11_pays rfl dX11_settles_40 rfl rfl (gd_room (by omega) (by decide)) (by decide) (Nat.le_of_ble_eq_true rfl) h (fun v12 h => ?_)
  exact gd_vret dX11_settles_43 rfl h
theorem c_X11_settles {g : ab_E} {d : Nat} {a1 : Int32} {a2 : Int32} {a3 : Int32} {v : gd_D} {Q : ab_O → gd_D → Prop} (hd : 3 ≤ d) (h : wp_X11_settles g d a1 a2 a3 v Q) : gd_C g mX11_settles d 0 0 [zR 11 0, zI a1, zI a2, zI a3] v Q := gd_enterF (plainFor_of_name (by decide)) (Nat.le_of_ble_eq_true rfl) rfl (w_X11_settles hd h)
def wp_X11_laysParts (g : ab_E) (d : Nat) (v : gd_D) (Q : ab_O → gd_D → Prop) : Prop :=
  gd_G g mX11_laysParts d 0 0 2 [(0, zR 11 0), (1, zI 0)] [] v Q
theorem w_X11_laysParts {g : ab_E} {d : Nat} {v : gd_D} {Q : ab_O → gd_D → Prop} (hd : 0 ≤ d) (h : wp_X11_laysParts g d v Q) : gd_G g mX11_laysParts d 0 0 0 [(0, zR 11 0)] [] v Q := by
  unfold wp_X11_laysParts at h
  refine gd_iconst (x9 := 0) dX11_laysParts_0 (by decide) ?_
  refine gd_istore_n (L' := [(1, zI 0), (0, zR 11 0)]) dX11_laysParts_1 rfl (by decide) rfl ?_
  refine gd_locals [1, 0] rfl ?_
  exact h
def wp_X11_laysParts_2 (g : ab_E) (d : Nat) (a1 : Int32) (v : gd_D) (Q : ab_O → gd_D → Prop) : Prop :=
  (((576 : Int32) ≤ a1) →
    gd_G g mX11_laysParts d 0 0 31 [(0, zR 11 0), (1, zI 0)] [] v Q) ∧
  ((¬ (576 : Int32) ≤ a1) →
    vp_in a1 576 ∧
    ∀ v1 : gd_D, v1 = gd_sI v 51 0 ((a1 : Int32).toNatClampNeg) 0 →
    vp_in a1 576 ∧
    ∀ v2 : gd_D, v2 = gd_sI v1 52 0 ((a1 : Int32).toNatClampNeg) 0 →
    gd_G g mX11_laysParts d 0 0 2 [(0, zR 11 0), (1, zI (a1 + 1))] [] v2 Q)
theorem w_X11_laysParts_2 {g : ab_E} {d : Nat} {a1 : Int32} {v : gd_D} {Q : ab_O → gd_D → Prop} (hd : 0 ≤ d) (h : wp_X11_laysParts_2 g d a1 v Q) : gd_G g mX11_laysParts d 0 0 2 [(0, zR 11 0), (1, zI a1)] [] v Q := by
  unfold wp_X11_laysParts_2 at h
  refine gd_iload_n 1 dX11_laysParts_2 rfl rfl ?_
  refine gd_sipush (x9 := 576) dX11_laysParts_3 (by decide) ?_
  refine gd_icmp_ge (tgt := 29) dX11_laysParts_6 (by decide) (fun hc => ?_) (fun hc => ?_)
  · have h := h.1 hc
    refine gd_iconst (x9 := 0) dX11_laysParts_29 (by decide) ?_
    refine gd_istore_n (L' := [(1, zI 0), (0, zR 11 0)]) dX11_laysParts_30 rfl (by decide) rfl ?_
    refine gd_locals [1, 0] rfl ?_
    exact h
  · have h := h.2 hc
    refine gd_aload_n 0 dX11_laysParts_9 rfl rfl ?_
    refine gd_getR (x := 0) (kr := 51) fX11_55 rfl rfl dX11_laysParts_10 rfl ?_
    refine gd_iload_n 1 dX11_laysParts_13 rfl rfl ?_
    refine gd_iconst (x9 := 0) dX11_laysParts_14 (by decide) ?_
    obtain ⟨hb, h⟩ := h
    refine gd_iastoren (n := 576) (by decide) rfl rfl dX11_laysParts_15 rfl hb (fun v1 ev1 => ?_)
    have h := h v1 ev1
    refine gd_aload_n 0 dX11_laysParts_16 rfl rfl ?_
    refine gd_getR (x := 0) (kr := 52) fX11_58 rfl rfl dX11_laysParts_17 rfl ?_
    refine gd_iload_n 1 dX11_laysParts_20 rfl rfl ?_
    refine gd_iconst (x9 := 0) dX11_laysParts_21 (by decide) ?_
    obtain ⟨hb, h⟩ := h
    refine gd_iastoren (n := 576) (by decide) rfl rfl dX11_laysParts_22 rfl hb (fun v2 ev2 => ?_)
    have h := h v2 ev2
    refine gd_iinc (x9 := a1 + 1) (L' := [(1, zI (a1 + 1)), (0, zR 11 0)]) 1 dX11_laysParts_23 rfl rfl (by decide) rfl ?_
    refine gd_goto (tgt := 2) dX11_laysParts_26 (by decide) ?_
    refine gd_locals [1, 0] rfl ?_
    exact h
def wp_X11_laysParts_62 (g : ab_E) (d : Nat) (a1 : Int32) (s1 : Int32) (s2 : Int32) (v : gd_D) (Q : ab_O → gd_D → Prop) : Prop :=
  vp_in s1 24 ∧
  ∀ v1 : gd_D, v1 = gd_sI v 53 0 ((s1 : Int32).toNatClampNeg) s2 →
  vp_in a1 24 ∧
  vp_in a1 24 ∧
  ∀ v2 : gd_D, v2 = gd_sI v1 54 0 ((a1 : Int32).toNatClampNeg) (v1.1 53 0 (a1 : Int32).toNatClampNeg) →
  gd_G g mX11_laysParts d 0 0 31 [(0, zR 11 0), (1, zI (a1 + 1))] [] v2 Q
theorem w_X11_laysParts_62 {g : ab_E} {d : Nat} {a1 : Int32} {s1 : Int32} {s2 : Int32} {v : gd_D} {Q : ab_O → gd_D → Prop} (hd : 0 ≤ d) (h : wp_X11_laysParts_62 g d a1 s1 s2 v Q) : gd_G g mX11_laysParts d 0 0 62 [(0, zR 11 0), (1, zI a1)] [zI s2, zI s1, zR 53 0] v Q := by
  unfold wp_X11_laysParts_62 at h
  obtain ⟨hb, h⟩ := h
  refine gd_iastoren (n := 24) (by decide) rfl rfl dX11_laysParts_62 rfl hb (fun v1 ev1 => ?_)
  have h := h v1 ev1
  refine gd_aload_n 0 dX11_laysParts_63 rfl rfl ?_
  refine gd_getR (x := 0) (kr := 54) fX11_64 rfl rfl dX11_laysParts_64 rfl ?_
  refine gd_iload_n 1 dX11_laysParts_67 rfl rfl ?_
  refine gd_aload_n 0 dX11_laysParts_68 rfl rfl ?_
  refine gd_getR (x := 0) (kr := 53) fX11_61 rfl rfl dX11_laysParts_69 rfl ?_
  refine gd_iload_n 1 dX11_laysParts_72 rfl rfl ?_
  obtain ⟨hb, h⟩ := h
  refine gd_iaload (n := 24) (by decide) rfl dX11_laysParts_73 rfl hb ?_
  obtain ⟨hb, h⟩ := h
  refine gd_iastoren (n := 24) (by decide) rfl rfl dX11_laysParts_74 rfl hb (fun v2 ev2 => ?_)
  have h := h v2 ev2
  refine gd_iinc (x9 := a1 + 1) (L' := [(1, zI (a1 + 1)), (0, zR 11 0)]) 1 dX11_laysParts_75 rfl rfl (by decide) rfl ?_
  refine gd_goto (tgt := 31) dX11_laysParts_78 (by decide) ?_
  refine gd_locals [1, 0] rfl ?_
  exact h
def wp_X11_laysParts_31 (g : ab_E) (d : Nat) (a1 : Int32) (v : gd_D) (Q : ab_O → gd_D → Prop) : Prop :=
  gd_C g mX11_sales 2 0 0 [zR 11 0] v (gd_rI (fun (r2 : Int32) v1 =>
    (((r2 : Int32) ≤ a1) →
      gd_G g mX11_laysParts d 0 0 83 [(0, zR 11 0), (1, zI 0)] [] v1 Q) ∧
    ((¬ (r2 : Int32) ≤ a1) →
      gd_C g mX11_isAsked 3 0 0 [zR 11 0, zI a1] v1 (gd_rI (fun (r4 : Int32) v3 =>
        (((r4 : Int32) = 0) →
          wp_X11_laysParts_62 g d a1 a1 0 v3 Q) ∧
        ((¬ (r4 : Int32) = 0) →
          gd_C g mX11_of0 2 0 0 [zR 11 0, zI a1, zI 5] v3 (gd_rI (fun (r6 : Int32) v5 =>
            wp_X11_laysParts_62 g d a1 a1 r6 v5 Q) (fun E v9 => Q (Sum.inr E) v9)))) (fun E v9 => Q (Sum.inr E) v9)))) (fun E v9 => Q (Sum.inr E) v9))
theorem w_X11_laysParts_31 {g : ab_E} {d : Nat} {a1 : Int32} {v : gd_D} {Q : ab_O → gd_D → Prop} (hd : 4 ≤ d) (h : wp_X11_laysParts_31 g d a1 v Q) : gd_G g mX11_laysParts d 0 0 31 [(0, zR 11 0), (1, zI a1)] [] v Q := by
  unfold wp_X11_laysParts_31 at h
  refine gd_iload_n 1 dX11_laysParts_31 rfl rfl ?_
  refine gd_aload_n 0 dX11_laysParts_32 rfl rfl ?_
  refine gd_callVI (As := []) (rest := [zI a1]) (dy := 2) (my := 0) (sy := 0) (k := 11) (i := 0) lX11_278 iX11_sales sX11_sales rfl dX11_laysParts_33 rfl rfl (gd_room (by omega) (by decide)) (by decide) (Nat.le_of_ble_eq_true rfl) h (fun r2 v1 h => ?_)
  refine gd_icmp_ge (tgt := 81) dX11_laysParts_36 (by decide) (fun hc => ?_) (fun hc => ?_)
  · have h := h.1 hc
    refine gd_iconst (x9 := 0) dX11_laysParts_81 (by decide) ?_
    refine gd_istore_n (L' := [(1, zI 0), (0, zR 11 0)]) dX11_laysParts_82 rfl (by decide) rfl ?_
    refine gd_locals [1, 0] rfl ?_
    exact h
  · have h := h.2 hc
    refine gd_aload_n 0 dX11_laysParts_39 rfl rfl ?_
    refine gd_getR (x := 0) (kr := 53) fX11_61 rfl rfl dX11_laysParts_40 rfl ?_
    refine gd_iload_n 1 dX11_laysParts_43 rfl rfl ?_
    refine gd_aload_n 0 dX11_laysParts_44 rfl rfl ?_
    refine gd_iload_n 1 dX11_laysParts_45 rfl rfl ?_
    refine gd_callVI (As := [zI a1]) (rest := [zI a1, zR 53 0]) (dy := 3) (my := 0) (sy := 0) (k := 11) (i := 0) lX11_305 iX11_isAsked sX11_isAsked rfl dX11_laysParts_46 rfl rfl (gd_room (by omega) (by decide)) (by decide) (Nat.le_of_ble_eq_true rfl) h (fun r4 v3 h => ?_)
    refine gd_if_eq (tgt := 61) dX11_laysParts_49 (by decide) (fun hc => ?_) (fun hc => ?_)
    · have h := h.1 hc
      refine gd_iconst (x9 := 0) dX11_laysParts_61 (by decide) ?_
      exact w_X11_laysParts_62 (by omega) h
    · have h := h.2 hc
      refine gd_aload_n 0 dX11_laysParts_52 rfl rfl ?_
      refine gd_iload_n 1 dX11_laysParts_53 rfl rfl ?_
      refine gd_iconst (x9 := 5) dX11_laysParts_54 (by decide) ?_
      refine gd_callVI (As := [zI a1, zI 5]) (rest := [zI a1, zR 53 0]) (dy := 2) (my := 0) (sy := 0) (k := 11) (i := 0) lX11_289 iX11_of0 sX11_of0 rfl dX11_laysParts_55 rfl rfl (gd_room (by omega) (by decide)) (by decide) (Nat.le_of_ble_eq_true rfl) h (fun r6 v5 h => ?_)
      refine gd_goto (tgt := 62) dX11_laysParts_58 (by decide) ?_
      exact w_X11_laysParts_62 (by omega) h
def wp_X11_laysParts_83 (g : ab_E) (d : Nat) (a1 : Int32) (v : gd_D) (Q : ab_O → gd_D → Prop) : Prop :=
  gd_C g mX11_sales 2 0 0 [zR 11 0] v (gd_rI (fun (r2 : Int32) v1 =>
    (((r2 : Int32) ≤ a1) →
      Q (Sum.inl none) v1) ∧
    ((¬ (r2 : Int32) ≤ a1) →
      vp_in a1 24 ∧
      gd_G g mX11_laysParts d 0 0 100 [(0, zR 11 0), (1, zI a1), (2, zI (v1.1 47 0 (a1 : Int32).toNatClampNeg)), (3, zI 0)] [] v1 Q)) (fun E v9 => Q (Sum.inr E) v9))
theorem w_X11_laysParts_83 {g : ab_E} {d : Nat} {a1 : Int32} {v : gd_D} {Q : ab_O → gd_D → Prop} (hd : 3 ≤ d) (h : wp_X11_laysParts_83 g d a1 v Q) : gd_G g mX11_laysParts d 0 0 83 [(0, zR 11 0), (1, zI a1)] [] v Q := by
  unfold wp_X11_laysParts_83 at h
  refine gd_iload_n 1 dX11_laysParts_83 rfl rfl ?_
  refine gd_aload_n 0 dX11_laysParts_84 rfl rfl ?_
  refine gd_callVI (As := []) (rest := [zI a1]) (dy := 2) (my := 0) (sy := 0) (k := 11) (i := 0) lX11_278 iX11_sales sX11_sales rfl dX11_laysParts_85 rfl rfl (gd_room (by omega) (by decide)) (by decide) (Nat.le_of_ble_eq_true rfl) h (fun r2 v1 h => ?_)
  refine gd_icmp_ge (tgt := 205) dX11_laysParts_88 (by decide) (fun hc => ?_) (fun hc => ?_)
  · have h := h.1 hc
    exact gd_vret dX11_laysParts_205 rfl h
  · have h := h.2 hc
    refine gd_aload_n 0 dX11_laysParts_91 rfl rfl ?_
    refine gd_getR (x := 0) (kr := 47) fX11_43 rfl rfl dX11_laysParts_92 rfl ?_
    refine gd_iload_n 1 dX11_laysParts_95 rfl rfl ?_
    obtain ⟨hb, h⟩ := h
    refine gd_iaload (n := 24) (by decide) rfl dX11_laysParts_96 rfl hb ?_
    refine gd_istore_n (L' := [(2, zI (v1.1 47 0 (a1 : Int32).toNatClampNeg)), (0, zR 11 0), (1, zI a1)]) dX11_laysParts_97 rfl (by decide) rfl ?_
    refine gd_iconst (x9 := 0) dX11_laysParts_98 (by decide) ?_
    refine gd_istore_n (L' := [(3, zI 0), (2, zI (v1.1 47 0 (a1 : Int32).toNatClampNeg)), (0, zR 11 0), (1, zI a1)]) dX11_laysParts_99 rfl (by decide) rfl ?_
    refine gd_locals [2, 3, 1, 0] rfl ?_
    exact h
def wp_X11_laysParts_100 (g : ab_E) (d : Nat) (a1 : Int32) (a2 : Int32) (a3 : Int32) (v : gd_D) (Q : ab_O → gd_D → Prop) : Prop :=
  gd_C g mX11_sales 2 0 0 [zR 11 0] v (gd_rI (fun (r2 : Int32) v1 =>
    (((r2 : Int32) ≤ a3) →
      gd_G g mX11_laysParts d 0 0 83 [(0, zR 11 0), (1, zI (a1 + 1))] [] v1 Q) ∧
    ((¬ (r2 : Int32) ≤ a3) →
      vp_in a3 24 ∧
      gd_C g mX11_of0 2 0 0 [zR 11 0, zI (v1.1 47 0 (a3 : Int32).toNatClampNeg), zI 1] v1 (gd_rI (fun (r4 : Int32) v3 =>
        gd_C g mX11_of0 2 0 0 [zR 11 0, zI a2, zI 0] v3 (gd_rI (fun (r6 : Int32) v5 =>
          (((r4 : Int32) = r6) →
            vp_in a2 24 ∧
            vp_in (v1.1 47 0 (a3 : Int32).toNatClampNeg) 24 ∧
            ∀ x7 : Int32, x7 = v5.1 54 0 (v1.1 47 0 (a3 : Int32).toNatClampNeg : Int32).toNatClampNeg →
            gd_C g mJ9_min_7cf53 2 0 0 [zI (v5.1 53 0 (a2 : Int32).toNatClampNeg), zI x7] v5 (gd_rI (fun (r9 : Int32) v8 =>
              ∀ x10 : Int32, x10 = (24 * a2) + (v1.1 47 0 (a3 : Int32).toNatClampNeg) →
              vp_in x10 576 ∧
              vp_in x10 576 ∧
              ∀ v11 : gd_D, v11 = gd_sI v8 51 0 ((x10 : Int32).toNatClampNeg) ((v8.1 51 0 (x10 : Int32).toNatClampNeg) + r9) →
              vp_in a2 24 ∧
              vp_in a2 24 ∧
              ∀ v12 : gd_D, v12 = gd_sI v11 53 0 ((a2 : Int32).toNatClampNeg) ((v11.1 53 0 (a2 : Int32).toNatClampNeg) - r9) →
              vp_in (v1.1 47 0 (a3 : Int32).toNatClampNeg) 24 ∧
              ∀ x13 : Int32, x13 = v12.1 54 0 (v1.1 47 0 (a3 : Int32).toNatClampNeg : Int32).toNatClampNeg →
              vp_in (v1.1 47 0 (a3 : Int32).toNatClampNeg) 24 ∧
              ∀ v14 : gd_D, v14 = gd_sI v12 54 0 ((v1.1 47 0 (a3 : Int32).toNatClampNeg : Int32).toNatClampNeg) (x13 - r9) →
              gd_G g mX11_laysParts d 0 0 100 [(0, zR 11 0), (1, zI a1), (2, zI a2), (3, zI (a3 + 1))] [] v14 Q) (fun E v9 => Q (Sum.inr E) v9))) ∧
          ((¬ (r4 : Int32) = r6) →
            gd_G g mX11_laysParts d 0 0 100 [(0, zR 11 0), (1, zI a1), (2, zI a2), (3, zI (a3 + 1))] [] v5 Q)) (fun E v9 => Q (Sum.inr E) v9))) (fun E v9 => Q (Sum.inr E) v9)))) (fun E v9 => Q (Sum.inr E) v9))
theorem w_X11_laysParts_100 {g : ab_E} {d : Nat} {a1 : Int32} {a2 : Int32} {a3 : Int32} {v : gd_D} {Q : ab_O → gd_D → Prop} (hd : 3 ≤ d) (h : wp_X11_laysParts_100 g d a1 a2 a3 v Q) : gd_G g mX11_laysParts d 0 0 100 [(0, zR 11 0), (1, zI a1), (2, zI a2), (3, zI a3)] [] v Q := by
  unfold wp_X11_laysParts_100 at h
  refine gd_iload_n 3 dX11_laysParts_100 rfl rfl ?_
  refine gd_aload_n 0 dX11_laysParts_101 rfl rfl ?_
  refine gd_callVI (As := []) (rest := [zI a3]) (dy := 2) (my := 0) (sy := 0) (k := 11) (i := 0) lX11_278 iX11_sales sX11_sales rfl dX11_laysParts_102 rfl rfl (gd_room (by omega) (by decide)) (by decide) (Nat.le_of_ble_eq_true rfl) h (fun r2 v1 h => ?_)
  refine gd_icmp_ge (tgt := 199) dX11_laysParts_105 (by decide) (fun hc => ?_) (fun hc => ?_)
  · have h := h.1 hc
    refine gd_iinc (x9 := a1 + 1) (L' := [(1, zI (a1 + 1)), (0, zR 11 0), (2, zI a2), (3, zI a3)]) 1 dX11_laysParts_199 rfl rfl (by decide) rfl ?_
    refine gd_goto (tgt := 83) dX11_laysParts_202 (by decide) ?_
    refine gd_locals [1, 0] rfl ?_
    exact h
  · have h := h.2 hc
    refine gd_aload_n 0 dX11_laysParts_108 rfl rfl ?_
    refine gd_getR (x := 0) (kr := 47) fX11_43 rfl rfl dX11_laysParts_109 rfl ?_
    refine gd_iload_n 3 dX11_laysParts_112 rfl rfl ?_
    obtain ⟨hb, h⟩ := h
    refine gd_iaload (n := 24) (by decide) rfl dX11_laysParts_113 rfl hb ?_
    refine gd_istore (L' := [(4, zI (v1.1 47 0 (a3 : Int32).toNatClampNeg)), (0, zR 11 0), (1, zI a1), (2, zI a2), (3, zI a3)]) dX11_laysParts_114 (by decide) rfl ?_
    refine gd_aload_n 1 dX11_laysParts_116 rfl rfl ?_
    refine gd_iload 0 dX11_laysParts_117 rfl ?_
    refine gd_iconst (x9 := 1) dX11_laysParts_119 (by decide) ?_
    refine gd_callVI (As := [zI (v1.1 47 0 (a3 : Int32).toNatClampNeg), zI 1]) (rest := []) (dy := 2) (my := 0) (sy := 0) (k := 11) (i := 0) lX11_289 iX11_of0 sX11_of0 rfl dX11_laysParts_120 rfl rfl (gd_room (by omega) (by decide)) (by decide) (Nat.le_of_ble_eq_true rfl) h (fun r4 v3 h => ?_)
    refine gd_aload_n 1 dX11_laysParts_123 rfl rfl ?_
    refine gd_iload_n 3 dX11_laysParts_124 rfl rfl ?_
    refine gd_iconst (x9 := 0) dX11_laysParts_125 (by decide) ?_
    refine gd_callVI (As := [zI a2, zI 0]) (rest := [zI r4]) (dy := 2) (my := 0) (sy := 0) (k := 11) (i := 0) lX11_289 iX11_of0 sX11_of0 rfl dX11_laysParts_126 rfl rfl (gd_room (by omega) (by decide)) (by decide) (Nat.le_of_ble_eq_true rfl) h (fun r6 v5 h => ?_)
    refine gd_icmp_eq (tgt := 135) dX11_laysParts_129 (by decide) (fun hc => ?_) (fun hc => ?_)
    · have h := h.1 hc
      refine gd_aload_n 1 dX11_laysParts_135 rfl rfl ?_
      refine gd_getR (x := 0) (kr := 53) fX11_61 rfl rfl dX11_laysParts_136 rfl ?_
      refine gd_iload_n 3 dX11_laysParts_139 rfl rfl ?_
      obtain ⟨hb, h⟩ := h
      refine gd_iaload (n := 24) (by decide) rfl dX11_laysParts_140 rfl hb ?_
      refine gd_aload_n 1 dX11_laysParts_141 rfl rfl ?_
      refine gd_getR (x := 0) (kr := 54) fX11_64 rfl rfl dX11_laysParts_142 rfl ?_
      refine gd_iload 0 dX11_laysParts_145 rfl ?_
      obtain ⟨hb, h⟩ := h
      refine gd_iaload (n := 24) (by decide) rfl dX11_laysParts_147 rfl hb ?_
      refine gd_nmI (fun x7 ex7 => ?_)
      have h := h x7 ex7
      refine gd_callSI (As := [zI (v5.1 53 0 (a2 : Int32).toNatClampNeg), zI x7]) (rest := []) (dy := 2) (my := 0) (sy := 0) lX11_320 tJ9_min_7cf53 dX11_laysParts_148 rfl rfl (gd_room (by omega) (by decide)) (by decide) (Nat.le_of_ble_eq_true rfl) h (fun r9 v8 h => ?_)
      refine gd_istore (L' := [(5, zI r9), (4, zI (v1.1 47 0 (a3 : Int32).toNatClampNeg)), (0, zR 11 0), (1, zI a1), (2, zI a2), (3, zI a3)]) dX11_laysParts_151 (by decide) rfl ?_
      refine gd_aload_n 2 dX11_laysParts_153 rfl rfl ?_
      refine gd_getR (x := 0) (kr := 51) fX11_55 rfl rfl dX11_laysParts_154 rfl ?_
      refine gd_bipush (x9 := 24) dX11_laysParts_157 (by decide) ?_
      refine gd_iload_n 4 dX11_laysParts_159 rfl rfl ?_
      refine gd_imul dX11_laysParts_160 ?_
      refine gd_iload 1 dX11_laysParts_161 rfl ?_
      refine gd_iadd dX11_laysParts_163 ?_
      refine gd_nmI (fun x10 ex10 => ?_)
      have h := h x10 ex10
      refine gd_dup2_11 dX11_laysParts_164 rfl rfl ?_
      obtain ⟨hb, h⟩ := h
      refine gd_iaload (n := 576) (by decide) rfl dX11_laysParts_165 rfl hb ?_
      refine gd_iload 0 dX11_laysParts_166 rfl ?_
      refine gd_iadd dX11_laysParts_168 ?_
      obtain ⟨hb, h⟩ := h
      refine gd_iastoren (n := 576) (by decide) rfl rfl dX11_laysParts_169 rfl hb (fun v11 ev11 => ?_)
      have h := h v11 ev11
      refine gd_aload_n 2 dX11_laysParts_170 rfl rfl ?_
      refine gd_getR (x := 0) (kr := 53) fX11_61 rfl rfl dX11_laysParts_171 rfl ?_
      refine gd_iload_n 4 dX11_laysParts_174 rfl rfl ?_
      refine gd_dup2_11 dX11_laysParts_175 rfl rfl ?_
      obtain ⟨hb, h⟩ := h
      refine gd_iaload (n := 24) (by decide) rfl dX11_laysParts_176 rfl hb ?_
      refine gd_iload 0 dX11_laysParts_177 rfl ?_
      refine gd_isub dX11_laysParts_179 ?_
      obtain ⟨hb, h⟩ := h
      refine gd_iastoren (n := 24) (by decide) rfl rfl dX11_laysParts_180 rfl hb (fun v12 ev12 => ?_)
      have h := h v12 ev12
      refine gd_aload_n 2 dX11_laysParts_181 rfl rfl ?_
      refine gd_getR (x := 0) (kr := 54) fX11_64 rfl rfl dX11_laysParts_182 rfl ?_
      refine gd_iload 1 dX11_laysParts_185 rfl ?_
      refine gd_dup2_11 dX11_laysParts_187 rfl rfl ?_
      obtain ⟨hb, h⟩ := h
      refine gd_iaload (n := 24) (by decide) rfl dX11_laysParts_188 rfl hb ?_
      refine gd_nmI (fun x13 ex13 => ?_)
      have h := h x13 ex13
      refine gd_iload 0 dX11_laysParts_189 rfl ?_
      refine gd_isub dX11_laysParts_191 ?_
      obtain ⟨hb, h⟩ := h
      refine gd_iastoren (n := 24) (by decide) rfl rfl dX11_laysParts_192 rfl hb (fun v14 ev14 => ?_)
      have h := h v14 ev14
      refine gd_iinc (x9 := a3 + 1) (L' := [(3, zI (a3 + 1)), (5, zI r9), (4, zI (v1.1 47 0 (a3 : Int32).toNatClampNeg)), (0, zR 11 0), (1, zI a1), (2, zI a2)]) 5 dX11_laysParts_193 rfl rfl (by decide) rfl ?_
      refine gd_goto (tgt := 100) dX11_laysParts_196 (by decide) ?_
      refine gd_locals [3, 4, 5, 0] rfl ?_
      exact h
    · have h := h.2 hc
      refine gd_goto (tgt := 193) dX11_laysParts_132 (by decide) ?_
      refine gd_iinc (x9 := a3 + 1) (L' := [(3, zI (a3 + 1)), (4, zI (v1.1 47 0 (a3 : Int32).toNatClampNeg)), (0, zR 11 0), (1, zI a1), (2, zI a2)]) 4 dX11_laysParts_193 rfl rfl (by decide) rfl ?_
      refine gd_goto (tgt := 100) dX11_laysParts_196 (by decide) ?_
      refine gd_locals [2, 3, 4, 0] rfl ?_
      exact h
theorem c_X11_laysParts {g : ab_E} {d : Nat} {v : gd_D} {Q : ab_O → gd_D → Prop} (hd : 0 ≤ d) (h : wp_X11_laysParts g d v Q) : gd_C g mX11_laysParts d 0 0 [zR 11 0] v Q := gd_enterF (plainFor_of_name (by decide)) (Nat.le_of_ble_eq_true rfl) rfl (w_X11_laysParts hd h)
def wp_X11_partAt (g : ab_E) (d : Nat) (a1 : Int32) (a2 : Int32) (v : gd_D) (Q : ab_O → gd_D → Prop) : Prop :=
  gd_G g mX11_partAt d 0 0 5 [(0, zR 11 0), (1, zI a1), (3, zI a2), (4, zI 0)] [] v Q
theorem w_X11_partAt {g : ab_E} {d : Nat} {a1 : Int32} {a2 : Int32} {v : gd_D} {Q : ab_O → gd_D → Prop} (hd : 0 ≤ d) (h : wp_X11_partAt g d a1 a2 v Q) : gd_G g mX11_partAt d 0 0 0 [(0, zR 11 0), (1, zI a1), (2, zI a2)] [] v Q := by
  unfold wp_X11_partAt at h
  refine gd_iload_n 2 dX11_partAt_0 rfl rfl ?_
  refine gd_istore_n (L' := [(3, zI a2), (0, zR 11 0), (1, zI a1), (2, zI a2)]) dX11_partAt_1 rfl (by decide) rfl ?_
  refine gd_iconst (x9 := 0) dX11_partAt_2 (by decide) ?_
  refine gd_istore (L' := [(4, zI 0), (3, zI a2), (0, zR 11 0), (1, zI a1), (2, zI a2)]) dX11_partAt_3 (by decide) rfl ?_
  refine gd_locals [2, 3, 1, 0] rfl ?_
  exact h
def wp_X11_partAt_5 (g : ab_E) (d : Nat) (a1 : Int32) (a3 : Int32) (a4 : Int32) (v : gd_D) (Q : ab_O → gd_D → Prop) : Prop :=
  gd_C g mX11_sales 2 0 0 [zR 11 0] v (gd_rI (fun (r2 : Int32) v1 =>
    (((r2 : Int32) ≤ a4) →
      Q (Sum.inl (some (zI (-1)))) v1) ∧
    ((¬ (r2 : Int32) ≤ a4) →
      vp_in a4 24 ∧
      ∀ x3 : Int32, x3 = (24 * a1) + (v1.1 47 0 (a4 : Int32).toNatClampNeg) →
      vp_in x3 576 ∧
      ((¬ (v1.1 51 0 (x3 : Int32).toNatClampNeg : Int32) = 0) →
        ((¬ (a3 : Int32) = 0) →
          gd_G g mX11_partAt d 0 0 5 [(0, zR 11 0), (1, zI a1), (3, zI (a3 + (-1))), (4, zI (a4 + 1))] [] v1 Q) ∧
        (((a3 : Int32) = 0) →
          vp_in a4 24 ∧
          Q (Sum.inl (some (zI (v1.1 47 0 (a4 : Int32).toNatClampNeg)))) v1)) ∧
      (((v1.1 51 0 (x3 : Int32).toNatClampNeg : Int32) = 0) →
        gd_G g mX11_partAt d 0 0 5 [(0, zR 11 0), (1, zI a1), (3, zI a3), (4, zI (a4 + 1))] [] v1 Q))) (fun E v9 => Q (Sum.inr E) v9))
theorem w_X11_partAt_5 {g : ab_E} {d : Nat} {a1 : Int32} {a3 : Int32} {a4 : Int32} {v : gd_D} {Q : ab_O → gd_D → Prop} (hd : 3 ≤ d) (h : wp_X11_partAt_5 g d a1 a3 a4 v Q) : gd_G g mX11_partAt d 0 0 5 [(0, zR 11 0), (1, zI a1), (3, zI a3), (4, zI a4)] [] v Q := by
  unfold wp_X11_partAt_5 at h
  refine gd_iload 3 dX11_partAt_5 rfl ?_
  refine gd_aload_n 0 dX11_partAt_7 rfl rfl ?_
  refine gd_callVI (As := []) (rest := [zI a4]) (dy := 2) (my := 0) (sy := 0) (k := 11) (i := 0) lX11_278 iX11_sales sX11_sales rfl dX11_partAt_8 rfl rfl (gd_room (by omega) (by decide)) (by decide) (Nat.le_of_ble_eq_true rfl) h (fun r2 v1 h => ?_)
  refine gd_icmp_ge (tgt := 58) dX11_partAt_11 (by decide) (fun hc => ?_) (fun hc => ?_)
  · have h := h.1 hc
    refine gd_iconst (x9 := (-1)) dX11_partAt_58 (by decide) ?_
    exact gd_iret (ty := .int) dX11_partAt_59 rfl rfl h
  · have h := h.2 hc
    refine gd_aload_n 0 dX11_partAt_14 rfl rfl ?_
    refine gd_getR (x := 0) (kr := 51) fX11_55 rfl rfl dX11_partAt_15 rfl ?_
    refine gd_bipush (x9 := 24) dX11_partAt_18 (by decide) ?_
    refine gd_iload_n 1 dX11_partAt_20 rfl rfl ?_
    refine gd_imul dX11_partAt_21 ?_
    refine gd_aload_n 0 dX11_partAt_22 rfl rfl ?_
    refine gd_getR (x := 0) (kr := 47) fX11_43 rfl rfl dX11_partAt_23 rfl ?_
    refine gd_iload 3 dX11_partAt_26 rfl ?_
    obtain ⟨hb, h⟩ := h
    refine gd_iaload (n := 24) (by decide) rfl dX11_partAt_28 rfl hb ?_
    refine gd_iadd dX11_partAt_29 ?_
    refine gd_nmI (fun x3 ex3 => ?_)
    have h := h x3 ex3
    obtain ⟨hb, h⟩ := h
    refine gd_iaload (n := 576) (by decide) rfl dX11_partAt_30 rfl hb ?_
    refine gd_if_ne (tgt := 37) dX11_partAt_31 (by decide) (fun hc => ?_) (fun hc => ?_)
    · have h := h.1 hc
      refine gd_iload_n 2 dX11_partAt_37 rfl rfl ?_
      refine gd_if_ne (tgt := 49) dX11_partAt_38 (by decide) (fun hc => ?_) (fun hc => ?_)
      · have h := h.1 hc
        refine gd_iinc (x9 := a3 + (-1)) (L' := [(3, zI (a3 + (-1))), (0, zR 11 0), (1, zI a1), (4, zI a4)]) 2 dX11_partAt_49 rfl rfl (by decide) rfl ?_
        refine gd_iinc (x9 := a4 + 1) (L' := [(4, zI (a4 + 1)), (3, zI (a3 + (-1))), (0, zR 11 0), (1, zI a1)]) 3 dX11_partAt_52 rfl rfl (by decide) rfl ?_
        refine gd_goto (tgt := 5) dX11_partAt_55 (by decide) ?_
        refine gd_locals [2, 3, 1, 0] rfl ?_
        exact h
      · have h := h.2 hc
        refine gd_aload_n 0 dX11_partAt_41 rfl rfl ?_
        refine gd_getR (x := 0) (kr := 47) fX11_43 rfl rfl dX11_partAt_42 rfl ?_
        refine gd_iload 3 dX11_partAt_45 rfl ?_
        obtain ⟨hb, h⟩ := h
        refine gd_iaload (n := 24) (by decide) rfl dX11_partAt_47 rfl hb ?_
        exact gd_iret (ty := .int) dX11_partAt_48 rfl rfl h
    · have h := h.2 hc
      refine gd_goto (tgt := 52) dX11_partAt_34 (by decide) ?_
      refine gd_iinc (x9 := a4 + 1) (L' := [(4, zI (a4 + 1)), (0, zR 11 0), (1, zI a1), (3, zI a3)]) 3 dX11_partAt_52 rfl rfl (by decide) rfl ?_
      refine gd_goto (tgt := 5) dX11_partAt_55 (by decide) ?_
      refine gd_locals [1, 2, 3, 0] rfl ?_
      exact h
theorem c_X11_partAt {g : ab_E} {d : Nat} {a1 : Int32} {a2 : Int32} {v : gd_D} {Q : ab_O → gd_D → Prop} (hd : 0 ≤ d) (h : wp_X11_partAt g d a1 a2 v Q) : gd_C g mX11_partAt d 0 0 [zR 11 0, zI a1, zI a2] v Q := gd_enterF (plainFor_of_name (by decide)) (Nat.le_of_ble_eq_true rfl) rfl (w_X11_partAt hd h)
def wp_X11_closes (g : ab_E) (d : Nat) (e : Nat) (a1 : Int32) (a2 : Int32) (v : gd_D) (Q : ab_O → gd_D → Prop) : Prop :=
  gd_C g mX11_adds 2 0 0 [zR 11 0, zI a1, zI 5, zJ ((-a2 : Int32).toInt64)] v (gd_rV (fun v1 =>
    gd_C g mX11_adds 2 0 0 [zR 11 0, zI a1, zI 8, zJ ((a2 : Int32).toInt64)] v1 (gd_rV (fun v3 =>
      vp_in 3 773 ∧
      gd_C g mX11_of0 2 0 0 [zR 11 0, zI a1, zI 3] v3 (gd_rI (fun (r6 : Int32) v5 =>
        ∀ y7 : Int64, y7 = (v3.2.1 40 0 (3 : Int32).toNatClampNeg) - ((r6 : Int32).toInt64) →
        gd_C g mJ9_max_f86c9 2 0 0 [zJ 0, zJ y7] v5 (gd_rJ (fun (r9 : Int64) v8 =>
          gd_C g mX11_of0 2 0 0 [zR 11 0, zI a1, zI 0] v8 (gd_rI (fun (r11 : Int32) v10 =>
            gd_C g mX11_of0 2 0 0 [zR 11 0, zI a1, zI 1] v10 (gd_rI (fun (r13 : Int32) v12 =>
              gd_C g mX11_pays 2 0 0 [zR 11 0, zI r11, zI r13, zJ (r9 * ((a2 : Int32).toInt64))] v12 (gd_rV (fun v14 =>
                gd_C g mX11_of0 2 0 0 [zR 11 0, zI a1, zI 0] v14 (gd_rI (fun (r17 : Int32) v16 =>
                  vp_in ((9 + (6 * r17)) + 4) 773 ∧
                  ∀ y18 : Int64, y18 = v16.2.1 40 0 ((9 + (6 * r17)) + 4 : Int32).toNatClampNeg →
                  vp_in ((9 + (6 * r17)) + 4) 773 ∧
                  ∀ v19 : gd_D, v19 = gd_sJ v16 40 0 (((9 + (6 * r17)) + 4 : Int32).toNatClampNeg) (y18 + (r9 * ((a2 : Int32).toInt64))) →
                  vp_in a1 24 ∧
                  ∀ v20 : gd_D, v20 = gd_sI v19 55 0 ((a1 : Int32).toNatClampNeg) (vp_nar .boolean 1) →
                  gd_G g mX11_closes d 0 0 93 [(0, zR 11 0), (1, zI a1), (5, zI a2), (6, zI 0)] [] v20 Q) (fun E v9 => Q (Sum.inr E) v9))) (fun E v9 => Q (Sum.inr E) v9))) (fun E v9 => Q (Sum.inr E) v9))) (fun E v9 => Q (Sum.inr E) v9))) (fun E v9 => Q (Sum.inr E) v9))) (fun E v9 => Q (Sum.inr E) v9))) (fun E v9 => Q (Sum.inr E) v9))) (fun E v9 => Q (Sum.inr E) v9))
theorem w_X11_closes {g : ab_E} {d : Nat} {e : Nat} {a1 : Int32} {a2 : Int32} {v : gd_D} {Q : ab_O → gd_D → Prop} (he : e + 1 ≤ d) (hd : 3 ≤ d) (h : wp_X11_closes g d e a1 a2 v Q) : gd_G g mX11_closes d 0 0 0 [(0, zR 11 0), (1, zI a1), (2, zI a2)] [] v Q := by
  unfold wp_X11_closes at h
  refine gd_aload_n 0 dX11_closes_0 rfl rfl ?_
  refine gd_iload_n 1 dX11_closes_1 rfl rfl ?_
  refine gd_iconst (x9 := 5) dX11_closes_2 (by decide) ?_
  refine gd_iload_n 2 dX11_closes_3 rfl rfl ?_
  refine gd_ineg dX11_closes_4 ?_
  refine gd_i2l dX11_closes_5 ?_
  refine gd_callVV (As := [zI a1, zI 5, zJ ((-a2 : Int32).toInt64)]) (rest := []) (dy := 2) (my := 0) (sy := 0) (k := 11) (i := 0) lX11_322 iX11_adds sX11_adds rfl dX11_closes_6 rfl rfl (gd_room (by omega) (by decide)) (by decide) (Nat.le_of_ble_eq_true rfl) h (fun v1 h => ?_)
  refine gd_aload_n 0 dX11_closes_9 rfl rfl ?_
  refine gd_iload_n 1 dX11_closes_10 rfl rfl ?_
  refine gd_bipush (x9 := 8) dX11_closes_11 (by decide) ?_
  refine gd_iload_n 2 dX11_closes_13 rfl rfl ?_
  refine gd_i2l dX11_closes_14 ?_
  refine gd_callVV (As := [zI a1, zI 8, zJ ((a2 : Int32).toInt64)]) (rest := []) (dy := 2) (my := 0) (sy := 0) (k := 11) (i := 0) lX11_322 iX11_adds sX11_adds rfl dX11_closes_15 rfl rfl (gd_room (by omega) (by decide)) (by decide) (Nat.le_of_ble_eq_true rfl) h (fun v3 h => ?_)
  refine gd_lconst (x9 := 0) dX11_closes_18 (by decide) ?_
  refine gd_aload_n 0 dX11_closes_19 rfl rfl ?_
  refine gd_getR (x := 0) (kr := 40) fX11_17 rfl rfl dX11_closes_20 rfl ?_
  refine gd_iconst (x9 := 3) dX11_closes_23 (by decide) ?_
  obtain ⟨hb, h⟩ := h
  refine gd_laload (n := 773) (by decide) rfl dX11_closes_24 rfl hb ?_
  refine gd_aload_n 0 dX11_closes_25 rfl rfl ?_
  refine gd_iload_n 1 dX11_closes_26 rfl rfl ?_
  refine gd_iconst (x9 := 3) dX11_closes_27 (by decide) ?_
  refine gd_callVI (As := [zI a1, zI 3]) (rest := [zJ (v3.2.1 40 0 (3 : Int32).toNatClampNeg), zJ 0]) (dy := 2) (my := 0) (sy := 0) (k := 11) (i := 0) lX11_289 iX11_of0 sX11_of0 rfl dX11_closes_28 rfl rfl (gd_room (by omega) (by decide)) (by decide) (Nat.le_of_ble_eq_true rfl) h (fun r6 v5 h => ?_)
  refine gd_i2l dX11_closes_31 ?_
  refine gd_lsub dX11_closes_32 ?_
  refine gd_nmJ (fun y7 ey7 => ?_)
  have h := h y7 ey7
  refine gd_callSJ (As := [zJ 0, zJ y7]) (rest := []) (dy := 2) (my := 0) (sy := 0) lX11_329 tJ9_max_f86c9 dX11_closes_33 rfl rfl (gd_room (by omega) (by decide)) (by decide) (Nat.le_of_ble_eq_true rfl) h (fun r9 v8 h => ?_)
  refine gd_iload_n 2 dX11_closes_36 rfl rfl ?_
  refine gd_i2l dX11_closes_37 ?_
  refine gd_lmul dX11_closes_38 ?_
  refine gd_lstore_n (L' := [(3, zJ (r9 * ((a2 : Int32).toInt64))), (0, zR 11 0), (1, zI a1), (2, zI a2)]) dX11_closes_39 rfl (by decide) rfl ?_
  refine gd_aload_n 1 dX11_closes_40 rfl rfl ?_
  refine gd_aload_n 1 dX11_closes_41 rfl rfl ?_
  refine gd_iload_n 2 dX11_closes_42 rfl rfl ?_
  refine gd_iconst (x9 := 0) dX11_closes_43 (by decide) ?_
  refine gd_callVI (As := [zI a1, zI 0]) (rest := [zR 11 0]) (dy := 2) (my := 0) (sy := 0) (k := 11) (i := 0) lX11_289 iX11_of0 sX11_of0 rfl dX11_closes_44 rfl rfl (gd_room (by omega) (by decide)) (by decide) (Nat.le_of_ble_eq_true rfl) h (fun r11 v10 h => ?_)
  refine gd_aload_n 1 dX11_closes_47 rfl rfl ?_
  refine gd_iload_n 2 dX11_closes_48 rfl rfl ?_
  refine gd_iconst (x9 := 1) dX11_closes_49 (by decide) ?_
  refine gd_callVI (As := [zI a1, zI 1]) (rest := [zI r11, zR 11 0]) (dy := 2) (my := 0) (sy := 0) (k := 11) (i := 0) lX11_289 iX11_of0 sX11_of0 rfl dX11_closes_50 rfl rfl (gd_room (by omega) (by decide)) (by decide) (Nat.le_of_ble_eq_true rfl) h (fun r13 v12 h => ?_)
  refine gd_lload_n 0 dX11_closes_53 rfl rfl ?_
  refine gd_callVV (As := [zI r11, zI r13, zJ (r9 * ((a2 : Int32).toInt64))]) (rest := []) (dy := 2) (my := 0) (sy := 0) (k := 11) (i := 0) lX11_326 iX11_pays sX11_pays rfl dX11_closes_54 rfl rfl (gd_room (by omega) (by decide)) (by decide) (Nat.le_of_ble_eq_true rfl) h (fun v14 h => ?_)
  refine gd_aload_n 1 dX11_closes_57 rfl rfl ?_
  refine gd_getR (x := 0) (kr := 40) fX11_17 rfl rfl dX11_closes_58 rfl ?_
  refine gd_bipush (x9 := 9) dX11_closes_61 (by decide) ?_
  refine gd_bipush (x9 := 6) dX11_closes_63 (by decide) ?_
  refine gd_aload_n 1 dX11_closes_65 rfl rfl ?_
  refine gd_iload_n 2 dX11_closes_66 rfl rfl ?_
  refine gd_iconst (x9 := 0) dX11_closes_67 (by decide) ?_
  refine gd_callVI (As := [zI a1, zI 0]) (rest := [zI 6, zI 9, zR 40 0]) (dy := 2) (my := 0) (sy := 0) (k := 11) (i := 0) lX11_289 iX11_of0 sX11_of0 rfl dX11_closes_68 rfl rfl (gd_room (by omega) (by decide)) (by decide) (Nat.le_of_ble_eq_true rfl) h (fun r17 v16 h => ?_)
  refine gd_imul dX11_closes_71 ?_
  refine gd_iadd dX11_closes_72 ?_
  refine gd_iconst (x9 := 4) dX11_closes_73 (by decide) ?_
  refine gd_iadd dX11_closes_74 ?_
  refine gd_dup2_11 dX11_closes_75 rfl rfl ?_
  obtain ⟨hb, h⟩ := h
  refine gd_laload (n := 773) (by decide) rfl dX11_closes_76 rfl hb ?_
  refine gd_nmJ (fun y18 ey18 => ?_)
  have h := h y18 ey18
  refine gd_lload_n 0 dX11_closes_77 rfl rfl ?_
  refine gd_ladd dX11_closes_78 ?_
  obtain ⟨hb, h⟩ := h
  refine gd_lastoren (n := 773) (by decide) rfl rfl dX11_closes_79 rfl hb (fun v19 ev19 => ?_)
  have h := h v19 ev19
  refine gd_aload_n 1 dX11_closes_80 rfl rfl ?_
  refine gd_getR (x := 0) (kr := 55) fX11_67 rfl rfl dX11_closes_81 rfl ?_
  refine gd_iload_n 2 dX11_closes_84 rfl rfl ?_
  refine gd_iconst (x9 := 1) dX11_closes_85 (by decide) ?_
  obtain ⟨hb, h⟩ := h
  refine gd_zastoren (n := 24) (by decide) rfl rfl dX11_closes_86 rfl hb (fun v20 ev20 => ?_)
  have h := h v20 ev20
  refine gd_iload_n 3 dX11_closes_87 rfl rfl ?_
  refine gd_istore (L' := [(5, zI a2), (3, zJ (r9 * ((a2 : Int32).toInt64))), (0, zR 11 0), (1, zI a1), (2, zI a2)]) dX11_closes_88 (by decide) rfl ?_
  refine gd_iconst (x9 := 0) dX11_closes_90 (by decide) ?_
  refine gd_istore (L' := [(6, zI 0), (5, zI a2), (3, zJ (r9 * ((a2 : Int32).toInt64))), (0, zR 11 0), (1, zI a1), (2, zI a2)]) dX11_closes_91 (by decide) rfl ?_
  refine gd_locals [3, 4, 1, 0] rfl ?_
  exact h
def wp_X11_closes_209 (g : ab_E) (d : Nat) (e : Nat) (a1 : Int32) (v : gd_D) (Q : ab_O → gd_D → Prop) : Prop :=
  vp_in a1 24 ∧
  ∀ v1 : gd_D, v1 = gd_sI v 55 0 ((a1 : Int32).toNatClampNeg) (vp_nar .boolean 0) →
  Q (Sum.inl none) v1
theorem w_X11_closes_209 {g : ab_E} {d : Nat} {e : Nat} {a1 : Int32} {v : gd_D} {Q : ab_O → gd_D → Prop} (he : e + 1 ≤ d) (hd : 0 ≤ d) (h : wp_X11_closes_209 g d e a1 v Q) : gd_G g mX11_closes d 0 0 209 [(0, zR 11 0), (1, zI a1)] [] v Q := by
  unfold wp_X11_closes_209 at h
  refine gd_aload_n 0 dX11_closes_209 rfl rfl ?_
  refine gd_getR (x := 0) (kr := 55) fX11_67 rfl rfl dX11_closes_210 rfl ?_
  refine gd_iload_n 1 dX11_closes_213 rfl rfl ?_
  refine gd_iconst (x9 := 0) dX11_closes_214 (by decide) ?_
  obtain ⟨hb, h⟩ := h
  refine gd_zastoren (n := 24) (by decide) rfl rfl dX11_closes_215 rfl hb (fun v1 ev1 => ?_)
  have h := h v1 ev1
  exact gd_vret dX11_closes_216 rfl h
def wp_X11_closes_93 (g : ab_E) (d : Nat) (e : Nat) (a1 : Int32) (a5 : Int32) (a6 : Int32) (v : gd_D) (Q : ab_O → gd_D → Prop) : Prop :=
  (((a5 : Int32) ≤ 0) →
    wp_X11_closes_209 g d e a1 v Q) ∧
  ((¬ (a5 : Int32) ≤ 0) →
    gd_C g mX11_partAt 3 0 0 [zR 11 0, zI a1, zI a6] v (gd_rI (fun (r2 : Int32) v1 =>
      (((r2 : Int32) = (-1)) →
        wp_X11_closes_209 g d e a1 v1 Q) ∧
      ((¬ (r2 : Int32) = (-1)) →
        gd_C g mX11_partAt 3 0 0 [zR 11 0, zI a1, zI a6] v1 (gd_rI (fun (r4 : Int32) v3 =>
          vp_in r4 24 ∧
          (((v3.1 55 0 (r4 : Int32).toNatClampNeg : Int32) = 0) →
            vp_in ((24 * a1) + r4) 576 ∧
            ∀ x5 : Int32, x5 = v3.1 51 0 ((24 * a1) + r4 : Int32).toNatClampNeg →
            vp_in ((24 * a1) + r4) 576 ∧
            ∀ x6 : Int32, x6 = v3.1 52 0 ((24 * a1) + r4 : Int32).toNatClampNeg →
            gd_C g mJ9_min_7cf53 2 0 0 [zI a5, zI (x5 - x6)] v3 (gd_rI (fun (r8 : Int32) v7 =>
              ((¬ (r8 : Int32) = 0) →
                vp_in ((24 * a1) + r4) 576 ∧
                ∀ x9 : Int32, x9 = v7.1 52 0 ((24 * a1) + r4 : Int32).toNatClampNeg →
                vp_in ((24 * a1) + r4) 576 ∧
                ∀ v10 : gd_D, v10 = gd_sI v7 52 0 (((24 * a1) + r4 : Int32).toNatClampNeg) (x9 + r8) →
                gd_C g mX11_closes e 0 0 [zR 11 0, zI r4, zI r8] v10 (gd_rV (fun v11 =>
                  gd_G g mX11_closes d 0 0 93 [(0, zR 11 0), (1, zI a1), (5, zI (a5 - r8)), (6, zI (a6 + 1))] [] v11 Q) (fun E v9 => Q (Sum.inr E) v9))) ∧
              (((r8 : Int32) = 0) →
                gd_G g mX11_closes d 0 0 93 [(0, zR 11 0), (1, zI a1), (5, zI a5), (6, zI (a6 + 1))] [] v7 Q)) (fun E v9 => Q (Sum.inr E) v9))) ∧
          ((¬ (v3.1 55 0 (r4 : Int32).toNatClampNeg : Int32) = 0) →
            gd_G g mX11_closes d 0 0 93 [(0, zR 11 0), (1, zI a1), (5, zI a5), (6, zI (a6 + 1))] [] v3 Q)) (fun E v9 => Q (Sum.inr E) v9)))) (fun E v9 => Q (Sum.inr E) v9)))
theorem w_X11_closes_93 {g : ab_E} {d : Nat} {e : Nat} {a1 : Int32} {a5 : Int32} {a6 : Int32} {v : gd_D} {Q : ab_O → gd_D → Prop} (he : e + 1 ≤ d) (hd : 4 ≤ d) (h : wp_X11_closes_93 g d e a1 a5 a6 v Q) : gd_G g mX11_closes d 0 0 93 [(0, zR 11 0), (1, zI a1), (5, zI a5), (6, zI a6)] [] v Q := by
  unfold wp_X11_closes_93 at h
  refine gd_iload 2 dX11_closes_93 rfl ?_
  refine gd_if_le (tgt := 209) dX11_closes_95 (by decide) (fun hc => ?_) (fun hc => ?_)
  · have h := h.1 hc
    refine gd_locals [0, 1] rfl ?_
    exact w_X11_closes_209 he (by omega) h
  · have h := h.2 hc
    refine gd_aload_n 0 dX11_closes_98 rfl rfl ?_
    refine gd_iload_n 1 dX11_closes_99 rfl rfl ?_
    refine gd_iload 3 dX11_closes_100 rfl ?_
    refine gd_callVI (As := [zI a1, zI a6]) (rest := []) (dy := 3) (my := 0) (sy := 0) (k := 11) (i := 0) lX11_332 iX11_partAt sX11_partAt rfl dX11_closes_102 rfl rfl (gd_room (by omega) (by decide)) (by decide) (Nat.le_of_ble_eq_true rfl) h (fun r2 v1 h => ?_)
    refine gd_iconst (x9 := (-1)) dX11_closes_105 (by decide) ?_
    refine gd_icmp_eq (tgt := 209) dX11_closes_106 (by decide) (fun hc => ?_) (fun hc => ?_)
    · have h := h.1 hc
      refine gd_locals [0, 1] rfl ?_
      exact w_X11_closes_209 he (by omega) h
    · have h := h.2 hc
      refine gd_aload_n 0 dX11_closes_109 rfl rfl ?_
      refine gd_iload_n 1 dX11_closes_110 rfl rfl ?_
      refine gd_iload 3 dX11_closes_111 rfl ?_
      refine gd_callVI (As := [zI a1, zI a6]) (rest := []) (dy := 3) (my := 0) (sy := 0) (k := 11) (i := 0) lX11_332 iX11_partAt sX11_partAt rfl dX11_closes_113 rfl rfl (gd_room (by omega) (by decide)) (by decide) (Nat.le_of_ble_eq_true rfl) h (fun r4 v3 h => ?_)
      refine gd_istore (L' := [(7, zI r4), (0, zR 11 0), (1, zI a1), (5, zI a5), (6, zI a6)]) dX11_closes_116 (by decide) rfl ?_
      refine gd_aload_n 1 dX11_closes_118 rfl rfl ?_
      refine gd_getR (x := 0) (kr := 55) fX11_67 rfl rfl dX11_closes_119 rfl ?_
      refine gd_iload 0 dX11_closes_122 rfl ?_
      obtain ⟨hb, h⟩ := h
      refine gd_zaload (n := 24) (by decide) rfl dX11_closes_124 rfl hb ?_
      refine gd_if_eq (tgt := 131) dX11_closes_125 (by decide) (fun hc => ?_) (fun hc => ?_)
      · have h := h.1 hc
        refine gd_iload 3 dX11_closes_131 rfl ?_
        refine gd_aload_n 1 dX11_closes_133 rfl rfl ?_
        refine gd_getR (x := 0) (kr := 51) fX11_55 rfl rfl dX11_closes_134 rfl ?_
        refine gd_bipush (x9 := 24) dX11_closes_137 (by decide) ?_
        refine gd_iload_n 2 dX11_closes_139 rfl rfl ?_
        refine gd_imul dX11_closes_140 ?_
        refine gd_iload 0 dX11_closes_141 rfl ?_
        refine gd_iadd dX11_closes_143 ?_
        obtain ⟨hb, h⟩ := h
        refine gd_iaload (n := 576) (by decide) rfl dX11_closes_144 rfl hb ?_
        refine gd_nmI (fun x5 ex5 => ?_)
        have h := h x5 ex5
        refine gd_aload_n 1 dX11_closes_145 rfl rfl ?_
        refine gd_getR (x := 0) (kr := 52) fX11_58 rfl rfl dX11_closes_146 rfl ?_
        refine gd_bipush (x9 := 24) dX11_closes_149 (by decide) ?_
        refine gd_iload_n 2 dX11_closes_151 rfl rfl ?_
        refine gd_imul dX11_closes_152 ?_
        refine gd_iload 0 dX11_closes_153 rfl ?_
        refine gd_iadd dX11_closes_155 ?_
        obtain ⟨hb, h⟩ := h
        refine gd_iaload (n := 576) (by decide) rfl dX11_closes_156 rfl hb ?_
        refine gd_nmI (fun x6 ex6 => ?_)
        have h := h x6 ex6
        refine gd_isub dX11_closes_157 ?_
        refine gd_callSI (As := [zI a5, zI (x5 - x6)]) (rest := []) (dy := 2) (my := 0) (sy := 0) lX11_320 tJ9_min_7cf53 dX11_closes_158 rfl rfl (gd_room (by omega) (by decide)) (by decide) (Nat.le_of_ble_eq_true rfl) h (fun r8 v7 h => ?_)
        refine gd_istore (L' := [(8, zI r8), (7, zI r4), (0, zR 11 0), (1, zI a1), (5, zI a5), (6, zI a6)]) dX11_closes_161 (by decide) rfl ?_
        refine gd_iload 0 dX11_closes_163 rfl ?_
        refine gd_if_ne (tgt := 171) dX11_closes_165 (by decide) (fun hc => ?_) (fun hc => ?_)
        · have h := h.1 hc
          refine gd_aload_n 2 dX11_closes_171 rfl rfl ?_
          refine gd_getR (x := 0) (kr := 52) fX11_58 rfl rfl dX11_closes_172 rfl ?_
          refine gd_bipush (x9 := 24) dX11_closes_175 (by decide) ?_
          refine gd_iload_n 3 dX11_closes_177 rfl rfl ?_
          refine gd_imul dX11_closes_178 ?_
          refine gd_iload 1 dX11_closes_179 rfl ?_
          refine gd_iadd dX11_closes_181 ?_
          refine gd_dup2_11 dX11_closes_182 rfl rfl ?_
          obtain ⟨hb, h⟩ := h
          refine gd_iaload (n := 576) (by decide) rfl dX11_closes_183 rfl hb ?_
          refine gd_nmI (fun x9 ex9 => ?_)
          have h := h x9 ex9
          refine gd_iload 0 dX11_closes_184 rfl ?_
          refine gd_iadd dX11_closes_186 ?_
          obtain ⟨hb, h⟩ := h
          refine gd_iastoren (n := 576) (by decide) rfl rfl dX11_closes_187 rfl hb (fun v10 ev10 => ?_)
          have h := h v10 ev10
          refine gd_iload 4 dX11_closes_188 rfl ?_
          refine gd_iload 0 dX11_closes_190 rfl ?_
          refine gd_isub dX11_closes_192 ?_
          refine gd_istore (L' := [(5, zI (a5 - r8)), (8, zI r8), (7, zI r4), (0, zR 11 0), (1, zI a1), (6, zI a6)]) dX11_closes_193 (by decide) rfl ?_
          refine gd_aload_n 3 dX11_closes_195 rfl rfl ?_
          refine gd_iload 2 dX11_closes_196 rfl ?_
          refine gd_iload 1 dX11_closes_198 rfl ?_
          refine gd_callVV (As := [zI r4, zI r8]) (rest := []) (dy := e) (my := 0) (sy := 0) (k := 11) (i := 0) lX11_335 iX11_closes sX11_closes rfl dX11_closes_200 rfl rfl (gd_room he (by decide)) (by decide) (Nat.le_of_ble_eq_true rfl) h (fun v11 h => ?_)
          refine gd_iinc (x9 := a6 + 1) (L' := [(6, zI (a6 + 1)), (5, zI (a5 - r8)), (8, zI r8), (7, zI r4), (0, zR 11 0), (1, zI a1)]) 5 dX11_closes_203 rfl rfl (by decide) rfl ?_
          refine gd_goto (tgt := 93) dX11_closes_206 (by decide) ?_
          refine gd_locals [4, 5, 1, 0] rfl ?_
          exact h
        · have h := h.2 hc
          refine gd_goto (tgt := 203) dX11_closes_168 (by decide) ?_
          refine gd_iinc (x9 := a6 + 1) (L' := [(6, zI (a6 + 1)), (8, zI r8), (7, zI r4), (0, zR 11 0), (1, zI a1), (5, zI a5)]) 5 dX11_closes_203 rfl rfl (by decide) rfl ?_
          refine gd_goto (tgt := 93) dX11_closes_206 (by decide) ?_
          refine gd_locals [3, 4, 5, 0] rfl ?_
          exact h
      · have h := h.2 hc
        refine gd_goto (tgt := 203) dX11_closes_128 (by decide) ?_
        refine gd_iinc (x9 := a6 + 1) (L' := [(6, zI (a6 + 1)), (7, zI r4), (0, zR 11 0), (1, zI a1), (5, zI a5)]) 4 dX11_closes_203 rfl rfl (by decide) rfl ?_
        refine gd_goto (tgt := 93) dX11_closes_206 (by decide) ?_
        refine gd_locals [2, 3, 4, 0] rfl ?_
        exact h
theorem c_X11_closes {g : ab_E} {d : Nat} {e : Nat} {a1 : Int32} {a2 : Int32} {v : gd_D} {Q : ab_O → gd_D → Prop} (he : e + 1 ≤ d) (hd : 3 ≤ d) (h : wp_X11_closes g d e a1 a2 v Q) : gd_C g mX11_closes d 0 0 [zR 11 0, zI a1, zI a2] v Q := gd_enterF (plainFor_of_name (by decide)) (Nat.le_of_ble_eq_true rfl) rfl (w_X11_closes he hd h)
def wp_X11_buysIn (g : ab_E) (d : Nat) (a1 : Int32) (a2 : Int32) (v : gd_D) (Q : ab_O → gd_D → Prop) : Prop :=
  gd_C g mX11_laysParts 4 0 0 [zR 11 0] v (gd_rV (fun v1 =>
    gd_C g mX11_of0 2 0 0 [zR 11 0, zI a1, zI 1] v1 (gd_rI (fun (r4 : Int32) v3 =>
      vp_in ((9 + (6 * r4)) + 0) 773 ∧
      ∀ y5 : Int64, y5 = v3.2.1 40 0 ((9 + (6 * r4)) + 0 : Int32).toNatClampNeg →
      vp_in ((9 + (6 * r4)) + 0) 773 ∧
      ∀ v6 : gd_D, v6 = gd_sJ v3 40 0 (((9 + (6 * r4)) + 0 : Int32).toNatClampNeg) (y5 + ((a2 : Int32).toInt64)) →
      vp_in ((9 + (6 * r4)) + 5) 773 ∧
      ∀ y7 : Int64, y7 = v6.2.1 40 0 ((9 + (6 * r4)) + 5 : Int32).toNatClampNeg →
      vp_in ((9 + (6 * r4)) + 5) 773 ∧
      ∀ v8 : gd_D, v8 = gd_sJ v6 40 0 (((9 + (6 * r4)) + 5 : Int32).toNatClampNeg) (y7 + ((a2 : Int32).toInt64)) →
      vp_in ((9 + (6 * r4)) + 1) 773 ∧
      ∀ y9 : Int64, y9 = v8.2.1 40 0 ((9 + (6 * r4)) + 1 : Int32).toNatClampNeg →
      vp_in 3 773 ∧
      ∀ y10 : Int64, y10 = (v8.2.1 40 0 (3 : Int32).toNatClampNeg) * ((a2 : Int32).toInt64) →
      vp_in ((9 + (6 * r4)) + 1) 773 ∧
      ∀ v11 : gd_D, v11 = gd_sJ v8 40 0 (((9 + (6 * r4)) + 1 : Int32).toNatClampNeg) (y9 - y10) →
      vp_in 8 773 ∧
      vp_in 3 773 ∧
      ∀ y12 : Int64, y12 = (v11.2.1 40 0 (3 : Int32).toNatClampNeg) * ((a2 : Int32).toInt64) →
      ∀ y13 : Int64, y13 = (v11.2.1 40 0 (8 : Int32).toNatClampNeg) + y12 →
      vp_in 8 773 ∧
      ∀ v14 : gd_D, v14 = gd_sJ v11 40 0 ((8 : Int32).toNatClampNeg) y13 →
      gd_C g mX11_closes 40 0 0 [zR 11 0, zI a1, zI a2] v14 (gd_rV (fun v15 =>
        Q (Sum.inl none) v15) (fun E v9 => Q (Sum.inr E) v9))) (fun E v9 => Q (Sum.inr E) v9))) (fun E v9 => Q (Sum.inr E) v9))
theorem w_X11_buysIn {g : ab_E} {d : Nat} {a1 : Int32} {a2 : Int32} {v : gd_D} {Q : ab_O → gd_D → Prop} (hd : 41 ≤ d) (h : wp_X11_buysIn g d a1 a2 v Q) : gd_G g mX11_buysIn d 0 0 0 [(0, zR 11 0), (1, zI a1), (2, zI a2)] [] v Q := by
  unfold wp_X11_buysIn at h
  refine gd_aload_n 0 dX11_buysIn_0 rfl rfl ?_
  refine gd_callVV (As := []) (rest := []) (dy := 4) (my := 0) (sy := 0) (k := 11) (i := 0) lX11_338 iX11_laysParts sX11_laysParts rfl dX11_buysIn_1 rfl rfl (gd_room (by omega) (by decide)) (by decide) (Nat.le_of_ble_eq_true rfl) h (fun v1 h => ?_)
  refine gd_bipush (x9 := 9) dX11_buysIn_4 (by decide) ?_
  refine gd_bipush (x9 := 6) dX11_buysIn_6 (by decide) ?_
  refine gd_aload_n 0 dX11_buysIn_8 rfl rfl ?_
  refine gd_iload_n 1 dX11_buysIn_9 rfl rfl ?_
  refine gd_iconst (x9 := 1) dX11_buysIn_10 (by decide) ?_
  refine gd_callVI (As := [zI a1, zI 1]) (rest := [zI 6, zI 9]) (dy := 2) (my := 0) (sy := 0) (k := 11) (i := 0) lX11_289 iX11_of0 sX11_of0 rfl dX11_buysIn_11 rfl rfl (gd_room (by omega) (by decide)) (by decide) (Nat.le_of_ble_eq_true rfl) h (fun r4 v3 h => ?_)
  refine gd_imul dX11_buysIn_14 ?_
  refine gd_iadd dX11_buysIn_15 ?_
  refine gd_istore_n (L' := [(3, zI (9 + (6 * r4))), (0, zR 11 0), (1, zI a1), (2, zI a2)]) dX11_buysIn_16 rfl (by decide) rfl ?_
  refine gd_aload_n 1 dX11_buysIn_17 rfl rfl ?_
  refine gd_getR (x := 0) (kr := 40) fX11_17 rfl rfl dX11_buysIn_18 rfl ?_
  refine gd_iload_n 0 dX11_buysIn_21 rfl rfl ?_
  refine gd_iconst (x9 := 0) dX11_buysIn_22 (by decide) ?_
  refine gd_iadd dX11_buysIn_23 ?_
  refine gd_dup2_11 dX11_buysIn_24 rfl rfl ?_
  obtain ⟨hb, h⟩ := h
  refine gd_laload (n := 773) (by decide) rfl dX11_buysIn_25 rfl hb ?_
  refine gd_nmJ (fun y5 ey5 => ?_)
  have h := h y5 ey5
  refine gd_iload_n 3 dX11_buysIn_26 rfl rfl ?_
  refine gd_i2l dX11_buysIn_27 ?_
  refine gd_ladd dX11_buysIn_28 ?_
  obtain ⟨hb, h⟩ := h
  refine gd_lastoren (n := 773) (by decide) rfl rfl dX11_buysIn_29 rfl hb (fun v6 ev6 => ?_)
  have h := h v6 ev6
  refine gd_aload_n 1 dX11_buysIn_30 rfl rfl ?_
  refine gd_getR (x := 0) (kr := 40) fX11_17 rfl rfl dX11_buysIn_31 rfl ?_
  refine gd_iload_n 0 dX11_buysIn_34 rfl rfl ?_
  refine gd_iconst (x9 := 5) dX11_buysIn_35 (by decide) ?_
  refine gd_iadd dX11_buysIn_36 ?_
  refine gd_dup2_11 dX11_buysIn_37 rfl rfl ?_
  obtain ⟨hb, h⟩ := h
  refine gd_laload (n := 773) (by decide) rfl dX11_buysIn_38 rfl hb ?_
  refine gd_nmJ (fun y7 ey7 => ?_)
  have h := h y7 ey7
  refine gd_iload_n 3 dX11_buysIn_39 rfl rfl ?_
  refine gd_i2l dX11_buysIn_40 ?_
  refine gd_ladd dX11_buysIn_41 ?_
  obtain ⟨hb, h⟩ := h
  refine gd_lastoren (n := 773) (by decide) rfl rfl dX11_buysIn_42 rfl hb (fun v8 ev8 => ?_)
  have h := h v8 ev8
  refine gd_aload_n 1 dX11_buysIn_43 rfl rfl ?_
  refine gd_getR (x := 0) (kr := 40) fX11_17 rfl rfl dX11_buysIn_44 rfl ?_
  refine gd_iload_n 0 dX11_buysIn_47 rfl rfl ?_
  refine gd_iconst (x9 := 1) dX11_buysIn_48 (by decide) ?_
  refine gd_iadd dX11_buysIn_49 ?_
  refine gd_dup2_11 dX11_buysIn_50 rfl rfl ?_
  obtain ⟨hb, h⟩ := h
  refine gd_laload (n := 773) (by decide) rfl dX11_buysIn_51 rfl hb ?_
  refine gd_nmJ (fun y9 ey9 => ?_)
  have h := h y9 ey9
  refine gd_aload_n 1 dX11_buysIn_52 rfl rfl ?_
  refine gd_getR (x := 0) (kr := 40) fX11_17 rfl rfl dX11_buysIn_53 rfl ?_
  refine gd_iconst (x9 := 3) dX11_buysIn_56 (by decide) ?_
  obtain ⟨hb, h⟩ := h
  refine gd_laload (n := 773) (by decide) rfl dX11_buysIn_57 rfl hb ?_
  refine gd_iload_n 3 dX11_buysIn_58 rfl rfl ?_
  refine gd_i2l dX11_buysIn_59 ?_
  refine gd_lmul dX11_buysIn_60 ?_
  refine gd_nmJ (fun y10 ey10 => ?_)
  have h := h y10 ey10
  refine gd_lsub dX11_buysIn_61 ?_
  obtain ⟨hb, h⟩ := h
  refine gd_lastoren (n := 773) (by decide) rfl rfl dX11_buysIn_62 rfl hb (fun v11 ev11 => ?_)
  have h := h v11 ev11
  refine gd_aload_n 1 dX11_buysIn_63 rfl rfl ?_
  refine gd_getR (x := 0) (kr := 40) fX11_17 rfl rfl dX11_buysIn_64 rfl ?_
  refine gd_bipush (x9 := 8) dX11_buysIn_67 (by decide) ?_
  refine gd_dup2_11 dX11_buysIn_69 rfl rfl ?_
  obtain ⟨hb, h⟩ := h
  refine gd_laload (n := 773) (by decide) rfl dX11_buysIn_70 rfl hb ?_
  refine gd_aload_n 1 dX11_buysIn_71 rfl rfl ?_
  refine gd_getR (x := 0) (kr := 40) fX11_17 rfl rfl dX11_buysIn_72 rfl ?_
  refine gd_iconst (x9 := 3) dX11_buysIn_75 (by decide) ?_
  obtain ⟨hb, h⟩ := h
  refine gd_laload (n := 773) (by decide) rfl dX11_buysIn_76 rfl hb ?_
  refine gd_iload_n 3 dX11_buysIn_77 rfl rfl ?_
  refine gd_i2l dX11_buysIn_78 ?_
  refine gd_lmul dX11_buysIn_79 ?_
  refine gd_nmJ (fun y12 ey12 => ?_)
  have h := h y12 ey12
  refine gd_ladd dX11_buysIn_80 ?_
  refine gd_nmJ (fun y13 ey13 => ?_)
  have h := h y13 ey13
  obtain ⟨hb, h⟩ := h
  refine gd_lastoren (n := 773) (by decide) rfl rfl dX11_buysIn_81 rfl hb (fun v14 ev14 => ?_)
  have h := h v14 ev14
  refine gd_aload_n 1 dX11_buysIn_82 rfl rfl ?_
  refine gd_iload_n 2 dX11_buysIn_83 rfl rfl ?_
  refine gd_iload_n 3 dX11_buysIn_84 rfl rfl ?_
  refine gd_callVV (As := [zI a1, zI a2]) (rest := []) (dy := 40) (my := 0) (sy := 0) (k := 11) (i := 0) lX11_335 iX11_closes sX11_closes rfl dX11_buysIn_85 rfl rfl (gd_room (by omega) (by decide)) (by decide) (Nat.le_of_ble_eq_true rfl) h (fun v15 h => ?_)
  exact gd_vret dX11_buysIn_88 rfl h
theorem c_X11_buysIn {g : ab_E} {d : Nat} {a1 : Int32} {a2 : Int32} {v : gd_D} {Q : ab_O → gd_D → Prop} (hd : 41 ≤ d) (h : wp_X11_buysIn g d a1 a2 v Q) : gd_C g mX11_buysIn d 0 0 [zR 11 0, zI a1, zI a2] v Q := gd_enterF (plainFor_of_name (by decide)) (Nat.le_of_ble_eq_true rfl) rfl (w_X11_buysIn hd h)
def wp_X11_delivers (g : ab_E) (d : Nat) (v : gd_D) (Q : ab_O → gd_D → Prop) : Prop :=
  gd_G g mX11_delivers d 0 0 4 [(0, zR 11 0), (1, zI 0), (2, zI 0)] [] v Q
theorem w_X11_delivers {g : ab_E} {d : Nat} {v : gd_D} {Q : ab_O → gd_D → Prop} (hd : 0 ≤ d) (h : wp_X11_delivers g d v Q) : gd_G g mX11_delivers d 0 0 0 [(0, zR 11 0)] [] v Q := by
  unfold wp_X11_delivers at h
  refine gd_iconst (x9 := 0) dX11_delivers_0 (by decide) ?_
  refine gd_istore_n (L' := [(1, zI 0), (0, zR 11 0)]) dX11_delivers_1 rfl (by decide) rfl ?_
  refine gd_iconst (x9 := 0) dX11_delivers_2 (by decide) ?_
  refine gd_istore_n (L' := [(2, zI 0), (1, zI 0), (0, zR 11 0)]) dX11_delivers_3 rfl (by decide) rfl ?_
  refine gd_locals [2, 1, 0] rfl ?_
  exact h
def wp_X11_delivers_90 (g : ab_E) (d : Nat) (a1 : Int32) (a2 : Int32) (a3 : Int32) (a4 : Int32) (s0 : Int64) (v : gd_D) (Q : ab_O → gd_D → Prop) : Prop :=
  ((¬ ((s0 : Int64).toInt32 : Int32) = 0) →
    gd_C g mX11_settles 3 0 0 [zR 11 0, zI a3, zI ((s0 : Int64).toInt32), zI 7] v (gd_rV (fun v1 =>
      vp_in (a4 + 0) 773 ∧
      ∀ y3 : Int64, y3 = (v1.2.1 40 0 (a4 + 0 : Int32).toNatClampNeg) - (((s0 : Int64).toInt32 : Int32).toInt64) →
      vp_in (a4 + 0) 773 ∧
      ∀ v4 : gd_D, v4 = gd_sJ v1 40 0 ((a4 + 0 : Int32).toNatClampNeg) y3 →
      gd_C g mX11_of0 2 0 0 [zR 11 0, zI a3, zI 1] v4 (gd_rI (fun (r6 : Int32) v5 =>
        vp_in ((9 + (6 * r6)) + 0) 773 ∧
        ∀ y7 : Int64, y7 = v5.2.1 40 0 ((9 + (6 * r6)) + 0 : Int32).toNatClampNeg →
        vp_in ((9 + (6 * r6)) + 0) 773 ∧
        ∀ v8 : gd_D, v8 = gd_sJ v5 40 0 (((9 + (6 * r6)) + 0 : Int32).toNatClampNeg) (y7 + (((s0 : Int64).toInt32 : Int32).toInt64)) →
        gd_G g mX11_delivers d 0 0 4 [(0, zR 11 0), (1, zI 1), (2, zI (a2 + 1))] [] v8 Q) (fun E v9 => Q (Sum.inr E) v9))) (fun E v9 => Q (Sum.inr E) v9))) ∧
  ((((s0 : Int64).toInt32 : Int32) = 0) →
    gd_G g mX11_delivers d 0 0 4 [(0, zR 11 0), (1, zI a1), (2, zI (a2 + 1))] [] v Q)
theorem w_X11_delivers_90 {g : ab_E} {d : Nat} {a1 : Int32} {a2 : Int32} {a3 : Int32} {a4 : Int32} {s0 : Int64} {v : gd_D} {Q : ab_O → gd_D → Prop} (hd : 4 ≤ d) (h : wp_X11_delivers_90 g d a1 a2 a3 a4 s0 v Q) : gd_G g mX11_delivers d 0 0 90 [(0, zR 11 0), (1, zI a1), (2, zI a2), (3, zI a3), (4, zI a4)] [zJ s0] v Q := by
  unfold wp_X11_delivers_90 at h
  refine gd_l2i dX11_delivers_90 ?_
  refine gd_istore (L' := [(7, zI ((s0 : Int64).toInt32)), (0, zR 11 0), (1, zI a1), (2, zI a2), (3, zI a3), (4, zI a4)]) dX11_delivers_91 (by decide) rfl ?_
  refine gd_iload 0 dX11_delivers_93 rfl ?_
  refine gd_if_ne (tgt := 101) dX11_delivers_95 (by decide) (fun hc => ?_) (fun hc => ?_)
  · have h := h.1 hc
    refine gd_iconst (x9 := 1) dX11_delivers_101 (by decide) ?_
    refine gd_istore_n (L' := [(1, zI 1), (7, zI ((s0 : Int64).toInt32)), (0, zR 11 0), (2, zI a2), (3, zI a3), (4, zI a4)]) dX11_delivers_102 rfl (by decide) rfl ?_
    refine gd_aload_n 2 dX11_delivers_103 rfl rfl ?_
    refine gd_iload_n 4 dX11_delivers_104 rfl rfl ?_
    refine gd_iload 1 dX11_delivers_105 rfl ?_
    refine gd_bipush (x9 := 7) dX11_delivers_107 (by decide) ?_
    refine gd_callVV (As := [zI a3, zI ((s0 : Int64).toInt32), zI 7]) (rest := []) (dy := 3) (my := 0) (sy := 0) (k := 11) (i := 0) lX11_341 iX11_settles sX11_settles rfl dX11_delivers_109 rfl rfl (gd_room (by omega) (by decide)) (by decide) (Nat.le_of_ble_eq_true rfl) h (fun v1 h => ?_)
    refine gd_aload_n 2 dX11_delivers_112 rfl rfl ?_
    refine gd_getR (x := 0) (kr := 40) fX11_17 rfl rfl dX11_delivers_113 rfl ?_
    refine gd_iload 5 dX11_delivers_116 rfl ?_
    refine gd_iconst (x9 := 0) dX11_delivers_118 (by decide) ?_
    refine gd_iadd dX11_delivers_119 ?_
    refine gd_dup2_11 dX11_delivers_120 rfl rfl ?_
    obtain ⟨hb, h⟩ := h
    refine gd_laload (n := 773) (by decide) rfl dX11_delivers_121 rfl hb ?_
    refine gd_iload 1 dX11_delivers_122 rfl ?_
    refine gd_i2l dX11_delivers_124 ?_
    refine gd_lsub dX11_delivers_125 ?_
    refine gd_nmJ (fun y3 ey3 => ?_)
    have h := h y3 ey3
    obtain ⟨hb, h⟩ := h
    refine gd_lastoren (n := 773) (by decide) rfl rfl dX11_delivers_126 rfl hb (fun v4 ev4 => ?_)
    have h := h v4 ev4
    refine gd_aload_n 2 dX11_delivers_127 rfl rfl ?_
    refine gd_getR (x := 0) (kr := 40) fX11_17 rfl rfl dX11_delivers_128 rfl ?_
    refine gd_bipush (x9 := 9) dX11_delivers_131 (by decide) ?_
    refine gd_bipush (x9 := 6) dX11_delivers_133 (by decide) ?_
    refine gd_aload_n 2 dX11_delivers_135 rfl rfl ?_
    refine gd_iload_n 4 dX11_delivers_136 rfl rfl ?_
    refine gd_iconst (x9 := 1) dX11_delivers_137 (by decide) ?_
    refine gd_callVI (As := [zI a3, zI 1]) (rest := [zI 6, zI 9, zR 40 0]) (dy := 2) (my := 0) (sy := 0) (k := 11) (i := 0) lX11_289 iX11_of0 sX11_of0 rfl dX11_delivers_138 rfl rfl (gd_room (by omega) (by decide)) (by decide) (Nat.le_of_ble_eq_true rfl) h (fun r6 v5 h => ?_)
    refine gd_imul dX11_delivers_141 ?_
    refine gd_iadd dX11_delivers_142 ?_
    refine gd_iconst (x9 := 0) dX11_delivers_143 (by decide) ?_
    refine gd_iadd dX11_delivers_144 ?_
    refine gd_dup2_11 dX11_delivers_145 rfl rfl ?_
    obtain ⟨hb, h⟩ := h
    refine gd_laload (n := 773) (by decide) rfl dX11_delivers_146 rfl hb ?_
    refine gd_nmJ (fun y7 ey7 => ?_)
    have h := h y7 ey7
    refine gd_iload 1 dX11_delivers_147 rfl ?_
    refine gd_i2l dX11_delivers_149 ?_
    refine gd_ladd dX11_delivers_150 ?_
    obtain ⟨hb, h⟩ := h
    refine gd_lastoren (n := 773) (by decide) rfl rfl dX11_delivers_151 rfl hb (fun v8 ev8 => ?_)
    have h := h v8 ev8
    refine gd_iinc (x9 := a2 + 1) (L' := [(2, zI (a2 + 1)), (1, zI 1), (7, zI ((s0 : Int64).toInt32)), (0, zR 11 0), (3, zI a3), (4, zI a4)]) 3 dX11_delivers_152 rfl rfl (by decide) rfl ?_
    refine gd_goto (tgt := 4) dX11_delivers_155 (by decide) ?_
    refine gd_locals [3, 1, 0] rfl ?_
    exact h
  · have h := h.2 hc
    refine gd_goto (tgt := 152) dX11_delivers_98 (by decide) ?_
    refine gd_iinc (x9 := a2 + 1) (L' := [(2, zI (a2 + 1)), (7, zI ((s0 : Int64).toInt32)), (0, zR 11 0), (1, zI a1), (3, zI a3), (4, zI a4)]) 3 dX11_delivers_152 rfl rfl (by decide) rfl ?_
    refine gd_goto (tgt := 4) dX11_delivers_155 (by decide) ?_
    refine gd_locals [2, 3, 0] rfl ?_
    exact h
def wp_X11_delivers_4 (g : ab_E) (d : Nat) (a1 : Int32) (a2 : Int32) (v : gd_D) (Q : ab_O → gd_D → Prop) : Prop :=
  gd_C g mX11_sales 2 0 0 [zR 11 0] v (gd_rI (fun (r2 : Int32) v1 =>
    (((r2 : Int32) ≤ a2) →
      narrow .boolean (.int a1) = .int a1 ∧
      Q (Sum.inl (some (zI a1))) v1) ∧
    ((¬ (r2 : Int32) ≤ a2) →
      vp_in a2 24 ∧
      gd_C g mX11_isAsked 3 0 0 [zR 11 0, zI (v1.1 47 0 (a2 : Int32).toNatClampNeg)] v1 (gd_rI (fun (r4 : Int32) v3 =>
        ((¬ (r4 : Int32) = 0) →
          gd_C g mX11_of0 2 0 0 [zR 11 0, zI (v1.1 47 0 (a2 : Int32).toNatClampNeg), zI 0] v3 (gd_rI (fun (r6 : Int32) v5 =>
            vp_in ((9 + (6 * r6)) + 0) 773 ∧
            ∀ y7 : Int64, y7 = v5.2.1 40 0 ((9 + (6 * r6)) + 0 : Int32).toNatClampNeg →
            gd_C g mX11_of0 2 0 0 [zR 11 0, zI (v1.1 47 0 (a2 : Int32).toNatClampNeg), zI 5] v5 (gd_rI (fun (r9 : Int32) v8 =>
              (((y7 : Int64) < ((r9 : Int32).toInt64)) →
                vp_in 5 773 ∧
                ¬ (v8.2.1 40 0 (5 : Int32).toNatClampNeg : Int64) = 0 ∧
                ∀ y10 : Int64, y10 = y7 - (y7 - y7 / (v8.2.1 40 0 (5 : Int32).toNatClampNeg) * (v8.2.1 40 0 (5 : Int32).toNatClampNeg)) →
                wp_X11_delivers_90 g d a1 a2 (v1.1 47 0 (a2 : Int32).toNatClampNeg) (9 + (6 * r6)) y10 v8 Q) ∧
              ((¬ (y7 : Int64) < ((r9 : Int32).toInt64)) →
                gd_C g mX11_of0 2 0 0 [zR 11 0, zI (v1.1 47 0 (a2 : Int32).toNatClampNeg), zI 5] v8 (gd_rI (fun (r12 : Int32) v11 =>
                  wp_X11_delivers_90 g d a1 a2 (v1.1 47 0 (a2 : Int32).toNatClampNeg) (9 + (6 * r6)) ((r12 : Int32).toInt64) v11 Q) (fun E v9 => Q (Sum.inr E) v9)))) (fun E v9 => Q (Sum.inr E) v9))) (fun E v9 => Q (Sum.inr E) v9))) ∧
        (((r4 : Int32) = 0) →
          gd_G g mX11_delivers d 0 0 4 [(0, zR 11 0), (1, zI a1), (2, zI (a2 + 1))] [] v3 Q)) (fun E v9 => Q (Sum.inr E) v9)))) (fun E v9 => Q (Sum.inr E) v9))
theorem w_X11_delivers_4 {g : ab_E} {d : Nat} {a1 : Int32} {a2 : Int32} {v : gd_D} {Q : ab_O → gd_D → Prop} (hd : 4 ≤ d) (h : wp_X11_delivers_4 g d a1 a2 v Q) : gd_G g mX11_delivers d 0 0 4 [(0, zR 11 0), (1, zI a1), (2, zI a2)] [] v Q := by
  unfold wp_X11_delivers_4 at h
  refine gd_iload_n 2 dX11_delivers_4 rfl rfl ?_
  refine gd_aload_n 0 dX11_delivers_5 rfl rfl ?_
  refine gd_callVI (As := []) (rest := [zI a2]) (dy := 2) (my := 0) (sy := 0) (k := 11) (i := 0) lX11_278 iX11_sales sX11_sales rfl dX11_delivers_6 rfl rfl (gd_room (by omega) (by decide)) (by decide) (Nat.le_of_ble_eq_true rfl) h (fun r2 v1 h => ?_)
  refine gd_icmp_ge (tgt := 158) dX11_delivers_9 (by decide) (fun hc => ?_) (fun hc => ?_)
  · have h := h.1 hc
    refine gd_iload_n 1 dX11_delivers_158 rfl rfl ?_
    obtain ⟨hn, h⟩ := h
    exact gd_iret (ty := .boolean) dX11_delivers_159 rfl hn h
  · have h := h.2 hc
    refine gd_aload_n 0 dX11_delivers_12 rfl rfl ?_
    refine gd_getR (x := 0) (kr := 47) fX11_43 rfl rfl dX11_delivers_13 rfl ?_
    refine gd_iload_n 2 dX11_delivers_16 rfl rfl ?_
    obtain ⟨hb, h⟩ := h
    refine gd_iaload (n := 24) (by decide) rfl dX11_delivers_17 rfl hb ?_
    refine gd_istore_n (L' := [(3, zI (v1.1 47 0 (a2 : Int32).toNatClampNeg)), (0, zR 11 0), (1, zI a1), (2, zI a2)]) dX11_delivers_18 rfl (by decide) rfl ?_
    refine gd_aload_n 1 dX11_delivers_19 rfl rfl ?_
    refine gd_iload_n 0 dX11_delivers_20 rfl rfl ?_
    refine gd_callVI (As := [zI (v1.1 47 0 (a2 : Int32).toNatClampNeg)]) (rest := []) (dy := 3) (my := 0) (sy := 0) (k := 11) (i := 0) lX11_305 iX11_isAsked sX11_isAsked rfl dX11_delivers_21 rfl rfl (gd_room (by omega) (by decide)) (by decide) (Nat.le_of_ble_eq_true rfl) h (fun r4 v3 h => ?_)
    refine gd_if_ne (tgt := 30) dX11_delivers_24 (by decide) (fun hc => ?_) (fun hc => ?_)
    · have h := h.1 hc
      refine gd_bipush (x9 := 9) dX11_delivers_30 (by decide) ?_
      refine gd_bipush (x9 := 6) dX11_delivers_32 (by decide) ?_
      refine gd_aload_n 1 dX11_delivers_34 rfl rfl ?_
      refine gd_iload_n 0 dX11_delivers_35 rfl rfl ?_
      refine gd_iconst (x9 := 0) dX11_delivers_36 (by decide) ?_
      refine gd_callVI (As := [zI (v1.1 47 0 (a2 : Int32).toNatClampNeg), zI 0]) (rest := [zI 6, zI 9]) (dy := 2) (my := 0) (sy := 0) (k := 11) (i := 0) lX11_289 iX11_of0 sX11_of0 rfl dX11_delivers_37 rfl rfl (gd_room (by omega) (by decide)) (by decide) (Nat.le_of_ble_eq_true rfl) h (fun r6 v5 h => ?_)
      refine gd_imul dX11_delivers_40 ?_
      refine gd_iadd dX11_delivers_41 ?_
      refine gd_istore (L' := [(4, zI (9 + (6 * r6))), (3, zI (v1.1 47 0 (a2 : Int32).toNatClampNeg)), (0, zR 11 0), (1, zI a1), (2, zI a2)]) dX11_delivers_42 (by decide) rfl ?_
      refine gd_aload_n 2 dX11_delivers_44 rfl rfl ?_
      refine gd_getR (x := 0) (kr := 40) fX11_17 rfl rfl dX11_delivers_45 rfl ?_
      refine gd_iload 0 dX11_delivers_48 rfl ?_
      refine gd_iconst (x9 := 0) dX11_delivers_50 (by decide) ?_
      refine gd_iadd dX11_delivers_51 ?_
      obtain ⟨hb, h⟩ := h
      refine gd_laload (n := 773) (by decide) rfl dX11_delivers_52 rfl hb ?_
      refine gd_nmJ (fun y7 ey7 => ?_)
      have h := h y7 ey7
      refine gd_lstore (L' := [(5, zJ y7), (4, zI (9 + (6 * r6))), (3, zI (v1.1 47 0 (a2 : Int32).toNatClampNeg)), (0, zR 11 0), (1, zI a1), (2, zI a2)]) dX11_delivers_53 (by decide) rfl ?_
      refine gd_lload 0 dX11_delivers_55 rfl ?_
      refine gd_aload_n 3 dX11_delivers_57 rfl rfl ?_
      refine gd_iload_n 2 dX11_delivers_58 rfl rfl ?_
      refine gd_iconst (x9 := 5) dX11_delivers_59 (by decide) ?_
      refine gd_callVI (As := [zI (v1.1 47 0 (a2 : Int32).toNatClampNeg), zI 5]) (rest := [zJ y7]) (dy := 2) (my := 0) (sy := 0) (k := 11) (i := 0) lX11_289 iX11_of0 sX11_of0 rfl dX11_delivers_60 rfl rfl (gd_room (by omega) (by decide)) (by decide) (Nat.le_of_ble_eq_true rfl) h (fun r9 v8 h => ?_)
      refine gd_i2l dX11_delivers_63 ?_
      refine gd_lc_lt (tgt := 78) dX11_delivers_64 dX11_delivers_65 (by decide) (fun hc => ?_) (fun hc => ?_)
      · have h := h.1 hc
        refine gd_lload 0 dX11_delivers_78 rfl ?_
        refine gd_lload 0 dX11_delivers_80 rfl ?_
        refine gd_aload_n 3 dX11_delivers_82 rfl rfl ?_
        refine gd_getR (x := 0) (kr := 40) fX11_17 rfl rfl dX11_delivers_83 rfl ?_
        refine gd_iconst (x9 := 5) dX11_delivers_86 (by decide) ?_
        obtain ⟨hb, h⟩ := h
        refine gd_laload (n := 773) (by decide) rfl dX11_delivers_87 rfl hb ?_
        obtain ⟨hg, h⟩ := h
        refine gd_lrem dX11_delivers_88 hg ?_
        refine gd_lsub dX11_delivers_89 ?_
        refine gd_nmJ (fun y10 ey10 => ?_)
        have h := h y10 ey10
        refine gd_locals [3, 4, 5, 2, 1] rfl ?_
        exact w_X11_delivers_90 (by omega) h
      · have h := h.2 hc
        refine gd_aload_n 3 dX11_delivers_68 rfl rfl ?_
        refine gd_iload_n 2 dX11_delivers_69 rfl rfl ?_
        refine gd_iconst (x9 := 5) dX11_delivers_70 (by decide) ?_
        refine gd_callVI (As := [zI (v1.1 47 0 (a2 : Int32).toNatClampNeg), zI 5]) (rest := []) (dy := 2) (my := 0) (sy := 0) (k := 11) (i := 0) lX11_289 iX11_of0 sX11_of0 rfl dX11_delivers_71 rfl rfl (gd_room (by omega) (by decide)) (by decide) (Nat.le_of_ble_eq_true rfl) h (fun r12 v11 h => ?_)
        refine gd_i2l dX11_delivers_74 ?_
        refine gd_goto (tgt := 90) dX11_delivers_75 (by decide) ?_
        refine gd_locals [3, 4, 5, 2, 1] rfl ?_
        exact w_X11_delivers_90 (by omega) h
    · have h := h.2 hc
      refine gd_goto (tgt := 152) dX11_delivers_27 (by decide) ?_
      refine gd_iinc (x9 := a2 + 1) (L' := [(2, zI (a2 + 1)), (3, zI (v1.1 47 0 (a2 : Int32).toNatClampNeg)), (0, zR 11 0), (1, zI a1)]) 3 dX11_delivers_152 rfl rfl (by decide) rfl ?_
      refine gd_goto (tgt := 4) dX11_delivers_155 (by decide) ?_
      refine gd_locals [2, 3, 0] rfl ?_
      exact h
theorem c_X11_delivers {g : ab_E} {d : Nat} {v : gd_D} {Q : ab_O → gd_D → Prop} (hd : 0 ≤ d) (h : wp_X11_delivers g d v Q) : gd_C g mX11_delivers d 0 0 [zR 11 0] v Q := gd_enterF (plainFor_of_name (by decide)) (Nat.le_of_ble_eq_true rfl) rfl (w_X11_delivers hd h)
def wp_X11_sellsAsked (g : ab_E) (d : Nat) (a1 : Int32) (v : gd_D) (Q : ab_O → gd_D → Prop) : Prop :=
  gd_G g mX11_sellsAsked d 0 0 2 [(0, zR 11 0), (1, zI a1), (2, zI 0)] [] v Q
theorem w_X11_sellsAsked {g : ab_E} {d : Nat} {a1 : Int32} {v : gd_D} {Q : ab_O → gd_D → Prop} (hd : 0 ≤ d) (h : wp_X11_sellsAsked g d a1 v Q) : gd_G g mX11_sellsAsked d 0 0 0 [(0, zR 11 0), (1, zI a1)] [] v Q := by
  unfold wp_X11_sellsAsked at h
  refine gd_iconst (x9 := 0) dX11_sellsAsked_0 (by decide) ?_
  refine gd_istore_n (L' := [(2, zI 0), (0, zR 11 0), (1, zI a1)]) dX11_sellsAsked_1 rfl (by decide) rfl ?_
  refine gd_locals [1, 2, 0] rfl ?_
  exact h
def wp_X11_sellsAsked_2 (g : ab_E) (d : Nat) (a1 : Int32) (a2 : Int32) (v : gd_D) (Q : ab_O → gd_D → Prop) : Prop :=
  gd_C g mX11_sales 2 0 0 [zR 11 0] v (gd_rI (fun (r2 : Int32) v1 =>
    (((r2 : Int32) ≤ a2) →
      Q (Sum.inl (some (zI 0))) v1) ∧
    ((¬ (r2 : Int32) ≤ a2) →
      gd_C g mX11_isAsked 3 0 0 [zR 11 0, zI a2] v1 (gd_rI (fun (r4 : Int32) v3 =>
        (((r4 : Int32) = 0) →
          gd_G g mX11_sellsAsked d 0 0 2 [(0, zR 11 0), (1, zI a1), (2, zI (a2 + 1))] [] v3 Q) ∧
        ((¬ (r4 : Int32) = 0) →
          gd_C g mX11_of0 2 0 0 [zR 11 0, zI a2, zI 0] v3 (gd_rI (fun (r6 : Int32) v5 =>
            ((¬ (r6 : Int32) = a1) →
              gd_G g mX11_sellsAsked d 0 0 2 [(0, zR 11 0), (1, zI a1), (2, zI (a2 + 1))] [] v5 Q) ∧
            (((r6 : Int32) = a1) →
              Q (Sum.inl (some (zI 1))) v5)) (fun E v9 => Q (Sum.inr E) v9)))) (fun E v9 => Q (Sum.inr E) v9)))) (fun E v9 => Q (Sum.inr E) v9))
theorem w_X11_sellsAsked_2 {g : ab_E} {d : Nat} {a1 : Int32} {a2 : Int32} {v : gd_D} {Q : ab_O → gd_D → Prop} (hd : 4 ≤ d) (h : wp_X11_sellsAsked_2 g d a1 a2 v Q) : gd_G g mX11_sellsAsked d 0 0 2 [(0, zR 11 0), (1, zI a1), (2, zI a2)] [] v Q := by
  unfold wp_X11_sellsAsked_2 at h
  refine gd_iload_n 2 dX11_sellsAsked_2 rfl rfl ?_
  refine gd_aload_n 0 dX11_sellsAsked_3 rfl rfl ?_
  refine gd_callVI (As := []) (rest := [zI a2]) (dy := 2) (my := 0) (sy := 0) (k := 11) (i := 0) lX11_278 iX11_sales sX11_sales rfl dX11_sellsAsked_4 rfl rfl (gd_room (by omega) (by decide)) (by decide) (Nat.le_of_ble_eq_true rfl) h (fun r2 v1 h => ?_)
  refine gd_icmp_ge (tgt := 36) dX11_sellsAsked_7 (by decide) (fun hc => ?_) (fun hc => ?_)
  · have h := h.1 hc
    refine gd_iconst (x9 := 0) dX11_sellsAsked_36 (by decide) ?_
    exact gd_iret (ty := .boolean) dX11_sellsAsked_37 rfl rfl h
  · have h := h.2 hc
    refine gd_aload_n 0 dX11_sellsAsked_10 rfl rfl ?_
    refine gd_iload_n 2 dX11_sellsAsked_11 rfl rfl ?_
    refine gd_callVI (As := [zI a2]) (rest := []) (dy := 3) (my := 0) (sy := 0) (k := 11) (i := 0) lX11_305 iX11_isAsked sX11_isAsked rfl dX11_sellsAsked_12 rfl rfl (gd_room (by omega) (by decide)) (by decide) (Nat.le_of_ble_eq_true rfl) h (fun r4 v3 h => ?_)
    refine gd_if_eq (tgt := 30) dX11_sellsAsked_15 (by decide) (fun hc => ?_) (fun hc => ?_)
    · have h := h.1 hc
      refine gd_iinc (x9 := a2 + 1) (L' := [(2, zI (a2 + 1)), (0, zR 11 0), (1, zI a1)]) 2 dX11_sellsAsked_30 rfl rfl (by decide) rfl ?_
      refine gd_goto (tgt := 2) dX11_sellsAsked_33 (by decide) ?_
      refine gd_locals [1, 2, 0] rfl ?_
      exact h
    · have h := h.2 hc
      refine gd_aload_n 0 dX11_sellsAsked_18 rfl rfl ?_
      refine gd_iload_n 2 dX11_sellsAsked_19 rfl rfl ?_
      refine gd_iconst (x9 := 0) dX11_sellsAsked_20 (by decide) ?_
      refine gd_callVI (As := [zI a2, zI 0]) (rest := []) (dy := 2) (my := 0) (sy := 0) (k := 11) (i := 0) lX11_289 iX11_of0 sX11_of0 rfl dX11_sellsAsked_21 rfl rfl (gd_room (by omega) (by decide)) (by decide) (Nat.le_of_ble_eq_true rfl) h (fun r6 v5 h => ?_)
      refine gd_iload_n 1 dX11_sellsAsked_24 rfl rfl ?_
      refine gd_icmp_ne (tgt := 30) dX11_sellsAsked_25 (by decide) (fun hc => ?_) (fun hc => ?_)
      · have h := h.1 hc
        refine gd_iinc (x9 := a2 + 1) (L' := [(2, zI (a2 + 1)), (0, zR 11 0), (1, zI a1)]) 2 dX11_sellsAsked_30 rfl rfl (by decide) rfl ?_
        refine gd_goto (tgt := 2) dX11_sellsAsked_33 (by decide) ?_
        refine gd_locals [1, 2, 0] rfl ?_
        exact h
      · have h := h.2 hc
        refine gd_iconst (x9 := 1) dX11_sellsAsked_28 (by decide) ?_
        exact gd_iret (ty := .boolean) dX11_sellsAsked_29 rfl rfl h
theorem c_X11_sellsAsked {g : ab_E} {d : Nat} {a1 : Int32} {v : gd_D} {Q : ab_O → gd_D → Prop} (hd : 0 ≤ d) (h : wp_X11_sellsAsked g d a1 v Q) : gd_C g mX11_sellsAsked d 0 0 [zR 11 0, zI a1] v Q := gd_enterF (plainFor_of_name (by decide)) (Nat.le_of_ble_eq_true rfl) rfl (w_X11_sellsAsked hd h)
def wp_X11_goes (g : ab_E) (d : Nat) (v : gd_D) (Q : ab_O → gd_D → Prop) : Prop :=
  gd_C g mX11_orders 5 0 0 [zR 11 0] v (gd_rV (fun v1 =>
    gd_G g mX11_goes d 0 0 4 [(0, zR 11 0)] [] v1 Q) (fun E v9 => Q (Sum.inr E) v9))
theorem w_X11_goes {g : ab_E} {d : Nat} {v : gd_D} {Q : ab_O → gd_D → Prop} (hd : 6 ≤ d) (h : wp_X11_goes g d v Q) : gd_G g mX11_goes d 0 0 0 [(0, zR 11 0)] [] v Q := by
  unfold wp_X11_goes at h
  refine gd_aload_n 0 dX11_goes_0 rfl rfl ?_
  refine gd_callVV (As := []) (rest := []) (dy := 5) (my := 0) (sy := 0) (k := 11) (i := 0) lX11_345 iX11_orders sX11_orders rfl dX11_goes_1 rfl rfl (gd_room (by omega) (by decide)) (by decide) (Nat.le_of_ble_eq_true rfl) h (fun v1 h => ?_)
  exact h
def wp_X11_goes_4 (g : ab_E) (d : Nat) (v : gd_D) (Q : ab_O → gd_D → Prop) : Prop :=
  gd_C g mX11_finds 6 0 0 [zR 11 0] v (gd_rI (fun (r2 : Int32) v1 =>
    (((r2 : Int32) = 0) →
      gd_G g mX11_goes d 0 0 50 [(0, zR 11 0), (1, zI 1)] [] v1 Q) ∧
    ((¬ (r2 : Int32) = 0) →
      gd_C g mX11_ringUnits 3 0 0 [zR 11 0] v1 (gd_rI (fun (r4 : Int32) v3 =>
        gd_G g mX11_goes d 0 0 18 [(0, zR 11 0), (1, zI r4), (2, zI 0)] [] v3 Q) (fun E v9 => Q (Sum.inr E) v9)))) (fun E v9 => Q (Sum.inr E) v9))
theorem w_X11_goes_4 {g : ab_E} {d : Nat} {v : gd_D} {Q : ab_O → gd_D → Prop} (hd : 7 ≤ d) (h : wp_X11_goes_4 g d v Q) : gd_G g mX11_goes d 0 0 4 [(0, zR 11 0)] [] v Q := by
  unfold wp_X11_goes_4 at h
  refine gd_aload_n 0 dX11_goes_4 rfl rfl ?_
  refine gd_callVI (As := []) (rest := []) (dy := 6) (my := 0) (sy := 0) (k := 11) (i := 0) lX11_348 iX11_finds sX11_finds rfl dX11_goes_5 rfl rfl (gd_room (by omega) (by decide)) (by decide) (Nat.le_of_ble_eq_true rfl) h (fun r2 v1 h => ?_)
  refine gd_if_eq (tgt := 48) dX11_goes_8 (by decide) (fun hc => ?_) (fun hc => ?_)
  · have h := h.1 hc
    refine gd_iconst (x9 := 1) dX11_goes_48 (by decide) ?_
    refine gd_istore_n (L' := [(1, zI 1), (0, zR 11 0)]) dX11_goes_49 rfl (by decide) rfl ?_
    refine gd_locals [1, 0] rfl ?_
    exact h
  · have h := h.2 hc
    refine gd_aload_n 0 dX11_goes_11 rfl rfl ?_
    refine gd_callVI (As := []) (rest := []) (dy := 3) (my := 0) (sy := 0) (k := 11) (i := 0) lX11_351 iX11_ringUnits sX11_ringUnits rfl dX11_goes_12 rfl rfl (gd_room (by omega) (by decide)) (by decide) (Nat.le_of_ble_eq_true rfl) h (fun r4 v3 h => ?_)
    refine gd_istore_n (L' := [(1, zI r4), (0, zR 11 0)]) dX11_goes_15 rfl (by decide) rfl ?_
    refine gd_iconst (x9 := 0) dX11_goes_16 (by decide) ?_
    refine gd_istore_n (L' := [(2, zI 0), (1, zI r4), (0, zR 11 0)]) dX11_goes_17 rfl (by decide) rfl ?_
    refine gd_locals [2, 1, 0] rfl ?_
    exact h
def wp_X11_goes_18 (g : ab_E) (d : Nat) (a1 : Int32) (a2 : Int32) (v : gd_D) (Q : ab_O → gd_D → Prop) : Prop :=
  (((v.1 11 0 22 : Int32) ≤ a2) →
    gd_G g mX11_goes d 0 0 4 [(0, zR 11 0)] [] v Q) ∧
  ((¬ (v.1 11 0 22 : Int32) ≤ a2) →
    vp_in a2 8 ∧
    gd_C g mX11_settles 3 0 0 [zR 11 0, zI (v.1 49 0 (a2 : Int32).toNatClampNeg), zI a1, zI 6] v (gd_rV (fun v1 =>
      gd_G g mX11_goes d 0 0 18 [(0, zR 11 0), (1, zI a1), (2, zI (a2 + 1))] [] v1 Q) (fun E v9 => Q (Sum.inr E) v9)))
theorem w_X11_goes_18 {g : ab_E} {d : Nat} {a1 : Int32} {a2 : Int32} {v : gd_D} {Q : ab_O → gd_D → Prop} (hd : 4 ≤ d) (h : wp_X11_goes_18 g d a1 a2 v Q) : gd_G g mX11_goes d 0 0 18 [(0, zR 11 0), (1, zI a1), (2, zI a2)] [] v Q := by
  unfold wp_X11_goes_18 at h
  refine gd_iload_n 2 dX11_goes_18 rfl rfl ?_
  refine gd_aload_n 0 dX11_goes_19 rfl rfl ?_
  refine gd_getI fX11_308 rfl dX11_goes_20 ?_
  refine gd_icmp_ge (tgt := 45) dX11_goes_23 (by decide) (fun hc => ?_) (fun hc => ?_)
  · have h := h.1 hc
    refine gd_goto (tgt := 4) dX11_goes_45 (by decide) ?_
    refine gd_locals [0] rfl ?_
    exact h
  · have h := h.2 hc
    refine gd_aload_n 0 dX11_goes_26 rfl rfl ?_
    refine gd_aload_n 0 dX11_goes_27 rfl rfl ?_
    refine gd_getR (x := 0) (kr := 49) fX11_49 rfl rfl dX11_goes_28 rfl ?_
    refine gd_iload_n 2 dX11_goes_31 rfl rfl ?_
    obtain ⟨hb, h⟩ := h
    refine gd_iaload (n := 8) (by decide) rfl dX11_goes_32 rfl hb ?_
    refine gd_iload_n 1 dX11_goes_33 rfl rfl ?_
    refine gd_bipush (x9 := 6) dX11_goes_34 (by decide) ?_
    refine gd_callVV (As := [zI (v.1 49 0 (a2 : Int32).toNatClampNeg), zI a1, zI 6]) (rest := []) (dy := 3) (my := 0) (sy := 0) (k := 11) (i := 0) lX11_341 iX11_settles sX11_settles rfl dX11_goes_36 rfl rfl (gd_room (by omega) (by decide)) (by decide) (Nat.le_of_ble_eq_true rfl) h (fun v1 h => ?_)
    refine gd_iinc (x9 := a2 + 1) (L' := [(2, zI (a2 + 1)), (0, zR 11 0), (1, zI a1)]) 2 dX11_goes_39 rfl rfl (by decide) rfl ?_
    refine gd_goto (tgt := 18) dX11_goes_42 (by decide) ?_
    refine gd_locals [1, 2, 0] rfl ?_
    exact h
def wp_X11_goes_50 (g : ab_E) (d : Nat) (a1 : Int32) (v : gd_D) (Q : ab_O → gd_D → Prop) : Prop :=
  (((a1 : Int32) = 0) →
    ∀ v1 : gd_D, v1 = gd_sI v 11 0 28 0 →
    ∀ v2 : gd_D, v2 = gd_sI v1 11 0 29 0 →
    ∀ v3 : gd_D, v3 = gd_sJ v2 11 0 30 0 →
    gd_G g mX11_goes d 0 0 79 [(0, zR 11 0), (2, zI 0)] [] v3 Q) ∧
  ((¬ (a1 : Int32) = 0) →
    gd_C g mX11_delivers 4 0 0 [zR 11 0] v (gd_rI (fun (r5 : Int32) v4 =>
      gd_G g mX11_goes d 0 0 50 [(0, zR 11 0), (1, zI r5)] [] v4 Q) (fun E v9 => Q (Sum.inr E) v9)))
theorem w_X11_goes_50 {g : ab_E} {d : Nat} {a1 : Int32} {v : gd_D} {Q : ab_O → gd_D → Prop} (hd : 5 ≤ d) (h : wp_X11_goes_50 g d a1 v Q) : gd_G g mX11_goes d 0 0 50 [(0, zR 11 0), (1, zI a1)] [] v Q := by
  unfold wp_X11_goes_50 at h
  refine gd_iload_n 1 dX11_goes_50 rfl rfl ?_
  refine gd_if_eq (tgt := 62) dX11_goes_51 (by decide) (fun hc => ?_) (fun hc => ?_)
  · have h := h.1 hc
    refine gd_aload_n 0 dX11_goes_62 rfl rfl ?_
    refine gd_iconst (x9 := 0) dX11_goes_63 (by decide) ?_
    refine gd_putIn fX11_357 rfl rfl dX11_goes_64 (fun v1 ev1 => ?_)
    have h := h v1 ev1
    refine gd_aload_n 0 dX11_goes_67 rfl rfl ?_
    refine gd_iconst (x9 := 0) dX11_goes_68 (by decide) ?_
    refine gd_putIn fX11_360 rfl rfl dX11_goes_69 (fun v2 ev2 => ?_)
    have h := h v2 ev2
    refine gd_aload_n 0 dX11_goes_72 rfl rfl ?_
    refine gd_lconst (x9 := 0) dX11_goes_73 (by decide) ?_
    refine gd_putJn fX11_363 rfl rfl dX11_goes_74 (fun v3 ev3 => ?_)
    have h := h v3 ev3
    refine gd_iconst (x9 := 0) dX11_goes_77 (by decide) ?_
    refine gd_istore_n (L' := [(2, zI 0), (0, zR 11 0), (1, zI a1)]) dX11_goes_78 rfl (by decide) rfl ?_
    refine gd_locals [1, 0] rfl ?_
    exact h
  · have h := h.2 hc
    refine gd_aload_n 0 dX11_goes_54 rfl rfl ?_
    refine gd_callVI (As := []) (rest := []) (dy := 4) (my := 0) (sy := 0) (k := 11) (i := 0) lX11_354 iX11_delivers sX11_delivers rfl dX11_goes_55 rfl rfl (gd_room (by omega) (by decide)) (by decide) (Nat.le_of_ble_eq_true rfl) h (fun r5 v4 h => ?_)
    refine gd_istore_n (L' := [(1, zI r5), (0, zR 11 0)]) dX11_goes_58 rfl (by decide) rfl ?_
    refine gd_goto (tgt := 50) dX11_goes_59 (by decide) ?_
    refine gd_locals [1, 0] rfl ?_
    exact h
def wp_X11_goes_79 (g : ab_E) (d : Nat) (a2 : Int32) (v : gd_D) (Q : ab_O → gd_D → Prop) : Prop :=
  gd_C g mX11_sales 2 0 0 [zR 11 0] v (gd_rI (fun (r2 : Int32) v1 =>
    (((r2 : Int32) ≤ a2) →
      gd_G g mX11_goes d 0 0 231 [(0, zR 11 0), (2, zI 0)] [] v1 Q) ∧
    ((¬ (r2 : Int32) ≤ a2) →
      gd_C g mX11_isAsked 3 0 0 [zR 11 0, zI a2] v1 (gd_rI (fun (r4 : Int32) v3 =>
        ((¬ (r4 : Int32) = 0) →
          ∀ v5 : gd_D, v5 = gd_sI v3 11 0 28 ((v3.1 11 0 28) + 1) →
          gd_C g mX11_of0 2 0 0 [zR 11 0, zI a2, zI 5] v5 (gd_rI (fun (r7 : Int32) v6 =>
            ∀ v8 : gd_D, v8 = gd_sI v6 11 0 29 ((v5.1 11 0 29) + r7) →
            gd_C g mX11_of0 2 0 0 [zR 11 0, zI a2, zI 5] v8 (gd_rI (fun (r10 : Int32) v9 =>
              gd_C g mX11_of0 2 0 0 [zR 11 0, zI a2, zI 3] v9 (gd_rI (fun (r12 : Int32) v11 =>
                ∀ y13 : Int64, y13 = ((r10 : Int32).toInt64) * ((r12 : Int32).toInt64) →
                vp_in 4 773 ∧
                ∀ y14 : Int64, y14 = y13 * (v11.2.1 40 0 (4 : Int32).toNatClampNeg) →
                ¬ (100000 : Int64) = 0 ∧
                ∀ v15 : gd_D, v15 = gd_sJ v11 11 0 30 ((v11.2.1 11 0 30) + (y14 / 100000)) →
                gd_C g mX11_of0 2 0 0 [zR 11 0, zI a2, zI 0] v15 (gd_rI (fun (r17 : Int32) v16 =>
                  gd_C g mX11_of0 2 0 0 [zR 11 0, zI a2, zI 1] v16 (gd_rI (fun (r19 : Int32) v18 =>
                    gd_C g mX11_pays 2 0 0 [zR 11 0, zI r17, zI r19, zJ (y14 / 100000)] v18 (gd_rV (fun v20 =>
                      gd_C g mX11_of0 2 0 0 [zR 11 0, zI a2, zI 0] v20 (gd_rI (fun (r23 : Int32) v22 =>
                        vp_in ((9 + (6 * r23)) + 2) 773 ∧
                        ∀ y24 : Int64, y24 = v22.2.1 40 0 ((9 + (6 * r23)) + 2 : Int32).toNatClampNeg →
                        vp_in ((9 + (6 * r23)) + 2) 773 ∧
                        ∀ v25 : gd_D, v25 = gd_sJ v22 40 0 (((9 + (6 * r23)) + 2 : Int32).toNatClampNeg) (y24 + (y14 / 100000)) →
                        gd_C g mX11_of0 2 0 0 [zR 11 0, zI a2, zI 1] v25 (gd_rI (fun (r27 : Int32) v26 =>
                          vp_in ((9 + (6 * r27)) + 3) 773 ∧
                          ∀ y28 : Int64, y28 = v26.2.1 40 0 ((9 + (6 * r27)) + 3 : Int32).toNatClampNeg →
                          vp_in ((9 + (6 * r27)) + 3) 773 ∧
                          ∀ v29 : gd_D, v29 = gd_sJ v26 40 0 (((9 + (6 * r27)) + 3 : Int32).toNatClampNeg) (y28 + (y14 / 100000)) →
                          gd_G g mX11_goes d 0 0 79 [(0, zR 11 0), (2, zI (a2 + 1))] [] v29 Q) (fun E v9 => Q (Sum.inr E) v9))) (fun E v9 => Q (Sum.inr E) v9))) (fun E v9 => Q (Sum.inr E) v9))) (fun E v9 => Q (Sum.inr E) v9))) (fun E v9 => Q (Sum.inr E) v9))) (fun E v9 => Q (Sum.inr E) v9))) (fun E v9 => Q (Sum.inr E) v9))) (fun E v9 => Q (Sum.inr E) v9))) ∧
        (((r4 : Int32) = 0) →
          gd_G g mX11_goes d 0 0 79 [(0, zR 11 0), (2, zI (a2 + 1))] [] v3 Q)) (fun E v9 => Q (Sum.inr E) v9)))) (fun E v9 => Q (Sum.inr E) v9))
theorem w_X11_goes_79 {g : ab_E} {d : Nat} {a2 : Int32} {v : gd_D} {Q : ab_O → gd_D → Prop} (hd : 4 ≤ d) (h : wp_X11_goes_79 g d a2 v Q) : gd_G g mX11_goes d 0 0 79 [(0, zR 11 0), (2, zI a2)] [] v Q := by
  unfold wp_X11_goes_79 at h
  refine gd_iload_n 1 dX11_goes_79 rfl rfl ?_
  refine gd_aload_n 0 dX11_goes_80 rfl rfl ?_
  refine gd_callVI (As := []) (rest := [zI a2]) (dy := 2) (my := 0) (sy := 0) (k := 11) (i := 0) lX11_278 iX11_sales sX11_sales rfl dX11_goes_81 rfl rfl (gd_room (by omega) (by decide)) (by decide) (Nat.le_of_ble_eq_true rfl) h (fun r2 v1 h => ?_)
  refine gd_icmp_ge (tgt := 229) dX11_goes_84 (by decide) (fun hc => ?_) (fun hc => ?_)
  · have h := h.1 hc
    refine gd_iconst (x9 := 0) dX11_goes_229 (by decide) ?_
    refine gd_istore_n (L' := [(2, zI 0), (0, zR 11 0)]) dX11_goes_230 rfl (by decide) rfl ?_
    refine gd_locals [1, 0] rfl ?_
    exact h
  · have h := h.2 hc
    refine gd_aload_n 0 dX11_goes_87 rfl rfl ?_
    refine gd_iload_n 1 dX11_goes_88 rfl rfl ?_
    refine gd_callVI (As := [zI a2]) (rest := []) (dy := 3) (my := 0) (sy := 0) (k := 11) (i := 0) lX11_305 iX11_isAsked sX11_isAsked rfl dX11_goes_89 rfl rfl (gd_room (by omega) (by decide)) (by decide) (Nat.le_of_ble_eq_true rfl) h (fun r4 v3 h => ?_)
    refine gd_if_ne (tgt := 98) dX11_goes_92 (by decide) (fun hc => ?_) (fun hc => ?_)
    · have h := h.1 hc
      refine gd_aload_n 0 dX11_goes_98 rfl rfl ?_
      refine gd_dup dX11_goes_99 rfl ?_
      refine gd_getI fX11_357 rfl dX11_goes_100 ?_
      refine gd_iconst (x9 := 1) dX11_goes_103 (by decide) ?_
      refine gd_iadd dX11_goes_104 ?_
      refine gd_putIn fX11_357 rfl rfl dX11_goes_105 (fun v5 ev5 => ?_)
      have h := h v5 ev5
      refine gd_aload_n 0 dX11_goes_108 rfl rfl ?_
      refine gd_dup dX11_goes_109 rfl ?_
      refine gd_getI fX11_360 rfl dX11_goes_110 ?_
      refine gd_aload_n 0 dX11_goes_113 rfl rfl ?_
      refine gd_iload_n 1 dX11_goes_114 rfl rfl ?_
      refine gd_iconst (x9 := 5) dX11_goes_115 (by decide) ?_
      refine gd_callVI (As := [zI a2, zI 5]) (rest := [zI (v5.1 11 0 29), zR 11 0]) (dy := 2) (my := 0) (sy := 0) (k := 11) (i := 0) lX11_289 iX11_of0 sX11_of0 rfl dX11_goes_116 rfl rfl (gd_room (by omega) (by decide)) (by decide) (Nat.le_of_ble_eq_true rfl) h (fun r7 v6 h => ?_)
      refine gd_iadd dX11_goes_119 ?_
      refine gd_putIn fX11_360 rfl rfl dX11_goes_120 (fun v8 ev8 => ?_)
      have h := h v8 ev8
      refine gd_aload_n 0 dX11_goes_123 rfl rfl ?_
      refine gd_iload_n 1 dX11_goes_124 rfl rfl ?_
      refine gd_iconst (x9 := 5) dX11_goes_125 (by decide) ?_
      refine gd_callVI (As := [zI a2, zI 5]) (rest := []) (dy := 2) (my := 0) (sy := 0) (k := 11) (i := 0) lX11_289 iX11_of0 sX11_of0 rfl dX11_goes_126 rfl rfl (gd_room (by omega) (by decide)) (by decide) (Nat.le_of_ble_eq_true rfl) h (fun r10 v9 h => ?_)
      refine gd_i2l dX11_goes_129 ?_
      refine gd_aload_n 0 dX11_goes_130 rfl rfl ?_
      refine gd_iload_n 1 dX11_goes_131 rfl rfl ?_
      refine gd_iconst (x9 := 3) dX11_goes_132 (by decide) ?_
      refine gd_callVI (As := [zI a2, zI 3]) (rest := [zJ ((r10 : Int32).toInt64)]) (dy := 2) (my := 0) (sy := 0) (k := 11) (i := 0) lX11_289 iX11_of0 sX11_of0 rfl dX11_goes_133 rfl rfl (gd_room (by omega) (by decide)) (by decide) (Nat.le_of_ble_eq_true rfl) h (fun r12 v11 h => ?_)
      refine gd_i2l dX11_goes_136 ?_
      refine gd_lmul dX11_goes_137 ?_
      refine gd_nmJ (fun y13 ey13 => ?_)
      have h := h y13 ey13
      refine gd_aload_n 0 dX11_goes_138 rfl rfl ?_
      refine gd_getR (x := 0) (kr := 40) fX11_17 rfl rfl dX11_goes_139 rfl ?_
      refine gd_iconst (x9 := 4) dX11_goes_142 (by decide) ?_
      obtain ⟨hb, h⟩ := h
      refine gd_laload (n := 773) (by decide) rfl dX11_goes_143 rfl hb ?_
      refine gd_lmul dX11_goes_144 ?_
      refine gd_nmJ (fun y14 ey14 => ?_)
      have h := h y14 ey14
      refine gd_ldc2 kX11_287 dX11_goes_145 ?_
      obtain ⟨hg, h⟩ := h
      refine gd_ldiv dX11_goes_148 hg ?_
      refine gd_lstore_n (L' := [(3, zJ (y14 / 100000)), (0, zR 11 0), (2, zI a2)]) dX11_goes_149 rfl (by decide) rfl ?_
      refine gd_aload_n 1 dX11_goes_150 rfl rfl ?_
      refine gd_dup dX11_goes_151 rfl ?_
      refine gd_getJ fX11_363 rfl dX11_goes_152 ?_
      refine gd_lload_n 0 dX11_goes_155 rfl rfl ?_
      refine gd_ladd dX11_goes_156 ?_
      refine gd_putJn fX11_363 rfl rfl dX11_goes_157 (fun v15 ev15 => ?_)
      have h := h v15 ev15
      refine gd_aload_n 1 dX11_goes_160 rfl rfl ?_
      refine gd_aload_n 1 dX11_goes_161 rfl rfl ?_
      refine gd_iload_n 2 dX11_goes_162 rfl rfl ?_
      refine gd_iconst (x9 := 0) dX11_goes_163 (by decide) ?_
      refine gd_callVI (As := [zI a2, zI 0]) (rest := [zR 11 0]) (dy := 2) (my := 0) (sy := 0) (k := 11) (i := 0) lX11_289 iX11_of0 sX11_of0 rfl dX11_goes_164 rfl rfl (gd_room (by omega) (by decide)) (by decide) (Nat.le_of_ble_eq_true rfl) h (fun r17 v16 h => ?_)
      refine gd_aload_n 1 dX11_goes_167 rfl rfl ?_
      refine gd_iload_n 2 dX11_goes_168 rfl rfl ?_
      refine gd_iconst (x9 := 1) dX11_goes_169 (by decide) ?_
      refine gd_callVI (As := [zI a2, zI 1]) (rest := [zI r17, zR 11 0]) (dy := 2) (my := 0) (sy := 0) (k := 11) (i := 0) lX11_289 iX11_of0 sX11_of0 rfl dX11_goes_170 rfl rfl (gd_room (by omega) (by decide)) (by decide) (Nat.le_of_ble_eq_true rfl) h (fun r19 v18 h => ?_)
      refine gd_lload_n 0 dX11_goes_173 rfl rfl ?_
      refine gd_callVV (As := [zI r17, zI r19, zJ (y14 / 100000)]) (rest := []) (dy := 2) (my := 0) (sy := 0) (k := 11) (i := 0) lX11_326 iX11_pays sX11_pays rfl dX11_goes_174 rfl rfl (gd_room (by omega) (by decide)) (by decide) (Nat.le_of_ble_eq_true rfl) h (fun v20 h => ?_)
      refine gd_aload_n 1 dX11_goes_177 rfl rfl ?_
      refine gd_getR (x := 0) (kr := 40) fX11_17 rfl rfl dX11_goes_178 rfl ?_
      refine gd_bipush (x9 := 9) dX11_goes_181 (by decide) ?_
      refine gd_bipush (x9 := 6) dX11_goes_183 (by decide) ?_
      refine gd_aload_n 1 dX11_goes_185 rfl rfl ?_
      refine gd_iload_n 2 dX11_goes_186 rfl rfl ?_
      refine gd_iconst (x9 := 0) dX11_goes_187 (by decide) ?_
      refine gd_callVI (As := [zI a2, zI 0]) (rest := [zI 6, zI 9, zR 40 0]) (dy := 2) (my := 0) (sy := 0) (k := 11) (i := 0) lX11_289 iX11_of0 sX11_of0 rfl dX11_goes_188 rfl rfl (gd_room (by omega) (by decide)) (by decide) (Nat.le_of_ble_eq_true rfl) h (fun r23 v22 h => ?_)
      refine gd_imul dX11_goes_191 ?_
      refine gd_iadd dX11_goes_192 ?_
      refine gd_iconst (x9 := 2) dX11_goes_193 (by decide) ?_
      refine gd_iadd dX11_goes_194 ?_
      refine gd_dup2_11 dX11_goes_195 rfl rfl ?_
      obtain ⟨hb, h⟩ := h
      refine gd_laload (n := 773) (by decide) rfl dX11_goes_196 rfl hb ?_
      refine gd_nmJ (fun y24 ey24 => ?_)
      have h := h y24 ey24
      refine gd_lload_n 0 dX11_goes_197 rfl rfl ?_
      refine gd_ladd dX11_goes_198 ?_
      obtain ⟨hb, h⟩ := h
      refine gd_lastoren (n := 773) (by decide) rfl rfl dX11_goes_199 rfl hb (fun v25 ev25 => ?_)
      have h := h v25 ev25
      refine gd_aload_n 1 dX11_goes_200 rfl rfl ?_
      refine gd_getR (x := 0) (kr := 40) fX11_17 rfl rfl dX11_goes_201 rfl ?_
      refine gd_bipush (x9 := 9) dX11_goes_204 (by decide) ?_
      refine gd_bipush (x9 := 6) dX11_goes_206 (by decide) ?_
      refine gd_aload_n 1 dX11_goes_208 rfl rfl ?_
      refine gd_iload_n 2 dX11_goes_209 rfl rfl ?_
      refine gd_iconst (x9 := 1) dX11_goes_210 (by decide) ?_
      refine gd_callVI (As := [zI a2, zI 1]) (rest := [zI 6, zI 9, zR 40 0]) (dy := 2) (my := 0) (sy := 0) (k := 11) (i := 0) lX11_289 iX11_of0 sX11_of0 rfl dX11_goes_211 rfl rfl (gd_room (by omega) (by decide)) (by decide) (Nat.le_of_ble_eq_true rfl) h (fun r27 v26 h => ?_)
      refine gd_imul dX11_goes_214 ?_
      refine gd_iadd dX11_goes_215 ?_
      refine gd_iconst (x9 := 3) dX11_goes_216 (by decide) ?_
      refine gd_iadd dX11_goes_217 ?_
      refine gd_dup2_11 dX11_goes_218 rfl rfl ?_
      obtain ⟨hb, h⟩ := h
      refine gd_laload (n := 773) (by decide) rfl dX11_goes_219 rfl hb ?_
      refine gd_nmJ (fun y28 ey28 => ?_)
      have h := h y28 ey28
      refine gd_lload_n 0 dX11_goes_220 rfl rfl ?_
      refine gd_ladd dX11_goes_221 ?_
      obtain ⟨hb, h⟩ := h
      refine gd_lastoren (n := 773) (by decide) rfl rfl dX11_goes_222 rfl hb (fun v29 ev29 => ?_)
      have h := h v29 ev29
      refine gd_iinc (x9 := a2 + 1) (L' := [(2, zI (a2 + 1)), (3, zJ (y14 / 100000)), (0, zR 11 0)]) 2 dX11_goes_223 rfl rfl (by decide) rfl ?_
      refine gd_goto (tgt := 79) dX11_goes_226 (by decide) ?_
      refine gd_locals [2, 0] rfl ?_
      exact h
    · have h := h.2 hc
      refine gd_goto (tgt := 223) dX11_goes_95 (by decide) ?_
      refine gd_iinc (x9 := a2 + 1) (L' := [(2, zI (a2 + 1)), (0, zR 11 0)]) 1 dX11_goes_223 rfl rfl (by decide) rfl ?_
      refine gd_goto (tgt := 79) dX11_goes_226 (by decide) ?_
      refine gd_locals [1, 0] rfl ?_
      exact h
def wp_X11_goes_231 (g : ab_E) (d : Nat) (a2 : Int32) (v : gd_D) (Q : ab_O → gd_D → Prop) : Prop :=
  gd_C g mX11_sales 2 0 0 [zR 11 0] v (gd_rI (fun (r2 : Int32) v1 =>
    (((r2 : Int32) ≤ a2) →
      vp_in 2 773 ∧
      vp_in 2 773 ∧
      ∀ v3 : gd_D, v3 = gd_sJ v1 40 0 ((2 : Int32).toNatClampNeg) ((v1.2.1 40 0 (2 : Int32).toNatClampNeg) + 1) →
      Q (Sum.inl none) v3) ∧
    ((¬ (r2 : Int32) ≤ a2) →
      vp_in a2 24 ∧
      gd_C g mX11_isAsked 3 0 0 [zR 11 0, zI (v1.1 47 0 (a2 : Int32).toNatClampNeg)] v1 (gd_rI (fun (r5 : Int32) v4 =>
        (((r5 : Int32) = 0) →
          gd_G g mX11_goes d 0 0 231 [(0, zR 11 0), (2, zI (a2 + 1))] [] v4 Q) ∧
        ((¬ (r5 : Int32) = 0) →
          vp_in 2 773 ∧
          gd_C g mX11_of0 2 0 0 [zR 11 0, zI (v1.1 47 0 (a2 : Int32).toNatClampNeg), zI 4] v4 (gd_rI (fun (r7 : Int32) v6 =>
            ∀ y8 : Int64, y8 = (v4.2.1 40 0 (2 : Int32).toNatClampNeg) - ((r7 : Int32).toInt64) →
            vp_in 6 773 ∧
            (((y8 : Int64) < (v6.2.1 40 0 (6 : Int32).toNatClampNeg)) →
              gd_G g mX11_goes d 0 0 231 [(0, zR 11 0), (2, zI (a2 + 1))] [] v6 Q) ∧
            ((¬ (y8 : Int64) < (v6.2.1 40 0 (6 : Int32).toNatClampNeg)) →
              gd_C g mX11_of0 2 0 0 [zR 11 0, zI (v1.1 47 0 (a2 : Int32).toNatClampNeg), zI 1] v6 (gd_rI (fun (r10 : Int32) v9 =>
                gd_C g mX11_sellsAsked 4 0 0 [zR 11 0, zI r10] v9 (gd_rI (fun (r12 : Int32) v11 =>
                  ((¬ (r12 : Int32) = 0) →
                    gd_G g mX11_goes d 0 0 231 [(0, zR 11 0), (2, zI (a2 + 1))] [] v11 Q) ∧
                  (((r12 : Int32) = 0) →
                    gd_C g mX11_of0 2 0 0 [zR 11 0, zI (v1.1 47 0 (a2 : Int32).toNatClampNeg), zI 5] v11 (gd_rI (fun (r14 : Int32) v13 =>
                      gd_C g mX11_buysIn 41 0 0 [zR 11 0, zI (v1.1 47 0 (a2 : Int32).toNatClampNeg), zI r14] v13 (gd_rV (fun v15 =>
                        gd_G g mX11_goes d 0 0 231 [(0, zR 11 0), (2, zI (a2 + 1))] [] v15 Q) (fun E v9 => Q (Sum.inr E) v9))) (fun E v9 => Q (Sum.inr E) v9)))) (fun E v9 => Q (Sum.inr E) v9))) (fun E v9 => Q (Sum.inr E) v9)))) (fun E v9 => Q (Sum.inr E) v9)))) (fun E v9 => Q (Sum.inr E) v9)))) (fun E v9 => Q (Sum.inr E) v9))
theorem w_X11_goes_231 {g : ab_E} {d : Nat} {a2 : Int32} {v : gd_D} {Q : ab_O → gd_D → Prop} (hd : 42 ≤ d) (h : wp_X11_goes_231 g d a2 v Q) : gd_G g mX11_goes d 0 0 231 [(0, zR 11 0), (2, zI a2)] [] v Q := by
  unfold wp_X11_goes_231 at h
  refine gd_iload_n 1 dX11_goes_231 rfl rfl ?_
  refine gd_aload_n 0 dX11_goes_232 rfl rfl ?_
  refine gd_callVI (As := []) (rest := [zI a2]) (dy := 2) (my := 0) (sy := 0) (k := 11) (i := 0) lX11_278 iX11_sales sX11_sales rfl dX11_goes_233 rfl rfl (gd_room (by omega) (by decide)) (by decide) (Nat.le_of_ble_eq_true rfl) h (fun r2 v1 h => ?_)
  refine gd_icmp_ge (tgt := 309) dX11_goes_236 (by decide) (fun hc => ?_) (fun hc => ?_)
  · have h := h.1 hc
    refine gd_aload_n 0 dX11_goes_309 rfl rfl ?_
    refine gd_getR (x := 0) (kr := 40) fX11_17 rfl rfl dX11_goes_310 rfl ?_
    refine gd_iconst (x9 := 2) dX11_goes_313 (by decide) ?_
    refine gd_dup2_11 dX11_goes_314 rfl rfl ?_
    obtain ⟨hb, h⟩ := h
    refine gd_laload (n := 773) (by decide) rfl dX11_goes_315 rfl hb ?_
    refine gd_lconst (x9 := 1) dX11_goes_316 (by decide) ?_
    refine gd_ladd dX11_goes_317 ?_
    obtain ⟨hb, h⟩ := h
    refine gd_lastoren (n := 773) (by decide) rfl rfl dX11_goes_318 rfl hb (fun v3 ev3 => ?_)
    have h := h v3 ev3
    exact gd_vret dX11_goes_319 rfl h
  · have h := h.2 hc
    refine gd_aload_n 0 dX11_goes_239 rfl rfl ?_
    refine gd_getR (x := 0) (kr := 47) fX11_43 rfl rfl dX11_goes_240 rfl ?_
    refine gd_iload_n 1 dX11_goes_243 rfl rfl ?_
    obtain ⟨hb, h⟩ := h
    refine gd_iaload (n := 24) (by decide) rfl dX11_goes_244 rfl hb ?_
    refine gd_istore_n (L' := [(3, zI (v1.1 47 0 (a2 : Int32).toNatClampNeg)), (0, zR 11 0), (2, zI a2)]) dX11_goes_245 rfl (by decide) rfl ?_
    refine gd_aload_n 1 dX11_goes_246 rfl rfl ?_
    refine gd_iload_n 0 dX11_goes_247 rfl rfl ?_
    refine gd_callVI (As := [zI (v1.1 47 0 (a2 : Int32).toNatClampNeg)]) (rest := []) (dy := 3) (my := 0) (sy := 0) (k := 11) (i := 0) lX11_305 iX11_isAsked sX11_isAsked rfl dX11_goes_248 rfl rfl (gd_room (by omega) (by decide)) (by decide) (Nat.le_of_ble_eq_true rfl) h (fun r5 v4 h => ?_)
    refine gd_if_eq (tgt := 303) dX11_goes_251 (by decide) (fun hc => ?_) (fun hc => ?_)
    · have h := h.1 hc
      refine gd_iinc (x9 := a2 + 1) (L' := [(2, zI (a2 + 1)), (3, zI (v1.1 47 0 (a2 : Int32).toNatClampNeg)), (0, zR 11 0)]) 2 dX11_goes_303 rfl rfl (by decide) rfl ?_
      refine gd_goto (tgt := 231) dX11_goes_306 (by decide) ?_
      refine gd_locals [2, 0] rfl ?_
      exact h
    · have h := h.2 hc
      refine gd_aload_n 1 dX11_goes_254 rfl rfl ?_
      refine gd_getR (x := 0) (kr := 40) fX11_17 rfl rfl dX11_goes_255 rfl ?_
      refine gd_iconst (x9 := 2) dX11_goes_258 (by decide) ?_
      obtain ⟨hb, h⟩ := h
      refine gd_laload (n := 773) (by decide) rfl dX11_goes_259 rfl hb ?_
      refine gd_aload_n 1 dX11_goes_260 rfl rfl ?_
      refine gd_iload_n 0 dX11_goes_261 rfl rfl ?_
      refine gd_iconst (x9 := 4) dX11_goes_262 (by decide) ?_
      refine gd_callVI (As := [zI (v1.1 47 0 (a2 : Int32).toNatClampNeg), zI 4]) (rest := [zJ (v4.2.1 40 0 (2 : Int32).toNatClampNeg)]) (dy := 2) (my := 0) (sy := 0) (k := 11) (i := 0) lX11_289 iX11_of0 sX11_of0 rfl dX11_goes_263 rfl rfl (gd_room (by omega) (by decide)) (by decide) (Nat.le_of_ble_eq_true rfl) h (fun r7 v6 h => ?_)
      refine gd_i2l dX11_goes_266 ?_
      refine gd_lsub dX11_goes_267 ?_
      refine gd_nmJ (fun y8 ey8 => ?_)
      have h := h y8 ey8
      refine gd_aload_n 1 dX11_goes_268 rfl rfl ?_
      refine gd_getR (x := 0) (kr := 40) fX11_17 rfl rfl dX11_goes_269 rfl ?_
      refine gd_bipush (x9 := 6) dX11_goes_272 (by decide) ?_
      obtain ⟨hb, h⟩ := h
      refine gd_laload (n := 773) (by decide) rfl dX11_goes_274 rfl hb ?_
      refine gd_lc_lt (tgt := 303) dX11_goes_275 dX11_goes_276 (by decide) (fun hc => ?_) (fun hc => ?_)
      · have h := h.1 hc
        refine gd_iinc (x9 := a2 + 1) (L' := [(2, zI (a2 + 1)), (3, zI (v1.1 47 0 (a2 : Int32).toNatClampNeg)), (0, zR 11 0)]) 2 dX11_goes_303 rfl rfl (by decide) rfl ?_
        refine gd_goto (tgt := 231) dX11_goes_306 (by decide) ?_
        refine gd_locals [2, 0] rfl ?_
        exact h
      · have h := h.2 hc
        refine gd_aload_n 1 dX11_goes_279 rfl rfl ?_
        refine gd_aload_n 1 dX11_goes_280 rfl rfl ?_
        refine gd_iload_n 0 dX11_goes_281 rfl rfl ?_
        refine gd_iconst (x9 := 1) dX11_goes_282 (by decide) ?_
        refine gd_callVI (As := [zI (v1.1 47 0 (a2 : Int32).toNatClampNeg), zI 1]) (rest := [zR 11 0]) (dy := 2) (my := 0) (sy := 0) (k := 11) (i := 0) lX11_289 iX11_of0 sX11_of0 rfl dX11_goes_283 rfl rfl (gd_room (by omega) (by decide)) (by decide) (Nat.le_of_ble_eq_true rfl) h (fun r10 v9 h => ?_)
        refine gd_callVI (As := [zI r10]) (rest := []) (dy := 4) (my := 0) (sy := 0) (k := 11) (i := 0) lX11_367 iX11_sellsAsked sX11_sellsAsked rfl dX11_goes_286 rfl rfl (gd_room (by omega) (by decide)) (by decide) (Nat.le_of_ble_eq_true rfl) h (fun r12 v11 h => ?_)
        refine gd_if_ne (tgt := 303) dX11_goes_289 (by decide) (fun hc => ?_) (fun hc => ?_)
        · have h := h.1 hc
          refine gd_iinc (x9 := a2 + 1) (L' := [(2, zI (a2 + 1)), (3, zI (v1.1 47 0 (a2 : Int32).toNatClampNeg)), (0, zR 11 0)]) 2 dX11_goes_303 rfl rfl (by decide) rfl ?_
          refine gd_goto (tgt := 231) dX11_goes_306 (by decide) ?_
          refine gd_locals [2, 0] rfl ?_
          exact h
        · have h := h.2 hc
          refine gd_aload_n 1 dX11_goes_292 rfl rfl ?_
          refine gd_iload_n 0 dX11_goes_293 rfl rfl ?_
          refine gd_aload_n 1 dX11_goes_294 rfl rfl ?_
          refine gd_iload_n 0 dX11_goes_295 rfl rfl ?_
          refine gd_iconst (x9 := 5) dX11_goes_296 (by decide) ?_
          refine gd_callVI (As := [zI (v1.1 47 0 (a2 : Int32).toNatClampNeg), zI 5]) (rest := [zI (v1.1 47 0 (a2 : Int32).toNatClampNeg), zR 11 0]) (dy := 2) (my := 0) (sy := 0) (k := 11) (i := 0) lX11_289 iX11_of0 sX11_of0 rfl dX11_goes_297 rfl rfl (gd_room (by omega) (by decide)) (by decide) (Nat.le_of_ble_eq_true rfl) h (fun r14 v13 h => ?_)
          refine gd_callVV (As := [zI (v1.1 47 0 (a2 : Int32).toNatClampNeg), zI r14]) (rest := []) (dy := 41) (my := 0) (sy := 0) (k := 11) (i := 0) lX11_370 iX11_buysIn sX11_buysIn rfl dX11_goes_300 rfl rfl (gd_room (by omega) (by decide)) (by decide) (Nat.le_of_ble_eq_true rfl) h (fun v15 h => ?_)
          refine gd_iinc (x9 := a2 + 1) (L' := [(2, zI (a2 + 1)), (3, zI (v1.1 47 0 (a2 : Int32).toNatClampNeg)), (0, zR 11 0)]) 2 dX11_goes_303 rfl rfl (by decide) rfl ?_
          refine gd_goto (tgt := 231) dX11_goes_306 (by decide) ?_
          refine gd_locals [2, 0] rfl ?_
          exact h
theorem c_X11_goes {g : ab_E} {d : Nat} {v : gd_D} {Q : ab_O → gd_D → Prop} (hd : 6 ≤ d) (h : wp_X11_goes g d v Q) : gd_C g mX11_goes d 0 0 [zR 11 0] v Q := gd_enterF (plainFor_of_name (by decide)) (Nat.le_of_ble_eq_true rfl) rfl (w_X11_goes hd h)
def wp_X11_night_24 (g : ab_E) (d : Nat) (s1 : Int32) (v : gd_D) (Q : ab_O → gd_D → Prop) : Prop :=
  gd_C g mX11_isFine 2 0 0 [zR 11 0, zI s1, zI 1, zI 2] v (gd_rI (fun (r2 : Int32) v1 =>
    ((¬ (r2 : Int32) = 0) →
      gd_C g mX11_keeps 2 0 0 [zR 11 0] v1 (gd_rV (fun v3 =>
        gd_C g mX11_goes 42 0 0 [zR 11 0] v3 (gd_rV (fun v5 =>
          Q (Sum.inl (some (zI (v5.1 11 0 28)))) v5) (fun E v9 => Q (Sum.inr E) v9))) (fun E v9 => Q (Sum.inr E) v9))) ∧
    (((r2 : Int32) = 0) →
      Q (Sum.inl (some (zI 0))) v1)) (fun E v9 => Q (Sum.inr E) v9))
theorem w_X11_night_24 {g : ab_E} {d : Nat} {s1 : Int32} {v : gd_D} {Q : ab_O → gd_D → Prop} (hd : 43 ≤ d) (h : wp_X11_night_24 g d s1 v Q) : gd_G g mX11_night d 0 0 24 [(0, zR 11 0)] [zI s1, zR 11 0] v Q := by
  unfold wp_X11_night_24 at h
  refine gd_iconst (x9 := 1) dX11_night_24 (by decide) ?_
  refine gd_iconst (x9 := 2) dX11_night_25 (by decide) ?_
  refine gd_callVI (As := [zI s1, zI 1, zI 2]) (rest := []) (dy := 2) (my := 0) (sy := 0) (k := 11) (i := 0) lX11_264 iX11_isFine sX11_isFine rfl dX11_night_26 rfl rfl (gd_room (by omega) (by decide)) (by decide) (Nat.le_of_ble_eq_true rfl) h (fun r2 v1 h => ?_)
  refine gd_if_ne (tgt := 34) dX11_night_29 (by decide) (fun hc => ?_) (fun hc => ?_)
  · have h := h.1 hc
    refine gd_aload_n 0 dX11_night_34 rfl rfl ?_
    refine gd_callVV (As := []) (rest := []) (dy := 2) (my := 0) (sy := 0) (k := 11) (i := 0) lX11_275 iX11_keeps sX11_keeps rfl dX11_night_35 rfl rfl (gd_room (by omega) (by decide)) (by decide) (Nat.le_of_ble_eq_true rfl) h (fun v3 h => ?_)
    refine gd_aload_n 0 dX11_night_38 rfl rfl ?_
    refine gd_callVV (As := []) (rest := []) (dy := 42) (my := 0) (sy := 0) (k := 11) (i := 0) lX11_375 iX11_goes sX11_goes rfl dX11_night_39 rfl rfl (gd_room (by omega) (by decide)) (by decide) (Nat.le_of_ble_eq_true rfl) h (fun v5 h => ?_)
    refine gd_aload_n 0 dX11_night_42 rfl rfl ?_
    refine gd_getI fX11_357 rfl dX11_night_43 ?_
    exact gd_iret (ty := .int) dX11_night_46 rfl rfl h
  · have h := h.2 hc
    refine gd_iconst (x9 := 0) dX11_night_32 (by decide) ?_
    exact gd_iret (ty := .int) dX11_night_33 rfl rfl h
def wp_X11_night (g : ab_E) (d : Nat) (v : gd_D) (Q : ab_O → gd_D → Prop) : Prop :=
  ∀ v1 : gd_D, v1 = gd_sI v 11 0 0 0 →
  vp_in 2 773 ∧
  (((5000 : Int64) ≤ (v1.2.1 40 0 (2 : Int32).toNatClampNeg)) →
    wp_X11_night_24 g d 0 v1 Q) ∧
  ((¬ (5000 : Int64) ≤ (v1.2.1 40 0 (2 : Int32).toNatClampNeg)) →
    wp_X11_night_24 g d 1 v1 Q)
theorem w_X11_night {g : ab_E} {d : Nat} {v : gd_D} {Q : ab_O → gd_D → Prop} (hd : 43 ≤ d) (h : wp_X11_night g d v Q) : gd_G g mX11_night d 0 0 0 [(0, zR 11 0)] [] v Q := by
  unfold wp_X11_night at h
  refine gd_aload_n 0 dX11_night_0 rfl rfl ?_
  refine gd_iconst (x9 := 0) dX11_night_1 (by decide) ?_
  refine gd_putIn fX11_1 rfl rfl dX11_night_2 (fun v1 ev1 => ?_)
  have h := h v1 ev1
  refine gd_aload_n 0 dX11_night_5 rfl rfl ?_
  refine gd_aload_n 0 dX11_night_6 rfl rfl ?_
  refine gd_getR (x := 0) (kr := 40) fX11_17 rfl rfl dX11_night_7 rfl ?_
  refine gd_iconst (x9 := 2) dX11_night_10 (by decide) ?_
  obtain ⟨hb, h⟩ := h
  refine gd_laload (n := 773) (by decide) rfl dX11_night_11 rfl hb ?_
  refine gd_ldc2 kX11_373 dX11_night_12 ?_
  refine gd_lc_ge (tgt := 23) dX11_night_15 dX11_night_16 (by decide) (fun hc => ?_) (fun hc => ?_)
  · have h := h.1 hc
    refine gd_iconst (x9 := 0) dX11_night_23 (by decide) ?_
    exact w_X11_night_24 (by omega) h
  · have h := h.2 hc
    refine gd_iconst (x9 := 1) dX11_night_19 (by decide) ?_
    refine gd_goto (tgt := 24) dX11_night_20 (by decide) ?_
    exact w_X11_night_24 (by omega) h
theorem c_X11_night {g : ab_E} {d : Nat} {v : gd_D} {Q : ab_O → gd_D → Prop} (hd : 43 ≤ d) (h : wp_X11_night g d v Q) : gd_C g mX11_night d 0 0 [zR 11 0] v Q := gd_enterF (plainFor_of_name (by decide)) (Nat.le_of_ble_eq_true rfl) rfl (w_X11_night hd h)
