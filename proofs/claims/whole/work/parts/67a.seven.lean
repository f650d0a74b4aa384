/-! the same with seven frames left -/
theorem gd_strlen7 {g : ab_E} {M : ab_M} {d bc bs pc : Nat} {L : List (Nat × ab_V)} {st : List ab_V} {v : gd_D} {Q : ab_O → gd_D → Prop} {i idx : Nat} (hl : ab_ml M.1.cls idx mJ0_length_8abf5 0) (hd : decode M.2.1 pc = .ok (.invokevirtual idx, 3)) (hz : ab_sz st ≤ 8) (hdd : 7 ≤ d) (kk : gd_G g M d bc bs (pc + 3) L (zI (Int32.ofNat (ab_tn.getD i 0)) :: st) v Q) : gd_G g M d bc bs pc L (zR 100 i :: st) v Q := by
  intro Z p e R s m args below meth c mc ms X φ0 w0 φ H locs cells slots ls F
  have hi : i < 14 := F.2.2.2.2.2.2 _ List.mem_cons_self 100 i rfl
  exact (gd_callTI (K := fun r v9 => gd_G g M d bc bs (pc + 3) L (zI r :: st) v9 Q) (As := []) (rest := st) (dy := 3) (my := 0) (sy := 0) (i := i) hl iJ0_length_8abf5 sJ0_length_8abf5 hd rfl rfl (gd_room (by omega) (by decide)) ⟨Nat.zero_le _, Nat.zero_le _⟩ hz (c_strlen (by decide) hi kk) (fun _ _ h => h)) Z p e R s m args below meth c mc ms X φ0 w0 φ H locs cells slots ls F
theorem gd_strch7 {g : ab_E} {M : ab_M} {d bc bs pc : Nat} {L : List (Nat × ab_V)} {st : List ab_V} {v : gd_D} {Q : ab_O → gd_D → Prop} {i idx : Nat} {x : Int32} (hl : ab_ml M.1.cls idx mJ0_charAt_5068e 1) (hd : decode M.2.1 pc = .ok (.invokevirtual idx, 3)) (hz : ab_sz st ≤ 8) (hdd : 7 ≤ d) (hx : vp_in x (ab_tn.getD i 0)) (kk : gd_G g M d bc bs (pc + 3) L (zI ((ab_tb.getD i []).getD x.toNatClampNeg 0) :: st) v Q) : gd_G g M d bc bs pc L (zI x :: zR 100 i :: st) v Q := by
  intro Z p e R s m args below meth c mc ms X φ0 w0 φ H locs cells slots ls F
  have hi : i < 14 := F.2.2.2.2.2.2 _ (List.mem_cons_of_mem _ List.mem_cons_self) 100 i rfl
  exact (gd_callTI (K := fun r v9 => gd_G g M d bc bs (pc + 3) L (zI r :: st) v9 Q) (As := [zI x]) (rest := st) (dy := 6) (my := 0) (sy := 0) (i := i) hl iJ0_charAt_5068e sJ0_charAt_5068e hd rfl rfl (gd_room (by omega) (by decide)) ⟨Nat.zero_le _, Nat.zero_le _⟩ hz (c_charAt (by decide) hi hx kk) (fun _ _ h => h)) Z p e R s m args below meth c mc ms X φ0 w0 φ H locs cells slots ls F
theorem w_X7_spells_d7 {g : ab_E} {d : Nat} {a1 : Nat} {a2 : Int32} {a3 : Int32} {v : gd_D} {Q : ab_O → gd_D → Prop} (hd : 7 ≤ d) (h : wp_X7_spells g d a1 a2 a3 v Q) : gd_G g mX7_spells d 0 0 0 [(0, zR 7 0), (1, zR 100 a1), (2, zI a2), (3, zI a3)] [] v Q := by
  unfold wp_X7_spells at h
  refine gd_iload_n 3 dX7_spells_0 rfl rfl ?_
  refine gd_iload_n 2 dX7_spells_1 rfl rfl ?_
  refine gd_isub dX7_spells_2 ?_
  refine gd_aload_n 1 dX7_spells_3 rfl rfl ?_
  refine gd_strlen7 (i := a1) lX7_141 dX7_spells_4 (Nat.le_of_ble_eq_true rfl) (by omega) ?_
  refine gd_icmp_eq (tgt := 12) dX7_spells_7 (by decide) (fun hc => ?_) (fun hc => ?_)
  · have h := h.1 hc
    refine gd_iconst (x9 := 0) dX7_spells_12 (by decide) ?_
    refine gd_istore (L' := [(4, zI 0), (0, zR 7 0), (1, zR 100 a1), (2, zI a2), (3, zI a3)]) dX7_spells_13 (by decide) rfl ?_
    refine gd_locals [1, 2, 3, 0] rfl ?_
    exact h
  · have h := h.2 hc
    refine gd_iconst (x9 := 0) dX7_spells_10 (by decide) ?_
    exact gd_iret (ty := .boolean) dX7_spells_11 rfl rfl h
theorem w_X7_spells_15_d7 {g : ab_E} {d : Nat} {a1 : Nat} {a2 : Int32} {a4 : Int32} {v : gd_D} {Q : ab_O → gd_D → Prop} (hd : 7 ≤ d) (h : wp_X7_spells_15 g d a1 a2 a4 v Q) : gd_G g mX7_spells d 0 0 15 [(0, zR 7 0), (1, zR 100 a1), (2, zI a2), (4, zI a4)] [] v Q := by
  unfold wp_X7_spells_15 at h
  refine gd_iload 3 dX7_spells_15 rfl ?_
  refine gd_aload_n 1 dX7_spells_17 rfl rfl ?_
  refine gd_strlen7 (i := a1) lX7_141 dX7_spells_18 (Nat.le_of_ble_eq_true rfl) (by omega) ?_
  refine gd_icmp_ge (tgt := 50) dX7_spells_21 (by decide) (fun hc => ?_) (fun hc => ?_)
  · have h := h.1 hc
    refine gd_iconst (x9 := 1) dX7_spells_50 (by decide) ?_
    exact gd_iret (ty := .boolean) dX7_spells_51 rfl rfl h
  · have h := h.2 hc
    refine gd_aload_n 0 dX7_spells_24 rfl rfl ?_
    refine gd_getR (x := 0) (kr := 31) fX7_9 rfl rfl dX7_spells_25 rfl ?_
    refine gd_iload_n 2 dX7_spells_28 rfl rfl ?_
    refine gd_iload 3 dX7_spells_29 rfl ?_
    refine gd_iadd dX7_spells_31 ?_
    obtain ⟨hb, h⟩ := h
    refine gd_baload (n := 500) (by decide) rfl dX7_spells_32 rfl hb ?_
    refine gd_aload_n 1 dX7_spells_33 rfl rfl ?_
    refine gd_iload 3 dX7_spells_34 rfl ?_
    obtain ⟨hb, h⟩ := h
    refine gd_strch7 (i := a1) lX7_147 dX7_spells_36 (Nat.le_of_ble_eq_true rfl) (by omega) hb ?_
    refine gd_icmp_eq (tgt := 44) dX7_spells_39 (by decide) (fun hc => ?_) (fun hc => ?_)
    · have h := h.1 hc
      refine gd_iinc (x9 := a4 + 1) (L' := [(4, zI (a4 + 1)), (0, zR 7 0), (1, zR 100 a1), (2, zI a2)]) 3 dX7_spells_44 rfl rfl (by decide) rfl ?_
      refine gd_goto (tgt := 15) dX7_spells_47 (by decide) ?_
      refine gd_locals [1, 2, 3, 0] rfl ?_
      exact h
    · have h := h.2 hc
      refine gd_iconst (x9 := 0) dX7_spells_42 (by decide) ?_
      exact gd_iret (ty := .boolean) dX7_spells_43 rfl rfl h
theorem c_X7_spells_d7 {g : ab_E} {d : Nat} {a1 : Nat} {a2 : Int32} {a3 : Int32} {v : gd_D} {Q : ab_O → gd_D → Prop} (hd : 7 ≤ d) (h : wp_X7_spells g d a1 a2 a3 v Q) : gd_C g mX7_spells d 0 0 [zR 7 0, zR 100 a1, zI a2, zI a3] v Q := gd_enterF (plainFor_of_name (by decide)) (Nat.le_of_ble_eq_true rfl) rfl (w_X7_spells_d7 hd h)
theorem w_X11_isHere_d7 {g : ab_E} {d : Nat} {a1 : Nat} {v : gd_D} {Q : ab_O → gd_D → Prop} (hd : 3 ≤ d) (h : wp_X11_isHere g d a1 v Q) : gd_G g mX11_isHere d 0 0 0 [(0, zR 11 0), (1, zR 100 a1)] [] v Q := by
  unfold wp_X11_isHere at h
  refine gd_aload_n 0 dX11_isHere_0 rfl rfl ?_
  refine gd_callVI (As := []) (rest := []) (dy := 2) (my := 0) (sy := 0) (k := 11) (i := 0) lX11_118 iX11_sign sX11_sign rfl dX11_isHere_1 rfl rfl (gd_room (by omega) (by decide)) (by decide) (Nat.le_of_ble_eq_true rfl) h (fun r2 v1 h => ?_)
  refine gd_pop dX11_isHere_4 rfl ?_
  refine gd_iconst (x9 := 0) dX11_isHere_5 (by decide) ?_
  refine gd_istore_n (L' := [(2, zI 0), (0, zR 11 0), (1, zR 100 a1)]) dX11_isHere_6 rfl (by decide) rfl ?_
  refine gd_locals [1, 2, 0] rfl ?_
  exact h
theorem w_X11_isHere_7_d7 {g : ab_E} {d : Nat} {a1 : Nat} {a2 : Int32} {v : gd_D} {Q : ab_O → gd_D → Prop} (hd : 7 ≤ d) (h : wp_X11_isHere_7 g d a1 a2 v Q) : gd_G g mX11_isHere d 0 0 7 [(0, zR 11 0), (1, zR 100 a1), (2, zI a2)] [] v Q := by
  unfold wp_X11_isHere_7 at h
  refine gd_iload_n 2 dX11_isHere_7 rfl rfl ?_
  refine gd_aload_n 1 dX11_isHere_8 rfl rfl ?_
  refine gd_strlen7 (i := a1) lX11_122 dX11_isHere_9 (Nat.le_of_ble_eq_true rfl) (by omega) ?_
  refine gd_icmp_ge (tgt := 55) dX11_isHere_12 (by decide) (fun hc => ?_) (fun hc => ?_)
  · have h := h.1 hc
    refine gd_aload_n 0 dX11_isHere_55 rfl rfl ?_
    refine gd_aload_n 0 dX11_isHere_56 rfl rfl ?_
    refine gd_getI fX11_112 rfl dX11_isHere_57 ?_
    refine gd_aload_n 1 dX11_isHere_60 rfl rfl ?_
    refine gd_strlen7 (i := a1) lX11_122 dX11_isHere_61 (Nat.le_of_ble_eq_true rfl) (by omega) ?_
    refine gd_iadd dX11_isHere_64 ?_
    refine gd_nmI (fun x1 ex1 => ?_)
    have h := h x1 ex1
    refine gd_callVI (As := [zI x1]) (rest := []) (dy := 2) (my := 0) (sy := 0) (k := 11) (i := 0) lX11_127 iX11_isSmall sX11_isSmall rfl dX11_isHere_65 rfl rfl (gd_room (by omega) (by decide)) (by decide) (Nat.le_of_ble_eq_true rfl) h (fun r3 v2 h => ?_)
    refine gd_if_ne (tgt := 75) dX11_isHere_68 (by decide) (fun hc => ?_) (fun hc => ?_)
    · have h := h.1 hc
      refine gd_iconst (x9 := 0) dX11_isHere_75 (by decide) ?_
      exact gd_iret (ty := .boolean) dX11_isHere_76 rfl rfl h
    · have h := h.2 hc
      refine gd_iconst (x9 := 1) dX11_isHere_71 (by decide) ?_
      refine gd_goto (tgt := 76) dX11_isHere_72 (by decide) ?_
      exact gd_iret (ty := .boolean) dX11_isHere_76 rfl rfl h
  · have h := h.2 hc
    refine gd_aload_n 0 dX11_isHere_15 rfl rfl ?_
    refine gd_aload_n 0 dX11_isHere_16 rfl rfl ?_
    refine gd_getI fX11_112 rfl dX11_isHere_17 ?_
    refine gd_iload_n 2 dX11_isHere_20 rfl rfl ?_
    refine gd_iadd dX11_isHere_21 ?_
    refine gd_callVI (As := [zI ((v.1 11 0 11) + a2)]) (rest := []) (dy := 2) (my := 0) (sy := 0) (k := 11) (i := 0) lX11_127 iX11_isSmall sX11_isSmall rfl dX11_isHere_22 rfl rfl (gd_room (by omega) (by decide)) (by decide) (Nat.le_of_ble_eq_true rfl) h (fun r5 v4 h => ?_)
    refine gd_if_eq (tgt := 47) dX11_isHere_25 (by decide) (fun hc => ?_) (fun hc => ?_)
    · have h := h.1 hc
      refine gd_iconst (x9 := 0) dX11_isHere_47 (by decide) ?_
      exact gd_iret (ty := .boolean) dX11_isHere_48 rfl rfl h
    · have h := h.2 hc
      refine gd_aload_n 0 dX11_isHere_28 rfl rfl ?_
      refine gd_getR (x := 0) (kr := 45) fX11_34 rfl rfl dX11_isHere_29 rfl ?_
      refine gd_aload_n 0 dX11_isHere_32 rfl rfl ?_
      refine gd_getI fX11_112 rfl dX11_isHere_33 ?_
      refine gd_iload_n 2 dX11_isHere_36 rfl rfl ?_
      refine gd_iadd dX11_isHere_37 ?_
      obtain ⟨hb, h⟩ := h
      refine gd_baload (n := 500) (by decide) rfl dX11_isHere_38 rfl hb ?_
      refine gd_nmI (fun x6 ex6 => ?_)
      have h := h x6 ex6
      refine gd_aload_n 1 dX11_isHere_39 rfl rfl ?_
      refine gd_iload_n 2 dX11_isHere_40 rfl rfl ?_
      obtain ⟨hb, h⟩ := h
      refine gd_strch7 (i := a1) lX11_131 dX11_isHere_41 (Nat.le_of_ble_eq_true rfl) (by omega) hb ?_
      refine gd_icmp_eq (tgt := 49) dX11_isHere_44 (by decide) (fun hc => ?_) (fun hc => ?_)
      · have h := h.1 hc
        refine gd_iinc (x9 := a2 + 1) (L' := [(2, zI (a2 + 1)), (0, zR 11 0), (1, zR 100 a1)]) 2 dX11_isHere_49 rfl rfl (by decide) rfl ?_
        refine gd_goto (tgt := 7) dX11_isHere_52 (by decide) ?_
        refine gd_locals [1, 2, 0] rfl ?_
        exact h
      · have h := h.2 hc
        refine gd_iconst (x9 := 0) dX11_isHere_47 (by decide) ?_
        exact gd_iret (ty := .boolean) dX11_isHere_48 rfl rfl h
theorem c_X11_isHere_d7 {g : ab_E} {d : Nat} {a1 : Nat} {v : gd_D} {Q : ab_O → gd_D → Prop} (hd : 3 ≤ d) (h : wp_X11_isHere g d a1 v Q) : gd_C g mX11_isHere d 0 0 [zR 11 0, zR 100 a1] v Q := gd_enterF (plainFor_of_name (by decide)) (Nat.le_of_ble_eq_true rfl) rfl (w_X11_isHere_d7 hd h)
