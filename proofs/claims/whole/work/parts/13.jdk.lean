theorem fX2_23 : Cond.fieldLink RX2 23 "FailDesk$House" "NO_RULE" "[I" ∈ lw_tbl := List.mem_of_getElem? (i := 164) (by decide +kernel)
theorem fJ0_38 : Cond.fieldLink RJ0 38 "java/lang/String" "COMPACT_STRINGS" "Z" ∈ lw_tbl := List.mem_of_getElem? (i := 776) (by decide +kernel)
theorem fJ0_1053 : Cond.fieldLink RJ0 1053 "jdk/internal/util/Preconditions" "SIOOBE_FORMATTER" "Ljava/util/function/BiFunction;" ∈ lw_tbl := List.mem_of_getElem? (i := 792) (by decide +kernel)
theorem fJ0_9 : Cond.fieldLink RJ0 9 "java/lang/String" "value" "[B" ∈ lw_tbl := List.mem_of_getElem? (i := 1871) (by decide +kernel)
theorem fJ0_15 : Cond.fieldLink RJ0 15 "java/lang/String" "coder" "B" ∈ lw_tbl := List.mem_of_getElem? (i := 1872) (by decide +kernel)
theorem ab_i2c {g : ab_E} {M : ab_M} {d bc bs pc : Nat} {L : List (Nat × ab_V)} {st : List ab_V} {w : ab_W} {Q : ab_O → ab_W → Prop} {x : Int32} (hd : decode M.2.1 pc = .ok (.i2c, 1)) (k : ab_G g M d bc bs (pc + 1) L (zI (x.toUInt32 % 65536).toInt32 :: st) w Q) : ab_G g M d bc bs pc L (zI x :: st) w Q := ab_step k (ab_p1 ab_okI) fun _ _ _ _ _ _ _ _ _ _ _ _ _ _ _ _ hx hb _ _ _ _ kk => lv_i2c hx hb hd rfl kk
theorem gd_i2c {g : ab_E} {M : ab_M} {d bc bs pc : Nat} {L : List (Nat × ab_V)} {st : List ab_V} {v : gd_D} {Q : ab_O → gd_D → Prop} {x : Int32} (hd : decode M.2.1 pc = .ok (.i2c, 1)) (k : gd_G g M d bc bs (pc + 1) L (zI (x.toUInt32 % 65536).toInt32 :: st) v Q) : gd_G g M d bc bs pc L (zI x :: st) v Q := ab_i2c hd k
theorem x10_refuseMissing_c : Bundle.fit "java/util/NoSuchElementException" = true := by decide +kernel
theorem x10_refuseMissing_n : ∀ n ∈ ["java/lang/RuntimeException", "java/lang/Exception"], Bundle.fit n = true := by decide +kernel
theorem x10_refuseMissing_k : Cond.classLink RX10 308 "java/util/NoSuchElementException" ∈ lw_tbl := List.mem_of_getElem? (i := 959) (by decide +kernel)
theorem x10_refuseMissing_i : Cond.initialized "java/util/NoSuchElementException" ∈ lw_tbl := List.mem_of_getElem? (i := 136) (by decide +kernel)
theorem x10_refuseMissing_a : ∀ x ∈ (vx_at0 RX10 310 "java/util/NoSuchElementException" ["java/lang/RuntimeException", "java/lang/Exception"]).filter goodWord, x ∈ lw_tbl := by decide +kernel
theorem x10_refuseMissing_b : ∀ x ∈ (vx_at0 RX10 310 "java/util/NoSuchElementException" ["java/lang/RuntimeException", "java/lang/Exception"]).filter (fun x => !goodWord x), x ∈ lw_tbl ∧ (x.onTables && x.keepsFace) = true := by decide +kernel
theorem x10_refuseMissing_g : ∀ x ∈ Cond.classLink RX10 308 "java/util/NoSuchElementException" :: Cond.initialized "java/util/NoSuchElementException" :: vx_at0 RX10 310 "java/util/NoSuchElementException" ["java/lang/RuntimeException", "java/lang/Exception"], vx_ot x = true := by decide +kernel
theorem x10_refuseUnfit_c : Bundle.fit "java/lang/IllegalArgumentException" = true := by decide +kernel
theorem x10_refuseUnfit_n : ∀ n ∈ ["java/lang/RuntimeException", "java/lang/Exception"], Bundle.fit n = true := by decide +kernel
theorem x10_refuseUnfit_k : Cond.classLink RX10 311 "java/lang/IllegalArgumentException" ∈ lw_tbl := List.mem_of_getElem? (i := 674) (by decide +kernel)
theorem x10_refuseUnfit_i : Cond.initialized "java/lang/IllegalArgumentException" ∈ lw_tbl := List.mem_of_getElem? (i := 128) (by decide +kernel)
theorem x10_refuseUnfit_a : ∀ x ∈ (vx_at0 RX10 313 "java/lang/IllegalArgumentException" ["java/lang/RuntimeException", "java/lang/Exception"]).filter goodWord, x ∈ lw_tbl := by decide +kernel
theorem x10_refuseUnfit_b : ∀ x ∈ (vx_at0 RX10 313 "java/lang/IllegalArgumentException" ["java/lang/RuntimeException", "java/lang/Exception"]).filter (fun x => !goodWord x), x ∈ lw_tbl ∧ (x.onTables && x.keepsFace) = true := by decide +kernel
theorem x10_refuseUnfit_g : ∀ x ∈ Cond.classLink RX10 311 "java/lang/IllegalArgumentException" :: Cond.initialized "java/lang/IllegalArgumentException" :: vx_at0 RX10 313 "java/lang/IllegalArgumentException" ["java/lang/RuntimeException", "java/lang/Exception"], vx_ot x = true := by decide +kernel
theorem x10_refuseUntimely_c : Bundle.fit "java/lang/IllegalStateException" = true := by decide +kernel
theorem x10_refuseUntimely_n : ∀ n ∈ ["java/lang/RuntimeException", "java/lang/Exception"], Bundle.fit n = true := by decide +kernel
theorem x10_refuseUntimely_k : Cond.classLink RX10 314 "java/lang/IllegalStateException" ∈ lw_tbl := List.mem_of_getElem? (i := 978) (by decide +kernel)
theorem x10_refuseUntimely_i : Cond.initialized "java/lang/IllegalStateException" ∈ lw_tbl := List.mem_of_getElem? (i := 137) (by decide +kernel)
theorem x10_refuseUntimely_a : ∀ x ∈ (vx_at0 RX10 316 "java/lang/IllegalStateException" ["java/lang/RuntimeException", "java/lang/Exception"]).filter goodWord, x ∈ lw_tbl := by decide +kernel
theorem x10_refuseUntimely_b : ∀ x ∈ (vx_at0 RX10 316 "java/lang/IllegalStateException" ["java/lang/RuntimeException", "java/lang/Exception"]).filter (fun x => !goodWord x), x ∈ lw_tbl ∧ (x.onTables && x.keepsFace) = true := by decide +kernel
theorem x10_refuseUntimely_g : ∀ x ∈ Cond.classLink RX10 314 "java/lang/IllegalStateException" :: Cond.initialized "java/lang/IllegalStateException" :: vx_at0 RX10 316 "java/lang/IllegalStateException" ["java/lang/RuntimeException", "java/lang/Exception"], vx_ot x = true := by decide +kernel
def wp_J9_min_7cf53 (g : ab_E) (d : Nat) (a0 : Int32) (a1 : Int32) (v : gd_D) (Q : ab_O → gd_D → Prop) : Prop :=
  (((a1 : Int32) < a0) →
    Q (Sum.inl (some (zI a1))) v) ∧
  ((¬ (a1 : Int32) < a0) →
    Q (Sum.inl (some (zI a0))) v)
theorem w_J9_min_7cf53 {g : ab_E} {d : Nat} {a0 : Int32} {a1 : Int32} {v : gd_D} {Q : ab_O → gd_D → Prop} (hd : 0 ≤ d) (h : wp_J9_min_7cf53 g d a0 a1 v Q) : gd_G g mJ9_min_7cf53 d 0 0 0 [(0, zI a0), (1, zI a1)] [] v Q := by
  unfold wp_J9_min_7cf53 at h
  refine gd_iload_n 0 dJ9_min_7cf53_0 rfl rfl ?_
  refine gd_iload_n 1 dJ9_min_7cf53_1 rfl rfl ?_
  refine gd_icmp_gt (tgt := 9) dJ9_min_7cf53_2 (by decide) (fun hc => ?_) (fun hc => ?_)
  · have h := h.1 hc
    refine gd_iload_n 1 dJ9_min_7cf53_9 rfl rfl ?_
    exact gd_iret (ty := .int) dJ9_min_7cf53_10 rfl rfl h
  · have h := h.2 hc
    refine gd_iload_n 0 dJ9_min_7cf53_5 rfl rfl ?_
    refine gd_goto (tgt := 10) dJ9_min_7cf53_6 (by decide) ?_
    exact gd_iret (ty := .int) dJ9_min_7cf53_10 rfl rfl h
theorem c_J9_min_7cf53 {g : ab_E} {d : Nat} {a0 : Int32} {a1 : Int32} {v : gd_D} {Q : ab_O → gd_D → Prop} (hd : 0 ≤ d) (h : wp_J9_min_7cf53 g d a0 a1 v Q) : gd_C g mJ9_min_7cf53 d 0 0 [zI a0, zI a1] v Q := gd_enterF (by decide +kernel) (Nat.le_of_ble_eq_true rfl) rfl (w_J9_min_7cf53 hd h)
def wp_J9_max_7cf53 (g : ab_E) (d : Nat) (a0 : Int32) (a1 : Int32) (v : gd_D) (Q : ab_O → gd_D → Prop) : Prop :=
  (((a0 : Int32) < a1) →
    Q (Sum.inl (some (zI a1))) v) ∧
  ((¬ (a0 : Int32) < a1) →
    Q (Sum.inl (some (zI a0))) v)
theorem w_J9_max_7cf53 {g : ab_E} {d : Nat} {a0 : Int32} {a1 : Int32} {v : gd_D} {Q : ab_O → gd_D → Prop} (hd : 0 ≤ d) (h : wp_J9_max_7cf53 g d a0 a1 v Q) : gd_G g mJ9_max_7cf53 d 0 0 0 [(0, zI a0), (1, zI a1)] [] v Q := by
  unfold wp_J9_max_7cf53 at h
  refine gd_iload_n 0 dJ9_max_7cf53_0 rfl rfl ?_
  refine gd_iload_n 1 dJ9_max_7cf53_1 rfl rfl ?_
  refine gd_icmp_lt (tgt := 9) dJ9_max_7cf53_2 (by decide) (fun hc => ?_) (fun hc => ?_)
  · have h := h.1 hc
    refine gd_iload_n 1 dJ9_max_7cf53_9 rfl rfl ?_
    exact gd_iret (ty := .int) dJ9_max_7cf53_10 rfl rfl h
  · have h := h.2 hc
    refine gd_iload_n 0 dJ9_max_7cf53_5 rfl rfl ?_
    refine gd_goto (tgt := 10) dJ9_max_7cf53_6 (by decide) ?_
    exact gd_iret (ty := .int) dJ9_max_7cf53_10 rfl rfl h
theorem c_J9_max_7cf53 {g : ab_E} {d : Nat} {a0 : Int32} {a1 : Int32} {v : gd_D} {Q : ab_O → gd_D → Prop} (hd : 0 ≤ d) (h : wp_J9_max_7cf53 g d a0 a1 v Q) : gd_C g mJ9_max_7cf53 d 0 0 [zI a0, zI a1] v Q := gd_enterF (by decide +kernel) (Nat.le_of_ble_eq_true rfl) rfl (w_J9_max_7cf53 hd h)
def wp_J9_min_f86c9 (g : ab_E) (d : Nat) (a0 : Int64) (a2 : Int64) (v : gd_D) (Q : ab_O → gd_D → Prop) : Prop :=
  (((a2 : Int64) < a0) →
    Q (Sum.inl (some (zJ a2))) v) ∧
  ((¬ (a2 : Int64) < a0) →
    Q (Sum.inl (some (zJ a0))) v)
theorem w_J9_min_f86c9 {g : ab_E} {d : Nat} {a0 : Int64} {a2 : Int64} {v : gd_D} {Q : ab_O → gd_D → Prop} (hd : 0 ≤ d) (h : wp_J9_min_f86c9 g d a0 a2 v Q) : gd_G g mJ9_min_f86c9 d 0 0 0 [(0, zJ a0), (2, zJ a2)] [] v Q := by
  unfold wp_J9_min_f86c9 at h
  refine gd_lload_n 0 dJ9_min_f86c9_0 rfl rfl ?_
  refine gd_lload_n 1 dJ9_min_f86c9_1 rfl rfl ?_
  refine gd_lc_gt (tgt := 10) dJ9_min_f86c9_2 dJ9_min_f86c9_3 (by decide) (fun hc => ?_) (fun hc => ?_)
  · have h := h.1 hc
    refine gd_lload_n 1 dJ9_min_f86c9_10 rfl rfl ?_
    exact gd_lret dJ9_min_f86c9_11 rfl h
  · have h := h.2 hc
    refine gd_lload_n 0 dJ9_min_f86c9_6 rfl rfl ?_
    refine gd_goto (tgt := 11) dJ9_min_f86c9_7 (by decide) ?_
    exact gd_lret dJ9_min_f86c9_11 rfl h
theorem c_J9_min_f86c9 {g : ab_E} {d : Nat} {a0 : Int64} {a2 : Int64} {v : gd_D} {Q : ab_O → gd_D → Prop} (hd : 0 ≤ d) (h : wp_J9_min_f86c9 g d a0 a2 v Q) : gd_C g mJ9_min_f86c9 d 0 0 [zJ a0, zJ a2] v Q := gd_enterF (by decide +kernel) (Nat.le_of_ble_eq_true rfl) rfl (w_J9_min_f86c9 hd h)
def wp_J9_max_f86c9 (g : ab_E) (d : Nat) (a0 : Int64) (a2 : Int64) (v : gd_D) (Q : ab_O → gd_D → Prop) : Prop :=
  (((a0 : Int64) < a2) →
    Q (Sum.inl (some (zJ a2))) v) ∧
  ((¬ (a0 : Int64) < a2) →
    Q (Sum.inl (some (zJ a0))) v)
theorem w_J9_max_f86c9 {g : ab_E} {d : Nat} {a0 : Int64} {a2 : Int64} {v : gd_D} {Q : ab_O → gd_D → Prop} (hd : 0 ≤ d) (h : wp_J9_max_f86c9 g d a0 a2 v Q) : gd_G g mJ9_max_f86c9 d 0 0 0 [(0, zJ a0), (2, zJ a2)] [] v Q := by
  unfold wp_J9_max_f86c9 at h
  refine gd_lload_n 0 dJ9_max_f86c9_0 rfl rfl ?_
  refine gd_lload_n 1 dJ9_max_f86c9_1 rfl rfl ?_
  refine gd_lc_lt (tgt := 10) dJ9_max_f86c9_2 dJ9_max_f86c9_3 (by decide) (fun hc => ?_) (fun hc => ?_)
  · have h := h.1 hc
    refine gd_lload_n 1 dJ9_max_f86c9_10 rfl rfl ?_
    exact gd_lret dJ9_max_f86c9_11 rfl h
  · have h := h.2 hc
    refine gd_lload_n 0 dJ9_max_f86c9_6 rfl rfl ?_
    refine gd_goto (tgt := 11) dJ9_max_f86c9_7 (by decide) ?_
    exact gd_lret dJ9_max_f86c9_11 rfl h
theorem c_J9_max_f86c9 {g : ab_E} {d : Nat} {a0 : Int64} {a2 : Int64} {v : gd_D} {Q : ab_O → gd_D → Prop} (hd : 0 ≤ d) (h : wp_J9_max_f86c9 g d a0 a2 v Q) : gd_C g mJ9_max_f86c9 d 0 0 [zJ a0, zJ a2] v Q := gd_enterF (by decide +kernel) (Nat.le_of_ble_eq_true rfl) rfl (w_J9_max_f86c9 hd h)
def wp_J0_coder_7d493 (g : ab_E) (d : Nat) (a0 : Nat) (v : gd_D) (Q : ab_O → gd_D → Prop) : Prop :=
  (((1 : Int32) = 0) →
    Q (Sum.inl (some (zI 1))) v) ∧
  ((¬ (1 : Int32) = 0) →
    Q (Sum.inl (some (zI 0))) v)
theorem w_J0_coder_7d493 {g : ab_E} {d : Nat} {a0 : Nat} {v : gd_D} {Q : ab_O → gd_D → Prop} (hd : 0 ≤ d) (h : wp_J0_coder_7d493 g d a0 v Q) : gd_G g mJ0_coder_7d493 d 0 0 0 [(0, zR 100 a0)] [] v Q := by
  unfold wp_J0_coder_7d493 at h
  refine gd_compact fJ0_38 dJ0_coder_7d493_0 ?_
  refine gd_if_eq (tgt := 13) dJ0_coder_7d493_3 (by decide) (fun hc => ?_) (fun hc => ?_)
  · have h := h.1 hc
    refine gd_iconst (x9 := 1) dJ0_coder_7d493_13 (by decide) ?_
    exact gd_iret (ty := .byte) dJ0_coder_7d493_14 rfl rfl h
  · have h := h.2 hc
    refine gd_aload_n 0 dJ0_coder_7d493_6 rfl rfl ?_
    refine gd_strC (i := a0) fJ0_15 dJ0_coder_7d493_7 ?_
    refine gd_goto (tgt := 14) dJ0_coder_7d493_10 (by decide) ?_
    exact gd_iret (ty := .byte) dJ0_coder_7d493_14 rfl rfl h
theorem c_J0_coder_7d493 {g : ab_E} {d : Nat} {a0 : Nat} {v : gd_D} {Q : ab_O → gd_D → Prop} (hd : 0 ≤ d) (h : wp_J0_coder_7d493 g d a0 v Q) : gd_C g mJ0_coder_7d493 d 0 0 [zR 100 a0] v Q := gd_enterF (by decide +kernel) (Nat.le_of_ble_eq_true rfl) rfl (w_J0_coder_7d493 hd h)
def wp_J0_isLatin1_aae02 (g : ab_E) (d : Nat) (a0 : Nat) (v : gd_D) (Q : ab_O → gd_D → Prop) : Prop :=
  (((1 : Int32) = 0) →
    Q (Sum.inl (some (zI 0))) v) ∧
  ((¬ (1 : Int32) = 0) →
    ((¬ (0 : Int32) = 0) →
      Q (Sum.inl (some (zI 0))) v) ∧
    (((0 : Int32) = 0) →
      Q (Sum.inl (some (zI 1))) v))
theorem w_J0_isLatin1_aae02 {g : ab_E} {d : Nat} {a0 : Nat} {v : gd_D} {Q : ab_O → gd_D → Prop} (hd : 0 ≤ d) (h : wp_J0_isLatin1_aae02 g d a0 v Q) : gd_G g mJ0_isLatin1_aae02 d 0 0 0 [(0, zR 100 a0)] [] v Q := by
  unfold wp_J0_isLatin1_aae02 at h
  refine gd_compact fJ0_38 dJ0_isLatin1_aae02_0 ?_
  refine gd_if_eq (tgt := 17) dJ0_isLatin1_aae02_3 (by decide) (fun hc => ?_) (fun hc => ?_)
  · have h := h.1 hc
    refine gd_iconst (x9 := 0) dJ0_isLatin1_aae02_17 (by decide) ?_
    exact gd_iret (ty := .boolean) dJ0_isLatin1_aae02_18 rfl rfl h
  · have h := h.2 hc
    refine gd_aload_n 0 dJ0_isLatin1_aae02_6 rfl rfl ?_
    refine gd_strC (i := a0) fJ0_15 dJ0_isLatin1_aae02_7 ?_
    refine gd_if_ne (tgt := 17) dJ0_isLatin1_aae02_10 (by decide) (fun hc => ?_) (fun hc => ?_)
    · have h := h.1 hc
      refine gd_iconst (x9 := 0) dJ0_isLatin1_aae02_17 (by decide) ?_
      exact gd_iret (ty := .boolean) dJ0_isLatin1_aae02_18 rfl rfl h
    · have h := h.2 hc
      refine gd_iconst (x9 := 1) dJ0_isLatin1_aae02_13 (by decide) ?_
      refine gd_goto (tgt := 18) dJ0_isLatin1_aae02_14 (by decide) ?_
      exact gd_iret (ty := .boolean) dJ0_isLatin1_aae02_18 rfl rfl h
theorem c_J0_isLatin1_aae02 {g : ab_E} {d : Nat} {a0 : Nat} {v : gd_D} {Q : ab_O → gd_D → Prop} (hd : 0 ≤ d) (h : wp_J0_isLatin1_aae02 g d a0 v Q) : gd_C g mJ0_isLatin1_aae02 d 0 0 [zR 100 a0] v Q := gd_enterF (by decide +kernel) (Nat.le_of_ble_eq_true rfl) rfl (w_J0_isLatin1_aae02 hd h)
def wp_J0_length_8abf5 (g : ab_E) (d : Nat) (a0 : Nat) (v : gd_D) (Q : ab_O → gd_D → Prop) : Prop :=
  gd_C g mJ0_coder_7d493 2 0 0 [zR 100 a0] v (gd_rI (fun (r2 : Int32) v1 =>
    ∀ x3 : Int32, x3 = (Int32.ofNat (ab_tn.getD a0 0)) >>> (r2 &&& 31) →
    Q (Sum.inl (some (zI x3))) v1) (fun E v9 => Q (Sum.inr E) v9))
theorem w_J0_length_8abf5 {g : ab_E} {d : Nat} {a0 : Nat} {v : gd_D} {Q : ab_O → gd_D → Prop} (hd : 3 ≤ d) (h : wp_J0_length_8abf5 g d a0 v Q) : gd_G g mJ0_length_8abf5 d 0 0 0 [(0, zR 100 a0)] [] v Q := by
  unfold wp_J0_length_8abf5 at h
  refine gd_aload_n 0 dJ0_length_8abf5_0 rfl rfl ?_
  refine gd_strV (i := a0) fJ0_9 dJ0_length_8abf5_1 ?_
  refine gd_strA dJ0_length_8abf5_4 ?_
  refine gd_aload_n 0 dJ0_length_8abf5_5 rfl rfl ?_
  refine gd_callTI (As := []) (rest := [zI (Int32.ofNat (ab_tn.getD a0 0))]) (dy := 2) (my := 0) (sy := 0) (i := a0) lJ0_335 iJ0_coder_7d493 sJ0_coder_7d493 dJ0_length_8abf5_6 rfl rfl (gd_room (by omega) (by decide)) (by decide) (Nat.le_of_ble_eq_true rfl) h (fun r2 v1 h => ?_)
  refine gd_ishr dJ0_length_8abf5_9 ?_
  refine gd_nmI (fun x3 ex3 => ?_)
  have h := h x3 ex3
  exact gd_iret (ty := .int) dJ0_length_8abf5_10 rfl rfl h
theorem c_J0_length_8abf5 {g : ab_E} {d : Nat} {a0 : Nat} {v : gd_D} {Q : ab_O → gd_D → Prop} (hd : 3 ≤ d) (h : wp_J0_length_8abf5 g d a0 v Q) : gd_C g mJ0_length_8abf5 d 0 0 [zR 100 a0] v Q := gd_enterF (by decide +kernel) (Nat.le_of_ble_eq_true rfl) rfl (w_J0_length_8abf5 hd h)
def wp_J3_checkIndex_8e157_9 (g : ab_E) (d : Nat) (a0 : Int32) (a1 : Int32) (v : gd_D) (Q : ab_O → gd_D → Prop) : Prop :=
  False
theorem w_J3_checkIndex_8e157_9 {g : ab_E} {d : Nat} {a0 : Int32} {a1 : Int32} {v : gd_D} {Q : ab_O → gd_D → Prop} (hd : 0 ≤ d) (h : wp_J3_checkIndex_8e157_9 g d a0 a1 v Q) : gd_G g mJ3_checkIndex_8e157 d 0 0 9 [(0, zI a0), (1, zI a1), (2, sz g)] [] v Q := by
  unfold wp_J3_checkIndex_8e157_9 at h
  exact h.elim
def wp_J3_checkIndex_8e157 (g : ab_E) (d : Nat) (a0 : Int32) (a1 : Int32) (v : gd_D) (Q : ab_O → gd_D → Prop) : Prop :=
  (((a0 : Int32) < 0) →
    wp_J3_checkIndex_8e157_9 g d a0 a1 v Q) ∧
  ((¬ (a0 : Int32) < 0) →
    (((a0 : Int32) < a1) →
      Q (Sum.inl (some (zI a0))) v) ∧
    ((¬ (a0 : Int32) < a1) →
      wp_J3_checkIndex_8e157_9 g d a0 a1 v Q))
theorem w_J3_checkIndex_8e157 {g : ab_E} {d : Nat} {a0 : Int32} {a1 : Int32} {v : gd_D} {Q : ab_O → gd_D → Prop} (hd : 0 ≤ d) (h : wp_J3_checkIndex_8e157 g d a0 a1 v Q) : gd_G g mJ3_checkIndex_8e157 d 0 0 0 [(0, zI a0), (1, zI a1), (2, sz g)] [] v Q := by
  unfold wp_J3_checkIndex_8e157 at h
  refine gd_iload_n 0 dJ3_checkIndex_8e157_0 rfl rfl ?_
  refine gd_if_lt (tgt := 9) dJ3_checkIndex_8e157_1 (by decide) (fun hc => ?_) (fun hc => ?_)
  · have h := h.1 hc
    exact w_J3_checkIndex_8e157_9 (by omega) h
  · have h := h.2 hc
    refine gd_iload_n 0 dJ3_checkIndex_8e157_4 rfl rfl ?_
    refine gd_iload_n 1 dJ3_checkIndex_8e157_5 rfl rfl ?_
    refine gd_icmp_lt (tgt := 16) dJ3_checkIndex_8e157_6 (by decide) (fun hc => ?_) (fun hc => ?_)
    · have h := h.1 hc
      refine gd_iload_n 0 dJ3_checkIndex_8e157_16 rfl rfl ?_
      exact gd_iret (ty := .int) dJ3_checkIndex_8e157_17 rfl rfl h
    · have h := h.2 hc
      exact w_J3_checkIndex_8e157_9 (by omega) h
theorem c_J3_checkIndex_8e157 {g : ab_E} {d : Nat} {a0 : Int32} {a1 : Int32} {v : gd_D} {Q : ab_O → gd_D → Prop} (hd : 0 ≤ d) (h : wp_J3_checkIndex_8e157 g d a0 a1 v Q) : gd_C g mJ3_checkIndex_8e157 d 0 0 [zI a0, zI a1, sz g] v Q := gd_enterF (by decide +kernel) (Nat.le_of_ble_eq_true rfl) rfl (w_J3_checkIndex_8e157 hd h)
def wp_J0_checkIndex_df160 (g : ab_E) (d : Nat) (a0 : Int32) (a1 : Int32) (v : gd_D) (Q : ab_O → gd_D → Prop) : Prop :=
  gd_C g mJ3_checkIndex_8e157 2 0 0 [zI a0, zI a1, sz g] v (gd_rI (fun (r2 : Int32) v1 =>
    Q (Sum.inl none) v1) (fun E v9 => Q (Sum.inr E) v9))
theorem w_J0_checkIndex_df160 {g : ab_E} {d : Nat} {a0 : Int32} {a1 : Int32} {v : gd_D} {Q : ab_O → gd_D → Prop} (hd : 3 ≤ d) (h : wp_J0_checkIndex_df160 g d a0 a1 v Q) : gd_G g mJ0_checkIndex_df160 d 0 0 0 [(0, zI a0), (1, zI a1)] [] v Q := by
  unfold wp_J0_checkIndex_df160 at h
  refine gd_iload_n 0 dJ0_checkIndex_df160_0 rfl rfl ?_
  refine gd_iload_n 1 dJ0_checkIndex_df160_1 rfl rfl ?_
  refine gd_sioobe fJ0_1053 dJ0_checkIndex_df160_2 ?_
  refine gd_callSI (As := [zI a0, zI a1, sz g]) (rest := []) (dy := 2) (my := 0) (sy := 0) lJ0_1059 tJ3_checkIndex_8e157 dJ0_checkIndex_df160_5 rfl rfl (gd_room (by omega) (by decide)) (by decide) (Nat.le_of_ble_eq_true rfl) h (fun r2 v1 h => ?_)
  refine gd_pop dJ0_checkIndex_df160_8 rfl ?_
  exact gd_vret dJ0_checkIndex_df160_9 rfl h
theorem c_J0_checkIndex_df160 {g : ab_E} {d : Nat} {a0 : Int32} {a1 : Int32} {v : gd_D} {Q : ab_O → gd_D → Prop} (hd : 3 ≤ d) (h : wp_J0_checkIndex_df160 g d a0 a1 v Q) : gd_C g mJ0_checkIndex_df160 d 0 0 [zI a0, zI a1] v Q := gd_enterF (by decide +kernel) (Nat.le_of_ble_eq_true rfl) rfl (w_J0_checkIndex_df160 hd h)
def wp_J1_charAt_3b067 (g : ab_E) (d : Nat) (a0 : Nat) (a1 : Int32) (v : gd_D) (Q : ab_O → gd_D → Prop) : Prop :=
  gd_C g mJ0_checkIndex_df160 3 0 0 [zI a1, zI (Int32.ofNat (ab_tn.getD a0 0))] v (gd_rV (fun v1 =>
    vp_in a1 (ab_tn.getD a0 0) ∧
    ∀ x3 : Int32, x3 = ((ab_tb.getD a0 []).getD (a1 : Int32).toNatClampNeg 0) &&& 255 →
    narrow .char (.int (((x3 : Int32).toUInt32 % 65536).toInt32)) = .int (((x3 : Int32).toUInt32 % 65536).toInt32) ∧
    Q (Sum.inl (some (zI (((x3 : Int32).toUInt32 % 65536).toInt32)))) v1) (fun E v9 => Q (Sum.inr E) v9))
theorem w_J1_charAt_3b067 {g : ab_E} {d : Nat} {a0 : Nat} {a1 : Int32} {v : gd_D} {Q : ab_O → gd_D → Prop} (hd : 4 ≤ d) (h : wp_J1_charAt_3b067 g d a0 a1 v Q) : gd_G g mJ1_charAt_3b067 d 0 0 0 [(0, zR 102 a0), (1, zI a1)] [] v Q := by
  unfold wp_J1_charAt_3b067 at h
  refine gd_iload_n 1 dJ1_charAt_3b067_0 rfl rfl ?_
  refine gd_aload_n 0 dJ1_charAt_3b067_1 rfl rfl ?_
  refine gd_strA dJ1_charAt_3b067_2 ?_
  refine gd_callSV (As := [zI a1, zI (Int32.ofNat (ab_tn.getD a0 0))]) (rest := []) (dy := 3) (my := 0) (sy := 0) lJ1_9 tJ0_checkIndex_df160 dJ1_charAt_3b067_3 rfl rfl (gd_room (by omega) (by decide)) (by decide) (Nat.le_of_ble_eq_true rfl) h (fun v1 h => ?_)
  refine gd_aload_n 0 dJ1_charAt_3b067_6 rfl rfl ?_
  refine gd_iload_n 1 dJ1_charAt_3b067_7 rfl rfl ?_
  obtain ⟨hb, h⟩ := h
  refine gd_strB dJ1_charAt_3b067_8 hb ?_
  refine gd_sipush (x9 := 255) dJ1_charAt_3b067_9 (by decide) ?_
  refine gd_iand dJ1_charAt_3b067_12 ?_
  refine gd_nmI (fun x3 ex3 => ?_)
  have h := h x3 ex3
  refine gd_i2c dJ1_charAt_3b067_13 ?_
  obtain ⟨hn, h⟩ := h
  exact gd_iret (ty := .char) dJ1_charAt_3b067_14 rfl hn h
theorem c_J1_charAt_3b067 {g : ab_E} {d : Nat} {a0 : Nat} {a1 : Int32} {v : gd_D} {Q : ab_O → gd_D → Prop} (hd : 4 ≤ d) (h : wp_J1_charAt_3b067 g d a0 a1 v Q) : gd_C g mJ1_charAt_3b067 d 0 0 [zR 102 a0, zI a1] v Q := gd_enterF (by decide +kernel) (Nat.le_of_ble_eq_true rfl) rfl (w_J1_charAt_3b067 hd h)
def wp_J0_charAt_5068e (g : ab_E) (d : Nat) (a0 : Nat) (a1 : Int32) (v : gd_D) (Q : ab_O → gd_D → Prop) : Prop :=
  gd_C g mJ0_isLatin1_aae02 2 0 0 [zR 100 a0] v (gd_rI (fun (r2 : Int32) v1 =>
    (((r2 : Int32) = 0) →
      gd_C g mJ2_charAt_3b067 5 0 0 [zR 102 a0, zI a1] v1 (gd_rI (fun (r4 : Int32) v3 =>
        narrow .char (.int r4) = .int r4 ∧
        Q (Sum.inl (some (zI r4))) v3) (fun E v9 => Q (Sum.inr E) v9))) ∧
    ((¬ (r2 : Int32) = 0) →
      gd_C g mJ1_charAt_3b067 4 0 0 [zR 102 a0, zI a1] v1 (gd_rI (fun (r6 : Int32) v5 =>
        narrow .char (.int r6) = .int r6 ∧
        Q (Sum.inl (some (zI r6))) v5) (fun E v9 => Q (Sum.inr E) v9)))) (fun E v9 => Q (Sum.inr E) v9))
theorem w_J0_charAt_5068e {g : ab_E} {d : Nat} {a0 : Nat} {a1 : Int32} {v : gd_D} {Q : ab_O → gd_D → Prop} (hd : 6 ≤ d) (h : wp_J0_charAt_5068e g d a0 a1 v Q) : gd_G g mJ0_charAt_5068e d 0 0 0 [(0, zR 100 a0), (1, zI a1)] [] v Q := by
  unfold wp_J0_charAt_5068e at h
  refine gd_aload_n 0 dJ0_charAt_5068e_0 rfl rfl ?_
  refine gd_callTI (As := []) (rest := []) (dy := 2) (my := 0) (sy := 0) (i := a0) lJ0_492 iJ0_isLatin1_aae02 sJ0_isLatin1_aae02 dJ0_charAt_5068e_1 rfl rfl (gd_room (by omega) (by decide)) (by decide) (Nat.le_of_ble_eq_true rfl) h (fun r2 v1 h => ?_)
  refine gd_if_eq (tgt := 16) dJ0_charAt_5068e_4 (by decide) (fun hc => ?_) (fun hc => ?_)
  · have h := h.1 hc
    refine gd_aload_n 0 dJ0_charAt_5068e_16 rfl rfl ?_
    refine gd_strV (i := a0) fJ0_9 dJ0_charAt_5068e_17 ?_
    refine gd_iload_n 1 dJ0_charAt_5068e_20 rfl rfl ?_
    refine gd_callSI (As := [zR 102 a0, zI a1]) (rest := []) (dy := 5) (my := 0) (sy := 0) lJ0_498 tJ2_charAt_3b067 dJ0_charAt_5068e_21 rfl rfl (gd_room (by omega) (by decide)) (by decide) (Nat.le_of_ble_eq_true rfl) h (fun r4 v3 h => ?_)
    obtain ⟨hn, h⟩ := h
    exact gd_iret (ty := .char) dJ0_charAt_5068e_24 rfl hn h
  · have h := h.2 hc
    refine gd_aload_n 0 dJ0_charAt_5068e_7 rfl rfl ?_
    refine gd_strV (i := a0) fJ0_9 dJ0_charAt_5068e_8 ?_
    refine gd_iload_n 1 dJ0_charAt_5068e_11 rfl rfl ?_
    refine gd_callSI (As := [zR 102 a0, zI a1]) (rest := []) (dy := 4) (my := 0) (sy := 0) lJ0_495 tJ1_charAt_3b067 dJ0_charAt_5068e_12 rfl rfl (gd_room (by omega) (by decide)) (by decide) (Nat.le_of_ble_eq_true rfl) h (fun r6 v5 h => ?_)
    obtain ⟨hn, h⟩ := h
    exact gd_iret (ty := .char) dJ0_charAt_5068e_15 rfl hn h
theorem c_J0_charAt_5068e {g : ab_E} {d : Nat} {a0 : Nat} {a1 : Int32} {v : gd_D} {Q : ab_O → gd_D → Prop} (hd : 6 ≤ d) (h : wp_J0_charAt_5068e g d a0 a1 v Q) : gd_C g mJ0_charAt_5068e d 0 0 [zR 100 a0, zI a1] v Q := gd_enterF (by decide +kernel) (Nat.le_of_ble_eq_true rfl) rfl (w_J0_charAt_5068e hd h)
/-- min, max -/
theorem c_minI {g : ab_E} {d : Nat} {x y : Int32} {v : gd_D} {Q : ab_O → gd_D → Prop} (h : Q (Sum.inl (some (zI (if y < x then y else x)))) v) : gd_C g mJ9_min_7cf53 d 0 0 [zI x, zI y] v Q := c_J9_min_7cf53 (Nat.zero_le _) ⟨fun hc => by rw [if_pos hc] at h; exact h, fun hc => by rw [if_neg hc] at h; exact h⟩
theorem c_maxI {g : ab_E} {d : Nat} {x y : Int32} {v : gd_D} {Q : ab_O → gd_D → Prop} (h : Q (Sum.inl (some (zI (if x < y then y else x)))) v) : gd_C g mJ9_max_7cf53 d 0 0 [zI x, zI y] v Q := c_J9_max_7cf53 (Nat.zero_le _) ⟨fun hc => by rw [if_pos hc] at h; exact h, fun hc => by rw [if_neg hc] at h; exact h⟩
theorem c_minJ {g : ab_E} {d : Nat} {x y : Int64} {v : gd_D} {Q : ab_O → gd_D → Prop} (h : Q (Sum.inl (some (zJ (if y < x then y else x)))) v) : gd_C g mJ9_min_f86c9 d 0 0 [zJ x, zJ y] v Q := c_J9_min_f86c9 (Nat.zero_le _) ⟨fun hc => by rw [if_pos hc] at h; exact h, fun hc => by rw [if_neg hc] at h; exact h⟩
theorem c_maxJ {g : ab_E} {d : Nat} {x y : Int64} {v : gd_D} {Q : ab_O → gd_D → Prop} (h : Q (Sum.inl (some (zJ (if x < y then y else x)))) v) : gd_C g mJ9_max_f86c9 d 0 0 [zJ x, zJ y] v Q := c_J9_max_f86c9 (Nat.zero_le _) ⟨fun hc => by rw [if_pos hc] at h; exact h, fun hc => by rw [if_neg hc] at h; exact h⟩
/-- texts: all are short and plain -/
theorem tx_all : ∀ i, i < 14 → ab_tn.getD i 0 < 100 ∧ (Int32.ofNat (ab_tn.getD i 0) >>> ((0 : Int32) &&& 31)) = Int32.ofNat (ab_tn.getD i 0) ∧ ∀ b ∈ ab_tb.getD i [], ((b &&& 255).toUInt32 % 65536).toInt32 = b ∧ narrow .char (.int b) = .int b := by decide +kernel
theorem tx_len : ∀ i, i < 14 → ab_tn.getD i 0 = (ab_tb.getD i []).length := by decide +kernel
theorem tx_at {i k : Nat} (hi : i < 14) (hk : k < ab_tn.getD i 0) : (((ab_tb.getD i []).getD k 0 &&& 255).toUInt32 % 65536).toInt32 = (ab_tb.getD i []).getD k 0 ∧ narrow .char (.int ((ab_tb.getD i []).getD k 0)) = .int ((ab_tb.getD i []).getD k 0) := by
  rw [tx_len i hi] at hk
  have h := (tx_all i hi).2.2 ((ab_tb.getD i [])[k]) (List.getElem_mem hk)
  rw [List.getD_eq_getElem?_getD, List.getElem?_eq_getElem hk]
  exact h
theorem c_coder {g : ab_E} {d i : Nat} {v : gd_D} {Q : ab_O → gd_D → Prop} (h : Q (Sum.inl (some (zI 0))) v) : gd_C g mJ0_coder_7d493 d 0 0 [zR 100 i] v Q := c_J0_coder_7d493 (Nat.zero_le _) ⟨fun hc => absurd hc (by decide), fun _ => h⟩
theorem c_isLatin1 {g : ab_E} {d i : Nat} {v : gd_D} {Q : ab_O → gd_D → Prop} (h : Q (Sum.inl (some (zI 1))) v) : gd_C g mJ0_isLatin1_aae02 d 0 0 [zR 100 i] v Q := c_J0_isLatin1_aae02 (Nat.zero_le _) ⟨fun hc => absurd hc (by decide), fun _ => ⟨fun hc => absurd rfl hc, fun _ => h⟩⟩
theorem c_strlen {g : ab_E} {d i : Nat} {v : gd_D} {Q : ab_O → gd_D → Prop} (hd : 3 ≤ d) (hi : i < 14) (h : Q (Sum.inl (some (zI (Int32.ofNat (ab_tn.getD i 0))))) v) : gd_C g mJ0_length_8abf5 d 0 0 [zR 100 i] v Q := by
  refine c_J0_length_8abf5 hd (c_coder ?_)
  intro x3 hx3
  rw [(tx_all i hi).2.1] at hx3
  subst hx3
  exact h
theorem c_checkIx {g : ab_E} {d : Nat} {x n : Int32} {v : gd_D} {Q : ab_O → gd_D → Prop} (h0 : ¬ x < 0) (h1 : x < n) (h : Q (Sum.inl (some (zI x))) v) : gd_C g mJ3_checkIndex_8e157 d 0 0 [zI x, zI n, sz g] v Q := c_J3_checkIndex_8e157 (Nat.zero_le _) ⟨fun hc => absurd hc h0, fun _ => ⟨fun _ => h, fun hc => absurd h1 hc⟩⟩
theorem c_checkS {g : ab_E} {d : Nat} {x n : Int32} {v : gd_D} {Q : ab_O → gd_D → Prop} (hd : 3 ≤ d) (h0 : ¬ x < 0) (h1 : x < n) (h : Q (Sum.inl none) v) : gd_C g mJ0_checkIndex_df160 d 0 0 [zI x, zI n] v Q := c_J0_checkIndex_df160 hd (c_checkIx h0 h1 h)
theorem c_latinAt {g : ab_E} {d i : Nat} {x : Int32} {v : gd_D} {Q : ab_O → gd_D → Prop} (hd : 4 ≤ d) (hi : i < 14) (hx : vp_in x (ab_tn.getD i 0)) (h : Q (Sum.inl (some (zI ((ab_tb.getD i []).getD x.toNatClampNeg 0)))) v) : gd_C g mJ1_charAt_3b067 d 0 0 [zR 102 i, zI x] v Q := by
  obtain ⟨j, hj, rfl⟩ := vp_in_of hx (by have := (tx_all i hi).1; omega)
  have hn := (tx_all i hi).1
  refine c_J1_charAt_3b067 hd (c_checkS (by decide) (nI_pos (by omega)) (nI_lt hj (by omega)) ⟨hx, ?_⟩)
  rw [nI_clamp (by omega)] at h ⊢
  obtain ⟨e1, e2⟩ := tx_at hi hj
  intro x1 hx1
  subst hx1
  rw [e1]
  exact ⟨e2, h⟩
theorem c_charAt {g : ab_E} {d i : Nat} {x : Int32} {v : gd_D} {Q : ab_O → gd_D → Prop} (hd : 6 ≤ d) (hi : i < 14) (hx : vp_in x (ab_tn.getD i 0)) (h : Q (Sum.inl (some (zI ((ab_tb.getD i []).getD x.toNatClampNeg 0)))) v) : gd_C g mJ0_charAt_5068e d 0 0 [zR 100 i, zI x] v Q := by
  refine c_J0_charAt_5068e hd (c_isLatin1 ⟨fun hc => absurd hc (by decide), fun _ => c_latinAt (by decide) hi hx ⟨?_, h⟩⟩)
  obtain ⟨j, hj, rfl⟩ := vp_in_of hx (by have := (tx_all i hi).1; omega)
  have hn := (tx_all i hi).1
  rw [nI_clamp (by omega)]
  exact (tx_at hi hj).2
theorem gd_strlen {g : ab_E} {M : ab_M} {d bc bs pc : Nat} {L : List (Nat × ab_V)} {st : List ab_V} {v : gd_D} {Q : ab_O → gd_D → Prop} {i idx : Nat} (hl : ab_ml M.1.cls idx mJ0_length_8abf5 0) (hd : decode M.2.1 pc = .ok (.invokevirtual idx, 3)) (hz : ab_sz st ≤ 8) (hdd : 8 ≤ d) (kk : gd_G g M d bc bs (pc + 3) L (zI (Int32.ofNat (ab_tn.getD i 0)) :: st) v Q) : gd_G g M d bc bs pc L (zR 100 i :: st) v Q := by
  intro Z p e R s m args below meth c mc ms X φ0 w0 φ H locs cells slots ls F
  have hi : i < 14 := F.2.2.2.2.2.2 _ List.mem_cons_self 100 i rfl
  exact (gd_callTI (K := fun r v9 => gd_G g M d bc bs (pc + 3) L (zI r :: st) v9 Q) (As := []) (rest := st) (dy := 3) (my := 0) (sy := 0) (i := i) hl iJ0_length_8abf5 sJ0_length_8abf5 hd rfl rfl (gd_room (by omega) (by decide)) ⟨Nat.zero_le _, Nat.zero_le _⟩ hz (c_strlen (by decide) hi kk) (fun _ _ h => h)) Z p e R s m args below meth c mc ms X φ0 w0 φ H locs cells slots ls F
theorem gd_strch {g : ab_E} {M : ab_M} {d bc bs pc : Nat} {L : List (Nat × ab_V)} {st : List ab_V} {v : gd_D} {Q : ab_O → gd_D → Prop} {i idx : Nat} {x : Int32} (hl : ab_ml M.1.cls idx mJ0_charAt_5068e 1) (hd : decode M.2.1 pc = .ok (.invokevirtual idx, 3)) (hz : ab_sz st ≤ 8) (hdd : 8 ≤ d) (hx : vp_in x (ab_tn.getD i 0)) (kk : gd_G g M d bc bs (pc + 3) L (zI ((ab_tb.getD i []).getD x.toNatClampNeg 0) :: st) v Q) : gd_G g M d bc bs pc L (zI x :: zR 100 i :: st) v Q := by
  intro Z p e R s m args below meth c mc ms X φ0 w0 φ H locs cells slots ls F
  have hi : i < 14 := F.2.2.2.2.2.2 _ (List.mem_cons_of_mem _ List.mem_cons_self) 100 i rfl
  exact (gd_callTI (K := fun r v9 => gd_G g M d bc bs (pc + 3) L (zI r :: st) v9 Q) (As := [zI x]) (rest := st) (dy := 6) (my := 0) (sy := 0) (i := i) hl iJ0_charAt_5068e sJ0_charAt_5068e hd rfl rfl (gd_room (by omega) (by decide)) ⟨Nat.zero_le _, Nat.zero_le _⟩ hz (c_charAt (by decide) hi hx kk) (fun _ _ h => h)) Z p e R s m args below meth c mc ms X φ0 w0 φ H locs cells slots ls F
