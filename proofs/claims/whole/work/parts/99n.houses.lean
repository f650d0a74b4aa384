/-! THE HOUSE AND THE HISTORY ARE MADE -/
def x2c (c : Nat → Nat) : Nat → Nat := kw_n (kw_n (kw_u (kw_u c 13) 14) 0 8) 9 24
theorem kw_le_x2 {v c : Nat → Nat} (h : ∀ a, v a ≤ c a) : ∀ a, v a ≤ x2c c a := kw_le_n (kw_le_n (kw_le_u (kw_le_u h)))
theorem kw_blank' {w : ab_W} {k2 i2 : Nat} (hc : w.2.2.2.1 k2 = i2) : kw_b (ab_na w k2 0) k2 i2 := hc ▸ kw_blank
section IH2
variable {g : ab_E} {d h L : Nat} {xs : Nat → Int32} {w : ab_W} {f : Nat → Option Nat}
theorem n_X2 (hd : 2 ≤ d) (hb : kw_b w 2 h) (h13 : w.2.2.2.1 13 = h) (h14 : w.2.2.2.1 14 = h) (h0 : w.2.2.2.1 0 = 8 * h) (h9 : w.2.2.2.1 9 = 24 * h) (h15 : 0 < w.2.2.2.1 15) :
    ab_C g mX2_init d 34 296 [zR 2 h] w (ab_gives (kw_e (kw_tR (T0 xs L) 12 0 f) w 2 h (x2c w.2.2.2.1))) := by
  refine ab_enter (by decide) (Nat.le_of_ble_eq_true rfl) rfl ?_
  refine ab_G.re (kw_begin (T := kw_tR (kw_tR (kw_tR (T0 xs L) 12 0 f) 14 h (kw_p (24 * h) 0)) 13 h (kw_p (8 * h) 0)) hb) ?_
  refine ab_aload_n 0 dX2_init_0 rfl rfl (ab_objInit koX2 dX2_init_1 (by omega) (Nat.le_of_ble_eq_true rfl) ?_)
  refine ab_aload_n 0 dX2_init_4 rfl rfl (ab_bipush (v := 8) dX2_init_5 (by decide) ?_)
  refine kw_newq (k2 := 13) (i2 := h) (N := 8) (C := RX0) ⟨by decide, by decide⟩ rfl knX2_9 kaX0 (by decide) dX2_init_7 (by decide) (by decide) (by decide) ⟨Nat.le_of_ble_eq_true rfl, Nat.le_of_ble_eq_true rfl⟩ (by decide) h13 kw_le_rf ⟨fun _ => rfl, fun _ => rfl, fun j => (if_pos ⟨rfl, rfl⟩).trans (if_neg (Nat.not_lt_zero _)), rfl⟩ ?_
  refine kw_putF fX2_11 rfl rfl rfl rfl rfl dX2_init_10 ?_
  refine ab_aload_n 0 dX2_init_13 rfl rfl (ab_bipush (v := 24) dX2_init_14 (by decide) ?_)
  refine kw_newq (k2 := 14) (i2 := h) (N := 24) (C := RX9) ⟨by decide, by decide⟩ rfl knX2_17 kaX9 (by decide) dX2_init_16 (by decide) (by decide) (by decide) ⟨Nat.le_of_ble_eq_true rfl, Nat.le_of_ble_eq_true rfl⟩ (by decide) h14 (kw_le_u kw_le_rf) ⟨fun _ => rfl, fun _ => rfl, fun j => (if_pos ⟨rfl, rfl⟩ : (if 14 = 14 ∧ h = h then kw_p (24 * h) 0 j else _) = _).trans (if_neg (Nat.not_lt_zero _)), rfl⟩ ?_
  refine kw_putF fX2_19 rfl rfl rfl rfl rfl dX2_init_19 ?_
  refine ab_aload_n 0 dX2_init_22 rfl rfl (ab_norule (List.mem_of_getElem? (i := 164) (by decide +kernel)) h15 dX2_init_23 (kw_putR fX2_27 rfl rfl rfl dX2_init_26 ?_))
  refine ab_iconst (v := nI 0) dX2_init_29 (by decide) (ab_istore_n dX2_init_30 rfl (by decide) rfl ?_)
  have A := n_X2a (g := g) (d := d) (w := w) (h := h) (c := kw_u (kw_u w.2.2.2.1 13) 14) (T := kw_tR (kw_tR (T0 xs L) 12 0 f) 14 h (kw_p (24 * h) 0)) (fI := fun _ => 0) (fJ := fun _ => 0) (fR := kw_f (kw_f (kw_f (fun _ => none) 0 (some h)) 1 (some h)) 10 (some 0)) (Q := ab_gives (kw_e (kw_tR (T0 xs L) 12 0 f) w 2 h (x2c w.2.2.2.1))) (B := 24) (S := 216)
    hd hb.1 (by omega) h0 (kw_le_u (kw_le_u kw_le_rf)) (fun b f => ⟨fun _ => rfl, fun _ => rfl, fun _ => rfl, rfl⟩) rfl rfl ?_ 8 0 (34 - 1 - 1) (296 - 8 - 24) rfl (by decide) (by decide)
  · rw [kw_n0] at A
    exact A
  intro bc bs hc1 hc2
  rw [kw_tR_id (T := kw_tR (kw_tR (T0 xs L) 12 0 f) 14 h (kw_p (24 * h) 0)) (k := 13) (i := h) (f := kw_p (8 * h) 8) (fun j => rfl)]
  refine ab_iconst (v := nI 0) dX2_init_56 (by decide) (ab_istore_n dX2_init_57 rfl (by decide) rfl ?_)
  have A2 := n_X2b (g := g) (d := d) (w := w) (h := h) (c := kw_n (kw_u (kw_u w.2.2.2.1 13) 14) 0 8) (T := kw_tR (T0 xs L) 12 0 f) (fI := fun _ => 0) (fJ := fun _ => 0) (fR := kw_f (kw_f (kw_f (fun _ => none) 0 (some h)) 1 (some h)) 10 (some 0)) (Q := ab_gives (kw_e (kw_tR (T0 xs L) 12 0 f) w 2 h (x2c w.2.2.2.1))) (B := 0) (S := 0)
    hd hb.1 (by omega) h9 (kw_le_n (kw_le_u (kw_le_u kw_le_rf))) (fun b f => ⟨fun _ => rfl, fun _ => rfl, fun _ => rfl, rfl⟩) rfl rfl ?_ 24 0 bc bs rfl (by omega) (by omega)
  · rw [kw_n0] at A2
    exact A2
  intro bc bs hc1 hc2
  rw [kw_tR_id (T := kw_tR (T0 xs L) 12 0 f) (k := 14) (i := h) (f := kw_p (24 * h) 24) (fun j => rfl)]
  refine ab_aload_n 1 dX2_init_83 rfl rfl ?_
  refine ab_callV (As := []) (rest := []) (k := 2) (i := h) (dy := 1) (my := 0) (sy := 0) lX2_32 iX2_empty sX2_empty rfl dX2_init_84 rfl rfl ⟨by omega, by show 8 + (1 + 11) + 60 * 1 ≤ 60 * d; omega⟩ ⟨Nat.zero_le _, Nat.zero_le _⟩ (Nat.le_of_ble_eq_true rfl) (n_X2e h15) (ab_gives_k ?_) (fun E u h => by obtain ⟨h1, -⟩ := h; cases h1)
  refine kw_ret dX2_init_87 rfl (fun j => ?_) (fun j => ?_) (fun j => ?_)
  · show _ = (match j with | 5 => (100 : Int32) | 7 => 1 | 8 => 4 | _ => 0)
    split
    · rfl
    · rfl
    · rfl
    · simp_all [kw_f]
  · show kw_f (fun _ => 0) 9 0 j = 0
    unfold kw_f
    split <;> rfl
  · show _ = (match j with | 0 => some h | 1 => some h | 10 => some 0 | _ => none)
    split
    · rfl
    · rfl
    · rfl
    · simp_all [kw_f]
theorem n_X2' (hd : 2 ≤ d) (hb : kw_b w 2 h) (h13 : w.2.2.2.1 13 = h) (h14 : w.2.2.2.1 14 = h) (h0 : w.2.2.2.1 0 = 8 * h) (h9 : w.2.2.2.1 9 = 24 * h) (h15 : 0 < w.2.2.2.1 15) :
    ab_C g mX2_init d 34 296 [zR 2 h] w (ab_gives (kw_e (T0 xs L) w 2 h (x2c w.2.2.2.1))) := by
  have := n_X2 (g := g) (f := (T0 xs L).2.2.1 12 0) (xs := xs) (L := L) hd hb h13 h14 h0 h9 h15
  rw [kw_tR_id (fun _ => rfl)] at this
  exact this
/-- n houses more -/
def x1c (c : Nat → Nat) (n : Nat) : Nat → Nat := fun a => if a = 2 then c 2 + n else if a = 0 then c 0 + 8 * n else if a = 9 then c 9 + 24 * n else if a = 13 then c 13 + n else if a = 14 then c 14 + n else c a
theorem x1c_0 {c : Nat → Nat} : x1c c 0 = c := by
  funext a
  unfold x1c
  repeat' split
  all_goals first | (subst_vars; rfl) | rfl
theorem x1c_s {c : Nat → Nat} {n : Nat} : x2c (kw_u (x1c c n) 2) = x1c c (n + 1) := by
  funext a
  by_cases e2 : a = 2
  · subst e2; rfl
  by_cases e0 : a = 0
  · subst e0; show c 0 + 8 * n + 8 = c 0 + 8 * (n + 1); omega
  by_cases e9 : a = 9
  · subst e9; show c 9 + 24 * n + 24 = c 9 + 24 * (n + 1); omega
  by_cases e13 : a = 13
  · subst e13; rfl
  by_cases e14 : a = 14
  · subst e14; rfl
  simp [x2c, kw_u, kw_n, x1c, e2, e0, e9, e13, e14]
theorem kw_le_x1 {v c : Nat → Nat} {n : Nat} (h : ∀ a, v a ≤ c a) : ∀ a, v a ≤ x1c c n a := fun a => by
  unfold x1c
  have := h a
  repeat' split
  all_goals first | (subst_vars; omega) | exact this
theorem n_X1a (hd : 3 ≤ d) (hb : 0 < w.2.2.2.1 1) (h12 : w.2.2.2.1 12 = 0) (h2 : w.2.2.2.1 2 = 1) (h0 : w.2.2.2.1 0 = 8) (h9 : w.2.2.2.1 9 = 24) (h13 : w.2.2.2.1 13 = 1) (h14 : w.2.2.2.1 14 = 1) (h15 : 0 < w.2.2.2.1 15) :
    ∀ (r n bc bs : Nat), n + r = 8 → 35 * r ≤ bc → 307 * r ≤ bs → ab_G g mX1_init d bc bs 15 [(1, zI (nI n)), (0, zR 1 0)] [] (kw (kw_tR (T0 xs L) 12 0 (kw_p 1 n)) w 1 0 (x1c (kw_u w.2.2.2.1 12) n) (fun _ => 0) (fun _ => 0) (kw_f (fun _ => none) 0 (some 0))) (ab_gives (kw_e (T0 xs L) w 1 0 (x1c (kw_u w.2.2.2.1 12) 8))) := by
  intro r
  induction r with
  | zero =>
    intro n bc bs hn h1 h3
    obtain rfl : n = 8 := by omega
    refine ab_iload_n 0 dX1_init_15 rfl rfl (ab_bipush (v := nI 8) dX1_init_16 (by decide) (ab_icmp_ge dX1_init_18 (tgt := 40) (by decide) (fun _ => ?_) (fun q => absurd (nI_le (Nat.le_refl 8) (by decide)) q)))
    rw [kw_tR_id (T := T0 xs L) (k := 12) (i := 0) (f := kw_p 1 8) (fun j => rfl)]
    refine kw_ret dX1_init_40 rfl (fun j => rfl) (fun j => rfl) (fun j => ?_)
    show _ = (match j with | 0 => some 0 | _ => none)
    split
    · rfl
    · simp_all [kw_f]
  | succ r ih =>
    intro n bc bs hn h1 h3
    refine ab_iload_n 0 dX1_init_15 rfl rfl (ab_bipush (v := nI 8) dX1_init_16 (by decide) (ab_icmp_ge dX1_init_18 (tgt := 40) (by decide) (fun q => absurd q (nI_ge (by omega) (by decide))) (fun _ => ?_)))
    refine ab_aload_n 1 dX1_init_21 rfl rfl (kw_getR fX1_11 rfl rfl dX1_init_22 rfl (ab_iload_n 0 dX1_init_25 rfl rfl ?_))
    have e2 : x1c (kw_u w.2.2.2.1 12) n 2 = 1 + n := by show w.2.2.2.1 2 + n = 1 + n; omega
    refine kw_make (k2 := 2) (i2 := 1 + n) (dy := 2) (my := 34) (sy := 296) (c' := x2c (kw_u (x1c (kw_u w.2.2.2.1 12) n) 2)) kcX2 knX1_9 dX1_init_26 dX1_init_29 dX1_init_30 (Or.inr lX1_17) rfl kiX2 ⟨by omega, by omega⟩ ⟨⟨by omega, by omega⟩, by omega, by omega⟩ (Nat.le_of_ble_eq_true rfl) hb (kw_le_x1 (kw_le_u kw_le_rf)) e2 rfl (n_X2 (by decide) (kw_blank' e2) ?_ ?_ ?_ ?_ h15) ?_
    · show w.2.2.2.1 13 + n = 1 + n; omega
    · show w.2.2.2.1 14 + n = 1 + n; omega
    · show w.2.2.2.1 0 + 8 * n = 8 * (1 + n); omega
    · show w.2.2.2.1 9 + 24 * n = 24 * (1 + n); omega
    have h12' : w.2.2.2.1 12 ≤ 0 := by omega
    refine ab_aastore (k := 12) (i := 0) (n := 8) (kr := 2) (C := "FailDesk$House") ⟨by decide, by decide⟩ rfl (fun _ => rfl) rfl rfl dX1_init_33 ((if_pos h12').trans rfl) (vp_in_nI (by omega) (by decide)) ?_
    rw [nI_clamp (by omega), kw_stR h12' (by omega), kw_p_s, x1c_s]
    refine ab_iinc 0 (v := nI (n + 1)) dX1_init_34 rfl (nI_1 n) (by decide) rfl (ab_goto dX1_init_37 (tgt := 15) (by decide) ?_)
    exact ih (n + 1) _ _ (by omega) (by omega) (by omega)
theorem n_X1 (hd : 3 ≤ d) (hb : kw_b w 1 0) (h12 : w.2.2.2.1 12 = 0) (h2 : w.2.2.2.1 2 = 1) (h0 : w.2.2.2.1 0 = 8) (h9 : w.2.2.2.1 9 = 24) (h13 : w.2.2.2.1 13 = 1) (h14 : w.2.2.2.1 14 = 1) (h15 : 0 < w.2.2.2.1 15) :
    ab_C g mX1_init d 281 2464 [zR 1 0] w (ab_gives (kw_e (T0 xs L) w 1 0 (x1c (kw_u w.2.2.2.1 12) 8))) := by
  refine ab_enter (by decide) (Nat.le_of_ble_eq_true rfl) rfl ?_
  refine ab_G.re (kw_begin (T := kw_tR (T0 xs L) 12 0 (kw_p 1 0)) hb) ?_
  refine ab_aload_n 0 dX1_init_0 rfl rfl (ab_objInit koX1 dX1_init_1 (by omega) (Nat.le_of_ble_eq_true rfl) ?_)
  refine ab_aload_n 0 dX1_init_4 rfl rfl (ab_bipush (v := 8) dX1_init_5 (by decide) ?_)
  refine kw_newq (k2 := 12) (i2 := 0) (N := 8) (C := RX2) ⟨by decide, by decide⟩ rfl knX1_9 kaX2 (by decide) dX1_init_7 (by decide) (by decide) (by decide) ⟨Nat.le_of_ble_eq_true rfl, Nat.le_of_ble_eq_true rfl⟩ (by decide) h12 kw_le_rf ⟨fun _ => rfl, fun _ => rfl, fun j => (show kw_p 1 0 j = none from if_neg (Nat.not_lt_zero _)), rfl⟩ ?_
  refine kw_putF fX1_11 rfl rfl rfl rfl rfl dX1_init_10 ?_
  refine ab_iconst (v := nI 0) dX1_init_13 (by decide) (ab_istore_n dX1_init_14 rfl (by decide) rfl ?_)
  have A := n_X1a (g := g) (d := d) (w := w) (xs := xs) (L := L) hd hb.1 h12 h2 h0 h9 h13 h14 h15 8 0 (281 - 1) (2464 - 8) rfl (by decide) (by decide)
  rw [x1c_0] at A
  exact A
end IH2
