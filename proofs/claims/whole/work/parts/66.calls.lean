/-! THE CALLS: mean -/
def hvn (H : hs_T) : Nat → Nat
  | 0 => 0
  | n + 1 => hvn H n + if hq H n then Hs H n 3 * Hs H n 5 else 0
theorem hvn_hv (H : hs_T) : ∀ n, hv H n = lN (hvn H n)
  | 0 => rfl
  | n + 1 => by
    show hv H n + _ = lN (hvn H n + _)
    rw [hvn_hv H n, ← lN_add]
    congr 1
    split
    · exact lN_mul _ _
    · rfl
theorem hvn_le {H : hs_T} (hW : hs_W H) : ∀ n, n ≤ Hh H 1 → hu H none none n ≤ hvn H n ∧ hvn H n ≤ 10000000 * n
  | 0, _ => ⟨Nat.le_refl 0, Nat.le_refl 0⟩
  | n + 1, h => by
    obtain ⟨h1, h2⟩ := hvn_le hW n (by omega)
    obtain ⟨s1, s2, s0, s3, s4, s5, s6⟩ := hW.2.2.2.2.2.2.2.2.1 n (by omega)
    show hu H none none n + (if hq H n && (true && true) then Hs H n 5 else 0) ≤ hvn H n + (if hq H n then Hs H n 3 * Hs H n 5 else 0) ∧ hvn H n + (if hq H n then Hs H n 3 * Hs H n 5 else 0) ≤ _
    have e : (hq H n && (true && true)) = hq H n := by cases hq H n <;> rfl
    rw [e]
    have m1 : 1 * Hs H n 5 ≤ Hs H n 3 * Hs H n 5 := Nat.mul_le_mul_right _ s4.1
    have m2 : Hs H n 3 * Hs H n 5 ≤ 10000 * 1000 := Nat.mul_le_mul s4.2 (by omega)
    split <;> omega
noncomputable def mnv (H : hs_T) : Int64 := if hu H none none (Hh H 1) = 0 then 0 else (FP.ddiv (UInt64.ofNat (FP.Core.fromInt FP.Core.b64 (hvn H (Hh H 1) : Int))) (UInt64.ofNat (FP.Core.fromInt FP.Core.b64 (hu H none none (Hh H 1) : Int)))).toInt64
theorem fp_l2d {V : Nat} (h : V < 2 ^ 63) : FP.l2d (lN V) = UInt64.ofNat (FP.Core.fromInt FP.Core.b64 (V : Int)) := by
  show UInt64.ofNat (FP.Core.fromInt FP.Core.b64 (lN V).toInt) = _
  rw [pk_lT h]
theorem fp_i2d {V : Nat} (h : V < 2 ^ 31) : FP.i2d (nI V) = UInt64.ofNat (FP.Core.fromInt FP.Core.b64 (V : Int)) := by
  show UInt64.ofNat (FP.Core.fromInt FP.Core.b64 (nI V).toInt) = _
  rw [nI_toInt h]
section CMN
variable {g : ab_E} {d : Nat} {v : gd_D} {Q : ab_O → gd_D → Prop} {S : gs_T}
theorem k_bitsOf {E t : Nat} (h1 : 1023 ≤ E) (h2 : E ≤ 1086) (ht : t < 4503599627370496) (hQ : Q (Sum.inl (some (zJ (lN (E * 4503599627370496 + t))))) v) : gd_C g mX10_bitsOf d 0 0 [zD (UInt64.ofNat (E * 4503599627370496 + t))] v Q := by
  refine c_X10_bitsOf (Nat.zero_le _) ?_
  have key : ∀ k i, 1023 + k + i = E → gd_G g mX10_bitsOf d 0 0 8 [(2, zD (UInt64.ofNat ((1023 + k) * 4503599627370496 + t))), (4, zI (nI i)), (5, zI (nI i))] [] v Q := by
    intro k
    induction k with
    | zero =>
      intro i hi
      refine w_X10_bitsOf_8 (Nat.zero_le _) (pk_le 64 i (fun q => absurd q (by omega)) (fun _ => ?_) rfl rfl (by omega) (by omega))
      rintro _ rfl
      have hc := fp_cmp (E := 1023 + 0) (t := t) (by omega) (by omega) ht
      refine ⟨fun _ => ?_, fun q => absurd (hc.mpr rfl) q⟩
      show wp_X10_bitsOf_38 g d (UInt64.ofNat (1023 * 4503599627370496 + t)) (nI i) v Q
      unfold wp_X10_bitsOf_38
      rw [fp_mul ht, fp_d2l ht]
      refine ⟨fp_n (by omega) ht, ?_⟩
      rintro _ rfl _ rfl
      rw [nu_I 1023, nI_add, nu_l (by omega), show Nat.toInt64 52 = (52 : Int32).toInt64 from by decide, fp_shl _ (by omega), nu_J 4503599627370496, lN_sub (by omega), lN_add, Nat.add_sub_cancel_left]
      have e : E = i + 1023 := by omega
      rw [e] at hQ
      exact hQ
    | succ k ih =>
      intro i hi
      refine w_X10_bitsOf_8 (Nat.zero_le _) (pk_le 64 i (fun q => absurd q (by omega)) (fun _ => ?_) rfl rfl (by omega) (by omega))
      rintro _ rfl
      have hc := fp_cmp (E := 1023 + (k + 1)) (t := t) (by omega) (by omega) ht
      refine ⟨fun q => absurd (hc.mp q) (by omega), fun _ => ?_⟩
      rw [fp_half (by omega) (by omega) ht, nu_1, show 1023 + (k + 1) - 1 = 1023 + k by omega]
      exact ⟨fp_n (by omega) ht, ih (i + 1) (by omega)⟩
  have e : 1023 + (E - 1023) = E := by omega
  have := key (E - 1023) 0 (by omega)
  rw [e] at this
  exact this
theorem fp_i64 (n : Nat) : (UInt64.ofNat n).toInt64 = lN n := rfl
theorem k_mean (hd : 4 ≤ d) (hG : gc_R v S) (hS : gs_ok S) (h : Q (Sum.inl (some (zJ (mnv S.1)))) v) : gd_C g mX10_mean d 0 0 [zR 10 0] v Q := by
  have h24 := hS.1.2.1
  have hul := hu_le (a := none) (b := none) hS.1 (Hh S.1 1) (Nat.le_refl _)
  obtain ⟨v1, v2⟩ := hvn_le hS.1 (Hh S.1 1) (Nat.le_refl _)
  refine c_X10_mean hd (k_unitsOf (a := none) (b := none) (fun z hz => by cases hz) (fun z hz => by cases hz) (Nat.le_refl 3) hG.1 hS.1 ?_)
  rw [gd_rI_at]
  unfold mnv at h
  refine pk_lt 0 (hu S.1 none none (Hh S.1 1)) (fun hpos => k_valueOf (Nat.le_refl 3) hG.1 hS.1 ?_) (fun hz => ?_) rfl rfl (by omega) (by omega)
  · rw [gd_rJ_at, hvn_hv, fp_l2d (by omega), fp_i2d (by omega)]
    rw [if_neg (by omega)] at h
    obtain ⟨E, t, e, ht, hE1, hE2⟩ := fp_mean (V := hvn S.1 (Hh S.1 1)) (U := hu S.1 none none (Hh S.1 1)) (by omega) v1 (by omega)
    rw [e, fp_i64] at h
    rw [e]
    exact ⟨fp_n (by omega) ht, k_bitsOf hE1 hE2 ht h⟩
  · rw [if_pos (by omega)] at h
    exact h
theorem rr_mean (hd : 4 ≤ d) (hG : gr_R v S) (hS : gs_ok S) (h : ∀ v', fre v v' → gr_R v' S → Q (Sum.inl (some (zJ (mnv S.1)))) v') : gd_C g mX11_mean d 0 0 [zR 11 0] v Q := by
  have h24 := hS.1.2.1
  obtain ⟨b1, b2', b3⟩ := gr_begin hG
  have hqq := h _ b2' b1
  have hul := hu_le (a := none) (b := none) hS.1 (Hh S.1 1) (Nat.le_refl _)
  obtain ⟨v1, v2⟩ := hvn_le hS.1 (Hh S.1 1) (Nat.le_refl _)
  refine c_X11_mean (Nat.zero_le _) ?_
  rintro _ rfl
  have key : ∀ k i, i + k = Hh S.1 1 → gd_G g mX11_mean d 0 0 12 [(0, zR 11 0), (1, zJ (lN (hvn S.1 i))), (3, zJ (lN (hu S.1 none none i))), (5, zI (nI i))] [] (gd_sI v 11 0 0 0) Q := by
    intro k
    induction k with
    | zero =>
      intro i hi
      have e : i = Hh S.1 1 := by omega
      subst e
      refine w_X11_mean_12 (by omega) (r_sales b1.1 (pk_le (Hh S.1 1) (Hh S.1 1) (fun _ => ?_) (fun q => absurd q (Nat.lt_irrefl _)) rfl rfl (by omega) (by omega)))
      unfold mnv at hqq
      rw [fp_l2d (by omega), fp_l2d (by omega)]
      refine ⟨fun hne => ?_, fun hz => ?_⟩
      · have hpos : ¬ hu S.1 none none (Hh S.1 1) = 0 := fun q => hne (by rw [q]; rfl)
        rw [if_neg hpos] at hqq
        obtain ⟨E, t, e, ht, hE1, hE2⟩ := fp_mean (V := hvn S.1 (Hh S.1 1)) (U := hu S.1 none none (Hh S.1 1)) (by omega) v1 (by omega)
        rw [e] at hqq
        rw [e]
        exact ⟨fp_n (by omega) ht, c_d2lb (by decide) (fp_self (by omega) (by omega) ht) hqq⟩
      · have hz' : hu S.1 none none (Hh S.1 1) = 0 := (lN_eq (by omega) (by omega)).mp hz
        rw [if_pos hz'] at hqq
        exact c_d2lb (by decide) (by decide +kernel) hqq
    | succ k ih =>
      intro i hi
      have hlt : i < Hh S.1 1 := by omega
      have h5 := hS.1.V.five hlt
      have s4 := (hS.1.2.2.2.2.2.2.2.2.1 i hlt).2.2.2.2.1
      have ih1 := ih (i + 1) (by omega)
      refine w_X11_mean_12 (by omega) (r_sales b1.1 (pk_le (Hh S.1 1) i (fun q => absurd q (by omega)) (fun _ => r_isAsked (Nat.le_refl 3) b1.1 hS.1 hlt ?_) rfl rfl (by omega) (by omega)))
      cases hq1 : hq S.1 i with
      | false =>
        have e1 : hvn S.1 (i + 1) = hvn S.1 i := by show hvn S.1 i + (if hq S.1 i then _ else 0) = _; rw [hq1]; rfl
        have e2 : hu S.1 none none (i + 1) = hu S.1 none none i := by show hu S.1 none none i + (if hq S.1 i && _ then _ else 0) = _; rw [hq1]; rfl
        rw [e1, e2] at ih1
        rw [gd_rI_at, nu_1]
        exact ⟨fun z => absurd rfl z, fun _ => ih1⟩
      | true =>
        have e1 : hvn S.1 (i + 1) = hvn S.1 i + Hs S.1 i 3 * Hs S.1 i 5 := by show hvn S.1 i + (if hq S.1 i then _ else 0) = _; rw [hq1]; rfl
        have e2 : hu S.1 none none (i + 1) = hu S.1 none none i + Hs S.1 i 5 := by show hu S.1 none none i + (if hq S.1 i && _ then _ else 0) = _; rw [hq1]; rfl
        rw [e1, e2, ← lN_add, ← lN_add, ← lN_mul] at ih1
        rw [gd_rI_at]
        refine ⟨fun _ => r_of (w := 3) b1.1 hS.1 hlt (by decide) (r_of (w := 5) b1.1 hS.1 hlt (by decide) ?_), fun z => absurd z (by decide)⟩
        rw [gd_rI_at]
        rintro _ rfl
        refine r_of (w := 5) b1.1 hS.1 hlt (by decide) ?_
        rw [gd_rI_at, nu_1, nu_l (by omega), nu_l (by omega)]
        exact ih1
  exact key (Hh S.1 1) 0 (by omega)
end CMN
