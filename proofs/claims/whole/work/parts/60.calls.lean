/-! THE CALLS: told, dealer, of -/
theorem nu_eq {n k : Nat} (hn : n < 2 ^ 31) (hk : k < 2 ^ 31) (e : nI n = nI k) : n = k := (nI_eq hn hk).mp e
/-- what told() answers -/
def tv (S : gs_T) (n : Nat) : Int32 := if n < 7 then nI (Hh S.1 n) else if n = 7 then nI (hf S.1 (Hh S.1 1)) else if n = 8 then nI (hu S.1 none none (Hh S.1 1)) else if n = 9 then nI S.2.2.1.1 else nI S.2.1.length
/-- what dealer() answers -/
def dv (S : gs_T) (i n : Nat) : Int64 := if n = 0 then lN (Hd S.1 i 0) else if n < 4 then Hj S.1 i n else if n = 4 then (nI (hu S.1 (some i) none (Hh S.1 1))).toInt64 else if n = 5 then (nI (hu S.1 none (some i) (Hh S.1 1))).toInt64 else if n = 6 then (nI (pt_f S.1 (pt_all S.1 (hs_O S.1)) i (Hh S.1 1))).toInt64 else if n = 7 then Hj S.1 i 4 else lN (Hd S.1 i 5)
/-- what of() answers -/
def ov (S : gs_T) (s n : Nat) : Int32 := if n < 9 then nI (Hs S.1 s n) else if n = 9 then nI (op s (hs_O S.1)) else b2 (hq S.1 s)
section CTD
variable {g : ab_E} {d : Nat} {v : gd_D} {Q : ab_O → gd_D → Prop} {S : gs_T}
theorem k_told {x : Int32} (hd : 10 ≤ d) (hG : gc_R v S) (hS : gs_ok S) (h1 : ∀ n v', n ≤ 10 → x = nI n → fcl v v' → gc_R v' S → Q (Sum.inl (some (zI (tv S n)))) v') (h0 : ¬ (nI 0 ≤ x ∧ x ≤ nI 10) → ∀ v', fcl v v' → gc_R v' (gs_no S 1) → Q (Sum.inr "java/lang/IllegalArgumentException") v') : gd_C g mX10_told d 1 6 [zR 10 0, zI x] v Q := by
  refine c_X10_told hd (k_needWithin (Nat.le_refl 9) hG hS (fun q1 q2 => ?_) (fun q v' f G => h0 q v' f G))
  rw [gd_rV_at]
  obtain ⟨n, -, n2, e⟩ := nu_rng (a := 0) (b := 10) (by omega) (by omega) q1 q2
  subst e
  have t := h1 n v n2 rfl fcl.rf hG
  obtain ⟨nx, c1, c2, c3, -⟩ := hG.2.1
  refine ⟨fun e => ?_, fun e => ?_, fun e => ?_, fun e => ?_, fun e => ?_, fun e => ?_, fun e => ?_, fun e => ?_, fun e => ?_, fun e => ?_, fun e => ?_⟩
  · have e := nu_eq (k := 0) (by omega) (by omega) e
    subst e; rw [show tv S 0 = v.1 2 9 2 from (hG.1.1 0 (by omega)).symm] at t; exact t
  · have e := nu_eq (k := 1) (by omega) (by omega) e
    subst e; rw [show tv S 1 = v.1 2 9 3 from (hG.1.1 1 (by omega)).symm] at t; exact t
  · have e := nu_eq (k := 2) (by omega) (by omega) e
    subst e; rw [show tv S 2 = v.1 2 9 4 from (hG.1.1 2 (by omega)).symm] at t; exact t
  · have e := nu_eq (k := 3) (by omega) (by omega) e
    subst e; rw [show tv S 3 = v.1 2 9 5 from (hG.1.1 3 (by omega)).symm] at t; exact t
  · have e := nu_eq (k := 4) (by omega) (by omega) e
    subst e; rw [show tv S 4 = v.1 2 9 6 from (hG.1.1 4 (by omega)).symm] at t; exact t
  · have e := nu_eq (k := 5) (by omega) (by omega) e
    subst e; rw [show tv S 5 = v.1 2 9 7 from (hG.1.1 5 (by omega)).symm] at t; exact t
  · have e := nu_eq (k := 6) (by omega) (by omega) e
    subst e; rw [show tv S 6 = v.1 2 9 8 from (hG.1.1 6 (by omega)).symm] at t; exact t
  · have e := nu_eq (k := 7) (by omega) (by omega) e
    subst e; exact k_countFails (Nat.le_refl 3) hG.1 hS.1 t
  · have e := nu_eq (k := 8) (by omega) (by omega) e
    subst e; exact k_unitsOf (a := none) (b := none) (fun z hz => by cases hz) (fun z hz => by cases hz) (Nat.le_refl 3) hG.1 hS.1 t
  · have e := nu_eq (k := 9) (by omega) (by omega) e
    subst e; rw [show tv S 9 = v.1 7 0 2 from hG.2.2.1.symm] at t; exact t
  · rw [nI_toInt (by omega)] at e
    have e : n = 10 := by omega
    subst e; rw [show tv S 10 = v.1 1 0 2 from c3.symm] at t; exact t
theorem rr_told {x : Int32} (hd : 5 ≤ d) (hG : gr_R v S) (hS : gs_ok S) (h1 : ∀ n v', n ≤ 10 → x = nI n → fre v v' → v'.1 11 0 0 = 0 → gr_R v' S → Q (Sum.inl (some (zI (tv S n)))) v') (h0 : ¬ (nI 0 ≤ x ∧ x ≤ nI 10) → ∀ v', fre v v' → v'.1 11 0 0 = 1 → gr_R v' (gs_no S 1) → Q (Sum.inl (some (zI 0))) v') : gd_C g mX11_told d 0 0 [zR 11 0, zI x] v Q := by
  obtain ⟨b1, b2', b3⟩ := gr_begin hG
  refine c_X11_told hd ?_
  rintro _ rfl
  refine r_lies ?_
  rw [gd_rI_at]
  refine r_fineIf (k := 1) (by decide) (by decide) b3 (fun hp => ?_) (fun hp => ?_)
  · have hp' := (nu_lies (x := x) (a := 0) (b := 10) (by omega) (by omega)).mp hp
    obtain ⟨n, -, n2, e⟩ := nu_rng (a := 0) (b := 10) (by omega) (by omega) hp'.1 hp'.2
    subst e
    have t := h1 n _ n2 rfl b2' b3 b1
    refine ⟨fun _ => ⟨fun e => ?_, fun e => ?_, fun e => ?_, fun e => ?_, fun e => ?_⟩, fun z => absurd z (by decide)⟩
    · have e := nu_eq (k := 7) (by omega) (by omega) e
      subst e; exact r_fails (Nat.le_refl 4) b1.1 hS.1 t
    · have e := nu_eq (k := 8) (by omega) (by omega) e
      subst e; exact r_unitsOf (a := none) (b := none) (fun z hz => by cases hz) (fun z hz => by cases hz) (Nat.le_refl 4) b1.1 hS.1 t
    · have e := nu_eq (k := 9) (by omega) (by omega) e
      subst e; rw [show tv S 9 = (gd_sI v 11 0 0 0).1 11 0 9 from b1.2.2.1.symm] at t; exact t
    · have e := nu_eq (k := 10) (by omega) (by omega) e
      subst e; rw [show tv S 10 = (gd_sI v 11 0 0 0).1 11 0 6 from b1.2.1.1.symm] at t; exact t
    · rw [nI_toInt (by omega)] at e
      have e : n < 7 := by omega
      refine ⟨nu_in (by omega) (by omega), ?_⟩
      rintro _ rfl
      rw [nI_clamp (by omega), b1.1.1 n e, lN_i]
      unfold tv at t
      rw [if_pos e] at t
      exact t
  · have hp' : ¬ (nI 0 ≤ x ∧ x ≤ nI 10) := fun q => hp ((nu_lies (x := x) (a := 0) (b := 10) (by omega) (by omega)).mpr q)
    obtain ⟨n1, n2, n3⟩ := gr_no (c := 1) (k := 1) (by decide) b1
    exact ⟨fun z => absurd rfl z, fun _ => h0 hp' _ (b2'.tr n2) n3 n1⟩
/-- who stands on whom now -/
theorem k_standNow (hd : 5 ≤ d) (hG : gc_R v S) (hS : gs_ok S) (hQ : ∀ v' st, fcl v v' → gc_R v' S → cp_S v' 0 (pt_all S.1 (hs_O S.1)).1 (Hh S.1 1) st 48 → (∀ x, x < 8 → v'.1 28 0 x = nI (pt_f S.1 (pt_all S.1 (hs_O S.1)) x (Hh S.1 1))) → Q (Sum.inl none) v') : gd_C g mX10_standNow d 0 0 [zR 10 0] v Q := by
  have hOk := hs_O_ok S.1
  refine c_X10_standNow hd (k_arrange (Nat.le_refl 4) hG.1 hS.1 (fun v1 f1 O1 => ?_))
  rw [gd_rV_at]
  obtain ⟨G1, C1⟩ := gc_tool hG hS f1 (by decide)
  refine k_stand (Nat.le_refl 4) G1.1 hS.1 O1 hOk.1 (fun x hx => (hOk.2.1 x).mp hx) hOk.2.2 (fun v2 st f2 S2 F2 => ?_)
  rw [gd_rV_at]
  obtain ⟨G2, C2⟩ := gc_tool G1 hS f2 (by decide)
  exact hQ v2 st (C1.tr C2) G2 S2 F2
theorem k_dealer {x y : Int32} (hd : 10 ≤ d) (hG : gc_R v S) (hS : gs_ok S) (h1 : ∀ i n v', i < Hh S.1 0 → x = nI i → n ≤ 8 → y = nI n → fcl v v' → gc_R v' S → Q (Sum.inl (some (zJ (dv S i n)))) v') (h0 : (∀ i, i < Hh S.1 0 → ¬ x = nI i) → ∀ v', fcl v v' → gc_R v' (gs_no S 0) → Q (Sum.inr "java/util/NoSuchElementException") v') (h2 : ∀ i, i < Hh S.1 0 → x = nI i → ¬ (nI 0 ≤ y ∧ y ≤ nI 8) → ∀ v', fcl v v' → gc_R v' (gs_no S 1) → Q (Sum.inr "java/lang/IllegalArgumentException") v') : gd_C g mX10_dealer d 2 12 [zR 10 0, zI x, zI y] v Q := by
  have h8 := hS.1.1
  have hus := hS.1.used
  refine c_X10_dealer hd (k_needDealer (Nat.le_refl 9) hG hS (fun i hi e => ?_) (fun q v' f G => h0 q v' f G))
  subst e
  rw [gd_rV_at]
  refine k_needWithin (Nat.le_refl 9) hG hS (fun q1 q2 => ?_) (fun q v' f G => h2 i hi rfl q v' f G)
  rw [gd_rV_at]
  obtain ⟨n, -, n2, e⟩ := nu_rng (a := 0) (b := 8) (by omega) (by omega) q1 q2
  subst e
  have t := h1 i n v hi rfl n2 rfl fcl.rf hG
  have hdl := hS.1.2.2.2.2.2.2.2.1 i hi
  obtain ⟨a1, a2, a3⟩ := hG.1.2.2.1 i hi
  rw [nI_clamp (by omega)]
  refine ⟨nu_in (by omega) (by omega), fun e => ?_, fun e => ?_, fun e => ?_, fun e => ?_, fun e => ?_, fun e => ?_, fun e => ?_, fun e => ?_, fun e => ?_⟩
  · have e := nu_eq (k := 0) (by omega) (by omega) e
    subst e; rintro _ rfl; rw [a1, nu_l (by omega)]; exact t
  · have e := nu_eq (k := 1) (by omega) (by omega) e
    subst e; rintro _ rfl; rw [a3 1 (by omega) (by omega)]; exact t
  · have e := nu_eq (k := 2) (by omega) (by omega) e
    subst e; rintro _ rfl; rw [a3 2 (by omega) (by omega)]; exact t
  · have e := nu_eq (k := 3) (by omega) (by omega) e
    subst e; rintro _ rfl; rw [a3 3 (by omega) (by omega)]; exact t
  · have e := nu_eq (k := 4) (by omega) (by omega) e
    subst e; exact k_unitsOf (a := some i) (b := none) (fun z hz => by cases hz; omega) (fun z hz => by cases hz) (Nat.le_refl 3) hG.1 hS.1 t
  · have e := nu_eq (k := 5) (by omega) (by omega) e
    subst e; exact k_unitsOf (a := none) (b := some i) (fun z hz => by cases hz) (fun z hz => by cases hz; omega) (Nat.le_refl 3) hG.1 hS.1 t
  · have e := nu_eq (k := 6) (by omega) (by omega) e
    subst e
    refine c_X10_ownFaultOf (Nat.le_refl 6) (k_standNow (Nat.le_refl 5) hG hS (fun v1 st C1 G1 S1 F1 => ?_))
    rw [gd_rV_at, nI_clamp (by omega), F1 i (by omega)]
    exact ⟨nu_in (by omega) (by omega), h1 i 6 v1 hi rfl n2 rfl C1 G1⟩
  · have e := nu_eq (k := 7) (by omega) (by omega) e
    subst e; rintro _ rfl; rw [a3 4 (by omega) (by omega)]; exact t
  · rw [nI_toInt (by omega)] at e
    have e : n = 8 := by omega
    subst e; rintro _ rfl; rw [a2, nu_l (by omega)]; exact t
theorem rr_dealer {x y : Int32} (hd : 7 ≤ d) (hG : gr_R v S) (hS : gs_ok S) (h1 : ∀ i n v', i < Hh S.1 0 → x = nI i → n ≤ 8 → y = nI n → fre v v' → v'.1 11 0 0 = 0 → gr_R v' S → Q (Sum.inl (some (zJ (dv S i n)))) v') (h0 : (∀ i, i < Hh S.1 0 → ¬ x = nI i) → ∀ v', fre v v' → v'.1 11 0 0 = 1 → gr_R v' (gs_no S 0) → Q (Sum.inl (some (zJ 0))) v') (h2 : ∀ i, i < Hh S.1 0 → x = nI i → ¬ (nI 0 ≤ y ∧ y ≤ nI 8) → ∀ v', fre v v' → v'.1 11 0 0 = 2 → gr_R v' (gs_no S 1) → Q (Sum.inl (some (zJ 0))) v') : gd_C g mX11_dealer d 0 0 [zR 11 0, zI x, zI y] v Q := by
  have h8 := hS.1.1
  have hus := hS.1.used
  obtain ⟨b1, b2', b3⟩ := gr_begin hG
  refine c_X11_dealer hd ?_
  rintro _ rfl
  refine r_isDealer (Nat.le_refl 3) b1.1 hS.1 (fun i hi e => ?_) (fun hno => ?_)
  · subst e
    rw [gd_rI_at]
    refine r_fine1 (by decide) b3 ⟨fun z => absurd z (by decide), fun _ => r_lies ?_⟩
    rw [gd_rI_at]
    refine r_fineIf (k := 1) (by decide) (by decide) b3 (fun hp => ?_) (fun hp => ?_)
    · have hp' := (nu_lies (x := y) (a := 0) (b := 8) (by omega) (by omega)).mp hp
      obtain ⟨n, -, n2, e⟩ := nu_rng (a := 0) (b := 8) (by omega) (by omega) hp'.1 hp'.2
      subst e
      have t := h1 i n _ hi rfl n2 rfl b2' b3 b1
      obtain ⟨a1, a2, a3⟩ := b1.1.2.2.2.1 i hi
      refine ⟨fun _ => ⟨fun e => ?_, fun e => ?_, fun e => ?_, fun e => ?_, fun e => ?_, fun e => ?_⟩, fun z => absurd z (by decide)⟩
      · have e := nu_eq (k := 4) (by omega) (by omega) e
        subst e; exact r_unitsOf (a := some i) (b := none) (fun z hz => by cases hz; omega) (fun z hz => by cases hz) (Nat.le_refl 4) b1.1 hS.1 t
      · have e := nu_eq (k := 5) (by omega) (by omega) e
        subst e; exact r_unitsOf (a := none) (b := some i) (fun z hz => by cases hz) (fun z hz => by cases hz; omega) (Nat.le_refl 4) b1.1 hS.1 t
      · have e := nu_eq (k := 6) (by omega) (by omega) e
        subst e
        refine r_faults (Nat.le_refl 6) (by omega) b1.1 hS.1 (fun v1 f1 => ?_)
        obtain ⟨G1, F1, T1⟩ := gr_tool b1 f1 (by decide)
        exact h1 i 6 v1 hi rfl n2 rfl (b2'.tr F1) (T1.trans b3) G1
      · have e := nu_eq (k := 7) (by omega) (by omega) e
        subst e
        rw [show ((9 : Int32) + 6 * nI i + 4) = nI (9 + 6 * i + 4) from nu_d _ 4, nI_clamp (by omega)]
        refine ⟨nu_in (by omega) (by omega), ?_⟩
        rintro _ rfl
        rw [a3 4 (by omega) (by omega)]; exact t
      · have e := nu_eq (k := 8) (by omega) (by omega) e
        subst e
        rw [show ((9 : Int32) + 6 * nI i + 5) = nI (9 + 6 * i + 5) from nu_d _ 5, nI_clamp (by omega)]
        refine ⟨nu_in (by omega) (by omega), ?_⟩
        rintro _ rfl
        rw [a2]; exact t
      · rw [nI_toInt (by omega)] at e
        have e : n < 4 := by omega
        rw [nu_d, nI_clamp (by omega)]
        refine ⟨nu_in (by omega) (by omega), ?_⟩
        rintro _ rfl
        unfold dv at t
        by_cases e0 : n = 0
        · subst e0; rw [a1]; exact t
        · rw [if_neg e0, if_pos e] at t
          rw [a3 n (by omega) (by omega)]; exact t
    · have hp' : ¬ (nI 0 ≤ y ∧ y ≤ nI 8) := fun q => hp ((nu_lies (x := y) (a := 0) (b := 8) (by omega) (by omega)).mpr q)
      obtain ⟨n1, n2, n3⟩ := gr_no (c := 2) (k := 1) (by decide) b1
      exact ⟨fun z => absurd rfl z, fun _ => h2 i hi rfl hp' _ (b2'.tr n2) n3 n1⟩
  · rw [gd_rI_at]
    refine r_fine0 (k := 0) (by decide) (by decide) b3 ?_
    obtain ⟨n1, n2, n3⟩ := gr_no (c := 1) (k := 0) (by decide) b1
    exact ⟨fun _ => h0 hno _ (b2'.tr n2) n3 n1, fun z => absurd rfl z⟩
theorem k_ofs {x y : Int32} (hd : 10 ≤ d) (hG : gc_R v S) (hS : gs_ok S) (h1 : ∀ s n v', s < Hh S.1 1 → x = nI s → n ≤ 10 → y = nI n → fcl v v' → gc_R v' S → Q (Sum.inl (some (zI (ov S s n)))) v') (h0 : (∀ i, i < Hh S.1 1 → ¬ x = nI i) → ∀ v', fcl v v' → gc_R v' (gs_no S 0) → Q (Sum.inr "java/util/NoSuchElementException") v') (h2 : ∀ s, s < Hh S.1 1 → x = nI s → ¬ (nI 0 ≤ y ∧ y ≤ nI 10) → ∀ v', fcl v v' → gc_R v' (gs_no S 1) → Q (Sum.inr "java/lang/IllegalArgumentException") v') : gd_C g mX10_of d 2 12 [zR 10 0, zI x, zI y] v Q := by
  have h24 := hS.1.2.1
  refine c_X10_of hd (k_needSale (Nat.le_refl 9) hG hS (fun s hs e => ?_) (fun q v' f G => h0 q v' f G))
  subst e
  rw [gd_rV_at]
  refine k_needWithin (Nat.le_refl 9) hG hS (fun q1 q2 => ?_) (fun q v' f G => h2 s hs rfl q v' f G)
  rw [gd_rV_at]
  obtain ⟨n, -, n2, e⟩ := nu_rng (a := 0) (b := 10) (by omega) (by omega) q1 q2
  subst e
  have t := h1 s n v hs rfl n2 rfl fcl.rf hG
  have a := hG.1.2.2.2.1 s hs
  rw [nI_clamp (by omega)]
  refine ⟨nu_in (by omega) (by omega), fun e => ?_, fun e => ?_, fun e => ?_, fun e => ?_, fun e => ?_, fun e => ?_, fun e => ?_, fun e => ?_, fun e => ?_, fun e => ?_, fun e => ?_⟩
  · have e := nu_eq (k := 0) (by omega) (by omega) e
    subst e; rintro _ rfl; rw [a 0 (by omega)]; exact t
  · have e := nu_eq (k := 1) (by omega) (by omega) e
    subst e; rintro _ rfl; rw [a 1 (by omega)]; exact t
  · have e := nu_eq (k := 2) (by omega) (by omega) e
    subst e; rintro _ rfl; rw [a 2 (by omega)]; exact t
  · have e := nu_eq (k := 3) (by omega) (by omega) e
    subst e; rintro _ rfl; rw [a 3 (by omega)]; exact t
  · have e := nu_eq (k := 4) (by omega) (by omega) e
    subst e; rintro _ rfl; rw [a 4 (by omega)]; exact t
  · have e := nu_eq (k := 5) (by omega) (by omega) e
    subst e; rintro _ rfl; rw [a 5 (by omega)]; exact t
  · have e := nu_eq (k := 6) (by omega) (by omega) e
    subst e; rintro _ rfl; rw [a 6 (by omega)]; exact t
  · have e := nu_eq (k := 7) (by omega) (by omega) e
    subst e; rintro _ rfl; rw [a 7 (by omega)]; exact t
  · have e := nu_eq (k := 8) (by omega) (by omega) e
    subst e; rintro _ rfl; rw [a 8 (by omega)]; exact t
  · have e := nu_eq (k := 9) (by omega) (by omega) e
    subst e
    have hOk := hs_O_ok S.1
    refine c_X10_placeOf (Nat.le_refl 5) (k_arrange (Nat.le_refl 4) hG.1 hS.1 (fun v1 f1 O1 => ?_))
    rw [gd_rV_at]
    obtain ⟨G1, C1⟩ := gc_tool hG hS f1 (by decide)
    refine k_placeOf O1 (by rw [hOk.1]; omega) (by omega) ((hOk.2.1 s).mpr hs) (fun x hx => by have := (hOk.2.1 x).mp hx; omega) ?_
    exact h1 s 9 v1 hs rfl n2 rfl C1 G1
  · rw [nI_toInt (by omega)] at e
    have e : n = 10 := by omega
    subst e
    refine k_isAsked hG.1 hS.1 hs ?_
    have t : Q (Sum.inl (some (zI (b2 (hq S.1 s))))) v := t
    cases hq1 : hq S.1 s with
    | false => rw [hq1] at t; exact ⟨fun _ => t, fun z => absurd rfl z⟩
    | true => rw [hq1] at t; exact ⟨fun z => absurd z (by decide), fun _ => t⟩
theorem rr_ofs {x y : Int32} (hd : 6 ≤ d) (hG : gr_R v S) (hS : gs_ok S) (h1 : ∀ s n v', s < Hh S.1 1 → x = nI s → n ≤ 10 → y = nI n → fre v v' → v'.1 11 0 0 = 0 → gr_R v' S → Q (Sum.inl (some (zI (ov S s n)))) v') (h0 : (∀ i, i < Hh S.1 1 → ¬ x = nI i) → ∀ v', fre v v' → v'.1 11 0 0 = 1 → gr_R v' (gs_no S 0) → Q (Sum.inl (some (zI 0))) v') (h2 : ∀ s, s < Hh S.1 1 → x = nI s → ¬ (nI 0 ≤ y ∧ y ≤ nI 10) → ∀ v', fre v v' → v'.1 11 0 0 = 2 → gr_R v' (gs_no S 1) → Q (Sum.inl (some (zI 0))) v') : gd_C g mX11_of d 0 0 [zR 11 0, zI x, zI y] v Q := by
  have h24 := hS.1.2.1
  obtain ⟨b1, b2', b3⟩ := gr_begin hG
  refine c_X11_of hd ?_
  rintro _ rfl
  refine r_isSale (Nat.le_refl 3) b1.1 hS.1 (fun s hs e => ?_) (fun hno => ?_)
  · subst e
    rw [gd_rI_at]
    refine r_fine1 (by decide) b3 ⟨fun z => absurd z (by decide), fun _ => r_lies ?_⟩
    rw [gd_rI_at]
    refine r_fineIf (k := 1) (by decide) (by decide) b3 (fun hp => ?_) (fun hp => ?_)
    · have hp' := (nu_lies (x := y) (a := 0) (b := 10) (by omega) (by omega)).mp hp
      obtain ⟨n, -, n2, e⟩ := nu_rng (a := 0) (b := 10) (by omega) (by omega) hp'.1 hp'.2
      subst e
      have t := h1 s n _ hs rfl n2 rfl b2' b3 b1
      refine ⟨fun _ => pk_le 9 n (fun hn => ⟨fun e => ?_, fun e => ?_⟩) (fun hn => ?_) rfl rfl (by omega) (by omega), fun z => absurd z (by decide)⟩
      · have hn9 : n = 9 := by
          have : ¬ n = 10 := fun z => e (by rw [z]; rfl)
          omega
        subst hn9
        have hOk := hs_O_ok S.1
        refine r_orders (Nat.le_refl 5) b1.1 hS.1 (fun v1 f1 O1 => ?_)
        rw [gd_rV_at]
        obtain ⟨G1, F1, T1⟩ := gr_tool b1 f1 (by decide)
        have t1 : Q (Sum.inl (some (zI (nI (op s (hs_O S.1)))))) v1 := h1 s 9 v1 hs rfl n2 rfl (b2'.tr F1) (T1.trans b3) G1
        have key : ∀ (l : List Nat) (i : Nat), (hs_O S.1).drop i = l → i ≤ (hs_O S.1).length → s ∈ l → i + op s l = op s (hs_O S.1) → gd_G g mX11_of d 0 0 78 [(0, zR 11 0), (1, zI (nI s)), (3, zI (nI i))] [] v1 Q := by
          intro l
          induction l with
          | nil => intro i hl hi hms; cases hms
          | cons x l ih =>
            intro i hl2 hi hms he
            obtain ⟨hi2, e0, hl3, hmem⟩ := drop_at hl2
            have hx := (hOk.2.1 x).mp hmem
            rw [hOk.1] at hi2
            refine w_X11_of_78 (by omega) ⟨nu_in (by omega) (by omega), ?_⟩
            rw [nI_clamp (by omega), O1 i (by rw [hOk.1]; omega), e0, nI_eq (by omega) (by omega)]
            have he' : i + (if x = s then 0 else op s l + 1) = op s (hs_O S.1) := he
            refine ⟨fun q => ?_, fun q => ?_⟩
            · rw [if_pos q] at he'
              rw [show i = op s (hs_O S.1) from by omega]; exact t1
            · rw [if_neg q] at he'
              rw [nu_1]
              refine ih (i + 1) hl3 (by rw [hOk.1]; omega) ?_ (by omega)
              rcases List.mem_cons.mp hms with e | e
              · exact absurd e.symm q
              · exact e
        exact key (hs_O S.1) 0 rfl (Nat.zero_le _) ((hOk.2.1 s).mpr hs) (by omega)
      · have e := nu_eq (k := 10) (by omega) (by omega) e
        subst e
        refine r_isAsked (Nat.le_refl 3) b1.1 hS.1 hs ?_
        have t : Q (Sum.inl (some (zI (b2 (hq S.1 s))))) (gd_sI v 11 0 0 0) := t
        cases hq1 : hq S.1 s with
        | false => rw [hq1] at t; exact ⟨fun _ => t, fun z => absurd rfl z⟩
        | true => rw [hq1] at t; exact ⟨fun z => absurd z (by decide), fun _ => t⟩
      · unfold ov at t
        rw [if_pos hn] at t
        exact r_of (w := n) b1.1 hS.1 hs hn t
    · have hp' : ¬ (nI 0 ≤ y ∧ y ≤ nI 10) := fun q => hp ((nu_lies (x := y) (a := 0) (b := 10) (by omega) (by omega)).mpr q)
      obtain ⟨n1, n2, n3⟩ := gr_no (c := 2) (k := 1) (by decide) b1
      exact ⟨fun z => absurd rfl z, fun _ => h2 s hs rfl hp' _ (b2'.tr n2) n3 n1⟩
  · rw [gd_rI_at]
    refine r_fine0 (k := 0) (by decide) (by decide) b3 ?_
    obtain ⟨n1, n2, n3⟩ := gr_no (c := 1) (k := 0) (by decide) b1
    exact ⟨fun _ => h0 hno _ (b2'.tr n2) n3 n1, fun z => absurd rfl z⟩
end CTD
