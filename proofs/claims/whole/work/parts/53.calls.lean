/-! THE CALLS: mark, stock -/
theorem nu_rng {x : Int32} {a b : Nat} (ha : a < 2 ^ 31) (hb : b < 2 ^ 31) (h1 : nI a ≤ x) (h2 : x ≤ nI b) : ∃ n, a ≤ n ∧ n ≤ b ∧ x = nI n := by
  rw [Int32.le_iff_toInt_le, nI_toInt ha] at h1
  rw [Int32.le_iff_toInt_le, nI_toInt hb] at h2
  refine ⟨x.toInt.toNat, by omega, by omega, ?_⟩
  apply Int32.toInt_inj.mp
  rw [nI_toInt (by omega)]; omega
theorem nu_lies {x : Int32} {a b : Nat} (ha : a < 2 ^ 31) (hb : b < 2 ^ 31) : (lN a ≤ x.toInt64 ∧ x.toInt64 ≤ lN b) ↔ (nI a ≤ x ∧ x ≤ nI b) := by
  rw [Int64.le_iff_toInt_le, Int64.le_iff_toInt_le, Int32.toInt_toInt64, lN_toInt ha, lN_toInt hb, Int32.le_iff_toInt_le, Int32.le_iff_toInt_le, nI_toInt ha, nI_toInt hb]
theorem hs_W.mk {H : hs_T} {x : Nat} (hW : hs_W H) (h1 : 1 ≤ x) (h2 : x ≤ 10000) : hs_W (hsH H 3 x) := by
  obtain ⟨a0, a1, a2, a3, a4, a5, a6, a7, a8, a9⟩ := hW
  have e : ∀ j, ¬ j = 3 → Hh (hsH H 3 x) j = Hh H j := fun j hj => if_neg hj
  have e3 : Hh (hsH H 3 x) 3 = x := hsH_at
  refine ⟨by rw [e 0 (by omega)]; exact a0, by rw [e 1 (by omega)]; exact a1, by rw [e 2 (by omega)]; exact a2, by rw [e3]; exact ⟨h1, h2⟩, by rw [e 4 (by omega)]; exact a4, by rw [e 5 (by omega)]; exact a5, by rw [e 6 (by omega)]; exact a6, fun i hi => ?_, fun i hi => ?_, a9⟩
  · rw [e 0 (by omega)] at hi
    rw [e 1 (by omega), hs_used_J (H := H) (H' := hsH H 3 x) rfl]
    exact a7 i hi
  · rw [e 1 (by omega)] at hi
    obtain ⟨s1, s2, s3⟩ := a8 i hi
    exact ⟨by rw [e 0 (by omega)]; exact s1, by rw [e 0 (by omega)]; exact s2, s3⟩
theorem hs_W.stk {H : hs_T} {i x : Nat} (hW : hs_W H) (h2 : x ≤ 100000) : hs_W (hsD H i 0 x) := by
  obtain ⟨a0, a1, a2, a3, a4, a5, a6, a7, a8, a9⟩ := hW
  refine ⟨a0, a1, a2, a3, a4, a5, a6, fun k hk => ?_, a8, a9⟩
  rw [hs_used_J (H := H) (H' := hsD H i 0 x) rfl]
  have := a7 k hk
  refine ⟨?_, by rw [hsD_ne (by omega)]; exact this.2⟩
  by_cases e : k = i
  · subst e
    rw [hsD_at]
    exact Nat.le_trans h2 (Nat.le_add_right _ _)
  · rw [hsD_ne (by omega)]; exact this.1
def gs_mark (S : gs_T) (x : Nat) : gs_T := (hsH S.1 3 x, (gs_kept S).2)
def gs_stock (S : gs_T) (i x : Nat) : gs_T := (hsD S.1 i 0 x, (gs_kept S).2)
section CM
variable {g : ab_E} {d : Nat} {v : gd_D} {Q : ab_O → gd_D → Prop} {S : gs_T}
theorem r_fineIf {p : Prop} [Decidable p] {c : Int32} {k : Nat} (hk : k < 3) (hc : ¬ c = 0) (ht : v.1 11 0 0 = 0) (h1 : p → Q (Sum.inl (some (zI 1))) v) (h0 : ¬ p → Q (Sum.inl (some (zI 0))) (rm_no v c k)) : gd_C g mX11_isFine d 0 0 [zR 11 0, zI (b2 (decide p)), zI c, zI (nI k)] v Q := by
  by_cases hp : p
  · rw [decide_eq_true hp]
    exact r_fine1 (by decide) ht (h1 hp)
  · rw [decide_eq_false hp]
    exact r_fine0 hk hc ht (h0 hp)
theorem k_mark {x : Int32} (hd : 10 ≤ d) (hG : gc_R v S) (hS : gs_ok S) (h1 : ∀ n v', 1 ≤ n → n ≤ 10000 → x = nI n → fcl v v' → gc_R v' (gs_mark S n) → Q (Sum.inl (some (zI (nI (Hh S.1 3))))) v') (h0 : ¬ (nI 1 ≤ x ∧ x ≤ nI 10000) → ∀ v', fcl v v' → gc_R v' (gs_no S 1) → Q (Sum.inr "java/lang/IllegalArgumentException") v') : gd_C g mX10_mark d 1 6 [zR 10 0, zI x] v Q := by
  refine c_X10_mark hd (k_needWithin (Nat.le_refl 9) hG hS (fun q1 q2 => ?_) (fun q v' f G => h0 q v' f G))
  rw [gd_rV_at]
  obtain ⟨n, n1, n2, e⟩ := nu_rng (a := 1) (b := 10000) (by omega) (by omega) q1 q2
  subst e
  refine k_keepG (Nat.le_refl 4) hG hS (fun v1 f1 G1 => ?_)
  rw [gd_rV_at]
  rintro _ rfl
  rw [show v1.1 2 9 5 = nI (Hh S.1 3) from G1.1.1 3 (by omega)]
  have f2 : frD fW pW v1 (gd_sI v1 2 9 5 (nI n)) := (fr.sI (X := fh 9) fh2).W (fun k i j q => Or.inl q)
  exact h1 n _ n1 n2 rfl (f1.tr (fW_cl f2)) (gc_house G1 (gs_kept_ok hS) f2 (cr_sH (j := 3) G1.1 (by omega)))
theorem rr_mark {x : Int32} (hd : 3 ≤ d) (hG : gr_R v S) (hS : gs_ok S) (h1 : ∀ n v', 1 ≤ n → n ≤ 10000 → x = nI n → fre v v' → v'.1 11 0 0 = 0 → gr_R v' (gs_mark S n) → Q (Sum.inl (some (zI (nI (Hh S.1 3))))) v') (h0 : ¬ (nI 1 ≤ x ∧ x ≤ nI 10000) → ∀ v', fre v v' → v'.1 11 0 0 = 1 → gr_R v' (gs_no S 1) → Q (Sum.inl (some (zI 0))) v') : gd_C g mX11_mark d 0 0 [zR 11 0, zI x] v Q := by
  obtain ⟨b1, b2, b3⟩ := gr_begin hG
  refine c_X11_mark hd ?_
  rintro _ rfl
  refine r_lies ?_
  rw [gd_rI_at]
  refine r_fineIf (k := 1) (by decide) (by decide) b3 (fun hp => ?_) (fun hp => ?_)
  · have hp' := (nu_lies (x := x) (a := 1) (b := 10000) (by omega) (by omega)).mp hp
    obtain ⟨n, n1, n2, e⟩ := nu_rng (a := 1) (b := 10000) (by omega) (by omega) hp'.1 hp'.2
    subst e
    refine ⟨fun _ => r_keepsG b1 hS (fun v3 f3 t3 G3 => ?_), fun z => absurd z (by decide)⟩
    rw [gd_rV_at]
    refine ⟨nu_in (n := 3) (by decide) (by decide), ?_⟩
    rintro _ rfl
    refine ⟨nu_in (n := 3) (by decide) (by decide), ?_⟩
    rintro _ rfl
    rw [show ((3 : Int32)).toNatClampNeg = 3 from by decide, nu_l (by omega), G3.1.1 3 (by omega), lN_i]
    have f5 : fr fV v3 (gd_sJ v3 40 0 3 (lN n)) := fr.sJ (Or.inl (by decide))
    refine h1 n _ n1 n2 rfl ((b2.tr f3).tr (fV_re f5)) (t3.trans b3) (gr_house G3 f5 ?_ G3.2.2.2.2.2.2)
    rw [sJ_row]; exact rm_sH (j := 3) G3.1 (by omega) (by omega)
  · have hp' : ¬ (nI 1 ≤ x ∧ x ≤ nI 10000) := fun q => hp ((nu_lies (x := x) (a := 1) (b := 10000) (by omega) (by omega)).mpr q)
    obtain ⟨n1, n2, n3⟩ := gr_no (c := 1) (k := 1) (by decide) b1
    exact ⟨fun z => absurd rfl z, fun _ => h0 hp' _ (b2.tr n2) n3 n1⟩
theorem k_stock {x y : Int32} (hd : 10 ≤ d) (hG : gc_R v S) (hS : gs_ok S) (h1 : ∀ i n v', i < Hh S.1 0 → x = nI i → n ≤ 100000 → y = nI n → fcl v v' → gc_R v' (gs_stock S i n) → Q (Sum.inl (some (zI (nI (Hd S.1 i 0))))) v') (h0 : (∀ i, i < Hh S.1 0 → ¬ x = nI i) → ∀ v', fcl v v' → gc_R v' (gs_no S 0) → Q (Sum.inr "java/util/NoSuchElementException") v') (h2 : ∀ i, i < Hh S.1 0 → x = nI i → ¬ (nI 0 ≤ y ∧ y ≤ nI 100000) → ∀ v', fcl v v' → gc_R v' (gs_no S 1) → Q (Sum.inr "java/lang/IllegalArgumentException") v') : gd_C g mX10_stock d 2 12 [zR 10 0, zI x, zI y] v Q := by
  have h8 := hS.1.1
  refine c_X10_stock hd (k_needDealer (Nat.le_refl 9) hG hS (fun i hi e => ?_) (fun q v' f G => h0 q v' f G))
  subst e
  rw [gd_rV_at]
  refine k_needWithin (Nat.le_refl 9) hG hS (fun q1 q2 => ?_) (fun q v' f G => h2 i hi rfl q v' f G)
  rw [gd_rV_at]
  obtain ⟨n, n1, n2, e⟩ := nu_rng (a := 0) (b := 100000) (by omega) (by omega) q1 q2
  subst e
  refine k_keepG (Nat.le_refl 4) hG hS (fun v1 f1 G1 => ?_)
  rw [gd_rV_at, nI_clamp (by omega)]
  refine ⟨nu_in (by omega) (by omega), nu_in (by omega) (by omega), ?_⟩
  rintro _ rfl
  rw [show v1.1 0 (8 * 9 + i) 0 = nI (Hd S.1 i 0) from (G1.1.2.2.1 i hi).1]
  have f2 : frD fW pW v1 (gd_sI v1 0 (8 * 9 + i) 0 (nI n)) := (fr.sI (X := fh 9) (fh0 (by omega))).W (fun k i j q => Or.inl q)
  exact h1 i n _ hi rfl n2 rfl (f1.tr (fW_cl f2)) (gc_house G1 (gs_kept_ok hS) f2 (cr_sD (j := 0) G1.1 hi (Or.inl rfl)))
theorem rr_stock {x y : Int32} (hd : 4 ≤ d) (hG : gr_R v S) (hS : gs_ok S) (h1 : ∀ i n v', i < Hh S.1 0 → x = nI i → n ≤ 100000 → y = nI n → fre v v' → v'.1 11 0 0 = 0 → gr_R v' (gs_stock S i n) → Q (Sum.inl (some (zI (nI (Hd S.1 i 0))))) v') (h0 : (∀ i, i < Hh S.1 0 → ¬ x = nI i) → ∀ v', fre v v' → v'.1 11 0 0 = 1 → gr_R v' (gs_no S 0) → Q (Sum.inl (some (zI 0))) v') (h2 : ∀ i, i < Hh S.1 0 → x = nI i → ¬ (nI 0 ≤ y ∧ y ≤ nI 100000) → ∀ v', fre v v' → v'.1 11 0 0 = 2 → gr_R v' (gs_no S 1) → Q (Sum.inl (some (zI 0))) v') : gd_C g mX11_stock d 0 0 [zR 11 0, zI x, zI y] v Q := by
  have h8 := hS.1.1
  obtain ⟨b1, b2, b3⟩ := gr_begin hG
  refine c_X11_stock hd ?_
  rintro _ rfl
  refine r_isDealer (Nat.le_refl 3) b1.1 hS.1 (fun i hi e => ?_) (fun hno => ?_)
  · subst e
    rw [gd_rI_at]
    refine r_fine1 (by decide) b3 ⟨fun z => absurd z (by decide), fun _ => r_lies ?_⟩
    rw [gd_rI_at]
    refine r_fineIf (k := 1) (by decide) (by decide) b3 (fun hp => ?_) (fun hp => ?_)
    · have hp' := (nu_lies (x := y) (a := 0) (b := 100000) (by omega) (by omega)).mp hp
      obtain ⟨n, n1, n2, e⟩ := nu_rng (a := 0) (b := 100000) (by omega) (by omega) hp'.1 hp'.2
      subst e
      refine ⟨fun _ => r_keepsG b1 hS (fun v3 f3 t3 G3 => ?_), fun z => absurd z (by decide)⟩
      rw [gd_rV_at]
      rw [show ((9 : Int32) + 6 * nI i + 0) = nI (9 + 6 * i + 0) from nu_d _ 0, nI_clamp (by omega)]
      refine ⟨nu_in (by omega) (by omega), ?_⟩
      rintro _ rfl
      refine ⟨nu_in (by omega) (by omega), ?_⟩
      rintro _ rfl
      rw [nu_l (by omega), (G3.1.2.2.2.1 i hi).1, lN_i]
      have f5 : fr fV v3 (gd_sJ v3 40 0 (9 + 6 * i + 0) (lN n)) := fr.sJ (Or.inl (by decide))
      refine h1 i n _ hi rfl n2 rfl ((b2.tr f3).tr (fV_re f5)) (t3.trans b3) (gr_house G3 f5 ?_ G3.2.2.2.2.2.2)
      rw [sJ_row]; exact rm_sD (j := 0) G3.1 h8 hi (Or.inl rfl)
    · have hp' : ¬ (nI 0 ≤ y ∧ y ≤ nI 100000) := fun q => hp ((nu_lies (x := y) (a := 0) (b := 100000) (by omega) (by omega)).mpr q)
      obtain ⟨n1, n2, n3⟩ := gr_no (c := 2) (k := 1) (by decide) b1
      exact ⟨fun z => absurd rfl z, fun _ => h2 i hi rfl hp' _ (b2.tr n2) n3 n1⟩
  · rw [gd_rI_at]
    refine r_fine0 (k := 0) (by decide) (by decide) b3 ?_
    obtain ⟨n1, n2, n3⟩ := gr_no (c := 1) (k := 0) (by decide) b1
    exact ⟨fun _ => h0 hno _ (b2.tr n2) n3 n1, fun z => absurd rfl z⟩
end CM
