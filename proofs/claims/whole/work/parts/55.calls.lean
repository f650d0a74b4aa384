/-! THE CALLS: buyin -/
def gs_buyin (S : gs_T) (s u : Nat) : gs_T := (bn S.1 (hs_O S.1) s u, (gs_kept S).2)
section CBI
variable {g : ab_E} {d : Nat} {v : gd_D} {Q : ab_O → gd_D → Prop} {S : gs_T}
theorem gs_buyin_ok {s u : Nat} (hS : gs_ok S) (hs : s < Hh S.1 1) (hu : u ≤ Hs S.1 s 5) : gs_ok (gs_buyin S s u) := ⟨(bn_W hS.1 (hs_O_ok S.1) hs hu).1, (gs_kept_ok hS).2⟩
theorem k_buyin {x y : Int32} (hd : 42 ≤ d) (hG : gc_R v S) (hS : gs_ok S) (h1 : ∀ s u v', s < Hh S.1 1 → x = nI s → hq S.1 s = true → 1 ≤ u → u ≤ Hs S.1 s 5 → y = nI u → fcl v v' → gc_R v' (gs_buyin S s u) → Q (Sum.inl (some (zI (nI (Hs (gs_buyin S s u).1 s 5))))) v') (h0 : (∀ i, i < Hh S.1 1 → ¬ x = nI i) → ∀ v', fcl v v' → gc_R v' (gs_no S 0) → Q (Sum.inr "java/util/NoSuchElementException") v') (h2 : ∀ s, s < Hh S.1 1 → x = nI s → hq S.1 s = false → ∀ v', fcl v v' → gc_R v' (gs_no S 2) → Q (Sum.inr "java/lang/IllegalStateException") v') (h3 : ∀ s, s < Hh S.1 1 → x = nI s → hq S.1 s = true → ¬ (nI 1 ≤ y ∧ y ≤ nI (Hs S.1 s 5)) → ∀ v', fcl v v' → gc_R v' (gs_no S 1) → Q (Sum.inr "java/lang/IllegalArgumentException") v') : gd_C g mX10_buyin d 3 18 [zR 10 0, zI x, zI y] v Q := by
  have h24 := hS.1.2.1
  refine c_X10_buyin hd (k_needSale (Nat.le_refl 9) hG hS (fun s hs e => ?_) (fun q v' f G => h0 q v' f G))
  subst e
  have h5 := hS.1.V.five hs
  rw [gd_rV_at]
  refine k_isAsked hG.1 hS.1 hs ⟨fun hc => ?_, fun hc => k_untimely hG hS (fun v1 f1 G1 => h2 s hs rfl (b2_0 hc) v1 f1 G1)⟩
  unfold wp_X10_buyin_20
  rw [nI_clamp (by omega), hG.1.2.2.2.1 s hs 5 (by omega)]
  refine ⟨nu_in (by omega) (by omega), k_needWithin (Nat.le_refl 9) hG hS (fun q1 q2 => ?_) (fun q v' f G => h3 s hs rfl (b2_1 hc) q v' f G)⟩
  rw [gd_rV_at]
  obtain ⟨u, u1, u2, e⟩ := nu_rng (a := 1) (b := Hs S.1 s 5) (by omega) (by omega) q1 q2
  subst e
  refine k_keepG (Nat.le_refl 4) hG hS (fun v1 f1 G1 => ?_)
  rw [gd_rV_at]
  have hS1 := gs_kept_ok hS
  refine k_arrange (Nat.le_refl 4) G1.1 hS.1 (fun v2 f2 O2 => ?_)
  rw [gd_rV_at]
  obtain ⟨G2, C2⟩ := gc_tool G1 hS1 f2 (by decide)
  refine k_buyIn (Nat.le_refl 41) G2.1 hS.1 O2 (hs_O_ok S.1) hs u2 (fun v3 f3 R3 => ?_)
  rw [gd_rV_at]
  obtain ⟨w1, w2⟩ := bn_W hS.1 (hs_O_ok S.1) hs u2
  have hs' : s < Hh (bn S.1 (hs_O S.1) s u) 1 := by rw [w2]; exact hs
  have f3' : frD fW pW v2 v3 := f3.W (fun k i j q => by
    rcases q with q | q
    · exact Or.inl q
    · refine Or.inr (Or.inr ?_)
      have q2 : (k, i) ∈ fp 0 := q
      have : ∀ p ∈ fp 0, p.1 ∈ [3, 4, 5, 6, 8, 16, 17, 18, 19, 20, 21, 22, 23, 24, 25, 26, 27, 28, 29, 30, 36, 37] := by decide
      exact this (k, i) q2)
  refine ⟨nu_in (by omega) (by omega), ?_⟩
  rintro _ rfl
  rw [R3.2.2.2.1 s hs' 5 (by omega)]
  exact h1 s u v3 hs rfl (b2_1 hc) u1 u2 rfl ((f1.tr C2).tr (fW_cl f3')) (gc_house G2 hS1 f3' R3)
theorem rr_buyin {x y : Int32} (hd : 42 ≤ d) (hG : gr_R v S) (hS : gs_ok S) (h1 : ∀ s u v', s < Hh S.1 1 → x = nI s → hq S.1 s = true → 1 ≤ u → u ≤ Hs S.1 s 5 → y = nI u → fre v v' → v'.1 11 0 0 = 0 → gr_R v' (gs_buyin S s u) → Q (Sum.inl (some (zI (nI (Hs (gs_buyin S s u).1 s 5))))) v') (h0 : (∀ i, i < Hh S.1 1 → ¬ x = nI i) → ∀ v', fre v v' → v'.1 11 0 0 = 1 → gr_R v' (gs_no S 0) → Q (Sum.inl (some (zI 0))) v') (h2 : ∀ s, s < Hh S.1 1 → x = nI s → hq S.1 s = false → ∀ v', fre v v' → v'.1 11 0 0 = 2 → gr_R v' (gs_no S 2) → Q (Sum.inl (some (zI 0))) v') (h3 : ∀ s, s < Hh S.1 1 → x = nI s → hq S.1 s = true → ¬ (nI 1 ≤ y ∧ y ≤ nI (Hs S.1 s 5)) → ∀ v', fre v v' → v'.1 11 0 0 = 3 → gr_R v' (gs_no S 1) → Q (Sum.inl (some (zI 0))) v') : gd_C g mX11_buyin d 0 0 [zR 11 0, zI x, zI y] v Q := by
  have h24 := hS.1.2.1
  obtain ⟨b1, b2', b3⟩ := gr_begin hG
  refine c_X11_buyin hd ?_
  rintro _ rfl
  refine r_isSale (Nat.le_refl 3) b1.1 hS.1 (fun s hs e => ?_) (fun hno => ?_)
  · subst e
    have h5 := hS.1.V.five hs
    rw [gd_rI_at]
    refine r_fine1 (by decide) b3 ⟨fun z => absurd z (by decide), fun _ => r_isAsked (Nat.le_refl 3) b1.1 hS.1 hs ?_⟩
    rw [gd_rI_at]
    cases hq1 : hq S.1 s with
    | false =>
      refine r_fine0 (k := 2) (by decide) (by decide) b3 ?_
      obtain ⟨n1, n2, n3⟩ := gr_no (c := 2) (k := 2) (by decide) b1
      exact ⟨fun _ => h2 s hs rfl hq1 _ (b2'.tr n2) n3 n1, fun z => absurd rfl z⟩
    | true =>
      refine r_fine1 (by decide) b3 ⟨fun z => absurd z (by decide), fun _ => r_of (w := 5) b1.1 hS.1 hs (by decide) (r_lies ?_)⟩
      rw [gd_rI_at, nu_l (by omega)]
      refine r_fineIf (k := 1) (by decide) (by decide) b3 (fun hp => ?_) (fun hp => ?_)
      · have hp' := (nu_lies (x := y) (a := 1) (b := Hs S.1 s 5) (by omega) (by omega)).mp hp
        obtain ⟨u, u1, u2, e⟩ := nu_rng (a := 1) (b := Hs S.1 s 5) (by omega) (by omega) hp'.1 hp'.2
        subst e
        refine ⟨fun _ => r_keepsG b1 hS (fun v3 f3 t3 G3 => ?_), fun z => absurd z (by decide)⟩
        rw [gd_rV_at]
        refine r_orders (Nat.le_refl 5) G3.1 hS.1 (fun v4 f4 O4 => ?_)
        rw [gd_rV_at]
        obtain ⟨G4, F4, T4⟩ := gr_tool G3 f4 (by decide)
        refine r_buysIn (Nat.le_refl 41) G4.1 hS.1 O4 (hs_O_ok S.1) G4.2.2.2.2.2.2 hs u2 (fun v5 f5 R5 z5 => ?_)
        rw [gd_rV_at]
        obtain ⟨w1, w2⟩ := bn_W hS.1 (hs_O_ok S.1) hs u2
        have hs' : s < Hh (bn S.1 (hs_O S.1) s u) 1 := by rw [w2]; exact hs
        have f5' : fr fV v4 v5 := f5.wk (fun k i j q => Or.inl (by
          have q : k ∈ [40, 51, 52, 53, 54, 55] := q
          simp only [List.mem_cons, List.not_mem_nil, or_false] at q ⊢
          omega))
        have t5 : v5.1 11 0 0 = 0 := by rw [f5.I (fun _ => fx_n rfl), T4, t3]; exact b3
        exact r_of (w := 5) R5 w1 hs' (by decide) (h1 s u v5 hs rfl hq1 u1 u2 rfl (((b2'.tr f3).tr F4).tr (fV_re f5')) t5 (gr_house G4 f5' R5 z5))
      · have hp' : ¬ (nI 1 ≤ y ∧ y ≤ nI (Hs S.1 s 5)) := fun q => hp ((nu_lies (x := y) (a := 1) (b := Hs S.1 s 5) (by omega) (by omega)).mpr q)
        obtain ⟨n1, n2, n3⟩ := gr_no (c := 3) (k := 1) (by decide) b1
        exact ⟨fun z => absurd rfl z, fun _ => h3 s hs rfl hq1 hp' _ (b2'.tr n2) n3 n1⟩
  · rw [gd_rI_at]
    refine r_fine0 (k := 0) (by decide) (by decide) b3 ?_
    obtain ⟨n1, n2, n3⟩ := gr_no (c := 1) (k := 0) (by decide) b1
    exact ⟨fun _ => h0 hno _ (b2'.tr n2) n3 n1, fun z => absurd rfl z⟩
end CBI
