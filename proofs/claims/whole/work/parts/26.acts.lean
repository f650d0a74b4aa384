/-! what is done to a house, on both sides -/
theorem nu_ln {n : Nat} (h : n < 2 ^ 31) : (-(nI n)).toInt64 = -(lN n) := by
  apply Int64.toInt_inj.mp
  rw [Int32.toInt_toInt64, nu_neg h, Int64.toInt_neg, lN_toInt h, Int.bmod_eq_of_le (by omega) (by omega)]
theorem nu_ladd {a u : Nat} (h : u ≤ a) : lN a + -(lN u) = lN (a - u) := by rw [← lN_sub h, Int64.sub_eq_add_neg]
theorem nu_sub {a u : Nat} (h : u ≤ a) : nI a - nI u = nI (a - u) := pk_sub h
section RA
variable {g : ab_E} {d : Nat} {v : gd_D} {Q : ab_O → gd_D → Prop} {H : hs_T}
/-- what the reference's own changes of its row leave alone -/
theorem r_adds {i j x : Nat} {c : Int64} (hR : rm_R (v.2.1 40 0) H) (hW : Hh H 0 ≤ 8 ∧ Hh H 1 ≤ 24) (hi : i < Hh H 1) (hj : j < 9) (hx : lN (Hs H i j) + c = lN x) (h : ∀ v', fr (fx [40]) v v' → rm_R (v'.2.1 40 0) (hsS H i j x) → Q (Sum.inl none) v') : gd_C g mX11_adds d 0 0 [zR 11 0, zI (nI i), zI (nI j), zJ c] v Q := by
  refine c_X11_adds (Nat.zero_le _) ?_
  unfold wp_X11_adds
  rw [nu_s, nI_clamp (by omega)]
  refine ⟨nu_in (by omega) (by omega), ?_⟩
  rintro _ rfl
  refine ⟨nu_in (by omega) (by omega), ?_⟩
  rintro _ rfl
  refine h _ (fr.sJ (fx_y rfl)) ?_
  rw [hR.2.2.2.2.1 i hi j hj, hx, sJ_row]
  exact rm_sS hR hW.1 hW.2 hi hj
theorem r_pays {a b : Nat} {c : Int64} (hR : rm_R (v.2.1 40 0) H) (h8 : Hh H 0 ≤ 8) (ha : a < Hh H 0) (hb : b < Hh H 0) (h : ∀ v', fr (fx [40]) v v' → rm_R (v'.2.1 40 0) (h_pay H a b c) → Q (Sum.inl none) v') : gd_C g mX11_pays d 0 0 [zR 11 0, zI (nI a), zI (nI b), zJ c] v Q := by
  refine c_X11_pays (Nat.zero_le _) ?_
  unfold wp_X11_pays
  rw [show ((9 : Int32) + 6 * nI a + 1) = nI (9 + 6 * a + 1) from nu_d a 1, show ((9 : Int32) + 6 * nI b + 1) = nI (9 + 6 * b + 1) from nu_d b 1, nI_clamp (by omega), nI_clamp (by omega)]
  refine ⟨nu_in (by omega) (by omega), ?_⟩
  rintro _ rfl
  refine ⟨nu_in (by omega) (by omega), ?_⟩
  rintro _ rfl
  have h1 : rm_R ((gd_sJ v 40 0 (9 + 6 * a + 1) (v.2.1 40 0 (9 + 6 * a + 1) - c)).2.1 40 0) (hsJ H a 1 (Hj H a 1 - c)) := by
    rw [sJ_row, (hR.2.2.2.1 a ha).2.2 1 (by omega) (by omega)]
    exact rm_sJ hR h8 ha (by omega) (by omega)
  refine ⟨nu_in (by omega) (by omega), ?_⟩
  rintro _ rfl
  refine ⟨nu_in (by omega) (by omega), ?_⟩
  rintro _ rfl
  refine h _ ((fr.sJ (fx_y rfl)).tr (fr.sJ (fx_y rfl))) ?_
  rw [sJ_row, (h1.2.2.2.1 b hb).2.2 1 (by omega) (by omega)]
  exact rm_sJ h1 h8 hb (by omega) (by omega)
theorem r_settles {i u w : Nat} (hd : 3 ≤ d) (hR : rm_R (v.2.1 40 0) H) (hW : hs_W H) (hi : i < Hh H 1) (hu : u ≤ Hs H i 5) (hw : w = 6 ∨ w = 7) (h : ∀ v', fr (fx [40]) v v' → rm_R (v'.2.1 40 0) (h_set H i u w) → Q (Sum.inl none) v') : gd_C g mX11_settles d 0 0 [zR 11 0, zI (nI i), zI (nI u), zI (nI w)] v Q := by
  obtain ⟨s1, s2, s0, s3, s4, s5, s6⟩ := hW.2.2.2.2.2.2.2.2.1 i hi
  have h8 := hW.1
  have h24 := hW.2.1
  have hu2 : u ≤ 1000 := by omega
  refine c_X11_settles hd ?_
  unfold wp_X11_settles
  rw [nu_ln (by omega), nu_l (by omega)]
  refine r_adds (j := 5) hR ⟨h8, h24⟩ hi (by omega) (nu_ladd hu) (fun v1 f1 R1 => ?_)
  have e1 : ∀ q, ¬ q = 5 → Hs (hsS H i 5 (Hs H i 5 - u)) i q = Hs H i q := fun q hq => hsS_ne (fun z => hq z.2)
  refine r_adds (j := w) R1 ⟨h8, h24⟩ hi (by omega) (x := Hs H i w + u) (by rw [e1 w (by omega), lN_add]) (fun v2 f2 R2 => ?_)
  have W2 : ∀ q, q < 5 → Hs (hsS (hsS H i 5 (Hs H i 5 - u)) i w (Hs H i w + u)) i q = Hs H i q := fun q hq => (hsS_ne (fun z => by omega)).trans (e1 q (by omega))
  refine r_of0 (w := 1) (by omega) (by decide) (R2.2.2.2.2.1 i hi 1 (by omega)) ?_
  refine r_of0 (w := 0) (by omega) (by decide) (R2.2.2.2.2.1 i hi 0 (by omega)) ?_
  refine r_of0 (w := 3) (by omega) (by decide) (R2.2.2.2.2.1 i hi 3 (by omega)) ?_
  rw [W2 1 (by omega), W2 0 (by omega), W2 3 (by omega)]
  rintro _ rfl
  rw [nu_l (n := Hs H i 3) (by omega)]
  exact r_pays R2 h8 s2 s1 (fun v3 f3 R3 => h v3 ((f1.tr f2).tr f3) R3)
end RA
section CA
variable {g : ab_E} {d : Nat} {v : gd_D} {Q : ab_O → gd_D → Prop} {H : hs_T} {h : Nat}
theorem fh2 {i j : Nat} : fh i 2 i j := Or.inl ⟨rfl, rfl⟩
theorem fh0 {h i j : Nat} (hi : i < 8) : fh h 0 (8 * h + i) j := Or.inr (Or.inl ⟨rfl, by omega, by omega⟩)
theorem fh9 {h i j : Nat} (hi : i < 24) : fh h 9 (24 * h + i) j := Or.inr (Or.inr ⟨rfl, by omega, by omega⟩)
theorem k_isAsked {i : Nat} (hR : cr_R v h H) (hW : hs_W H) (hi : i < Hh H 1) (hQ : Q (Sum.inl (some (zI (b2 (hq H i))))) v) : gd_C g mX2_isAsked d 0 0 [zR 2 h, zI (nI i)] v Q := by
  obtain ⟨s1, s2, s0, s3, s4, s5, s6⟩ := hW.2.2.2.2.2.2.2.2.1 i hi
  have h24 := hW.2.1
  have hday := hW.2.2.1
  refine c_X2_isAsked (Nat.zero_le _) ?_
  unfold wp_X2_isAsked
  rw [nI_clamp (by omega)]
  refine ⟨nu_in (by omega) (by omega), ?_⟩
  rintro _ rfl
  rw [hR.2.2.2.1 i hi 4 (by omega), hR.2.2.2.1 i hi 5 (by omega), show v.1 2 h 4 = nI (Hh H 2) from hR.1 2 (by omega)]
  refine ⟨fun hc => ?_, fun hc => ⟨nu_in (by omega) (by omega), ?_⟩⟩
  · rw [nI_ltI (by omega) (by omega)] at hc
    rw [show hq H i = false from by unfold hq; rw [decide_eq_false (by omega)]; rfl] at hQ
    exact hQ
  · rw [nI_ltI (by omega) (by omega)] at hc
    rintro _ rfl
    refine ⟨fun hc2 => ?_, fun hc2 => ?_⟩
    · rw [nu_I 0, nI_leI (by omega) (by omega)] at hc2
      have e : Hs H i 5 = 0 := by omega
      rw [show hq H i = false from by unfold hq; rw [e]; simp] at hQ
      exact hQ
    · rw [nu_I 0, nI_leI (by omega) (by omega)] at hc2
      rw [show hq H i = true from by unfold hq; rw [decide_eq_true (show 0 < Hs H i 5 by omega), decide_eq_true (by omega)]; rfl] at hQ
      exact hQ
theorem k_pay {i u : Nat} (hR : cr_R v h H) (hW : hs_W H) (hi : i < Hh H 1) (hu : u ≤ Hs H i 5) (hQ : ∀ v', fr (fh h) v v' → cr_R v' h (h_pay (hsS H i 5 (Hs H i 5 - u)) (Hs H i 1) (Hs H i 0) (lN u * lN (Hs H i 3))) → Q (Sum.inl none) v') : gd_C g mX2_payForUnits d 0 0 [zR 2 h, zR 9 (24 * h + i), zI (nI u)] v Q := by
  obtain ⟨s1, s2, s0, s3, s4, s5, s6⟩ := hW.2.2.2.2.2.2.2.2.1 i hi
  have h24 := hW.2.1
  have h8 := hW.1
  refine c_X2_payForUnits (Nat.zero_le _) ?_
  rintro _ rfl
  rw [hR.2.2.2.1 i hi 1 (by omega), hR.2.2.2.1 i hi 3 (by omega), nI_clamp (by omega), nu_l (by omega), nu_l (by omega)]
  refine ⟨nu_in (by omega) (by omega), ?_⟩
  rintro _ rfl
  rintro _ rfl
  have R1 : cr_R (gd_sJ v 0 (8 * h + Hs H i 1) 1 (v.2.1 0 (8 * h + Hs H i 1) 1 - lN u * lN (Hs H i 3))) h (hsJ H (Hs H i 1) 1 (Hj H (Hs H i 1) 1 - lN u * lN (Hs H i 3))) := by
    rw [(hR.2.2.1 _ s2).2.2 1 (by omega) (by omega)]
    exact cr_sJ hR s2 (by omega) (by omega)
  rw [show (gd_sJ v 0 (8 * h + Hs H i 1) 1 (v.2.1 0 (8 * h + Hs H i 1) 1 - lN u * lN (Hs H i 3))).1 9 (24 * h + i) 0 = nI (Hs H i 0) from hR.2.2.2.1 i hi 0 (by omega), nI_clamp (by omega)]
  refine ⟨nu_in (by omega) (by omega), ?_⟩
  rintro _ rfl
  rintro _ rfl
  rintro _ rfl
  have R2 := cr_sJ (x := (gd_sJ v 0 (8 * h + Hs H i 1) 1 (v.2.1 0 (8 * h + Hs H i 1) 1 - lN u * lN (Hs H i 3))).2.1 0 (8 * h + Hs H i 0) 1 + lN u * lN (Hs H i 3)) R1 (i := Hs H i 0) (j := 1) s1 (by omega) (by omega)
  rw [(R1.2.2.1 _ s1).2.2 1 (by omega) (by omega)] at R2
  refine hQ _ (((fr.sJ (fh0 (by omega))).tr (fr.sJ (fh0 (by omega)))).tr (fr.sI (fh9 (by omega)))) ?_
  rw [show (gd_sJ (gd_sJ v 0 (8 * h + Hs H i 1) 1 (v.2.1 0 (8 * h + Hs H i 1) 1 - lN u * lN (Hs H i 3))) 0 (8 * h + Hs H i 0) 1 ((gd_sJ v 0 (8 * h + Hs H i 1) 1 (v.2.1 0 (8 * h + Hs H i 1) 1 - lN u * lN (Hs H i 3))).2.1 0 (8 * h + Hs H i 0) 1 + lN u * lN (Hs H i 3))).1 9 (24 * h + i) 5 = nI (Hs H i 5) from hR.2.2.2.1 i hi 5 (by omega), nu_sub hu]
  rw [(R1.2.2.1 _ s1).2.2 1 (by omega) (by omega)]
  exact cr_sS R2 h24 hi (by omega)
theorem k_ring {i u : Nat} (hd : 3 ≤ d) (hR : cr_R v h H) (hW : hs_W H) (hi : i < Hh H 1) (hu : u ≤ Hs H i 5) (hQ : ∀ v', fr (fh h) v v' → cr_R v' h (h_set H i u 6) → Q (Sum.inl none) v') : gd_C g mX2_settleInRing d 0 0 [zR 2 h, zI (nI i), zI (nI u)] v Q := by
  have h24 := hW.2.1
  refine c_X2_settleInRing hd ?_
  unfold wp_X2_settleInRing
  rw [nI_clamp (by omega)]
  refine ⟨nu_in (by omega) (by omega), k_pay hR hW hi hu (fun v1 f1 R1 => ⟨nu_in (by omega) (by omega), ?_⟩)⟩
  rintro _ rfl
  rintro _ rfl
  refine hQ _ (f1.tr (fr.sI (fh9 (by omega)))) ?_
  rw [R1.2.2.2.1 i hi 6 (by omega), show Hs (h_pay (hsS H i 5 (Hs H i 5 - u)) (Hs H i 1) (Hs H i 0) (lN u * lN (Hs H i 3))) i 6 = Hs H i 6 from hsS_ne (by omega), nI_add]
  exact cr_sS R1 h24 hi (by omega)
theorem k_deliver {i u : Nat} (hd : 3 ≤ d) (hR : cr_R v h H) (hW : hs_W H) (hi : i < Hh H 1) (hu : u ≤ Hs H i 5) (hst : u ≤ Hd H (Hs H i 0) 0) (hQ : ∀ v', fr (fh h) v v' → cr_R v' h (h_del H i u) → Q (Sum.inl none) v') : gd_C g mX2_deliver d 0 0 [zR 2 h, zI (nI i), zI (nI u)] v Q := by
  obtain ⟨s1, s2, s0, s3, s4, s5, s6⟩ := hW.2.2.2.2.2.2.2.2.1 i hi
  have h24 := hW.2.1
  have h8 := hW.1
  have hst2 := (hW.2.2.2.2.2.2.2.1 _ s1).1
  have hu24 := hW.used
  refine c_X2_deliver hd ?_
  unfold wp_X2_deliver
  rw [nI_clamp (by omega)]
  refine ⟨nu_in (by omega) (by omega), k_pay hR hW hi hu (fun v1 f1 R1 => ⟨nu_in (by omega) (by omega), ?_⟩)⟩
  rintro _ rfl
  rintro _ rfl
  have e7 : Hs (h_pay (hsS H i 5 (Hs H i 5 - u)) (Hs H i 1) (Hs H i 0) (lN u * lN (Hs H i 3))) i 7 = Hs H i 7 := hsS_ne (by omega)
  rw [R1.2.2.2.1 i hi 7 (by omega), e7, nI_add]
  have R2 : cr_R (gd_sI v1 9 (24 * h + i) 7 (nI (Hs H i 7 + u))) h (h_set H i u 7) := cr_sS R1 h24 hi (by omega)
  have q0 : Hs (h_set H i u 7) i 0 = Hs H i 0 := (hsS_ne (by omega)).trans (hsS_ne (by omega))
  have q1 : Hs (h_set H i u 7) i 1 = Hs H i 1 := (hsS_ne (by omega)).trans (hsS_ne (by omega))
  refine ⟨nu_in (by omega) (by omega), ?_⟩
  rintro _ rfl
  rw [R2.2.2.2.1 i hi 0 (by omega), q0, nI_clamp (by omega)]
  refine ⟨nu_in (by omega) (by omega), ?_⟩
  rintro _ rfl
  rintro _ rfl
  rw [(R2.2.2.1 _ s1).1, nu_sub (show u ≤ Hd (h_set H i u 7) (Hs H i 0) 0 from hst)]
  have R3 := cr_sD (i := Hs H i 0) (j := 0) (x := Hd (h_set H i u 7) (Hs H i 0) 0 - u) R2 s1 (Or.inl rfl)
  refine ⟨nu_in (by omega) (by omega), ?_⟩
  rintro _ rfl
  rw [R3.2.2.2.1 i hi 1 (by omega), show Hs (hsD (h_set H i u 7) (Hs H i 0) 0 (Hd (h_set H i u 7) (Hs H i 0) 0 - u)) i 1 = Hs H i 1 from q1, nI_clamp (by omega)]
  refine ⟨nu_in (by omega) (by omega), ?_⟩
  rintro _ rfl
  rintro _ rfl
  rw [(R3.2.2.1 _ s2).1, nI_add]
  exact hQ _ ((((f1.tr (fr.sI (fh9 (by omega)))).tr (fr.sI (fh0 (by omega))))).tr (fr.sI (fh0 (by omega)))) (cr_sD R3 s2 (Or.inl rfl))
theorem k_ppen {i : Nat} {c : Int64} (hR : cr_R v h H) (hW : hs_W H) (hi : i < Hh H 1) (hQ : ∀ v', fr (fh h) v v' → cr_R v' h (h_ppen H i c) → Q (Sum.inl none) v') : gd_C g mX2_payPenalty d 0 0 [zR 2 h, zI (nI i), zJ c] v Q := by
  obtain ⟨s1, s2, s0, s3, s4, s5, s6⟩ := hW.2.2.2.2.2.2.2.2.1 i hi
  have h24 := hW.2.1
  have h8 := hW.1
  refine c_X2_payPenalty (Nat.zero_le _) ?_
  unfold wp_X2_payPenalty
  rw [nI_clamp (by omega)]
  refine ⟨nu_in (by omega) (by omega), ?_⟩
  rintro _ rfl
  rw [hR.2.2.2.1 i hi 0 (by omega), hR.2.2.2.1 i hi 1 (by omega), nI_clamp (by omega)]
  refine ⟨nu_in (by omega) (by omega), nu_in (by omega) (by omega), ?_⟩
  rintro _ rfl
  rw [nI_clamp (by omega)]
  refine ⟨nu_in (by omega) (by omega), ?_⟩
  rintro _ rfl
  rintro _ rfl
  rw [(hR.2.2.1 _ s1).2.2 1 (by omega) (by omega)]
  have R1 := cr_sJ (i := Hs H i 0) (j := 1) (x := Hj H (Hs H i 0) 1 - c) hR s1 (by omega) (by omega)
  rintro _ rfl
  rintro _ rfl
  rw [(R1.2.2.1 _ s1).2.2 2 (by omega) (by omega), hsJ_ne (by omega)]
  have R2 := cr_sJ (i := Hs H i 0) (j := 2) (x := Hj H (Hs H i 0) 2 + c) R1 s1 (by omega) (by omega)
  rintro _ rfl
  rintro _ rfl
  rw [(R2.2.2.1 _ s2).2.2 1 (by omega) (by omega), hsJ_ne (by omega), hsJ_ne (by omega)]
  have R3 := cr_sJ (i := Hs H i 1) (j := 1) (x := Hj H (Hs H i 1) 1 + c) R2 s2 (by omega) (by omega)
  rintro _ rfl
  rintro _ rfl
  rw [(R3.2.2.1 _ s2).2.2 3 (by omega) (by omega), hsJ_ne (by omega), hsJ_ne (by omega), hsJ_ne (by omega)]
  have R4 := cr_sJ (i := Hs H i 1) (j := 3) (x := Hj H (Hs H i 1) 3 + c) R3 s2 (by omega) (by omega)
  refine hQ _ ((((fr.sJ (fh0 (by omega))).tr (fr.sJ (fh0 (by omega)))).tr (fr.sJ (fh0 (by omega)))).tr (fr.sJ (fh0 (by omega)))) ?_
  have e : h_ppen H i c = hsJ (hsJ (hsJ (hsJ H (Hs H i 0) 1 (Hj H (Hs H i 0) 1 - c)) (Hs H i 0) 2 (Hj H (Hs H i 0) 2 + c)) (Hs H i 1) 1 (Hj H (Hs H i 1) 1 + c)) (Hs H i 1) 3 (Hj H (Hs H i 1) 3 + c) := by
    unfold h_ppen h_pay
    dsimp only
    rw [hsJ_ne (by omega), hsJ_com (i := Hs H i 1) (j := 1) (a := Hs H i 0) (b := 2) (by omega)]
  rw [e]; exact R4
theorem k_buyo {i u : Nat} (hR : cr_R v h H) (hW : hs_W H) (hi : i < Hh H 1) (hu : u ≤ 1000) (hQ : ∀ v', fr (fh h) v v' → cr_R v' h (h_buyo H i u) → Q (Sum.inl none) v') : gd_C g mX2_buyOutside d 0 0 [zR 2 h, zI (nI i), zI (nI u)] v Q := by
  obtain ⟨s1, s2, s0, s3, s4, s5, s6⟩ := hW.2.2.2.2.2.2.2.2.1 i hi
  have h24 := hW.2.1
  have h8 := hW.1
  have hmk := hW.2.2.2.1
  refine c_X2_buyOutside (Nat.zero_le _) ?_
  unfold wp_X2_buyOutside
  rw [nI_clamp (by omega)]
  refine ⟨nu_in (by omega) (by omega), ?_⟩
  rintro _ rfl
  rw [hR.2.2.2.1 i hi 1 (by omega), nI_clamp (by omega), show v.1 2 h 5 = nI (Hh H 3) from hR.1 3 (by omega), nu_l (by omega), nu_l (by omega)]
  refine ⟨nu_in (by omega) (by omega), ?_⟩
  rintro _ rfl
  rintro _ rfl
  rintro _ rfl
  rw [(hR.2.2.1 _ s2).1, nI_add]
  have R1 := cr_sD (i := Hs H i 1) (j := 0) (x := Hd H (Hs H i 1) 0 + u) hR s2 (Or.inl rfl)
  rintro _ rfl
  rintro _ rfl
  rw [(R1.2.2.1 _ s2).2.1, hsD_ne (by omega), nI_add]
  have R2 := cr_sD (i := Hs H i 1) (j := 5) (x := Hd H (Hs H i 1) 5 + u) R1 s2 (Or.inr rfl)
  rintro _ rfl
  rintro _ rfl
  rw [(R2.2.2.1 _ s2).2.2 1 (by omega) (by omega)]
  have R3 := cr_sJ (i := Hs H i 1) (j := 1) (x := Hj H (Hs H i 1) 1 - lN u * lN (Hh H 3)) R2 s2 (by omega) (by omega)
  rintro _ rfl
  have R4 := cr_sO (x := (gd_sJ (gd_sI (gd_sI v 0 (8 * h + Hs H i 1) 0 (nI (Hd H (Hs H i 1) 0 + u))) 0 (8 * h + Hs H i 1) 5 (nI (Hd H (Hs H i 1) 5 + u))) 0 (8 * h + Hs H i 1) 1 (Hj H (Hs H i 1) 1 - lN u * lN (Hh H 3))).2.1 2 h 9 + lN u * lN (Hh H 3)) R3
  rw [R3.2.1] at R4
  refine hQ _ ((((fr.sI (fh0 (by omega))).tr (fr.sI (fh0 (by omega)))).tr (fr.sJ (fh0 (by omega)))).tr (fr.sJ fh2)) ?_
  rw [show Hj (hsD (hsD H (Hs H i 1) 0 (Hd H (Hs H i 1) 0 + u)) (Hs H i 1) 5 (Hd H (Hs H i 1) 5 + u)) (Hs H i 1) 1 = Hj H (Hs H i 1) 1 from rfl, R3.2.1]
  exact R4
theorem nu_max {a b : Nat} (ha : a < 2 ^ 30) (hb : b < 2 ^ 30) : (if (0 : Int32) < nI a - nI b then nI a - nI b else 0) = nI (a - b) := by
  by_cases h : b < a
  · rw [nu_sub (by omega), if_pos (by rw [nu_I 0]; exact nI_lt (by omega) (by omega))]
  · rw [if_neg, show a - b = 0 from by omega]
    · rfl
    · rw [Int32.lt_iff_toInt_lt, pk_sub_toInt ha hb]
      have : (0 : Int32).toInt = 0 := by decide
      omega
theorem k_close {i u : Nat} (hd : 3 ≤ d) (hR : cr_R v h H) (hW : hs_V H) (hi : i < Hh H 1) (hu : u ≤ Hs H i 5) (hQ : ∀ v', fr (fh h) v v' → cr_R v' h (h_close H i u) → Q (Sum.inl none) v') : gd_C g mX2_close d 0 0 [zR 2 h, zI (nI i), zI (nI u)] v Q := by
  obtain ⟨s1, s2, s0, s3, s4, s5, s6⟩ := hW.2.2.2.2.2.2.2.2.1 i hi
  have h24 := hW.2.1
  have h8 := hW.1
  have hmk := hW.2.2.2.1
  refine c_X2_close hd ?_
  unfold wp_X2_close
  rw [nI_clamp (by omega)]
  refine ⟨nu_in (by omega) (by omega), ?_⟩
  rintro _ rfl
  rw [hR.2.2.2.1 i hi 0 (by omega), nI_clamp (by omega)]
  refine ⟨nu_in (by omega) (by omega), nu_in (by omega) (by omega), ?_⟩
  rintro _ rfl
  rw [hR.2.2.2.1 i hi 3 (by omega), show v.1 2 h 5 = nI (Hh H 3) from hR.1 3 (by omega)]
  refine c_maxI ?_
  rw [nu_max (by omega) (by omega)]
  rintro _ rfl
  rw [nu_l (by omega), nu_l (by omega)]
  rintro _ rfl
  rintro _ rfl
  rw [(hR.2.2.1 _ s1).2.2 1 (by omega) (by omega)]
  have R1 := cr_sJ (i := Hs H i 0) (j := 1) (x := Hj H (Hs H i 0) 1 - lN u * lN (Hh H 3 - Hs H i 3)) hR s1 (by omega) (by omega)
  rintro _ rfl
  rintro _ rfl
  rw [(R1.2.2.1 _ s1).2.2 4 (by omega) (by omega), hsJ_ne (by omega)]
  have R2 := cr_sJ (i := Hs H i 0) (j := 4) (x := Hj H (Hs H i 0) 4 + lN u * lN (Hh H 3 - Hs H i 3)) R1 s1 (by omega) (by omega)
  refine ⟨nu_in (by omega) (by omega), ?_⟩
  rintro _ rfl
  rw [R2.2.2.2.1 i hi 1 (by omega), show Hs (hsJ (hsJ H (Hs H i 0) 1 (Hj H (Hs H i 0) 1 - lN u * lN (Hh H 3 - Hs H i 3))) (Hs H i 0) 4 (Hj H (Hs H i 0) 4 + lN u * lN (Hh H 3 - Hs H i 3))) i 1 = Hs H i 1 from rfl, nI_clamp (by omega)]
  refine ⟨nu_in (by omega) (by omega), ?_⟩
  rintro _ rfl
  rintro _ rfl
  rw [(R2.2.2.1 _ s2).2.2 1 (by omega) (by omega), hsJ_ne (by omega), hsJ_ne (by omega)]
  have R3 := cr_sJ (i := Hs H i 1) (j := 1) (x := Hj H (Hs H i 1) 1 + lN u * lN (Hh H 3 - Hs H i 3)) R2 s2 (by omega) (by omega)
  refine ⟨nu_in (by omega) (by omega), ?_⟩
  rintro _ rfl
  rintro _ rfl
  rw [R3.2.2.2.1 i hi 5 (by omega), show Hs (hsJ (hsJ (hsJ H (Hs H i 0) 1 (Hj H (Hs H i 0) 1 - lN u * lN (Hh H 3 - Hs H i 3))) (Hs H i 0) 4 (Hj H (Hs H i 0) 4 + lN u * lN (Hh H 3 - Hs H i 3))) (Hs H i 1) 1 (Hj H (Hs H i 1) 1 + lN u * lN (Hh H 3 - Hs H i 3))) i 5 = Hs H i 5 from rfl, nu_sub hu]
  have R4 := cr_sS (i := i) (j := 5) (x := Hs H i 5 - u) R3 h24 hi (by omega)
  refine ⟨nu_in (by omega) (by omega), ?_⟩
  rintro _ rfl
  rintro _ rfl
  rw [R4.2.2.2.1 i hi 8 (by omega), hsS_ne (by omega), show Hs (hsJ (hsJ (hsJ H (Hs H i 0) 1 (Hj H (Hs H i 0) 1 - lN u * lN (Hh H 3 - Hs H i 3))) (Hs H i 0) 4 (Hj H (Hs H i 0) 4 + lN u * lN (Hh H 3 - Hs H i 3))) (Hs H i 1) 1 (Hj H (Hs H i 1) 1 + lN u * lN (Hh H 3 - Hs H i 3))) i 8 = Hs H i 8 from rfl, nI_add]
  have R5 := cr_sS (i := i) (j := 8) (x := Hs H i 8 + u) R4 h24 hi (by omega)
  refine hQ _ (((((fr.sJ (fh0 (by omega))).tr (fr.sJ (fh0 (by omega)))).tr (fr.sJ (fh0 (by omega)))).tr (fr.sI (fh9 (by omega)))).tr (fr.sI (fh9 (by omega)))) ?_
  have e : h_close H i u = hsS (hsS (hsJ (hsJ (hsJ H (Hs H i 0) 1 (Hj H (Hs H i 0) 1 - lN u * lN (Hh H 3 - Hs H i 3))) (Hs H i 0) 4 (Hj H (Hs H i 0) 4 + lN u * lN (Hh H 3 - Hs H i 3))) (Hs H i 1) 1 (Hj H (Hs H i 1) 1 + lN u * lN (Hh H 3 - Hs H i 3))) i 5 (Hs H i 5 - u)) i 8 (Hs H i 8 + u) := by
    unfold h_close h_pay
    dsimp only
    rw [hsJ_ne (by omega), hsJ_com (i := Hs H i 1) (j := 1) (a := Hs H i 0) (b := 4) (by omega)]
    rfl
  rw [e]; exact R5
end CA
