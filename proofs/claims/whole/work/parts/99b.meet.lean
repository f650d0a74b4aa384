/-! THE LAW: the calls that only read -/
section MU
variable {g : ab_E} {d bc bs j : Nat} {v : gd_D} {Q : ab_O → gd_D → Prop} {S : gs_T}
theorem sL_outside (hI : lw_I v S) (hd : 46 ≤ d) (hj : j + 5 < v.2.2.2.2.2) (hl : v.2.2.2.2.2 ≤ 3072) (nx : lw_nx g d bc bs j v Q) : gd_G g mL_law d bc bs 1405 (lw_LL j) [] v Q := by
  obtain ⟨c, r, ok, hB, l0⟩ := hI
  refine eL_outside (dy := 44) (dz := 44) (my := 0) (sy := 0) (by omega) (by omega) (by omega) hj hl ⟨Nat.zero_le _, Nat.zero_le _⟩ (k_outside c ?_)
  rw [gd_rJ_at]
  refine ⟨rfl, rr_outside r (fun v2 f2 t2 G2 => ?_)⟩
  rw [gd_rJ_at]
  obtain ⟨i1, i2, i3⟩ := lw_finX fcl.rf c f2 G2 ok hB l0
  exact ⟨rfl, nx v2 S i1 i2 i3⟩
theorem sL_mean (hI : lw_I v S) (hd : 46 ≤ d) (hj : j + 5 < v.2.2.2.2.2) (hl : v.2.2.2.2.2 ≤ 3072) (nx : lw_nx g d bc bs j v Q) : gd_G g mL_law d bc bs 1391 (lw_LL j) [] v Q := by
  obtain ⟨c, r, ok, hB, l0⟩ := hI
  refine eL_mean (dy := 44) (dz := 44) (my := 0) (sy := 0) (by omega) (by omega) (by omega) hj hl ⟨Nat.zero_le _, Nat.zero_le _⟩ (k_mean (by decide) c ok ?_)
  rw [gd_rJ_at]
  refine ⟨rfl, rr_mean (by decide) r ok (fun v2 f2 G2 => ?_)⟩
  rw [gd_rJ_at]
  obtain ⟨i1, i2, i3⟩ := lw_finX fcl.rf c f2 G2 ok hB l0
  exact ⟨rfl, nx v2 S i1 i2 i3⟩
theorem sL_print (hI : lw_I v S) (hd : 46 ≤ d) (hj : j + 5 < v.2.2.2.2.2) (hl : v.2.2.2.2.2 ≤ 3072) (nx : lw_nx g d bc bs j v Q) : gd_G g mL_law d bc bs 1419 (lw_LL j) [] v Q := by
  obtain ⟨c, r, ok, hB, l0⟩ := hI
  refine eL_print (dy := 44) (dz := 44) (my := 0) (sy := 0) (by omega) (by omega) (by omega) hj hl ⟨Nat.zero_le _, Nat.zero_le _⟩ (k_print c ok ?_)
  rw [gd_rJ_at]
  refine ⟨rfl, rr_print (by decide) r ok (fun v2 f2 t2 G2 => ?_)⟩
  rw [gd_rJ_at]
  obtain ⟨i1, i2, i3⟩ := lw_finX fcl.rf c f2 G2 ok hB l0
  exact ⟨rfl, nx v2 S i1 i2 i3⟩
theorem sL_status (hI : lw_I v S) (hd : 46 ≤ d) (hj : j + 5 < v.2.2.2.2.2) (hl : v.2.2.2.2.2 ≤ 3072) (nx : lw_nx g d bc bs j v Q) : gd_G g mL_law d bc bs 1433 (lw_LL j) [] v Q := by
  obtain ⟨c, r, ok, hB, l0⟩ := hI
  refine eL_status (dy := 44) (dz := 44) (my := 0) (sy := 0) (by omega) (by omega) (by omega) hj hl ⟨Nat.zero_le _, Nat.zero_le _⟩ (k_status c (fun k hk e => ?_) (fun q => ?_))
  · rw [gd_rI_at]
    refine ⟨rfl, rr_status (by decide) r (fun k' v2 hk' e' f2 t2 G2 => ?_) (fun q => absurd (by rw [e]; exact nu_mid (Nat.zero_le _) (by omega) (by omega)) q)⟩
    have en := nu_inj (by omega) (by omega) (e.symm.trans e')
    subst en
    rw [gd_rI_at]
    obtain ⟨i1, i2, i3⟩ := lw_finX fcl.rf c f2 G2 ok hB l0
    exact ⟨rfl, nx v2 S i1 i2 i3⟩
  · rw [gd_rI_at]
    refine ⟨rfl, rr_status (by decide) r (fun k' v2 hk' e' f2 t2 G2 => absurd (by rw [e']; exact nu_mid (Nat.zero_le _) (by omega) (by omega)) q) (fun _ v2 f2 t2 G2 => ?_)⟩
    rw [gd_rI_at]
    obtain ⟨i1, i2, i3⟩ := lw_finX fcl.rf c f2 G2 ok hB l0
    exact ⟨rfl, nx v2 S i1 i2 i3⟩
theorem sL_foretold (hN : ab_N g) (hI : lw_I v S) (hd : 46 ≤ d) (hj : j + 5 < v.2.2.2.2.2) (hl : v.2.2.2.2.2 ≤ 3072) (hb : 1 ≤ bc ∧ 6 ≤ bs) (nx : lw_nx g d (bc - 1) (bs - 6) j v Q) : gd_G g mL_law d bc bs 1212 (lw_LL j) [] v Q := by
  obtain ⟨c, r, ok, hB, l0⟩ := hI
  refine eL_foretold (dy := 45) (dz := 44) (my := 1) (sy := 6) (by omega) (by omega) (by omega) hj hl hb (uL_foretold (dy := 44) hN (Nat.le_refl _) (k_foretold (by decide) c ok (fun n v1 h1 h2 e f G => ?_) (fun q v1 f G => ?_)))
  · rw [gd_rI_at, gd_rI_at]
    refine ⟨f.2.1, ?_⟩
    show gd_C g mX11_foretold 44 0 0 [zR 11 0, zI (v1.1 63 0 (j + 1))] _ _
    rw [(f.1 63 0 (j + 1) (by omega)).1]
    refine rr_foretold (by decide) (gr_out (r.keep f)) ok (fun n' v2 h1' h2' e' f2 t2 G2 => ?_) (fun q' => absurd (by rw [e]; exact nu_mid (by omega) (by omega) (by omega)) q')
    have un := nu_inj (by have := ok.1.1; have := ok.1.2.1; omega) (by have := ok.1.1; have := ok.1.2.1; omega) (e.symm.trans e')
    subst un
    rw [gd_rI_at]
    refine lw_th t2 ?_
    rw [gd_rI_at]
    obtain ⟨i1, i2, i3, i4⟩ := lw_fin f G f2 G2 ok hB l0
    exact ⟨rfl, fun _ => i4, nx v2 S i1 i2 i3⟩
  · refine ⟨rfl, ?_⟩
    rw [gd_rI_at]
    refine ⟨f.2.1, ?_⟩
    rw [(f.1 63 0 (j + 1) (by omega)).1]
    refine rr_foretold (by decide) (r.keep f) ok (fun n' v2 h1' h2' e' f2 t2 G2 => absurd (by rw [e']; exact nu_mid (by omega) (by omega) (by omega)) q) (fun q' v2 f2 t2 G2 => ?_)
    rw [gd_rI_at]
    refine lw_th t2 ?_
    rw [gd_rI_at]
    obtain ⟨i1, i2, i3⟩ := lw_finX f G f2 G2 (gs_no_ok ok) (gs_no_by hB) l0
    exact ⟨rfl, fun z => absurd z (by decide), nx v2 _ i1 i2 i3⟩
theorem sL_rule (hN : ab_N g) (hI : lw_I v S) (hd : 46 ≤ d) (hj : j + 5 < v.2.2.2.2.2) (hl : v.2.2.2.2.2 ≤ 3072) (hb : 1 ≤ bc ∧ 6 ≤ bs) (nx : lw_nx g d (bc - 1) (bs - 6) j v Q) : gd_G g mL_law d bc bs 842 (lw_LL j) [] v Q := by
  obtain ⟨c, r, ok, hB, l0⟩ := hI
  refine eL_rule (dy := 45) (dz := 44) (my := 1) (sy := 6) (by omega) (by omega) (by omega) hj hl hb (uL_rule (dy := 44) hN (Nat.le_refl _) (k_rule (by decide) c ok (fun s v1 hs e f G => ?_) (fun q v1 f G => ?_)))
  · rw [gd_rJ_at, gd_rI_at]
    refine ⟨f.2.1, ?_⟩
    show gd_C g mX11_rule 44 0 0 [zR 11 0, zI (v1.1 63 0 (j + 1))] _ _
    rw [(f.1 63 0 (j + 1) (by omega)).1]
    refine rr_rule (by decide) (gr_out (r.keep f)) ok (fun s' v2 hs' e' f2 t2 G2 => ?_) (fun q' => absurd e (q' s hs))
    have us := nu_inj (by have := ok.1.1; have := ok.1.2.1; omega) (by have := ok.1.1; have := ok.1.2.1; omega) (e.symm.trans e')
    subst us
    rw [gd_rJ_at]
    refine lw_th t2 ?_
    rw [gd_rI_at]
    obtain ⟨i1, i2, i3, i4⟩ := lw_fin f G f2 G2 ok hB l0
    exact ⟨rfl, fun _ => i4, nx v2 S i1 i2 i3⟩
  · refine ⟨rfl, ?_⟩
    rw [gd_rI_at]
    refine ⟨f.2.1, ?_⟩
    rw [(f.1 63 0 (j + 1) (by omega)).1]
    refine rr_rule (by decide) (r.keep f) ok (fun s' v2 hs' e' f2 t2 G2 => absurd e' (q s' hs')) (fun q' v2 f2 t2 G2 => ?_)
    rw [gd_rJ_at]
    refine lw_th t2 ?_
    rw [gd_rI_at]
    obtain ⟨i1, i2, i3⟩ := lw_finX f G f2 G2 (gs_no_ok ok) (gs_no_by hB) l0
    exact ⟨rfl, fun z => absurd z (by decide), nx v2 _ i1 i2 i3⟩
theorem sL_parts (hN : ab_N g) (hI : lw_I v S) (hd : 46 ≤ d) (hj : j + 5 < v.2.2.2.2.2) (hl : v.2.2.2.2.2 ≤ 3072) (hb : 1 ≤ bc ∧ 6 ≤ bs) (nx : lw_nx g d (bc - 1) (bs - 6) j v Q) : gd_G g mL_law d bc bs 977 (lw_LL j) [] v Q := by
  obtain ⟨c, r, ok, hB, l0⟩ := hI
  refine eL_parts (dy := 45) (dz := 44) (my := 1) (sy := 6) (by omega) (by omega) (by omega) hj hl hb (uL_parts (dy := 44) hN (Nat.le_refl _) (k_parts (by decide) c ok (fun s v1 hs e f G => ?_) (fun q v1 f G => ?_)))
  · rw [gd_rI_at, gd_rI_at]
    refine ⟨f.2.1, ?_⟩
    show gd_C g mX11_parts 44 0 0 [zR 11 0, zI (v1.1 63 0 (j + 1))] _ _
    rw [(f.1 63 0 (j + 1) (by omega)).1]
    refine rr_parts (by decide) (gr_out (r.keep f)) ok (fun s' v2 hs' e' f2 t2 G2 => ?_) (fun q' => absurd e (q' s hs))
    have us := nu_inj (by have := ok.1.1; have := ok.1.2.1; omega) (by have := ok.1.1; have := ok.1.2.1; omega) (e.symm.trans e')
    subst us
    rw [gd_rI_at]
    refine lw_th t2 ?_
    rw [gd_rI_at]
    obtain ⟨i1, i2, i3, i4⟩ := lw_fin f G f2 G2 ok hB l0
    exact ⟨rfl, fun _ => i4, nx v2 S i1 i2 i3⟩
  · refine ⟨rfl, ?_⟩
    rw [gd_rI_at]
    refine ⟨f.2.1, ?_⟩
    rw [(f.1 63 0 (j + 1) (by omega)).1]
    refine rr_parts (by decide) (r.keep f) ok (fun s' v2 hs' e' f2 t2 G2 => absurd e' (q s' hs')) (fun q' v2 f2 t2 G2 => ?_)
    rw [gd_rI_at]
    refine lw_th t2 ?_
    rw [gd_rI_at]
    obtain ⟨i1, i2, i3⟩ := lw_finX f G f2 G2 (gs_no_ok ok) (gs_no_by hB) l0
    exact ⟨rfl, fun z => absurd z (by decide), nx v2 _ i1 i2 i3⟩
theorem sL_dealer (hN : ab_N g) (hI : lw_I v S) (hd : 46 ≤ d) (hj : j + 5 < v.2.2.2.2.2) (hl : v.2.2.2.2.2 ≤ 3072) (hb : 2 ≤ bc ∧ 12 ≤ bs) (nx : lw_nx g d (bc - 2) (bs - 12) j v Q) : gd_G g mL_law d bc bs 707 (lw_LL j) [] v Q := by
  obtain ⟨c, r, ok, hB, l0⟩ := hI
  refine eL_dealer (dy := 45) (dz := 44) (my := 2) (sy := 12) (by omega) (by omega) (by omega) hj hl hb (uL_dealer (dy := 44) hN (Nat.le_refl _) (k_dealer (by decide) c ok (fun s n v1 hs e hn e2 f G => ?_) (fun q v1 f G => ?_) (fun s hs e q2 v1 f G => ?_)))
  · rw [gd_rJ_at, gd_rI_at]
    refine ⟨f.2.1, ?_⟩
    show gd_C g mX11_dealer 44 0 0 [zR 11 0, zI (v1.1 63 0 (j + 1)), zI (v1.1 63 0 (j + 2))] _ _
    rw [(f.1 63 0 (j + 1) (by omega)).1, (f.1 63 0 (j + 2) (by omega)).1]
    refine rr_dealer (by decide) (gr_out (r.keep f)) ok (fun s' n' v2 hs' e' hn' e2' f2 t2 G2 => ?_) (fun q' => absurd e (q' s hs)) (fun s' hs' e' q2' => absurd (by rw [e2]; exact nu_mid (by omega) (by omega) (by omega)) q2')
    have us := nu_inj (by have := ok.1.1; have := ok.1.2.1; omega) (by have := ok.1.1; have := ok.1.2.1; omega) (e.symm.trans e')
    subst us
    have un := nu_inj (by have := ok.1.1; have := ok.1.2.1; omega) (by have := ok.1.1; have := ok.1.2.1; omega) (e2.symm.trans e2')
    subst un
    rw [gd_rJ_at]
    refine lw_th t2 ?_
    rw [gd_rI_at]
    obtain ⟨i1, i2, i3, i4⟩ := lw_fin f G f2 G2 ok hB l0
    exact ⟨rfl, fun _ => i4, nx v2 S i1 i2 i3⟩
  · refine Or.inl ⟨rfl, ?_⟩
    rw [gd_rI_at]
    refine ⟨f.2.1, ?_⟩
    rw [(f.1 63 0 (j + 1) (by omega)).1, (f.1 63 0 (j + 2) (by omega)).1]
    refine rr_dealer (by decide) (r.keep f) ok (fun s' n' v2 hs' e' hn' e2' f2 t2 G2 => absurd e' (q s' hs')) (fun q' v2 f2 t2 G2 => ?_) (fun s' hs' e' q2' => absurd e' (q s' hs'))
    rw [gd_rJ_at]
    refine lw_th t2 ?_
    rw [gd_rI_at]
    obtain ⟨i1, i2, i3⟩ := lw_finX f G f2 G2 (gs_no_ok ok) (gs_no_by hB) l0
    exact ⟨rfl, fun z => absurd z (by decide), nx v2 _ i1 i2 i3⟩
  · refine Or.inr ⟨rfl, ?_⟩
    rw [gd_rI_at]
    refine ⟨f.2.1, ?_⟩
    rw [(f.1 63 0 (j + 1) (by omega)).1, (f.1 63 0 (j + 2) (by omega)).1]
    refine rr_dealer (by decide) (r.keep f) ok (fun s' n' v2 hs' e' hn' e2' f2 t2 G2 => absurd (by rw [e2']; exact nu_mid (by omega) (by omega) (by omega)) q2) (fun q' => absurd e (q' s hs)) (fun s' hs' e' q2' v2 f2 t2 G2 => ?_)
    rw [gd_rJ_at]
    refine lw_th t2 ?_
    rw [gd_rI_at]
    obtain ⟨i1, i2, i3⟩ := lw_finX f G f2 G2 (gs_no_ok ok) (gs_no_by hB) l0
    exact ⟨rfl, fun z => absurd z (by decide), nx v2 _ i1 i2 i3⟩
theorem sL_of (hN : ab_N g) (hI : lw_I v S) (hd : 46 ≤ d) (hj : j + 5 < v.2.2.2.2.2) (hl : v.2.2.2.2.2 ≤ 3072) (hb : 2 ≤ bc ∧ 12 ≤ bs) (nx : lw_nx g d (bc - 2) (bs - 12) j v Q) : gd_G g mL_law d bc bs 774 (lw_LL j) [] v Q := by
  obtain ⟨c, r, ok, hB, l0⟩ := hI
  refine eL_of (dy := 45) (dz := 44) (my := 2) (sy := 12) (by omega) (by omega) (by omega) hj hl hb (uL_of (dy := 44) hN (Nat.le_refl _) (k_ofs (by decide) c ok (fun s n v1 hs e hn e2 f G => ?_) (fun q v1 f G => ?_) (fun s hs e q2 v1 f G => ?_)))
  · rw [gd_rI_at, gd_rI_at]
    refine ⟨f.2.1, ?_⟩
    show gd_C g mX11_of 44 0 0 [zR 11 0, zI (v1.1 63 0 (j + 1)), zI (v1.1 63 0 (j + 2))] _ _
    rw [(f.1 63 0 (j + 1) (by omega)).1, (f.1 63 0 (j + 2) (by omega)).1]
    refine rr_ofs (by decide) (gr_out (r.keep f)) ok (fun s' n' v2 hs' e' hn' e2' f2 t2 G2 => ?_) (fun q' => absurd e (q' s hs)) (fun s' hs' e' q2' => absurd (by rw [e2]; exact nu_mid (by omega) (by omega) (by omega)) q2')
    have us := nu_inj (by have := ok.1.1; have := ok.1.2.1; omega) (by have := ok.1.1; have := ok.1.2.1; omega) (e.symm.trans e')
    subst us
    have un := nu_inj (by have := ok.1.1; have := ok.1.2.1; omega) (by have := ok.1.1; have := ok.1.2.1; omega) (e2.symm.trans e2')
    subst un
    rw [gd_rI_at]
    refine lw_th t2 ?_
    rw [gd_rI_at]
    obtain ⟨i1, i2, i3, i4⟩ := lw_fin f G f2 G2 ok hB l0
    exact ⟨rfl, fun _ => i4, nx v2 S i1 i2 i3⟩
  · refine Or.inl ⟨rfl, ?_⟩
    rw [gd_rI_at]
    refine ⟨f.2.1, ?_⟩
    rw [(f.1 63 0 (j + 1) (by omega)).1, (f.1 63 0 (j + 2) (by omega)).1]
    refine rr_ofs (by decide) (r.keep f) ok (fun s' n' v2 hs' e' hn' e2' f2 t2 G2 => absurd e' (q s' hs')) (fun q' v2 f2 t2 G2 => ?_) (fun s' hs' e' q2' => absurd e' (q s' hs'))
    rw [gd_rI_at]
    refine lw_th t2 ?_
    rw [gd_rI_at]
    obtain ⟨i1, i2, i3⟩ := lw_finX f G f2 G2 (gs_no_ok ok) (gs_no_by hB) l0
    exact ⟨rfl, fun z => absurd z (by decide), nx v2 _ i1 i2 i3⟩
  · refine Or.inr ⟨rfl, ?_⟩
    rw [gd_rI_at]
    refine ⟨f.2.1, ?_⟩
    rw [(f.1 63 0 (j + 1) (by omega)).1, (f.1 63 0 (j + 2) (by omega)).1]
    refine rr_ofs (by decide) (r.keep f) ok (fun s' n' v2 hs' e' hn' e2' f2 t2 G2 => absurd (by rw [e2']; exact nu_mid (by omega) (by omega) (by omega)) q2) (fun q' => absurd e (q' s hs)) (fun s' hs' e' q2' v2 f2 t2 G2 => ?_)
    rw [gd_rI_at]
    refine lw_th t2 ?_
    rw [gd_rI_at]
    obtain ⟨i1, i2, i3⟩ := lw_finX f G f2 G2 (gs_no_ok ok) (gs_no_by hB) l0
    exact ⟨rfl, fun z => absurd z (by decide), nx v2 _ i1 i2 i3⟩
end MU
