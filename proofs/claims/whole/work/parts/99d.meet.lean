/-! THE LAW: calls that change -/
section MX
variable {g : ab_E} {d bc bs j : Nat} {v : gd_D} {Q : ab_O → gd_D → Prop} {S : gs_T}
theorem sL_mark (hN : ab_N g) (hI : lw_I v S) (hd : 46 ≤ d) (hj : j + 5 < v.2.2.2.2.2) (hl : v.2.2.2.2.2 ≤ 3072) (hb : 1 ≤ bc ∧ 6 ≤ bs) (nx : lw_nx g d (bc - 1) (bs - 6) j v Q) : gd_G g mL_law d bc bs 470 (lw_LL j) [] v Q := by
  obtain ⟨c, r, ok, hB, l0⟩ := hI
  refine eL_mark (dy := 45) (dz := 44) (my := 1) (sy := 6) (by omega) (by omega) (by omega) hj hl hb (uL_mark (dy := 44) hN (Nat.le_refl _) (k_mark (by decide) c ok (fun n v1 h1 h2 e f G => ?_) (fun q v1 f G => ?_)))
  · rw [gd_rI_at, gd_rI_at]
    refine ⟨f.2.1, ?_⟩
    show gd_C g mX11_mark 44 0 0 [zR 11 0, zI (v1.1 63 0 (j + 1))] _ _
    rw [(f.1 63 0 (j + 1) (by omega)).1]
    refine rr_mark (by decide) (gr_out (r.keep f)) ok (fun n' v2 h1' h2' e' f2 t2 G2 => ?_) (fun q' => absurd (by rw [e]; exact nu_mid (by omega) (by omega) (by omega)) q')
    have un := nu_inj (by have := ok.1.1; have := ok.1.2.1; omega) (by have := ok.1.1; have := ok.1.2.1; omega) (e.symm.trans e')
    subst un
    rw [gd_rI_at]
    refine lw_th t2 ?_
    rw [gd_rI_at]
    obtain ⟨i1, i2, i3, i4⟩ := lw_fin f G f2 G2 (⟨ok.1.mk h1 h2, (gs_kept_ok ok).2⟩) hB l0
    exact ⟨rfl, fun _ => i4, nx v2 _ i1 i2 i3⟩
  · refine ⟨rfl, ?_⟩
    rw [gd_rI_at]
    refine ⟨f.2.1, ?_⟩
    rw [(f.1 63 0 (j + 1) (by omega)).1]
    refine rr_mark (by decide) (r.keep f) ok (fun n' v2 h1' h2' e' f2 t2 G2 => absurd (by rw [e']; exact nu_mid (by omega) (by omega) (by omega)) q) (fun q' v2 f2 t2 G2 => ?_)
    rw [gd_rI_at]
    refine lw_th t2 ?_
    rw [gd_rI_at]
    obtain ⟨i1, i2, i3⟩ := lw_finX f G f2 G2 (gs_no_ok ok) (gs_no_by hB) l0
    exact ⟨rfl, fun z => absurd z (by decide), nx v2 _ i1 i2 i3⟩
theorem sL_stock (hN : ab_N g) (hI : lw_I v S) (hd : 46 ≤ d) (hj : j + 5 < v.2.2.2.2.2) (hl : v.2.2.2.2.2 ≤ 3072) (hb : 2 ≤ bc ∧ 12 ≤ bs) (nx : lw_nx g d (bc - 2) (bs - 12) j v Q) : gd_G g mL_law d bc bs 402 (lw_LL j) [] v Q := by
  obtain ⟨c, r, ok, hB, l0⟩ := hI
  refine eL_stock (dy := 45) (dz := 44) (my := 2) (sy := 12) (by omega) (by omega) (by omega) hj hl hb (uL_stock (dy := 44) hN (Nat.le_refl _) (k_stock (by decide) c ok (fun s n v1 hs e hn e2 f G => ?_) (fun q v1 f G => ?_) (fun s hs e q2 v1 f G => ?_)))
  · rw [gd_rI_at, gd_rI_at]
    refine ⟨f.2.1, ?_⟩
    show gd_C g mX11_stock 44 0 0 [zR 11 0, zI (v1.1 63 0 (j + 1)), zI (v1.1 63 0 (j + 2))] _ _
    rw [(f.1 63 0 (j + 1) (by omega)).1, (f.1 63 0 (j + 2) (by omega)).1]
    refine rr_stock (by decide) (gr_out (r.keep f)) ok (fun s' n' v2 hs' e' hn' e2' f2 t2 G2 => ?_) (fun q' => absurd e (q' s hs)) (fun s' hs' e' q2' => absurd (by rw [e2]; exact nu_mid (by omega) (by omega) (by omega)) q2')
    have us := nu_inj (by have := ok.1.1; have := ok.1.2.1; omega) (by have := ok.1.1; have := ok.1.2.1; omega) (e.symm.trans e')
    subst us
    have un := nu_inj (by have := ok.1.1; have := ok.1.2.1; omega) (by have := ok.1.1; have := ok.1.2.1; omega) (e2.symm.trans e2')
    subst un
    rw [gd_rI_at]
    refine lw_th t2 ?_
    rw [gd_rI_at]
    obtain ⟨i1, i2, i3, i4⟩ := lw_fin f G f2 G2 (⟨ok.1.stk hn, (gs_kept_ok ok).2⟩) hB l0
    exact ⟨rfl, fun _ => i4, nx v2 _ i1 i2 i3⟩
  · refine Or.inl ⟨rfl, ?_⟩
    rw [gd_rI_at]
    refine ⟨f.2.1, ?_⟩
    rw [(f.1 63 0 (j + 1) (by omega)).1, (f.1 63 0 (j + 2) (by omega)).1]
    refine rr_stock (by decide) (r.keep f) ok (fun s' n' v2 hs' e' hn' e2' f2 t2 G2 => absurd e' (q s' hs')) (fun q' v2 f2 t2 G2 => ?_) (fun s' hs' e' q2' => absurd e' (q s' hs'))
    rw [gd_rI_at]
    refine lw_th t2 ?_
    rw [gd_rI_at]
    obtain ⟨i1, i2, i3⟩ := lw_finX f G f2 G2 (gs_no_ok ok) (gs_no_by hB) l0
    exact ⟨rfl, fun z => absurd z (by decide), nx v2 _ i1 i2 i3⟩
  · refine Or.inr ⟨rfl, ?_⟩
    rw [gd_rI_at]
    refine ⟨f.2.1, ?_⟩
    rw [(f.1 63 0 (j + 1) (by omega)).1, (f.1 63 0 (j + 2) (by omega)).1]
    refine rr_stock (by decide) (r.keep f) ok (fun s' n' v2 hs' e' hn' e2' f2 t2 G2 => absurd (by rw [e2']; exact nu_mid (by omega) (by omega) (by omega)) q2) (fun q' => absurd e (q' s hs)) (fun s' hs' e' q2' v2 f2 t2 G2 => ?_)
    rw [gd_rI_at]
    refine lw_th t2 ?_
    rw [gd_rI_at]
    obtain ⟨i1, i2, i3⟩ := lw_finX f G f2 G2 (gs_no_ok ok) (gs_no_by hB) l0
    exact ⟨rfl, fun z => absurd z (by decide), nx v2 _ i1 i2 i3⟩
theorem sL_night (hN : ab_N g) (hI : lw_I v S) (hd : 46 ≤ d) (hj : j + 5 < v.2.2.2.2.2) (hl : v.2.2.2.2.2 ≤ 3072) (hb : 1 ≤ bc ∧ 6 ≤ bs) (nx : lw_nx g d (bc - 1) (bs - 6) j v Q) : gd_G g mL_law d bc bs 526 (lw_LL j) [] v Q := by
  obtain ⟨c, r, ok, hB, l0⟩ := hI
  refine eL_night (dy := 45) (dz := 44) (my := 1) (sy := 6) (by omega) (by omega) (by omega) hj hl hb (uL_night (dy := 44) hN (Nat.le_refl _) (k_night (by decide) c ok (fun h1 v1 f G => ?_) (fun q v1 f G => ?_)))
  · rw [gd_rI_at, gd_rI_at]
    refine ⟨f.2.1, ?_⟩
    show gd_C g mX11_night 44 0 0 [zR 11 0] _ _
    refine rr_night (by decide) (gr_out (r.keep f)) ok (fun h1' v2 f2 t2 G2 => ?_) (fun q' => absurd h1 q')
    rw [gd_rI_at]
    refine lw_th t2 ?_
    rw [gd_rI_at]
    obtain ⟨i1, i2, i3, i4⟩ := lw_fin f G f2 G2 (gs_night_ok ok h1) hB l0
    exact ⟨rfl, fun _ => i4, nx v2 _ i1 i2 i3⟩
  · refine ⟨rfl, ?_⟩
    rw [gd_rI_at]
    refine ⟨f.2.1, ?_⟩
    refine rr_night (by decide) (r.keep f) ok (fun h1' v2 f2 t2 G2 => absurd h1' q) (fun q' v2 f2 t2 G2 => ?_)
    rw [gd_rI_at]
    refine lw_th t2 ?_
    rw [gd_rI_at]
    obtain ⟨i1, i2, i3⟩ := lw_finX f G f2 G2 (gs_no_ok ok) (gs_no_by hB) l0
    exact ⟨rfl, fun z => absurd z (by decide), nx v2 _ i1 i2 i3⟩
theorem sL_buyin (hN : ab_N g) (hI : lw_I v S) (hd : 46 ≤ d) (hj : j + 5 < v.2.2.2.2.2) (hl : v.2.2.2.2.2 ≤ 3072) (hb : 3 ≤ bc ∧ 18 ≤ bs) (nx : lw_nx g d (bc - 3) (bs - 18) j v Q) : gd_G g mL_law d bc bs 570 (lw_LL j) [] v Q := by
  obtain ⟨c, r, ok, hB, l0⟩ := hI
  refine eL_buyin (dy := 45) (dz := 44) (my := 3) (sy := 18) (by omega) (by omega) (by omega) hj hl hb (uL_buyin (dy := 44) hN (Nat.le_refl _) (k_buyin (by decide) c ok (fun s u v1 hs e hq h1 h2 e2 f G => ?_) (fun q v1 f G => ?_) (fun s hs e hf v1 f G => ?_) (fun s hs e hq q2 v1 f G => ?_)))
  · rw [gd_rI_at, gd_rI_at]
    refine ⟨f.2.1, ?_⟩
    show gd_C g mX11_buyin 44 0 0 [zR 11 0, zI (v1.1 63 0 (j + 1)), zI (v1.1 63 0 (j + 2))] _ _
    rw [(f.1 63 0 (j + 1) (by omega)).1, (f.1 63 0 (j + 2) (by omega)).1]
    refine rr_buyin (by decide) (gr_out (r.keep f)) ok (fun s' u' v2 hs' e' hq' h1' h2' e2' f2 t2 G2 => ?_) (fun q' => absurd e (q' s hs)) (fun s' hs' e' hf' => absurd hq (by rw [nu_inj (by have := ok.1.2.1; omega) (by have := ok.1.2.1; omega) (e.symm.trans e'), hf']; decide)) (fun s' hs' e' hq' q2' => absurd (by rw [e2, ← nu_inj (by have := ok.1.2.1; omega) (by have := ok.1.2.1; omega) (e.symm.trans e')]; exact nu_mid h1 h2 (by have := ok.1.V.five hs; omega)) q2')
    have us := nu_inj (by have := ok.1.1; have := ok.1.2.1; omega) (by have := ok.1.1; have := ok.1.2.1; omega) (e.symm.trans e')
    subst us
    have uu := nu_inj (by have := ok.1.V.five hs; omega) (by have := ok.1.V.five hs; omega) (e2.symm.trans e2')
    subst uu
    rw [gd_rI_at]
    refine lw_th t2 ?_
    rw [gd_rI_at]
    obtain ⟨i1, i2, i3, i4⟩ := lw_fin f G f2 G2 (gs_buyin_ok ok hs h2) hB l0
    exact ⟨rfl, fun _ => i4, nx v2 _ i1 i2 i3⟩
  · refine Or.inl ⟨rfl, ?_⟩
    rw [gd_rI_at]
    refine ⟨f.2.1, ?_⟩
    rw [(f.1 63 0 (j + 1) (by omega)).1, (f.1 63 0 (j + 2) (by omega)).1]
    refine rr_buyin (by decide) (r.keep f) ok (fun s' u' v2 hs' e' hq' h1' h2' e2' f2 t2 G2 => absurd e' (q s' hs')) (fun q' v2 f2 t2 G2 => ?_) (fun s' hs' e' hf' => absurd e' (q s' hs')) (fun s' hs' e' hq' q2' => absurd e' (q s' hs'))
    rw [gd_rI_at]
    refine lw_th t2 ?_
    rw [gd_rI_at]
    obtain ⟨i1, i2, i3⟩ := lw_finX f G f2 G2 (gs_no_ok ok) (gs_no_by hB) l0
    exact ⟨rfl, fun z => absurd z (by decide), nx v2 _ i1 i2 i3⟩
  · refine Or.inr (Or.inl ⟨rfl, ?_⟩)
    rw [gd_rI_at]
    refine ⟨f.2.1, ?_⟩
    rw [(f.1 63 0 (j + 1) (by omega)).1, (f.1 63 0 (j + 2) (by omega)).1]
    refine rr_buyin (by decide) (r.keep f) ok (fun s' u' v2 hs' e' hq' h1' h2' e2' f2 t2 G2 => absurd hq' (by rw [← nu_inj (by have := ok.1.2.1; omega) (by have := ok.1.2.1; omega) (e.symm.trans e'), hf]; decide)) (fun q' => absurd e (q' s hs)) (fun s' hs' e' hf' v2 f2 t2 G2 => ?_) (fun s' hs' e' hq' q2' => absurd hq' (by rw [← nu_inj (by have := ok.1.2.1; omega) (by have := ok.1.2.1; omega) (e.symm.trans e'), hf]; decide))
    rw [gd_rI_at]
    refine lw_th t2 ?_
    rw [gd_rI_at]
    obtain ⟨i1, i2, i3⟩ := lw_finX f G f2 G2 (gs_no_ok ok) (gs_no_by hB) l0
    exact ⟨rfl, fun z => absurd z (by decide), nx v2 _ i1 i2 i3⟩
  · refine Or.inr (Or.inr ⟨rfl, ?_⟩)
    rw [gd_rI_at]
    refine ⟨f.2.1, ?_⟩
    rw [(f.1 63 0 (j + 1) (by omega)).1, (f.1 63 0 (j + 2) (by omega)).1]
    refine rr_buyin (by decide) (r.keep f) ok (fun s' u' v2 hs' e' hq' h1' h2' e2' f2 t2 G2 => absurd (by rw [e2', nu_inj (by have := ok.1.2.1; omega) (by have := ok.1.2.1; omega) (e.symm.trans e')]; exact nu_mid h1' h2' (by have := ok.1.V.five hs'; omega)) q2) (fun q' => absurd e (q' s hs)) (fun s' hs' e' hf' => absurd hq (by rw [nu_inj (by have := ok.1.2.1; omega) (by have := ok.1.2.1; omega) (e.symm.trans e'), hf']; decide)) (fun s' hs' e' hq' q2' v2 f2 t2 G2 => ?_)
    rw [gd_rI_at]
    refine lw_th t2 ?_
    rw [gd_rI_at]
    obtain ⟨i1, i2, i3⟩ := lw_finX f G f2 G2 (gs_no_ok ok) (gs_no_by hB) l0
    exact ⟨rfl, fun z => absurd z (by decide), nx v2 _ i1 i2 i3⟩
theorem undo_ok {M : List hs_T} {K : hs_T} (ok : gs_ok S) (e : S.2.1 = M ++ [K]) : gs_ok (K, M, S.2.2) := by
  obtain ⟨o1, ⟨o2, o3⟩, o4⟩ := ok
  rw [e] at o2 o3
  refine ⟨o3 M.length K (by simp), ⟨by rw [List.length_append] at o2; simp only [List.length_cons, List.length_nil] at o2; show M.length ≤ _; omega, fun k K' hk => o3 k K' ?_⟩, o4⟩
  have hlt : k < M.length := (List.getElem?_eq_some_iff.mp hk).1
  rw [List.getElem?_append_left hlt]; exact hk
theorem sL_undo (hI : lw_I v S) (hd : 46 ≤ d) (hj : j + 5 < v.2.2.2.2.2) (hl : v.2.2.2.2.2 ≤ 3072) (nx : lw_nx g d bc bs j v Q) : gd_G g mL_law d bc bs 638 (lw_LL j) [] v Q := by
  obtain ⟨c, r, ok, hB, l0⟩ := hI
  refine eL_undo (dy := 44) (dz := 44) (my := 0) (sy := 0) (by omega) (by omega) (by omega) hj hl ⟨Nat.zero_le _, Nat.zero_le _⟩ (k_undo (by decide) c ok (fun h0 => ?_) (fun M K v1 e f G => ?_))
  · rw [gd_rI_at]
    refine ⟨rfl, rr_undo r ok (fun _ v2 f2 t2 G2 => ?_) (fun M' K' v2 e' => absurd (h0.symm.trans e') (by simp))⟩
    rw [gd_rI_at]
    obtain ⟨i1, i2, i3⟩ := lw_finX fcl.rf c f2 G2 ok hB l0
    exact ⟨rfl, nx v2 S i1 i2 i3⟩
  · rw [gd_rI_at]
    refine ⟨f.2.1, rr_undo (r.keep f) ok (fun h0 => absurd (h0.symm.trans e) (by simp)) (fun M' K' v2 e' f2 t2 G2 => ?_)⟩
    have ue := e.symm.trans e'
    have um := List.append_inj' ue rfl
    obtain ⟨u1, u2⟩ := um
    have u3 : K = K' := by injection u2
    subst u1 u3
    rw [gd_rI_at]
    obtain ⟨i1, i2, i3⟩ := lw_finX f G f2 G2 (undo_ok ok e) hB l0
    exact ⟨rfl, nx v2 _ i1 i2 i3⟩
end MX
