/-! THE LAW: class and reference meet, call by call -/
def lw_I (v : gd_D) (S : gs_T) : Prop := gc_R v S ∧ gr_R v S ∧ gs_ok S ∧ gs_by S ∧ v.2.2.2.2.1 0 = 0
abbrev lw_LL (j : Nat) : List (Nat × ab_V) := [(0, zR 63 0), (1, zR 10 0), (2, zR 11 0), (3, zR 64 0), (4, zI (nI j))]
/-- what a turn hands on -/
def lw_nx (g : ab_E) (d bc bs j : Nat) (v : gd_D) (Q : ab_O → gd_D → Prop) : Prop := ∀ v' S', lw_I v' S' → v'.2.2.2.2.2 = v.2.2.2.2.2 → v'.1 63 = v.1 63 → gd_G g mL_law d bc bs 1458 (lw_LL j) [] v' Q
section MT
variable {g : ab_E} {d bc bs j : Nat} {v v1 v2 : gd_D} {Q : ab_O → gd_D → Prop} {S S' : gs_T} {y : Int64}
theorem out_J {k i : Nat} (hk : ¬ k = 64) : (gd_sJ v 64 0 0 y).2.1 k i = v.2.1 k i := by funext z; exact sJ_ne (by omega)
theorem cr_out {h : Nat} {H : hs_T} (hR : cr_R v h H) : cr_R (gd_sJ v 64 0 0 y) h H := by
  obtain ⟨a1, a2, a3, a4, a5⟩ := hR
  refine ⟨a1, by rw [out_J (by omega)]; exact a2, fun i hi => ?_, a4, a5⟩
  rw [out_J (by omega)]; exact a3 i hi
theorem gc_out (h : gc_R v S) : gc_R (gd_sJ v 64 0 0 y) S := by
  obtain ⟨a1, ⟨nx, b1, b2, b3, b4⟩, a3, a4, a5, a6⟩ := h
  exact ⟨cr_out a1, ⟨nx, b1, b2, b3, fun k K hk => cr_out (b4 k K hk)⟩, a3, a4, a5, a6⟩
theorem gr_out (h : gr_R v S) : gr_R (gd_sJ v 64 0 0 y) S := by
  obtain ⟨a1, a2, a3, a4, a5, a6, a7⟩ := h
  exact ⟨by rw [out_J (by omega)]; exact a1, ⟨a2.1, by rw [out_J (by omega)]; exact a2.2⟩, a3, a4, a5, a6, a7⟩
theorem lw_th {t : Int32} (ht : v.1 11 0 0 = t) (h : Q (Sum.inl (some (zI t))) v) : gd_C g mX11_thrown d 0 0 [zR 11 0] v Q := by
  refine c_X11_thrown (Nat.zero_le _) ?_
  unfold wp_X11_thrown
  rw [ht]; exact h
/-- behind an answer -/
theorem lw_fin (f : fcl v v1) (G : gc_R v1 S') (f2 : fre (gd_sJ v1 64 0 0 y) v2) (G2 : gr_R v2 S') (ok : gs_ok S') (hB : gs_by S') (l0 : v.2.2.2.2.1 0 = 0) : lw_I v2 S' ∧ v2.2.2.2.2.2 = v.2.2.2.2.2 ∧ v2.1 63 = v.1 63 ∧ v2.2.1 64 0 0 = y := by
  have e2 : v2.2.2 = v1.2.2 := f2.2
  refine ⟨⟨(gc_out G).keep f2, G2, ok, hB, ?_⟩, ?_, ?_, ((f2.1 64 0 0 (by omega)).2).trans sJ_at⟩
  · rw [e2]; exact f.2.2.trans l0
  · rw [e2]; exact f.2.1
  · funext i j
    exact ((f2.1 63 i j (by omega)).1).trans (f.1 63 i j (by omega)).1
/-- behind a throw, or an answer that goes nowhere -/
theorem lw_finX (f : fcl v v1) (G : gc_R v1 S') (f2 : fre v1 v2) (G2 : gr_R v2 S') (ok : gs_ok S') (hB : gs_by S') (l0 : v.2.2.2.2.1 0 = 0) : lw_I v2 S' ∧ v2.2.2.2.2.2 = v.2.2.2.2.2 ∧ v2.1 63 = v.1 63 := by
  have e2 : v2.2.2 = v1.2.2 := f2.2
  refine ⟨⟨G.keep f2, G2, ok, hB, ?_⟩, ?_, ?_⟩
  · rw [e2]; exact f.2.2.trans l0
  · rw [e2]; exact f.2.1
  · funext i j
    exact ((f2.1 63 i j (by omega)).1).trans (f.1 63 i j (by omega)).1
theorem nu_mid {lo n hi : Nat} (h1 : lo ≤ n) (h2 : n ≤ hi) (h : hi < 2 ^ 31) : nI lo ≤ nI n ∧ nI n ≤ nI hi := by
  rw [Int32.le_iff_toInt_le, Int32.le_iff_toInt_le, nI_toInt (by omega), nI_toInt (by omega), nI_toInt (by omega)]
  omega
theorem gs_no_ok {k : Nat} (h : gs_ok S) : gs_ok (gs_no S k) := h
theorem gs_no_by {k : Nat} (h : gs_by S) : gs_by (gs_no S k) := h
theorem sL_fault (hI : lw_I v S) (hd : 46 ≤ d) (hj : j + 5 < v.2.2.2.2.2) (hl : v.2.2.2.2.2 ≤ 3072) (nx : lw_nx g d bc bs j v Q) : gd_G g mL_law d bc bs 285 (lw_LL j) [] v Q := by
  obtain ⟨c, r, ok, hB, l0⟩ := hI
  refine eL_fault (dy := 44) (dz := 44) (my := 0) (sy := 0) (by omega) (by omega) (by omega) hj hl ⟨Nat.zero_le _, Nat.zero_le _⟩ (k_fault c ?_)
  rw [gd_rI_at]
  refine ⟨rfl, rr_fault r (fun v2 f2 t2 G2 => ?_)⟩
  rw [gd_rI_at]
  obtain ⟨i1, i2, i3⟩ := lw_finX fcl.rf c f2 G2 ok hB l0
  exact ⟨rfl, nx v2 S i1 i2 i3⟩
theorem sL_told (hN : ab_N g) (hI : lw_I v S) (hd : 46 ≤ d) (hj : j + 5 < v.2.2.2.2.2) (hl : v.2.2.2.2.2 ≤ 3072) (hb : 1 ≤ bc ∧ 6 ≤ bs) (nx : lw_nx g d (bc - 1) (bs - 6) j v Q) : gd_G g mL_law d bc bs 651 (lw_LL j) [] v Q := by
  obtain ⟨c, r, ok, hB, l0⟩ := hI
  refine eL_told (dy := 45) (dz := 44) (my := 1) (sy := 6) (by omega) (by omega) (by omega) hj hl hb (uL_told (dy := 44) hN (Nat.le_refl _) (k_told (by decide) c ok (fun n v1 hn e f G => ?_) (fun q v1 f G => ?_)))
  · rw [gd_rI_at, gd_rI_at]
    refine ⟨f.2.1, ?_⟩
    show gd_C g mX11_told 44 0 0 [zR 11 0, zI (v1.1 63 0 (j + 1))] _ _
    rw [(f.1 63 0 (j + 1) (by omega)).1]
    refine rr_told (by decide) (gr_out (r.keep f)) ok (fun n' v2 hn' e' f2 t2 G2 => ?_) (fun q => absurd ?_ q)
    · have en := nu_inj (by omega) (by omega) (e.symm.trans e')
      subst en
      rw [gd_rI_at]
      refine lw_th t2 ?_
      rw [gd_rI_at]
      obtain ⟨i1, i2, i3, i4⟩ := lw_fin f G f2 G2 ok hB l0
      exact ⟨rfl, fun _ => i4, nx v2 S i1 i2 i3⟩
    · rw [e]; exact nu_mid (Nat.zero_le _) hn (by omega)
  · refine ⟨rfl, ?_⟩
    rw [gd_rI_at]
    refine ⟨f.2.1, ?_⟩
    rw [(f.1 63 0 (j + 1) (by omega)).1]
    refine rr_told (by decide) (r.keep f) ok (fun n' v2 hn' e' f2 t2 G2 => absurd ?_ q) (fun _ v2 f2 t2 G2 => ?_)
    · rw [e']; exact nu_mid (Nat.zero_le _) hn' (by omega)
    · rw [gd_rI_at]
      refine lw_th t2 ?_
      rw [gd_rI_at]
      obtain ⟨i1, i2, i3⟩ := lw_finX f G f2 G2 (gs_no_ok ok) (gs_no_by hB) l0
      exact ⟨rfl, fun z => absurd z (by decide), nx v2 _ i1 i2 i3⟩
end MT
