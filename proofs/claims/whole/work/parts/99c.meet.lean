/-! THE LAW: more calls that only read -/
section MV
variable {g : ab_E} {d bc bs j : Nat} {v : gd_D} {Q : ab_O → gd_D → Prop} {S : gs_T}
theorem sL_part (hN : ab_N g) (hI : lw_I v S) (hd : 46 ≤ d) (hj : j + 5 < v.2.2.2.2.2) (hl : v.2.2.2.2.2 ≤ 3072) (hb : 3 ≤ bc ∧ 18 ≤ bs) (nx : lw_nx g d (bc - 3) (bs - 18) j v Q) : gd_G g mL_law d bc bs 897 (lw_LL j) [] v Q := by
  obtain ⟨c, r, ok, hB, l0⟩ := hI
  refine eL_part (dy := 45) (dz := 44) (my := 3) (sy := 18) (by omega) (by omega) (by omega) hj hl hb (uL_part (dy := 44) hN (Nat.le_refl _) (k_part (by decide) c ok (fun s i w v1 hs e hi e2 hw e3 f G => ?_) (fun q v1 f G => ?_) (fun s i hs e hi e2 q2 v1 f G => ?_)))
  · rw [gd_rI_at, gd_rI_at]
    refine ⟨f.2.1, ?_⟩
    show gd_C g mX11_part 44 0 0 [zR 11 0, zI (v1.1 63 0 (j + 1)), zI (v1.1 63 0 (j + 2)), zI (v1.1 63 0 (j + 3))] _ _
    rw [(f.1 63 0 (j + 1) (by omega)).1, (f.1 63 0 (j + 2) (by omega)).1, (f.1 63 0 (j + 3) (by omega)).1]
    refine rr_part (by decide) (gr_out (r.keep f)) ok (fun s' i' w' v2 hs' e' hi' e2' hw' e3' f2 t2 G2 => ?_) (fun q' => absurd e2 (q' s i hs e hi)) (fun s' i' hs' e' hi' e2' q2' => absurd (by rw [e3]; exact nu_mid (by omega) (by omega) (by omega)) q2')
    have us := nu_inj (by have := ok.1.1; have := ok.1.2.1; omega) (by have := ok.1.1; have := ok.1.2.1; omega) (e.symm.trans e')
    subst us
    have ui := nu_inj (by have := (gs_P_ok (s := s) ok).1; omega) (by have := (gs_P_ok (s := s) ok).1; omega) (e2.symm.trans e2')
    subst ui
    have uw := nu_inj (by have := ok.1.1; have := ok.1.2.1; omega) (by have := ok.1.1; have := ok.1.2.1; omega) (e3.symm.trans e3')
    subst uw
    rw [gd_rI_at]
    refine lw_th t2 ?_
    rw [gd_rI_at]
    obtain ⟨i1, i2, i3, i4⟩ := lw_fin f G f2 G2 ok hB l0
    exact ⟨rfl, fun _ => i4, nx v2 S i1 i2 i3⟩
  · refine Or.inl ⟨rfl, ?_⟩
    rw [gd_rI_at]
    refine ⟨f.2.1, ?_⟩
    rw [(f.1 63 0 (j + 1) (by omega)).1, (f.1 63 0 (j + 2) (by omega)).1, (f.1 63 0 (j + 3) (by omega)).1]
    refine rr_part (by decide) (r.keep f) ok (fun s' i' w' v2 hs' e' hi' e2' hw' e3' f2 t2 G2 => absurd e2' (q s' i' hs' e' hi')) (fun q' v2 f2 t2 G2 => ?_) (fun s' i' hs' e' hi' e2' q2' => absurd e2' (q s' i' hs' e' hi'))
    rw [gd_rI_at]
    refine lw_th t2 ?_
    rw [gd_rI_at]
    obtain ⟨i1, i2, i3⟩ := lw_finX f G f2 G2 (gs_no_ok ok) (gs_no_by hB) l0
    exact ⟨rfl, fun z => absurd z (by decide), nx v2 _ i1 i2 i3⟩
  · refine Or.inr ⟨rfl, ?_⟩
    rw [gd_rI_at]
    refine ⟨f.2.1, ?_⟩
    rw [(f.1 63 0 (j + 1) (by omega)).1, (f.1 63 0 (j + 2) (by omega)).1, (f.1 63 0 (j + 3) (by omega)).1]
    refine rr_part (by decide) (r.keep f) ok (fun s' i' w' v2 hs' e' hi' e2' hw' e3' f2 t2 G2 => absurd (by rw [e3']; exact nu_mid (by omega) (by omega) (by omega)) q2) (fun q' => absurd e2 (q' s i hs e hi)) (fun s' i' hs' e' hi' e2' q2' v2 f2 t2 G2 => ?_)
    rw [gd_rI_at]
    refine lw_th t2 ?_
    rw [gd_rI_at]
    obtain ⟨i1, i2, i3⟩ := lw_finX f G f2 G2 (gs_no_ok ok) (gs_no_by hB) l0
    exact ⟨rfl, fun z => absurd z (by decide), nx v2 _ i1 i2 i3⟩
theorem sL_chain (hN : ab_N g) (hI : lw_I v S) (hd : 46 ≤ d) (hj : j + 5 < v.2.2.2.2.2) (hl : v.2.2.2.2.2 ≤ 3072) (hb : 3 ≤ bc ∧ 18 ≤ bs) (nx : lw_nx g d (bc - 3) (bs - 18) j v Q) : gd_G g mL_law d bc bs 1033 (lw_LL j) [] v Q := by
  obtain ⟨c, r, ok, hB, l0⟩ := hI
  refine eL_chain (dy := 45) (dz := 44) (my := 3) (sy := 18) (by omega) (by omega) (by omega) hj hl hb (uL_chain (dy := 44) hN (Nat.le_refl _) (k_chain (by decide) c ok (fun s i a v1 hs e hi e2 hc f G => ?_) (fun q v1 f G => ?_)))
  · rw [gd_rI_at, gd_rI_at]
    refine ⟨f.2.1, ?_⟩
    show gd_C g mX11_chain 44 0 0 [zR 11 0, zI (v1.1 63 0 (j + 1)), zI (v1.1 63 0 (j + 2))] _ _
    rw [(f.1 63 0 (j + 1) (by omega)).1, (f.1 63 0 (j + 2) (by omega)).1]
    refine rr_chain (by decide) (gr_out (r.keep f)) ok (fun s' i' a' v2 hs' e' hi' e2' hc' f2 t2 G2 => ?_) (fun q' => absurd hc (q' s i a hs e hi e2))
    have us := nu_inj (by have := ok.1.1; have := ok.1.2.1; omega) (by have := ok.1.1; have := ok.1.2.1; omega) (e.symm.trans e')
    subst us
    have ui := nu_inj hi hi' (e2.symm.trans e2')
    subst ui
    have ua : a = a' := Option.some.inj (hc.symm.trans hc')
    subst ua
    rw [gd_rI_at]
    refine lw_th t2 ?_
    rw [gd_rI_at]
    obtain ⟨i1, i2, i3, i4⟩ := lw_fin f G f2 G2 ok hB l0
    exact ⟨rfl, fun _ => i4, nx v2 S i1 i2 i3⟩
  · refine ⟨rfl, ?_⟩
    rw [gd_rI_at]
    refine ⟨f.2.1, ?_⟩
    rw [(f.1 63 0 (j + 1) (by omega)).1, (f.1 63 0 (j + 2) (by omega)).1]
    refine rr_chain (by decide) (r.keep f) ok (fun s' i' a' v2 hs' e' hi' e2' hc' f2 t2 G2 => absurd hc' (q s' i' a' hs' e' hi' e2')) (fun q' v2 f2 t2 G2 => ?_)
    rw [gd_rI_at]
    refine lw_th t2 ?_
    rw [gd_rI_at]
    obtain ⟨i1, i2, i3⟩ := lw_finX f G f2 G2 (gs_no_ok ok) (gs_no_by hB) l0
    exact ⟨rfl, fun z => absurd z (by decide), nx v2 _ i1 i2 i3⟩
theorem oi_inj {a b : Option Nat} {n : Nat} (hn : n ≤ 24) (ha : ∀ s, a = some s → s < n) (hb : ∀ s, b = some s → s < n) (h : oi a = oi b) : a = b := by
  cases a with
  | none =>
    cases b with
    | none => rfl
    | some t => exact absurd h.symm (nu_m1 (by have := hb t rfl; omega))
  | some s =>
    cases b with
    | none => exact absurd h (nu_m1 (by have := ha s rfl; omega))
    | some t => rw [nu_inj (by have := ha s rfl; omega) (by have := hb t rfl; omega) h]
theorem oi_no {o : Option Nat} {x : Int32} {n : Nat} (ho : ∀ s, o = some s → s < n) (e : x = oi o) (h1 : ¬ x = -1) (h2 : ∀ i, i < n → ¬ x = nI i) : False := by
  cases o with
  | none => exact h1 e
  | some s => exact h2 s (ho s rfl) e
theorem sL_without (hN : ab_N g) (hI : lw_I v S) (hd : 46 ≤ d) (hj : j + 5 < v.2.2.2.2.2) (hl : v.2.2.2.2.2 ≤ 3072) (hb : 1 ≤ bc ∧ 6 ≤ bs) (nx : lw_nx g d (bc - 1) (bs - 6) j v Q) : gd_G g mL_law d bc bs 1268 (lw_LL j) [] v Q := by
  obtain ⟨c, r, ok, hB, l0⟩ := hI
  refine eL_without (dy := 45) (dz := 44) (my := 1) (sy := 6) (by omega) (by omega) (by omega) hj hl hb (uL_without (dy := 44) hN (Nat.le_refl _) (k_without (by decide) c ok (fun w v1 ho e f G => ?_) (fun q1 q v1 f G => ?_)))
  · rw [gd_rJ_at, gd_rI_at]
    refine ⟨f.2.1, ?_⟩
    show gd_C g mX11_without 44 0 0 [zR 11 0, zI (v1.1 63 0 (j + 1))] _ _
    rw [(f.1 63 0 (j + 1) (by omega)).1]
    refine rr_without (by decide) (gr_out (r.keep f)) ok (fun w' v2 ho' e' f2 t2 G2 => ?_) (fun q1' q' => absurd trivial (fun _ => oi_no ho e q1' q'))
    have uw := oi_inj ok.1.2.1 ho ho' (e.symm.trans e')
    subst uw
    rw [gd_rJ_at]
    refine lw_th t2 ?_
    rw [gd_rI_at]
    obtain ⟨i1, i2, i3, i4⟩ := lw_fin f G f2 G2 ok hB l0
    exact ⟨rfl, fun _ => i4, nx v2 S i1 i2 i3⟩
  · refine ⟨rfl, ?_⟩
    rw [gd_rI_at]
    refine ⟨f.2.1, ?_⟩
    rw [(f.1 63 0 (j + 1) (by omega)).1]
    refine rr_without (by decide) (r.keep f) ok (fun w' v2 ho' e' f2 t2 G2 => absurd trivial (fun _ => oi_no ho' e' q1 q)) (fun q1' q' v2 f2 t2 G2 => ?_)
    rw [gd_rJ_at]
    refine lw_th t2 ?_
    rw [gd_rI_at]
    obtain ⟨i1, i2, i3⟩ := lw_finX f G f2 G2 (gs_no_ok ok) (gs_no_by hB) l0
    exact ⟨rfl, fun z => absurd z (by decide), nx v2 _ i1 i2 i3⟩
theorem b2_inj {a b : Bool} (h : b2 a = b2 b) : a = b := by cases a <;> cases b <;> first | rfl | exact absurd h (by decide)
theorem b2_or (b : Bool) : b2 b = 0 ∨ b2 b = 1 := by cases b; exact Or.inl rfl; exact Or.inr rfl
theorem sL_most (hN : ab_N g) (hI : lw_I v S) (hd : 46 ≤ d) (hj : j + 5 < v.2.2.2.2.2) (hl : v.2.2.2.2.2 ≤ 3072) (hb : 1 ≤ bc ∧ 6 ≤ bs) (nx : lw_nx g d (bc - 1) (bs - 6) j v Q) : gd_G g mL_law d bc bs 1157 (lw_LL j) [] v Q := by
  obtain ⟨c, r, ok, hB, l0⟩ := hI
  refine eL_most (dy := 45) (dz := 44) (my := 1) (sy := 6) (by omega) (by omega) (by omega) hj hl hb (uL_most (dy := 44) hN (Nat.le_refl _) (k_most (by decide) c ok (fun q v1 f G => ?_) (fun bb e v1 y f G hy => ?_)))
  · refine ⟨rfl, ?_⟩
    rw [gd_rI_at]
    refine ⟨f.2.1, ?_⟩
    rw [(f.1 63 0 (j + 1) (by omega)).1]
    refine rr_most (by decide) (r.keep f) ok (fun bb' e' => absurd (by rw [e']; exact b2_or bb') q) (fun _ v2 f2 t2 G2 => ?_)
    rw [gd_rJ_at]
    refine lw_th t2 ?_
    rw [gd_rI_at]
    obtain ⟨i1, i2, i3⟩ := lw_finX f G f2 G2 (gs_no_ok ok) (gs_no_by hB) l0
    exact ⟨rfl, fun z => absurd z (by decide), nx v2 _ i1 i2 i3⟩
  · rw [gd_rJ_at, gd_rI_at]
    refine ⟨f.2.1, ?_⟩
    show gd_C g mX11_most 44 0 0 [zR 11 0, zI (v1.1 63 0 (j + 1))] _ _
    rw [(f.1 63 0 (j + 1) (by omega)).1]
    refine rr_most (by decide) (gr_out (r.keep f)) ok (fun bb' e' v2 y' f2 t2 G2 hy' => ?_) (fun q => absurd (by rw [e]; exact b2_or bb) q)
    have ub := b2_inj (e.symm.trans e')
    subst ub
    have uy := mo_val.one ok.1 hy hy'
    subst uy
    rw [gd_rJ_at]
    refine lw_th t2 ?_
    rw [gd_rI_at]
    obtain ⟨i1, i2, i3, i4⟩ := lw_fin f G f2 G2 ok hB l0
    exact ⟨rfl, fun _ => i4, nx v2 S i1 i2 i3⟩
theorem sL_between (hN : ab_N g) (hI : lw_I v S) (hd : 46 ≤ d) (hj : j + 5 < v.2.2.2.2.2) (hl : v.2.2.2.2.2 ≤ 3072) (hb : 2 ≤ bc ∧ 12 ≤ bs) (nx : lw_nx g d (bc - 2) (bs - 12) j v Q) : gd_G g mL_law d bc bs 1323 (lw_LL j) [] v Q := by
  obtain ⟨c, r, ok, hB, l0⟩ := hI
  refine eL_between (dy := 45) (dz := 44) (my := 2) (sy := 12) (by omega) (by omega) (by omega) hj hl hb (uL_between (dy := 44) hN (Nat.le_refl _) (k_between (by decide) c ok (fun a b ha hb e e2 => ?_) (fun q v1 f G => ?_)))
  · rw [gd_rI_at, gd_rI_at]
    refine ⟨rfl, ?_⟩
    refine rr_between (by decide) (gr_out r) ok (fun a' b' v2 ha' hb' e' e2' f2 t2 G2 => ?_) (fun q => absurd ⟨⟨a, ha, e⟩, b, hb, e2⟩ q)
    have ua := nu_inj (by have := ok.1.1; omega) (by have := ok.1.1; omega) (e.symm.trans e')
    have ub := nu_inj (by have := ok.1.1; omega) (by have := ok.1.1; omega) (e2.symm.trans e2')
    subst ua ub
    rw [gd_rI_at]
    refine lw_th t2 ?_
    rw [gd_rI_at]
    obtain ⟨i1, i2, i3, i4⟩ := lw_fin fcl.rf c f2 G2 ok hB l0
    exact ⟨rfl, fun _ => i4, nx v2 S i1 i2 i3⟩
  · refine ⟨rfl, ?_⟩
    rw [gd_rI_at]
    refine ⟨f.2.1, ?_⟩
    rw [(f.1 63 0 (j + 1) (by omega)).1, (f.1 63 0 (j + 2) (by omega)).1]
    refine rr_between (by decide) (r.keep f) ok (fun a' b' v2 ha' hb' e' e2' f2 t2 G2 => absurd ⟨⟨a', ha', e'⟩, b', hb', e2'⟩ q) (fun _ v2 f2 t2 G2 => ?_)
    rw [gd_rI_at]
    refine lw_th t2 ?_
    rw [gd_rI_at]
    obtain ⟨i1, i2, i3⟩ := lw_finX f G f2 G2 (gs_no_ok ok) (gs_no_by hB) l0
    exact ⟨rfl, fun z => absurd z (by decide), nx v2 _ i1 i2 i3⟩
end MV
