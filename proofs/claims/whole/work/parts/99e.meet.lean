/-! THE LAW: feed, text, sale, ring -/
section MY
variable {g : ab_E} {d bc bs j : Nat} {v : gd_D} {Q : ab_O → gd_D → Prop} {S : gs_T}
theorem sa_O {a b u p t : Nat} {x1 x2 x3 x4 x5 : Int32} (ha : a < 2 ^ 31) (hb : b < 2 ^ 31) (hab : ¬ a = b) (hu : 1 ≤ u ∧ u ≤ 1000) (hp : 1 ≤ p ∧ p ≤ 10000) (ht : t ≤ 999) (e1 : x1 = nI a) (e2 : x2 = nI b) (e3 : x3 = nI u) (e4 : x4 = nI p) (e5 : x5 = nI t) : saO x1 x2 x3 x4 x5 := by
  subst e1 e2 e3 e4 e5
  exact ⟨fun q => hab (nu_inj ha hb q), nu_mid hu.1 hu.2 (by omega), nu_mid hp.1 hp.2 (by omega), nu_mid (Nat.zero_le _) ht (by omega)⟩
theorem sL_sale (hN : ab_N g) (hI : lw_I v S) (hd : 46 ≤ d) (hj : j + 5 < v.2.2.2.2.2) (hl : v.2.2.2.2.2 ≤ 3072) (hb : 7 ≤ bc ∧ 42 ≤ bs) (nx : lw_nx g d (bc - 7) (bs - 42) j v Q) : gd_G g mL_law d bc bs 298 (lw_LL j) [] v Q := by
  obtain ⟨c, r, ok, hB, l0⟩ := hI
  refine eL_sale (dy := 45) (dz := 44) (my := 7) (sy := 42) (by omega) (by omega) (by omega) hj hl hb (uL_sale (dy := 44) hN (Nat.le_refl _) (k_sale (by decide) c ok (fun a b u p t v1 ha hbb hab hu hp ht e1 e2 e3 e4 e5 hn f G => ?_) (fun q v1 f G => ?_) (fun d1 d2 q v1 f G => ?_) (fun d1 d2 oo h24 v1 f G => ?_)))
  · rw [gd_rI_at, gd_rI_at]
    refine ⟨f.2.1, ?_⟩
    show gd_C g mX11_sale 44 0 0 [zR 11 0, zI (v1.1 63 0 (j + 1)), zI (v1.1 63 0 (j + 2)), zI (v1.1 63 0 (j + 3)), zI (v1.1 63 0 (j + 4)), zI (v1.1 63 0 (j + 5))] _ _
    rw [(f.1 63 0 (j + 1) (by omega)).1, (f.1 63 0 (j + 2) (by omega)).1, (f.1 63 0 (j + 3) (by omega)).1, (f.1 63 0 (j + 4) (by omega)).1, (f.1 63 0 (j + 5) (by omega)).1]
    refine rr_sale (by decide) (gr_out (r.keep f)) ok (fun a' b' u' p' t' v2 ha' hbb' hab' hu' hp' ht' e1' e2' e3' e4' e5' hn' f2 t2 G2 => ?_) (fun q' => absurd ⟨⟨a, ha, e1⟩, b, hbb, e2⟩ q') (fun d1' d2' q' => absurd (sa_O (by have := ok.1.1; omega) (by have := ok.1.1; omega) hab hu hp ht e1 e2 e3 e4 e5) q') (fun d1' d2' oo' h24' => absurd hn (Nat.not_lt.mpr h24'))
    have ua := nu_inj (by have := ok.1.1; have := ok.1.2.1; omega) (by have := ok.1.1; have := ok.1.2.1; omega) (e1.symm.trans e1')
    subst ua
    have ub := nu_inj (by have := ok.1.1; have := ok.1.2.1; omega) (by have := ok.1.1; have := ok.1.2.1; omega) (e2.symm.trans e2')
    subst ub
    have uu := nu_inj (by have := ok.1.1; have := ok.1.2.1; omega) (by have := ok.1.1; have := ok.1.2.1; omega) (e3.symm.trans e3')
    subst uu
    have up := nu_inj (by have := ok.1.1; have := ok.1.2.1; omega) (by have := ok.1.1; have := ok.1.2.1; omega) (e4.symm.trans e4')
    subst up
    have ut := nu_inj (by have := ok.1.1; have := ok.1.2.1; omega) (by have := ok.1.1; have := ok.1.2.1; omega) (e5.symm.trans e5')
    subst ut
    rw [gd_rI_at]
    refine lw_th t2 ?_
    rw [gd_rI_at]
    obtain ⟨i1, i2, i3, i4⟩ := lw_fin f G f2 G2 (gs_sale_ok ok hn ha hbb hab hu hp ht) hB l0
    exact ⟨rfl, fun _ => i4, nx v2 _ i1 i2 i3⟩
  · refine Or.inl ⟨rfl, ?_⟩
    rw [gd_rI_at]
    refine ⟨f.2.1, ?_⟩
    rw [(f.1 63 0 (j + 1) (by omega)).1, (f.1 63 0 (j + 2) (by omega)).1, (f.1 63 0 (j + 3) (by omega)).1, (f.1 63 0 (j + 4) (by omega)).1, (f.1 63 0 (j + 5) (by omega)).1]
    refine rr_sale (by decide) (r.keep f) ok (fun a' b' u' p' t' v2 ha' hbb' hab' hu' hp' ht' e1' e2' e3' e4' e5' hn' f2 t2 G2 => absurd ⟨⟨a', ha', e1'⟩, b', hbb', e2'⟩ q) (fun q' v2 f2 t2 G2 => ?_) (fun d1' d2' q' => absurd ⟨d1', d2'⟩ q) (fun d1' d2' oo' h24' => absurd ⟨d1', d2'⟩ q)
    rw [gd_rI_at]
    refine lw_th t2 ?_
    rw [gd_rI_at]
    obtain ⟨i1, i2, i3⟩ := lw_finX f G f2 G2 (gs_no_ok ok) (gs_no_by hB) l0
    exact ⟨rfl, fun z => absurd z (by decide), nx v2 _ i1 i2 i3⟩
  · refine Or.inr (Or.inl ⟨rfl, ?_⟩)
    rw [gd_rI_at]
    refine ⟨f.2.1, ?_⟩
    rw [(f.1 63 0 (j + 1) (by omega)).1, (f.1 63 0 (j + 2) (by omega)).1, (f.1 63 0 (j + 3) (by omega)).1, (f.1 63 0 (j + 4) (by omega)).1, (f.1 63 0 (j + 5) (by omega)).1]
    refine rr_sale (by decide) (r.keep f) ok (fun a' b' u' p' t' v2 ha' hbb' hab' hu' hp' ht' e1' e2' e3' e4' e5' hn' f2 t2 G2 => absurd (sa_O (by have := ok.1.1; omega) (by have := ok.1.1; omega) hab' hu' hp' ht' e1' e2' e3' e4' e5') q) (fun q' => absurd ⟨d1, d2⟩ q') (fun d1' d2' q' v2 f2 t2 G2 => ?_) (fun d1' d2' oo' h24' => absurd oo' q)
    rw [gd_rI_at]
    refine lw_th t2 ?_
    rw [gd_rI_at]
    obtain ⟨i1, i2, i3⟩ := lw_finX f G f2 G2 (gs_no_ok ok) (gs_no_by hB) l0
    exact ⟨rfl, fun z => absurd z (by decide), nx v2 _ i1 i2 i3⟩
  · refine Or.inr (Or.inr ⟨rfl, ?_⟩)
    rw [gd_rI_at]
    refine ⟨f.2.1, ?_⟩
    rw [(f.1 63 0 (j + 1) (by omega)).1, (f.1 63 0 (j + 2) (by omega)).1, (f.1 63 0 (j + 3) (by omega)).1, (f.1 63 0 (j + 4) (by omega)).1, (f.1 63 0 (j + 5) (by omega)).1]
    refine rr_sale (by decide) (r.keep f) ok (fun a' b' u' p' t' v2 ha' hbb' hab' hu' hp' ht' e1' e2' e3' e4' e5' hn' f2 t2 G2 => absurd hn' (Nat.not_lt.mpr h24)) (fun q' => absurd ⟨d1, d2⟩ q') (fun d1' d2' q' => absurd oo q') (fun d1' d2' oo' h24' v2 f2 t2 G2 => ?_)
    rw [gd_rI_at]
    refine lw_th t2 ?_
    rw [gd_rI_at]
    obtain ⟨i1, i2, i3⟩ := lw_finX f G f2 G2 (gs_no_ok ok) (gs_no_by hB) l0
    exact ⟨rfl, fun z => absurd z (by decide), nx v2 _ i1 i2 i3⟩
theorem text_by {n : Nat} : gs_by (gs_text S n) := by
  unfold gs_text
  split <;> exact fun j hj => absurd hj (Nat.not_lt_zero _)
theorem sL_text (hN : ab_N g) (hI : lw_I v S) (hd : 46 ≤ d) (hj : j + 5 < v.2.2.2.2.2) (hl : v.2.2.2.2.2 ≤ 3072) (hb : 2 ≤ bc ∧ 506 ≤ bs) (nx : lw_nx g d (bc - 2) (bs - 506) j v Q) : gd_G g mL_law d bc bs 229 (lw_LL j) [] v Q := by
  obtain ⟨c, r, ok, hB, l0⟩ := hI
  refine eL_text (dy := 45) (dz := 44) (my := 2) (sy := 506) (by omega) (by omega) (by omega) hj hl hb (uL_text (dy := 44) hN (Nat.le_refl _) (k_text (by decide) c ok l0 (fun n v1 hn e f G => ?_) (fun q v1 f G => ?_)))
  · rw [gd_rI_at, gd_rI_at]
    refine ⟨f.2.1, ?_⟩
    show gd_C g mX11_text 44 0 0 [zR 11 0, zI (v1.1 63 0 (j + 1))] _ _
    rw [(f.1 63 0 (j + 1) (by omega)).1]
    refine rr_text (by decide) (gr_out (r.keep f)) ok hB (fun n' v2 hn' e' f2 t2 G2 => ?_) (fun q' => absurd (by rw [e]; exact nu_mid (Nat.zero_le _) hn (by have := ok.2.2; omega)) q')
    have un := nu_inj (by have := ok.2.2; omega) (by have := ok.2.2; omega) (e.symm.trans e')
    subst un
    rw [gd_rI_at]
    refine lw_th t2 ?_
    rw [gd_rI_at]
    obtain ⟨i1, i2, i3, i4⟩ := lw_fin f G f2 G2 (gs_text_ok ok hn) text_by l0
    exact ⟨rfl, fun _ => i4, nx v2 _ i1 i2 i3⟩
  · refine ⟨rfl, ?_⟩
    rw [gd_rI_at]
    refine ⟨f.2.1, ?_⟩
    rw [(f.1 63 0 (j + 1) (by omega)).1]
    refine rr_text (by decide) (r.keep f) ok hB (fun n' v2 hn' e' f2 t2 G2 => absurd (by rw [e']; exact nu_mid (Nat.zero_le _) hn' (by have := ok.2.2; omega)) q) (fun q' v2 f2 t2 G2 => ?_)
    rw [gd_rI_at]
    refine lw_th t2 ?_
    rw [gd_rI_at]
    obtain ⟨i1, i2, i3⟩ := lw_finX f G f2 G2 (gs_no_ok ok) (gs_no_by hB) l0
    exact ⟨rfl, fun z => absurd z (by decide), nx v2 _ i1 i2 i3⟩
theorem sL_ring (hN : ab_N g) (hI : lw_I v S) (hd : 46 ≤ d) (hj : j + 5 < v.2.2.2.2.2) (hl : v.2.2.2.2.2 ≤ 3072) (hb : 1 ≤ bc ∧ 6 ≤ bs) (nx : lw_nx g d (bc - 1) (bs - 6) j v Q) : gd_G g mL_law d bc bs 1101 (lw_LL j) [] v Q := by
  obtain ⟨c, r, ok, hB, l0⟩ := hI
  refine eL_ring (dy := 45) (dz := 44) (my := 1) (sy := 6) (by omega) (by omega) (by omega) hj hl hb (uL_ring (dy := 44) hN (Nat.le_refl _) (k_ringQ (by decide) c ok (fun n R v1 hn e hR f G => ?_) (fun n v1 hn e hR f G => ?_) (fun q v1 f G => ?_)))
  · rw [gd_rI_at, gd_rI_at]
    refine ⟨f.2.1, ?_⟩
    show gd_C g mX11_ring 44 0 0 [zR 11 0, zI (v1.1 63 0 (j + 1))] _ _
    rw [(f.1 63 0 (j + 1) (by omega)).1]
    refine rr_ringQ (by decide) (gr_out (r.keep f)) ok (fun n' R' v2 hn' e' hR' f2 t2 G2 => ?_) (fun n' v2 hn' e' hR' => absurd hR (hR' R)) (fun q => absurd (by rw [e]; exact nu_mid (Nat.zero_le _) hn (by omega)) q)
    have un := nu_inj (by omega) (by omega) (e.symm.trans e')
    have ur := rg_F_un hR hR'
    subst un ur
    rw [gd_rI_at]
    refine lw_th t2 ?_
    rw [gd_rI_at]
    obtain ⟨i1, i2, i3, i4⟩ := lw_fin f G f2 G2 ok hB l0
    exact ⟨rfl, fun _ => i4, nx v2 S i1 i2 i3⟩
  · rw [gd_rI_at, gd_rI_at]
    refine ⟨f.2.1, ?_⟩
    show gd_C g mX11_ring 44 0 0 [zR 11 0, zI (v1.1 63 0 (j + 1))] _ _
    rw [(f.1 63 0 (j + 1) (by omega)).1]
    refine rr_ringQ (by decide) (gr_out (r.keep f)) ok (fun n' R' v2 hn' e' hR' => absurd hR' (hR R')) (fun n' v2 hn' e' hR' f2 t2 G2 => ?_) (fun q => absurd (by rw [e]; exact nu_mid (Nat.zero_le _) hn (by omega)) q)
    rw [gd_rI_at]
    refine lw_th t2 ?_
    rw [gd_rI_at]
    obtain ⟨i1, i2, i3, i4⟩ := lw_fin f G f2 G2 ok hB l0
    exact ⟨rfl, fun _ => i4, nx v2 S i1 i2 i3⟩
  · refine ⟨rfl, ?_⟩
    rw [gd_rI_at]
    refine ⟨f.2.1, ?_⟩
    rw [(f.1 63 0 (j + 1) (by omega)).1]
    refine rr_ringQ (by decide) (r.keep f) ok (fun n' R' v2 hn' e' => absurd (by rw [e']; exact nu_mid (Nat.zero_le _) hn' (by omega)) q) (fun n' v2 hn' e' => absurd (by rw [e']; exact nu_mid (Nat.zero_le _) hn' (by omega)) q) (fun _ v2 f2 t2 G2 => ?_)
    rw [gd_rI_at]
    refine lw_th t2 ?_
    rw [gd_rI_at]
    obtain ⟨i1, i2, i3⟩ := lw_finX f G f2 G2 (gs_no_ok ok) (gs_no_by hB) l0
    exact ⟨rfl, fun z => absurd z (by decide), nx v2 _ i1 i2 i3⟩
def tp_by (T : tp_T) : Prop := ∀ j, j < T.1 → (T.2 j).toInt8.toInt32 = T.2 j
theorem by8_by (x k : Int32) : (by8 x k).toInt8.toInt32 = by8 x k := by
  unfold by8
  generalize (x >>> (k &&& 31)).toInt8 = z
  simp
theorem pb_by {T : tp_T} (x k : Int32) (h : tp_by T) : tp_by (pb T (by8 x k)) := by
  intro j hj
  have hj : j < T.1 + 1 := hj
  show (if j = T.1 then by8 x k else T.2 j).toInt8.toInt32 = if j = T.1 then by8 x k else T.2 j
  by_cases c : j = T.1
  · rw [if_pos c]; exact by8_by x k
  · rw [if_neg c]; exact h j (by omega)
theorem fd4_by {T : tp_T} (x : Int32) (h : tp_by T) : tp_by (fd4 T x) := pb_by x 0 (pb_by x 8 (pb_by x 16 (pb_by x 24 h)))
theorem feed_by {a b c e f : Int32} (hB : gs_by S) : gs_by (gs_feed S a b c e f) := fd4_by f (fd4_by e (fd4_by c (fd4_by b (fd4_by a hB))))
theorem sL_feed (hI : lw_I v S) (hd : 46 ≤ d) (hj : j + 5 < v.2.2.2.2.2) (hl : v.2.2.2.2.2 ≤ 3072) (nx : lw_nx g d bc bs j v Q) : gd_G g mL_law d bc bs 156 (lw_LL j) [] v Q := by
  obtain ⟨c, r, ok, hB, l0⟩ := hI
  refine eL_feed (dy := 44) (dz := 44) (my := 0) (sy := 0) (by omega) (by omega) (by omega) hj hl ⟨Nat.zero_le _, Nat.zero_le _⟩ (k_feed (by decide) c ok (fun hr v1 f G => ?_) (fun hr => ?_))
  · rw [gd_rI_at]
    refine ⟨f.2.1, ?_⟩
    rw [(f.1 63 0 (j + 1) (by omega)).1, (f.1 63 0 (j + 2) (by omega)).1, (f.1 63 0 (j + 3) (by omega)).1, (f.1 63 0 (j + 4) (by omega)).1, (f.1 63 0 (j + 5) (by omega)).1]
    refine rr_feed (by decide) (r.keep f) ok (fun _ v2 f2 G2 => ?_) (fun q => absurd hr q)
    rw [gd_rI_at]
    obtain ⟨i1, i2, i3⟩ := lw_finX f G f2 G2 (gs_feed_ok ok hr) (feed_by hB) l0
    exact ⟨rfl, nx v2 _ i1 i2 i3⟩
  · rw [gd_rI_at]
    refine ⟨rfl, rr_feed (by decide) r ok (fun q => absurd q hr) (fun _ v2 f2 G2 => ?_)⟩
    rw [gd_rI_at]
    obtain ⟨i1, i2, i3⟩ := lw_finX fcl.rf c f2 G2 ok hB l0
    exact ⟨rfl, nx v2 S i1 i2 i3⟩
end MY
