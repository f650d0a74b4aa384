/-! THE CALLS: without, feed -/
theorem hs_W.out {H : hs_T} {s : Nat} (hW : hs_W H) (hs : s < Hh H 1) : hs_W (hsS H s 5 0) := by
  obtain ⟨a0, a1, a2, a3, a4, a5, a6, a7, a8, a9⟩ := hW
  have mono : ∀ n, hs_used H n ≤ hs_used (hsS H s 5 0) n := hs_used_mono (fun k => hsS_ne (by omega)) (fun k => by
    by_cases e : k = s
    · subst e; rw [hsS_at]; exact Nat.zero_le _
    · rw [hsS_ne (by omega)]; exact Nat.le_refl _)
  refine ⟨a0, a1, a2, a3, a4, a5, a6, fun i hi => ?_, fun i hi => ?_, a9⟩
  · have h1 := a7 i hi
    have h2 := mono (Hh H 1)
    exact ⟨Nat.le_trans h1.1 (Nat.add_le_add_left h2 _), Nat.le_trans h1.2 h2⟩
  · have h1 := a8 i hi
    unfold hs_S at h1 ⊢
    by_cases e : i = s
    · subst e
      rw [hsS_at, hsS_ne (b := 0) (by omega), hsS_ne (b := 1) (by omega), hsS_ne (b := 2) (by omega), hsS_ne (b := 3) (by omega), hsS_ne (b := 4) (by omega), hsS_ne (b := 6) (by omega), hsS_ne (b := 7) (by omega), hsS_ne (b := 8) (by omega)]
      exact ⟨h1.1, h1.2.1, h1.2.2.1, h1.2.2.2.1, h1.2.2.2.2.1, h1.2.2.2.2.2.1, by omega⟩
    · have ee : ∀ b, Hs (hsS H s 5 0) i b = Hs H i b := fun b => hsS_ne (by omega)
      simp only [ee]
      exact h1
/-- a house with a sale left out (none) -/
def woH (H : hs_T) : Option Nat → hs_T
  | none => H
  | some s => hsS H s 5 0
noncomputable def gs_wo (H : hs_T) (o : Option Nat) : Int64 := if 5000 ≤ Hh H 2 then 0 else nt_p (woH H o)
theorem nt_p_def {H : hs_T} : nt_p H = nt_p H := rfl
section CWO
variable {g : ab_E} {d : Nat} {v : gd_D} {Q : ab_O → gd_D → Prop} {S : gs_T}
theorem k_without {x : Int32} (hd : 44 ≤ d) (hG : gc_R v S) (hS : gs_ok S) (h1 : ∀ o v', (∀ s, o = some s → s < Hh S.1 1) → x = oi o → fcl v v' → gc_R v' S → Q (Sum.inl (some (zJ (gs_wo S.1 o)))) v') (h0 : ¬ x = -1 → (∀ i, i < Hh S.1 1 → ¬ x = nI i) → ∀ v', fcl v v' → gc_R v' (gs_no S 0) → Q (Sum.inr "java/util/NoSuchElementException") v') : gd_C g mX10_without d 1 6 [zR 10 0, zI x] v Q := by
  have h24 := hS.1.2.1
  have hday := hS.1.2.2.1
  have ok : ∀ u : gd_D, frD (fN 10) (fun x => x = 10) v u → fcl v u ∧ gc_R u S := fun u hf => by
    have hW : frD fW pW v u := hf.wk fN10_W (fun x q => Or.inr q)
    exact ⟨fW_cl hW, gc_house (H' := S.1) hG hS hW (cr9_keep hG.1 hS.1 hf (fun k i j q => q) (by decide))⟩
  have fin : ∀ (o : Option Nat) (u : gd_D), (∀ s, o = some s → s < Hh S.1 1) → x = oi o → Hh S.1 2 < 5000 → frD (fN 10) (fun x => x = 10) v u → cr_R u 10 (woH S.1 o) → hs_W (woH S.1 o) → wp_X10_without_49 g d u Q := by
    intro o u ho e hlt hf hR hW
    refine k_pass (Nat.le_refl 43) hR hW (fun v2 f2 R2 p1 p2 p3 => ?_)
    rw [gd_rV_at, p3]
    obtain ⟨C, G⟩ := ok v2 (hf.tr f2.D)
    have t := h1 o v2 ho e C G
    unfold gs_wo at t
    rw [if_neg (by omega)] at t
    exact t
  have e4 : v.1 2 9 4 = nI (Hh S.1 2) := hG.1.1 2 (by omega)
  have mid : ∀ (o : Option Nat), (∀ s, o = some s → s < Hh S.1 1) → x = oi o → wp_X10_without_10 g d x v Q := by
    intro o ho e
    refine pk_lt (Hh S.1 2) 5000 (fun hlt => ?_) (fun hge => ?_) e4 rfl (by omega) (by omega)
    · refine k_copyFrom (Nat.le_refl 3) (by omega) hG.1 hS.1 (fun v1 f1 R1 => ?_)
      rw [gd_rV_at]
      have f1' : frD (fN 10) (fun x => x = 10) v v1 := (f1.D (P := fun x => x = 10) rfl).wk (fun k i j q => Or.inl q) (fun x q => q)
      cases o with
      | none =>
        refine ⟨fun _ => fin none v1 ho e hlt f1' R1 hS.1, fun q => absurd e q⟩
      | some s =>
        have hs := ho s rfl
        refine ⟨fun q => absurd (e.symm.trans q) (nu_m1 (by omega)), fun _ => ?_⟩
        have e : x = nI s := e
        subst e
        refine c_X2_leaveOut (Nat.zero_le _) ⟨nu_in (by omega) (by omega), ?_⟩
        rintro _ rfl
        rw [gd_rV_at, nI_clamp (by omega)]
        have f2 : frD (fN 10) (fun x => x = 10) v1 (gd_sI v1 9 (24 * 10 + s) 5 0) := (fr.sI (X := fN 10) (Or.inl (fh9 (by omega)))).D
        exact fin (some s) _ ho rfl hlt (f1'.tr f2) (cr_sS (x := 0) R1 h24 hs (by omega)) (hS.1.out hs)
    · have t := h1 o v ho e fcl.rf hG
      unfold gs_wo at t
      rw [if_pos hge] at t
      exact t
  refine c_X10_without (by omega) ⟨fun e => mid none (fun s q => by cases q) e, fun hne => ?_⟩
  refine k_needSale (Nat.le_refl 9) hG hS (fun s hs e => ?_) (fun q v' f G => h0 hne q v' f G)
  rw [gd_rV_at]
  exact mid (some s) (fun s' q => by cases q; exact hs) e
theorem rr_without {x : Int32} (hd : 43 ≤ d) (hG : gr_R v S) (hS : gs_ok S) (h1 : ∀ o v', (∀ s, o = some s → s < Hh S.1 1) → x = oi o → fre v v' → v'.1 11 0 0 = 0 → gr_R v' S → Q (Sum.inl (some (zJ (gs_wo S.1 o)))) v') (h0 : ¬ x = -1 → (∀ i, i < Hh S.1 1 → ¬ x = nI i) → ∀ v', fre v v' → v'.1 11 0 0 = 1 → gr_R v' (gs_no S 0) → Q (Sum.inl (some (zJ 0))) v') : gd_C g mX11_without d 0 0 [zR 11 0, zI x] v Q := by
  have h24 := hS.1.2.1
  have hday := hS.1.2.2.1
  obtain ⟨b1, b2', b3⟩ := gr_begin hG
  have mid : ∀ (o : Option Nat), (∀ s, o = some s → s < Hh S.1 1) → x = oi o → wp_X11_without_24 g d x 1 (gd_sI v 11 0 0 0) Q := by
    intro o ho e
    refine r_fine1 (by decide) b3 ⟨fun z => absurd z (by decide), fun _ => ⟨nu_in (n := 2) (by decide) (by decide), ?_⟩⟩
    rw [show ((2 : Int32)).toNatClampNeg = 2 from by decide, b1.1.1 2 (by omega), nu_J 5000, lN_lt (by omega) (by omega)]
    refine ⟨fun hlt => ?_, fun hge => ?_⟩
    · refine r_putsAside b1.1 hS.1 (fun v2 f2 R2 => ?_)
      rw [gd_rV_at]
      obtain ⟨G2, F2, T2⟩ := gr_tool b1 f2 (by decide)
      have fin : ∀ u : gd_D, fr (fx [40]) v2 u → rm_R (u.2.1 40 0) (woH S.1 o) → hs_W (woH S.1 o) → wp_X11_without_70 g d u Q := by
        intro u fu Ru Wu
        refine r_goes (Nat.le_refl 42) Ru Wu (fun z hz => by rw [fu.I (fun _ => fx_n rfl)]; exact G2.2.2.2.2.2.2 z hz) (fun v3 f3 R3 z3 p1 p2 p3 => ?_)
        rw [gd_rV_at]
        have R42 : rm_R (v3.2.1 42 0) S.1 := by
          rw [f3.J (fun j q => by
            rcases q with q | q
            · exact absurd q (by decide)
            · omega), fu.J (fun _ => fx_n rfl)]; exact R2
        refine r_takesBack R42 hS.1 (fun v4 f4 R4 => ?_)
        rw [gd_rV_at]
        have e11 : v4.1 11 0 = v3.1 11 0 := f4.I (fun _ => fx_n rfl)
        have j11 : v4.2.1 11 0 = v3.2.1 11 0 := f4.J (fun _ => fx_n rfl)
        have t4 : v4.1 11 0 0 = 0 := by
          rw [e11, (f3.1 11 0 0 (fun q => by
            rcases q with q | q
            · exact absurd q (by decide)
            · omega)).1, fu.I (fun _ => fx_n rfl), T2]; exact b3
        have f40 : ∀ {a b : gd_D}, fr (fx [40]) a b → fr fV a b := fun h => h.wk (fun k i j q => by rw [List.mem_singleton.mp q]; exact Or.inl (by decide))
        have f4' : fr fV v2 v4 := ((f40 fu).tr (f3.wk fG_V)).tr (f40 f4)
        rw [j11, p3]
        have t := h1 o v4 ho e ((b2'.tr F2).tr (fV_re f4')) t4 (gr_house (H' := S.1) G2 f4' R4 (fun z hz2 => by rw [f4.I (fun _ => fx_n rfl)]; exact z3 z hz2))
        unfold gs_wo at t
        rw [if_neg (by omega)] at t
        exact t
      cases o with
      | none => exact ⟨fun _ => fin v2 fr.rf G2.1 hS.1, fun q => absurd e q⟩
      | some s =>
        have hs := ho s rfl
        have h5 := hS.1.V.five hs
        refine ⟨fun q => absurd (e.symm.trans q) (nu_m1 (by omega)), fun _ => ?_⟩
        have e : x = nI s := e
        subst e
        refine r_of (w := 5) G2.1 hS.1 hs (by decide) ?_
        rw [gd_rI_at, nu_ln (by omega)]
        refine r_adds (j := 5) (x := 0) G2.1 ⟨hS.1.1, h24⟩ hs (by omega) ?_ (fun v3 f3 R3 => ?_)
        · rw [nu_ladd (Nat.le_refl _), Nat.sub_self]
        rw [gd_rV_at]
        exact fin v3 f3 R3 (hS.1.out hs)
    · have t := h1 o _ ho e b2' b3 b1
      unfold gs_wo at t
      rw [if_pos (by omega)] at t
      exact t
  refine c_X11_without (by omega) ?_
  rintro _ rfl
  refine ⟨fun e => mid none (fun s q => by cases q) e, fun hne => ?_⟩
  refine r_isSale (Nat.le_refl 3) b1.1 hS.1 (fun s hs e => ⟨fun z => absurd z (by decide), fun _ => mid (some s) (fun s' q => by cases q; exact hs) e⟩) (fun hno => ⟨fun _ => ?_, fun z => absurd rfl z⟩)
  refine r_fine0 (k := 0) (by decide) (by decide) b3 ?_
  obtain ⟨n1, n2, n3⟩ := gr_no (c := 1) (k := 0) (by decide) b1
  exact ⟨fun _ => h0 hne hno _ (b2'.tr n2) n3 n1, fun z => absurd rfl z⟩
end CWO
abbrev tp_T : Type := Nat × (Nat → Int32)
def pb (T : tp_T) (y : Int32) : tp_T := (T.1 + 1, fun j => if j = T.1 then y else T.2 j)
def by8 (x k : Int32) : Int32 := ((x >>> (k &&& 31) : Int32).toInt8.toInt32 : Int32).toInt8.toInt32
def fd4 (T : tp_T) (x : Int32) : tp_T := pb (pb (pb (pb T (by8 x 24)) (by8 x 16)) (by8 x 8)) (by8 x 0)
def gs_feed (S : gs_T) (a b c d e : Int32) : gs_T := (S.1, S.2.1, fd4 (fd4 (fd4 (fd4 (fd4 S.2.2.1 a) b) c) d) e, S.2.2.2)
def gc_T (v : gd_D) (T : tp_T) : Prop := v.1 7 0 2 = nI T.1 ∧ ∀ j, j < T.1 → v.1 31 0 j = T.2 j
def gr_T (v : gd_D) (T : tp_T) : Prop := v.1 11 0 9 = nI T.1 ∧ ∀ j, j < T.1 → v.1 44 0 j = T.2 j
def fT (k i j : Nat) : Prop := (k = 31 ∧ i = 0) ∨ (k = 7 ∧ i = 0 ∧ j = 2)
def fU (k i j : Nat) : Prop := (k = 44 ∧ i = 0) ∨ (k = 11 ∧ i = 0 ∧ j = 9)
section CFD
variable {g : ab_E} {d : Nat} {v : gd_D} {Q : ab_O → gd_D → Prop} {S : gs_T} {T : tp_T}
theorem gc_pb {y : Int32} (h : gc_T v T) : gc_T (gd_sI (gd_sI v 31 0 T.1 y) 7 0 2 (nI (T.1 + 1))) (pb T y) ∧ fr fT v (gd_sI (gd_sI v 31 0 T.1 y) 7 0 2 (nI (T.1 + 1))) := by
  refine ⟨⟨sI_at, fun j hj => ?_⟩, (fr.sI (Or.inl ⟨rfl, rfl⟩)).tr (fr.sI (Or.inr ⟨rfl, rfl, rfl⟩))⟩
  have hj : j < T.1 + 1 := hj
  rw [sI_ne (by omega)]
  show _ = if j = T.1 then y else T.2 j
  by_cases e : j = T.1
  · subst e; rw [sI_at, if_pos rfl]
  · rw [sI_ne (by omega), if_neg e]; exact h.2 j (by omega)
theorem gr_pb {y : Int32} (h : gr_T v T) : gr_T (gd_sI (gd_sI v 44 0 T.1 y) 11 0 9 (nI (T.1 + 1))) (pb T y) ∧ fr fU v (gd_sI (gd_sI v 44 0 T.1 y) 11 0 9 (nI (T.1 + 1))) := by
  refine ⟨⟨sI_at, fun j hj => ?_⟩, (fr.sI (Or.inl ⟨rfl, rfl⟩)).tr (fr.sI (Or.inr ⟨rfl, rfl, rfl⟩))⟩
  have hj : j < T.1 + 1 := hj
  rw [sI_ne (by omega)]
  show _ = if j = T.1 then y else T.2 j
  by_cases e : j = T.1
  · subst e; rw [sI_at, if_pos rfl]
  · rw [sI_ne (by omega), if_neg e]; exact h.2 j (by omega)
/-- one byte -/
theorem k_put1 {x k k2 : Int32} (hk : ¬ k < 0) (hk2 : k + (-8) = k2) (hT : gc_T v T) (hl : T.1 < 500) (h : ∀ v', fr fT v v' → gc_T v' (pb T (by8 x k)) → gd_G g mX7_put d 0 0 3 [(0, zR 7 0), (1, zI x), (2, zI k2)] [] v' Q) : gd_G g mX7_put d 0 0 3 [(0, zR 7 0), (1, zI x), (2, zI k)] [] v Q := by
  refine w_X7_put_3 (Nat.zero_le _) ⟨fun q => absurd q hk, fun _ => ?_⟩
  refine pk_le 500 T.1 (fun q => absurd q (by omega)) (fun _ => ?_) rfl hT.1 (by omega) (by omega)
  rw [hT.1, nI_clamp (by omega), hk2]
  refine ⟨nu_in hl (by omega), ?_⟩
  rintro _ rfl _ rfl
  rw [sI_ne (by omega), hT.1, nu_1]
  obtain ⟨t1, t2⟩ := gc_pb (y := by8 x k) hT
  exact h _ t2 t1
theorem r_put1 {x k k2 : Int32} (hk : ¬ k < 0) (hk2 : k + (-8) = k2) (hT : gr_T v T) (hl : T.1 < 500) (h : ∀ v', fr fU v v' → gr_T v' (pb T (by8 x k)) → gd_G g mX11_puts d 0 0 3 [(0, zR 11 0), (1, zI x), (2, zI k2)] [] v' Q) : gd_G g mX11_puts d 0 0 3 [(0, zR 11 0), (1, zI x), (2, zI k)] [] v Q := by
  refine w_X11_puts_3 (Nat.zero_le _) ⟨fun q => absurd q hk, fun _ => ?_⟩
  rw [hT.1, nI_clamp (by omega), hk2]
  refine ⟨nu_in hl (by omega), ?_⟩
  rintro _ rfl _ rfl
  rw [sI_ne (by omega), hT.1, nu_1]
  obtain ⟨t1, t2⟩ := gr_pb (y := by8 x k) hT
  exact h _ t2 t1
theorem k_put {x : Int32} (hT : gc_T v T) (hl : T.1 + 4 ≤ 500) (h : ∀ v', fr fT v v' → gc_T v' (fd4 T x) → Q (Sum.inl none) v') : gd_C g mX7_put d 0 0 [zR 7 0, zI x] v Q := by
  refine c_X7_put (Nat.zero_le _) ?_
  refine k_put1 (k2 := 16) (by decide) (by decide) hT (by omega) (fun v1 f1 T1 => ?_)
  refine k_put1 (k2 := 8) (by decide) (by decide) T1 (by show T.1 + 1 < 500; omega) (fun v2 f2 T2 => ?_)
  refine k_put1 (k2 := 0) (by decide) (by decide) T2 (by show T.1 + 1 + 1 < 500; omega) (fun v3 f3 T3 => ?_)
  refine k_put1 (k2 := -8) (by decide) (by decide) T3 (by show T.1 + 1 + 1 + 1 < 500; omega) (fun v4 f4 T4 => ?_)
  exact w_X7_put_3 (Nat.zero_le _) ⟨fun _ => h v4 (((f1.tr f2).tr f3).tr f4) T4, fun q => absurd (by decide) q⟩
theorem r_puts {x : Int32} (hT : gr_T v T) (hl : T.1 + 4 ≤ 500) (h : ∀ v', fr fU v v' → gr_T v' (fd4 T x) → Q (Sum.inl none) v') : gd_C g mX11_puts d 0 0 [zR 11 0, zI x] v Q := by
  refine c_X11_puts (Nat.zero_le _) ?_
  refine r_put1 (k2 := 16) (by decide) (by decide) hT (by omega) (fun v1 f1 T1 => ?_)
  refine r_put1 (k2 := 8) (by decide) (by decide) T1 (by show T.1 + 1 < 500; omega) (fun v2 f2 T2 => ?_)
  refine r_put1 (k2 := 0) (by decide) (by decide) T2 (by show T.1 + 1 + 1 < 500; omega) (fun v3 f3 T3 => ?_)
  refine r_put1 (k2 := -8) (by decide) (by decide) T3 (by show T.1 + 1 + 1 + 1 < 500; omega) (fun v4 f4 T4 => ?_)
  exact w_X11_puts_3 (Nat.zero_le _) ⟨fun _ => h v4 (((f1.tr f2).tr f3).tr f4) T4, fun q => absurd (by decide) q⟩
/-- the tape alone changes -/
theorem gc_tape {v' : gd_D} (hG : gc_R v S) (hS : gs_ok S) (hf : fr fT v v') (hT : gc_T v' T) : gc_R v' (S.1, S.2.1, T, S.2.2.2) ∧ fcl v v' := by
  obtain ⟨a1, ⟨nx, b1, b2, b3, b4⟩, a3, a4, a5, a6⟩ := hG
  have no : ∀ k i, ¬ k = 31 → ¬ k = 7 → ∀ j, ¬ fT k i j := fun k i h1 h2 j q => by rcases q with q | q <;> omega
  have far : ∀ {n : Nat} {K : hs_T}, cr_R v n K → hs_W K → cr_R v' n K := fun hR hW => hR.far hW hf (fun _ => no 2 _ (by decide) (by decide)) (fun _ => no 0 _ (by decide) (by decide)) (fun _ => no 9 _ (by decide) (by decide)) (fun _ => no 15 _ (by decide) (by decide))
  refine ⟨⟨far a1 hS.1, ⟨nx, b1, by rw [hf.I (no 1 0 (by decide) (by decide))]; exact b2, by rw [hf.I (no 1 0 (by decide) (by decide))]; exact b3, fun j K hj => far (b4 j K hj) (hS.2.1.2 j K hj)⟩, hT.1, hT.2, by rw [hf.I (no 10 0 (by decide) (by decide))]; exact a5, by rw [hf.I (no 38 0 (by decide) (by decide))]; exact a6⟩, hf.cl (fun k i j q => by rcases q with q | q <;> omega)⟩
theorem gr_tape {v' : gd_D} (hG : gr_R v S) (hf : fr fU v v') (hT : gr_T v' T) : gr_R v' (S.1, S.2.1, T, S.2.2.2) ∧ fre v v' ∧ v'.1 11 0 0 = v.1 11 0 0 := by
  obtain ⟨a1, a2, a3, a4, a5, a6, a7⟩ := hG
  have no : ∀ k i, ¬ k = 44 → ¬ k = 11 → ∀ j, ¬ fU k i j := fun k i h1 h2 j q => by rcases q with q | q <;> omega
  have e11 : ∀ j, ¬ j = 9 → v'.1 11 0 j = v.1 11 0 j := fun j hj => (hf.1 11 0 j (fun q => by rcases q with q | q <;> omega)).1
  refine ⟨⟨by rw [hf.J (no 40 0 (by decide) (by decide))]; exact a1, ⟨by rw [e11 6 (by omega)]; exact a2.1, by rw [hf.J (no 43 0 (by decide) (by decide))]; exact a2.2⟩, hT.1, hT.2, by rw [e11 15 (by omega)]; exact a5, by rw [hf.I (no 39 0 (by decide) (by decide))]; exact a6, by rw [hf.I (no 55 0 (by decide) (by decide))]; exact a7⟩, hf.re (fun k i j q => by rcases q with q | q <;> omega), e11 0 (by omega)⟩
theorem fd4_1 {x : Int32} : (fd4 T x).1 = T.1 + 4 := rfl
theorem k_feed {a b c e f : Int32} (hd : 3 ≤ d) (hG : gc_R v S) (hS : gs_ok S) (h1 : S.2.2.1.1 + 20 ≤ 500 → ∀ v', fcl v v' → gc_R v' (gs_feed S a b c e f) → Q (Sum.inl (some (zI (nI (S.2.2.1.1 + 20))))) v') (h0 : ¬ S.2.2.1.1 + 20 ≤ 500 → Q (Sum.inl (some (zI (-1)))) v) : gd_C g mX10_feed d 0 0 [zR 10 0, zI a, zI b, zI c, zI e, zI f] v Q := by
  have hl := hS.2.2
  have hT : gc_T v S.2.2.1 := ⟨hG.2.2.1, hG.2.2.2.1⟩
  refine c_X10_feed hd (pk_le (S.2.2.1.1 + 20) 500 (fun hle => ?_) (fun hgt => h0 (by omega)) (by rw [hT.1, nu_I 20, nI_add]) rfl (by omega) (by omega))
  refine k_put hT (by omega) (fun v1 f1 T1 => ?_)
  rw [gd_rV_at]
  refine k_put T1 (by rw [fd4_1]; omega) (fun v2 f2 T2 => ?_)
  rw [gd_rV_at]
  refine k_put T2 (by rw [fd4_1, fd4_1]; omega) (fun v3 f3 T3 => ?_)
  rw [gd_rV_at]
  refine k_put T3 (by rw [fd4_1, fd4_1, fd4_1]; omega) (fun v4 f4 T4 => ?_)
  rw [gd_rV_at]
  refine k_put T4 (by rw [fd4_1, fd4_1, fd4_1, fd4_1]; omega) (fun v5 f5 T5 => ?_)
  rw [gd_rV_at, T5.1]
  obtain ⟨G5, C5⟩ := gc_tape hG hS ((((f1.tr f2).tr f3).tr f4).tr f5) T5
  exact h1 hle v5 C5 G5
theorem rr_feed {a b c e f : Int32} (hd : 3 ≤ d) (hG : gr_R v S) (hS : gs_ok S) (h1 : S.2.2.1.1 + 20 ≤ 500 → ∀ v', fre v v' → gr_R v' (gs_feed S a b c e f) → Q (Sum.inl (some (zI (nI (S.2.2.1.1 + 20))))) v') (h0 : ¬ S.2.2.1.1 + 20 ≤ 500 → ∀ v', fre v v' → gr_R v' S → Q (Sum.inl (some (zI (-1)))) v') : gd_C g mX11_feed d 0 0 [zR 11 0, zI a, zI b, zI c, zI e, zI f] v Q := by
  have hl := hS.2.2
  obtain ⟨b1, b2', b3⟩ := gr_begin hG
  have hT : gr_T (gd_sI v 11 0 0 0) S.2.2.1 := ⟨b1.2.2.1, b1.2.2.2.1⟩
  refine c_X11_feed hd ?_
  rintro _ rfl
  refine pk_le (S.2.2.1.1 + 20) 500 (fun hle => ?_) (fun hgt => h0 (by omega) _ b2' b1) (by rw [hT.1, nu_I 20, nI_add]) rfl (by omega) (by omega)
  refine r_puts hT (by omega) (fun v1 f1 T1 => ?_)
  rw [gd_rV_at]
  refine r_puts T1 (by rw [fd4_1]; omega) (fun v2 f2 T2 => ?_)
  rw [gd_rV_at]
  refine r_puts T2 (by rw [fd4_1, fd4_1]; omega) (fun v3 f3 T3 => ?_)
  rw [gd_rV_at]
  refine r_puts T3 (by rw [fd4_1, fd4_1, fd4_1]; omega) (fun v4 f4 T4 => ?_)
  rw [gd_rV_at]
  refine r_puts T4 (by rw [fd4_1, fd4_1, fd4_1, fd4_1]; omega) (fun v5 f5 T5 => ?_)
  rw [gd_rV_at, T5.1]
  obtain ⟨G5, C5, -⟩ := gr_tape b1 ((((f1.tr f2).tr f3).tr f4).tr f5) T5
  exact h1 hle v5 (b2'.tr C5) G5
theorem gs_feed_ok {a b c e f : Int32} (hS : gs_ok S) (h : S.2.2.1.1 + 20 ≤ 500) : gs_ok (gs_feed S a b c e f) := ⟨hS.1, hS.2.1, h⟩
end CFD
