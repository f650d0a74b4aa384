/-! MOST: the reference's net in its cells -/
def fNe (k _ j : Nat) : Prop := (56 ≤ k ∧ k ≤ 62) ∨ (k = 11 ∧ j = 38)
def nr_R (v : gd_D) (L : lpT) (m E : Nat) (f : Nat → Int) : Prop := v.1 11 0 38 = nI E ∧ ∀ e, e < E → v.1 56 0 e = nI (ne_F L m e) ∧ v.1 57 0 e = nI (ne_T L m e) ∧ (v.2.1 59 0 e).toInt = ne_R L m e ∧ (v.2.1 60 0 e).toInt = f e ∧ (v.2.1 61 0 e).toInt = ne_G L m e
def rc_c : Option Nat → Int32
  | none => 0
  | some a => if a % 2 = 0 then nI (a / 2) + 1 else -(nI (a / 2)) - 1
def nv_R (v : gd_D) (D : Nat → Int) (P : Nat → Option Nat) : Prop := ∀ w, w < 9 → (v.2.1 62 0 w).toInt = -(D w) ∧ v.1 58 0 w = rc_c (P w)
theorem rc_d : ∀ e, e < 40 → (-(-(nI e) - 1) - 1 = nI e ∧ (-(nI e) - 1 ≤ 0) ∧ (nI e + 1) - 1 = nI e ∧ ¬ (nI e + 1 ≤ 0)) := by decide
def ng_I (L : lpT) (n m : Nat) (f D : Nat → Int) (P : Nat → Option Nat) (rd t : Nat → Nat) (T k q : Nat) : Prop := bf_I (ne_N L m f) (2 * (m + 2 * n)) 1 (fun _ => 0) D P rd t T k q ∧ (∀ w, -(10000 * (t w : Int)) ≤ D w) ∧ T + 80 ≤ 80 * k + q
section RN
variable {g : ab_E} {d : Nat} {v : gd_D} {Q : ab_O → gd_D → Prop} {H : hs_T} {b : Bool} {L : lpT} {n m : Nat} {f D : Nat → Int} {P : Nat → Option Nat} {rd t : Nat → Nat} {T k : Nat}
theorem rm_R.net {v' : gd_D} (hR : rm_R (v.2.1 40 0) H) (hf : fr fNe v v') : rm_R (v'.2.1 40 0) H := by
  rw [hf.J (fun j q => by rcases q with q | q <;> omega)]; exact hR
theorem r_edge {e : Nat} {y z : Int64} (he : e < 40) (hN : nr_R v L m e (fun _ => 0)) (hy : y.toInt = ne_R L m e) (hz : z.toInt = ne_G L m e) (hQ : ∀ v', fr fNe v v' → nr_R v' L m (e + 1) (fun _ => 0) → Q (Sum.inl none) v') : gd_C g mX11_edge d 0 0 [zR 11 0, zI (nI (ne_F L m e)), zI (nI (ne_T L m e)), zJ y, zJ z] v Q := by
  refine c_X11_edge (Nat.zero_le _) ?_
  unfold wp_X11_edge
  have c0 := hN.1
  rw [c0, nI_clamp (n := e) (by omega)]
  refine ⟨nu_in (by omega) (by omega), ?_⟩
  intro v1 e1
  have c1 : v1.1 11 0 38 = nI e := by rw [e1, sI_ne (by omega)]; exact c0
  rw [c1, nI_clamp (n := e) (by omega)]
  refine ⟨nu_in (by omega) (by omega), ?_⟩
  intro v2 e2
  have c2 : v2.1 11 0 38 = nI e := by rw [e2, sI_ne (by omega)]; exact c1
  rw [c2, nI_clamp (n := e) (by omega)]
  refine ⟨nu_in (by omega) (by omega), ?_⟩
  intro v3 e3
  have c3 : v3.1 11 0 38 = nI e := by rw [e3, sJ_I]; exact c2
  rw [c3, nI_clamp (n := e) (by omega)]
  refine ⟨nu_in (by omega) (by omega), ?_⟩
  intro v4 e4
  have c4 : v4.1 11 0 38 = nI e := by rw [e4, sJ_I]; exact c3
  rw [c4, nI_clamp (n := e) (by omega)]
  refine ⟨nu_in (by omega) (by omega), ?_⟩
  intro v5 e5
  have c5 : v5.1 11 0 38 = nI e := by rw [e5, sJ_I]; exact c4
  rw [c5, nu_1]
  intro v6 e6
  refine hQ v6 ?_ ⟨by rw [e6, sI_at], fun e' he' => ?_⟩
  · rw [e6, e5, e4, e3, e2, e1]
    exact ((((((fr.sI (Or.inl (by omega))).tr (fr.sI (Or.inl (by omega)))).tr (fr.sJ (Or.inl (by omega)))).tr (fr.sJ (Or.inl (by omega)))).tr (fr.sJ (Or.inl (by omega)))).tr (fr.sI (Or.inr ⟨rfl, rfl⟩)))
  · rw [e6, sI_ne (by omega), sI_ne (by omega), sI_J, e5, sJ_I, e4, sJ_I, e3, sJ_I, e2]
    by_cases c : e' = e
    · subst c
      rw [sI_ne (by omega), sI_at, e1, sI_at, sJ_ne (by omega), sJ_ne (by omega), sJ_at, sJ_ne (by omega), sJ_at, sJ_at]
      exact ⟨rfl, rfl, hy, rfl, hz⟩
    · rw [sI_ne (by omega), sI_ne (by omega), e1, sI_ne (by omega), sI_ne (by omega), sJ_ne (by omega), sJ_ne (by omega), sJ_ne (by omega), sJ_ne (by omega), sJ_ne (by omega), sJ_ne (by omega), sJ_ne (by omega), sJ_ne (by omega), sJ_ne (by omega)]
      exact hN.2 e' (by omega)
theorem r_laysNet (hd : 4 ≤ d) (hR : rm_R (v.2.1 40 0) H) (hW : hs_W H) (hQ : ∀ v', fr fNe v v' → nr_R v' (mo_L H b) (Hh H 1) (Hh H 1 + 2 * Hh H 0) (fun _ => 0) → Q (Sum.inl none) v') : gd_C g mX11_laysNet d 0 0 [zR 11 0, zI (b2 b)] v Q := by
  have h8 := hW.1
  have h24 := hW.2.1
  have hK := mo_L.ok b hW
  have loop2 : ∀ k i u, i + k = Hh H 0 → fr fNe v u → nr_R u (mo_L H b) (Hh H 1) (Hh H 1 + 2 * i) (fun _ => 0) → gd_G g mX11_laysNet d 0 0 73 [(0, zR 11 0), (2, zI (nI i))] [] u Q := by
    intro k
    induction k with
    | zero =>
      intro i u hi hf hN
      have e : i = Hh H 0 := by omega
      subst e
      exact w_X11_laysNet_73 (by omega) (r_dealers (hR.net hf) (pk_le (Hh H 0) (Hh H 0) (fun _ => hQ u hf hN) (fun q => absurd q (Nat.lt_irrefl _)) rfl rfl (by omega) (by omega)))
    | succ k ih =>
      intro i u hi hf hN
      have hlt : i < Hh H 0 := by omega
      have hR' := hR.net hf
      refine w_X11_laysNet_73 (by omega) (r_dealers hR' (pk_le (Hh H 0) i (fun q => absurd q (by omega)) (fun _ => ?_) rfl rfl (by omega) (by omega)))
      rw [show (0 : Int32) = nI 0 from rfl, nu_d, nI_clamp (n := 9 + 6 * i + 0) (by omega), (hR'.2.2.2.1 i hlt).1, nu_1]
      refine ⟨nu_in (by omega) (by omega), ?_⟩
      rintro _ rfl
      obtain ⟨a1, a2, a3, a4⟩ := ne_h1 (L := mo_L H b) (m := Hh H 1) i
      obtain ⟨b1, b2', b3, b4⟩ := ne_h2 (L := mo_L H b) (m := Hh H 1) i
      have s0 : (lN (Hd H i 0)).toInt = lK (mo_L H b) i := by
        rw [pk_lT (by have := (hW.2.2.2.2.2.2.2.1 i hlt).1; have := hW.used; omega)]; rfl
      have E1 := r_edge (g := g) (d := 2) (v := u) (Q := gd_rV (fun v4 => gd_C g mX11_edge 2 0 0 [zR 11 0, zI (nI i), zI 8, zJ 1000000000, zJ 0] v4 (gd_rV (fun v6 => gd_G g mX11_laysNet d 0 0 73 [(0, zR 11 0), (2, zI (nI (i + 1)))] [] v6 Q) (fun E v9 => Q (Sum.inr E) v9))) (fun E v9 => Q (Sum.inr E) v9)) (L := mo_L H b) (m := Hh H 1) (e := Hh H 1 + 2 * i) (y := lN (Hd H i 0)) (z := 0) (by omega) hN (by rw [a3]; exact s0) (by rw [a4]; rfl)
      rw [a1, a2] at E1
      refine E1 (fun v4 f4 N4 => ?_)
      rw [gd_rV_at]
      have E2 := r_edge (g := g) (d := 2) (v := v4) (Q := gd_rV (fun v6 => gd_G g mX11_laysNet d 0 0 73 [(0, zR 11 0), (2, zI (nI (i + 1)))] [] v6 Q) (fun E v9 => Q (Sum.inr E) v9)) (L := mo_L H b) (m := Hh H 1) (e := Hh H 1 + 2 * i + 1) (y := 1000000000) (z := 0) (by omega) N4 (by rw [b3]; decide) (by rw [b4]; rfl)
      rw [b1, b2'] at E2
      refine E2 (fun v6 f6 N6 => ?_)
      rw [gd_rV_at]
      exact ih (i + 1) v6 (by omega) ((hf.tr f4).tr f6) N6
  have loop1 : ∀ k i u, i + k = Hh H 1 → fr fNe v u → nr_R u (mo_L H b) (Hh H 1) i (fun _ => 0) → gd_G g mX11_laysNet d 0 0 7 [(0, zR 11 0), (1, zI (b2 b)), (2, zI (nI i))] [] u Q := by
    intro k
    induction k with
    | zero =>
      intro i u hi hf hN
      have e : i = Hh H 1 := by omega
      subst e
      exact w_X11_laysNet_7 (by omega) (r_sales (hR.net hf) (pk_le (Hh H 1) (Hh H 1) (fun _ => loop2 (Hh H 0) 0 u (by omega) hf hN) (fun q => absurd q (Nat.lt_irrefl _)) rfl rfl (by omega) (by omega)))
    | succ k ih =>
      intro i u hi hf hN
      have hlt : i < Hh H 1 := by omega
      have hR' := hR.net hf
      have F1 : ne_F (mo_L H b) (Hh H 1) i = Hs H i 0 := if_pos hlt
      have T1 : ne_T (mo_L H b) (Hh H 1) i = Hs H i 1 := if_pos hlt
      have R1 : ne_R (mo_L H b) (Hh H 1) i = if hq H i then (Hs H i 5 : Int) else 0 := if_pos hlt
      have G1 : ne_G (mo_L H b) (Hh H 1) i = if b then (Hs H i 3 : Int) else 1 := if_pos hlt
      have s3 := (hW.2.2.2.2.2.2.2.2.1 i hlt).2.2.2.2.1
      have s5 := hW.V.five hlt
      have last : ∀ y z : Int64, y.toInt = (if hq H i then (Hs H i 5 : Int) else 0) → z.toInt = (if b then (Hs H i 3 : Int) else 1) → wp_X11_laysNet_62 g d (b2 b) (nI i) (nI (Hs H i 0)) (nI (Hs H i 1)) y z u Q := by
        intro y z hy hz
        unfold wp_X11_laysNet_62
        have E1 := r_edge (g := g) (d := 2) (v := u) (Q := gd_rV (fun v1 => gd_G g mX11_laysNet d 0 0 7 [(0, zR 11 0), (1, zI (b2 b)), (2, zI (nI i + 1))] [] v1 Q) (fun E v9 => Q (Sum.inr E) v9)) (L := mo_L H b) (m := Hh H 1) (e := i) (y := y) (z := z) (by omega) hN (by rw [R1]; exact hy) (by rw [G1]; exact hz)
        rw [F1, T1] at E1
        refine E1 (fun v1 f1 N1 => ?_)
        rw [gd_rV_at, nu_1]
        exact ih (i + 1) v1 (by omega) (hf.tr f1) N1
      have mid : ∀ y : Int64, y.toInt = (if hq H i then (Hs H i 5 : Int) else 0) → wp_X11_laysNet_47 g d (b2 b) (nI i) (nI (Hs H i 0)) (nI (Hs H i 1)) y u Q := by
        intro y hy
        refine ⟨fun hc => last y 1 hy (by rw [b2_0 hc]; rfl), fun hc => r_of (w := 3) hR' hW hlt (by decide) (last y _ hy ?_)⟩
        rw [b2_1 hc, Int32.toInt_toInt64, nI_toInt (by omega)]; rfl
      refine w_X11_laysNet_7 (by omega) (r_sales hR' (pk_le (Hh H 1) i (fun q => absurd q (by omega)) (fun _ => ?_) rfl rfl (by omega) (by omega)))
      refine r_of (w := 0) hR' hW hlt (by decide) (r_of (w := 1) hR' hW hlt (by decide) (r_isAsked (Nat.le_refl 3) hR' hW hlt ⟨fun hc => mid 0 ?_, fun hc => r_of (w := 5) hR' hW hlt (by decide) (mid _ ?_)⟩))
      · rw [b2_0 hc]; rfl
      · rw [b2_1 hc, Int32.toInt_toInt64, nI_toInt (by omega)]; rfl
  refine c_X11_laysNet (Nat.zero_le _) ?_
  rintro _ rfl
  exact loop1 (Hh H 1) 0 _ (by omega) (fr.sI (Or.inr ⟨rfl, rfl⟩)) ⟨sI_at, fun e he => absurd he (by omega)⟩
theorem ng_step {q : Nat} (h : ng_I L n m f D P rd t T k q) (hK : lp_K L n m) (hq : q < 2 * (m + 2 * n)) (ho : bO (ne_N L m f) q) (hl : D (bT (ne_N L m f) q) + bC (ne_N L m f) q < D (bH (ne_N L m f) q)) :
    ng_I L n m f (up D (bH (ne_N L m f) q) (D (bT (ne_N L m f) q) + bC (ne_N L m f) q)) (up P (bH (ne_N L m f) q) (some q)) (up rd (bH (ne_N L m f) q) k) (up t (bH (ne_N L m f) q) (T + 1)) (T + 1) k (q + 1) := by
  obtain ⟨h1, h2, h3⟩ := h
  obtain ⟨k1, k2, k3, k4⟩ := ne_arc (f := f) hK hq
  refine ⟨bf_step h1 hq ho (by have : D (bT (ne_N L m f) q) ≤ 0 := (h1.2.2.1 (bT (ne_N L m f) q)).2.2; omega) hl k3, fun w => ?_, by omega⟩
  by_cases c : w = bH (ne_N L m f) q
  · rw [c, up_at, up_at]
    have := h2 (bT (ne_N L m f) q)
    have := (h1.2.2.1 (bT (ne_N L m f) q)).1
    omega
  · rw [up_ne _ _ c, up_ne _ _ c]; exact h2 w
theorem ng_skip {q : Nat} (h : ng_I L n m f D P rd t T k q) (hs : bf_sat (ne_N L m f) 1 D q) : ng_I L n m f D P rd t T k (q + 1) := ⟨bf_skip h.1 hs, h.2.1, by have := h.2.2; omega⟩
theorem nv_R.put {w : Nat} {a : Nat} {y : Int64} {z : Int} {c : Int32} (hw : nv_R v D P) (hy : y.toInt = -z) (hc : c = rc_c (some a)) : nv_R (gd_sI (gd_sJ v 62 0 w y) 58 0 w c) (up D w z) (up P w (some a)) := by
  intro w' hw'
  by_cases e : w' = w
  · subst e
    rw [up_at, up_at, sI_at]
    refine ⟨?_, hc⟩
    show ((gd_sJ v 62 0 w' y).2.1 62 0 w').toInt = _
    rw [sJ_at]; exact hy
  · rw [up_ne _ _ e, up_ne _ _ e, sI_ne (by omega)]
    show ((gd_sJ v 62 0 w y).2.1 62 0 w').toInt = _ ∧ v.1 58 0 w' = _
    rw [sJ_ne (by omega)]
    exact hw w' hw'
/-- an edge tried one way -/
theorem r_relaxes {q e : Nat} {a2 : Int32} (hq : (q = 2 * e ∧ a2 = 0) ∨ (q = 2 * e + 1 ∧ a2 = 1)) (hK : lp_K L n m) (he : e < m + 2 * n) (hk : k ≤ 10) (hF : ne_Fl L n m f) (hN : nr_R v L m (m + 2 * n) f) (hv : nv_R v D P) (hb : ng_I L n m f D P rd t T k q)
    (h0 : ng_I L n m f D P rd t T k (q + 1) → Q (Sum.inl (some (zI 0))) v)
    (h1 : ∀ v' D' P' rd' t' T', fr (fx [58, 62]) v v' → nv_R v' D' P' → ng_I L n m f D' P' rd' t' T' k (q + 1) → rd' (bH (ne_N L m f) q) = k → Q (Sum.inl (some (zI 1))) v') :
    gd_C g mX11_relaxes d 0 0 [zR 11 0, zI (nI e), zI a2, zR 58 0] v Q := by
  have h8 := hK.1
  have h24 := hK.2.1
  have hq2 : q < 2 * (m + 2 * n) := by omega
  obtain ⟨k1, k2, k3, k4, k5, k6, k7, k8⟩ := ne_ok hK he
  obtain ⟨r1, r2, r3, r4⟩ := ne_arc (f := f) hK hq2
  obtain ⟨n1, n2, n3, n4, n5⟩ := hN.2 e he
  obtain ⟨f1, f2⟩ := hF.1 e he
  have bd : ∀ w, -10000000 ≤ D w ∧ D w ≤ 0 := fun w => by
    have := hb.2.1 w
    have := (hb.1.2.2.1 w).1
    have : D w ≤ 0 := (hb.1.2.2.1 w).2.2
    have := hb.2.2
    omega
  have main : ∀ (a4 s1 : Int64) (c : Int32), c = rc_c (some q) → (a4 = 0 → ¬ bO (ne_N L m f) q) → (¬ a4 = 0 → bO (ne_N L m f) q) → s1.toInt = -(bC (ne_N L m f) q) → -10000 ≤ s1.toInt → s1.toInt ≤ 10000 → (a2 = 0 → nI e + 1 = c) → (¬ a2 = 0 → -(nI e) - 1 = c) → wp_X11_relaxes_97 g d (nI e) a2 a4 (nI (bH (ne_N L m f) q)) (v.2.1 62 0 (bT (ne_N L m f) q)) s1 v Q := by
    intro a4 s1 c hc z0 z1 hs1 sb1 sb2 ca cb
    have no : bf_sat (ne_N L m f) 1 D q → Q (Sum.inl (some (zI 0))) v := fun s => h0 (ng_skip hb s)
    unfold wp_X11_relaxes_97
    rw [nI_clamp (n := bH (ne_N L m f) q) (by omega)]
    refine ⟨fun z => no (fun o _ => absurd o (z0 z)), fun z => ⟨nu_in (by omega) (by omega), ?_⟩⟩
    have hsum := jw_add (hv _ r1).1 hs1 (by have := bd (bT (ne_N L m f) q); omega) (by have := bd (bT (ne_N L m f) q); omega)
    refine jk_lt (hv _ r2).1 hsum (fun hl => ⟨nu_in (by omega) (by omega), ?_⟩) (fun hl => no (fun _ _ => by omega))
    rintro _ rfl
    have st := ng_step hb hK hq2 (z1 z) (by omega)
    have fin : wp_X11_relaxes_148 g d (nI (bH (ne_N L m f) q)) c (gd_sJ v 62 0 (bH (ne_N L m f) q) (v.2.1 62 0 (bT (ne_N L m f) q) + s1)) Q := by
      unfold wp_X11_relaxes_148
      rw [nI_clamp (n := bH (ne_N L m f) q) (by omega)]
      refine ⟨nu_in (by omega) (by omega), ?_⟩
      rintro _ rfl
      exact h1 _ _ _ _ _ _ ((fr.sJ (show 62 ∈ [58, 62] by decide)).tr (fr.sI (show 58 ∈ [58, 62] by decide))) (nv_R.put hv (by rw [hsum]; omega) hc) st (up_at _ _ _)
    exact ⟨fun q => by rw [ca q]; exact fin, fun q => by rw [cb q]; exact fin⟩
  refine c_X11_relaxes (Nat.zero_le _) ?_
  unfold wp_X11_relaxes wp_X11_relaxes_26 wp_X11_relaxes_47 wp_X11_relaxes_68
  rw [nI_clamp (n := e) (by omega), n1, n2]
  rcases hq with ⟨rfl, rfl⟩ | ⟨rfl, rfl⟩
  · refine ⟨fun _ => ⟨nu_in (by omega) (by omega), nu_in (by omega) (by omega), ?_⟩, fun z => absurd rfl z⟩
    rintro _ rfl
    refine ⟨fun _ => ⟨nu_in (by omega) (by omega), ?_⟩, fun z => absurd rfl z⟩
    refine ⟨fun _ => ⟨nu_in (by omega) (by omega), ?_⟩, fun z => absurd rfl z⟩
    refine ⟨nu_in (by omega) (by omega), ⟨fun _ => ⟨nu_in (by omega) (by omega), ?_⟩, fun z => absurd rfl z⟩⟩
    rw [nI_clamp (n := ne_F L m e) (by omega)]
    have hr := jw_sub n3 n4 (by omega) (by omega)
    have M := main (v.2.1 59 0 e - v.2.1 60 0 e) (v.2.1 61 0 e) (nI e + 1) (by show _ = if 2 * e % 2 = 0 then _ else _; rw [if_pos (by omega), show 2 * e / 2 = e by omega]) (fun z o => ?_) (fun z => (ne_e e).2.2.2.mpr ?_) (by rw [n5, (ne_e e).2.2.1]; omega) (by omega) (by omega) (fun _ => rfl) (fun z => absurd rfl z)
    · rw [(ne_e e).1, (ne_e e).2.1] at M
      exact M
    · have := (ne_e e).2.2.2.mp o
      rw [z] at hr
      have z0 : (0 : Int64).toInt = 0 := by decide
      omega
    · by_cases c : f e < ne_R L m e
      · exact c
      · exact absurd (Int64.toInt_inj.mp (by rw [hr]; show _ = (0 : Int); omega)) z
  · refine ⟨fun z => absurd z (by decide), fun _ => ⟨nu_in (by omega) (by omega), ?_⟩⟩
    refine ⟨fun z => absurd z (by decide), fun _ => ⟨nu_in (by omega) (by omega), ?_⟩⟩
    refine ⟨fun z => absurd z (by decide), fun _ => ⟨nu_in (by omega) (by omega), ?_⟩⟩
    refine ⟨nu_in (by omega) (by omega), ⟨fun z => absurd z (by decide), fun _ => ⟨nu_in (by omega) (by omega), ?_⟩⟩⟩
    rw [nI_clamp (n := ne_T L m e) (by omega)]
    have hg := jw_neg n5 (by omega) (by omega)
    have M := main (v.2.1 60 0 e) (-(v.2.1 61 0 e)) (-(nI e) - 1) (by show _ = if (2 * e + 1) % 2 = 0 then _ else _; rw [if_neg (by omega), show (2 * e + 1) / 2 = e by omega]) (fun z o => ?_) (fun z => (ne_o e).2.2.2.mpr ?_) (by rw [hg, (ne_o e).2.2.1]) (by omega) (by omega) (fun z => absurd z (by decide)) (fun _ => rfl)
    · rw [(ne_o e).1, (ne_o e).2.1] at M
      exact M
    · have := (ne_o e).2.2.2.mp o
      rw [z] at n4
      have z0 : (0 : Int64).toInt = 0 := by decide
      omega
    · by_cases c : 0 < f e
      · exact c
      · exact absurd (Int64.toInt_inj.mp (by rw [n4]; show _ = (0 : Int); omega)) z
theorem r_behindOf {w a : Nat} (hK : lp_K L n m) (hN : nr_R v L m (m + 2 * n) f) (hw : w < 9) (hv : v.1 58 0 w = rc_c (some a)) (ha : a < 2 * (m + 2 * n)) (hQ : Q (Sum.inl (some (zI (nI (bT (ne_N L m f) a))))) v) : gd_C g mX11_behindOf d 0 0 [zR 11 0, zI (nI w)] v Q := by
  have h8 := hK.1
  have h24 := hK.2.1
  obtain ⟨n1, n2, n3, n4, n5⟩ := hN.2 (a / 2) (by omega)
  obtain ⟨d1, d2, d3, d4⟩ := rc_d (a / 2) (by omega)
  refine c_X11_behindOf (Nat.zero_le _) ?_
  unfold wp_X11_behindOf
  rw [nI_clamp (n := w) (by omega), hv]
  refine ⟨nu_in (by omega) (by omega), ?_⟩
  rcases mo_2 a with ⟨e, ea⟩ | ⟨e, ea⟩
  · have e1 : rc_c (some a) = nI (a / 2) + 1 := if_pos (by omega)
    have e2 : a / 2 = e := by omega
    rw [e1, d3, nI_clamp (n := a / 2) (by omega)]
    refine ⟨fun z => absurd z d4, fun _ => ⟨nu_in (by omega) (by omega), ?_⟩⟩
    rintro _ rfl
    rw [n1]
    rw [ea, (ne_e e).1, ← e2] at hQ
    exact hQ
  · have e1 : rc_c (some a) = -(nI (a / 2)) - 1 := if_neg (by omega)
    have e2 : a / 2 = e := by omega
    rw [e1, d1, nI_clamp (n := a / 2) (by omega)]
    refine ⟨fun _ => ⟨nu_in (by omega) (by omega), ?_⟩, fun z => absurd d2 z⟩
    rintro _ rfl
    rw [n2]
    rw [ea, (ne_o e).1, ← e2] at hQ
    exact hQ
end RN
