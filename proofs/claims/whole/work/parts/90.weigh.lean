/-! MOST: losses weighed, the class's side -/
abbrev fMw : Nat → Nat → Nat → Prop := fy [(19, 0), (20, 0)]
theorem fMw.wk {v v' : gd_D} (h : fr fMw v v') : fr fMo v v' := h.wk (fun k i j q => by
  have q : (k, i) ∈ [(19, 0), (20, 0)] := q
  show (k, i) ∈ [(16, 0), (17, 0), (18, 0), (19, 0), (20, 0)]
  simp only [List.mem_cons] at q ⊢
  rcases q with q | q | q
  · exact Or.inr (Or.inr (Or.inr (Or.inl q)))
  · exact Or.inr (Or.inr (Or.inr (Or.inr (Or.inl q))))
  · cases q)
section CMW
variable {g : ab_E} {d h : Nat} {v : gd_D} {Q : ab_O → gd_D → Prop} {H : hs_T} {b : Bool} {x p : Nat → Int} {M : Int}
theorem mc_x.w {v' : gd_D} {L : lpT} {m : Nat} (hx : mc_x v L m x) (hf : fr fMw v v') : mc_x v' L m x := fun i hi => by
  rw [hf.I (fun _ => fy_n rfl), hf.I (fun _ => fy_n rfl)]; exact hx i hi
theorem mc_s.w {v' : gd_D} {n : Nat} {f : Nat → Int} (hx : mc_s v n f) (hf : fr fMw v v') : mc_s v' n f := fun i hi => by
  rw [hf.J (fun _ => fy_n rfl)]; exact hx i hi
theorem mc_w.put {n w i a : Nat} {y : Int64} {z : Int} {D : Nat → Int} {P : Nat → Option Nat} (hw : mc_w v n D P) (hy : y.toInt = z) (ha : a / 2 = i) : mc_w (gd_sI (gd_sJ v 19 0 w y) 20 0 w (nI i)) n (up D w z) (up P w (some a)) := by
  intro w' hw'
  by_cases c : w' = w
  · subst c
    rw [up_at, up_at, sI_at]
    refine ⟨?_, by rw [← ha]; rfl⟩
    show ((gd_sJ v 19 0 w' y).2.1 19 0 w').toInt = z
    rw [sJ_at]; exact hy
  · rw [up_ne _ _ c, up_ne _ _ c, sI_ne (by omega)]
    show ((gd_sJ v 19 0 w y).2.1 19 0 w').toInt = D w' ∧ v.1 20 0 w' = _
    rw [sJ_ne (by omega)]
    exact hw w' hw'
theorem k_weigh {i : Nat} {y : Int64} {D : Nat → Int} {P : Nat → Option Nat} {rd t : Nat → Nat} {T k : Nat} (hR : cr_R v h H) (hW : hs_W H) (hi : i < Hh H 1) (hx : mc_x v (mo_L H b) (Hh H 1) x) (hw : mc_w v (Hh H 0) D P) (hI : mo_I (mo_L H b) (Hh H 0) (Hh H 1) x p M) (hb : bf_I (mo_N (mo_L H b) x) (2 * Hh H 1) 1000000000 (mo_D (mo_L H b) (Hh H 1) x) D P rd t T k (2 * i)) (hy : y.toInt = lG (mo_L H b) i)
    (h0 : bf_I (mo_N (mo_L H b) x) (2 * Hh H 1) 1000000000 (mo_D (mo_L H b) (Hh H 1) x) D P rd t T k (2 * (i + 1)) → Q (Sum.inl (some (zI 0))) v)
    (h1 : ∀ v' D' P' rd' t' T', fr fMw v v' → mc_w v' (Hh H 0) D' P' → bf_I (mo_N (mo_L H b) x) (2 * Hh H 1) 1000000000 (mo_D (mo_L H b) (Hh H 1) x) D' P' rd' t' T' k (2 * (i + 1)) → (∃ w, rd' w = k) → Q (Sum.inl (some (zI 1))) v') :
    gd_C g mX3_weigh d 0 0 [zR 3 0, zR 9 (24 * h + i), zI (nI i), zJ y] v Q := by
  have h8 := hW.1
  have h24 := hW.2.1
  have hK := mo_L.ok b hW
  obtain ⟨k1, k2, k3, k4, k5, k6, k7⟩ := hK.2.2.1 i hi
  have e0 : v.1 9 (24 * h + i) 0 = nI (lS (mo_L H b) i) := hR.2.2.2.1 i hi 0 (by decide)
  have e1 : v.1 9 (24 * h + i) 1 = nI (lB (mo_L H b) i) := hR.2.2.2.1 i hi 1 (by decide)
  obtain ⟨x1, x2⟩ := hx i hi
  obtain ⟨ds, cs⟩ := hw _ k1
  obtain ⟨db, cb⟩ := hw _ k2
  have ps := mo_pos hK hI hb k1
  have pb := mo_pos hK hI hb k2
  obtain ⟨m1, m2, m3, m4⟩ := mo_e (L := mo_L H b) (x := x) i
  obtain ⟨o1, o2, o3, o4⟩ := mo_o (L := mo_L H b) (x := x) i
  have kk : (1000000000 : Int64).toInt = 1000000000 := by decide
  have second : bf_I (mo_N (mo_L H b) x) (2 * Hh H 1) 1000000000 (mo_D (mo_L H b) (Hh H 1) x) D P rd t T k (2 * i + 1) → wp_X3_weigh_71 g d (24 * h + i) (nI i) y v Q := by
    intro hb2
    have no : bf_sat (mo_N (mo_L H b) x) 1000000000 D (2 * i + 1) → Q (Sum.inl (some (zI 0))) v := fun q => h0 (bf_skip hb2 q)
    unfold wp_X3_weigh_71
    rw [e0, e1, nI_clamp (n := i) (by omega), nI_clamp (n := lS (mo_L H b) i) (by omega), nI_clamp (n := lB (mo_L H b) i) (by omega)]
    refine ⟨nu_in (by omega) (by omega), nu_in (by omega) (by omega), nu_in (by omega) (by omega), ?_⟩
    refine ik_le x2 x1 (fun q => no (fun o _ => absurd (o4.mp o) (by omega))) (fun q => ?_)
    refine jk_le kk db (fun q2 => no (fun _ c => absurd c (by rw [o1]; omega))) (fun q2 => ?_)
    rintro _ rfl
    have hy2 := jw_sub db hy (by omega) (by omega)
    refine ⟨nu_in (by omega) (by omega), ?_⟩
    refine jk_le ds hy2 (fun q3 => no (fun _ _ => by rw [o1, o2, o3]; omega)) (fun q3 => ?_)
    rintro _ rfl
    refine ⟨nu_in (by omega) (by omega), ?_⟩
    rintro _ rfl
    rw [sJ_I, e0, nI_clamp (n := lS (mo_L H b) i) (by omega)]
    refine ⟨nu_in (by omega) (by omega), ?_⟩
    rintro _ rfl
    have st := bf_step hb2 (by omega) (o4.mpr q) (by rw [o1]; exact q2) (by rw [o1, o2, o3]; omega) (by rw [o1, o2]; exact k3.symm)
    rw [o1, o2, o3] at st
    exact h1 _ _ _ _ _ _ ((fr.sJ (fy_y 0 rfl)).tr (fr.sI (fy_y 1 rfl))) (mc_w.put hw (by rw [hy2]; omega) (by omega)) st ⟨lS (mo_L H b) i, up_at _ _ _⟩
  have no : bf_sat (mo_N (mo_L H b) x) 1000000000 D (2 * i) → wp_X3_weigh_71 g d (24 * h + i) (nI i) y v Q := fun q => second (bf_skip hb q)
  refine c_X3_weigh (Nat.zero_le _) ?_
  unfold wp_X3_weigh
  rw [e0, e1, nI_clamp (n := i) (by omega), nI_clamp (n := lS (mo_L H b) i) (by omega), nI_clamp (n := lB (mo_L H b) i) (by omega)]
  refine ⟨nu_in (by omega) (by omega), nu_in (by omega) (by omega), ?_⟩
  refine ik_le x1 (b := 0) (by decide) (fun q => no (fun o _ => absurd (m4.mp o) (by omega))) (fun q => ?_)
  refine jk_le kk ds (fun q2 => no (fun _ c => absurd c (by rw [m1]; omega))) (fun q2 => ?_)
  rintro _ rfl
  have hy2 := jw_add ds hy (by omega) (by omega)
  refine ⟨nu_in (by omega) (by omega), ?_⟩
  refine jk_le db hy2 (fun q3 => no (fun _ _ => by rw [m1, m2, m3]; omega)) (fun q3 => ?_)
  rintro _ rfl
  refine ⟨nu_in (by omega) (by omega), ?_⟩
  rintro _ rfl
  rw [sJ_I, e1, nI_clamp (n := lB (mo_L H b) i) (by omega)]
  refine ⟨nu_in (by omega) (by omega), ?_⟩
  rintro _ rfl
  have st := bf_step hb (by omega) (m4.mpr q) (by rw [m1]; exact q2) (by rw [m1, m2, m3]; omega) (by rw [m1, m2]; exact k3)
  rw [m1, m2, m3] at st
  refine h1 _ _ _ _ _ _ ((fr.sJ (fy_y 0 rfl)).tr (fr.sI (fy_y 1 rfl))) (mc_w.put hw (by rw [hy2]) (by omega)) (bf_skip st (fun _ _ => ?_)) ⟨lB (mo_L H b) i, up_at _ _ _⟩
  show up D _ _ (bH (mo_N (mo_L H b) x) (2 * i + 1)) ≤ up D _ _ (bT (mo_N (mo_L H b) x) (2 * i + 1)) + bC (mo_N (mo_L H b) x) (2 * i + 1)
  rw [o1, o2, o3, up_at, up_ne _ _ k3]
  omega
theorem k_weighLosses (hd : 3 ≤ d) (hR : cr_R v h H) (hW : hs_W H) (hx : mc_x v (mo_L H b) (Hh H 1) x) (hs : mc_s v (Hh H 0) (lp_sp (mo_L H b) (Hh H 1) x)) (hI : mo_I (mo_L H b) (Hh H 0) (Hh H 1) x p M)
    (hQ : ∀ v' D P t, fr fMw v v' → mc_w v' (Hh H 0) D P → mo_W (mo_L H b) (Hh H 0) (Hh H 1) x D P t → (∀ w, w < Hh H 0 → M ≤ D w + p w) → Q (Sum.inl none) v') :
    gd_C g mX3_weighLosses d 0 0 [zR 3 0, zR 2 h, zI (b2 b)] v Q := by
  have h8 := hW.1
  have h24 := hW.2.1
  have hK := mo_L.ok b hW
  have rounds : ∀ j a4 u D P rd t T, a4 + j = 8 → fr fMw v u → mc_w u (Hh H 0) D P → bf_I (mo_N (mo_L H b) x) (2 * Hh H 1) 1000000000 (mo_D (mo_L H b) (Hh H 1) x) D P rd t T (a4 + 1) 0 → (∀ w, rd w < a4 + 1) → a4 < 8 → gd_G g mX3_weighLosses d 0 0 52 [(0, zR 3 0), (1, zR 2 h), (2, zI (b2 b)), (3, zI 1), (4, zI (nI a4))] [] u Q := by
    intro j
    induction j with
    | zero => intro a4 u D P rd t T e1 _ _ _ _ e2; omega
    | succ j ihj =>
      intro a4 u D P rd t T ha hf hw hb hrd h48
      have scan : ∀ k i u D P rd t T (fl : Bool), i + k = Hh H 1 → fr fMw v u → mc_w u (Hh H 0) D P → bf_I (mo_N (mo_L H b) x) (2 * Hh H 1) 1000000000 (mo_D (mo_L H b) (Hh H 1) x) D P rd t T (a4 + 1) (2 * i) → (fl = false → ∀ w, rd w ≠ a4 + 1) → (fl = true → ∃ w, rd w = a4 + 1) → gd_G g mX3_weighLosses d 0 0 68 [(0, zR 3 0), (1, zR 2 h), (2, zI (b2 b)), (3, zI (b2 fl)), (4, zI (nI a4)), (5, zI (nI i))] [] u Q := by
        intro k
        induction k with
        | zero =>
          intro i u D P rd t T fl hi hf hw hb f0 f1
          have e : i = Hh H 1 := by omega
          subst e
          have hR' := hR.mo hW (fMw.wk hf)
          refine w_X3_weighLosses_68 hd (pk_le (Hh H 1) (Hh H 1) (fun _ => ?_) (fun q => absurd q (Nat.lt_irrefl _)) (hR'.1 1 (by omega)) rfl (by omega) (by omega))
          rw [nu_1]
          cases fl with
          | false =>
            obtain ⟨w1, w2⟩ := mo_done hK hI hb (f0 rfl)
            refine w_X3_weighLosses_52 (Nat.zero_le _) ⟨fun _ => hQ u D P t hf hw w1 w2, fun _ => ⟨fun _ => hQ u D P t hf hw w1 w2, fun q => absurd rfl q⟩⟩
          | true =>
            obtain ⟨w, ew⟩ := f1 rfl
            have r8 := mo_rd hK hI hb w
            exact ihj (a4 + 1) u D P rd t T (by omega) hf hw (bf_next hb) (fun w => by have := (hb.2.2.1 w).2.1; omega) (by omega)
        | succ k ih =>
          intro i u D P rd t T fl hi hf hw hb f0 f1
          have hlt : i < Hh H 1 := by omega
          have hR' := hR.mo hW (fMw.wk hf)
          refine w_X3_weighLosses_68 hd (pk_le (Hh H 1) i (fun q => absurd q (by omega)) (fun _ => ⟨nu_in (by omega) (by omega), nu_in (by omega) (by omega), ?_⟩) (hR'.1 1 (by omega)) rfl (by omega) (by omega))
          rw [nI_clamp (n := i) (by omega)]
          refine k_gain hR' hW hlt (fun y hy => ?_)
          rw [gd_rJ_at]
          refine k_weigh hR' hW hlt (hx.w hf) hw hI hb hy (fun hb' => ?_) (fun v' D' P' rd' t' T' f' w' b' hex => ?_)
          · rw [gd_rI_at, nu_1, show b2 fl ||| 0 = b2 fl by cases fl <;> rfl]
            exact ih (i + 1) u D P rd t T fl (by omega) hf hw hb' f0 f1
          · rw [gd_rI_at, nu_1, show b2 fl ||| 1 = b2 true by cases fl <;> rfl]
            exact ih (i + 1) v' D' P' rd' t' T' true (by omega) (hf.tr f') w' b' (fun q => by cases q) (fun _ => hex)
      refine w_X3_weighLosses_52 (Nat.zero_le _) (pk_le 8 a4 (fun q => absurd q (by omega)) (fun _ => ⟨fun q => absurd q (by decide), fun _ => ?_⟩) rfl rfl (by omega) (by omega))
      exact scan (Hh H 1) 0 u D P rd t T false (by omega) hf hw hb (fun _ w => by have := hrd w; omega) (fun q => by cases q)
  have init : ∀ k i u, i + k = Hh H 0 → fr fMw v u → mc_w u i (mo_D (mo_L H b) (Hh H 1) x) (fun _ => none) → gd_G g mX3_weighLosses d 0 0 2 [(0, zR 3 0), (1, zR 2 h), (2, zI (b2 b)), (3, zI (nI i))] [] u Q := by
    intro k
    induction k with
    | zero =>
      intro i u hi hf hw
      have e : i = Hh H 0 := by omega
      subst e
      have hR' := hR.mo hW (fMw.wk hf)
      exact w_X3_weighLosses_2 (Nat.zero_le _) (pk_le (Hh H 0) (Hh H 0) (fun _ => rounds 8 0 u _ _ _ _ _ (by omega) hf hw bf_zero (fun _ => Nat.zero_lt_one) (by omega)) (fun q => absurd q (Nat.lt_irrefl _)) (hR'.1 0 (by omega)) rfl (by omega) (by omega))
    | succ k ih =>
      intro i u hi hf hw
      have hlt : i < Hh H 0 := by omega
      have hR' := hR.mo hW (fMw.wk hf)
      have fin : ∀ y : Int64, y.toInt = mo_D (mo_L H b) (Hh H 1) x i → wp_X3_weighLosses_33 g d h (b2 b) (nI i) (nI i) y u Q := by
        intro y hy
        unfold wp_X3_weighLosses_33
        rw [nI_clamp (n := i) (by omega), nu_1]
        refine ⟨nu_in (by omega) (by omega), ?_⟩
        rintro _ rfl
        refine ⟨nu_in (by omega) (by omega), ?_⟩
        rintro _ rfl
        refine ih (i + 1) _ (by omega) (hf.tr ((fr.sJ (fy_y 0 rfl)).tr (fr.sI (fy_y 1 rfl)))) (fun w hw' => ?_)
        by_cases c : w = i
        · subst c
          refine ⟨?_, sI_at⟩
          show ((gd_sJ u 19 0 w y).2.1 19 0 w).toInt = _
          rw [sJ_at]; exact hy
        · rw [sI_ne (by omega)]
          show ((gd_sJ u 19 0 i y).2.1 19 0 w).toInt = _ ∧ u.1 20 0 w = _
          rw [sJ_ne (by omega)]
          exact hw w (by omega)
      refine w_X3_weighLosses_2 (Nat.zero_le _) (pk_le (Hh H 0) i (fun q => absurd q (by omega)) (fun _ => ⟨nu_in (by omega) (by omega), ?_⟩) (hR'.1 0 (by omega)) rfl (by omega) (by omega))
      rw [nI_clamp (n := i) (by omega)]
      refine jk_le (a := 0) (by decide) ((hs.w hf) i hlt) (fun q => fin _ ?_) (fun q => fin _ ?_)
      · unfold mo_D; rw [if_neg (by omega)]; decide
      · unfold mo_D; rw [if_pos q]; decide
  exact c_X3_weighLosses (Nat.zero_le _) (init (Hh H 0) 0 v (by omega) fr.rf (fun w hw => absurd hw (by omega)))
theorem k_cheapestEnd {D : Nat → Int} {P : Nat → Option Nat} {f : Nat → Int} (hR : cr_R v h H) (hW : hs_W H) (hs : mc_s v (Hh H 0) f) (hw : mc_w v (Hh H 0) D P) (h0 : (∀ d, d < Hh H 0 → 0 < f d → 1000000000 ≤ D d) → Q (Sum.inl (some (zI (-1)))) v) (h1 : ∀ e, e < Hh H 0 → 0 < f e → D e < 1000000000 → (∀ d, d < Hh H 0 → 0 < f d → D e ≤ D d) → Q (Sum.inl (some (zI (nI e)))) v) : gd_C g mX3_cheapestEnd d 0 0 [zR 3 0, zR 2 h] v Q := by
  have h8 := hW.1
  have kk : (1000000000 : Int64).toInt = 1000000000 := by decide
  have loop : ∀ k i (o : Option Nat), i + k = Hh H 0 → (o = none → ∀ d, d < i → 0 < f d → 1000000000 ≤ D d) → (∀ e, o = some e → e < Hh H 0 ∧ 0 < f e ∧ D e < 1000000000 ∧ ∀ d, d < i → 0 < f d → D e ≤ D d) → gd_G g mX3_cheapestEnd d 0 0 4 [(0, zR 3 0), (1, zR 2 h), (2, zI (oi o)), (3, zI (nI i))] [] v Q := by
    intro k
    induction k with
    | zero =>
      intro i o hi f0 f1
      have e : i = Hh H 0 := by omega
      subst e
      refine w_X3_cheapestEnd_4 (Nat.zero_le _) (pk_le (Hh H 0) (Hh H 0) (fun _ => ?_) (fun q => absurd q (Nat.lt_irrefl _)) (hR.1 0 (by omega)) rfl (by omega) (by omega))
      cases o with
      | none => exact h0 (f0 rfl)
      | some e =>
        obtain ⟨a1, a2, a3, a4⟩ := f1 e rfl
        exact h1 e a1 a2 a3 a4
    | succ k ih =>
      intro i o hi f0 f1
      have hlt : i < Hh H 0 := by omega
      have skip : (0 < f i → (o = none → 1000000000 ≤ D i) ∧ ∀ e, o = some e → D e ≤ D i) → gd_G g mX3_cheapestEnd d 0 0 4 [(0, zR 3 0), (1, zR 2 h), (2, zI (oi o)), (3, zI (nI (i + 1)))] [] v Q := by
        intro hsk
        refine ih (i + 1) o (by omega) (fun q d' hd' hp => ?_) (fun e q => ?_)
        · by_cases c : d' = i
          · subst c; exact (hsk hp).1 q
          · exact f0 q d' (by omega) hp
        · obtain ⟨a1, a2, a3, a4⟩ := f1 e q
          refine ⟨a1, a2, a3, fun d' hd' hp => ?_⟩
          by_cases c : d' = i
          · subst c; exact (hsk hp).2 e q
          · exact a4 d' (by omega) hp
      have take : 0 < f i → D i < 1000000000 → (∀ e, o = some e → D i < D e) → wp_X3_cheapestEnd_57 g d h (nI i) v Q := by
        intro t1 t2 t3
        unfold wp_X3_cheapestEnd_57
        rw [nu_1]
        refine ih (i + 1) (some i) (by omega) (fun q => by cases q) (fun e q => ?_)
        cases q
        refine ⟨hlt, t1, t2, fun d' hd' hp => ?_⟩
        by_cases c : d' = i
        · subst c; exact Int.le_refl _
        · cases o with
          | none => have := f0 rfl d' (by omega) hp; omega
          | some e' => have := (f1 e' rfl).2.2.2 d' (by omega) hp; have := t3 e' rfl; omega
      refine w_X3_cheapestEnd_4 (Nat.zero_le _) (pk_le (Hh H 0) i (fun q => absurd q (by omega)) (fun _ => ⟨nu_in (by omega) (by omega), ?_⟩) (hR.1 0 (by omega)) rfl (by omega) (by omega))
      rw [nI_clamp (n := i) (by omega), nu_1]
      refine jk_le (hs i hlt) (b := 0) (by decide) (fun q => skip (fun c => absurd c (by omega))) (fun q => ⟨nu_in (by omega) (by omega), ?_⟩)
      refine jk_le kk (hw i hlt).1 (fun q2 => skip (fun c => ⟨fun _ => q2, fun e qe => by have := (f1 e qe).2.2.1; omega⟩)) (fun q2 => ?_)
      cases o with
      | none => exact ⟨fun _ => take q q2 (fun e qe => by cases qe), fun qq => absurd rfl qq⟩
      | some e =>
        obtain ⟨a1, a2, a3, a4⟩ := f1 e rfl
        refine ⟨fun qq => absurd qq (nu_m1 (by omega)), fun _ => ⟨nu_in (by omega) (by omega), nu_in (by omega) (by omega), ?_⟩⟩
        have eo : (oi (some e)).toNatClampNeg = e := nI_clamp (by omega)
        rw [eo]
        exact jk_le (hw e a1).1 (hw i hlt).1 (fun q3 => skip (fun c => ⟨fun z => (by cases z), fun e' qe => by cases qe; exact q3⟩)) (fun q3 => take q q2 (fun e' qe => by cases qe; exact q3))
  exact c_X3_cheapestEnd (Nat.zero_le _) (loop (Hh H 0) 0 none (by omega) (fun _ d' hd' => absurd hd' (by omega)) (fun e q => by cases q))
end CMW
